def X8_gone_L39 (M : Mem) (x1 : Int32) (x2 : Int32) (x3 : Int32) : Int64 × Int32 → Option ((Int64 × Int32) ⊕ (Int64))
  | (x4, x6) =>
    if x2 ≤ x6 then some (.inr x4)
    else lett (x4 * 12) fun x_3 => lett (x6 + 1) fun x_5 => some (.inl (x_3, x_5))
def F_X8_gone (M : Mem) (x1 : Int32) (x2 : Int32) (x3 : Int32) : Option (Int32 × Mem) :=
 bd1 (F_X2_has M x1) fun r_1 => if r_1 = 0 then some ((-1), M)
 else if x2 < 0 then some ((-1), M)
 else if (nI 8) < x2 then some ((-1), M)
 else if x3 < 0 then some ((-1), M)
 else if x3 ≤ (nI 12) then bd1 (loop (X8_gone_L39 M x1 x2 x3) FU (1, 0)) fun x_7 => bd1 (F_X1_depthAt M 9 x1) fun r_8 => bd1 (F_X8_waysToVanish 12 r_8 x2 x3) fun r_10 => bd2 (F_X8_tellFraction M r_10 x_7) fun r_12 M_13 => some (r_12, M_13)
 else some ((-1), M)
set_option maxRecDepth 100000 in
set_option maxHeartbeats 4000000 in
theorem s_X8_gone_L39 (lw : Nat → Option Nat) (tl : Option Nat) (tt : Option Nat) (M : Mem) (x1 : Int32) (x2 : Int32) (x3 : Int32) (x4 : Int64) (x6 : Int32) {Po : Po_} (x : (Int64 × Int32) ⊕ (Int64)) (h : X8_gone_L39 M x1 x2 x3 (x4, x6) = some x) (hI : ∀ (ix4 : Int64) (ix6 : Int32), x = .inl (ix4, ix6) → T RX8 cX8_gone 7 (some .int) 0 14 0 0 false Po 39 [aR (some 0), aI x1, aI x2, aI x3, aJ ix4, aU, aI ix6] [] LAYC (rfs lw tl tt) M 0 0) (hE0 : ∀ (e4 : Int64), x = .inr e4 → T RX8 cX8_gone 7 (some .int) 0 14 0 0 false Po 59 [aR (some 0), aI x1, aI x2, aI x3, aJ e4, aU, aU] [] LAYC (rfs lw tl tt) M 0 0) : T RX8 cX8_gone 7 (some .int) 0 14 0 0 false Po 39 [aR (some 0), aI x1, aI x2, aI x3, aJ x4, aU, aI x6] [] LAYC (rfs lw tl tt) M 0 0 := by
  unfold X8_gone_L39 at h
  simp only at h
  refine T_iload dX8_gone_39 rfl ?_
  refine T_iload_n dX8_gone_41 rfl ?_
  refine T_icmp_ge (tgt := 59) dX8_gone_42 (by decide) (fun hc => ?_) (fun hc => ?_)
  · have h := it_pos hc h
    obtain rfl := sm1 h
    refine T_mask [true, true, true, true, true, true, false] rfl ?_
    exact hE0 _ rfl
  · have h := it_neg hc h
    refine T_lload dX8_gone_45 rfl ?_
    refine T_ldc2 dX8_gone_47 kl_X8_333 ?_
    refine T_lmul dX8_gone_50 ?_
    obtain ⟨x_3, ex_4, h⟩ := lett_some h
    refine T_topJ ex_4 ?_
    refine T_lstore (i := 4) (L' := [aR (some 0), aI x1, aI x2, aI x3, aJ x_3, aU, aI x6]) dX8_gone_51 (Nat.le_of_ble_eq_true rfl) rfl ?_
    obtain ⟨x_5, ex_6, h⟩ := lett_some h
    refine T_iinc (L' := [aR (some 0), aI x1, aI x2, aI x3, aJ x_3, aU, aI x_5]) dX8_gone_53 rfl (ic_inc ic_1 ex_6) (Nat.le_of_ble_eq_true rfl) rfl ?_
    refine T_goto (tgt := 39) dX8_gone_56 (by decide) ?_
    obtain rfl := sm1 h
    exact hI _ _ rfl
set_option maxRecDepth 100000 in
set_option maxHeartbeats 4000000 in
theorem l_X8_gone_L39 (lw : Nat → Option Nat) (tl : Option Nat) (tt : Option Nat) (M : Mem) (x1 : Int32) (x2 : Int32) (x3 : Int32) {Po : Po_} (e4 : Int64) : ∀ (k : Nat) (x4 : Int64) (x6 : Int32), loop (X8_gone_L39 M x1 x2 x3) k (x4, x6) = some e4 → (T RX8 cX8_gone 7 (some .int) 0 14 0 0 false Po 59 [aR (some 0), aI x1, aI x2, aI x3, aJ e4, aU, aU] [] LAYC (rfs lw tl tt) M 0 0) → T RX8 cX8_gone 7 (some .int) 0 14 0 0 false Po 39 [aR (some 0), aI x1, aI x2, aI x3, aJ x4, aU, aI x6] [] LAYC (rfs lw tl tt) M 0 0 := by
  intro k
  induction k with
  | zero => intro x4 x6 h; cases h
  | succ k ih =>
    intro x4 x6 h hE
    obtain ⟨x, hx, hx1, hx2⟩ := loop_succ h
    exact s_X8_gone_L39  lw tl tt M x1 x2 x3  x4 x6 x hx (fun q0 q1 e => ih q0 q1 (hx1 _ e) hE) (fun q0 e => by cases hx2 _ e; exact hE)
set_option maxRecDepth 100000 in
set_option maxHeartbeats 4000000 in
theorem m_X8_gone (lw : Nat → Option Nat) (tl : Option Nat) (tt : Option Nat) (M : Mem) (x1 : Int32) (x2 : Int32) (x3 : Int32) (r : Int32) (M' : Mem) (h : F_X8_gone M x1 x2 x3 = some (r, M')) : Cal yX8_gone cX8_gone 7 (some .int) 0 14 0 0 false [vR (some 0), vI x1, vI x2, vI x3] LAYC (rfs lw tl tt) M (eqp (vI r) LAYC (rfs lw tl tt) M') := by
  refine Cal.of (by decide +kernel) (Nat.le_of_ble_eq_true rfl) (fun h => by cases h) ?_
  unfold F_X8_gone at h
  show T RX8 cX8_gone 7 (some .int) 0 14 0 0 false (eqp (vI r) LAYC (rfs lw tl tt) M') 0 [aR (some 0), aI x1, aI x2, aI x3, aU, aU, aU] [] LAYC (rfs lw tl tt) M 0 0
  refine T_aload_n dX8_gone_0 rfl ?_
  refine T_getR dX8_gone_1 clOK_X8 fl_X8_28 lyC_0 rfl rfl ?_
  refine T_iload_n dX8_gone_4 rfl ?_
  obtain ⟨r_1, hc_2, h⟩ := bd1_some h
  refine T_cvi (as := [vI x1]) dX8_gone_5 cw_X2_has ml_X8_167 mi_X2_has se_X2_has lyC_7 rfl (by decide) rfl (Nat.le_of_ble_eq_true rfl) (Nat.le_of_ble_eq_true rfl) (m_X2_has lw tl tt M x1  _ hc_2) ?_
  refine T_if_eq (tgt := 31) dX8_gone_8 (by decide) (fun hc => ?_) (fun hc => ?_)
  · have h := it_pos hc h
    refine T_iconst dX8_gone_31 ic_m1 ?_
    obtain ⟨rfl, rfl⟩ := sm2 h
    exact T_iret dX8_gone_32 ⟨rfl, rfl, rfl, rfl⟩
  · have h := it_neg hc h
    refine T_iload_n dX8_gone_11 rfl ?_
    refine T_if_lt (tgt := 31) dX8_gone_12 (by decide) (fun hc => ?_) (fun hc => ?_)
    · have h := it_pos hc h
      refine T_iconst dX8_gone_31 ic_m1 ?_
      obtain ⟨rfl, rfl⟩ := sm2 h
      exact T_iret dX8_gone_32 ⟨rfl, rfl, rfl, rfl⟩
    · have h := it_neg hc h
      refine T_iload_n dX8_gone_15 rfl ?_
      refine T_bipush dX8_gone_16 bp_8 ?_
      refine T_icmp_gt (tgt := 31) dX8_gone_18 (by decide) (fun hc => ?_) (fun hc => ?_)
      · have h := it_pos hc h
        refine T_iconst dX8_gone_31 ic_m1 ?_
        obtain ⟨rfl, rfl⟩ := sm2 h
        exact T_iret dX8_gone_32 ⟨rfl, rfl, rfl, rfl⟩
      · have h := it_neg hc h
        refine T_iload_n dX8_gone_21 rfl ?_
        refine T_if_lt (tgt := 31) dX8_gone_22 (by decide) (fun hc => ?_) (fun hc => ?_)
        · have h := it_pos hc h
          refine T_iconst dX8_gone_31 ic_m1 ?_
          obtain ⟨rfl, rfl⟩ := sm2 h
          exact T_iret dX8_gone_32 ⟨rfl, rfl, rfl, rfl⟩
        · have h := it_neg hc h
          refine T_iload_n dX8_gone_25 rfl ?_
          refine T_bipush dX8_gone_26 bp_12 ?_
          refine T_icmp_le (tgt := 33) dX8_gone_28 (by decide) (fun hc => ?_) (fun hc => ?_)
          · have h := it_pos hc h
            refine T_lconst dX8_gone_33 lc_1 ?_
            refine T_lstore (i := 4) (L' := [aR (some 0), aI x1, aI x2, aI x3, aJ 1, aU, aU]) dX8_gone_34 (Nat.le_of_ble_eq_true rfl) rfl ?_
            refine T_iconst dX8_gone_36 ic_0 ?_
            refine T_istore (i := 6) (L' := [aR (some 0), aI x1, aI x2, aI x3, aJ 1, aU, aI 0]) dX8_gone_37 (Nat.le_of_ble_eq_true rfl) rfl ?_
            obtain ⟨x_7, hl, h⟩ := bd1_some h
            refine l_X8_gone_L39  lw tl tt M x1 x2 x3  _ FU 1 0 hl ?_
            refine T_aload_n dX8_gone_59 rfl ?_
            refine T_aload_n dX8_gone_60 rfl ?_
            refine T_getR dX8_gone_61 clOK_X8 fl_X8_37 lyC_0 rfl rfl ?_
            refine T_iload_n dX8_gone_64 rfl ?_
            obtain ⟨r_8, hc_9, h⟩ := bd1_some h
            refine T_cvi (as := [vI x1]) dX8_gone_65 cw_X1_depthAt ml_X8_203 mi_X1_depthAt se_X1_depthAt lyC_9 rfl (by decide) rfl (Nat.le_of_ble_eq_true rfl) (Nat.le_of_ble_eq_true rfl) (m_X1_depthAt lw tl tt M 9 x1 rfl _ hc_9) ?_
            refine T_iload_n dX8_gone_68 rfl ?_
            refine T_iload_n dX8_gone_69 rfl ?_
            obtain ⟨r_10, hc_11, h⟩ := bd1_some h
            refine T_csl (as := [vI r_8, vI x2, vI x3]) dX8_gone_70 cw_X8_waysToVanish ml_X8_335 mt_X8_waysToVanish rfl (Nat.le_of_ble_eq_true rfl) (by omega) (m_X8_waysToVanish 12 lw tl tt M r_8 x2 x3  _ hc_11) ?_
            refine T_lload dX8_gone_73 rfl ?_
            obtain ⟨r_12, M_13, hc_14, h⟩ := bd2_some h
            refine T_cvi (as := [vJ r_10, vJ x_7]) dX8_gone_75 cw_X8_tellFraction ml_X8_306 mi_X8_tellFraction se_X8_tellFraction lyC_0 rfl (by decide) rfl (Nat.le_of_ble_eq_true rfl) (Nat.le_of_ble_eq_true rfl) (m_X8_tellFraction lw tl tt M r_10 x_7  _ _ hc_14) ?_
            obtain ⟨rfl, rfl⟩ := sm2 h
            exact T_iret dX8_gone_78 ⟨rfl, rfl, rfl, rfl⟩
          · have h := it_neg hc h
            refine T_iconst dX8_gone_31 ic_m1 ?_
            obtain ⟨rfl, rfl⟩ := sm2 h
            exact T_iret dX8_gone_32 ⟨rfl, rfl, rfl, rfl⟩
def F_X8_asked (M : Mem) : Option (Int32) :=
 some (gI M 0 12)
set_option maxRecDepth 100000 in
set_option maxHeartbeats 4000000 in
theorem m_X8_asked (lw : Nat → Option Nat) (tl : Option Nat) (tt : Option Nat) (M : Mem) (r : Int32) (h : F_X8_asked M = some r) : Cal yX8_asked cX8_asked 1 (some .int) 0 1 0 0 false [vR (some 0)] LAYC (rfs lw tl tt) M (eqp (vI r) LAYC (rfs lw tl tt) M) := by
  refine Cal.of (by decide +kernel) (Nat.le_of_ble_eq_true rfl) (fun h => by cases h) ?_
  unfold F_X8_asked at h
  show T RX8 cX8_asked 1 (some .int) 0 1 0 0 false (eqp (vI r) LAYC (rfs lw tl tt) M) 0 [aR (some 0)] [] LAYC (rfs lw tl tt) M 0 0
  refine T_aload_n dX8_asked_0 rfl ?_
  refine T_getI dX8_asked_1 clOK_X8 fl_X8_107 lyC_0 rfl ?_
  obtain rfl := sm1 h
  exact T_iret dX8_asked_4 ⟨rfl, rfl, rfl, rfl⟩
def F_X8_upper (M : Mem) : Option (Int64) :=
 some (gJ M 0 13)
set_option maxRecDepth 100000 in
set_option maxHeartbeats 4000000 in
theorem m_X8_upper (lw : Nat → Option Nat) (tl : Option Nat) (tt : Option Nat) (M : Mem) (r : Int64) (h : F_X8_upper M = some r) : Cal yX8_upper cX8_upper 1 (some .long) 1 1 0 0 false [vR (some 0)] LAYC (rfs lw tl tt) M (eqp (vJ r) LAYC (rfs lw tl tt) M) := by
  refine Cal.of (by decide +kernel) (Nat.le_of_ble_eq_true rfl) (fun h => by cases h) ?_
  unfold F_X8_upper at h
  show T RX8 cX8_upper 1 (some .long) 1 1 0 0 false (eqp (vJ r) LAYC (rfs lw tl tt) M) 0 [aR (some 0)] [] LAYC (rfs lw tl tt) M 0 0
  refine T_aload_n dX8_upper_0 rfl ?_
  refine T_getJ dX8_upper_1 clOK_X8 fl_X8_339 lyC_0 rfl ?_
  obtain rfl := sm1 h
  exact T_lret dX8_upper_4 ⟨rfl, rfl, rfl, rfl⟩
def F_X8_lower (M : Mem) : Option (Int64) :=
 some (gJ M 0 14)
set_option maxRecDepth 100000 in
set_option maxHeartbeats 4000000 in
theorem m_X8_lower (lw : Nat → Option Nat) (tl : Option Nat) (tt : Option Nat) (M : Mem) (r : Int64) (h : F_X8_lower M = some r) : Cal yX8_lower cX8_lower 1 (some .long) 1 1 0 0 false [vR (some 0)] LAYC (rfs lw tl tt) M (eqp (vJ r) LAYC (rfs lw tl tt) M) := by
  refine Cal.of (by decide +kernel) (Nat.le_of_ble_eq_true rfl) (fun h => by cases h) ?_
  unfold F_X8_lower at h
  show T RX8 cX8_lower 1 (some .long) 1 1 0 0 false (eqp (vJ r) LAYC (rfs lw tl tt) M) 0 [aR (some 0)] [] LAYC (rfs lw tl tt) M 0 0
  refine T_aload_n dX8_lower_0 rfl ?_
  refine T_getJ dX8_lower_1 clOK_X8 fl_X8_75 lyC_0 rfl ?_
  obtain rfl := sm1 h
  exact T_lret dX8_lower_4 ⟨rfl, rfl, rfl, rfl⟩
def X8_imagesThere_L4 (M : Mem) : Int32 × Int32 → Option ((Int32 × Int32) ⊕ (Int32))
  | (x1, x2) =>
    if (nI 3) ≤ x2 then some (.inr x1)
    else chk (inb x2 3 = true) (lett (finC 12 x2.toNatClampNeg) fun o_2 => oc o_2 none (fun q_4 => chk (isX1 q_4 = true) (if (gI M q_4 7) = 0 then lett (x2 + 1) fun x_6 => some (.inl (x1, x_6))
    else lett (x1 + 1) fun x_8 => lett (x2 + 1) fun x_10 => some (.inl (x_8, x_10)))))
def F_X8_imagesThere (M : Mem) : Option (Int32) :=
 loop (X8_imagesThere_L4 M) FU (0, 0)
set_option maxRecDepth 100000 in
set_option maxHeartbeats 4000000 in
theorem s_X8_imagesThere_L4 (lw : Nat → Option Nat) (tl : Option Nat) (tt : Option Nat) (M : Mem) (x1 : Int32) (x2 : Int32) {Po : Po_} (x : (Int32 × Int32) ⊕ (Int32)) (h : X8_imagesThere_L4 M (x1, x2) = some x) (hI : ∀ (ix1 : Int32) (ix2 : Int32), x = .inl (ix1, ix2) → T RX8 cX8_imagesThere 3 (some .int) 0 1 0 0 false Po 4 [aR (some 0), aI ix1, aI ix2] [] LAYC (rfs lw tl tt) M 0 0) (hE0 : ∀ (er : Int32), x = .inr er → Po (vI er) LAYC (rfs lw tl tt) M) : T RX8 cX8_imagesThere 3 (some .int) 0 1 0 0 false Po 4 [aR (some 0), aI x1, aI x2] [] LAYC (rfs lw tl tt) M 0 0 := by
  unfold X8_imagesThere_L4 at h
  simp only at h
  refine T_iload_n dX8_imagesThere_4 rfl ?_
  refine T_aload_n dX8_imagesThere_5 rfl ?_
  refine T_getR dX8_imagesThere_6 clOK_X8 fl_X8_41 lyC_0 rfl rfl ?_
  refine T_alen dX8_imagesThere_9 lyC_12 (Or.inr (Or.inr (Or.inl rfl))) rfl ?_
  refine T_icmp_ge (tgt := 34) dX8_imagesThere_10 (by decide) (fun hc => ?_) (fun hc => ?_)
  · have h := it_pos hc h
    refine T_iload_n dX8_imagesThere_34 rfl ?_
    obtain rfl := sm1 h
    exact T_iret dX8_imagesThere_35 (hE0 _ rfl)
  · have h := it_neg hc h
    refine T_aload_n dX8_imagesThere_13 rfl ?_
    refine T_getR dX8_imagesThere_14 clOK_X8 fl_X8_41 lyC_0 rfl rfl ?_
    refine T_iload_n dX8_imagesThere_17 rfl ?_
    obtain ⟨hi_1, h⟩ := chk_some h
    obtain ⟨o_2, eo_3, h⟩ := lett_some h
    refine T_aald dX8_imagesThere_18 lyC_12 (Or.inl rfl) (inb_in hi_1) (Eq.symm eo_3) ?_
    cases o_2 with
    | none => exact absurd (oc_none h) (fun e => by cases e)
    | some q_4 =>
      have h := oc_some h
      obtain ⟨hf_5, h⟩ := chk_some h
      refine T_getZ dX8_imagesThere_19 clOK_X1 fl_X8_210 (lyX1 hf_5) rfl ?_
      refine T_if_eq (tgt := 28) dX8_imagesThere_22 (by decide) (fun hc => ?_) (fun hc => ?_)
      · have h := it_pos hc h
        obtain ⟨x_6, ex_7, h⟩ := lett_some h
        refine T_iinc (L' := [aR (some 0), aI x1, aI x_6]) dX8_imagesThere_28 rfl (ic_inc ic_1 ex_7) (Nat.le_of_ble_eq_true rfl) rfl ?_
        refine T_goto (tgt := 4) dX8_imagesThere_31 (by decide) ?_
        obtain rfl := sm1 h
        exact hI _ _ rfl
      · have h := it_neg hc h
        obtain ⟨x_8, ex_9, h⟩ := lett_some h
        refine T_iinc (L' := [aR (some 0), aI x_8, aI x2]) dX8_imagesThere_25 rfl (ic_inc ic_1 ex_9) (Nat.le_of_ble_eq_true rfl) rfl ?_
        obtain ⟨x_10, ex_11, h⟩ := lett_some h
        refine T_iinc (L' := [aR (some 0), aI x_8, aI x_10]) dX8_imagesThere_28 rfl (ic_inc ic_1 ex_11) (Nat.le_of_ble_eq_true rfl) rfl ?_
        refine T_goto (tgt := 4) dX8_imagesThere_31 (by decide) ?_
        obtain rfl := sm1 h
        exact hI _ _ rfl
set_option maxRecDepth 100000 in
set_option maxHeartbeats 4000000 in
theorem l_X8_imagesThere_L4 (lw : Nat → Option Nat) (tl : Option Nat) (tt : Option Nat) (M : Mem) {Po : Po_} (er : Int32) : ∀ (k : Nat) (x1 : Int32) (x2 : Int32), loop (X8_imagesThere_L4 M) k (x1, x2) = some er → (Po (vI er) LAYC (rfs lw tl tt) M) → T RX8 cX8_imagesThere 3 (some .int) 0 1 0 0 false Po 4 [aR (some 0), aI x1, aI x2] [] LAYC (rfs lw tl tt) M 0 0 := by
  intro k
  induction k with
  | zero => intro x1 x2 h; cases h
  | succ k ih =>
    intro x1 x2 h hE
    obtain ⟨x, hx, hx1, hx2⟩ := loop_succ h
    exact s_X8_imagesThere_L4  lw tl tt M  x1 x2 x hx (fun q0 q1 e => ih q0 q1 (hx1 _ e) hE) (fun q0 e => by cases hx2 _ e; exact hE)
set_option maxRecDepth 100000 in
set_option maxHeartbeats 4000000 in
theorem m_X8_imagesThere (lw : Nat → Option Nat) (tl : Option Nat) (tt : Option Nat) (M : Mem) (r : Int32) (h : F_X8_imagesThere M = some r) : Cal yX8_imagesThere cX8_imagesThere 3 (some .int) 0 1 0 0 false [vR (some 0)] LAYC (rfs lw tl tt) M (eqp (vI r) LAYC (rfs lw tl tt) M) := by
  refine Cal.of (by decide +kernel) (Nat.le_of_ble_eq_true rfl) (fun h => by cases h) ?_
  unfold F_X8_imagesThere at h
  show T RX8 cX8_imagesThere 3 (some .int) 0 1 0 0 false (eqp (vI r) LAYC (rfs lw tl tt) M) 0 [aR (some 0), aU, aU] [] LAYC (rfs lw tl tt) M 0 0
  refine T_iconst dX8_imagesThere_0 ic_0 ?_
  refine T_istore_n (i := 1) (L' := [aR (some 0), aI 0, aU]) dX8_imagesThere_1 rfl (Nat.le_of_ble_eq_true rfl) rfl ?_
  refine T_iconst dX8_imagesThere_2 ic_0 ?_
  refine T_istore_n (i := 2) (L' := [aR (some 0), aI 0, aI 0]) dX8_imagesThere_3 rfl (Nat.le_of_ble_eq_true rfl) rfl ?_
  exact l_X8_imagesThere_L4  lw tl tt M  _ FU 0 0 h ⟨rfl, rfl, rfl, rfl⟩
def X8_rimLaws_L4 (lw : Nat → Option Nat) (M : Mem) : Int32 × Int32 → Option ((Int32 × Int32) ⊕ (Int32))
  | (x1, x2) =>
    if (gI M 0 8) ≤ x2 then some (.inr x1)
    else bd1 (F_X8_lawOf lw M x2) fun o_1 => oc o_1 (lett (x2 + 1) fun x_4 => some (.inl (x1, x_4)))
    (fun q_3 => chk (isX3 q_3 = true) (bd1 (F_X3_is M q_3 1) fun r_7 => if r_7 = 0 then lett (x2 + 1) fun x_9 => some (.inl (x1, x_9))
    else lett (x1 + 1) fun x_11 => lett (x2 + 1) fun x_13 => some (.inl (x_11, x_13))))
def F_X8_rimLaws (lw : Nat → Option Nat) (M : Mem) : Option (Int32) :=
 loop (X8_rimLaws_L4 lw M) FU (0, 0)
set_option maxRecDepth 100000 in
set_option maxHeartbeats 4000000 in
theorem s_X8_rimLaws_L4 (tl : Option Nat) (tt : Option Nat) (lw : Nat → Option Nat) (M : Mem) (x1 : Int32) (x2 : Int32) {Po : Po_} (x : (Int32 × Int32) ⊕ (Int32)) (h : X8_rimLaws_L4 lw M (x1, x2) = some x) (hI : ∀ (ix1 : Int32) (ix2 : Int32), x = .inl (ix1, ix2) → T RX8 cX8_rimLaws 4 (some .int) 0 2 0 0 false Po 4 [aR (some 0), aI ix1, aI ix2, aU] [] LAYC (rfs lw tl tt) M 0 0) (hE0 : ∀ (er : Int32), x = .inr er → Po (vI er) LAYC (rfs lw tl tt) M) : T RX8 cX8_rimLaws 4 (some .int) 0 2 0 0 false Po 4 [aR (some 0), aI x1, aI x2, aU] [] LAYC (rfs lw tl tt) M 0 0 := by
  unfold X8_rimLaws_L4 at h
  simp only at h
  refine T_iload_n dX8_rimLaws_4 rfl ?_
  refine T_aload_n dX8_rimLaws_5 rfl ?_
  refine T_getI dX8_rimLaws_6 clOK_X8 fl_X8_246 lyC_0 rfl ?_
  refine T_icmp_ge (tgt := 39) dX8_rimLaws_9 (by decide) (fun hc => ?_) (fun hc => ?_)
  · have h := it_pos hc h
    refine T_iload_n dX8_rimLaws_39 rfl ?_
    obtain rfl := sm1 h
    exact T_iret dX8_rimLaws_40 (hE0 _ rfl)
  · have h := it_neg hc h
    refine T_aload_n dX8_rimLaws_12 rfl ?_
    refine T_iload_n dX8_rimLaws_13 rfl ?_
    obtain ⟨o_1, hc_2, h⟩ := bd1_some h
    refine T_cvq (as := [vI x2]) dX8_rimLaws_14 cw_X8_lawOf ml_X8_175 mi_X8_lawOf se_X8_lawOf lyC_0 rfl (by decide) rfl (Nat.le_of_ble_eq_true rfl) (Nat.le_of_ble_eq_true rfl) (m_X8_lawOf tl tt lw M x2  _ hc_2) ?_
    refine T_astore_n (i := 3) (L' := [aR (some 0), aI x1, aI x2, aR o_1]) dX8_rimLaws_17 rfl (Nat.le_of_ble_eq_true rfl) rfl ?_
    refine T_aload_n dX8_rimLaws_18 rfl ?_
    cases o_1 with
    | none =>
      have h := oc_none h
      refine T_ifnull0 (tgt := 33) dX8_rimLaws_19 (by decide) ?_
      obtain ⟨x_4, ex_5, h⟩ := lett_some h
      refine T_iinc (L' := [aR (some 0), aI x1, aI x_4, aR none]) dX8_rimLaws_33 rfl (ic_inc ic_1 ex_5) (Nat.le_of_ble_eq_true rfl) rfl ?_
      refine T_goto (tgt := 4) dX8_rimLaws_36 (by decide) ?_
      obtain rfl := sm1 h
      refine T_mask [true, true, true, false] rfl ?_
      exact hI _ _ rfl
    | some q_3 =>
      have h := oc_some h
      refine T_ifnull1 dX8_rimLaws_19 ?_
      refine T_aload_n dX8_rimLaws_22 rfl ?_
      refine T_iconst dX8_rimLaws_23 ic_1 ?_
      obtain ⟨hf_6, h⟩ := chk_some h
      obtain ⟨r_7, hc_8, h⟩ := bd1_some h
      refine T_cvi (as := [vI 1]) dX8_rimLaws_24 cw_X3_is ml_X8_182 mi_X3_is se_X3_is (lyX3 hf_6) rfl (by decide) rfl (Nat.le_of_ble_eq_true rfl) (Nat.le_of_ble_eq_true rfl) (m_X3_is lw tl tt M q_3 1 hf_6 _ hc_8) ?_
      refine T_if_eq (tgt := 33) dX8_rimLaws_27 (by decide) (fun hc => ?_) (fun hc => ?_)
      · have h := it_pos hc h
        obtain ⟨x_9, ex_10, h⟩ := lett_some h
        refine T_iinc (L' := [aR (some 0), aI x1, aI x_9, aR (some q_3)]) dX8_rimLaws_33 rfl (ic_inc ic_1 ex_10) (Nat.le_of_ble_eq_true rfl) rfl ?_
        refine T_goto (tgt := 4) dX8_rimLaws_36 (by decide) ?_
        obtain rfl := sm1 h
        refine T_mask [true, true, true, false] rfl ?_
        exact hI _ _ rfl
      · have h := it_neg hc h
        obtain ⟨x_11, ex_12, h⟩ := lett_some h
        refine T_iinc (L' := [aR (some 0), aI x_11, aI x2, aR (some q_3)]) dX8_rimLaws_30 rfl (ic_inc ic_1 ex_12) (Nat.le_of_ble_eq_true rfl) rfl ?_
        obtain ⟨x_13, ex_14, h⟩ := lett_some h
        refine T_iinc (L' := [aR (some 0), aI x_11, aI x_13, aR (some q_3)]) dX8_rimLaws_33 rfl (ic_inc ic_1 ex_14) (Nat.le_of_ble_eq_true rfl) rfl ?_
        refine T_goto (tgt := 4) dX8_rimLaws_36 (by decide) ?_
        obtain rfl := sm1 h
        refine T_mask [true, true, true, false] rfl ?_
        exact hI _ _ rfl
set_option maxRecDepth 100000 in
set_option maxHeartbeats 4000000 in
theorem l_X8_rimLaws_L4 (tl : Option Nat) (tt : Option Nat) (lw : Nat → Option Nat) (M : Mem) {Po : Po_} (er : Int32) : ∀ (k : Nat) (x1 : Int32) (x2 : Int32), loop (X8_rimLaws_L4 lw M) k (x1, x2) = some er → (Po (vI er) LAYC (rfs lw tl tt) M) → T RX8 cX8_rimLaws 4 (some .int) 0 2 0 0 false Po 4 [aR (some 0), aI x1, aI x2, aU] [] LAYC (rfs lw tl tt) M 0 0 := by
  intro k
  induction k with
  | zero => intro x1 x2 h; cases h
  | succ k ih =>
    intro x1 x2 h hE
    obtain ⟨x, hx, hx1, hx2⟩ := loop_succ h
    exact s_X8_rimLaws_L4  tl tt lw M  x1 x2 x hx (fun q0 q1 e => ih q0 q1 (hx1 _ e) hE) (fun q0 e => by cases hx2 _ e; exact hE)
set_option maxRecDepth 100000 in
set_option maxHeartbeats 4000000 in
theorem m_X8_rimLaws (tl : Option Nat) (tt : Option Nat) (lw : Nat → Option Nat) (M : Mem) (r : Int32) (h : F_X8_rimLaws lw M = some r) : Cal yX8_rimLaws cX8_rimLaws 4 (some .int) 0 2 0 0 false [vR (some 0)] LAYC (rfs lw tl tt) M (eqp (vI r) LAYC (rfs lw tl tt) M) := by
  refine Cal.of (by decide +kernel) (Nat.le_of_ble_eq_true rfl) (fun h => by cases h) ?_
  unfold F_X8_rimLaws at h
  show T RX8 cX8_rimLaws 4 (some .int) 0 2 0 0 false (eqp (vI r) LAYC (rfs lw tl tt) M) 0 [aR (some 0), aU, aU, aU] [] LAYC (rfs lw tl tt) M 0 0
  refine T_iconst dX8_rimLaws_0 ic_0 ?_
  refine T_istore_n (i := 1) (L' := [aR (some 0), aI 0, aU, aU]) dX8_rimLaws_1 rfl (Nat.le_of_ble_eq_true rfl) rfl ?_
  refine T_iconst dX8_rimLaws_2 ic_0 ?_
  refine T_istore_n (i := 2) (L' := [aR (some 0), aI 0, aI 0, aU]) dX8_rimLaws_3 rfl (Nat.le_of_ble_eq_true rfl) rfl ?_
  exact l_X8_rimLaws_L4  tl tt lw M  _ FU 0 0 h ⟨rfl, rfl, rfl, rfl⟩
def X8_stripsThere_L4 (M : Mem) (p0 : Nat) : Int32 × Int32 → Option ((Int32 × Int32) ⊕ (Int32))
  | (x1, x2) =>
    if (nI (saln p0)) ≤ x2 then some (.inr x1)
    else chk (inb x2 (saln p0) = true) (lett (finC p0 x2.toNatClampNeg) fun o_2 => oc o_2 none (fun q_4 => chk (isX5 q_4 = true) (bd1 (F_X5_isMissing M q_4) fun r_6 => if r_6 = 0 then lett (x1 + 1) fun x_10 => lett (x2 + 1) fun x_12 => some (.inl (x_10, x_12))
    else lett (x2 + 1) fun x_8 => some (.inl (x1, x_8)))))
def F_X8_stripsThere (M : Mem) (p0 : Nat) : Option (Int32) :=
 loop (X8_stripsThere_L4 M p0) FU (0, 0)
set_option maxRecDepth 100000 in
set_option maxHeartbeats 4000000 in
theorem s_X8_stripsThere_L4 (lw : Nat → Option Nat) (tl : Option Nat) (tt : Option Nat) (M : Mem) (p0 : Nat) (h0 : isSA p0 = true) (x1 : Int32) (x2 : Int32) {Po : Po_} (x : (Int32 × Int32) ⊕ (Int32)) (h : X8_stripsThere_L4 M p0 (x1, x2) = some x) (hI : ∀ (ix1 : Int32) (ix2 : Int32), x = .inl (ix1, ix2) → T RX8 cX8_stripsThere 3 (some .int) 0 2 0 0 false Po 4 [aR (some p0), aI ix1, aI ix2] [] LAYC (rfs lw tl tt) M 0 0) (hE0 : ∀ (er : Int32), x = .inr er → Po (vI er) LAYC (rfs lw tl tt) M) : T RX8 cX8_stripsThere 3 (some .int) 0 2 0 0 false Po 4 [aR (some p0), aI x1, aI x2] [] LAYC (rfs lw tl tt) M 0 0 := by
  unfold X8_stripsThere_L4 at h
  simp only at h
  refine T_iload_n dX8_stripsThere_4 rfl ?_
  refine T_aload_n dX8_stripsThere_5 rfl ?_
  refine T_alen dX8_stripsThere_6 (lySA h0) (Or.inr (Or.inr (Or.inr (Or.inr rfl)))) rfl ?_
  refine T_icmp_ge (tgt := 28) dX8_stripsThere_7 (by decide) (fun hc => ?_) (fun hc => ?_)
  · have h := it_pos hc h
    refine T_iload_n dX8_stripsThere_28 rfl ?_
    obtain rfl := sm1 h
    exact T_iret dX8_stripsThere_29 (hE0 _ rfl)
  · have h := it_neg hc h
    refine T_aload_n dX8_stripsThere_10 rfl ?_
    refine T_iload_n dX8_stripsThere_11 rfl ?_
    obtain ⟨hi_1, h⟩ := chk_some h
    obtain ⟨o_2, eo_3, h⟩ := lett_some h
    refine T_aald dX8_stripsThere_12 (lySA h0) (Or.inr (Or.inr rfl)) (inb_in hi_1) ((rfSA h0).trans (Eq.symm eo_3)) ?_
    cases o_2 with
    | none => exact absurd (oc_none h) (fun e => by cases e)
    | some q_4 =>
      have h := oc_some h
      obtain ⟨hf_5, h⟩ := chk_some h
      obtain ⟨r_6, hc_7, h⟩ := bd1_some h
      refine T_cvi (as := []) dX8_stripsThere_13 cw_X5_isMissing ml_X8_118 mi_X5_isMissing se_X5_isMissing (lyX5 hf_5) rfl (by decide) rfl (Nat.le_of_ble_eq_true rfl) (Nat.le_of_ble_eq_true rfl) (m_X5_isMissing lw tl tt M q_4 hf_5 _ hc_7) ?_
      refine T_if_ne (tgt := 22) dX8_stripsThere_16 (by decide) (fun hc => ?_) (fun hc => ?_)
      · have h := it_neg hc h
        obtain ⟨x_8, ex_9, h⟩ := lett_some h
        refine T_iinc (L' := [aR (some p0), aI x1, aI x_8]) dX8_stripsThere_22 rfl (ic_inc ic_1 ex_9) (Nat.le_of_ble_eq_true rfl) rfl ?_
        refine T_goto (tgt := 4) dX8_stripsThere_25 (by decide) ?_
        obtain rfl := sm1 h
        exact hI _ _ rfl
      · have h := it_pos hc h
        obtain ⟨x_10, ex_11, h⟩ := lett_some h
        refine T_iinc (L' := [aR (some p0), aI x_10, aI x2]) dX8_stripsThere_19 rfl (ic_inc ic_1 ex_11) (Nat.le_of_ble_eq_true rfl) rfl ?_
        obtain ⟨x_12, ex_13, h⟩ := lett_some h
        refine T_iinc (L' := [aR (some p0), aI x_10, aI x_12]) dX8_stripsThere_22 rfl (ic_inc ic_1 ex_13) (Nat.le_of_ble_eq_true rfl) rfl ?_
        refine T_goto (tgt := 4) dX8_stripsThere_25 (by decide) ?_
        obtain rfl := sm1 h
        exact hI _ _ rfl
set_option maxRecDepth 100000 in
set_option maxHeartbeats 4000000 in
theorem l_X8_stripsThere_L4 (lw : Nat → Option Nat) (tl : Option Nat) (tt : Option Nat) (M : Mem) (p0 : Nat) (h0 : isSA p0 = true) {Po : Po_} (er : Int32) : ∀ (k : Nat) (x1 : Int32) (x2 : Int32), loop (X8_stripsThere_L4 M p0) k (x1, x2) = some er → (Po (vI er) LAYC (rfs lw tl tt) M) → T RX8 cX8_stripsThere 3 (some .int) 0 2 0 0 false Po 4 [aR (some p0), aI x1, aI x2] [] LAYC (rfs lw tl tt) M 0 0 := by
  intro k
  induction k with
  | zero => intro x1 x2 h; cases h
  | succ k ih =>
    intro x1 x2 h hE
    obtain ⟨x, hx, hx1, hx2⟩ := loop_succ h
    exact s_X8_stripsThere_L4  lw tl tt M p0 h0 x1 x2 x hx (fun q0 q1 e => ih q0 q1 (hx1 _ e) hE) (fun q0 e => by cases hx2 _ e; exact hE)
set_option maxRecDepth 100000 in
set_option maxHeartbeats 4000000 in
theorem m_X8_stripsThere (lw : Nat → Option Nat) (tl : Option Nat) (tt : Option Nat) (M : Mem) (p0 : Nat) (h0 : isSA p0 = true) (r : Int32) (h : F_X8_stripsThere M p0 = some r) : Cal yX8_stripsThere cX8_stripsThere 3 (some .int) 0 2 0 0 false [vR (some p0)] LAYC (rfs lw tl tt) M (eqp (vI r) LAYC (rfs lw tl tt) M) := by
  refine Cal.of (by decide +kernel) (Nat.le_of_ble_eq_true rfl) (fun h => by cases h) ?_
  unfold F_X8_stripsThere at h
  show T RX8 cX8_stripsThere 3 (some .int) 0 2 0 0 false (eqp (vI r) LAYC (rfs lw tl tt) M) 0 [aR (some p0), aU, aU] [] LAYC (rfs lw tl tt) M 0 0
  refine T_iconst dX8_stripsThere_0 ic_0 ?_
  refine T_istore_n (i := 1) (L' := [aR (some p0), aI 0, aU]) dX8_stripsThere_1 rfl (Nat.le_of_ble_eq_true rfl) rfl ?_
  refine T_iconst dX8_stripsThere_2 ic_0 ?_
  refine T_istore_n (i := 2) (L' := [aR (some p0), aI 0, aI 0]) dX8_stripsThere_3 rfl (Nat.le_of_ble_eq_true rfl) rfl ?_
  exact l_X8_stripsThere_L4  lw tl tt M p0 h0 _ FU 0 0 h ⟨rfl, rfl, rfl, rfl⟩
def F_X8_counted (lw : Nat → Option Nat) (M : Mem) (x1 : Int32) : Option (Int32) :=
 if x1 = 0 then some (gI M 7 0)
 else if x1 = 1 then some (gI M 7 1)
 else if x1 = (nI 2) then some (gI M 9 3)
 else if x1 = (nI 3) then some (gI M 9 6)
 else if x1 = (nI 4) then bd1 (F_X0_size M) fun r_1 => some r_1
 else if x1 = (nI 5) then some (gI M 0 8)
 else if x1 = (nI 6) then bd1 (F_X8_rimLaws lw M) fun r_3 => some r_3
 else if x1 = (nI 7) then bd1 (F_X8_stripsThere M 1) fun r_5 => some r_5
 else if x1 = (nI 8) then bd1 (F_X8_stripsThere M 2) fun r_7 => some r_7
 else bd1 (F_X8_imagesThere M) fun r_9 => some r_9
set_option maxRecDepth 100000 in
set_option maxHeartbeats 4000000 in
theorem m_X8_counted (tl : Option Nat) (tt : Option Nat) (lw : Nat → Option Nat) (M : Mem) (x1 : Int32) (r : Int32) (h : F_X8_counted lw M x1 = some r) : Cal yX8_counted cX8_counted 2 (some .int) 0 3 0 0 false [vR (some 0), vI x1] LAYC (rfs lw tl tt) M (eqp (vI r) LAYC (rfs lw tl tt) M) := by
  refine Cal.of (by decide +kernel) (Nat.le_of_ble_eq_true rfl) (fun h => by cases h) ?_
  unfold F_X8_counted at h
  show T RX8 cX8_counted 2 (some .int) 0 3 0 0 false (eqp (vI r) LAYC (rfs lw tl tt) M) 0 [aR (some 0), aI x1] [] LAYC (rfs lw tl tt) M 0 0
  refine T_iload_n dX8_counted_0 rfl ?_
  by_cases hs0 : x1 = 0
  · have h := it_pos hs0 h
    refine T_eqI hs0 ?_
    refine T_tabIn (off := 51) (tgt := 52) dX8_counted_1 (by decide) (by decide) (by decide) (by decide) ?_
    refine T_aload_n dX8_counted_52 rfl ?_
    refine T_getR dX8_counted_53 clOK_X8 fl_X8_28 lyC_0 rfl rfl ?_
    refine T_getI dX8_counted_56 clOK_X2 fl_X8_164 lyC_7 rfl ?_
    obtain rfl := sm1 h
    exact T_iret dX8_counted_59 ⟨rfl, rfl, rfl, rfl⟩
  · have h := it_neg hs0 h
    by_cases hs1 : x1 = 1
    · have h := it_pos hs1 h
      refine T_eqI hs1 ?_
      refine T_tabIn (off := 59) (tgt := 60) dX8_counted_1 (by decide) (by decide) (by decide) (by decide) ?_
      refine T_aload_n dX8_counted_60 rfl ?_
      refine T_getR dX8_counted_61 clOK_X8 fl_X8_28 lyC_0 rfl rfl ?_
      refine T_getI dX8_counted_64 clOK_X2 fl_X8_265 lyC_7 rfl ?_
      obtain rfl := sm1 h
      exact T_iret dX8_counted_67 ⟨rfl, rfl, rfl, rfl⟩
    · have h := it_neg hs1 h
      by_cases hs2 : x1 = (nI 2)
      · have h := it_pos hs2 h
        refine T_eqI hs2 ?_
        refine T_tabIn (off := 67) (tgt := 68) dX8_counted_1 (by decide) (by decide) (by decide) (by decide) ?_
        refine T_aload_n dX8_counted_68 rfl ?_
        refine T_getR dX8_counted_69 clOK_X8 fl_X8_37 lyC_0 rfl rfl ?_
        refine T_getI dX8_counted_72 clOK_X1 fl_X8_217 lyC_9 rfl ?_
        obtain rfl := sm1 h
        exact T_iret dX8_counted_75 ⟨rfl, rfl, rfl, rfl⟩
      · have h := it_neg hs2 h
        by_cases hs3 : x1 = (nI 3)
        · have h := it_pos hs3 h
          refine T_eqI hs3 ?_
          refine T_tabIn (off := 75) (tgt := 76) dX8_counted_1 (by decide) (by decide) (by decide) (by decide) ?_
          refine T_aload_n dX8_counted_76 rfl ?_
          refine T_getR dX8_counted_77 clOK_X8 fl_X8_37 lyC_0 rfl rfl ?_
          refine T_getI dX8_counted_80 clOK_X1 fl_X8_206 lyC_9 rfl ?_
          obtain rfl := sm1 h
          exact T_iret dX8_counted_83 ⟨rfl, rfl, rfl, rfl⟩
        · have h := it_neg hs3 h
          by_cases hs4 : x1 = (nI 4)
          · have h := it_pos hs4 h
            refine T_eqI hs4 ?_
            refine T_tabIn (off := 83) (tgt := 84) dX8_counted_1 (by decide) (by decide) (by decide) (by decide) ?_
            refine T_aload_n dX8_counted_84 rfl ?_
            refine T_getR dX8_counted_85 clOK_X8 fl_X8_61 lyC_0 rfl rfl ?_
            obtain ⟨r_1, hc_2, h⟩ := bd1_some h
            refine T_cvi (as := []) dX8_counted_88 cw_X0_size ml_X8_220 mi_X0_size se_X0_size lyC_15 rfl (by decide) rfl (Nat.le_of_ble_eq_true rfl) (Nat.le_of_ble_eq_true rfl) (m_X0_size lw tl tt M  _ hc_2) ?_
            obtain rfl := sm1 h
            exact T_iret dX8_counted_91 ⟨rfl, rfl, rfl, rfl⟩
          · have h := it_neg hs4 h
            by_cases hs5 : x1 = (nI 5)
            · have h := it_pos hs5 h
              refine T_eqI hs5 ?_
              refine T_tabIn (off := 91) (tgt := 92) dX8_counted_1 (by decide) (by decide) (by decide) (by decide) ?_
              refine T_aload_n dX8_counted_92 rfl ?_
              refine T_getI dX8_counted_93 clOK_X8 fl_X8_246 lyC_0 rfl ?_
              obtain rfl := sm1 h
              exact T_iret dX8_counted_96 ⟨rfl, rfl, rfl, rfl⟩
            · have h := it_neg hs5 h
              by_cases hs6 : x1 = (nI 6)
              · have h := it_pos hs6 h
                refine T_eqI hs6 ?_
                refine T_tabIn (off := 96) (tgt := 97) dX8_counted_1 (by decide) (by decide) (by decide) (by decide) ?_
                refine T_aload_n dX8_counted_97 rfl ?_
                obtain ⟨r_3, hc_4, h⟩ := bd1_some h
                refine T_cvi (as := []) dX8_counted_98 cw_X8_rimLaws ml_X8_382 mi_X8_rimLaws se_X8_rimLaws lyC_0 rfl (by decide) rfl (Nat.le_of_ble_eq_true rfl) (Nat.le_of_ble_eq_true rfl) (m_X8_rimLaws tl tt lw M  _ hc_4) ?_
                obtain rfl := sm1 h
                exact T_iret dX8_counted_101 ⟨rfl, rfl, rfl, rfl⟩
              · have h := it_neg hs6 h
                by_cases hs7 : x1 = (nI 7)
                · have h := it_pos hs7 h
                  refine T_eqI hs7 ?_
                  refine T_tabIn (off := 101) (tgt := 102) dX8_counted_1 (by decide) (by decide) (by decide) (by decide) ?_
                  refine T_aload_n dX8_counted_102 rfl ?_
                  refine T_getR dX8_counted_103 clOK_X8 fl_X8_11 lyC_0 rfl rfl ?_
                  obtain ⟨r_5, hc_6, h⟩ := bd1_some h
                  refine T_csi (as := [vR (some 1)]) dX8_counted_106 cw_X8_stripsThere ml_X8_385 mt_X8_stripsThere rfl (Nat.le_of_ble_eq_true rfl) (Nat.le_of_ble_eq_true rfl) (m_X8_stripsThere lw tl tt M 1 rfl _ hc_6) ?_
                  obtain rfl := sm1 h
                  exact T_iret dX8_counted_109 ⟨rfl, rfl, rfl, rfl⟩
                · have h := it_neg hs7 h
                  by_cases hs8 : x1 = (nI 8)
                  · have h := it_pos hs8 h
                    refine T_eqI hs8 ?_
                    refine T_tabIn (off := 109) (tgt := 110) dX8_counted_1 (by decide) (by decide) (by decide) (by decide) ?_
                    refine T_aload_n dX8_counted_110 rfl ?_
                    refine T_getR dX8_counted_111 clOK_X8 fl_X8_15 lyC_0 rfl rfl ?_
                    obtain ⟨r_7, hc_8, h⟩ := bd1_some h
                    refine T_csi (as := [vR (some 2)]) dX8_counted_114 cw_X8_stripsThere ml_X8_385 mt_X8_stripsThere rfl (Nat.le_of_ble_eq_true rfl) (Nat.le_of_ble_eq_true rfl) (m_X8_stripsThere lw tl tt M 2 rfl _ hc_8) ?_
                    obtain rfl := sm1 h
                    exact T_iret dX8_counted_117 ⟨rfl, rfl, rfl, rfl⟩
                  · have h := it_neg hs8 h
                    refine T_tabOut (tgt := 118) dX8_counted_1 (sw_out (fun k a b => by rcases (show k = 0 ∨ k = 1 ∨ k = 2 ∨ k = 3 ∨ k = 4 ∨ k = 5 ∨ k = 6 ∨ k = 7 ∨ k = 8 by omega) with rfl | rfl | rfl | rfl | rfl | rfl | rfl | rfl | rfl <;> first | exact fun e => hs0 (e.trans (by decide)) | exact fun e => hs1 (e.trans (by decide)) | exact fun e => hs2 (e.trans (by decide)) | exact fun e => hs3 (e.trans (by decide)) | exact fun e => hs4 (e.trans (by decide)) | exact fun e => hs5 (e.trans (by decide)) | exact fun e => hs6 (e.trans (by decide)) | exact fun e => hs7 (e.trans (by decide)) | exact fun e => hs8 (e.trans (by decide)))) (by decide) ?_
                    refine T_aload_n dX8_counted_118 rfl ?_
                    obtain ⟨r_9, hc_10, h⟩ := bd1_some h
                    refine T_cvi (as := []) dX8_counted_119 cw_X8_imagesThere ml_X8_389 mi_X8_imagesThere se_X8_imagesThere lyC_0 rfl (by decide) rfl (Nat.le_of_ble_eq_true rfl) (Nat.le_of_ble_eq_true rfl) (m_X8_imagesThere lw tl tt M  _ hc_10) ?_
                    obtain rfl := sm1 h
                    exact T_iret dX8_counted_122 ⟨rfl, rfl, rfl, rfl⟩
def F_X8_count (lw : Nat → Option Nat) (M : Mem) (x1 : Int32) : Option (Int32) :=
 if x1 < 0 then some (-1)
 else if x1 < (nI 10) then bd1 (F_X8_counted lw M x1) fun r_1 => some r_1
 else some (-1)
set_option maxRecDepth 100000 in
set_option maxHeartbeats 4000000 in
theorem m_X8_count (tl : Option Nat) (tt : Option Nat) (lw : Nat → Option Nat) (M : Mem) (x1 : Int32) (r : Int32) (h : F_X8_count lw M x1 = some r) : Cal yX8_count cX8_count 2 (some .int) 0 4 0 0 false [vR (some 0), vI x1] LAYC (rfs lw tl tt) M (eqp (vI r) LAYC (rfs lw tl tt) M) := by
  refine Cal.of (by decide +kernel) (Nat.le_of_ble_eq_true rfl) (fun h => by cases h) ?_
  unfold F_X8_count at h
  show T RX8 cX8_count 2 (some .int) 0 4 0 0 false (eqp (vI r) LAYC (rfs lw tl tt) M) 0 [aR (some 0), aI x1] [] LAYC (rfs lw tl tt) M 0 0
  refine T_iload_n dX8_count_0 rfl ?_
  refine T_if_lt (tgt := 10) dX8_count_1 (by decide) (fun hc => ?_) (fun hc => ?_)
  · have h := it_pos hc h
    refine T_iconst dX8_count_10 ic_m1 ?_
    refine T_goto (tgt := 19) dX8_count_11 (by decide) ?_
    obtain rfl := sm1 h
    exact T_iret dX8_count_19 ⟨rfl, rfl, rfl, rfl⟩
  · have h := it_neg hc h
    refine T_iload_n dX8_count_4 rfl ?_
    refine T_bipush dX8_count_5 bp_10 ?_
    refine T_icmp_lt (tgt := 14) dX8_count_7 (by decide) (fun hc => ?_) (fun hc => ?_)
    · have h := it_pos hc h
      refine T_aload_n dX8_count_14 rfl ?_
      refine T_iload_n dX8_count_15 rfl ?_
      obtain ⟨r_1, hc_2, h⟩ := bd1_some h
      refine T_cvi (as := [vI x1]) dX8_count_16 cw_X8_counted ml_X8_342 mi_X8_counted se_X8_counted lyC_0 rfl (by decide) rfl (Nat.le_of_ble_eq_true rfl) (Nat.le_of_ble_eq_true rfl) (m_X8_counted tl tt lw M x1  _ hc_2) ?_
      obtain rfl := sm1 h
      exact T_iret dX8_count_19 ⟨rfl, rfl, rfl, rfl⟩
    · have h := it_neg hc h
      refine T_iconst dX8_count_10 ic_m1 ?_
      refine T_goto (tgt := 19) dX8_count_11 (by decide) ?_
      obtain rfl := sm1 h
      exact T_iret dX8_count_19 ⟨rfl, rfl, rfl, rfl⟩
def F_X8_finding (M : Mem) : Option (Int32) :=
 some (gI M 0 15)
set_option maxRecDepth 100000 in
set_option maxHeartbeats 4000000 in
theorem m_X8_finding (lw : Nat → Option Nat) (tl : Option Nat) (tt : Option Nat) (M : Mem) (r : Int32) (h : F_X8_finding M = some r) : Cal yX8_finding cX8_finding 1 (some .int) 0 1 0 0 false [vR (some 0)] LAYC (rfs lw tl tt) M (eqp (vI r) LAYC (rfs lw tl tt) M) := by
  refine Cal.of (by decide +kernel) (Nat.le_of_ble_eq_true rfl) (fun h => by cases h) ?_
  unfold F_X8_finding at h
  show T RX8 cX8_finding 1 (some .int) 0 1 0 0 false (eqp (vI r) LAYC (rfs lw tl tt) M) 0 [aR (some 0)] [] LAYC (rfs lw tl tt) M 0 0
  refine T_aload_n dX8_finding_0 rfl ?_
  refine T_getI dX8_finding_1 clOK_X8 fl_X8_345 lyC_0 rfl ?_
  obtain rfl := sm1 h
  exact T_iret dX8_finding_4 ⟨rfl, rfl, rfl, rfl⟩
def F_X8_findings (M : Mem) (x1 : Int32) : Option (Int32) :=
 if x1 < 1 then some (-1)
 else if x1 < (nI 6) then chk (inb x1 6 = true) (some (gI M 25 x1.toNatClampNeg))
 else some (-1)
set_option maxRecDepth 100000 in
set_option maxHeartbeats 4000000 in
theorem m_X8_findings (lw : Nat → Option Nat) (tl : Option Nat) (tt : Option Nat) (M : Mem) (x1 : Int32) (r : Int32) (h : F_X8_findings M x1 = some r) : Cal yX8_findings cX8_findings 2 (some .int) 0 1 0 0 false [vR (some 0), vI x1] LAYC (rfs lw tl tt) M (eqp (vI r) LAYC (rfs lw tl tt) M) := by
  refine Cal.of (by decide +kernel) (Nat.le_of_ble_eq_true rfl) (fun h => by cases h) ?_
  unfold F_X8_findings at h
  show T RX8 cX8_findings 2 (some .int) 0 1 0 0 false (eqp (vI r) LAYC (rfs lw tl tt) M) 0 [aR (some 0), aI x1] [] LAYC (rfs lw tl tt) M 0 0
  refine T_iload_n dX8_findings_0 rfl ?_
  refine T_iconst dX8_findings_1 ic_1 ?_
  refine T_icmp_lt (tgt := 14) dX8_findings_2 (by decide) (fun hc => ?_) (fun hc => ?_)
  · have h := it_pos hc h
    refine T_iconst dX8_findings_14 ic_m1 ?_
    refine T_goto (tgt := 24) dX8_findings_15 (by decide) ?_
    obtain rfl := sm1 h
    exact T_iret dX8_findings_24 ⟨rfl, rfl, rfl, rfl⟩
  · have h := it_neg hc h
    refine T_iload_n dX8_findings_5 rfl ?_
    refine T_aload_n dX8_findings_6 rfl ?_
    refine T_getR dX8_findings_7 clOK_X8 fl_X8_79 lyC_0 rfl rfl ?_
    refine T_alen dX8_findings_10 lyC_25 (Or.inl rfl) rfl ?_
    refine T_icmp_lt (tgt := 18) dX8_findings_11 (by decide) (fun hc => ?_) (fun hc => ?_)
    · have h := it_pos hc h
      refine T_aload_n dX8_findings_18 rfl ?_
      refine T_getR dX8_findings_19 clOK_X8 fl_X8_79 lyC_0 rfl rfl ?_
      refine T_iload_n dX8_findings_22 rfl ?_
      obtain ⟨hi_1, h⟩ := chk_some h
      refine T_iald dX8_findings_23 lyC_25 (inb_in hi_1) ?_
      obtain rfl := sm1 h
      exact T_iret dX8_findings_24 ⟨rfl, rfl, rfl, rfl⟩
    · have h := it_neg hc h
      refine T_iconst dX8_findings_14 ic_m1 ?_
      refine T_goto (tgt := 24) dX8_findings_15 (by decide) ?_
      obtain rfl := sm1 h
      exact T_iret dX8_findings_24 ⟨rfl, rfl, rfl, rfl⟩
