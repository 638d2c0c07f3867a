def X8_wrongHeaps_L30 (M : Mem) (p0 : Nat) : Int32 → Option ((Int32) ⊕ (Int32))
  | x1 =>
    bd1 (F_X5_size M p0) fun r_7 => if r_7 ≤ x1 then some (.inr 0)
    else bd1 (F_X5_get M p0 x1) fun r_9 => if r_9 < 1 then some (.inr (nI 3))
    else bd1 (F_X5_get M p0 x1) fun r_11 => if r_11 ≤ (nI 80) then lett (x1 + 1) fun x_13 => some (.inl x_13)
    else some (.inr (nI 3))
def F_X8_wrongHeaps (M : Mem) (p0 : Nat) : Option (Int32) :=
 bd1 (F_X5_isMissing M p0) fun r_1 => if r_1 = 0 then bd1 (F_X5_size M p0) fun r_3 => if r_3 < 1 then some (nI 5)
 else bd1 (F_X5_size M p0) fun r_5 => if r_5 ≤ (nI 6) then loop (X8_wrongHeaps_L30 M p0) FU 0
 else some (nI 5)
 else some 1
set_option maxRecDepth 100000 in
set_option maxHeartbeats 4000000 in
theorem s_X8_wrongHeaps_L30 (lw : Nat → Option Nat) (tl : Option Nat) (tt : Option Nat) (M : Mem) (p0 : Nat) (h0 : isX5 p0 = true) (x1 : Int32) {Po : Po_} (x : (Int32) ⊕ (Int32)) (h : X8_wrongHeaps_L30 M p0 x1 = some x) (hI : ∀ (ix1 : Int32), x = .inl ix1 → T RX8 cX8_wrongHeaps 2 (some .int) 0 3 0 0 false Po 30 [aR (some p0), aI ix1] [] LAYC (rfs lw tl tt) M 0 0) (hE0 : ∀ (er : Int32), x = .inr er → Po (vI er) LAYC (rfs lw tl tt) M) : T RX8 cX8_wrongHeaps 2 (some .int) 0 3 0 0 false Po 30 [aR (some p0), aI x1] [] LAYC (rfs lw tl tt) M 0 0 := by
  unfold X8_wrongHeaps_L30 at h
  simp only at h
  refine T_iload_n dX8_wrongHeaps_30 rfl ?_
  refine T_aload_n dX8_wrongHeaps_31 rfl ?_
  obtain ⟨r_7, hc_8, h⟩ := bd1_some h
  refine T_cvi (as := []) dX8_wrongHeaps_32 cw_X5_size ml_X8_133 mi_X5_size se_X5_size (lyX5 h0) rfl (by decide) rfl (Nat.le_of_ble_eq_true rfl) (Nat.le_of_ble_eq_true rfl) (m_X5_size lw tl tt M p0 h0 _ hc_8) ?_
  refine T_icmp_ge (tgt := 65) dX8_wrongHeaps_35 (by decide) (fun hc => ?_) (fun hc => ?_)
  · have h := it_pos hc h
    refine T_iconst dX8_wrongHeaps_65 ic_0 ?_
    obtain rfl := sm1 h
    exact T_iret dX8_wrongHeaps_66 (hE0 _ rfl)
  · have h := it_neg hc h
    refine T_aload_n dX8_wrongHeaps_38 rfl ?_
    refine T_iload_n dX8_wrongHeaps_39 rfl ?_
    obtain ⟨r_9, hc_10, h⟩ := bd1_some h
    refine T_cvi (as := [vI x1]) dX8_wrongHeaps_40 cw_X5_get ml_X8_104 mi_X5_get se_X5_get (lyX5 h0) rfl (by decide) rfl (Nat.le_of_ble_eq_true rfl) (Nat.le_of_ble_eq_true rfl) (m_X5_get lw tl tt M p0 x1 h0 _ hc_10) ?_
    refine T_iconst dX8_wrongHeaps_43 ic_1 ?_
    refine T_icmp_lt (tgt := 57) dX8_wrongHeaps_44 (by decide) (fun hc => ?_) (fun hc => ?_)
    · have h := it_pos hc h
      refine T_iconst dX8_wrongHeaps_57 ic_3 ?_
      obtain rfl := sm1 h
      exact T_iret dX8_wrongHeaps_58 (hE0 _ rfl)
    · have h := it_neg hc h
      refine T_aload_n dX8_wrongHeaps_47 rfl ?_
      refine T_iload_n dX8_wrongHeaps_48 rfl ?_
      obtain ⟨r_11, hc_12, h⟩ := bd1_some h
      refine T_cvi (as := [vI x1]) dX8_wrongHeaps_49 cw_X5_get ml_X8_104 mi_X5_get se_X5_get (lyX5 h0) rfl (by decide) rfl (Nat.le_of_ble_eq_true rfl) (Nat.le_of_ble_eq_true rfl) (m_X5_get lw tl tt M p0 x1 h0 _ hc_12) ?_
      refine T_bipush dX8_wrongHeaps_52 bp_80 ?_
      refine T_icmp_le (tgt := 59) dX8_wrongHeaps_54 (by decide) (fun hc => ?_) (fun hc => ?_)
      · have h := it_pos hc h
        obtain ⟨x_13, ex_14, h⟩ := lett_some h
        refine T_iinc (L' := [aR (some p0), aI x_13]) dX8_wrongHeaps_59 rfl (ic_inc ic_1 ex_14) (Nat.le_of_ble_eq_true rfl) rfl ?_
        refine T_goto (tgt := 30) dX8_wrongHeaps_62 (by decide) ?_
        obtain rfl := sm1 h
        exact hI _ rfl
      · have h := it_neg hc h
        refine T_iconst dX8_wrongHeaps_57 ic_3 ?_
        obtain rfl := sm1 h
        exact T_iret dX8_wrongHeaps_58 (hE0 _ rfl)
set_option maxRecDepth 100000 in
set_option maxHeartbeats 4000000 in
theorem l_X8_wrongHeaps_L30 (lw : Nat → Option Nat) (tl : Option Nat) (tt : Option Nat) (M : Mem) (p0 : Nat) (h0 : isX5 p0 = true) {Po : Po_} (er : Int32) : ∀ (k : Nat) (x1 : Int32), loop (X8_wrongHeaps_L30 M p0) k x1 = some er → (Po (vI er) LAYC (rfs lw tl tt) M) → T RX8 cX8_wrongHeaps 2 (some .int) 0 3 0 0 false Po 30 [aR (some p0), aI x1] [] LAYC (rfs lw tl tt) M 0 0 := by
  intro k
  induction k with
  | zero => intro x1 h; cases h
  | succ k ih =>
    intro x1 h hE
    obtain ⟨x, hx, hx1, hx2⟩ := loop_succ h
    exact s_X8_wrongHeaps_L30  lw tl tt M p0 h0 x1 x hx (fun q0 e => ih q0 (hx1 _ e) hE) (fun q0 e => by cases hx2 _ e; exact hE)
set_option maxRecDepth 100000 in
set_option maxHeartbeats 4000000 in
theorem m_X8_wrongHeaps (lw : Nat → Option Nat) (tl : Option Nat) (tt : Option Nat) (M : Mem) (p0 : Nat) (h0 : isX5 p0 = true) (r : Int32) (h : F_X8_wrongHeaps M p0 = some r) : Cal yX8_wrongHeaps cX8_wrongHeaps 2 (some .int) 0 3 0 0 false [vR (some p0)] LAYC (rfs lw tl tt) M (eqp (vI r) LAYC (rfs lw tl tt) M) := by
  refine Cal.of (by decide +kernel) (Nat.le_of_ble_eq_true rfl) (fun h => by cases h) ?_
  unfold F_X8_wrongHeaps at h
  show T RX8 cX8_wrongHeaps 2 (some .int) 0 3 0 0 false (eqp (vI r) LAYC (rfs lw tl tt) M) 0 [aR (some p0), aU] [] LAYC (rfs lw tl tt) M 0 0
  refine T_aload_n dX8_wrongHeaps_0 rfl ?_
  obtain ⟨r_1, hc_2, h⟩ := bd1_some h
  refine T_cvi (as := []) dX8_wrongHeaps_1 cw_X5_isMissing ml_X8_118 mi_X5_isMissing se_X5_isMissing (lyX5 h0) rfl (by decide) rfl (Nat.le_of_ble_eq_true rfl) (Nat.le_of_ble_eq_true rfl) (m_X5_isMissing lw tl tt M p0 h0 _ hc_2) ?_
  refine T_if_eq (tgt := 9) dX8_wrongHeaps_4 (by decide) (fun hc => ?_) (fun hc => ?_)
  · have h := it_pos hc h
    refine T_aload_n dX8_wrongHeaps_9 rfl ?_
    obtain ⟨r_3, hc_4, h⟩ := bd1_some h
    refine T_cvi (as := []) dX8_wrongHeaps_10 cw_X5_size ml_X8_133 mi_X5_size se_X5_size (lyX5 h0) rfl (by decide) rfl (Nat.le_of_ble_eq_true rfl) (Nat.le_of_ble_eq_true rfl) (m_X5_size lw tl tt M p0 h0 _ hc_4) ?_
    refine T_iconst dX8_wrongHeaps_13 ic_1 ?_
    refine T_icmp_lt (tgt := 26) dX8_wrongHeaps_14 (by decide) (fun hc => ?_) (fun hc => ?_)
    · have h := it_pos hc h
      refine T_iconst dX8_wrongHeaps_26 ic_5 ?_
      obtain rfl := sm1 h
      exact T_iret dX8_wrongHeaps_27 ⟨rfl, rfl, rfl, rfl⟩
    · have h := it_neg hc h
      refine T_aload_n dX8_wrongHeaps_17 rfl ?_
      obtain ⟨r_5, hc_6, h⟩ := bd1_some h
      refine T_cvi (as := []) dX8_wrongHeaps_18 cw_X5_size ml_X8_133 mi_X5_size se_X5_size (lyX5 h0) rfl (by decide) rfl (Nat.le_of_ble_eq_true rfl) (Nat.le_of_ble_eq_true rfl) (m_X5_size lw tl tt M p0 h0 _ hc_6) ?_
      refine T_bipush dX8_wrongHeaps_21 bp_6 ?_
      refine T_icmp_le (tgt := 28) dX8_wrongHeaps_23 (by decide) (fun hc => ?_) (fun hc => ?_)
      · have h := it_pos hc h
        refine T_iconst dX8_wrongHeaps_28 ic_0 ?_
        refine T_istore_n (i := 1) (L' := [aR (some p0), aI 0]) dX8_wrongHeaps_29 rfl (Nat.le_of_ble_eq_true rfl) rfl ?_
        exact l_X8_wrongHeaps_L30  lw tl tt M p0 h0 _ FU 0 h ⟨rfl, rfl, rfl, rfl⟩
      · have h := it_neg hc h
        refine T_iconst dX8_wrongHeaps_26 ic_5 ?_
        obtain rfl := sm1 h
        exact T_iret dX8_wrongHeaps_27 ⟨rfl, rfl, rfl, rfl⟩
  · have h := it_neg hc h
    refine T_iconst dX8_wrongHeaps_7 ic_1 ?_
    obtain rfl := sm1 h
    exact T_iret dX8_wrongHeaps_8 ⟨rfl, rfl, rfl, rfl⟩
def X8_heaps_L33 (p2 : Nat) : Int32 × Int32 × Mem → Option ((Int32 × Int32 × Mem) ⊕ (Int32 × Mem))
  | (x4, x5, M) =>
    if (gI M 9 3) ≤ x5 then some (.inr (x4, M))
    else if (nI 8) ≤ x5 then some (.inr (x4, M))
    else bd1 (F_X1_bitsOf M 9 x5) fun r_7 => bd1 (F_X1_volumeOf M 9 r_7) fun r_9 => chk (inb x5 8 = true) (lett (sI M 24 x5.toNatClampNeg r_9) fun M_11 => chk (inb x5 8 = true) (lett (x4 + (gI M_11 24 x5.toNatClampNeg)) fun x_15 => lett (x5 + 1) fun x_17 => some (.inl (x_15, x_17, M_11))))
def X8_heaps_J119 (M : Mem) (s0 : Int64) : Option (Int32 × Mem) :=
 bd2 (F_X8_tellFraction M s0 1) fun r_23 M_24 => some (r_23, M_24)
def F_X8_heaps (M : Mem) (x1 : Int32) : Option (Int32 × Mem) :=
 bd1 (F_X8_rowOf x1) fun o_1 => oc o_1 (some ((-1), M))
 (fun q_3 => chk (isX5 q_3 = true) (bd1 (F_X8_wrongHeaps M q_3) fun r_5 => if r_5 = 0 then bd2 (loop (X8_heaps_L33 q_3) FU (0, 0, M)) fun x_19 M_20 => bd1 (F_X5_sum M_20 q_3) fun r_21 => if (lg_cmp r_21 x_19.toInt64) = 0 then bd2 (F_X8_waysFrom 12 M_20 q_3 0) fun r_26 M_27 => X8_heaps_J119 M_27 r_26.toInt64
 else X8_heaps_J119 M_20 0
 else bd2 (F_X8_found M r_5) fun r_29 M_30 => some (r_29, M_30)))
set_option maxRecDepth 100000 in
set_option maxHeartbeats 4000000 in
theorem s_X8_heaps_L33 (lw : Nat → Option Nat) (tl : Option Nat) (tt : Option Nat) (p2 : Nat) (h2 : isX5 p2 = true) (x4 : Int32) (x5 : Int32) (M : Mem) {Po : Po_} (x : (Int32 × Int32 × Mem) ⊕ (Int32 × Mem)) (h : X8_heaps_L33 p2 (x4, x5, M) = some x) (hI : ∀ (ix4 : Int32) (ix5 : Int32) (iM : Mem), x = .inl (ix4, ix5, iM) → T RX8 cX8_heaps 6 (some .int) 0 16 0 0 false Po 33 [aR (some 0), aU, aR (some p2), aU, aI ix4, aI ix5] [] LAYC (rfs lw tl tt) iM 0 0) (hE0 : ∀ (e4 : Int32) (eM : Mem), x = .inr (e4, eM) → T RX8 cX8_heaps 6 (some .int) 0 16 0 0 false Po 96 [aR (some 0), aU, aR (some p2), aU, aI e4, aU] [] LAYC (rfs lw tl tt) eM 0 0) : T RX8 cX8_heaps 6 (some .int) 0 16 0 0 false Po 33 [aR (some 0), aU, aR (some p2), aU, aI x4, aI x5] [] LAYC (rfs lw tl tt) M 0 0 := by
  unfold X8_heaps_L33 at h
  simp only at h
  refine T_iload dX8_heaps_33 rfl ?_
  refine T_aload_n dX8_heaps_35 rfl ?_
  refine T_getR dX8_heaps_36 clOK_X8 fl_X8_37 lyC_0 rfl rfl ?_
  refine T_getI dX8_heaps_39 clOK_X1 fl_X8_217 lyC_9 rfl ?_
  refine T_icmp_ge (tgt := 96) dX8_heaps_42 (by decide) (fun hc => ?_) (fun hc => ?_)
  · have h := it_pos hc h
    obtain rfl := sm1 h
    refine T_mask [true, true, true, true, true, false] rfl ?_
    exact hE0 _ _ rfl
  · have h := it_neg hc h
    refine T_iload dX8_heaps_45 rfl ?_
    refine T_aload_n dX8_heaps_47 rfl ?_
    refine T_getR dX8_heaps_48 clOK_X8 fl_X8_72 lyC_0 rfl rfl ?_
    refine T_alen dX8_heaps_51 lyC_24 (Or.inl rfl) rfl ?_
    refine T_icmp_ge (tgt := 96) dX8_heaps_52 (by decide) (fun hc => ?_) (fun hc => ?_)
    · have h := it_pos hc h
      obtain rfl := sm1 h
      refine T_mask [true, true, true, true, true, false] rfl ?_
      exact hE0 _ _ rfl
    · have h := it_neg hc h
      refine T_aload_n dX8_heaps_55 rfl ?_
      refine T_getR dX8_heaps_56 clOK_X8 fl_X8_72 lyC_0 rfl rfl ?_
      refine T_iload dX8_heaps_59 rfl ?_
      refine T_aload_n dX8_heaps_61 rfl ?_
      refine T_getR dX8_heaps_62 clOK_X8 fl_X8_37 lyC_0 rfl rfl ?_
      refine T_aload_n dX8_heaps_65 rfl ?_
      refine T_getR dX8_heaps_66 clOK_X8 fl_X8_37 lyC_0 rfl rfl ?_
      refine T_iload dX8_heaps_69 rfl ?_
      obtain ⟨r_7, hc_8, h⟩ := bd1_some h
      refine T_cvi (as := [vI x5]) dX8_heaps_71 cw_X1_bitsOf ml_X8_258 mi_X1_bitsOf se_X1_bitsOf lyC_9 rfl (by decide) rfl (Nat.le_of_ble_eq_true rfl) (Nat.le_of_ble_eq_true rfl) (m_X1_bitsOf lw tl tt M 9 x5 rfl _ hc_8) ?_
      obtain ⟨r_9, hc_10, h⟩ := bd1_some h
      refine T_cvi (as := [vI r_7]) dX8_heaps_74 cw_X1_volumeOf ml_X8_283 mi_X1_volumeOf se_X1_volumeOf lyC_9 rfl (by decide) rfl (Nat.le_of_ble_eq_true rfl) (Nat.le_of_ble_eq_true rfl) (m_X1_volumeOf lw tl tt M 9 r_7 rfl _ hc_10) ?_
      obtain ⟨hi_13, h⟩ := chk_some h
      obtain ⟨M_11, eM_12, h⟩ := lett_some h
      refine T_iast dX8_heaps_77 lyC_24 (inb_in hi_13) eM_12 ?_
      refine T_iload dX8_heaps_78 rfl ?_
      refine T_aload_n dX8_heaps_80 rfl ?_
      refine T_getR dX8_heaps_81 clOK_X8 fl_X8_72 lyC_0 rfl rfl ?_
      refine T_iload dX8_heaps_84 rfl ?_
      obtain ⟨hi_14, h⟩ := chk_some h
      refine T_iald dX8_heaps_86 lyC_24 (inb_in hi_14) ?_
      refine T_iadd dX8_heaps_87 ?_
      obtain ⟨x_15, ex_16, h⟩ := lett_some h
      refine T_topI ex_16 ?_
      refine T_istore (i := 4) (L' := [aR (some 0), aU, aR (some p2), aU, aI x_15, aI x5]) dX8_heaps_88 (Nat.le_of_ble_eq_true rfl) rfl ?_
      obtain ⟨x_17, ex_18, h⟩ := lett_some h
      refine T_iinc (L' := [aR (some 0), aU, aR (some p2), aU, aI x_15, aI x_17]) dX8_heaps_90 rfl (ic_inc ic_1 ex_18) (Nat.le_of_ble_eq_true rfl) rfl ?_
      refine T_goto (tgt := 33) dX8_heaps_93 (by decide) ?_
      obtain rfl := sm1 h
      exact hI _ _ _ rfl
set_option maxRecDepth 100000 in
set_option maxHeartbeats 4000000 in
theorem l_X8_heaps_L33 (lw : Nat → Option Nat) (tl : Option Nat) (tt : Option Nat) (p2 : Nat) (h2 : isX5 p2 = true) {Po : Po_} (e4 : Int32) (eM : Mem) : ∀ (k : Nat) (x4 : Int32) (x5 : Int32) (M : Mem), loop (X8_heaps_L33 p2) k (x4, x5, M) = some (e4, eM) → (T RX8 cX8_heaps 6 (some .int) 0 16 0 0 false Po 96 [aR (some 0), aU, aR (some p2), aU, aI e4, aU] [] LAYC (rfs lw tl tt) eM 0 0) → T RX8 cX8_heaps 6 (some .int) 0 16 0 0 false Po 33 [aR (some 0), aU, aR (some p2), aU, aI x4, aI x5] [] LAYC (rfs lw tl tt) M 0 0 := by
  intro k
  induction k with
  | zero => intro x4 x5 M h; cases h
  | succ k ih =>
    intro x4 x5 M h hE
    obtain ⟨x, hx, hx1, hx2⟩ := loop_succ h
    exact s_X8_heaps_L33  lw tl tt p2 h2 x4 x5 M x hx (fun q0 q1 q2 e => ih q0 q1 q2 (hx1 _ e) hE) (fun q0 q1 e => by cases hx2 _ e; exact hE)
set_option maxRecDepth 100000 in
set_option maxHeartbeats 4000000 in
theorem j_X8_heaps_J119 (lw : Nat → Option Nat) (tl : Option Nat) (tt : Option Nat) (M : Mem) (s0 : Int64) (r : Int32) (M' : Mem) (h : X8_heaps_J119 M s0 = some (r, M')) : T RX8 cX8_heaps 6 (some .int) 0 16 0 0 false (eqp (vI r) LAYC (rfs lw tl tt) M') 119 [aU, aU, aU, aU, aU, aU] [vJ s0, vR (some 0)] LAYC (rfs lw tl tt) M 0 0 := by
  unfold X8_heaps_J119 at h
  refine T_lconst dX8_heaps_119 lc_1 ?_
  obtain ⟨r_23, M_24, hc_25, h⟩ := bd2_some h
  refine T_cvi (as := [vJ s0, vJ 1]) dX8_heaps_120 cw_X8_tellFraction ml_X8_306 mi_X8_tellFraction se_X8_tellFraction lyC_0 rfl (by decide) rfl (Nat.le_of_ble_eq_true rfl) (Nat.le_of_ble_eq_true rfl) (m_X8_tellFraction lw tl tt M s0 1  _ _ hc_25) ?_
  obtain ⟨rfl, rfl⟩ := sm2 h
  exact T_iret dX8_heaps_123 ⟨rfl, rfl, rfl, rfl⟩
set_option maxRecDepth 100000 in
set_option maxHeartbeats 4000000 in
theorem m_X8_heaps (lw : Nat → Option Nat) (tl : Option Nat) (tt : Option Nat) (M : Mem) (x1 : Int32) (r : Int32) (M' : Mem) (h : F_X8_heaps M x1 = some (r, M')) : Cal yX8_heaps cX8_heaps 6 (some .int) 0 16 0 0 false [vR (some 0), vI x1] LAYC (rfs lw tl tt) M (eqp (vI r) LAYC (rfs lw tl tt) M') := by
  refine Cal.of (by decide +kernel) (Nat.le_of_ble_eq_true rfl) (fun h => by cases h) ?_
  unfold F_X8_heaps at h
  show T RX8 cX8_heaps 6 (some .int) 0 16 0 0 false (eqp (vI r) LAYC (rfs lw tl tt) M') 0 [aR (some 0), aI x1, aU, aU, aU, aU] [] LAYC (rfs lw tl tt) M 0 0
  refine T_aload_n dX8_heaps_0 rfl ?_
  refine T_iload_n dX8_heaps_1 rfl ?_
  obtain ⟨o_1, hc_2, h⟩ := bd1_some h
  refine T_cvq (as := [vI x1]) dX8_heaps_2 cw_X8_rowOf ml_X8_88 mi_X8_rowOf se_X8_rowOf lyC_0 rfl (by decide) rfl (Nat.le_of_ble_eq_true rfl) (Nat.le_of_ble_eq_true rfl) (m_X8_rowOf lw tl tt M x1  _ hc_2) ?_
  refine T_astore_n (i := 2) (L' := [aR (some 0), aI x1, aR o_1, aU, aU, aU]) dX8_heaps_5 rfl (Nat.le_of_ble_eq_true rfl) rfl ?_
  refine T_aload_n dX8_heaps_6 rfl ?_
  cases o_1 with
  | none =>
    have h := oc_none h
    refine T_ifnonnull0 dX8_heaps_7 ?_
    refine T_iconst dX8_heaps_10 ic_m1 ?_
    obtain ⟨rfl, rfl⟩ := sm2 h
    exact T_iret dX8_heaps_11 ⟨rfl, rfl, rfl, rfl⟩
  | some q_3 =>
    have h := oc_some h
    refine T_ifnonnull1 (tgt := 12) dX8_heaps_7 (by decide) ?_
    refine T_aload_n dX8_heaps_12 rfl ?_
    obtain ⟨hf_4, h⟩ := chk_some h
    obtain ⟨r_5, hc_6, h⟩ := bd1_some h
    refine T_csi (as := [vR (some q_3)]) dX8_heaps_13 cw_X8_wrongHeaps ml_X8_310 mt_X8_wrongHeaps rfl (Nat.le_of_ble_eq_true rfl) (Nat.le_of_ble_eq_true rfl) (m_X8_wrongHeaps lw tl tt M q_3 hf_4 _ hc_6) ?_
    refine T_istore_n (i := 3) (L' := [aR (some 0), aI x1, aR (some q_3), aI r_5, aU, aU]) dX8_heaps_16 rfl (Nat.le_of_ble_eq_true rfl) rfl ?_
    refine T_iload_n dX8_heaps_17 rfl ?_
    refine T_if_eq (tgt := 27) dX8_heaps_18 (by decide) (fun hc => ?_) (fun hc => ?_)
    · have h := it_pos hc h
      refine T_iconst dX8_heaps_27 ic_0 ?_
      refine T_istore (i := 4) (L' := [aR (some 0), aI x1, aR (some q_3), aI r_5, aI 0, aU]) dX8_heaps_28 (Nat.le_of_ble_eq_true rfl) rfl ?_
      refine T_iconst dX8_heaps_30 ic_0 ?_
      refine T_istore (i := 5) (L' := [aR (some 0), aI x1, aR (some q_3), aI r_5, aI 0, aI 0]) dX8_heaps_31 (Nat.le_of_ble_eq_true rfl) rfl ?_
      obtain ⟨x_19, M_20, hl, h⟩ := bd2_some h
      refine T_mask [true, false, true, false, true, true] rfl ?_
      refine l_X8_heaps_L33  lw tl tt q_3 hf_4 _ _ FU 0 0 M hl ?_
      refine T_aload_n dX8_heaps_96 rfl ?_
      refine T_aload_n dX8_heaps_97 rfl ?_
      obtain ⟨r_21, hc_22, h⟩ := bd1_some h
      refine T_cvl (as := []) dX8_heaps_98 cw_X5_sum ml_X8_137 mi_X5_sum se_X5_sum (lyX5 hf_4) rfl (by decide) rfl (Nat.le_of_ble_eq_true rfl) (Nat.le_of_ble_eq_true rfl) (m_X5_sum lw tl tt M_20 q_3 hf_4 _ hc_22) ?_
      refine T_iload dX8_heaps_101 rfl ?_
      refine T_i2l dX8_heaps_103 ?_
      refine T_lcmp dX8_heaps_104 ?_
      refine T_if_ne (tgt := 118) dX8_heaps_105 (by decide) (fun hc => ?_) (fun hc => ?_)
      · have h := it_neg hc h
        refine T_lconst dX8_heaps_118 lc_0 ?_
        refine T_mask [false, true, false, true, false, true] rfl ?_
        exact j_X8_heaps_J119  lw tl tt M_20 0  _ _ h
      · have h := it_pos hc h
        refine T_aload_n dX8_heaps_108 rfl ?_
        refine T_aload_n dX8_heaps_109 rfl ?_
        refine T_iconst dX8_heaps_110 ic_0 ?_
        obtain ⟨r_26, M_27, hc_28, h⟩ := bd2_some h
        refine T_cvi (as := [vR (some q_3), vI 0]) dX8_heaps_111 cw_X8_waysFrom ml_X8_313 mi_X8_waysFrom se_X8_waysFrom lyC_0 rfl (by decide) rfl (Nat.le_of_ble_eq_true rfl) (by omega) (m_X8_waysFrom 12 lw tl tt M_20 q_3 0 hf_4 _ _ hc_28) ?_
        refine T_i2l dX8_heaps_114 ?_
        refine T_goto (tgt := 119) dX8_heaps_115 (by decide) ?_
        refine T_mask [false, true, false, true, false, true] rfl ?_
        exact j_X8_heaps_J119  lw tl tt M_27 r_26.toInt64  _ _ h
    · have h := it_neg hc h
      refine T_aload_n dX8_heaps_21 rfl ?_
      refine T_iload_n dX8_heaps_22 rfl ?_
      obtain ⟨r_29, M_30, hc_31, h⟩ := bd2_some h
      refine T_cvi (as := [vI r_5]) dX8_heaps_23 cw_X8_found ml_X8_100 mi_X8_found se_X8_found lyC_0 rfl (by decide) rfl (Nat.le_of_ble_eq_true rfl) (Nat.le_of_ble_eq_true rfl) (m_X8_found lw tl tt M r_5  _ _ hc_31) ?_
      obtain ⟨rfl, rfl⟩ := sm2 h
      exact T_iret dX8_heaps_26 ⟨rfl, rfl, rfl, rfl⟩
def F_X8_lies (M : Mem) (x1 : Int32) : Option (Int32 × Mem) :=
 bd1 (F_X8_rowOf x1) fun o_1 => oc o_1 (some ((-1), M))
 (fun q_3 => chk (isX5 q_3 = true) (bd1 (F_X7_wrongIn M q_3) fun r_5 => if r_5 = 0 then bd1 (F_X7_firstLiar M q_3 9) fun r_7 => lett (sI M 0 12 r_7) fun M_9 => bd1 (F_X7_liarsOf M_9 q_3 9) fun r_11 => some (r_11, M_9)
 else bd2 (F_X8_found M r_5) fun r_13 M_14 => some (r_13, M_14)))
set_option maxRecDepth 100000 in
set_option maxHeartbeats 4000000 in
theorem m_X8_lies (lw : Nat → Option Nat) (tl : Option Nat) (tt : Option Nat) (M : Mem) (x1 : Int32) (r : Int32) (M' : Mem) (h : F_X8_lies M x1 = some (r, M')) : Cal yX8_lies cX8_lies 4 (some .int) 0 5 0 0 false [vR (some 0), vI x1] LAYC (rfs lw tl tt) M (eqp (vI r) LAYC (rfs lw tl tt) M') := by
  refine Cal.of (by decide +kernel) (Nat.le_of_ble_eq_true rfl) (fun h => by cases h) ?_
  unfold F_X8_lies at h
  show T RX8 cX8_lies 4 (some .int) 0 5 0 0 false (eqp (vI r) LAYC (rfs lw tl tt) M') 0 [aR (some 0), aI x1, aU, aU] [] LAYC (rfs lw tl tt) M 0 0
  refine T_aload_n dX8_lies_0 rfl ?_
  refine T_iload_n dX8_lies_1 rfl ?_
  obtain ⟨o_1, hc_2, h⟩ := bd1_some h
  refine T_cvq (as := [vI x1]) dX8_lies_2 cw_X8_rowOf ml_X8_88 mi_X8_rowOf se_X8_rowOf lyC_0 rfl (by decide) rfl (Nat.le_of_ble_eq_true rfl) (Nat.le_of_ble_eq_true rfl) (m_X8_rowOf lw tl tt M x1  _ hc_2) ?_
  refine T_astore_n (i := 2) (L' := [aR (some 0), aI x1, aR o_1, aU]) dX8_lies_5 rfl (Nat.le_of_ble_eq_true rfl) rfl ?_
  refine T_aload_n dX8_lies_6 rfl ?_
  cases o_1 with
  | none =>
    have h := oc_none h
    refine T_ifnonnull0 dX8_lies_7 ?_
    refine T_iconst dX8_lies_10 ic_m1 ?_
    obtain ⟨rfl, rfl⟩ := sm2 h
    exact T_iret dX8_lies_11 ⟨rfl, rfl, rfl, rfl⟩
  | some q_3 =>
    have h := oc_some h
    refine T_ifnonnull1 (tgt := 12) dX8_lies_7 (by decide) ?_
    refine T_aload_n dX8_lies_12 rfl ?_
    refine T_aload_n dX8_lies_13 rfl ?_
    refine T_getR dX8_lies_14 clOK_X8 fl_X8_28 lyC_0 rfl rfl ?_
    obtain ⟨hf_4, h⟩ := chk_some h
    obtain ⟨r_5, hc_6, h⟩ := bd1_some h
    refine T_csi (as := [vR (some q_3), vR (some 7)]) dX8_lies_17 cw_X7_wrongIn ml_X8_316 mt_X7_wrongIn rfl (Nat.le_of_ble_eq_true rfl) (Nat.le_of_ble_eq_true rfl) (m_X7_wrongIn lw tl tt M q_3 hf_4 _ hc_6) ?_
    refine T_istore_n (i := 3) (L' := [aR (some 0), aI x1, aR (some q_3), aI r_5]) dX8_lies_20 rfl (Nat.le_of_ble_eq_true rfl) rfl ?_
    refine T_iload_n dX8_lies_21 rfl ?_
    refine T_if_eq (tgt := 31) dX8_lies_22 (by decide) (fun hc => ?_) (fun hc => ?_)
    · have h := it_pos hc h
      refine T_aload_n dX8_lies_31 rfl ?_
      refine T_aload_n dX8_lies_32 rfl ?_
      refine T_aload_n dX8_lies_33 rfl ?_
      refine T_getR dX8_lies_34 clOK_X8 fl_X8_37 lyC_0 rfl rfl ?_
      obtain ⟨r_7, hc_8, h⟩ := bd1_some h
      refine T_csi (as := [vR (some q_3), vR (some 9)]) dX8_lies_37 cw_X7_firstLiar ml_X8_322 mt_X7_firstLiar rfl (Nat.le_of_ble_eq_true rfl) (Nat.le_of_ble_eq_true rfl) (m_X7_firstLiar lw tl tt M q_3 9 hf_4 rfl _ hc_8) ?_
      obtain ⟨M_9, eM_10, h⟩ := lett_some h
      refine T_putI dX8_lies_40 clOK_X8 fl_X8_107 (Or.inl rfl) lyC_0 rfl rfl eM_10 ?_
      refine T_aload_n dX8_lies_43 rfl ?_
      refine T_aload_n dX8_lies_44 rfl ?_
      refine T_getR dX8_lies_45 clOK_X8 fl_X8_37 lyC_0 rfl rfl ?_
      obtain ⟨r_11, hc_12, h⟩ := bd1_some h
      refine T_csi (as := [vR (some q_3), vR (some 9)]) dX8_lies_48 cw_X7_liarsOf ml_X8_326 mt_X7_liarsOf rfl (Nat.le_of_ble_eq_true rfl) (Nat.le_of_ble_eq_true rfl) (m_X7_liarsOf lw tl tt M_9 q_3 9 hf_4 rfl _ hc_12) ?_
      obtain ⟨rfl, rfl⟩ := sm2 h
      exact T_iret dX8_lies_51 ⟨rfl, rfl, rfl, rfl⟩
    · have h := it_neg hc h
      refine T_aload_n dX8_lies_25 rfl ?_
      refine T_iload_n dX8_lies_26 rfl ?_
      obtain ⟨r_13, M_14, hc_15, h⟩ := bd2_some h
      refine T_cvi (as := [vI r_5]) dX8_lies_27 cw_X8_found ml_X8_100 mi_X8_found se_X8_found lyC_0 rfl (by decide) rfl (Nat.le_of_ble_eq_true rfl) (Nat.le_of_ble_eq_true rfl) (m_X8_found lw tl tt M r_5  _ _ hc_15) ?_
      obtain ⟨rfl, rfl⟩ := sm2 h
      exact T_iret dX8_lies_30 ⟨rfl, rfl, rfl, rfl⟩
def X8_day_L41 (M : Mem) (p2 : Nat) : Int32 × Int32 × Int32 → Option ((Int32 × Int32 × Int32) ⊕ (Int32 × Int32))
  | (x4, x5, x6) =>
    if (nI 3) ≤ x6 then some (.inr (x4, x5))
    else chk (inb x6 3 = true) (lett (finC 12 x6.toNatClampNeg) fun o_8 => oc o_8 none (fun q_10 => chk (isX1 q_10 = true) (if (gI M q_10 7) = 0 then lett (x6 + 1) fun x_12 => some (.inl (x4, x5, x_12))
    else chk (inb x6 3 = true) (lett (finC 12 x6.toNatClampNeg) fun o_15 => oc o_15 none (fun q_17 => chk (isX1 q_17 = true) (bd1 (F_X7_liarsOf M p2 q_17) fun r_19 => if x5 = (-9) then lett (x6 + 1) fun x_21 => some (.inl (r_19, x6, x_21))
    else if x4 ≤ r_19 then lett (x6 + 1) fun x_23 => some (.inl (x4, x5, x_23))
    else lett (x6 + 1) fun x_25 => some (.inl (r_19, x6, x_25))))))))
def F_X8_day (M : Mem) (x1 : Int32) : Option (Int32 × Mem) :=
 bd1 (F_X8_rowOf x1) fun o_1 => oc o_1 (some ((-1), M))
 (fun q_3 => chk (isX5 q_3 = true) (bd1 (F_X7_wrongIn M q_3) fun r_5 => if r_5 = 0 then bd2 (loop (X8_day_L41 M q_3) FU (0, (-9), 0)) fun x_27 x_28 => if x_28 = (-9) then some (x_28, M)
 else lett (sI M 0 12 x_27) fun M_29 => some (x_28, M_29)
 else bd2 (F_X8_found M r_5) fun r_31 M_32 => some (r_31, M_32)))
set_option maxRecDepth 100000 in
set_option maxHeartbeats 4000000 in
theorem s_X8_day_L41 (lw : Nat → Option Nat) (tl : Option Nat) (tt : Option Nat) (M : Mem) (p2 : Nat) (h2 : isX5 p2 = true) (x4 : Int32) (x5 : Int32) (x6 : Int32) {Po : Po_} (x : (Int32 × Int32 × Int32) ⊕ (Int32 × Int32)) (h : X8_day_L41 M p2 (x4, x5, x6) = some x) (hI : ∀ (ix4 : Int32) (ix5 : Int32) (ix6 : Int32), x = .inl (ix4, ix5, ix6) → T RX8 cX8_day 8 (some .int) 0 5 0 0 false Po 41 [aR (some 0), aU, aR (some p2), aU, aI ix4, aI ix5, aI ix6, aU] [] LAYC (rfs lw tl tt) M 0 0) (hE0 : ∀ (e4 : Int32) (e5 : Int32), x = .inr (e4, e5) → T RX8 cX8_day 8 (some .int) 0 5 0 0 false Po 105 [aR (some 0), aU, aU, aU, aI e4, aI e5, aU, aU] [] LAYC (rfs lw tl tt) M 0 0) : T RX8 cX8_day 8 (some .int) 0 5 0 0 false Po 41 [aR (some 0), aU, aR (some p2), aU, aI x4, aI x5, aI x6, aU] [] LAYC (rfs lw tl tt) M 0 0 := by
  unfold X8_day_L41 at h
  simp only at h
  refine T_iload dX8_day_41 rfl ?_
  refine T_aload_n dX8_day_43 rfl ?_
  refine T_getR dX8_day_44 clOK_X8 fl_X8_41 lyC_0 rfl rfl ?_
  refine T_alen dX8_day_47 lyC_12 (Or.inr (Or.inr (Or.inl rfl))) rfl ?_
  refine T_icmp_ge (tgt := 105) dX8_day_48 (by decide) (fun hc => ?_) (fun hc => ?_)
  · have h := it_pos hc h
    obtain rfl := sm1 h
    refine T_mask [true, true, false, true, true, true, false, true] rfl ?_
    exact hE0 _ _ rfl
  · have h := it_neg hc h
    refine T_aload_n dX8_day_51 rfl ?_
    refine T_getR dX8_day_52 clOK_X8 fl_X8_41 lyC_0 rfl rfl ?_
    refine T_iload dX8_day_55 rfl ?_
    obtain ⟨hi_7, h⟩ := chk_some h
    obtain ⟨o_8, eo_9, h⟩ := lett_some h
    refine T_aald dX8_day_57 lyC_12 (Or.inl rfl) (inb_in hi_7) (Eq.symm eo_9) ?_
    cases o_8 with
    | none => exact absurd (oc_none h) (fun e => by cases e)
    | some q_10 =>
      have h := oc_some h
      obtain ⟨hf_11, h⟩ := chk_some h
      refine T_getZ dX8_day_58 clOK_X1 fl_X8_210 (lyX1 hf_11) rfl ?_
      refine T_if_eq (tgt := 99) dX8_day_61 (by decide) (fun hc => ?_) (fun hc => ?_)
      · have h := it_pos hc h
        obtain ⟨x_12, ex_13, h⟩ := lett_some h
        refine T_iinc (L' := [aR (some 0), aU, aR (some p2), aU, aI x4, aI x5, aI x_12, aU]) dX8_day_99 rfl (ic_inc ic_1 ex_13) (Nat.le_of_ble_eq_true rfl) rfl ?_
        refine T_goto (tgt := 41) dX8_day_102 (by decide) ?_
        obtain rfl := sm1 h
        exact hI _ _ _ rfl
      · have h := it_neg hc h
        refine T_aload_n dX8_day_64 rfl ?_
        refine T_aload_n dX8_day_65 rfl ?_
        refine T_getR dX8_day_66 clOK_X8 fl_X8_41 lyC_0 rfl rfl ?_
        refine T_iload dX8_day_69 rfl ?_
        obtain ⟨hi_14, h⟩ := chk_some h
        obtain ⟨o_15, eo_16, h⟩ := lett_some h
        refine T_aald dX8_day_71 lyC_12 (Or.inl rfl) (inb_in hi_14) (Eq.symm eo_16) ?_
        cases o_15 with
        | none => exact absurd (oc_none h) (fun e => by cases e)
        | some q_17 =>
          have h := oc_some h
          obtain ⟨hf_18, h⟩ := chk_some h
          obtain ⟨r_19, hc_20, h⟩ := bd1_some h
          refine T_csi (as := [vR (some p2), vR (some q_17)]) dX8_day_72 cw_X7_liarsOf ml_X8_326 mt_X7_liarsOf rfl (Nat.le_of_ble_eq_true rfl) (Nat.le_of_ble_eq_true rfl) (m_X7_liarsOf lw tl tt M p2 q_17 h2 hf_18 _ hc_20) ?_
          refine T_istore (i := 7) (L' := [aR (some 0), aU, aR (some p2), aU, aI x4, aI x5, aI x6, aI r_19]) dX8_day_75 (Nat.le_of_ble_eq_true rfl) rfl ?_
          refine T_iload dX8_day_77 rfl ?_
          refine T_bipush dX8_day_79 bp_m9 ?_
          refine T_icmp_eq (tgt := 91) dX8_day_81 (by decide) (fun hc => ?_) (fun hc => ?_)
          · have h := it_pos hc h
            refine T_iload dX8_day_91 rfl ?_
            refine T_istore (i := 4) (L' := [aR (some 0), aU, aR (some p2), aU, aI r_19, aI x5, aI x6, aI r_19]) dX8_day_93 (Nat.le_of_ble_eq_true rfl) rfl ?_
            refine T_iload dX8_day_95 rfl ?_
            refine T_istore (i := 5) (L' := [aR (some 0), aU, aR (some p2), aU, aI r_19, aI x6, aI x6, aI r_19]) dX8_day_97 (Nat.le_of_ble_eq_true rfl) rfl ?_
            obtain ⟨x_21, ex_22, h⟩ := lett_some h
            refine T_iinc (L' := [aR (some 0), aU, aR (some p2), aU, aI r_19, aI x6, aI x_21, aI r_19]) dX8_day_99 rfl (ic_inc ic_1 ex_22) (Nat.le_of_ble_eq_true rfl) rfl ?_
            refine T_goto (tgt := 41) dX8_day_102 (by decide) ?_
            obtain rfl := sm1 h
            refine T_mask [true, true, true, true, true, true, true, false] rfl ?_
            exact hI _ _ _ rfl
          · have h := it_neg hc h
            refine T_iload dX8_day_84 rfl ?_
            refine T_iload dX8_day_86 rfl ?_
            refine T_icmp_ge (tgt := 99) dX8_day_88 (by decide) (fun hc => ?_) (fun hc => ?_)
            · have h := it_pos hc h
              obtain ⟨x_23, ex_24, h⟩ := lett_some h
              refine T_iinc (L' := [aR (some 0), aU, aR (some p2), aU, aI x4, aI x5, aI x_23, aI r_19]) dX8_day_99 rfl (ic_inc ic_1 ex_24) (Nat.le_of_ble_eq_true rfl) rfl ?_
              refine T_goto (tgt := 41) dX8_day_102 (by decide) ?_
              obtain rfl := sm1 h
              refine T_mask [true, true, true, true, true, true, true, false] rfl ?_
              exact hI _ _ _ rfl
            · have h := it_neg hc h
              refine T_iload dX8_day_91 rfl ?_
              refine T_istore (i := 4) (L' := [aR (some 0), aU, aR (some p2), aU, aI r_19, aI x5, aI x6, aI r_19]) dX8_day_93 (Nat.le_of_ble_eq_true rfl) rfl ?_
              refine T_iload dX8_day_95 rfl ?_
              refine T_istore (i := 5) (L' := [aR (some 0), aU, aR (some p2), aU, aI r_19, aI x6, aI x6, aI r_19]) dX8_day_97 (Nat.le_of_ble_eq_true rfl) rfl ?_
              obtain ⟨x_25, ex_26, h⟩ := lett_some h
              refine T_iinc (L' := [aR (some 0), aU, aR (some p2), aU, aI r_19, aI x6, aI x_25, aI r_19]) dX8_day_99 rfl (ic_inc ic_1 ex_26) (Nat.le_of_ble_eq_true rfl) rfl ?_
              refine T_goto (tgt := 41) dX8_day_102 (by decide) ?_
              obtain rfl := sm1 h
              refine T_mask [true, true, true, true, true, true, true, false] rfl ?_
              exact hI _ _ _ rfl
set_option maxRecDepth 100000 in
set_option maxHeartbeats 4000000 in
theorem l_X8_day_L41 (lw : Nat → Option Nat) (tl : Option Nat) (tt : Option Nat) (M : Mem) (p2 : Nat) (h2 : isX5 p2 = true) {Po : Po_} (e4 : Int32) (e5 : Int32) : ∀ (k : Nat) (x4 : Int32) (x5 : Int32) (x6 : Int32), loop (X8_day_L41 M p2) k (x4, x5, x6) = some (e4, e5) → (T RX8 cX8_day 8 (some .int) 0 5 0 0 false Po 105 [aR (some 0), aU, aU, aU, aI e4, aI e5, aU, aU] [] LAYC (rfs lw tl tt) M 0 0) → T RX8 cX8_day 8 (some .int) 0 5 0 0 false Po 41 [aR (some 0), aU, aR (some p2), aU, aI x4, aI x5, aI x6, aU] [] LAYC (rfs lw tl tt) M 0 0 := by
  intro k
  induction k with
  | zero => intro x4 x5 x6 h; cases h
  | succ k ih =>
    intro x4 x5 x6 h hE
    obtain ⟨x, hx, hx1, hx2⟩ := loop_succ h
    exact s_X8_day_L41  lw tl tt M p2 h2 x4 x5 x6 x hx (fun q0 q1 q2 e => ih q0 q1 q2 (hx1 _ e) hE) (fun q0 q1 e => by cases hx2 _ e; exact hE)
set_option maxRecDepth 100000 in
set_option maxHeartbeats 4000000 in
theorem m_X8_day (lw : Nat → Option Nat) (tl : Option Nat) (tt : Option Nat) (M : Mem) (x1 : Int32) (r : Int32) (M' : Mem) (h : F_X8_day M x1 = some (r, M')) : Cal yX8_day cX8_day 8 (some .int) 0 5 0 0 false [vR (some 0), vI x1] LAYC (rfs lw tl tt) M (eqp (vI r) LAYC (rfs lw tl tt) M') := by
  refine Cal.of (by decide +kernel) (Nat.le_of_ble_eq_true rfl) (fun h => by cases h) ?_
  unfold F_X8_day at h
  show T RX8 cX8_day 8 (some .int) 0 5 0 0 false (eqp (vI r) LAYC (rfs lw tl tt) M') 0 [aR (some 0), aI x1, aU, aU, aU, aU, aU, aU] [] LAYC (rfs lw tl tt) M 0 0
  refine T_aload_n dX8_day_0 rfl ?_
  refine T_iload_n dX8_day_1 rfl ?_
  obtain ⟨o_1, hc_2, h⟩ := bd1_some h
  refine T_cvq (as := [vI x1]) dX8_day_2 cw_X8_rowOf ml_X8_88 mi_X8_rowOf se_X8_rowOf lyC_0 rfl (by decide) rfl (Nat.le_of_ble_eq_true rfl) (Nat.le_of_ble_eq_true rfl) (m_X8_rowOf lw tl tt M x1  _ hc_2) ?_
  refine T_astore_n (i := 2) (L' := [aR (some 0), aI x1, aR o_1, aU, aU, aU, aU, aU]) dX8_day_5 rfl (Nat.le_of_ble_eq_true rfl) rfl ?_
  refine T_aload_n dX8_day_6 rfl ?_
  cases o_1 with
  | none =>
    have h := oc_none h
    refine T_ifnonnull0 dX8_day_7 ?_
    refine T_iconst dX8_day_10 ic_m1 ?_
    obtain ⟨rfl, rfl⟩ := sm2 h
    exact T_iret dX8_day_11 ⟨rfl, rfl, rfl, rfl⟩
  | some q_3 =>
    have h := oc_some h
    refine T_ifnonnull1 (tgt := 12) dX8_day_7 (by decide) ?_
    refine T_aload_n dX8_day_12 rfl ?_
    refine T_aload_n dX8_day_13 rfl ?_
    refine T_getR dX8_day_14 clOK_X8 fl_X8_28 lyC_0 rfl rfl ?_
    obtain ⟨hf_4, h⟩ := chk_some h
    obtain ⟨r_5, hc_6, h⟩ := bd1_some h
    refine T_csi (as := [vR (some q_3), vR (some 7)]) dX8_day_17 cw_X7_wrongIn ml_X8_316 mt_X7_wrongIn rfl (Nat.le_of_ble_eq_true rfl) (Nat.le_of_ble_eq_true rfl) (m_X7_wrongIn lw tl tt M q_3 hf_4 _ hc_6) ?_
    refine T_istore_n (i := 3) (L' := [aR (some 0), aI x1, aR (some q_3), aI r_5, aU, aU, aU, aU]) dX8_day_20 rfl (Nat.le_of_ble_eq_true rfl) rfl ?_
    refine T_iload_n dX8_day_21 rfl ?_
    refine T_if_eq (tgt := 31) dX8_day_22 (by decide) (fun hc => ?_) (fun hc => ?_)
    · have h := it_pos hc h
      refine T_iconst dX8_day_31 ic_0 ?_
      refine T_istore (i := 4) (L' := [aR (some 0), aI x1, aR (some q_3), aI r_5, aI 0, aU, aU, aU]) dX8_day_32 (Nat.le_of_ble_eq_true rfl) rfl ?_
      refine T_bipush dX8_day_34 bp_m9 ?_
      refine T_istore (i := 5) (L' := [aR (some 0), aI x1, aR (some q_3), aI r_5, aI 0, aI (-9), aU, aU]) dX8_day_36 (Nat.le_of_ble_eq_true rfl) rfl ?_
      refine T_iconst dX8_day_38 ic_0 ?_
      refine T_istore (i := 6) (L' := [aR (some 0), aI x1, aR (some q_3), aI r_5, aI 0, aI (-9), aI 0, aU]) dX8_day_39 (Nat.le_of_ble_eq_true rfl) rfl ?_
      obtain ⟨x_27, x_28, hl, h⟩ := bd2_some h
      refine T_mask [true, false, true, false, true, true, true, true] rfl ?_
      refine l_X8_day_L41  lw tl tt M q_3 hf_4 _ _ FU 0 (-9) 0 hl ?_
      refine T_iload dX8_day_105 rfl ?_
      refine T_bipush dX8_day_107 bp_m9 ?_
      refine T_icmp_eq (tgt := 118) dX8_day_109 (by decide) (fun hc => ?_) (fun hc => ?_)
      · have h := it_pos hc h
        refine T_iload dX8_day_118 rfl ?_
        obtain ⟨rfl, rfl⟩ := sm2 h
        exact T_iret dX8_day_120 ⟨rfl, rfl, rfl, rfl⟩
      · have h := it_neg hc h
        refine T_aload_n dX8_day_112 rfl ?_
        refine T_iload dX8_day_113 rfl ?_
        obtain ⟨M_29, eM_30, h⟩ := lett_some h
        refine T_putI dX8_day_115 clOK_X8 fl_X8_107 (Or.inl rfl) lyC_0 rfl rfl eM_30 ?_
        refine T_iload dX8_day_118 rfl ?_
        obtain ⟨rfl, rfl⟩ := sm2 h
        exact T_iret dX8_day_120 ⟨rfl, rfl, rfl, rfl⟩
    · have h := it_neg hc h
      refine T_aload_n dX8_day_25 rfl ?_
      refine T_iload_n dX8_day_26 rfl ?_
      obtain ⟨r_31, M_32, hc_33, h⟩ := bd2_some h
      refine T_cvi (as := [vI r_5]) dX8_day_27 cw_X8_found ml_X8_100 mi_X8_found se_X8_found lyC_0 rfl (by decide) rfl (Nat.le_of_ble_eq_true rfl) (Nat.le_of_ble_eq_true rfl) (m_X8_found lw tl tt M r_5  _ _ hc_33) ?_
      obtain ⟨rfl, rfl⟩ := sm2 h
      exact T_iret dX8_day_30 ⟨rfl, rfl, rfl, rfl⟩
def F_X8_grounds (M : Mem) (x1 : Int32) : Option (Int32 × Mem) :=
 bd1 (F_X8_rowOf x1) fun o_1 => oc o_1 (some ((-1), M))
 (fun q_3 => chk (isX5 q_3 = true) (bd1 (F_X7_wrongIn M q_3) fun r_5 => if r_5 = 0 then bd1 (F_X7_groundsBy M q_3) fun r_7 => bd2 (F_X8_tellFraction M r_7 1) fun r_9 M_10 => some (r_9, M_10)
 else bd2 (F_X8_found M r_5) fun r_12 M_13 => some (r_12, M_13)))
set_option maxRecDepth 100000 in
set_option maxHeartbeats 4000000 in
theorem m_X8_grounds (lw : Nat → Option Nat) (tl : Option Nat) (tt : Option Nat) (M : Mem) (x1 : Int32) (r : Int32) (M' : Mem) (h : F_X8_grounds M x1 = some (r, M')) : Cal yX8_grounds cX8_grounds 4 (some .int) 0 6 0 0 false [vR (some 0), vI x1] LAYC (rfs lw tl tt) M (eqp (vI r) LAYC (rfs lw tl tt) M') := by
  refine Cal.of (by decide +kernel) (Nat.le_of_ble_eq_true rfl) (fun h => by cases h) ?_
  unfold F_X8_grounds at h
  show T RX8 cX8_grounds 4 (some .int) 0 6 0 0 false (eqp (vI r) LAYC (rfs lw tl tt) M') 0 [aR (some 0), aI x1, aU, aU] [] LAYC (rfs lw tl tt) M 0 0
  refine T_aload_n dX8_grounds_0 rfl ?_
  refine T_iload_n dX8_grounds_1 rfl ?_
  obtain ⟨o_1, hc_2, h⟩ := bd1_some h
  refine T_cvq (as := [vI x1]) dX8_grounds_2 cw_X8_rowOf ml_X8_88 mi_X8_rowOf se_X8_rowOf lyC_0 rfl (by decide) rfl (Nat.le_of_ble_eq_true rfl) (Nat.le_of_ble_eq_true rfl) (m_X8_rowOf lw tl tt M x1  _ hc_2) ?_
  refine T_astore_n (i := 2) (L' := [aR (some 0), aI x1, aR o_1, aU]) dX8_grounds_5 rfl (Nat.le_of_ble_eq_true rfl) rfl ?_
  refine T_aload_n dX8_grounds_6 rfl ?_
  cases o_1 with
  | none =>
    have h := oc_none h
    refine T_ifnonnull0 dX8_grounds_7 ?_
    refine T_iconst dX8_grounds_10 ic_m1 ?_
    obtain ⟨rfl, rfl⟩ := sm2 h
    exact T_iret dX8_grounds_11 ⟨rfl, rfl, rfl, rfl⟩
  | some q_3 =>
    have h := oc_some h
    refine T_ifnonnull1 (tgt := 12) dX8_grounds_7 (by decide) ?_
    refine T_aload_n dX8_grounds_12 rfl ?_
    refine T_aload_n dX8_grounds_13 rfl ?_
    refine T_getR dX8_grounds_14 clOK_X8 fl_X8_28 lyC_0 rfl rfl ?_
    obtain ⟨hf_4, h⟩ := chk_some h
    obtain ⟨r_5, hc_6, h⟩ := bd1_some h
    refine T_csi (as := [vR (some q_3), vR (some 7)]) dX8_grounds_17 cw_X7_wrongIn ml_X8_316 mt_X7_wrongIn rfl (Nat.le_of_ble_eq_true rfl) (Nat.le_of_ble_eq_true rfl) (m_X7_wrongIn lw tl tt M q_3 hf_4 _ hc_6) ?_
    refine T_istore_n (i := 3) (L' := [aR (some 0), aI x1, aR (some q_3), aI r_5]) dX8_grounds_20 rfl (Nat.le_of_ble_eq_true rfl) rfl ?_
    refine T_iload_n dX8_grounds_21 rfl ?_
    refine T_if_eq (tgt := 31) dX8_grounds_22 (by decide) (fun hc => ?_) (fun hc => ?_)
    · have h := it_pos hc h
      refine T_aload_n dX8_grounds_31 rfl ?_
      refine T_aload_n dX8_grounds_32 rfl ?_
      refine T_aload_n dX8_grounds_33 rfl ?_
      refine T_getR dX8_grounds_34 clOK_X8 fl_X8_28 lyC_0 rfl rfl ?_
      obtain ⟨r_7, hc_8, h⟩ := bd1_some h
      refine T_csl (as := [vR (some q_3), vR (some 7)]) dX8_grounds_37 cw_X7_groundsBy ml_X8_329 mt_X7_groundsBy rfl (Nat.le_of_ble_eq_true rfl) (Nat.le_of_ble_eq_true rfl) (m_X7_groundsBy lw tl tt M q_3 hf_4 _ hc_8) ?_
      refine T_lconst dX8_grounds_40 lc_1 ?_
      obtain ⟨r_9, M_10, hc_11, h⟩ := bd2_some h
      refine T_cvi (as := [vJ r_7, vJ 1]) dX8_grounds_41 cw_X8_tellFraction ml_X8_306 mi_X8_tellFraction se_X8_tellFraction lyC_0 rfl (by decide) rfl (Nat.le_of_ble_eq_true rfl) (Nat.le_of_ble_eq_true rfl) (m_X8_tellFraction lw tl tt M r_7 1  _ _ hc_11) ?_
      obtain ⟨rfl, rfl⟩ := sm2 h
      exact T_iret dX8_grounds_44 ⟨rfl, rfl, rfl, rfl⟩
    · have h := it_neg hc h
      refine T_aload_n dX8_grounds_25 rfl ?_
      refine T_iload_n dX8_grounds_26 rfl ?_
      obtain ⟨r_12, M_13, hc_14, h⟩ := bd2_some h
      refine T_cvi (as := [vI r_5]) dX8_grounds_27 cw_X8_found ml_X8_100 mi_X8_found se_X8_found lyC_0 rfl (by decide) rfl (Nat.le_of_ble_eq_true rfl) (Nat.le_of_ble_eq_true rfl) (m_X8_found lw tl tt M r_5  _ _ hc_14) ?_
      obtain ⟨rfl, rfl⟩ := sm2 h
      exact T_iret dX8_grounds_30 ⟨rfl, rfl, rfl, rfl⟩
def X8_odds_L41 (M : Mem) (x2 : Int32) (x3 : Int32) : Int64 × Int64 × Int32 → Option ((Int64 × Int64 × Int32) ⊕ (Int32 × Mem))
  | (x4, x6, x8) =>
    if (gI M 7 0) ≤ x8 then bd2 (F_X8_tellFraction M x4 x6) fun r_5 M_6 => some (.inr (r_5, M_6))
    else if ((ius x3 x8) &&& 1) = 0 then lett (x8 + 1) fun x_8 => some (.inl (x4, x6, x_8))
    else bd1 (F_X1_depthAt M 9 x8) fun r_10 => if r_10 = 1 then lett (x4 * (((nI 12) - x2).toInt64)) fun x_14 => lett (x6 * 12) fun x_16 => lett (x8 + 1) fun x_18 => some (.inl (x_14, x_16, x_18))
    else lett (x8 + 1) fun x_12 => some (.inl (x4, x6, x_12))
def F_X8_odds (M : Mem) (x1 : Int32) (x2 : Int32) : Option (Int32 × Mem) :=
 bd1 (F_X1_has M 9 x1) fun r_1 => if r_1 = 0 then some ((-1), M)
 else if x2 < 0 then some ((-1), M)
 else if x2 ≤ (nI 12) then bd1 (F_X1_bitsOf M 9 x1) fun r_3 => loop (X8_odds_L41 M x2 r_3) FU (1, 1, 0)
 else some ((-1), M)
set_option maxRecDepth 100000 in
set_option maxHeartbeats 4000000 in
theorem s_X8_odds_L41 (lw : Nat → Option Nat) (tl : Option Nat) (tt : Option Nat) (M : Mem) (x2 : Int32) (x3 : Int32) (x4 : Int64) (x6 : Int64) (x8 : Int32) {Po : Po_} (x : (Int64 × Int64 × Int32) ⊕ (Int32 × Mem)) (h : X8_odds_L41 M x2 x3 (x4, x6, x8) = some x) (hI : ∀ (ix4 : Int64) (ix6 : Int64) (ix8 : Int32), x = .inl (ix4, ix6, ix8) → T RX8 cX8_odds 9 (some .int) 0 3 0 0 false Po 41 [aR (some 0), aU, aI x2, aI x3, aJ ix4, aU, aJ ix6, aU, aI ix8] [] LAYC (rfs lw tl tt) M 0 0) (hE0 : ∀ (er : Int32) (eM : Mem), x = .inr (er, eM) → Po (vI er) LAYC (rfs lw tl tt) eM) : T RX8 cX8_odds 9 (some .int) 0 3 0 0 false Po 41 [aR (some 0), aU, aI x2, aI x3, aJ x4, aU, aJ x6, aU, aI x8] [] LAYC (rfs lw tl tt) M 0 0 := by
  unfold X8_odds_L41 at h
  simp only at h
  refine T_iload dX8_odds_41 rfl ?_
  refine T_aload_n dX8_odds_43 rfl ?_
  refine T_getR dX8_odds_44 clOK_X8 fl_X8_28 lyC_0 rfl rfl ?_
  refine T_getI dX8_odds_47 clOK_X2 fl_X8_164 lyC_7 rfl ?_
  refine T_icmp_ge (tgt := 99) dX8_odds_50 (by decide) (fun hc => ?_) (fun hc => ?_)
  · have h := it_pos hc h
    refine T_aload_n dX8_odds_99 rfl ?_
    refine T_lload dX8_odds_100 rfl ?_
    refine T_lload dX8_odds_102 rfl ?_
    obtain ⟨r_5, M_6, hc_7, h⟩ := bd2_some h
    refine T_cvi (as := [vJ x4, vJ x6]) dX8_odds_104 cw_X8_tellFraction ml_X8_306 mi_X8_tellFraction se_X8_tellFraction lyC_0 rfl (by decide) rfl (Nat.le_of_ble_eq_true rfl) (Nat.le_of_ble_eq_true rfl) (m_X8_tellFraction lw tl tt M x4 x6  _ _ hc_7) ?_
    obtain rfl := sm1 h
    exact T_iret dX8_odds_107 (hE0 _ _ rfl)
  · have h := it_neg hc h
    refine T_iload_n dX8_odds_53 rfl ?_
    refine T_iload dX8_odds_54 rfl ?_
    refine T_iushr dX8_odds_56 ?_
    refine T_iconst dX8_odds_57 ic_1 ?_
    refine T_iand dX8_odds_58 ?_
    refine T_if_eq (tgt := 93) dX8_odds_59 (by decide) (fun hc => ?_) (fun hc => ?_)
    · have h := it_pos hc h
      obtain ⟨x_8, ex_9, h⟩ := lett_some h
      refine T_iinc (L' := [aR (some 0), aU, aI x2, aI x3, aJ x4, aU, aJ x6, aU, aI x_8]) dX8_odds_93 rfl (ic_inc ic_1 ex_9) (Nat.le_of_ble_eq_true rfl) rfl ?_
      refine T_goto (tgt := 41) dX8_odds_96 (by decide) ?_
      obtain rfl := sm1 h
      exact hI _ _ _ rfl
    · have h := it_neg hc h
      refine T_aload_n dX8_odds_62 rfl ?_
      refine T_getR dX8_odds_63 clOK_X8 fl_X8_37 lyC_0 rfl rfl ?_
      refine T_iload dX8_odds_66 rfl ?_
      obtain ⟨r_10, hc_11, h⟩ := bd1_some h
      refine T_cvi (as := [vI x8]) dX8_odds_68 cw_X1_depthAt ml_X8_203 mi_X1_depthAt se_X1_depthAt lyC_9 rfl (by decide) rfl (Nat.le_of_ble_eq_true rfl) (Nat.le_of_ble_eq_true rfl) (m_X1_depthAt lw tl tt M 9 x8 rfl _ hc_11) ?_
      refine T_iconst dX8_odds_71 ic_1 ?_
      refine T_icmp_ne (tgt := 93) dX8_odds_72 (by decide) (fun hc => ?_) (fun hc => ?_)
      · have h := it_neg hc h
        obtain ⟨x_12, ex_13, h⟩ := lett_some h
        refine T_iinc (L' := [aR (some 0), aU, aI x2, aI x3, aJ x4, aU, aJ x6, aU, aI x_12]) dX8_odds_93 rfl (ic_inc ic_1 ex_13) (Nat.le_of_ble_eq_true rfl) rfl ?_
        refine T_goto (tgt := 41) dX8_odds_96 (by decide) ?_
        obtain rfl := sm1 h
        exact hI _ _ _ rfl
      · have h := it_pos hc h
        refine T_lload dX8_odds_75 rfl ?_
        refine T_bipush dX8_odds_77 bp_12 ?_
        refine T_iload_n dX8_odds_79 rfl ?_
        refine T_isub dX8_odds_80 ?_
        refine T_i2l dX8_odds_81 ?_
        refine T_lmul dX8_odds_82 ?_
        obtain ⟨x_14, ex_15, h⟩ := lett_some h
        refine T_topJ ex_15 ?_
        refine T_lstore (i := 4) (L' := [aR (some 0), aU, aI x2, aI x3, aJ x_14, aU, aJ x6, aU, aI x8]) dX8_odds_83 (Nat.le_of_ble_eq_true rfl) rfl ?_
        refine T_lload dX8_odds_85 rfl ?_
        refine T_ldc2 dX8_odds_87 kl_X8_333 ?_
        refine T_lmul dX8_odds_90 ?_
        obtain ⟨x_16, ex_17, h⟩ := lett_some h
        refine T_topJ ex_17 ?_
        refine T_lstore (i := 6) (L' := [aR (some 0), aU, aI x2, aI x3, aJ x_14, aU, aJ x_16, aU, aI x8]) dX8_odds_91 (Nat.le_of_ble_eq_true rfl) rfl ?_
        obtain ⟨x_18, ex_19, h⟩ := lett_some h
        refine T_iinc (L' := [aR (some 0), aU, aI x2, aI x3, aJ x_14, aU, aJ x_16, aU, aI x_18]) dX8_odds_93 rfl (ic_inc ic_1 ex_19) (Nat.le_of_ble_eq_true rfl) rfl ?_
        refine T_goto (tgt := 41) dX8_odds_96 (by decide) ?_
        obtain rfl := sm1 h
        exact hI _ _ _ rfl
set_option maxRecDepth 100000 in
set_option maxHeartbeats 4000000 in
theorem l_X8_odds_L41 (lw : Nat → Option Nat) (tl : Option Nat) (tt : Option Nat) (M : Mem) (x2 : Int32) (x3 : Int32) {Po : Po_} (er : Int32) (eM : Mem) : ∀ (k : Nat) (x4 : Int64) (x6 : Int64) (x8 : Int32), loop (X8_odds_L41 M x2 x3) k (x4, x6, x8) = some (er, eM) → (Po (vI er) LAYC (rfs lw tl tt) eM) → T RX8 cX8_odds 9 (some .int) 0 3 0 0 false Po 41 [aR (some 0), aU, aI x2, aI x3, aJ x4, aU, aJ x6, aU, aI x8] [] LAYC (rfs lw tl tt) M 0 0 := by
  intro k
  induction k with
  | zero => intro x4 x6 x8 h; cases h
  | succ k ih =>
    intro x4 x6 x8 h hE
    obtain ⟨x, hx, hx1, hx2⟩ := loop_succ h
    exact s_X8_odds_L41  lw tl tt M x2 x3  x4 x6 x8 x hx (fun q0 q1 q2 e => ih q0 q1 q2 (hx1 _ e) hE) (fun q0 q1 e => by cases hx2 _ e; exact hE)
set_option maxRecDepth 100000 in
set_option maxHeartbeats 4000000 in
theorem m_X8_odds (lw : Nat → Option Nat) (tl : Option Nat) (tt : Option Nat) (M : Mem) (x1 : Int32) (x2 : Int32) (r : Int32) (M' : Mem) (h : F_X8_odds M x1 x2 = some (r, M')) : Cal yX8_odds cX8_odds 9 (some .int) 0 3 0 0 false [vR (some 0), vI x1, vI x2] LAYC (rfs lw tl tt) M (eqp (vI r) LAYC (rfs lw tl tt) M') := by
  refine Cal.of (by decide +kernel) (Nat.le_of_ble_eq_true rfl) (fun h => by cases h) ?_
  unfold F_X8_odds at h
  show T RX8 cX8_odds 9 (some .int) 0 3 0 0 false (eqp (vI r) LAYC (rfs lw tl tt) M') 0 [aR (some 0), aI x1, aI x2, aU, aU, aU, aU, aU, aU] [] LAYC (rfs lw tl tt) M 0 0
  refine T_aload_n dX8_odds_0 rfl ?_
  refine T_getR dX8_odds_1 clOK_X8 fl_X8_37 lyC_0 rfl rfl ?_
  refine T_iload_n dX8_odds_4 rfl ?_
  obtain ⟨r_1, hc_2, h⟩ := bd1_some h
  refine T_cvi (as := [vI x1]) dX8_odds_5 cw_X1_has ml_X8_189 mi_X1_has se_X1_has lyC_9 rfl (by decide) rfl (Nat.le_of_ble_eq_true rfl) (Nat.le_of_ble_eq_true rfl) (m_X1_has lw tl tt M 9 x1 rfl _ hc_2) ?_
  refine T_if_eq (tgt := 21) dX8_odds_8 (by decide) (fun hc => ?_) (fun hc => ?_)
  · have h := it_pos hc h
    refine T_iconst dX8_odds_21 ic_m1 ?_
    obtain ⟨rfl, rfl⟩ := sm2 h
    exact T_iret dX8_odds_22 ⟨rfl, rfl, rfl, rfl⟩
  · have h := it_neg hc h
    refine T_iload_n dX8_odds_11 rfl ?_
    refine T_if_lt (tgt := 21) dX8_odds_12 (by decide) (fun hc => ?_) (fun hc => ?_)
    · have h := it_pos hc h
      refine T_iconst dX8_odds_21 ic_m1 ?_
      obtain ⟨rfl, rfl⟩ := sm2 h
      exact T_iret dX8_odds_22 ⟨rfl, rfl, rfl, rfl⟩
    · have h := it_neg hc h
      refine T_iload_n dX8_odds_15 rfl ?_
      refine T_bipush dX8_odds_16 bp_12 ?_
      refine T_icmp_le (tgt := 23) dX8_odds_18 (by decide) (fun hc => ?_) (fun hc => ?_)
      · have h := it_pos hc h
        refine T_aload_n dX8_odds_23 rfl ?_
        refine T_getR dX8_odds_24 clOK_X8 fl_X8_37 lyC_0 rfl rfl ?_
        refine T_iload_n dX8_odds_27 rfl ?_
        obtain ⟨r_3, hc_4, h⟩ := bd1_some h
        refine T_cvi (as := [vI x1]) dX8_odds_28 cw_X1_bitsOf ml_X8_258 mi_X1_bitsOf se_X1_bitsOf lyC_9 rfl (by decide) rfl (Nat.le_of_ble_eq_true rfl) (Nat.le_of_ble_eq_true rfl) (m_X1_bitsOf lw tl tt M 9 x1 rfl _ hc_4) ?_
        refine T_istore_n (i := 3) (L' := [aR (some 0), aI x1, aI x2, aI r_3, aU, aU, aU, aU, aU]) dX8_odds_31 rfl (Nat.le_of_ble_eq_true rfl) rfl ?_
        refine T_lconst dX8_odds_32 lc_1 ?_
        refine T_lstore (i := 4) (L' := [aR (some 0), aI x1, aI x2, aI r_3, aJ 1, aU, aU, aU, aU]) dX8_odds_33 (Nat.le_of_ble_eq_true rfl) rfl ?_
        refine T_lconst dX8_odds_35 lc_1 ?_
        refine T_lstore (i := 6) (L' := [aR (some 0), aI x1, aI x2, aI r_3, aJ 1, aU, aJ 1, aU, aU]) dX8_odds_36 (Nat.le_of_ble_eq_true rfl) rfl ?_
        refine T_iconst dX8_odds_38 ic_0 ?_
        refine T_istore (i := 8) (L' := [aR (some 0), aI x1, aI x2, aI r_3, aJ 1, aU, aJ 1, aU, aI 0]) dX8_odds_39 (Nat.le_of_ble_eq_true rfl) rfl ?_
        refine T_mask [true, false, true, true, true, true, true, true, true] rfl ?_
        exact l_X8_odds_L41  lw tl tt M x2 r_3  _ _ FU 1 1 0 h ⟨rfl, rfl, rfl, rfl⟩
      · have h := it_neg hc h
        refine T_iconst dX8_odds_21 ic_m1 ?_
        obtain ⟨rfl, rfl⟩ := sm2 h
        exact T_iret dX8_odds_22 ⟨rfl, rfl, rfl, rfl⟩
def F_X8_waysToVanish : Nat → Int32 → Int32 → Int32 → Option (Int64)
  | 0, _, _, _ => none
  | n + 1, x0, x1, x2 =>
    if 0 < x1 then if 0 < x0 then bd1 ((F_X8_waysToVanish n) (x0 - 1) (x1 - 1) x2) fun r_1 => bd1 ((F_X8_waysToVanish n) x0 (x1 - 1) x2) fun r_3 => some ((x2.toInt64 * r_1) + ((((nI 12) - x2).toInt64) * r_3))
    else bd1 ((F_X8_waysToVanish n) 0 (x1 - 1) x2) fun r_5 => some (12 * r_5)
    else if 0 < x0 then some 0
    else some 1
set_option maxRecDepth 100000 in
set_option maxHeartbeats 4000000 in
theorem m_X8_waysToVanish : ∀ (n : Nat) (lw : Nat → Option Nat) (tl : Option Nat) (tt : Option Nat) (M : Mem) (x0 : Int32) (x1 : Int32) (x2 : Int32) (r : Int64), F_X8_waysToVanish n x0 x1 x2 = some r → Cal yX8_waysToVanish cX8_waysToVanish 3 (some .long) 1 (1 + n) 0 0 false [vI x0, vI x1, vI x2] LAYC (rfs lw tl tt) M (eqp (vJ r) LAYC (rfs lw tl tt) M) := by
  intro n
  induction n with
  | zero => intro lw tl tt M x0 x1 x2 r h; cases h
  | succ n ih =>
    intro lw tl tt M x0 x1 x2 r h
    refine Cal.of (by decide +kernel) (Nat.le_of_ble_eq_true rfl) (fun h => by cases h) ?_
    simp only [F_X8_waysToVanish] at h
    show T RX8 cX8_waysToVanish 3 (some .long) 1 (1 + (n + 1)) 0 0 false (eqp (vJ r) LAYC (rfs lw tl tt) M) 0 [aI x0, aI x1, aI x2] [] LAYC (rfs lw tl tt) M 0 0
    refine T_iload_n dX8_waysToVanish_0 rfl ?_
    refine T_if_gt (tgt := 14) dX8_waysToVanish_1 (by decide) (fun hc => ?_) (fun hc => ?_)
    · have h := it_pos hc h
      refine T_iload_n dX8_waysToVanish_14 rfl ?_
      refine T_if_gt (tgt := 31) dX8_waysToVanish_15 (by decide) (fun hc => ?_) (fun hc => ?_)
      · have h := it_pos hc h
        refine T_iload_n dX8_waysToVanish_31 rfl ?_
        refine T_i2l dX8_waysToVanish_32 ?_
        refine T_iload_n dX8_waysToVanish_33 rfl ?_
        refine T_iconst dX8_waysToVanish_34 ic_1 ?_
        refine T_isub dX8_waysToVanish_35 ?_
        refine T_iload_n dX8_waysToVanish_36 rfl ?_
        refine T_iconst dX8_waysToVanish_37 ic_1 ?_
        refine T_isub dX8_waysToVanish_38 ?_
        refine T_iload_n dX8_waysToVanish_39 rfl ?_
        obtain ⟨r_1, hc_2, h⟩ := bd1_some h
        refine T_csl (as := [vI (x0 - 1), vI (x1 - 1), vI x2]) dX8_waysToVanish_40 cw_X8_waysToVanish ml_X8_335 mt_X8_waysToVanish rfl (Nat.le_of_ble_eq_true rfl) (by omega) (ih lw tl tt M (x0 - 1) (x1 - 1) x2  _ hc_2) ?_
        refine T_lmul dX8_waysToVanish_43 ?_
        refine T_bipush dX8_waysToVanish_44 bp_12 ?_
        refine T_iload_n dX8_waysToVanish_46 rfl ?_
        refine T_isub dX8_waysToVanish_47 ?_
        refine T_i2l dX8_waysToVanish_48 ?_
        refine T_iload_n dX8_waysToVanish_49 rfl ?_
        refine T_iload_n dX8_waysToVanish_50 rfl ?_
        refine T_iconst dX8_waysToVanish_51 ic_1 ?_
        refine T_isub dX8_waysToVanish_52 ?_
        refine T_iload_n dX8_waysToVanish_53 rfl ?_
        obtain ⟨r_3, hc_4, h⟩ := bd1_some h
        refine T_csl (as := [vI x0, vI (x1 - 1), vI x2]) dX8_waysToVanish_54 cw_X8_waysToVanish ml_X8_335 mt_X8_waysToVanish rfl (Nat.le_of_ble_eq_true rfl) (by omega) (ih lw tl tt M x0 (x1 - 1) x2  _ hc_4) ?_
        refine T_lmul dX8_waysToVanish_57 ?_
        refine T_ladd dX8_waysToVanish_58 ?_
        obtain rfl := sm1 h
        exact T_lret dX8_waysToVanish_59 ⟨rfl, rfl, rfl, rfl⟩
      · have h := it_neg hc h
        refine T_ldc2 dX8_waysToVanish_18 kl_X8_333 ?_
        refine T_iconst dX8_waysToVanish_21 ic_0 ?_
        refine T_iload_n dX8_waysToVanish_22 rfl ?_
        refine T_iconst dX8_waysToVanish_23 ic_1 ?_
        refine T_isub dX8_waysToVanish_24 ?_
        refine T_iload_n dX8_waysToVanish_25 rfl ?_
        obtain ⟨r_5, hc_6, h⟩ := bd1_some h
        refine T_csl (as := [vI 0, vI (x1 - 1), vI x2]) dX8_waysToVanish_26 cw_X8_waysToVanish ml_X8_335 mt_X8_waysToVanish rfl (Nat.le_of_ble_eq_true rfl) (by omega) (ih lw tl tt M 0 (x1 - 1) x2  _ hc_6) ?_
        refine T_lmul dX8_waysToVanish_29 ?_
        obtain rfl := sm1 h
        exact T_lret dX8_waysToVanish_30 ⟨rfl, rfl, rfl, rfl⟩
    · have h := it_neg hc h
      refine T_iload_n dX8_waysToVanish_4 rfl ?_
      refine T_if_gt (tgt := 12) dX8_waysToVanish_5 (by decide) (fun hc => ?_) (fun hc => ?_)
      · have h := it_pos hc h
        refine T_lconst dX8_waysToVanish_12 lc_0 ?_
        obtain rfl := sm1 h
        exact T_lret dX8_waysToVanish_13 ⟨rfl, rfl, rfl, rfl⟩
      · have h := it_neg hc h
        refine T_lconst dX8_waysToVanish_8 lc_1 ?_
        refine T_goto (tgt := 13) dX8_waysToVanish_9 (by decide) ?_
        obtain rfl := sm1 h
        exact T_lret dX8_waysToVanish_13 ⟨rfl, rfl, rfl, rfl⟩
