def X3_allMatching_L6 (M : Mem) (p0 : Nat) (p1 : Nat) (x2 : Int32) (p3 : Nat) : Int32 × Int32 → Option ((Int32 × Int32) ⊕ (Int32))
  | (x4, x5) =>
    if (gI M p3 3) ≤ x5 then some (.inr x4)
    else bd1 (F_X3_matches M p0 p1 x2 p3 x5) fun r_1 => if r_1 = 0 then lett (x5 + 1) fun x_3 => some (.inl (x4, x_3))
    else lett (x4 ||| (ish 1 x5)) fun x_5 => lett (x5 + 1) fun x_7 => some (.inl (x_5, x_7))
def F_X3_allMatching (M : Mem) (p0 : Nat) (p1 : Nat) (x2 : Int32) (p3 : Nat) : Option (Int32) :=
 loop (X3_allMatching_L6 M p0 p1 x2 p3) FU (0, 0)
set_option maxRecDepth 100000 in
set_option maxHeartbeats 4000000 in
theorem s_X3_allMatching_L6 (lw : Nat → Option Nat) (tl : Option Nat) (tt : Option Nat) (M : Mem) (p0 : Nat) (p1 : Nat) (x2 : Int32) (p3 : Nat) (h0 : isX3 p0 = true) (h1 : isX1 p1 = true) (h3 : isX1 p3 = true) (x4 : Int32) (x5 : Int32) {Po : Po_} (x : (Int32 × Int32) ⊕ (Int32)) (h : X3_allMatching_L6 M p0 p1 x2 p3 (x4, x5) = some x) (hI : ∀ (ix4 : Int32) (ix5 : Int32), x = .inl (ix4, ix5) → T RX3 cX3_allMatching 6 (some .int) 0 4 0 0 false Po 6 [aR (some p0), aR (some p1), aI x2, aR (some p3), aI ix4, aI ix5] [] LAYC (rfs lw tl tt) M 0 0) (hE0 : ∀ (er : Int32), x = .inr er → Po (vI er) LAYC (rfs lw tl tt) M) : T RX3 cX3_allMatching 6 (some .int) 0 4 0 0 false Po 6 [aR (some p0), aR (some p1), aI x2, aR (some p3), aI x4, aI x5] [] LAYC (rfs lw tl tt) M 0 0 := by
  unfold X3_allMatching_L6 at h
  simp only at h
  refine T_iload dX3_allMatching_6 rfl ?_
  refine T_aload_n dX3_allMatching_8 rfl ?_
  refine T_getI dX3_allMatching_9 clOK_X1 fl_X3_55 (lyX1 h3) rfl ?_
  refine T_icmp_ge (tgt := 42) dX3_allMatching_12 (by decide) (fun hc => ?_) (fun hc => ?_)
  · have h := it_pos hc h
    refine T_iload dX3_allMatching_42 rfl ?_
    obtain rfl := sm1 h
    exact T_iret dX3_allMatching_44 (hE0 _ rfl)
  · have h := it_neg hc h
    refine T_aload_n dX3_allMatching_15 rfl ?_
    refine T_aload_n dX3_allMatching_16 rfl ?_
    refine T_iload_n dX3_allMatching_17 rfl ?_
    refine T_aload_n dX3_allMatching_18 rfl ?_
    refine T_iload dX3_allMatching_19 rfl ?_
    obtain ⟨r_1, hc_2, h⟩ := bd1_some h
    refine T_cvi (as := [vR (some p1), vI x2, vR (some p3), vI x5]) dX3_allMatching_21 cw_X3_matches ml_X3_58 mi_X3_matches se_X3_matches (lyX3 h0) rfl (by decide) rfl (Nat.le_of_ble_eq_true rfl) (Nat.le_of_ble_eq_true rfl) (m_X3_matches lw tl tt M p0 p1 x2 p3 x5 h0 h1 h3 _ hc_2) ?_
    refine T_if_eq (tgt := 36) dX3_allMatching_24 (by decide) (fun hc => ?_) (fun hc => ?_)
    · have h := it_pos hc h
      obtain ⟨x_3, ex_4, h⟩ := lett_some h
      refine T_iinc (L' := [aR (some p0), aR (some p1), aI x2, aR (some p3), aI x4, aI x_3]) dX3_allMatching_36 rfl (ic_inc ic_1 ex_4) (Nat.le_of_ble_eq_true rfl) rfl ?_
      refine T_goto (tgt := 6) dX3_allMatching_39 (by decide) ?_
      obtain rfl := sm1 h
      exact hI _ _ rfl
    · have h := it_neg hc h
      refine T_iload dX3_allMatching_27 rfl ?_
      refine T_iconst dX3_allMatching_29 ic_1 ?_
      refine T_iload dX3_allMatching_30 rfl ?_
      refine T_ishl dX3_allMatching_32 ?_
      refine T_ior dX3_allMatching_33 ?_
      obtain ⟨x_5, ex_6, h⟩ := lett_some h
      refine T_topI ex_6 ?_
      refine T_istore (i := 4) (L' := [aR (some p0), aR (some p1), aI x2, aR (some p3), aI x_5, aI x5]) dX3_allMatching_34 (Nat.le_of_ble_eq_true rfl) rfl ?_
      obtain ⟨x_7, ex_8, h⟩ := lett_some h
      refine T_iinc (L' := [aR (some p0), aR (some p1), aI x2, aR (some p3), aI x_5, aI x_7]) dX3_allMatching_36 rfl (ic_inc ic_1 ex_8) (Nat.le_of_ble_eq_true rfl) rfl ?_
      refine T_goto (tgt := 6) dX3_allMatching_39 (by decide) ?_
      obtain rfl := sm1 h
      exact hI _ _ rfl
set_option maxRecDepth 100000 in
set_option maxHeartbeats 4000000 in
theorem l_X3_allMatching_L6 (lw : Nat → Option Nat) (tl : Option Nat) (tt : Option Nat) (M : Mem) (p0 : Nat) (p1 : Nat) (x2 : Int32) (p3 : Nat) (h0 : isX3 p0 = true) (h1 : isX1 p1 = true) (h3 : isX1 p3 = true) {Po : Po_} (er : Int32) : ∀ (k : Nat) (x4 : Int32) (x5 : Int32), loop (X3_allMatching_L6 M p0 p1 x2 p3) k (x4, x5) = some er → (Po (vI er) LAYC (rfs lw tl tt) M) → T RX3 cX3_allMatching 6 (some .int) 0 4 0 0 false Po 6 [aR (some p0), aR (some p1), aI x2, aR (some p3), aI x4, aI x5] [] LAYC (rfs lw tl tt) M 0 0 := by
  intro k
  induction k with
  | zero => intro x4 x5 h; cases h
  | succ k ih =>
    intro x4 x5 h hE
    obtain ⟨x, hx, hx1, hx2⟩ := loop_succ h
    exact s_X3_allMatching_L6  lw tl tt M p0 p1 x2 p3 h0 h1 h3 x4 x5 x hx (fun q0 q1 e => ih q0 q1 (hx1 _ e) hE) (fun q0 e => by cases hx2 _ e; exact hE)
set_option maxRecDepth 100000 in
set_option maxHeartbeats 4000000 in
theorem m_X3_allMatching (lw : Nat → Option Nat) (tl : Option Nat) (tt : Option Nat) (M : Mem) (p0 : Nat) (p1 : Nat) (x2 : Int32) (p3 : Nat) (h0 : isX3 p0 = true) (h1 : isX1 p1 = true) (h3 : isX1 p3 = true) (r : Int32) (h : F_X3_allMatching M p0 p1 x2 p3 = some r) : Cal yX3_allMatching cX3_allMatching 6 (some .int) 0 4 0 0 false [vR (some p0), vR (some p1), vI x2, vR (some p3)] LAYC (rfs lw tl tt) M (eqp (vI r) LAYC (rfs lw tl tt) M) := by
  refine Cal.of (by decide +kernel) (Nat.le_of_ble_eq_true rfl) (fun h => by cases h) ?_
  unfold F_X3_allMatching at h
  show T RX3 cX3_allMatching 6 (some .int) 0 4 0 0 false (eqp (vI r) LAYC (rfs lw tl tt) M) 0 [aR (some p0), aR (some p1), aI x2, aR (some p3), aU, aU] [] LAYC (rfs lw tl tt) M 0 0
  refine T_iconst dX3_allMatching_0 ic_0 ?_
  refine T_istore (i := 4) (L' := [aR (some p0), aR (some p1), aI x2, aR (some p3), aI 0, aU]) dX3_allMatching_1 (Nat.le_of_ble_eq_true rfl) rfl ?_
  refine T_iconst dX3_allMatching_3 ic_0 ?_
  refine T_istore (i := 5) (L' := [aR (some p0), aR (some p1), aI x2, aR (some p3), aI 0, aI 0]) dX3_allMatching_4 (Nat.le_of_ble_eq_true rfl) rfl ?_
  exact l_X3_allMatching_L6  lw tl tt M p0 p1 x2 p3 h0 h1 h3 _ FU 0 0 h ⟨rfl, rfl, rfl, rfl⟩
def X3_isFair_L18 (M : Mem) (p0 : Nat) (p1 : Nat) (p2 : Nat) : Int32 × Int32 → Option ((Int32 × Int32) ⊕ ((Int32) ⊕ (Int32)))
  | (x3, x4) =>
    if (gI M p1 3) ≤ x4 then some (.inr (.inl x3))
    else bd1 (F_X3_allMatching M p0 p1 x4 p2) fun r_1 => bd1 (F_J6_bitCount_0f7a4 r_1) fun r_3 => if r_3 = 1 then lett (x3 ||| r_1) fun x_5 => lett (x4 + 1) fun x_7 => some (.inl (x_5, x_7))
    else some (.inr (.inr 0))
def F_X3_isFair (M : Mem) (p0 : Nat) (p1 : Nat) (p2 : Nat) : Option (Int32) :=
 if (gI M p1 3) = (gI M p2 3) then bd1 (loop (X3_isFair_L18 M p0 p1 p2) FU (0, 0)) (Sum.elim (un1 fun x_10 => if x_10 = ((ish 1 (gI M p2 3)) - 1) then some 1
 else some 0) (un1 fun r_11 => some r_11))
 else some 0
set_option maxRecDepth 100000 in
set_option maxHeartbeats 4000000 in
theorem s_X3_isFair_L18 (lw : Nat → Option Nat) (tl : Option Nat) (tt : Option Nat) (M : Mem) (p0 : Nat) (p1 : Nat) (p2 : Nat) (h0 : isX3 p0 = true) (h1 : isX1 p1 = true) (h2 : isX1 p2 = true) (x3 : Int32) (x4 : Int32) {Po : Po_} (x : (Int32 × Int32) ⊕ ((Int32) ⊕ (Int32))) (h : X3_isFair_L18 M p0 p1 p2 (x3, x4) = some x) (hI : ∀ (ix3 : Int32) (ix4 : Int32), x = .inl (ix3, ix4) → T RX3 cX3_isFair 6 (some .boolean) 0 5 0 0 false Po 18 [aR (some p0), aR (some p1), aR (some p2), aI ix3, aI ix4, aU] [] LAYC (rfs lw tl tt) M 0 0) (hE0 : ∀ (e3 : Int32), x = .inr (.inl e3) → T RX3 cX3_isFair 6 (some .boolean) 0 5 0 0 false Po 59 [aU, aU, aR (some p2), aI e3, aU, aU] [] LAYC (rfs lw tl tt) M 0 0) (hE1 : ∀ (er : Int32), x = .inr (.inr er) → Po (vI er) LAYC (rfs lw tl tt) M) : T RX3 cX3_isFair 6 (some .boolean) 0 5 0 0 false Po 18 [aR (some p0), aR (some p1), aR (some p2), aI x3, aI x4, aU] [] LAYC (rfs lw tl tt) M 0 0 := by
  unfold X3_isFair_L18 at h
  simp only at h
  refine T_iload dX3_isFair_18 rfl ?_
  refine T_aload_n dX3_isFair_20 rfl ?_
  refine T_getI dX3_isFair_21 clOK_X1 fl_X3_55 (lyX1 h1) rfl ?_
  refine T_icmp_ge (tgt := 59) dX3_isFair_24 (by decide) (fun hc => ?_) (fun hc => ?_)
  · have h := it_pos hc h
    obtain rfl := sm1 h
    refine T_mask [false, false, true, true, false, true] rfl ?_
    exact hE0 _ rfl
  · have h := it_neg hc h
    refine T_aload_n dX3_isFair_27 rfl ?_
    refine T_aload_n dX3_isFair_28 rfl ?_
    refine T_iload dX3_isFair_29 rfl ?_
    refine T_aload_n dX3_isFair_31 rfl ?_
    obtain ⟨r_1, hc_2, h⟩ := bd1_some h
    refine T_cvi (as := [vR (some p1), vI x4, vR (some p2)]) dX3_isFair_32 cw_X3_allMatching ml_X3_62 mi_X3_allMatching se_X3_allMatching (lyX3 h0) rfl (by decide) rfl (Nat.le_of_ble_eq_true rfl) (Nat.le_of_ble_eq_true rfl) (m_X3_allMatching lw tl tt M p0 p1 x4 p2 h0 h1 h2 _ hc_2) ?_
    refine T_istore (i := 5) (L' := [aR (some p0), aR (some p1), aR (some p2), aI x3, aI x4, aI r_1]) dX3_isFair_35 (Nat.le_of_ble_eq_true rfl) rfl ?_
    refine T_iload dX3_isFair_37 rfl ?_
    obtain ⟨r_3, hc_4, h⟩ := bd1_some h
    refine T_csi (as := [vI r_1]) dX3_isFair_39 cw_J6_bitCount_0f7a4 ml_X3_39 mt_J6_bitCount_0f7a4 rfl (Nat.le_of_ble_eq_true rfl) (Nat.le_of_ble_eq_true rfl) (m_J6_bitCount_0f7a4 LAYC (rfs lw tl tt) M r_1  _ hc_4) ?_
    refine T_iconst dX3_isFair_42 ic_1 ?_
    refine T_icmp_eq (tgt := 48) dX3_isFair_43 (by decide) (fun hc => ?_) (fun hc => ?_)
    · have h := it_pos hc h
      refine T_iload_n dX3_isFair_48 rfl ?_
      refine T_iload dX3_isFair_49 rfl ?_
      refine T_ior dX3_isFair_51 ?_
      obtain ⟨x_5, ex_6, h⟩ := lett_some h
      refine T_topI ex_6 ?_
      refine T_istore_n (i := 3) (L' := [aR (some p0), aR (some p1), aR (some p2), aI x_5, aI x4, aI r_1]) dX3_isFair_52 rfl (Nat.le_of_ble_eq_true rfl) rfl ?_
      obtain ⟨x_7, ex_8, h⟩ := lett_some h
      refine T_iinc (L' := [aR (some p0), aR (some p1), aR (some p2), aI x_5, aI x_7, aI r_1]) dX3_isFair_53 rfl (ic_inc ic_1 ex_8) (Nat.le_of_ble_eq_true rfl) rfl ?_
      refine T_goto (tgt := 18) dX3_isFair_56 (by decide) ?_
      obtain rfl := sm1 h
      refine T_mask [true, true, true, true, true, false] rfl ?_
      exact hI _ _ rfl
    · have h := it_neg hc h
      refine T_iconst dX3_isFair_46 ic_0 ?_
      obtain rfl := sm1 h
      exact T_zret dX3_isFair_47 (Or.inl rfl) (hE1 _ rfl)
set_option maxRecDepth 100000 in
set_option maxHeartbeats 4000000 in
theorem l_X3_isFair_L18 (lw : Nat → Option Nat) (tl : Option Nat) (tt : Option Nat) (M : Mem) (p0 : Nat) (p1 : Nat) (p2 : Nat) (h0 : isX3 p0 = true) (h1 : isX1 p1 = true) (h2 : isX1 p2 = true) {Po : Po_} (e : ((Int32) ⊕ (Int32))) : ∀ (k : Nat) (x3 : Int32) (x4 : Int32), loop (X3_isFair_L18 M p0 p1 p2) k (x3, x4) = some e → (∀ (e3 : Int32), e = (.inl e3) → T RX3 cX3_isFair 6 (some .boolean) 0 5 0 0 false Po 59 [aU, aU, aR (some p2), aI e3, aU, aU] [] LAYC (rfs lw tl tt) M 0 0) → (∀ (er : Int32), e = (.inr er) → Po (vI er) LAYC (rfs lw tl tt) M) → T RX3 cX3_isFair 6 (some .boolean) 0 5 0 0 false Po 18 [aR (some p0), aR (some p1), aR (some p2), aI x3, aI x4, aU] [] LAYC (rfs lw tl tt) M 0 0 := by
  intro k
  induction k with
  | zero => intro x3 x4 h; cases h
  | succ k ih =>
    intro x3 x4 h hE0 hE1
    obtain ⟨x, hx, hx1, hx2⟩ := loop_succ h
    exact s_X3_isFair_L18  lw tl tt M p0 p1 p2 h0 h1 h2 x3 x4 x hx (fun q0 q1 ee => ih q0 q1 (hx1 _ ee) hE0 hE1) (fun q0 ee => hE0 q0 (hx2 _ ee).symm) (fun q0 ee => hE1 q0 (hx2 _ ee).symm)
set_option maxRecDepth 100000 in
set_option maxHeartbeats 4000000 in
theorem m_X3_isFair (lw : Nat → Option Nat) (tl : Option Nat) (tt : Option Nat) (M : Mem) (p0 : Nat) (p1 : Nat) (p2 : Nat) (h0 : isX3 p0 = true) (h1 : isX1 p1 = true) (h2 : isX1 p2 = true) (r : Int32) (h : F_X3_isFair M p0 p1 p2 = some r) : Cal yX3_isFair cX3_isFair 6 (some .boolean) 0 5 0 0 false [vR (some p0), vR (some p1), vR (some p2)] LAYC (rfs lw tl tt) M (eqp (vI r) LAYC (rfs lw tl tt) M) := by
  refine Cal.of (by decide +kernel) (Nat.le_of_ble_eq_true rfl) (fun h => by cases h) ?_
  unfold F_X3_isFair at h
  show T RX3 cX3_isFair 6 (some .boolean) 0 5 0 0 false (eqp (vI r) LAYC (rfs lw tl tt) M) 0 [aR (some p0), aR (some p1), aR (some p2), aU, aU, aU] [] LAYC (rfs lw tl tt) M 0 0
  refine T_aload_n dX3_isFair_0 rfl ?_
  refine T_getI dX3_isFair_1 clOK_X1 fl_X3_55 (lyX1 h1) rfl ?_
  refine T_aload_n dX3_isFair_4 rfl ?_
  refine T_getI dX3_isFair_5 clOK_X1 fl_X3_55 (lyX1 h2) rfl ?_
  refine T_icmp_eq (tgt := 13) dX3_isFair_8 (by decide) (fun hc => ?_) (fun hc => ?_)
  · have h := it_pos hc h
    refine T_iconst dX3_isFair_13 ic_0 ?_
    refine T_istore_n (i := 3) (L' := [aR (some p0), aR (some p1), aR (some p2), aI 0, aU, aU]) dX3_isFair_14 rfl (Nat.le_of_ble_eq_true rfl) rfl ?_
    refine T_iconst dX3_isFair_15 ic_0 ?_
    refine T_istore (i := 4) (L' := [aR (some p0), aR (some p1), aR (some p2), aI 0, aI 0, aU]) dX3_isFair_16 (Nat.le_of_ble_eq_true rfl) rfl ?_
    obtain ⟨e_9, hl, h⟩ := bd1_some h
    refine l_X3_isFair_L18  lw tl tt M p0 p1 p2 h0 h1 h2 e_9 FU 0 0 hl ?_ ?_
    · intro x_10 ee
      subst ee
      have h := elim_l h
      have h := un1_ap h
      refine T_iload_n dX3_isFair_59 rfl ?_
      refine T_iconst dX3_isFair_60 ic_1 ?_
      refine T_aload_n dX3_isFair_61 rfl ?_
      refine T_getI dX3_isFair_62 clOK_X1 fl_X3_55 (lyX1 h2) rfl ?_
      refine T_ishl dX3_isFair_65 ?_
      refine T_iconst dX3_isFair_66 ic_1 ?_
      refine T_isub dX3_isFair_67 ?_
      refine T_icmp_ne (tgt := 75) dX3_isFair_68 (by decide) (fun hc => ?_) (fun hc => ?_)
      · have h := it_neg hc h
        refine T_iconst dX3_isFair_75 ic_0 ?_
        obtain rfl := sm1 h
        exact T_zret dX3_isFair_76 (Or.inl rfl) ⟨rfl, rfl, rfl, rfl⟩
      · have h := it_pos hc h
        refine T_iconst dX3_isFair_71 ic_1 ?_
        refine T_goto (tgt := 76) dX3_isFair_72 (by decide) ?_
        obtain rfl := sm1 h
        exact T_zret dX3_isFair_76 (Or.inr rfl) ⟨rfl, rfl, rfl, rfl⟩
    · intro r_11 ee
      subst ee
      have h := elim_r h
      have h := un1_ap h
      obtain rfl := sm1 h
      exact ⟨rfl, rfl, rfl, rfl⟩
  · have h := it_neg hc h
    refine T_iconst dX3_isFair_11 ic_0 ?_
    obtain rfl := sm1 h
    exact T_zret dX3_isFair_12 (Or.inl rfl) ⟨rfl, rfl, rfl, rfl⟩
def X3_alikePairs_L20 (M : Mem) (p0 : Nat) (p1 : Nat) (x2 : Int32) (x4 : Int32) : Int32 × Int32 → Option ((Int32 × Int32) ⊕ (Int32))
  | (x3, x5) =>
    if (gI M p1 3) ≤ x5 then some (.inr x3)
    else bd1 (F_X1_bitsOf M p1 x4) fun r_3 => bd1 (F_X1_bitsOf M p1 x5) fun r_5 => bd1 (F_X3_areAlike M p0 r_3 r_5 x2) fun r_7 => if r_7 = 0 then lett (x5 + 1) fun x_9 => some (.inl (x3, x_9))
    else lett (x3 + 1) fun x_11 => lett (x5 + 1) fun x_13 => some (.inl (x_11, x_13))
def X3_alikePairs_L5 (M : Mem) (p0 : Nat) (p1 : Nat) (x2 : Int32) : Int32 × Int32 → Option ((Int32 × Int32) ⊕ (Int32))
  | (x3, x4) =>
    if (gI M p1 3) ≤ x4 then some (.inr x3)
    else lett (x4 + 1) fun x_1 => bd1 (loop (X3_alikePairs_L20 M p0 p1 x2 x4) FU (x3, x_1)) fun x_15 => lett (x4 + 1) fun x_16 => some (.inl (x_15, x_16))
def F_X3_alikePairs (M : Mem) (p0 : Nat) (p1 : Nat) (x2 : Int32) : Option (Int32) :=
 loop (X3_alikePairs_L5 M p0 p1 x2) FU (0, 0)
set_option maxRecDepth 100000 in
set_option maxHeartbeats 4000000 in
theorem s_X3_alikePairs_L20 (lw : Nat → Option Nat) (tl : Option Nat) (tt : Option Nat) (M : Mem) (p0 : Nat) (p1 : Nat) (x2 : Int32) (x4 : Int32) (h0 : isX3 p0 = true) (h1 : isX1 p1 = true) (x3 : Int32) (x5 : Int32) {Po : Po_} (x : (Int32 × Int32) ⊕ (Int32)) (h : X3_alikePairs_L20 M p0 p1 x2 x4 (x3, x5) = some x) (hI : ∀ (ix3 : Int32) (ix5 : Int32), x = .inl (ix3, ix5) → T RX3 cX3_alikePairs 6 (some .int) 0 3 0 0 false Po 20 [aR (some p0), aR (some p1), aI x2, aI ix3, aI x4, aI ix5] [] LAYC (rfs lw tl tt) M 0 0) (hE0 : ∀ (e3 : Int32), x = .inr e3 → T RX3 cX3_alikePairs 6 (some .int) 0 3 0 0 false Po 58 [aR (some p0), aR (some p1), aI x2, aI e3, aI x4, aU] [] LAYC (rfs lw tl tt) M 0 0) : T RX3 cX3_alikePairs 6 (some .int) 0 3 0 0 false Po 20 [aR (some p0), aR (some p1), aI x2, aI x3, aI x4, aI x5] [] LAYC (rfs lw tl tt) M 0 0 := by
  unfold X3_alikePairs_L20 at h
  simp only at h
  refine T_iload dX3_alikePairs_20 rfl ?_
  refine T_aload_n dX3_alikePairs_22 rfl ?_
  refine T_getI dX3_alikePairs_23 clOK_X1 fl_X3_55 (lyX1 h1) rfl ?_
  refine T_icmp_ge (tgt := 58) dX3_alikePairs_26 (by decide) (fun hc => ?_) (fun hc => ?_)
  · have h := it_pos hc h
    obtain rfl := sm1 h
    refine T_mask [true, true, true, true, true, false] rfl ?_
    exact hE0 _ rfl
  · have h := it_neg hc h
    refine T_aload_n dX3_alikePairs_29 rfl ?_
    refine T_aload_n dX3_alikePairs_30 rfl ?_
    refine T_iload dX3_alikePairs_31 rfl ?_
    obtain ⟨r_3, hc_4, h⟩ := bd1_some h
    refine T_cvi (as := [vI x4]) dX3_alikePairs_33 cw_X1_bitsOf ml_X3_23 mi_X1_bitsOf se_X1_bitsOf (lyX1 h1) rfl (by decide) rfl (Nat.le_of_ble_eq_true rfl) (Nat.le_of_ble_eq_true rfl) (m_X1_bitsOf lw tl tt M p1 x4 h1 _ hc_4) ?_
    refine T_aload_n dX3_alikePairs_36 rfl ?_
    refine T_iload dX3_alikePairs_37 rfl ?_
    obtain ⟨r_5, hc_6, h⟩ := bd1_some h
    refine T_cvi (as := [vI x5]) dX3_alikePairs_39 cw_X1_bitsOf ml_X3_23 mi_X1_bitsOf se_X1_bitsOf (lyX1 h1) rfl (by decide) rfl (Nat.le_of_ble_eq_true rfl) (Nat.le_of_ble_eq_true rfl) (m_X1_bitsOf lw tl tt M p1 x5 h1 _ hc_6) ?_
    refine T_iload_n dX3_alikePairs_42 rfl ?_
    obtain ⟨r_7, hc_8, h⟩ := bd1_some h
    refine T_cvi (as := [vI r_3, vI r_5, vI x2]) dX3_alikePairs_43 cw_X3_areAlike ml_X3_29 mi_X3_areAlike se_X3_areAlike (lyX3 h0) rfl (by decide) rfl (Nat.le_of_ble_eq_true rfl) (Nat.le_of_ble_eq_true rfl) (m_X3_areAlike lw tl tt M p0 r_3 r_5 x2 h0 _ hc_8) ?_
    refine T_if_eq (tgt := 52) dX3_alikePairs_46 (by decide) (fun hc => ?_) (fun hc => ?_)
    · have h := it_pos hc h
      obtain ⟨x_9, ex_10, h⟩ := lett_some h
      refine T_iinc (L' := [aR (some p0), aR (some p1), aI x2, aI x3, aI x4, aI x_9]) dX3_alikePairs_52 rfl (ic_inc ic_1 ex_10) (Nat.le_of_ble_eq_true rfl) rfl ?_
      refine T_goto (tgt := 20) dX3_alikePairs_55 (by decide) ?_
      obtain rfl := sm1 h
      exact hI _ _ rfl
    · have h := it_neg hc h
      obtain ⟨x_11, ex_12, h⟩ := lett_some h
      refine T_iinc (L' := [aR (some p0), aR (some p1), aI x2, aI x_11, aI x4, aI x5]) dX3_alikePairs_49 rfl (ic_inc ic_1 ex_12) (Nat.le_of_ble_eq_true rfl) rfl ?_
      obtain ⟨x_13, ex_14, h⟩ := lett_some h
      refine T_iinc (L' := [aR (some p0), aR (some p1), aI x2, aI x_11, aI x4, aI x_13]) dX3_alikePairs_52 rfl (ic_inc ic_1 ex_14) (Nat.le_of_ble_eq_true rfl) rfl ?_
      refine T_goto (tgt := 20) dX3_alikePairs_55 (by decide) ?_
      obtain rfl := sm1 h
      exact hI _ _ rfl
set_option maxRecDepth 100000 in
set_option maxHeartbeats 4000000 in
theorem l_X3_alikePairs_L20 (lw : Nat → Option Nat) (tl : Option Nat) (tt : Option Nat) (M : Mem) (p0 : Nat) (p1 : Nat) (x2 : Int32) (x4 : Int32) (h0 : isX3 p0 = true) (h1 : isX1 p1 = true) {Po : Po_} (e3 : Int32) : ∀ (k : Nat) (x3 : Int32) (x5 : Int32), loop (X3_alikePairs_L20 M p0 p1 x2 x4) k (x3, x5) = some e3 → (T RX3 cX3_alikePairs 6 (some .int) 0 3 0 0 false Po 58 [aR (some p0), aR (some p1), aI x2, aI e3, aI x4, aU] [] LAYC (rfs lw tl tt) M 0 0) → T RX3 cX3_alikePairs 6 (some .int) 0 3 0 0 false Po 20 [aR (some p0), aR (some p1), aI x2, aI x3, aI x4, aI x5] [] LAYC (rfs lw tl tt) M 0 0 := by
  intro k
  induction k with
  | zero => intro x3 x5 h; cases h
  | succ k ih =>
    intro x3 x5 h hE
    obtain ⟨x, hx, hx1, hx2⟩ := loop_succ h
    exact s_X3_alikePairs_L20  lw tl tt M p0 p1 x2 x4 h0 h1 x3 x5 x hx (fun q0 q1 e => ih q0 q1 (hx1 _ e) hE) (fun q0 e => by cases hx2 _ e; exact hE)
set_option maxRecDepth 100000 in
set_option maxHeartbeats 4000000 in
theorem s_X3_alikePairs_L5 (lw : Nat → Option Nat) (tl : Option Nat) (tt : Option Nat) (M : Mem) (p0 : Nat) (p1 : Nat) (x2 : Int32) (h0 : isX3 p0 = true) (h1 : isX1 p1 = true) (x3 : Int32) (x4 : Int32) {Po : Po_} (x : (Int32 × Int32) ⊕ (Int32)) (h : X3_alikePairs_L5 M p0 p1 x2 (x3, x4) = some x) (hI : ∀ (ix3 : Int32) (ix4 : Int32), x = .inl (ix3, ix4) → T RX3 cX3_alikePairs 6 (some .int) 0 3 0 0 false Po 5 [aR (some p0), aR (some p1), aI x2, aI ix3, aI ix4, aU] [] LAYC (rfs lw tl tt) M 0 0) (hE0 : ∀ (er : Int32), x = .inr er → Po (vI er) LAYC (rfs lw tl tt) M) : T RX3 cX3_alikePairs 6 (some .int) 0 3 0 0 false Po 5 [aR (some p0), aR (some p1), aI x2, aI x3, aI x4, aU] [] LAYC (rfs lw tl tt) M 0 0 := by
  unfold X3_alikePairs_L5 at h
  simp only at h
  refine T_iload dX3_alikePairs_5 rfl ?_
  refine T_aload_n dX3_alikePairs_7 rfl ?_
  refine T_getI dX3_alikePairs_8 clOK_X1 fl_X3_55 (lyX1 h1) rfl ?_
  refine T_icmp_ge (tgt := 64) dX3_alikePairs_11 (by decide) (fun hc => ?_) (fun hc => ?_)
  · have h := it_pos hc h
    refine T_iload_n dX3_alikePairs_64 rfl ?_
    obtain rfl := sm1 h
    exact T_iret dX3_alikePairs_65 (hE0 _ rfl)
  · have h := it_neg hc h
    refine T_iload dX3_alikePairs_14 rfl ?_
    refine T_iconst dX3_alikePairs_16 ic_1 ?_
    refine T_iadd dX3_alikePairs_17 ?_
    obtain ⟨x_1, ex_2, h⟩ := lett_some h
    refine T_topI ex_2 ?_
    refine T_istore (i := 5) (L' := [aR (some p0), aR (some p1), aI x2, aI x3, aI x4, aI x_1]) dX3_alikePairs_18 (Nat.le_of_ble_eq_true rfl) rfl ?_
    obtain ⟨x_15, hl, h⟩ := bd1_some h
    refine l_X3_alikePairs_L20  lw tl tt M p0 p1 x2 x4 h0 h1 _ FU x3 x_1 hl ?_
    obtain ⟨x_16, ex_17, h⟩ := lett_some h
    refine T_iinc (L' := [aR (some p0), aR (some p1), aI x2, aI x_15, aI x_16, aU]) dX3_alikePairs_58 rfl (ic_inc ic_1 ex_17) (Nat.le_of_ble_eq_true rfl) rfl ?_
    refine T_goto (tgt := 5) dX3_alikePairs_61 (by decide) ?_
    obtain rfl := sm1 h
    exact hI _ _ rfl
set_option maxRecDepth 100000 in
set_option maxHeartbeats 4000000 in
theorem l_X3_alikePairs_L5 (lw : Nat → Option Nat) (tl : Option Nat) (tt : Option Nat) (M : Mem) (p0 : Nat) (p1 : Nat) (x2 : Int32) (h0 : isX3 p0 = true) (h1 : isX1 p1 = true) {Po : Po_} (er : Int32) : ∀ (k : Nat) (x3 : Int32) (x4 : Int32), loop (X3_alikePairs_L5 M p0 p1 x2) k (x3, x4) = some er → (Po (vI er) LAYC (rfs lw tl tt) M) → T RX3 cX3_alikePairs 6 (some .int) 0 3 0 0 false Po 5 [aR (some p0), aR (some p1), aI x2, aI x3, aI x4, aU] [] LAYC (rfs lw tl tt) M 0 0 := by
  intro k
  induction k with
  | zero => intro x3 x4 h; cases h
  | succ k ih =>
    intro x3 x4 h hE
    obtain ⟨x, hx, hx1, hx2⟩ := loop_succ h
    exact s_X3_alikePairs_L5  lw tl tt M p0 p1 x2 h0 h1 x3 x4 x hx (fun q0 q1 e => ih q0 q1 (hx1 _ e) hE) (fun q0 e => by cases hx2 _ e; exact hE)
set_option maxRecDepth 100000 in
set_option maxHeartbeats 4000000 in
theorem m_X3_alikePairs (lw : Nat → Option Nat) (tl : Option Nat) (tt : Option Nat) (M : Mem) (p0 : Nat) (p1 : Nat) (x2 : Int32) (h0 : isX3 p0 = true) (h1 : isX1 p1 = true) (r : Int32) (h : F_X3_alikePairs M p0 p1 x2 = some r) : Cal yX3_alikePairs cX3_alikePairs 6 (some .int) 0 3 0 0 false [vR (some p0), vR (some p1), vI x2] LAYC (rfs lw tl tt) M (eqp (vI r) LAYC (rfs lw tl tt) M) := by
  refine Cal.of (by decide +kernel) (Nat.le_of_ble_eq_true rfl) (fun h => by cases h) ?_
  unfold F_X3_alikePairs at h
  show T RX3 cX3_alikePairs 6 (some .int) 0 3 0 0 false (eqp (vI r) LAYC (rfs lw tl tt) M) 0 [aR (some p0), aR (some p1), aI x2, aU, aU, aU] [] LAYC (rfs lw tl tt) M 0 0
  refine T_iconst dX3_alikePairs_0 ic_0 ?_
  refine T_istore_n (i := 3) (L' := [aR (some p0), aR (some p1), aI x2, aI 0, aU, aU]) dX3_alikePairs_1 rfl (Nat.le_of_ble_eq_true rfl) rfl ?_
  refine T_iconst dX3_alikePairs_2 ic_0 ?_
  refine T_istore (i := 4) (L' := [aR (some p0), aR (some p1), aI x2, aI 0, aI 0, aU]) dX3_alikePairs_3 (Nat.le_of_ble_eq_true rfl) rfl ?_
  exact l_X3_alikePairs_L5  lw tl tt M p0 p1 x2 h0 h1 _ FU 0 0 h ⟨rfl, rfl, rfl, rfl⟩
def X3_tells_J52 (M : Mem) (s0 : Int32) (sp1 : Nat) (sp2 : Nat) : Option (Int32) :=
 bd1 (F_X3_alikePairs M sp2 sp1 s0) fun r_3 => some r_3
def F_X3_tells (M : Mem) (p0 : Nat) (x1 : Int32) (p2 : Nat) : Option (Int32) :=
 if x1 = 1 then bd1 (F_X1_largestHole M p2) fun r_1 => some r_1
 else if x1 = (nI 2) then if (gI M p0 0) = (nI 4) then X3_tells_J52 M (nI 3) p2 p0
 else X3_tells_J52 M 0 p2 p0
 else if x1 = (nI 3) then bd1 (F_X1_volumeOf M p2 (gI M p2 4)) fun r_5 => some r_5
 else if x1 = (nI 4) then bd1 (F_X3_alikePairs M p0 p2 (nI 3)) fun r_7 => bd1 (F_X3_alikePairs M p0 p2 0) fun r_9 => some (r_7 - r_9)
 else bd1 (F_X1_bottomOf M p2 (gI M p2 4)) fun r_11 => some r_11
set_option maxRecDepth 100000 in
set_option maxHeartbeats 4000000 in
theorem j_X3_tells_J52 (lw : Nat → Option Nat) (tl : Option Nat) (tt : Option Nat) (M : Mem) (s0 : Int32) (sp1 : Nat) (sp2 : Nat) (sh1 : isX1 sp1 = true) (sh2 : isX3 sp2 = true) (r : Int32) (h : X3_tells_J52 M s0 sp1 sp2 = some r) : T RX3 cX3_tells 3 (some .int) 0 4 0 0 false (eqp (vI r) LAYC (rfs lw tl tt) M) 52 [aU, aU, aU] [vI s0, vR (some sp1), vR (some sp2)] LAYC (rfs lw tl tt) M 0 0 := by
  unfold X3_tells_J52 at h
  obtain ⟨r_3, hc_4, h⟩ := bd1_some h
  refine T_cvi (as := [vR (some sp1), vI s0]) dX3_tells_52 cw_X3_alikePairs ml_X3_70 mi_X3_alikePairs se_X3_alikePairs (lyX3 sh2) rfl (by decide) rfl (Nat.le_of_ble_eq_true rfl) (Nat.le_of_ble_eq_true rfl) (m_X3_alikePairs lw tl tt M sp2 sp1 s0 sh2 sh1 _ hc_4) ?_
  obtain rfl := sm1 h
  exact T_iret dX3_tells_55 ⟨rfl, rfl, rfl, rfl⟩
set_option maxRecDepth 100000 in
set_option maxHeartbeats 4000000 in
theorem m_X3_tells (lw : Nat → Option Nat) (tl : Option Nat) (tt : Option Nat) (M : Mem) (p0 : Nat) (x1 : Int32) (p2 : Nat) (h0 : isX3 p0 = true) (h2 : isX1 p2 = true) (r : Int32) (h : F_X3_tells M p0 x1 p2 = some r) : Cal yX3_tells cX3_tells 3 (some .int) 0 4 0 0 false [vR (some p0), vI x1, vR (some p2)] LAYC (rfs lw tl tt) M (eqp (vI r) LAYC (rfs lw tl tt) M) := by
  refine Cal.of (by decide +kernel) (Nat.le_of_ble_eq_true rfl) (fun h => by cases h) ?_
  unfold F_X3_tells at h
  show T RX3 cX3_tells 3 (some .int) 0 4 0 0 false (eqp (vI r) LAYC (rfs lw tl tt) M) 0 [aR (some p0), aI x1, aR (some p2)] [] LAYC (rfs lw tl tt) M 0 0
  refine T_iload_n dX3_tells_0 rfl ?_
  by_cases hs1 : x1 = 1
  · have h := it_pos hs1 h
    refine T_eqI hs1 ?_
    refine T_tabIn (off := 31) (tgt := 32) dX3_tells_1 (by decide) (by decide) (by decide) (by decide) ?_
    refine T_aload_n dX3_tells_32 rfl ?_
    obtain ⟨r_1, hc_2, h⟩ := bd1_some h
    refine T_cvi (as := []) dX3_tells_33 cw_X1_largestHole ml_X3_66 mi_X1_largestHole se_X1_largestHole (lyX1 h2) rfl (by decide) rfl (Nat.le_of_ble_eq_true rfl) (Nat.le_of_ble_eq_true rfl) (m_X1_largestHole lw tl tt M p2 h2 _ hc_2) ?_
    obtain rfl := sm1 h
    exact T_iret dX3_tells_36 ⟨rfl, rfl, rfl, rfl⟩
  · have h := it_neg hs1 h
    by_cases hs2 : x1 = (nI 2)
    · have h := it_pos hs2 h
      refine T_eqI hs2 ?_
      refine T_tabIn (off := 36) (tgt := 37) dX3_tells_1 (by decide) (by decide) (by decide) (by decide) ?_
      refine T_aload_n dX3_tells_37 rfl ?_
      refine T_aload_n dX3_tells_38 rfl ?_
      refine T_aload_n dX3_tells_39 rfl ?_
      refine T_getI dX3_tells_40 clOK_X3 fl_X3_9 (lyX3 h0) rfl ?_
      refine T_iconst dX3_tells_43 ic_4 ?_
      refine T_icmp_ne (tgt := 51) dX3_tells_44 (by decide) (fun hc => ?_) (fun hc => ?_)
      · have h := it_neg hc h
        refine T_iconst dX3_tells_51 ic_0 ?_
        refine T_mask [false, false, false] rfl ?_
        exact j_X3_tells_J52  lw tl tt M 0 p2 p0 h2 h0 _ h
      · have h := it_pos hc h
        refine T_iconst dX3_tells_47 ic_3 ?_
        refine T_goto (tgt := 52) dX3_tells_48 (by decide) ?_
        refine T_mask [false, false, false] rfl ?_
        exact j_X3_tells_J52  lw tl tt M (nI 3) p2 p0 h2 h0 _ h
    · have h := it_neg hs2 h
      by_cases hs3 : x1 = (nI 3)
      · have h := it_pos hs3 h
        refine T_eqI hs3 ?_
        refine T_tabIn (off := 69) (tgt := 70) dX3_tells_1 (by decide) (by decide) (by decide) (by decide) ?_
        refine T_aload_n dX3_tells_70 rfl ?_
        refine T_aload_n dX3_tells_71 rfl ?_
        refine T_getI dX3_tells_72 clOK_X1 fl_X3_74 (lyX1 h2) rfl ?_
        obtain ⟨r_5, hc_6, h⟩ := bd1_some h
        refine T_cvi (as := [vI (gI M p2 4)]) dX3_tells_75 cw_X1_volumeOf ml_X3_33 mi_X1_volumeOf se_X1_volumeOf (lyX1 h2) rfl (by decide) rfl (Nat.le_of_ble_eq_true rfl) (Nat.le_of_ble_eq_true rfl) (m_X1_volumeOf lw tl tt M p2 (gI M p2 4) h2 _ hc_6) ?_
        obtain rfl := sm1 h
        exact T_iret dX3_tells_78 ⟨rfl, rfl, rfl, rfl⟩
      · have h := it_neg hs3 h
        by_cases hs4 : x1 = (nI 4)
        · have h := it_pos hs4 h
          refine T_eqI hs4 ?_
          refine T_tabIn (off := 55) (tgt := 56) dX3_tells_1 (by decide) (by decide) (by decide) (by decide) ?_
          refine T_aload_n dX3_tells_56 rfl ?_
          refine T_aload_n dX3_tells_57 rfl ?_
          refine T_iconst dX3_tells_58 ic_3 ?_
          obtain ⟨r_7, hc_8, h⟩ := bd1_some h
          refine T_cvi (as := [vR (some p2), vI (nI 3)]) dX3_tells_59 cw_X3_alikePairs ml_X3_70 mi_X3_alikePairs se_X3_alikePairs (lyX3 h0) rfl (by decide) rfl (Nat.le_of_ble_eq_true rfl) (Nat.le_of_ble_eq_true rfl) (m_X3_alikePairs lw tl tt M p0 p2 (nI 3) h0 h2 _ hc_8) ?_
          refine T_aload_n dX3_tells_62 rfl ?_
          refine T_aload_n dX3_tells_63 rfl ?_
          refine T_iconst dX3_tells_64 ic_0 ?_
          obtain ⟨r_9, hc_10, h⟩ := bd1_some h
          refine T_cvi (as := [vR (some p2), vI 0]) dX3_tells_65 cw_X3_alikePairs ml_X3_70 mi_X3_alikePairs se_X3_alikePairs (lyX3 h0) rfl (by decide) rfl (Nat.le_of_ble_eq_true rfl) (Nat.le_of_ble_eq_true rfl) (m_X3_alikePairs lw tl tt M p0 p2 0 h0 h2 _ hc_10) ?_
          refine T_isub dX3_tells_68 ?_
          obtain rfl := sm1 h
          exact T_iret dX3_tells_69 ⟨rfl, rfl, rfl, rfl⟩
        · have h := it_neg hs4 h
          refine T_tabOut (tgt := 79) dX3_tells_1 (sw_out (fun k a b => by rcases (show k = 1 ∨ k = 2 ∨ k = 3 ∨ k = 4 by omega) with rfl | rfl | rfl | rfl <;> first | exact fun e => hs1 (e.trans (by decide)) | exact fun e => hs2 (e.trans (by decide)) | exact fun e => hs3 (e.trans (by decide)) | exact fun e => hs4 (e.trans (by decide)))) (by decide) ?_
          refine T_aload_n dX3_tells_79 rfl ?_
          refine T_aload_n dX3_tells_80 rfl ?_
          refine T_getI dX3_tells_81 clOK_X1 fl_X3_74 (lyX1 h2) rfl ?_
          obtain ⟨r_11, hc_12, h⟩ := bd1_some h
          refine T_cvi (as := [vI (gI M p2 4)]) dX3_tells_84 cw_X1_bottomOf ml_X3_36 mi_X1_bottomOf se_X1_bottomOf (lyX1 h2) rfl (by decide) rfl (Nat.le_of_ble_eq_true rfl) (Nat.le_of_ble_eq_true rfl) (m_X1_bottomOf lw tl tt M p2 (gI M p2 4) h2 _ hc_12) ?_
          obtain rfl := sm1 h
          exact T_iret dX3_tells_87 ⟨rfl, rfl, rfl, rfl⟩
def F_X5_has (M : Mem) (p0 : Nat) (x1 : Int32) : Option (Int32) :=
 if x1 < 0 then some 0
 else if (gI M p0 1) ≤ x1 then some 0
 else if (nI (slen p0)) ≤ x1 then some 0
 else some 1
set_option maxRecDepth 100000 in
set_option maxHeartbeats 4000000 in
theorem m_X5_has (lw : Nat → Option Nat) (tl : Option Nat) (tt : Option Nat) (M : Mem) (p0 : Nat) (x1 : Int32) (h0 : isX5 p0 = true) (r : Int32) (h : F_X5_has M p0 x1 = some r) : Cal yX5_has cX5_has 2 (some .boolean) 0 1 0 0 false [vR (some p0), vI x1] LAYC (rfs lw tl tt) M (eqp (vI r) LAYC (rfs lw tl tt) M) := by
  refine Cal.of (by decide +kernel) (Nat.le_of_ble_eq_true rfl) (fun h => by cases h) ?_
  unfold F_X5_has at h
  show T RX5 cX5_has 2 (some .boolean) 0 1 0 0 false (eqp (vI r) LAYC (rfs lw tl tt) M) 0 [aR (some p0), aI x1] [] LAYC (rfs lw tl tt) M 0 0
  refine T_iload_n dX5_has_0 rfl ?_
  refine T_if_lt (tgt := 25) dX5_has_1 (by decide) (fun hc => ?_) (fun hc => ?_)
  · have h := it_pos hc h
    refine T_iconst dX5_has_25 ic_0 ?_
    obtain rfl := sm1 h
    exact T_zret dX5_has_26 (Or.inl rfl) ⟨rfl, rfl, rfl, rfl⟩
  · have h := it_neg hc h
    refine T_iload_n dX5_has_4 rfl ?_
    refine T_aload_n dX5_has_5 rfl ?_
    refine T_getI dX5_has_6 clOK_X5 fl_X5_9 (lyX5 h0) rfl ?_
    refine T_icmp_ge (tgt := 25) dX5_has_9 (by decide) (fun hc => ?_) (fun hc => ?_)
    · have h := it_pos hc h
      refine T_iconst dX5_has_25 ic_0 ?_
      obtain rfl := sm1 h
      exact T_zret dX5_has_26 (Or.inl rfl) ⟨rfl, rfl, rfl, rfl⟩
    · have h := it_neg hc h
      refine T_iload_n dX5_has_12 rfl ?_
      refine T_aload_n dX5_has_13 rfl ?_
      refine T_getR dX5_has_14 clOK_X5 fl_X5_21 (lyX5 h0) rfl (rfX5_0 h0) ?_
      refine T_alen dX5_has_17 (lyX5a h0) (Or.inl rfl) rfl ?_
      refine T_icmp_ge (tgt := 25) dX5_has_18 (by decide) (fun hc => ?_) (fun hc => ?_)
      · have h := it_pos hc h
        refine T_iconst dX5_has_25 ic_0 ?_
        obtain rfl := sm1 h
        exact T_zret dX5_has_26 (Or.inl rfl) ⟨rfl, rfl, rfl, rfl⟩
      · have h := it_neg hc h
        refine T_iconst dX5_has_21 ic_1 ?_
        refine T_goto (tgt := 26) dX5_has_22 (by decide) ?_
        obtain rfl := sm1 h
        exact T_zret dX5_has_26 (Or.inr rfl) ⟨rfl, rfl, rfl, rfl⟩
def F_X5_get (M : Mem) (p0 : Nat) (x1 : Int32) : Option (Int32) :=
 bd1 (F_X5_has M p0 x1) fun r_1 => if r_1 = 0 then some 0
 else chk (inb x1 (slen p0) = true) (some (gI M (p0 + 1) x1.toNatClampNeg))
set_option maxRecDepth 100000 in
set_option maxHeartbeats 4000000 in
theorem m_X5_get (lw : Nat → Option Nat) (tl : Option Nat) (tt : Option Nat) (M : Mem) (p0 : Nat) (x1 : Int32) (h0 : isX5 p0 = true) (r : Int32) (h : F_X5_get M p0 x1 = some r) : Cal yX5_get cX5_get 2 (some .int) 0 2 0 0 false [vR (some p0), vI x1] LAYC (rfs lw tl tt) M (eqp (vI r) LAYC (rfs lw tl tt) M) := by
  refine Cal.of (by decide +kernel) (Nat.le_of_ble_eq_true rfl) (fun h => by cases h) ?_
  unfold F_X5_get at h
  show T RX5 cX5_get 2 (some .int) 0 2 0 0 false (eqp (vI r) LAYC (rfs lw tl tt) M) 0 [aR (some p0), aI x1] [] LAYC (rfs lw tl tt) M 0 0
  refine T_aload_n dX5_get_0 rfl ?_
  refine T_iload_n dX5_get_1 rfl ?_
  obtain ⟨r_1, hc_2, h⟩ := bd1_some h
  refine T_cvi (as := [vI x1]) dX5_get_2 cw_X5_has ml_X5_25 mi_X5_has se_X5_has (lyX5 h0) rfl (by decide) rfl (Nat.le_of_ble_eq_true rfl) (Nat.le_of_ble_eq_true rfl) (m_X5_has lw tl tt M p0 x1 h0 _ hc_2) ?_
  refine T_if_eq (tgt := 17) dX5_get_5 (by decide) (fun hc => ?_) (fun hc => ?_)
  · have h := it_pos hc h
    refine T_iconst dX5_get_17 ic_0 ?_
    obtain rfl := sm1 h
    exact T_iret dX5_get_18 ⟨rfl, rfl, rfl, rfl⟩
  · have h := it_neg hc h
    refine T_aload_n dX5_get_8 rfl ?_
    refine T_getR dX5_get_9 clOK_X5 fl_X5_21 (lyX5 h0) rfl (rfX5_0 h0) ?_
    refine T_iload_n dX5_get_12 rfl ?_
    obtain ⟨hi_3, h⟩ := chk_some h
    refine T_iald dX5_get_13 (lyX5a h0) (inb_in hi_3) ?_
    refine T_goto (tgt := 18) dX5_get_14 (by decide) ?_
    obtain rfl := sm1 h
    exact T_iret dX5_get_18 ⟨rfl, rfl, rfl, rfl⟩
def F_X4_sign (M : Mem) (p1 : Nat) : Option (Int32) :=
 bd1 (F_X5_has M p1 (gI M 3 3)) fun r_1 => if r_1 = 0 then some (nI 1000)
 else bd1 (F_X5_get M p1 (gI M 3 3)) fun r_3 => some r_3
set_option maxRecDepth 100000 in
set_option maxHeartbeats 4000000 in
theorem m_X4_sign (lw : Nat → Option Nat) (tl : Option Nat) (tt : Option Nat) (M : Mem) (p1 : Nat) (h1 : isX5 p1 = true) (r : Int32) (h : F_X4_sign M p1 = some r) : Cal yX4_sign cX4_sign 2 (some .int) 0 3 0 0 false [vR (some 3), vR (some p1)] LAYC (rfs lw tl tt) M (eqp (vI r) LAYC (rfs lw tl tt) M) := by
  refine Cal.of (by decide +kernel) (Nat.le_of_ble_eq_true rfl) (fun h => by cases h) ?_
  unfold F_X4_sign at h
  show T RX4 cX4_sign 2 (some .int) 0 3 0 0 false (eqp (vI r) LAYC (rfs lw tl tt) M) 0 [aR (some 3), aR (some p1)] [] LAYC (rfs lw tl tt) M 0 0
  refine T_aload_n dX4_sign_0 rfl ?_
  refine T_aload_n dX4_sign_1 rfl ?_
  refine T_getI dX4_sign_2 clOK_X4 fl_X4_21 lyC_3 rfl ?_
  obtain ⟨r_1, hc_2, h⟩ := bd1_some h
  refine T_cvi (as := [vI (gI M 3 3)]) dX4_sign_5 cw_X5_has ml_X4_54 mi_X5_has se_X5_has (lyX5 h1) rfl (by decide) rfl (Nat.le_of_ble_eq_true rfl) (Nat.le_of_ble_eq_true rfl) (m_X5_has lw tl tt M p1 (gI M 3 3) h1 _ hc_2) ?_
  refine T_if_eq (tgt := 22) dX4_sign_8 (by decide) (fun hc => ?_) (fun hc => ?_)
  · have h := it_pos hc h
    refine T_sipush dX4_sign_22 sp_1000 ?_
    obtain rfl := sm1 h
    exact T_iret dX4_sign_25 ⟨rfl, rfl, rfl, rfl⟩
  · have h := it_neg hc h
    refine T_aload_n dX4_sign_11 rfl ?_
    refine T_aload_n dX4_sign_12 rfl ?_
    refine T_getI dX4_sign_13 clOK_X4 fl_X4_21 lyC_3 rfl ?_
    obtain ⟨r_3, hc_4, h⟩ := bd1_some h
    refine T_cvi (as := [vI (gI M 3 3)]) dX4_sign_16 cw_X5_get ml_X4_58 mi_X5_get se_X5_get (lyX5 h1) rfl (by decide) rfl (Nat.le_of_ble_eq_true rfl) (Nat.le_of_ble_eq_true rfl) (m_X5_get lw tl tt M p1 (gI M 3 3) h1 _ hc_4) ?_
    refine T_goto (tgt := 25) dX4_sign_19 (by decide) ?_
    obtain rfl := sm1 h
    exact T_iret dX4_sign_25 ⟨rfl, rfl, rfl, rfl⟩
def F_X4_figure (M : Mem) (p1 : Nat) (x2 : Int32) : Option (Int32) :=
 bd1 (F_X4_sign M p1) fun r_1 => lett (r_1 - (nI 48)) fun x_3 => if x_3 < 0 then some (-1)
 else if x2 < x_3 then some (-1)
 else some x_3
set_option maxRecDepth 100000 in
set_option maxHeartbeats 4000000 in
theorem m_X4_figure (lw : Nat → Option Nat) (tl : Option Nat) (tt : Option Nat) (M : Mem) (p1 : Nat) (x2 : Int32) (h1 : isX5 p1 = true) (r : Int32) (h : F_X4_figure M p1 x2 = some r) : Cal yX4_figure cX4_figure 4 (some .int) 0 4 0 0 false [vR (some 3), vR (some p1), vI x2] LAYC (rfs lw tl tt) M (eqp (vI r) LAYC (rfs lw tl tt) M) := by
  refine Cal.of (by decide +kernel) (Nat.le_of_ble_eq_true rfl) (fun h => by cases h) ?_
  unfold F_X4_figure at h
  show T RX4 cX4_figure 4 (some .int) 0 4 0 0 false (eqp (vI r) LAYC (rfs lw tl tt) M) 0 [aR (some 3), aR (some p1), aI x2, aU] [] LAYC (rfs lw tl tt) M 0 0
  refine T_aload_n dX4_figure_0 rfl ?_
  refine T_aload_n dX4_figure_1 rfl ?_
  obtain ⟨r_1, hc_2, h⟩ := bd1_some h
  refine T_cvi (as := [vR (some p1)]) dX4_figure_2 cw_X4_sign ml_X4_62 mi_X4_sign se_X4_sign lyC_3 rfl (by decide) rfl (Nat.le_of_ble_eq_true rfl) (Nat.le_of_ble_eq_true rfl) (m_X4_sign lw tl tt M p1 h1 _ hc_2) ?_
  refine T_bipush dX4_figure_5 bp_48 ?_
  refine T_isub dX4_figure_7 ?_
  obtain ⟨x_3, ex_4, h⟩ := lett_some h
  refine T_topI ex_4 ?_
  refine T_istore_n (i := 3) (L' := [aR (some 3), aR (some p1), aI x2, aI x_3]) dX4_figure_8 rfl (Nat.le_of_ble_eq_true rfl) rfl ?_
  refine T_iload_n dX4_figure_9 rfl ?_
  refine T_if_lt (tgt := 22) dX4_figure_10 (by decide) (fun hc => ?_) (fun hc => ?_)
  · have h := it_pos hc h
    refine T_iconst dX4_figure_22 ic_m1 ?_
    obtain rfl := sm1 h
    exact T_iret dX4_figure_23 ⟨rfl, rfl, rfl, rfl⟩
  · have h := it_neg hc h
    refine T_iload_n dX4_figure_13 rfl ?_
    refine T_iload_n dX4_figure_14 rfl ?_
    refine T_icmp_gt (tgt := 22) dX4_figure_15 (by decide) (fun hc => ?_) (fun hc => ?_)
    · have h := it_pos hc h
      refine T_iconst dX4_figure_22 ic_m1 ?_
      obtain rfl := sm1 h
      exact T_iret dX4_figure_23 ⟨rfl, rfl, rfl, rfl⟩
    · have h := it_neg hc h
      refine T_iload_n dX4_figure_18 rfl ?_
      refine T_goto (tgt := 23) dX4_figure_19 (by decide) ?_
      obtain rfl := sm1 h
      exact T_iret dX4_figure_23 ⟨rfl, rfl, rfl, rfl⟩
def X4_readGardens_L2 (p1 : Nat) : Int32 × Mem → Option ((Int32 × Mem) ⊕ (Int32 × Mem))
  | (x2, M) =>
    if (gI M 3 5) ≤ x2 then some (.inr (1, M))
    else if (nI 4) ≤ x2 then some (.inr (1, M))
    else bd1 (F_X4_figure M p1 (nI 3)) fun r_1 => if 0 ≤ r_1 then chk (inb x2 4 = true) (lett (sI M 5 x2.toNatClampNeg r_1) fun M_3 => lett (sI M_3 3 3 ((gI M_3 3 3) + 1)) fun M_6 => lett (x2 + 1) fun x_8 => some (.inl (x_8, M_6)))
    else some (.inr (0, M))
def F_X4_readGardens (M : Mem) (p1 : Nat) : Option (Int32 × Mem) :=
 loop (X4_readGardens_L2 p1) FU (0, M)
set_option maxRecDepth 100000 in
set_option maxHeartbeats 4000000 in
theorem s_X4_readGardens_L2 (lw : Nat → Option Nat) (tl : Option Nat) (tt : Option Nat) (p1 : Nat) (h1 : isX5 p1 = true) (x2 : Int32) (M : Mem) {Po : Po_} (x : (Int32 × Mem) ⊕ (Int32 × Mem)) (h : X4_readGardens_L2 p1 (x2, M) = some x) (hI : ∀ (ix2 : Int32) (iM : Mem), x = .inl (ix2, iM) → T RX4 cX4_readGardens 4 (some .boolean) 0 5 0 0 false Po 2 [aR (some 3), aR (some p1), aI ix2, aU] [] LAYC (rfs lw tl tt) iM 0 0) (hE0 : ∀ (er : Int32) (eM : Mem), x = .inr (er, eM) → Po (vI er) LAYC (rfs lw tl tt) eM) : T RX4 cX4_readGardens 4 (some .boolean) 0 5 0 0 false Po 2 [aR (some 3), aR (some p1), aI x2, aU] [] LAYC (rfs lw tl tt) M 0 0 := by
  unfold X4_readGardens_L2 at h
  simp only at h
  refine T_iload_n dX4_readGardens_2 rfl ?_
  refine T_aload_n dX4_readGardens_3 rfl ?_
  refine T_getI dX4_readGardens_4 clOK_X4 fl_X4_28 lyC_3 rfl ?_
  refine T_icmp_ge (tgt := 55) dX4_readGardens_7 (by decide) (fun hc => ?_) (fun hc => ?_)
  · have h := it_pos hc h
    refine T_iconst dX4_readGardens_55 ic_1 ?_
    obtain rfl := sm1 h
    exact T_zret dX4_readGardens_56 (Or.inr rfl) (hE0 _ _ rfl)
  · have h := it_neg hc h
    refine T_iload_n dX4_readGardens_10 rfl ?_
    refine T_aload_n dX4_readGardens_11 rfl ?_
    refine T_getR dX4_readGardens_12 clOK_X4 fl_X4_15 lyC_3 rfl rfl ?_
    refine T_alen dX4_readGardens_15 lyC_5 (Or.inl rfl) rfl ?_
    refine T_icmp_ge (tgt := 55) dX4_readGardens_16 (by decide) (fun hc => ?_) (fun hc => ?_)
    · have h := it_pos hc h
      refine T_iconst dX4_readGardens_55 ic_1 ?_
      obtain rfl := sm1 h
      exact T_zret dX4_readGardens_56 (Or.inr rfl) (hE0 _ _ rfl)
    · have h := it_neg hc h
      refine T_aload_n dX4_readGardens_19 rfl ?_
      refine T_aload_n dX4_readGardens_20 rfl ?_
      refine T_iconst dX4_readGardens_21 ic_3 ?_
      obtain ⟨r_1, hc_2, h⟩ := bd1_some h
      refine T_cvi (as := [vR (some p1), vI (nI 3)]) dX4_readGardens_22 cw_X4_figure ml_X4_70 mi_X4_figure se_X4_figure lyC_3 rfl (by decide) rfl (Nat.le_of_ble_eq_true rfl) (Nat.le_of_ble_eq_true rfl) (m_X4_figure lw tl tt M p1 (nI 3) h1 _ hc_2) ?_
      refine T_istore_n (i := 3) (L' := [aR (some 3), aR (some p1), aI x2, aI r_1]) dX4_readGardens_25 rfl (Nat.le_of_ble_eq_true rfl) rfl ?_
      refine T_iload_n dX4_readGardens_26 rfl ?_
      refine T_if_ge (tgt := 32) dX4_readGardens_27 (by decide) (fun hc => ?_) (fun hc => ?_)
      · have h := it_pos hc h
        refine T_aload_n dX4_readGardens_32 rfl ?_
        refine T_getR dX4_readGardens_33 clOK_X4 fl_X4_15 lyC_3 rfl rfl ?_
        refine T_iload_n dX4_readGardens_36 rfl ?_
        refine T_iload_n dX4_readGardens_37 rfl ?_
        obtain ⟨hi_5, h⟩ := chk_some h
        obtain ⟨M_3, eM_4, h⟩ := lett_some h
        refine T_iast dX4_readGardens_38 lyC_5 (inb_in hi_5) eM_4 ?_
        refine T_aload_n dX4_readGardens_39 rfl ?_
        refine T_dup dX4_readGardens_40 rfl ?_
        refine T_getI dX4_readGardens_41 clOK_X4 fl_X4_21 lyC_3 rfl ?_
        refine T_iconst dX4_readGardens_44 ic_1 ?_
        refine T_iadd dX4_readGardens_45 ?_
        obtain ⟨M_6, eM_7, h⟩ := lett_some h
        refine T_putI dX4_readGardens_46 clOK_X4 fl_X4_21 (Or.inl rfl) lyC_3 rfl rfl eM_7 ?_
        obtain ⟨x_8, ex_9, h⟩ := lett_some h
        refine T_iinc (L' := [aR (some 3), aR (some p1), aI x_8, aI r_1]) dX4_readGardens_49 rfl (ic_inc ic_1 ex_9) (Nat.le_of_ble_eq_true rfl) rfl ?_
        refine T_goto (tgt := 2) dX4_readGardens_52 (by decide) ?_
        obtain rfl := sm1 h
        refine T_mask [true, true, true, false] rfl ?_
        exact hI _ _ rfl
      · have h := it_neg hc h
        refine T_iconst dX4_readGardens_30 ic_0 ?_
        obtain rfl := sm1 h
        exact T_zret dX4_readGardens_31 (Or.inl rfl) (hE0 _ _ rfl)
set_option maxRecDepth 100000 in
set_option maxHeartbeats 4000000 in
theorem l_X4_readGardens_L2 (lw : Nat → Option Nat) (tl : Option Nat) (tt : Option Nat) (p1 : Nat) (h1 : isX5 p1 = true) {Po : Po_} (er : Int32) (eM : Mem) : ∀ (k : Nat) (x2 : Int32) (M : Mem), loop (X4_readGardens_L2 p1) k (x2, M) = some (er, eM) → (Po (vI er) LAYC (rfs lw tl tt) eM) → T RX4 cX4_readGardens 4 (some .boolean) 0 5 0 0 false Po 2 [aR (some 3), aR (some p1), aI x2, aU] [] LAYC (rfs lw tl tt) M 0 0 := by
  intro k
  induction k with
  | zero => intro x2 M h; cases h
  | succ k ih =>
    intro x2 M h hE
    obtain ⟨x, hx, hx1, hx2⟩ := loop_succ h
    exact s_X4_readGardens_L2  lw tl tt p1 h1 x2 M x hx (fun q0 q1 e => ih q0 q1 (hx1 _ e) hE) (fun q0 q1 e => by cases hx2 _ e; exact hE)
set_option maxRecDepth 100000 in
set_option maxHeartbeats 4000000 in
theorem m_X4_readGardens (lw : Nat → Option Nat) (tl : Option Nat) (tt : Option Nat) (M : Mem) (p1 : Nat) (h1 : isX5 p1 = true) (r : Int32) (M' : Mem) (h : F_X4_readGardens M p1 = some (r, M')) : Cal yX4_readGardens cX4_readGardens 4 (some .boolean) 0 5 0 0 false [vR (some 3), vR (some p1)] LAYC (rfs lw tl tt) M (eqp (vI r) LAYC (rfs lw tl tt) M') := by
  refine Cal.of (by decide +kernel) (Nat.le_of_ble_eq_true rfl) (fun h => by cases h) ?_
  unfold F_X4_readGardens at h
  show T RX4 cX4_readGardens 4 (some .boolean) 0 5 0 0 false (eqp (vI r) LAYC (rfs lw tl tt) M') 0 [aR (some 3), aR (some p1), aU, aU] [] LAYC (rfs lw tl tt) M 0 0
  refine T_iconst dX4_readGardens_0 ic_0 ?_
  refine T_istore_n (i := 2) (L' := [aR (some 3), aR (some p1), aI 0, aU]) dX4_readGardens_1 rfl (Nat.le_of_ble_eq_true rfl) rfl ?_
  exact l_X4_readGardens_L2  lw tl tt p1 h1 _ _ FU 0 M h ⟨rfl, rfl, rfl, rfl⟩
def X4_kindBy_L2 (x0 : Int32) : Int32 → Option ((Int32) ⊕ (Int32))
  | x1 =>
    if (nI 6) ≤ x1 then some (.inr (-1))
    else chk (inb x1 6 = true) (if (stv 0 x1.toNatClampNeg) = x0 then some (.inr x1)
    else lett (x1 + 1) fun x_2 => some (.inl x_2))
def F_X4_kindBy (x0 : Int32) : Option (Int32) :=
 loop (X4_kindBy_L2 x0) FU 0
set_option maxRecDepth 100000 in
set_option maxHeartbeats 4000000 in
theorem s_X4_kindBy_L2 (lw : Nat → Option Nat) (tl : Option Nat) (tt : Option Nat) (M : Mem) (x0 : Int32) (x1 : Int32) {Po : Po_} (x : (Int32) ⊕ (Int32)) (h : X4_kindBy_L2 x0 x1 = some x) (hI : ∀ (ix1 : Int32), x = .inl ix1 → T RX4 cX4_kindBy 2 (some .int) 0 1 0 0 false Po 2 [aI x0, aI ix1] [] LAYC (rfs lw tl tt) M 0 0) (hE0 : ∀ (er : Int32), x = .inr er → Po (vI er) LAYC (rfs lw tl tt) M) : T RX4 cX4_kindBy 2 (some .int) 0 1 0 0 false Po 2 [aI x0, aI x1] [] LAYC (rfs lw tl tt) M 0 0 := by
  unfold X4_kindBy_L2 at h
  simp only at h
  refine T_iload_n dX4_kindBy_2 rfl ?_
  refine T_gets0 dX4_kindBy_3 fs_X4_77 ?_
  refine T_slen0 dX4_kindBy_6 ?_
  refine T_icmp_ge (tgt := 27) dX4_kindBy_7 (by decide) (fun hc => ?_) (fun hc => ?_)
  · have h := it_pos hc h
    refine T_iconst dX4_kindBy_27 ic_m1 ?_
    obtain rfl := sm1 h
    exact T_iret dX4_kindBy_28 (hE0 _ rfl)
  · have h := it_neg hc h
    refine T_gets0 dX4_kindBy_10 fs_X4_77 ?_
    refine T_iload_n dX4_kindBy_13 rfl ?_
    obtain ⟨hi_1, h⟩ := chk_some h
    refine T_sald0 dX4_kindBy_14 (inb_in hi_1) ?_
    refine T_iload_n dX4_kindBy_15 rfl ?_
    refine T_icmp_ne (tgt := 21) dX4_kindBy_16 (by decide) (fun hc => ?_) (fun hc => ?_)
    · have h := it_neg hc h
      obtain ⟨x_2, ex_3, h⟩ := lett_some h
      refine T_iinc (L' := [aI x0, aI x_2]) dX4_kindBy_21 rfl (ic_inc ic_1 ex_3) (Nat.le_of_ble_eq_true rfl) rfl ?_
      refine T_goto (tgt := 2) dX4_kindBy_24 (by decide) ?_
      obtain rfl := sm1 h
      exact hI _ rfl
    · have h := it_pos hc h
      refine T_iload_n dX4_kindBy_19 rfl ?_
      obtain rfl := sm1 h
      exact T_iret dX4_kindBy_20 (hE0 _ rfl)
set_option maxRecDepth 100000 in
set_option maxHeartbeats 4000000 in
theorem l_X4_kindBy_L2 (lw : Nat → Option Nat) (tl : Option Nat) (tt : Option Nat) (M : Mem) (x0 : Int32) {Po : Po_} (er : Int32) : ∀ (k : Nat) (x1 : Int32), loop (X4_kindBy_L2 x0) k x1 = some er → (Po (vI er) LAYC (rfs lw tl tt) M) → T RX4 cX4_kindBy 2 (some .int) 0 1 0 0 false Po 2 [aI x0, aI x1] [] LAYC (rfs lw tl tt) M 0 0 := by
  intro k
  induction k with
  | zero => intro x1 h; cases h
  | succ k ih =>
    intro x1 h hE
    obtain ⟨x, hx, hx1, hx2⟩ := loop_succ h
    exact s_X4_kindBy_L2  lw tl tt M x0  x1 x hx (fun q0 e => ih q0 (hx1 _ e) hE) (fun q0 e => by cases hx2 _ e; exact hE)
set_option maxRecDepth 100000 in
set_option maxHeartbeats 4000000 in
theorem m_X4_kindBy (lw : Nat → Option Nat) (tl : Option Nat) (tt : Option Nat) (M : Mem) (x0 : Int32) (r : Int32) (h : F_X4_kindBy x0 = some r) : Cal yX4_kindBy cX4_kindBy 2 (some .int) 0 1 0 0 false [vI x0] LAYC (rfs lw tl tt) M (eqp (vI r) LAYC (rfs lw tl tt) M) := by
  refine Cal.of (by decide +kernel) (Nat.le_of_ble_eq_true rfl) (fun h => by cases h) ?_
  unfold F_X4_kindBy at h
  show T RX4 cX4_kindBy 2 (some .int) 0 1 0 0 false (eqp (vI r) LAYC (rfs lw tl tt) M) 0 [aI x0, aU] [] LAYC (rfs lw tl tt) M 0 0
  refine T_iconst dX4_kindBy_0 ic_0 ?_
  refine T_istore_n (i := 1) (L' := [aI x0, aI 0]) dX4_kindBy_1 rfl (Nat.le_of_ble_eq_true rfl) rfl ?_
  exact l_X4_kindBy_L2  lw tl tt M x0  _ FU 0 h ⟨rfl, rfl, rfl, rfl⟩
def X4_readLaws_L2 (p1 : Nat) : Int32 × Mem → Option ((Int32 × Mem) ⊕ (Mem))
  | (x2, M) =>
    if (nI 6) ≤ x2 then some (.inr M)
    else bd1 (F_X4_sign M p1) fun r_1 => bd1 (F_X4_kindBy r_1) fun r_3 => if 0 ≤ r_3 then chk (inb x2 6 = true) (lett (sI M 6 x2.toNatClampNeg r_3) fun M_5 => lett (sI M_5 3 6 (x2 + 1)) fun M_8 => lett (sI M_8 3 3 ((gI M_8 3 3) + 1)) fun M_10 => lett (x2 + 1) fun x_12 => some (.inl (x_12, M_10)))
    else some (.inr M)
def F_X4_readLaws (M : Mem) (p1 : Nat) : Option (Mem) :=
 loop (X4_readLaws_L2 p1) FU (0, M)
set_option maxRecDepth 100000 in
set_option maxHeartbeats 4000000 in
theorem s_X4_readLaws_L2 (lw : Nat → Option Nat) (tl : Option Nat) (tt : Option Nat) (p1 : Nat) (h1 : isX5 p1 = true) (x2 : Int32) (M : Mem) {Po : Po_} (x : (Int32 × Mem) ⊕ (Mem)) (h : X4_readLaws_L2 p1 (x2, M) = some x) (hI : ∀ (ix2 : Int32) (iM : Mem), x = .inl (ix2, iM) → T RX4 cX4_readLaws 4 none 2 4 0 0 false Po 2 [aR (some 3), aR (some p1), aI ix2, aU] [] LAYC (rfs lw tl tt) iM 0 0) (hE0 : ∀ (eM : Mem), x = .inr eM → Po (vI 0) LAYC (rfs lw tl tt) eM) : T RX4 cX4_readLaws 4 none 2 4 0 0 false Po 2 [aR (some 3), aR (some p1), aI x2, aU] [] LAYC (rfs lw tl tt) M 0 0 := by
  unfold X4_readLaws_L2 at h
  simp only at h
  refine T_iload_n dX4_readLaws_2 rfl ?_
  refine T_aload_n dX4_readLaws_3 rfl ?_
  refine T_getR dX4_readLaws_4 clOK_X4 fl_X4_18 lyC_3 rfl rfl ?_
  refine T_alen dX4_readLaws_7 lyC_6 (Or.inl rfl) rfl ?_
  refine T_icmp_ge (tgt := 55) dX4_readLaws_8 (by decide) (fun hc => ?_) (fun hc => ?_)
  · have h := it_pos hc h
    obtain rfl := sm1 h
    exact T_vret dX4_readLaws_55 (hE0 _ rfl)
  · have h := it_neg hc h
    refine T_aload_n dX4_readLaws_11 rfl ?_
    refine T_aload_n dX4_readLaws_12 rfl ?_
    obtain ⟨r_1, hc_2, h⟩ := bd1_some h
    refine T_cvi (as := [vR (some p1)]) dX4_readLaws_13 cw_X4_sign ml_X4_62 mi_X4_sign se_X4_sign lyC_3 rfl (by decide) rfl (Nat.le_of_ble_eq_true rfl) (Nat.le_of_ble_eq_true rfl) (m_X4_sign lw tl tt M p1 h1 _ hc_2) ?_
    obtain ⟨r_3, hc_4, h⟩ := bd1_some h
    refine T_csi (as := [vI r_1]) dX4_readLaws_16 cw_X4_kindBy ml_X4_74 mt_X4_kindBy rfl (Nat.le_of_ble_eq_true rfl) (Nat.le_of_ble_eq_true rfl) (m_X4_kindBy lw tl tt M r_1  _ hc_4) ?_
    refine T_istore_n (i := 3) (L' := [aR (some 3), aR (some p1), aI x2, aI r_3]) dX4_readLaws_19 rfl (Nat.le_of_ble_eq_true rfl) rfl ?_
    refine T_iload_n dX4_readLaws_20 rfl ?_
    refine T_if_ge (tgt := 25) dX4_readLaws_21 (by decide) (fun hc => ?_) (fun hc => ?_)
    · have h := it_pos hc h
      refine T_aload_n dX4_readLaws_25 rfl ?_
      refine T_getR dX4_readLaws_26 clOK_X4 fl_X4_18 lyC_3 rfl rfl ?_
      refine T_iload_n dX4_readLaws_29 rfl ?_
      refine T_iload_n dX4_readLaws_30 rfl ?_
      obtain ⟨hi_7, h⟩ := chk_some h
      obtain ⟨M_5, eM_6, h⟩ := lett_some h
      refine T_iast dX4_readLaws_31 lyC_6 (inb_in hi_7) eM_6 ?_
      refine T_aload_n dX4_readLaws_32 rfl ?_
      refine T_iload_n dX4_readLaws_33 rfl ?_
      refine T_iconst dX4_readLaws_34 ic_1 ?_
      refine T_iadd dX4_readLaws_35 ?_
      obtain ⟨M_8, eM_9, h⟩ := lett_some h
      refine T_putI dX4_readLaws_36 clOK_X4 fl_X4_31 (Or.inl rfl) lyC_3 rfl rfl eM_9 ?_
      refine T_aload_n dX4_readLaws_39 rfl ?_
      refine T_dup dX4_readLaws_40 rfl ?_
      refine T_getI dX4_readLaws_41 clOK_X4 fl_X4_21 lyC_3 rfl ?_
      refine T_iconst dX4_readLaws_44 ic_1 ?_
      refine T_iadd dX4_readLaws_45 ?_
      obtain ⟨M_10, eM_11, h⟩ := lett_some h
      refine T_putI dX4_readLaws_46 clOK_X4 fl_X4_21 (Or.inl rfl) lyC_3 rfl rfl eM_11 ?_
      obtain ⟨x_12, ex_13, h⟩ := lett_some h
      refine T_iinc (L' := [aR (some 3), aR (some p1), aI x_12, aI r_3]) dX4_readLaws_49 rfl (ic_inc ic_1 ex_13) (Nat.le_of_ble_eq_true rfl) rfl ?_
      refine T_goto (tgt := 2) dX4_readLaws_52 (by decide) ?_
      obtain rfl := sm1 h
      refine T_mask [true, true, true, false] rfl ?_
      exact hI _ _ rfl
    · have h := it_neg hc h
      obtain rfl := sm1 h
      exact T_vret dX4_readLaws_24 (hE0 _ rfl)
set_option maxRecDepth 100000 in
set_option maxHeartbeats 4000000 in
theorem l_X4_readLaws_L2 (lw : Nat → Option Nat) (tl : Option Nat) (tt : Option Nat) (p1 : Nat) (h1 : isX5 p1 = true) {Po : Po_} (eM : Mem) : ∀ (k : Nat) (x2 : Int32) (M : Mem), loop (X4_readLaws_L2 p1) k (x2, M) = some eM → (Po (vI 0) LAYC (rfs lw tl tt) eM) → T RX4 cX4_readLaws 4 none 2 4 0 0 false Po 2 [aR (some 3), aR (some p1), aI x2, aU] [] LAYC (rfs lw tl tt) M 0 0 := by
  intro k
  induction k with
  | zero => intro x2 M h; cases h
  | succ k ih =>
    intro x2 M h hE
    obtain ⟨x, hx, hx1, hx2⟩ := loop_succ h
    exact s_X4_readLaws_L2  lw tl tt p1 h1 x2 M x hx (fun q0 q1 e => ih q0 q1 (hx1 _ e) hE) (fun q0 e => by cases hx2 _ e; exact hE)
set_option maxRecDepth 100000 in
set_option maxHeartbeats 4000000 in
theorem m_X4_readLaws (lw : Nat → Option Nat) (tl : Option Nat) (tt : Option Nat) (M : Mem) (p1 : Nat) (h1 : isX5 p1 = true) (M' : Mem) (h : F_X4_readLaws M p1 = some M') : Cal yX4_readLaws cX4_readLaws 4 none 2 4 0 0 false [vR (some 3), vR (some p1)] LAYC (rfs lw tl tt) M (eqp (vI 0) LAYC (rfs lw tl tt) M') := by
  refine Cal.of (by decide +kernel) (Nat.le_of_ble_eq_true rfl) (fun h => by cases h) ?_
  unfold F_X4_readLaws at h
  show T RX4 cX4_readLaws 4 none 2 4 0 0 false (eqp (vI 0) LAYC (rfs lw tl tt) M') 0 [aR (some 3), aR (some p1), aU, aU] [] LAYC (rfs lw tl tt) M 0 0
  refine T_iconst dX4_readLaws_0 ic_0 ?_
  refine T_istore_n (i := 2) (L' := [aR (some 3), aR (some p1), aI 0, aU]) dX4_readLaws_1 rfl (Nat.le_of_ble_eq_true rfl) rfl ?_
  exact l_X4_readLaws_L2  lw tl tt p1 h1 _ FU 0 M h ⟨rfl, rfl, rfl, rfl⟩
