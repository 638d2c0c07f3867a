def X7_firstLiar_L2 (M : Mem) (p0 : Nat) (p1 : Nat) : Int32 → Option ((Int32) ⊕ (Int32))
  | x2 =>
    bd1 (F_X5_size M p0) fun r_1 => if r_1 ≤ x2 then some (.inr (-9))
    else bd1 (F_X5_get M p0 x2) fun r_3 => bd1 (F_X1_depthAt M p1 r_3) fun r_5 => bd1 (F_X7_isLie M p0 x2 r_5) fun r_7 => if r_7 = 0 then lett (x2 + (nI 3)) fun x_9 => some (.inl x_9)
    else some (.inr (x2 / (nI 3)))
def F_X7_firstLiar (M : Mem) (p0 : Nat) (p1 : Nat) : Option (Int32) :=
 loop (X7_firstLiar_L2 M p0 p1) FU 0
set_option maxRecDepth 100000 in
set_option maxHeartbeats 4000000 in
theorem s_X7_firstLiar_L2 (lw : Nat → Option Nat) (tl : Option Nat) (tt : Option Nat) (M : Mem) (p0 : Nat) (p1 : Nat) (h0 : isX5 p0 = true) (h1 : isX1 p1 = true) (x2 : Int32) {Po : Po_} (x : (Int32) ⊕ (Int32)) (h : X7_firstLiar_L2 M p0 p1 x2 = some x) (hI : ∀ (ix2 : Int32), x = .inl ix2 → T RX7 cX7_firstLiar 3 (some .int) 0 4 0 0 false Po 2 [aR (some p0), aR (some p1), aI ix2] [] LAYC (rfs lw tl tt) M 0 0) (hE0 : ∀ (er : Int32), x = .inr er → Po (vI er) LAYC (rfs lw tl tt) M) : T RX7 cX7_firstLiar 3 (some .int) 0 4 0 0 false Po 2 [aR (some p0), aR (some p1), aI x2] [] LAYC (rfs lw tl tt) M 0 0 := by
  unfold X7_firstLiar_L2 at h
  simp only at h
  refine T_iload_n dX7_firstLiar_2 rfl ?_
  refine T_aload_n dX7_firstLiar_3 rfl ?_
  obtain ⟨r_1, hc_2, h⟩ := bd1_some h
  refine T_cvi (as := []) dX7_firstLiar_4 cw_X5_size ml_X7_15 mi_X5_size se_X5_size (lyX5 h0) rfl (by decide) rfl (Nat.le_of_ble_eq_true rfl) (Nat.le_of_ble_eq_true rfl) (m_X5_size lw tl tt M p0 h0 _ hc_2) ?_
  refine T_icmp_ge (tgt := 37) dX7_firstLiar_7 (by decide) (fun hc => ?_) (fun hc => ?_)
  · have h := it_pos hc h
    refine T_bipush dX7_firstLiar_37 bp_m9 ?_
    obtain rfl := sm1 h
    exact T_iret dX7_firstLiar_39 (hE0 _ rfl)
  · have h := it_neg hc h
    refine T_aload_n dX7_firstLiar_10 rfl ?_
    refine T_iload_n dX7_firstLiar_11 rfl ?_
    refine T_aload_n dX7_firstLiar_12 rfl ?_
    refine T_aload_n dX7_firstLiar_13 rfl ?_
    refine T_iload_n dX7_firstLiar_14 rfl ?_
    obtain ⟨r_3, hc_4, h⟩ := bd1_some h
    refine T_cvi (as := [vI x2]) dX7_firstLiar_15 cw_X5_get ml_X7_19 mi_X5_get se_X5_get (lyX5 h0) rfl (by decide) rfl (Nat.le_of_ble_eq_true rfl) (Nat.le_of_ble_eq_true rfl) (m_X5_get lw tl tt M p0 x2 h0 _ hc_4) ?_
    obtain ⟨r_5, hc_6, h⟩ := bd1_some h
    refine T_cvi (as := [vI r_3]) dX7_firstLiar_18 cw_X1_depthAt ml_X7_31 mi_X1_depthAt se_X1_depthAt (lyX1 h1) rfl (by decide) rfl (Nat.le_of_ble_eq_true rfl) (Nat.le_of_ble_eq_true rfl) (m_X1_depthAt lw tl tt M p1 r_3 h1 _ hc_6) ?_
    obtain ⟨r_7, hc_8, h⟩ := bd1_some h
    refine T_csi (as := [vR (some p0), vI x2, vI r_5]) dX7_firstLiar_21 cw_X7_isLie ml_X7_36 mt_X7_isLie rfl (Nat.le_of_ble_eq_true rfl) (Nat.le_of_ble_eq_true rfl) (m_X7_isLie lw tl tt M p0 x2 r_5 h0 _ hc_8) ?_
    refine T_if_eq (tgt := 31) dX7_firstLiar_24 (by decide) (fun hc => ?_) (fun hc => ?_)
    · have h := it_pos hc h
      obtain ⟨x_9, ex_10, h⟩ := lett_some h
      refine T_iinc (L' := [aR (some p0), aR (some p1), aI x_9]) dX7_firstLiar_31 rfl (ic_inc ic_3 ex_10) (Nat.le_of_ble_eq_true rfl) rfl ?_
      refine T_goto (tgt := 2) dX7_firstLiar_34 (by decide) ?_
      obtain rfl := sm1 h
      exact hI _ rfl
    · have h := it_neg hc h
      refine T_iload_n dX7_firstLiar_27 rfl ?_
      refine T_iconst dX7_firstLiar_28 ic_3 ?_
      refine T_idiv dX7_firstLiar_29 (by decide) ?_
      obtain rfl := sm1 h
      exact T_iret dX7_firstLiar_30 (hE0 _ rfl)
set_option maxRecDepth 100000 in
set_option maxHeartbeats 4000000 in
theorem l_X7_firstLiar_L2 (lw : Nat → Option Nat) (tl : Option Nat) (tt : Option Nat) (M : Mem) (p0 : Nat) (p1 : Nat) (h0 : isX5 p0 = true) (h1 : isX1 p1 = true) {Po : Po_} (er : Int32) : ∀ (k : Nat) (x2 : Int32), loop (X7_firstLiar_L2 M p0 p1) k x2 = some er → (Po (vI er) LAYC (rfs lw tl tt) M) → T RX7 cX7_firstLiar 3 (some .int) 0 4 0 0 false Po 2 [aR (some p0), aR (some p1), aI x2] [] LAYC (rfs lw tl tt) M 0 0 := by
  intro k
  induction k with
  | zero => intro x2 h; cases h
  | succ k ih =>
    intro x2 h hE
    obtain ⟨x, hx, hx1, hx2⟩ := loop_succ h
    exact s_X7_firstLiar_L2  lw tl tt M p0 p1 h0 h1 x2 x hx (fun q0 e => ih q0 (hx1 _ e) hE) (fun q0 e => by cases hx2 _ e; exact hE)
set_option maxRecDepth 100000 in
set_option maxHeartbeats 4000000 in
theorem m_X7_firstLiar (lw : Nat → Option Nat) (tl : Option Nat) (tt : Option Nat) (M : Mem) (p0 : Nat) (p1 : Nat) (h0 : isX5 p0 = true) (h1 : isX1 p1 = true) (r : Int32) (h : F_X7_firstLiar M p0 p1 = some r) : Cal yX7_firstLiar cX7_firstLiar 3 (some .int) 0 4 0 0 false [vR (some p0), vR (some p1)] LAYC (rfs lw tl tt) M (eqp (vI r) LAYC (rfs lw tl tt) M) := by
  refine Cal.of (by decide +kernel) (Nat.le_of_ble_eq_true rfl) (fun h => by cases h) ?_
  unfold F_X7_firstLiar at h
  show T RX7 cX7_firstLiar 3 (some .int) 0 4 0 0 false (eqp (vI r) LAYC (rfs lw tl tt) M) 0 [aR (some p0), aR (some p1), aU] [] LAYC (rfs lw tl tt) M 0 0
  refine T_iconst dX7_firstLiar_0 ic_0 ?_
  refine T_istore_n (i := 2) (L' := [aR (some p0), aR (some p1), aI 0]) dX7_firstLiar_1 rfl (Nat.le_of_ble_eq_true rfl) rfl ?_
  exact l_X7_firstLiar_L2  lw tl tt M p0 p1 h0 h1 _ FU 0 h ⟨rfl, rfl, rfl, rfl⟩
def X7_depthsBy_L15 (M : Mem) (p0 : Nat) (x1 : Int32) (x2 : Int32) (x3 : Int32) : Int32 × Int32 → Option ((Int32 × Int32) ⊕ (Int32))
  | (x4, x5) =>
    bd1 (F_X5_size M p0) fun r_1 => if r_1 ≤ x5 then some (.inr x4)
    else if x4 = 0 then bd1 (F_X5_get M p0 x5) fun r_3 => if r_3 = x1 then bd1 (F_X7_isLie M p0 x5 x3) fun r_7 => if r_7 = 0 then lett (x5 + (nI 3)) fun x_9 => some (.inl (0, x_9))
    else lett (x5 + (nI 3)) fun x_11 => some (.inl (1, x_11))
    else lett (x5 + (nI 3)) fun x_5 => some (.inl (0, x_5))
    else some (.inr x4)
def X7_depthsBy_L4 (M : Mem) (p0 : Nat) (x1 : Int32) : Int32 × Int32 → Option ((Int32 × Int32) ⊕ (Int32))
  | (x2, x3) =>
    if (nI 5) < x3 then some (.inr x2)
    else bd1 (loop (X7_depthsBy_L15 M p0 x1 x2 x3) FU (0, 0)) fun x_13 => if x_13 = 0 then lett (x2 + 1) fun x_16 => lett (x3 + 1) fun x_18 => some (.inl (x_16, x_18))
    else lett (x3 + 1) fun x_14 => some (.inl (x2, x_14))
def F_X7_depthsBy (M : Mem) (p0 : Nat) (x1 : Int32) : Option (Int32) :=
 loop (X7_depthsBy_L4 M p0 x1) FU (0, 0)
set_option maxRecDepth 100000 in
set_option maxHeartbeats 4000000 in
theorem s_X7_depthsBy_L15 (lw : Nat → Option Nat) (tl : Option Nat) (tt : Option Nat) (M : Mem) (p0 : Nat) (x1 : Int32) (x2 : Int32) (x3 : Int32) (h0 : isX5 p0 = true) (x4 : Int32) (x5 : Int32) {Po : Po_} (x : (Int32 × Int32) ⊕ (Int32)) (h : X7_depthsBy_L15 M p0 x1 x2 x3 (x4, x5) = some x) (hI : ∀ (ix4 : Int32) (ix5 : Int32), x = .inl (ix4, ix5) → T RX7 cX7_depthsBy 6 (some .int) 0 4 0 0 false Po 15 [aR (some p0), aI x1, aI x2, aI x3, aI ix4, aI ix5] [] LAYC (rfs lw tl tt) M 0 0) (hE0 : ∀ (e4 : Int32), x = .inr e4 → T RX7 cX7_depthsBy 6 (some .int) 0 4 0 0 false Po 62 [aR (some p0), aI x1, aI x2, aI x3, aI e4, aU] [] LAYC (rfs lw tl tt) M 0 0) : T RX7 cX7_depthsBy 6 (some .int) 0 4 0 0 false Po 15 [aR (some p0), aI x1, aI x2, aI x3, aI x4, aI x5] [] LAYC (rfs lw tl tt) M 0 0 := by
  unfold X7_depthsBy_L15 at h
  simp only at h
  refine T_iload dX7_depthsBy_15 rfl ?_
  refine T_aload_n dX7_depthsBy_17 rfl ?_
  obtain ⟨r_1, hc_2, h⟩ := bd1_some h
  refine T_cvi (as := []) dX7_depthsBy_18 cw_X5_size ml_X7_15 mi_X5_size se_X5_size (lyX5 h0) rfl (by decide) rfl (Nat.le_of_ble_eq_true rfl) (Nat.le_of_ble_eq_true rfl) (m_X5_size lw tl tt M p0 h0 _ hc_2) ?_
  refine T_icmp_ge (tgt := 62) dX7_depthsBy_21 (by decide) (fun hc => ?_) (fun hc => ?_)
  · have h := it_pos hc h
    obtain rfl := sm1 h
    refine T_mask [true, true, true, true, true, false] rfl ?_
    exact hE0 _ rfl
  · have h := it_neg hc h
    refine T_iload dX7_depthsBy_24 rfl ?_
    refine T_if_ne (tgt := 62) dX7_depthsBy_26 (by decide) (fun hc => ?_) (fun hc => ?_)
    · have h := it_neg hc h
      obtain rfl := sm1 h
      refine T_mask [true, true, true, true, true, false] rfl ?_
      exact hE0 _ rfl
    · have h := it_pos hc h
      refine T_aload_n dX7_depthsBy_29 rfl ?_
      refine T_iload dX7_depthsBy_30 rfl ?_
      obtain ⟨r_3, hc_4, h⟩ := bd1_some h
      refine T_cvi (as := [vI x5]) dX7_depthsBy_32 cw_X5_get ml_X7_19 mi_X5_get se_X5_get (lyX5 h0) rfl (by decide) rfl (Nat.le_of_ble_eq_true rfl) (Nat.le_of_ble_eq_true rfl) (m_X5_get lw tl tt M p0 x5 h0 _ hc_4) ?_
      refine T_iload_n dX7_depthsBy_35 rfl ?_
      refine T_icmp_ne (tgt := 53) dX7_depthsBy_36 (by decide) (fun hc => ?_) (fun hc => ?_)
      · have h := it_neg hc h
        refine T_iconst dX7_depthsBy_53 ic_0 ?_
        refine T_istore (i := 4) (L' := [aR (some p0), aI x1, aI x2, aI x3, aI 0, aI x5]) dX7_depthsBy_54 (Nat.le_of_ble_eq_true rfl) rfl ?_
        obtain ⟨x_5, ex_6, h⟩ := lett_some h
        refine T_iinc (L' := [aR (some p0), aI x1, aI x2, aI x3, aI 0, aI x_5]) dX7_depthsBy_56 rfl (ic_inc ic_3 ex_6) (Nat.le_of_ble_eq_true rfl) rfl ?_
        refine T_goto (tgt := 15) dX7_depthsBy_59 (by decide) ?_
        obtain rfl := sm1 h
        exact hI _ _ rfl
      · have h := it_pos hc h
        refine T_aload_n dX7_depthsBy_39 rfl ?_
        refine T_iload dX7_depthsBy_40 rfl ?_
        refine T_iload_n dX7_depthsBy_42 rfl ?_
        obtain ⟨r_7, hc_8, h⟩ := bd1_some h
        refine T_csi (as := [vR (some p0), vI x5, vI x3]) dX7_depthsBy_43 cw_X7_isLie ml_X7_36 mt_X7_isLie rfl (Nat.le_of_ble_eq_true rfl) (Nat.le_of_ble_eq_true rfl) (m_X7_isLie lw tl tt M p0 x5 x3 h0 _ hc_8) ?_
        refine T_if_eq (tgt := 53) dX7_depthsBy_46 (by decide) (fun hc => ?_) (fun hc => ?_)
        · have h := it_pos hc h
          refine T_iconst dX7_depthsBy_53 ic_0 ?_
          refine T_istore (i := 4) (L' := [aR (some p0), aI x1, aI x2, aI x3, aI 0, aI x5]) dX7_depthsBy_54 (Nat.le_of_ble_eq_true rfl) rfl ?_
          obtain ⟨x_9, ex_10, h⟩ := lett_some h
          refine T_iinc (L' := [aR (some p0), aI x1, aI x2, aI x3, aI 0, aI x_9]) dX7_depthsBy_56 rfl (ic_inc ic_3 ex_10) (Nat.le_of_ble_eq_true rfl) rfl ?_
          refine T_goto (tgt := 15) dX7_depthsBy_59 (by decide) ?_
          obtain rfl := sm1 h
          exact hI _ _ rfl
        · have h := it_neg hc h
          refine T_iconst dX7_depthsBy_49 ic_1 ?_
          refine T_goto (tgt := 54) dX7_depthsBy_50 (by decide) ?_
          refine T_istore (i := 4) (L' := [aR (some p0), aI x1, aI x2, aI x3, aI 1, aI x5]) dX7_depthsBy_54 (Nat.le_of_ble_eq_true rfl) rfl ?_
          obtain ⟨x_11, ex_12, h⟩ := lett_some h
          refine T_iinc (L' := [aR (some p0), aI x1, aI x2, aI x3, aI 1, aI x_11]) dX7_depthsBy_56 rfl (ic_inc ic_3 ex_12) (Nat.le_of_ble_eq_true rfl) rfl ?_
          refine T_goto (tgt := 15) dX7_depthsBy_59 (by decide) ?_
          obtain rfl := sm1 h
          exact hI _ _ rfl
set_option maxRecDepth 100000 in
set_option maxHeartbeats 4000000 in
theorem l_X7_depthsBy_L15 (lw : Nat → Option Nat) (tl : Option Nat) (tt : Option Nat) (M : Mem) (p0 : Nat) (x1 : Int32) (x2 : Int32) (x3 : Int32) (h0 : isX5 p0 = true) {Po : Po_} (e4 : Int32) : ∀ (k : Nat) (x4 : Int32) (x5 : Int32), loop (X7_depthsBy_L15 M p0 x1 x2 x3) k (x4, x5) = some e4 → (T RX7 cX7_depthsBy 6 (some .int) 0 4 0 0 false Po 62 [aR (some p0), aI x1, aI x2, aI x3, aI e4, aU] [] LAYC (rfs lw tl tt) M 0 0) → T RX7 cX7_depthsBy 6 (some .int) 0 4 0 0 false Po 15 [aR (some p0), aI x1, aI x2, aI x3, aI x4, aI x5] [] LAYC (rfs lw tl tt) M 0 0 := by
  intro k
  induction k with
  | zero => intro x4 x5 h; cases h
  | succ k ih =>
    intro x4 x5 h hE
    obtain ⟨x, hx, hx1, hx2⟩ := loop_succ h
    exact s_X7_depthsBy_L15  lw tl tt M p0 x1 x2 x3 h0 x4 x5 x hx (fun q0 q1 e => ih q0 q1 (hx1 _ e) hE) (fun q0 e => by cases hx2 _ e; exact hE)
set_option maxRecDepth 100000 in
set_option maxHeartbeats 4000000 in
theorem s_X7_depthsBy_L4 (lw : Nat → Option Nat) (tl : Option Nat) (tt : Option Nat) (M : Mem) (p0 : Nat) (x1 : Int32) (h0 : isX5 p0 = true) (x2 : Int32) (x3 : Int32) {Po : Po_} (x : (Int32 × Int32) ⊕ (Int32)) (h : X7_depthsBy_L4 M p0 x1 (x2, x3) = some x) (hI : ∀ (ix2 : Int32) (ix3 : Int32), x = .inl (ix2, ix3) → T RX7 cX7_depthsBy 6 (some .int) 0 4 0 0 false Po 4 [aR (some p0), aI x1, aI ix2, aI ix3, aU, aU] [] LAYC (rfs lw tl tt) M 0 0) (hE0 : ∀ (er : Int32), x = .inr er → Po (vI er) LAYC (rfs lw tl tt) M) : T RX7 cX7_depthsBy 6 (some .int) 0 4 0 0 false Po 4 [aR (some p0), aI x1, aI x2, aI x3, aU, aU] [] LAYC (rfs lw tl tt) M 0 0 := by
  unfold X7_depthsBy_L4 at h
  simp only at h
  refine T_iload_n dX7_depthsBy_4 rfl ?_
  refine T_iconst dX7_depthsBy_5 ic_5 ?_
  refine T_icmp_gt (tgt := 76) dX7_depthsBy_6 (by decide) (fun hc => ?_) (fun hc => ?_)
  · have h := it_pos hc h
    refine T_iload_n dX7_depthsBy_76 rfl ?_
    obtain rfl := sm1 h
    exact T_iret dX7_depthsBy_77 (hE0 _ rfl)
  · have h := it_neg hc h
    refine T_iconst dX7_depthsBy_9 ic_0 ?_
    refine T_istore (i := 4) (L' := [aR (some p0), aI x1, aI x2, aI x3, aI 0, aU]) dX7_depthsBy_10 (Nat.le_of_ble_eq_true rfl) rfl ?_
    refine T_iconst dX7_depthsBy_12 ic_0 ?_
    refine T_istore (i := 5) (L' := [aR (some p0), aI x1, aI x2, aI x3, aI 0, aI 0]) dX7_depthsBy_13 (Nat.le_of_ble_eq_true rfl) rfl ?_
    obtain ⟨x_13, hl, h⟩ := bd1_some h
    refine l_X7_depthsBy_L15  lw tl tt M p0 x1 x2 x3 h0 _ FU 0 0 hl ?_
    refine T_iload dX7_depthsBy_62 rfl ?_
    refine T_if_ne (tgt := 70) dX7_depthsBy_64 (by decide) (fun hc => ?_) (fun hc => ?_)
    · have h := it_neg hc h
      obtain ⟨x_14, ex_15, h⟩ := lett_some h
      refine T_iinc (L' := [aR (some p0), aI x1, aI x2, aI x_14, aI x_13, aU]) dX7_depthsBy_70 rfl (ic_inc ic_1 ex_15) (Nat.le_of_ble_eq_true rfl) rfl ?_
      refine T_goto (tgt := 4) dX7_depthsBy_73 (by decide) ?_
      obtain rfl := sm1 h
      refine T_mask [true, true, true, true, false, true] rfl ?_
      exact hI _ _ rfl
    · have h := it_pos hc h
      obtain ⟨x_16, ex_17, h⟩ := lett_some h
      refine T_iinc (L' := [aR (some p0), aI x1, aI x_16, aI x3, aI x_13, aU]) dX7_depthsBy_67 rfl (ic_inc ic_1 ex_17) (Nat.le_of_ble_eq_true rfl) rfl ?_
      obtain ⟨x_18, ex_19, h⟩ := lett_some h
      refine T_iinc (L' := [aR (some p0), aI x1, aI x_16, aI x_18, aI x_13, aU]) dX7_depthsBy_70 rfl (ic_inc ic_1 ex_19) (Nat.le_of_ble_eq_true rfl) rfl ?_
      refine T_goto (tgt := 4) dX7_depthsBy_73 (by decide) ?_
      obtain rfl := sm1 h
      refine T_mask [true, true, true, true, false, true] rfl ?_
      exact hI _ _ rfl
set_option maxRecDepth 100000 in
set_option maxHeartbeats 4000000 in
theorem l_X7_depthsBy_L4 (lw : Nat → Option Nat) (tl : Option Nat) (tt : Option Nat) (M : Mem) (p0 : Nat) (x1 : Int32) (h0 : isX5 p0 = true) {Po : Po_} (er : Int32) : ∀ (k : Nat) (x2 : Int32) (x3 : Int32), loop (X7_depthsBy_L4 M p0 x1) k (x2, x3) = some er → (Po (vI er) LAYC (rfs lw tl tt) M) → T RX7 cX7_depthsBy 6 (some .int) 0 4 0 0 false Po 4 [aR (some p0), aI x1, aI x2, aI x3, aU, aU] [] LAYC (rfs lw tl tt) M 0 0 := by
  intro k
  induction k with
  | zero => intro x2 x3 h; cases h
  | succ k ih =>
    intro x2 x3 h hE
    obtain ⟨x, hx, hx1, hx2⟩ := loop_succ h
    exact s_X7_depthsBy_L4  lw tl tt M p0 x1 h0 x2 x3 x hx (fun q0 q1 e => ih q0 q1 (hx1 _ e) hE) (fun q0 e => by cases hx2 _ e; exact hE)
set_option maxRecDepth 100000 in
set_option maxHeartbeats 4000000 in
theorem m_X7_depthsBy (lw : Nat → Option Nat) (tl : Option Nat) (tt : Option Nat) (M : Mem) (p0 : Nat) (x1 : Int32) (h0 : isX5 p0 = true) (r : Int32) (h : F_X7_depthsBy M p0 x1 = some r) : Cal yX7_depthsBy cX7_depthsBy 6 (some .int) 0 4 0 0 false [vR (some p0), vI x1] LAYC (rfs lw tl tt) M (eqp (vI r) LAYC (rfs lw tl tt) M) := by
  refine Cal.of (by decide +kernel) (Nat.le_of_ble_eq_true rfl) (fun h => by cases h) ?_
  unfold F_X7_depthsBy at h
  show T RX7 cX7_depthsBy 6 (some .int) 0 4 0 0 false (eqp (vI r) LAYC (rfs lw tl tt) M) 0 [aR (some p0), aI x1, aU, aU, aU, aU] [] LAYC (rfs lw tl tt) M 0 0
  refine T_iconst dX7_depthsBy_0 ic_0 ?_
  refine T_istore_n (i := 2) (L' := [aR (some p0), aI x1, aI 0, aU, aU, aU]) dX7_depthsBy_1 rfl (Nat.le_of_ble_eq_true rfl) rfl ?_
  refine T_iconst dX7_depthsBy_2 ic_0 ?_
  refine T_istore_n (i := 3) (L' := [aR (some p0), aI x1, aI 0, aI 0, aU, aU]) dX7_depthsBy_3 rfl (Nat.le_of_ble_eq_true rfl) rfl ?_
  exact l_X7_depthsBy_L4  lw tl tt M p0 x1 h0 _ FU 0 0 h ⟨rfl, rfl, rfl, rfl⟩
def X7_speaksOf_L2 (M : Mem) (p0 : Nat) (x1 : Int32) : Int32 → Option ((Int32) ⊕ (Int32))
  | x2 =>
    bd1 (F_X5_size M p0) fun r_1 => if r_1 ≤ x2 then some (.inr 0)
    else bd1 (F_X5_get M p0 x2) fun r_3 => if r_3 = x1 then some (.inr 1)
    else lett (x2 + (nI 3)) fun x_5 => some (.inl x_5)
def F_X7_speaksOf (M : Mem) (p0 : Nat) (x1 : Int32) : Option (Int32) :=
 loop (X7_speaksOf_L2 M p0 x1) FU 0
set_option maxRecDepth 100000 in
set_option maxHeartbeats 4000000 in
theorem s_X7_speaksOf_L2 (lw : Nat → Option Nat) (tl : Option Nat) (tt : Option Nat) (M : Mem) (p0 : Nat) (x1 : Int32) (h0 : isX5 p0 = true) (x2 : Int32) {Po : Po_} (x : (Int32) ⊕ (Int32)) (h : X7_speaksOf_L2 M p0 x1 x2 = some x) (hI : ∀ (ix2 : Int32), x = .inl ix2 → T RX7 cX7_speaksOf 3 (some .boolean) 0 3 0 0 false Po 2 [aR (some p0), aI x1, aI ix2] [] LAYC (rfs lw tl tt) M 0 0) (hE0 : ∀ (er : Int32), x = .inr er → Po (vI er) LAYC (rfs lw tl tt) M) : T RX7 cX7_speaksOf 3 (some .boolean) 0 3 0 0 false Po 2 [aR (some p0), aI x1, aI x2] [] LAYC (rfs lw tl tt) M 0 0 := by
  unfold X7_speaksOf_L2 at h
  simp only at h
  refine T_iload_n dX7_speaksOf_2 rfl ?_
  refine T_aload_n dX7_speaksOf_3 rfl ?_
  obtain ⟨r_1, hc_2, h⟩ := bd1_some h
  refine T_cvi (as := []) dX7_speaksOf_4 cw_X5_size ml_X7_15 mi_X5_size se_X5_size (lyX5 h0) rfl (by decide) rfl (Nat.le_of_ble_eq_true rfl) (Nat.le_of_ble_eq_true rfl) (m_X5_size lw tl tt M p0 h0 _ hc_2) ?_
  refine T_icmp_ge (tgt := 27) dX7_speaksOf_7 (by decide) (fun hc => ?_) (fun hc => ?_)
  · have h := it_pos hc h
    refine T_iconst dX7_speaksOf_27 ic_0 ?_
    obtain rfl := sm1 h
    exact T_zret dX7_speaksOf_28 (Or.inl rfl) (hE0 _ rfl)
  · have h := it_neg hc h
    refine T_aload_n dX7_speaksOf_10 rfl ?_
    refine T_iload_n dX7_speaksOf_11 rfl ?_
    obtain ⟨r_3, hc_4, h⟩ := bd1_some h
    refine T_cvi (as := [vI x2]) dX7_speaksOf_12 cw_X5_get ml_X7_19 mi_X5_get se_X5_get (lyX5 h0) rfl (by decide) rfl (Nat.le_of_ble_eq_true rfl) (Nat.le_of_ble_eq_true rfl) (m_X5_get lw tl tt M p0 x2 h0 _ hc_4) ?_
    refine T_iload_n dX7_speaksOf_15 rfl ?_
    refine T_icmp_ne (tgt := 21) dX7_speaksOf_16 (by decide) (fun hc => ?_) (fun hc => ?_)
    · have h := it_neg hc h
      obtain ⟨x_5, ex_6, h⟩ := lett_some h
      refine T_iinc (L' := [aR (some p0), aI x1, aI x_5]) dX7_speaksOf_21 rfl (ic_inc ic_3 ex_6) (Nat.le_of_ble_eq_true rfl) rfl ?_
      refine T_goto (tgt := 2) dX7_speaksOf_24 (by decide) ?_
      obtain rfl := sm1 h
      exact hI _ rfl
    · have h := it_pos hc h
      refine T_iconst dX7_speaksOf_19 ic_1 ?_
      obtain rfl := sm1 h
      exact T_zret dX7_speaksOf_20 (Or.inr rfl) (hE0 _ rfl)
set_option maxRecDepth 100000 in
set_option maxHeartbeats 4000000 in
theorem l_X7_speaksOf_L2 (lw : Nat → Option Nat) (tl : Option Nat) (tt : Option Nat) (M : Mem) (p0 : Nat) (x1 : Int32) (h0 : isX5 p0 = true) {Po : Po_} (er : Int32) : ∀ (k : Nat) (x2 : Int32), loop (X7_speaksOf_L2 M p0 x1) k x2 = some er → (Po (vI er) LAYC (rfs lw tl tt) M) → T RX7 cX7_speaksOf 3 (some .boolean) 0 3 0 0 false Po 2 [aR (some p0), aI x1, aI x2] [] LAYC (rfs lw tl tt) M 0 0 := by
  intro k
  induction k with
  | zero => intro x2 h; cases h
  | succ k ih =>
    intro x2 h hE
    obtain ⟨x, hx, hx1, hx2⟩ := loop_succ h
    exact s_X7_speaksOf_L2  lw tl tt M p0 x1 h0 x2 x hx (fun q0 e => ih q0 (hx1 _ e) hE) (fun q0 e => by cases hx2 _ e; exact hE)
set_option maxRecDepth 100000 in
set_option maxHeartbeats 4000000 in
theorem m_X7_speaksOf (lw : Nat → Option Nat) (tl : Option Nat) (tt : Option Nat) (M : Mem) (p0 : Nat) (x1 : Int32) (h0 : isX5 p0 = true) (r : Int32) (h : F_X7_speaksOf M p0 x1 = some r) : Cal yX7_speaksOf cX7_speaksOf 3 (some .boolean) 0 3 0 0 false [vR (some p0), vI x1] LAYC (rfs lw tl tt) M (eqp (vI r) LAYC (rfs lw tl tt) M) := by
  refine Cal.of (by decide +kernel) (Nat.le_of_ble_eq_true rfl) (fun h => by cases h) ?_
  unfold F_X7_speaksOf at h
  show T RX7 cX7_speaksOf 3 (some .boolean) 0 3 0 0 false (eqp (vI r) LAYC (rfs lw tl tt) M) 0 [aR (some p0), aI x1, aU] [] LAYC (rfs lw tl tt) M 0 0
  refine T_iconst dX7_speaksOf_0 ic_0 ?_
  refine T_istore_n (i := 2) (L' := [aR (some p0), aI x1, aI 0]) dX7_speaksOf_1 rfl (Nat.le_of_ble_eq_true rfl) rfl ?_
  exact l_X7_speaksOf_L2  lw tl tt M p0 x1 h0 _ FU 0 h ⟨rfl, rfl, rfl, rfl⟩
def X7_groundsBy_L5 (M : Mem) (p0 : Nat) : Int64 × Int32 → Option ((Int64 × Int32) ⊕ (Int64))
  | (x2, x4) =>
    if (gI M 7 0) ≤ x4 then some (.inr x2)
    else bd1 (F_X7_speaksOf M p0 x4) fun r_1 => if r_1 = 0 then lett (x4 + 1) fun x_3 => some (.inl (x2, x_3))
    else bd1 (F_X7_depthsBy M p0 x4) fun r_5 => lett (x2 * r_5.toInt64) fun x_7 => lett (x4 + 1) fun x_9 => some (.inl (x_7, x_9))
def F_X7_groundsBy (M : Mem) (p0 : Nat) : Option (Int64) :=
 loop (X7_groundsBy_L5 M p0) FU (1, 0)
set_option maxRecDepth 100000 in
set_option maxHeartbeats 4000000 in
theorem s_X7_groundsBy_L5 (lw : Nat → Option Nat) (tl : Option Nat) (tt : Option Nat) (M : Mem) (p0 : Nat) (h0 : isX5 p0 = true) (x2 : Int64) (x4 : Int32) {Po : Po_} (x : (Int64 × Int32) ⊕ (Int64)) (h : X7_groundsBy_L5 M p0 (x2, x4) = some x) (hI : ∀ (ix2 : Int64) (ix4 : Int32), x = .inl (ix2, ix4) → T RX7 cX7_groundsBy 5 (some .long) 1 5 0 0 false Po 5 [aR (some p0), aR (some 7), aJ ix2, aU, aI ix4] [] LAYC (rfs lw tl tt) M 0 0) (hE0 : ∀ (er : Int64), x = .inr er → Po (vJ er) LAYC (rfs lw tl tt) M) : T RX7 cX7_groundsBy 5 (some .long) 1 5 0 0 false Po 5 [aR (some p0), aR (some 7), aJ x2, aU, aI x4] [] LAYC (rfs lw tl tt) M 0 0 := by
  unfold X7_groundsBy_L5 at h
  simp only at h
  refine T_iload dX7_groundsBy_5 rfl ?_
  refine T_aload_n dX7_groundsBy_7 rfl ?_
  refine T_getI dX7_groundsBy_8 clOK_X2 fl_X7_40 lyC_7 rfl ?_
  refine T_icmp_ge (tgt := 39) dX7_groundsBy_11 (by decide) (fun hc => ?_) (fun hc => ?_)
  · have h := it_pos hc h
    refine T_lload_n dX7_groundsBy_39 rfl ?_
    obtain rfl := sm1 h
    exact T_lret dX7_groundsBy_40 (hE0 _ rfl)
  · have h := it_neg hc h
    refine T_aload_n dX7_groundsBy_14 rfl ?_
    refine T_iload dX7_groundsBy_15 rfl ?_
    obtain ⟨r_1, hc_2, h⟩ := bd1_some h
    refine T_csi (as := [vR (some p0), vI x4]) dX7_groundsBy_17 cw_X7_speaksOf ml_X7_44 mt_X7_speaksOf rfl (Nat.le_of_ble_eq_true rfl) (Nat.le_of_ble_eq_true rfl) (m_X7_speaksOf lw tl tt M p0 x4 h0 _ hc_2) ?_
    refine T_if_eq (tgt := 33) dX7_groundsBy_20 (by decide) (fun hc => ?_) (fun hc => ?_)
    · have h := it_pos hc h
      obtain ⟨x_3, ex_4, h⟩ := lett_some h
      refine T_iinc (L' := [aR (some p0), aR (some 7), aJ x2, aU, aI x_3]) dX7_groundsBy_33 rfl (ic_inc ic_1 ex_4) (Nat.le_of_ble_eq_true rfl) rfl ?_
      refine T_goto (tgt := 5) dX7_groundsBy_36 (by decide) ?_
      obtain rfl := sm1 h
      exact hI _ _ rfl
    · have h := it_neg hc h
      refine T_lload_n dX7_groundsBy_23 rfl ?_
      refine T_aload_n dX7_groundsBy_24 rfl ?_
      refine T_iload dX7_groundsBy_25 rfl ?_
      obtain ⟨r_5, hc_6, h⟩ := bd1_some h
      refine T_csi (as := [vR (some p0), vI x4]) dX7_groundsBy_27 cw_X7_depthsBy ml_X7_48 mt_X7_depthsBy rfl (Nat.le_of_ble_eq_true rfl) (Nat.le_of_ble_eq_true rfl) (m_X7_depthsBy lw tl tt M p0 x4 h0 _ hc_6) ?_
      refine T_i2l dX7_groundsBy_30 ?_
      refine T_lmul dX7_groundsBy_31 ?_
      obtain ⟨x_7, ex_8, h⟩ := lett_some h
      refine T_topJ ex_8 ?_
      refine T_lstore_n (i := 2) (L' := [aR (some p0), aR (some 7), aJ x_7, aU, aI x4]) dX7_groundsBy_32 rfl (Nat.le_of_ble_eq_true rfl) rfl ?_
      obtain ⟨x_9, ex_10, h⟩ := lett_some h
      refine T_iinc (L' := [aR (some p0), aR (some 7), aJ x_7, aU, aI x_9]) dX7_groundsBy_33 rfl (ic_inc ic_1 ex_10) (Nat.le_of_ble_eq_true rfl) rfl ?_
      refine T_goto (tgt := 5) dX7_groundsBy_36 (by decide) ?_
      obtain rfl := sm1 h
      exact hI _ _ rfl
set_option maxRecDepth 100000 in
set_option maxHeartbeats 4000000 in
theorem l_X7_groundsBy_L5 (lw : Nat → Option Nat) (tl : Option Nat) (tt : Option Nat) (M : Mem) (p0 : Nat) (h0 : isX5 p0 = true) {Po : Po_} (er : Int64) : ∀ (k : Nat) (x2 : Int64) (x4 : Int32), loop (X7_groundsBy_L5 M p0) k (x2, x4) = some er → (Po (vJ er) LAYC (rfs lw tl tt) M) → T RX7 cX7_groundsBy 5 (some .long) 1 5 0 0 false Po 5 [aR (some p0), aR (some 7), aJ x2, aU, aI x4] [] LAYC (rfs lw tl tt) M 0 0 := by
  intro k
  induction k with
  | zero => intro x2 x4 h; cases h
  | succ k ih =>
    intro x2 x4 h hE
    obtain ⟨x, hx, hx1, hx2⟩ := loop_succ h
    exact s_X7_groundsBy_L5  lw tl tt M p0 h0 x2 x4 x hx (fun q0 q1 e => ih q0 q1 (hx1 _ e) hE) (fun q0 e => by cases hx2 _ e; exact hE)
set_option maxRecDepth 100000 in
set_option maxHeartbeats 4000000 in
theorem m_X7_groundsBy (lw : Nat → Option Nat) (tl : Option Nat) (tt : Option Nat) (M : Mem) (p0 : Nat) (h0 : isX5 p0 = true) (r : Int64) (h : F_X7_groundsBy M p0 = some r) : Cal yX7_groundsBy cX7_groundsBy 5 (some .long) 1 5 0 0 false [vR (some p0), vR (some 7)] LAYC (rfs lw tl tt) M (eqp (vJ r) LAYC (rfs lw tl tt) M) := by
  refine Cal.of (by decide +kernel) (Nat.le_of_ble_eq_true rfl) (fun h => by cases h) ?_
  unfold F_X7_groundsBy at h
  show T RX7 cX7_groundsBy 5 (some .long) 1 5 0 0 false (eqp (vJ r) LAYC (rfs lw tl tt) M) 0 [aR (some p0), aR (some 7), aU, aU, aU] [] LAYC (rfs lw tl tt) M 0 0
  refine T_lconst dX7_groundsBy_0 lc_1 ?_
  refine T_lstore_n (i := 2) (L' := [aR (some p0), aR (some 7), aJ 1, aU, aU]) dX7_groundsBy_1 rfl (Nat.le_of_ble_eq_true rfl) rfl ?_
  refine T_iconst dX7_groundsBy_2 ic_0 ?_
  refine T_istore (i := 4) (L' := [aR (some p0), aR (some 7), aJ 1, aU, aI 0]) dX7_groundsBy_3 (Nat.le_of_ble_eq_true rfl) rfl ?_
  exact l_X7_groundsBy_L5  lw tl tt M p0 h0 _ FU 1 0 h ⟨rfl, rfl, rfl, rfl⟩
def F_X8_found (M : Mem) (x1 : Int32) : Option (Int32 × Mem) :=
 if x1 < 1 then some ((-3), M)
 else if (nI 6) ≤ x1 then some ((-3), M)
 else lett (sI M 0 15 x1) fun M_1 => chk (inb x1 6 = true) (chk (inb x1 6 = true) (lett (sI M_1 25 x1.toNatClampNeg ((gI M_1 25 x1.toNatClampNeg) + 1)) fun M_4 => some ((-3), M_4)))
set_option maxRecDepth 100000 in
set_option maxHeartbeats 4000000 in
theorem m_X8_found (lw : Nat → Option Nat) (tl : Option Nat) (tt : Option Nat) (M : Mem) (x1 : Int32) (r : Int32) (M' : Mem) (h : F_X8_found M x1 = some (r, M')) : Cal yX8_found cX8_found 2 (some .int) 0 1 0 0 false [vR (some 0), vI x1] LAYC (rfs lw tl tt) M (eqp (vI r) LAYC (rfs lw tl tt) M') := by
  refine Cal.of (by decide +kernel) (Nat.le_of_ble_eq_true rfl) (fun h => by cases h) ?_
  unfold F_X8_found at h
  show T RX8 cX8_found 2 (some .int) 0 1 0 0 false (eqp (vI r) LAYC (rfs lw tl tt) M') 0 [aR (some 0), aI x1] [] LAYC (rfs lw tl tt) M 0 0
  refine T_iload_n dX8_found_0 rfl ?_
  refine T_iconst dX8_found_1 ic_1 ?_
  refine T_icmp_lt (tgt := 29) dX8_found_2 (by decide) (fun hc => ?_) (fun hc => ?_)
  · have h := it_pos hc h
    refine T_bipush dX8_found_29 bp_m3 ?_
    obtain ⟨rfl, rfl⟩ := sm2 h
    exact T_iret dX8_found_31 ⟨rfl, rfl, rfl, rfl⟩
  · have h := it_neg hc h
    refine T_iload_n dX8_found_5 rfl ?_
    refine T_aload_n dX8_found_6 rfl ?_
    refine T_getR dX8_found_7 clOK_X8 fl_X8_79 lyC_0 rfl rfl ?_
    refine T_alen dX8_found_10 lyC_25 (Or.inl rfl) rfl ?_
    refine T_icmp_ge (tgt := 29) dX8_found_11 (by decide) (fun hc => ?_) (fun hc => ?_)
    · have h := it_pos hc h
      refine T_bipush dX8_found_29 bp_m3 ?_
      obtain ⟨rfl, rfl⟩ := sm2 h
      exact T_iret dX8_found_31 ⟨rfl, rfl, rfl, rfl⟩
    · have h := it_neg hc h
      refine T_aload_n dX8_found_14 rfl ?_
      refine T_iload_n dX8_found_15 rfl ?_
      obtain ⟨M_1, eM_2, h⟩ := lett_some h
      refine T_putI dX8_found_16 clOK_X8 fl_X8_345 (Or.inl rfl) lyC_0 rfl rfl eM_2 ?_
      refine T_aload_n dX8_found_19 rfl ?_
      refine T_getR dX8_found_20 clOK_X8 fl_X8_79 lyC_0 rfl rfl ?_
      refine T_iload_n dX8_found_23 rfl ?_
      refine T_dup2_11 dX8_found_24 rfl rfl ?_
      obtain ⟨hi_3, h⟩ := chk_some h
      refine T_iald dX8_found_25 lyC_25 (inb_in hi_3) ?_
      refine T_iconst dX8_found_26 ic_1 ?_
      refine T_iadd dX8_found_27 ?_
      obtain ⟨hi_6, h⟩ := chk_some h
      obtain ⟨M_4, eM_5, h⟩ := lett_some h
      refine T_iast dX8_found_28 lyC_25 (inb_in hi_6) eM_5 ?_
      refine T_bipush dX8_found_29 bp_m3 ?_
      obtain ⟨rfl, rfl⟩ := sm2 h
      exact T_iret dX8_found_31 ⟨rfl, rfl, rfl, rfl⟩
def F_X8_comeAnew (M : Mem) (o1 : Option Nat) (x2 : Int32) (x3 : Int32) : Option (Int32 × Mem) :=
 oc o1 (some ((-1), M))
 (fun q_1 => chk (isX5 q_1 = true) (bd1 (F_X5_most q_1) fun r_3 => if x2 ≤ r_3 then if 0 ≤ x2 then bd1 (F_X5_renew M q_1 x2 x3) fun M_5 => some (x2, M_5)
 else bd2 (F_X8_found M (nI 5)) fun r_7 M_8 => some (r_7, M_8)
 else some ((-1), M)))
set_option maxRecDepth 100000 in
set_option maxHeartbeats 4000000 in
theorem m_X8_comeAnew (lw : Nat → Option Nat) (tl : Option Nat) (tt : Option Nat) (M : Mem) (o1 : Option Nat) (x2 : Int32) (x3 : Int32) (r : Int32) (M' : Mem) (h : F_X8_comeAnew M o1 x2 x3 = some (r, M')) : Cal yX8_comeAnew cX8_comeAnew 4 (some .int) 0 3 0 0 false [vR (some 0), vR o1, vI x2, vI x3] LAYC (rfs lw tl tt) M (eqp (vI r) LAYC (rfs lw tl tt) M') := by
  refine Cal.of (by decide +kernel) (Nat.le_of_ble_eq_true rfl) (fun h => by cases h) ?_
  unfold F_X8_comeAnew at h
  show T RX8 cX8_comeAnew 4 (some .int) 0 3 0 0 false (eqp (vI r) LAYC (rfs lw tl tt) M') 0 [aR (some 0), aR o1, aI x2, aI x3] [] LAYC (rfs lw tl tt) M 0 0
  refine T_aload_n dX8_comeAnew_0 rfl ?_
  cases o1 with
  | none =>
    have h := oc_none h
    refine T_ifnull0 (tgt := 12) dX8_comeAnew_1 (by decide) ?_
    refine T_iconst dX8_comeAnew_12 ic_m1 ?_
    obtain ⟨rfl, rfl⟩ := sm2 h
    exact T_iret dX8_comeAnew_13 ⟨rfl, rfl, rfl, rfl⟩
  | some q_1 =>
    have h := oc_some h
    refine T_ifnull1 dX8_comeAnew_1 ?_
    refine T_iload_n dX8_comeAnew_4 rfl ?_
    refine T_aload_n dX8_comeAnew_5 rfl ?_
    obtain ⟨hf_2, h⟩ := chk_some h
    obtain ⟨r_3, hc_4, h⟩ := bd1_some h
    refine T_cvi (as := []) dX8_comeAnew_6 cw_X5_most ml_X8_364 mi_X5_most se_X5_most (lyX5 hf_2) rfl (by decide) rfl (Nat.le_of_ble_eq_true rfl) (Nat.le_of_ble_eq_true rfl) (m_X5_most lw tl tt M q_1 hf_2 _ hc_4) ?_
    refine T_icmp_le (tgt := 14) dX8_comeAnew_9 (by decide) (fun hc => ?_) (fun hc => ?_)
    · have h := it_pos hc h
      refine T_iload_n dX8_comeAnew_14 rfl ?_
      refine T_if_ge (tgt := 24) dX8_comeAnew_15 (by decide) (fun hc => ?_) (fun hc => ?_)
      · have h := it_pos hc h
        refine T_aload_n dX8_comeAnew_24 rfl ?_
        refine T_iload_n dX8_comeAnew_25 rfl ?_
        refine T_iload_n dX8_comeAnew_26 rfl ?_
        obtain ⟨M_5, hc_6, h⟩ := bd1_some h
        refine T_cvv (as := [vI x2, vI x3]) dX8_comeAnew_27 cw_X5_renew ml_X8_297 mi_X5_renew se_X5_renew (lyX5 hf_2) rfl (by decide) rfl (Nat.le_of_ble_eq_true rfl) (Nat.le_of_ble_eq_true rfl) (m_X5_renew lw tl tt M q_1 x2 x3 hf_2 _ hc_6) ?_
        refine T_iload_n dX8_comeAnew_30 rfl ?_
        obtain ⟨rfl, rfl⟩ := sm2 h
        exact T_iret dX8_comeAnew_31 ⟨rfl, rfl, rfl, rfl⟩
      · have h := it_neg hc h
        refine T_aload_n dX8_comeAnew_18 rfl ?_
        refine T_iconst dX8_comeAnew_19 ic_5 ?_
        obtain ⟨r_7, M_8, hc_9, h⟩ := bd2_some h
        refine T_cvi (as := [vI (nI 5)]) dX8_comeAnew_20 cw_X8_found ml_X8_100 mi_X8_found se_X8_found lyC_0 rfl (by decide) rfl (Nat.le_of_ble_eq_true rfl) (Nat.le_of_ble_eq_true rfl) (m_X8_found lw tl tt M (nI 5)  _ _ hc_9) ?_
        obtain ⟨rfl, rfl⟩ := sm2 h
        exact T_iret dX8_comeAnew_23 ⟨rfl, rfl, rfl, rfl⟩
    · have h := it_neg hc h
      refine T_iconst dX8_comeAnew_12 ic_m1 ?_
      obtain ⟨rfl, rfl⟩ := sm2 h
      exact T_iret dX8_comeAnew_13 ⟨rfl, rfl, rfl, rfl⟩
def F_X8_rowOf (x1 : Int32) : Option (Option Nat) :=
 if x1 < 0 then some none
 else if (nI 6) ≤ x1 then some none
 else chk (inb x1 6 = true) (lett (finC 1 x1.toNatClampNeg) fun o_2 => some o_2)
set_option maxRecDepth 100000 in
set_option maxHeartbeats 4000000 in
theorem m_X8_rowOf (lw : Nat → Option Nat) (tl : Option Nat) (tt : Option Nat) (M : Mem) (x1 : Int32) (r : Option Nat) (h : F_X8_rowOf x1 = some r) : Cal yX8_rowOf cX8_rowOf 2 (some (.object "HoleMoved$Strip")) 3 1 0 0 false [vR (some 0), vI x1] LAYC (rfs lw tl tt) M (eqp (vR r) LAYC (rfs lw tl tt) M) := by
  refine Cal.of (by decide +kernel) (Nat.le_of_ble_eq_true rfl) (fun h => by cases h) ?_
  unfold F_X8_rowOf at h
  show T RX8 cX8_rowOf 2 (some (.object "HoleMoved$Strip")) 3 1 0 0 false (eqp (vR r) LAYC (rfs lw tl tt) M) 0 [aR (some 0), aI x1] [] LAYC (rfs lw tl tt) M 0 0
  refine T_iload_n dX8_rowOf_0 rfl ?_
  refine T_if_lt (tgt := 22) dX8_rowOf_1 (by decide) (fun hc => ?_) (fun hc => ?_)
  · have h := it_pos hc h
    refine T_null dX8_rowOf_22 ?_
    obtain rfl := sm1 h
    exact T_aret dX8_rowOf_23 ⟨rfl, rfl, rfl, rfl⟩
  · have h := it_neg hc h
    refine T_iload_n dX8_rowOf_4 rfl ?_
    refine T_aload_n dX8_rowOf_5 rfl ?_
    refine T_getR dX8_rowOf_6 clOK_X8 fl_X8_11 lyC_0 rfl rfl ?_
    refine T_alen dX8_rowOf_9 lyC_1 (Or.inr (Or.inr (Or.inr (Or.inr rfl)))) rfl ?_
    refine T_icmp_ge (tgt := 22) dX8_rowOf_10 (by decide) (fun hc => ?_) (fun hc => ?_)
    · have h := it_pos hc h
      refine T_null dX8_rowOf_22 ?_
      obtain rfl := sm1 h
      exact T_aret dX8_rowOf_23 ⟨rfl, rfl, rfl, rfl⟩
    · have h := it_neg hc h
      refine T_aload_n dX8_rowOf_13 rfl ?_
      refine T_getR dX8_rowOf_14 clOK_X8 fl_X8_11 lyC_0 rfl rfl ?_
      refine T_iload_n dX8_rowOf_17 rfl ?_
      obtain ⟨hi_1, h⟩ := chk_some h
      obtain ⟨o_2, eo_3, h⟩ := lett_some h
      refine T_aald dX8_rowOf_18 lyC_1 (Or.inr (Or.inr rfl)) (inb_in hi_1) (Eq.symm eo_3) ?_
      refine T_goto (tgt := 23) dX8_rowOf_19 (by decide) ?_
      obtain rfl := sm1 h
      exact T_aret dX8_rowOf_23 ⟨rfl, rfl, rfl, rfl⟩
def F_X8_row (M : Mem) (x1 : Int32) (x2 : Int32) : Option (Int32 × Mem) :=
 bd1 (F_X8_rowOf x1) fun o_1 => bd2 (F_X8_comeAnew M o_1 x2 0) fun r_3 M_4 => some (r_3, M_4)
set_option maxRecDepth 100000 in
set_option maxHeartbeats 4000000 in
theorem m_X8_row (lw : Nat → Option Nat) (tl : Option Nat) (tt : Option Nat) (M : Mem) (x1 : Int32) (x2 : Int32) (r : Int32) (M' : Mem) (h : F_X8_row M x1 x2 = some (r, M')) : Cal yX8_row cX8_row 3 (some .int) 0 4 0 0 false [vR (some 0), vI x1, vI x2] LAYC (rfs lw tl tt) M (eqp (vI r) LAYC (rfs lw tl tt) M') := by
  refine Cal.of (by decide +kernel) (Nat.le_of_ble_eq_true rfl) (fun h => by cases h) ?_
  unfold F_X8_row at h
  show T RX8 cX8_row 3 (some .int) 0 4 0 0 false (eqp (vI r) LAYC (rfs lw tl tt) M') 0 [aR (some 0), aI x1, aI x2] [] LAYC (rfs lw tl tt) M 0 0
  refine T_aload_n dX8_row_0 rfl ?_
  refine T_aload_n dX8_row_1 rfl ?_
  refine T_iload_n dX8_row_2 rfl ?_
  obtain ⟨o_1, hc_2, h⟩ := bd1_some h
  refine T_cvq (as := [vI x1]) dX8_row_3 cw_X8_rowOf ml_X8_88 mi_X8_rowOf se_X8_rowOf lyC_0 rfl (by decide) rfl (Nat.le_of_ble_eq_true rfl) (Nat.le_of_ble_eq_true rfl) (m_X8_rowOf lw tl tt M x1  _ hc_2) ?_
  refine T_iload_n dX8_row_6 rfl ?_
  refine T_iconst dX8_row_7 ic_0 ?_
  obtain ⟨r_3, M_4, hc_5, h⟩ := bd2_some h
  refine T_cvi (as := [vR o_1, vI x2, vI 0]) dX8_row_8 cw_X8_comeAnew ml_X8_92 mi_X8_comeAnew se_X8_comeAnew lyC_0 rfl (by decide) rfl (Nat.le_of_ble_eq_true rfl) (Nat.le_of_ble_eq_true rfl) (m_X8_comeAnew lw tl tt M o_1 x2 0  _ _ hc_5) ?_
  obtain ⟨rfl, rfl⟩ := sm2 h
  exact T_iret dX8_row_11 ⟨rfl, rfl, rfl, rfl⟩
def F_X8_wrongPlace (M : Mem) (p0 : Nat) (x1 : Int32) : Option (Int32) :=
 bd1 (F_X5_isMissing M p0) fun r_1 => if r_1 = 0 then bd1 (F_X5_has M p0 x1) fun r_3 => if r_3 = 0 then some (nI 2)
 else some 0
 else some 1
set_option maxRecDepth 100000 in
set_option maxHeartbeats 4000000 in
theorem m_X8_wrongPlace (lw : Nat → Option Nat) (tl : Option Nat) (tt : Option Nat) (M : Mem) (p0 : Nat) (x1 : Int32) (h0 : isX5 p0 = true) (r : Int32) (h : F_X8_wrongPlace M p0 x1 = some r) : Cal yX8_wrongPlace cX8_wrongPlace 2 (some .int) 0 2 0 0 false [vR (some p0), vI x1] LAYC (rfs lw tl tt) M (eqp (vI r) LAYC (rfs lw tl tt) M) := by
  refine Cal.of (by decide +kernel) (Nat.le_of_ble_eq_true rfl) (fun h => by cases h) ?_
  unfold F_X8_wrongPlace at h
  show T RX8 cX8_wrongPlace 2 (some .int) 0 2 0 0 false (eqp (vI r) LAYC (rfs lw tl tt) M) 0 [aR (some p0), aI x1] [] LAYC (rfs lw tl tt) M 0 0
  refine T_aload_n dX8_wrongPlace_0 rfl ?_
  obtain ⟨r_1, hc_2, h⟩ := bd1_some h
  refine T_cvi (as := []) dX8_wrongPlace_1 cw_X5_isMissing ml_X8_118 mi_X5_isMissing se_X5_isMissing (lyX5 h0) rfl (by decide) rfl (Nat.le_of_ble_eq_true rfl) (Nat.le_of_ble_eq_true rfl) (m_X5_isMissing lw tl tt M p0 h0 _ hc_2) ?_
  refine T_if_eq (tgt := 9) dX8_wrongPlace_4 (by decide) (fun hc => ?_) (fun hc => ?_)
  · have h := it_pos hc h
    refine T_aload_n dX8_wrongPlace_9 rfl ?_
    refine T_iload_n dX8_wrongPlace_10 rfl ?_
    obtain ⟨r_3, hc_4, h⟩ := bd1_some h
    refine T_cvi (as := [vI x1]) dX8_wrongPlace_11 cw_X5_has ml_X8_367 mi_X5_has se_X5_has (lyX5 h0) rfl (by decide) rfl (Nat.le_of_ble_eq_true rfl) (Nat.le_of_ble_eq_true rfl) (m_X5_has lw tl tt M p0 x1 h0 _ hc_4) ?_
    refine T_if_eq (tgt := 21) dX8_wrongPlace_14 (by decide) (fun hc => ?_) (fun hc => ?_)
    · have h := it_pos hc h
      refine T_iconst dX8_wrongPlace_21 ic_2 ?_
      obtain rfl := sm1 h
      exact T_iret dX8_wrongPlace_22 ⟨rfl, rfl, rfl, rfl⟩
    · have h := it_neg hc h
      refine T_iconst dX8_wrongPlace_17 ic_0 ?_
      refine T_goto (tgt := 22) dX8_wrongPlace_18 (by decide) ?_
      obtain rfl := sm1 h
      exact T_iret dX8_wrongPlace_22 ⟨rfl, rfl, rfl, rfl⟩
  · have h := it_neg hc h
    refine T_iconst dX8_wrongPlace_7 ic_1 ?_
    obtain rfl := sm1 h
    exact T_iret dX8_wrongPlace_8 ⟨rfl, rfl, rfl, rfl⟩
def F_X8_lay (M : Mem) (x1 : Int32) (x2 : Int32) (x3 : Int32) : Option (Int32 × Mem) :=
 bd1 (F_X8_rowOf x1) fun o_1 => oc o_1 (some ((-1), M))
 (fun q_3 => chk (isX5 q_3 = true) (bd1 (F_X8_wrongPlace M q_3 x2) fun r_5 => if r_5 = 0 then bd1 (F_X5_get M q_3 x2) fun r_7 => lett (sI M 0 12 r_7) fun M_9 => bd1 (F_X5_set M_9 q_3 x2 x3) fun M_11 => some (1, M_11)
 else bd2 (F_X8_found M r_5) fun r_13 M_14 => some (r_13, M_14)))
set_option maxRecDepth 100000 in
set_option maxHeartbeats 4000000 in
theorem m_X8_lay (lw : Nat → Option Nat) (tl : Option Nat) (tt : Option Nat) (M : Mem) (x1 : Int32) (x2 : Int32) (x3 : Int32) (r : Int32) (M' : Mem) (h : F_X8_lay M x1 x2 x3 = some (r, M')) : Cal yX8_lay cX8_lay 6 (some .int) 0 3 0 0 false [vR (some 0), vI x1, vI x2, vI x3] LAYC (rfs lw tl tt) M (eqp (vI r) LAYC (rfs lw tl tt) M') := by
  refine Cal.of (by decide +kernel) (Nat.le_of_ble_eq_true rfl) (fun h => by cases h) ?_
  unfold F_X8_lay at h
  show T RX8 cX8_lay 6 (some .int) 0 3 0 0 false (eqp (vI r) LAYC (rfs lw tl tt) M') 0 [aR (some 0), aI x1, aI x2, aI x3, aU, aU] [] LAYC (rfs lw tl tt) M 0 0
  refine T_aload_n dX8_lay_0 rfl ?_
  refine T_iload_n dX8_lay_1 rfl ?_
  obtain ⟨o_1, hc_2, h⟩ := bd1_some h
  refine T_cvq (as := [vI x1]) dX8_lay_2 cw_X8_rowOf ml_X8_88 mi_X8_rowOf se_X8_rowOf lyC_0 rfl (by decide) rfl (Nat.le_of_ble_eq_true rfl) (Nat.le_of_ble_eq_true rfl) (m_X8_rowOf lw tl tt M x1  _ hc_2) ?_
  refine T_astore (i := 4) (L' := [aR (some 0), aI x1, aI x2, aI x3, aR o_1, aU]) dX8_lay_5 (Nat.le_of_ble_eq_true rfl) rfl ?_
  refine T_aload dX8_lay_7 rfl ?_
  cases o_1 with
  | none =>
    have h := oc_none h
    refine T_ifnonnull0 dX8_lay_9 ?_
    refine T_iconst dX8_lay_12 ic_m1 ?_
    obtain ⟨rfl, rfl⟩ := sm2 h
    exact T_iret dX8_lay_13 ⟨rfl, rfl, rfl, rfl⟩
  | some q_3 =>
    have h := oc_some h
    refine T_ifnonnull1 (tgt := 14) dX8_lay_9 (by decide) ?_
    refine T_aload dX8_lay_14 rfl ?_
    refine T_iload_n dX8_lay_16 rfl ?_
    obtain ⟨hf_4, h⟩ := chk_some h
    obtain ⟨r_5, hc_6, h⟩ := bd1_some h
    refine T_csi (as := [vR (some q_3), vI x2]) dX8_lay_17 cw_X8_wrongPlace ml_X8_96 mt_X8_wrongPlace rfl (Nat.le_of_ble_eq_true rfl) (Nat.le_of_ble_eq_true rfl) (m_X8_wrongPlace lw tl tt M q_3 x2 hf_4 _ hc_6) ?_
    refine T_istore (i := 5) (L' := [aR (some 0), aI x1, aI x2, aI x3, aR (some q_3), aI r_5]) dX8_lay_20 (Nat.le_of_ble_eq_true rfl) rfl ?_
    refine T_iload dX8_lay_22 rfl ?_
    refine T_if_eq (tgt := 34) dX8_lay_24 (by decide) (fun hc => ?_) (fun hc => ?_)
    · have h := it_pos hc h
      refine T_aload_n dX8_lay_34 rfl ?_
      refine T_aload dX8_lay_35 rfl ?_
      refine T_iload_n dX8_lay_37 rfl ?_
      obtain ⟨r_7, hc_8, h⟩ := bd1_some h
      refine T_cvi (as := [vI x2]) dX8_lay_38 cw_X5_get ml_X8_104 mi_X5_get se_X5_get (lyX5 hf_4) rfl (by decide) rfl (Nat.le_of_ble_eq_true rfl) (Nat.le_of_ble_eq_true rfl) (m_X5_get lw tl tt M q_3 x2 hf_4 _ hc_8) ?_
      obtain ⟨M_9, eM_10, h⟩ := lett_some h
      refine T_putI dX8_lay_41 clOK_X8 fl_X8_107 (Or.inl rfl) lyC_0 rfl rfl eM_10 ?_
      refine T_aload dX8_lay_44 rfl ?_
      refine T_iload_n dX8_lay_46 rfl ?_
      refine T_iload_n dX8_lay_47 rfl ?_
      obtain ⟨M_11, hc_12, h⟩ := bd1_some h
      refine T_cvv (as := [vI x2, vI x3]) dX8_lay_48 cw_X5_set ml_X8_111 mi_X5_set se_X5_set (lyX5 hf_4) rfl (by decide) rfl (Nat.le_of_ble_eq_true rfl) (Nat.le_of_ble_eq_true rfl) (m_X5_set lw tl tt M_9 q_3 x2 x3 hf_4 _ hc_12) ?_
      refine T_iconst dX8_lay_51 ic_1 ?_
      obtain ⟨rfl, rfl⟩ := sm2 h
      exact T_iret dX8_lay_52 ⟨rfl, rfl, rfl, rfl⟩
    · have h := it_neg hc h
      refine T_aload_n dX8_lay_27 rfl ?_
      refine T_iload dX8_lay_28 rfl ?_
      obtain ⟨r_13, M_14, hc_15, h⟩ := bd2_some h
      refine T_cvi (as := [vI r_5]) dX8_lay_30 cw_X8_found ml_X8_100 mi_X8_found se_X8_found lyC_0 rfl (by decide) rfl (Nat.le_of_ble_eq_true rfl) (Nat.le_of_ble_eq_true rfl) (m_X8_found lw tl tt M r_5  _ _ hc_15) ?_
      obtain ⟨rfl, rfl⟩ := sm2 h
      exact T_iret dX8_lay_33 ⟨rfl, rfl, rfl, rfl⟩
def F_X8_tell (M : Mem) (x1 : Int32) : Option (Int32 × Mem) :=
 lett (sI M 0 12 x1) fun M_1 => some (1, M_1)
set_option maxRecDepth 100000 in
set_option maxHeartbeats 4000000 in
theorem m_X8_tell (lw : Nat → Option Nat) (tl : Option Nat) (tt : Option Nat) (M : Mem) (x1 : Int32) (r : Int32) (M' : Mem) (h : F_X8_tell M x1 = some (r, M')) : Cal yX8_tell cX8_tell 2 (some .int) 0 1 0 0 false [vR (some 0), vI x1] LAYC (rfs lw tl tt) M (eqp (vI r) LAYC (rfs lw tl tt) M') := by
  refine Cal.of (by decide +kernel) (Nat.le_of_ble_eq_true rfl) (fun h => by cases h) ?_
  unfold F_X8_tell at h
  show T RX8 cX8_tell 2 (some .int) 0 1 0 0 false (eqp (vI r) LAYC (rfs lw tl tt) M') 0 [aR (some 0), aI x1] [] LAYC (rfs lw tl tt) M 0 0
  refine T_aload_n dX8_tell_0 rfl ?_
  refine T_iload_n dX8_tell_1 rfl ?_
  obtain ⟨M_1, eM_2, h⟩ := lett_some h
  refine T_putI dX8_tell_2 clOK_X8 fl_X8_107 (Or.inl rfl) lyC_0 rfl rfl eM_2 ?_
  refine T_iconst dX8_tell_5 ic_1 ?_
  obtain ⟨rfl, rfl⟩ := sm2 h
  exact T_iret dX8_tell_6 ⟨rfl, rfl, rfl, rfl⟩
def F_X8_at (M : Mem) (x1 : Int32) (x2 : Int32) : Option (Int32 × Mem) :=
 bd1 (F_X8_rowOf x1) fun o_1 => oc o_1 (some ((-1), M))
 (fun q_3 => chk (isX5 q_3 = true) (bd1 (F_X8_wrongPlace M q_3 x2) fun r_5 => if r_5 = 0 then bd1 (F_X5_get M q_3 x2) fun r_7 => bd2 (F_X8_tell M r_7) fun r_9 M_10 => some (r_9, M_10)
 else bd2 (F_X8_found M r_5) fun r_12 M_13 => some (r_12, M_13)))
set_option maxRecDepth 100000 in
set_option maxHeartbeats 4000000 in
theorem m_X8_at (lw : Nat → Option Nat) (tl : Option Nat) (tt : Option Nat) (M : Mem) (x1 : Int32) (x2 : Int32) (r : Int32) (M' : Mem) (h : F_X8_at M x1 x2 = some (r, M')) : Cal yX8_at cX8_at 5 (some .int) 0 3 0 0 false [vR (some 0), vI x1, vI x2] LAYC (rfs lw tl tt) M (eqp (vI r) LAYC (rfs lw tl tt) M') := by
  refine Cal.of (by decide +kernel) (Nat.le_of_ble_eq_true rfl) (fun h => by cases h) ?_
  unfold F_X8_at at h
  show T RX8 cX8_at 5 (some .int) 0 3 0 0 false (eqp (vI r) LAYC (rfs lw tl tt) M') 0 [aR (some 0), aI x1, aI x2, aU, aU] [] LAYC (rfs lw tl tt) M 0 0
  refine T_aload_n dX8_at_0 rfl ?_
  refine T_iload_n dX8_at_1 rfl ?_
  obtain ⟨o_1, hc_2, h⟩ := bd1_some h
  refine T_cvq (as := [vI x1]) dX8_at_2 cw_X8_rowOf ml_X8_88 mi_X8_rowOf se_X8_rowOf lyC_0 rfl (by decide) rfl (Nat.le_of_ble_eq_true rfl) (Nat.le_of_ble_eq_true rfl) (m_X8_rowOf lw tl tt M x1  _ hc_2) ?_
  refine T_astore_n (i := 3) (L' := [aR (some 0), aI x1, aI x2, aR o_1, aU]) dX8_at_5 rfl (Nat.le_of_ble_eq_true rfl) rfl ?_
  refine T_aload_n dX8_at_6 rfl ?_
  cases o_1 with
  | none =>
    have h := oc_none h
    refine T_ifnonnull0 dX8_at_7 ?_
    refine T_iconst dX8_at_10 ic_m1 ?_
    obtain ⟨rfl, rfl⟩ := sm2 h
    exact T_iret dX8_at_11 ⟨rfl, rfl, rfl, rfl⟩
  | some q_3 =>
    have h := oc_some h
    refine T_ifnonnull1 (tgt := 12) dX8_at_7 (by decide) ?_
    refine T_aload_n dX8_at_12 rfl ?_
    refine T_iload_n dX8_at_13 rfl ?_
    obtain ⟨hf_4, h⟩ := chk_some h
    obtain ⟨r_5, hc_6, h⟩ := bd1_some h
    refine T_csi (as := [vR (some q_3), vI x2]) dX8_at_14 cw_X8_wrongPlace ml_X8_96 mt_X8_wrongPlace rfl (Nat.le_of_ble_eq_true rfl) (Nat.le_of_ble_eq_true rfl) (m_X8_wrongPlace lw tl tt M q_3 x2 hf_4 _ hc_6) ?_
    refine T_istore (i := 4) (L' := [aR (some 0), aI x1, aI x2, aR (some q_3), aI r_5]) dX8_at_17 (Nat.le_of_ble_eq_true rfl) rfl ?_
    refine T_iload dX8_at_19 rfl ?_
    refine T_if_eq (tgt := 31) dX8_at_21 (by decide) (fun hc => ?_) (fun hc => ?_)
    · have h := it_pos hc h
      refine T_aload_n dX8_at_31 rfl ?_
      refine T_aload_n dX8_at_32 rfl ?_
      refine T_iload_n dX8_at_33 rfl ?_
      obtain ⟨r_7, hc_8, h⟩ := bd1_some h
      refine T_cvi (as := [vI x2]) dX8_at_34 cw_X5_get ml_X8_104 mi_X5_get se_X5_get (lyX5 hf_4) rfl (by decide) rfl (Nat.le_of_ble_eq_true rfl) (Nat.le_of_ble_eq_true rfl) (m_X5_get lw tl tt M q_3 x2 hf_4 _ hc_8) ?_
      obtain ⟨r_9, M_10, hc_11, h⟩ := bd2_some h
      refine T_cvi (as := [vI r_7]) dX8_at_37 cw_X8_tell ml_X8_115 mi_X8_tell se_X8_tell lyC_0 rfl (by decide) rfl (Nat.le_of_ble_eq_true rfl) (Nat.le_of_ble_eq_true rfl) (m_X8_tell lw tl tt M r_7  _ _ hc_11) ?_
      obtain ⟨rfl, rfl⟩ := sm2 h
      exact T_iret dX8_at_40 ⟨rfl, rfl, rfl, rfl⟩
    · have h := it_neg hc h
      refine T_aload_n dX8_at_24 rfl ?_
      refine T_iload dX8_at_25 rfl ?_
      obtain ⟨r_12, M_13, hc_14, h⟩ := bd2_some h
      refine T_cvi (as := [vI r_5]) dX8_at_27 cw_X8_found ml_X8_100 mi_X8_found se_X8_found lyC_0 rfl (by decide) rfl (Nat.le_of_ble_eq_true rfl) (Nat.le_of_ble_eq_true rfl) (m_X8_found lw tl tt M r_5  _ _ hc_14) ?_
      obtain ⟨rfl, rfl⟩ := sm2 h
      exact T_iret dX8_at_30 ⟨rfl, rfl, rfl, rfl⟩
def F_X8_tear (M : Mem) (x1 : Int32) : Option (Int32 × Mem) :=
 bd1 (F_X8_rowOf x1) fun o_1 => oc o_1 (some ((-1), M))
 (fun q_3 => chk (isX5 q_3 = true) (bd1 (F_X5_isMissing M q_3) fun r_5 => if r_5 = 0 then bd1 (F_X5_remove M q_3) fun M_7 => some (1, M_7)
 else bd2 (F_X8_found M 1) fun r_9 M_10 => some (r_9, M_10)))
set_option maxRecDepth 100000 in
set_option maxHeartbeats 4000000 in
theorem m_X8_tear (lw : Nat → Option Nat) (tl : Option Nat) (tt : Option Nat) (M : Mem) (x1 : Int32) (r : Int32) (M' : Mem) (h : F_X8_tear M x1 = some (r, M')) : Cal yX8_tear cX8_tear 3 (some .int) 0 2 0 0 false [vR (some 0), vI x1] LAYC (rfs lw tl tt) M (eqp (vI r) LAYC (rfs lw tl tt) M') := by
  refine Cal.of (by decide +kernel) (Nat.le_of_ble_eq_true rfl) (fun h => by cases h) ?_
  unfold F_X8_tear at h
  show T RX8 cX8_tear 3 (some .int) 0 2 0 0 false (eqp (vI r) LAYC (rfs lw tl tt) M') 0 [aR (some 0), aI x1, aU] [] LAYC (rfs lw tl tt) M 0 0
  refine T_aload_n dX8_tear_0 rfl ?_
  refine T_iload_n dX8_tear_1 rfl ?_
  obtain ⟨o_1, hc_2, h⟩ := bd1_some h
  refine T_cvq (as := [vI x1]) dX8_tear_2 cw_X8_rowOf ml_X8_88 mi_X8_rowOf se_X8_rowOf lyC_0 rfl (by decide) rfl (Nat.le_of_ble_eq_true rfl) (Nat.le_of_ble_eq_true rfl) (m_X8_rowOf lw tl tt M x1  _ hc_2) ?_
  refine T_astore_n (i := 2) (L' := [aR (some 0), aI x1, aR o_1]) dX8_tear_5 rfl (Nat.le_of_ble_eq_true rfl) rfl ?_
  refine T_aload_n dX8_tear_6 rfl ?_
  cases o_1 with
  | none =>
    have h := oc_none h
    refine T_ifnonnull0 dX8_tear_7 ?_
    refine T_iconst dX8_tear_10 ic_m1 ?_
    obtain ⟨rfl, rfl⟩ := sm2 h
    exact T_iret dX8_tear_11 ⟨rfl, rfl, rfl, rfl⟩
  | some q_3 =>
    have h := oc_some h
    refine T_ifnonnull1 (tgt := 12) dX8_tear_7 (by decide) ?_
    refine T_aload_n dX8_tear_12 rfl ?_
    obtain ⟨hf_4, h⟩ := chk_some h
    obtain ⟨r_5, hc_6, h⟩ := bd1_some h
    refine T_cvi (as := []) dX8_tear_13 cw_X5_isMissing ml_X8_118 mi_X5_isMissing se_X5_isMissing (lyX5 hf_4) rfl (by decide) rfl (Nat.le_of_ble_eq_true rfl) (Nat.le_of_ble_eq_true rfl) (m_X5_isMissing lw tl tt M q_3 hf_4 _ hc_6) ?_
    refine T_if_eq (tgt := 25) dX8_tear_16 (by decide) (fun hc => ?_) (fun hc => ?_)
    · have h := it_pos hc h
      refine T_aload_n dX8_tear_25 rfl ?_
      obtain ⟨M_7, hc_8, h⟩ := bd1_some h
      refine T_cvv (as := []) dX8_tear_26 cw_X5_remove ml_X8_122 mi_X5_remove se_X5_remove (lyX5 hf_4) rfl (by decide) rfl (Nat.le_of_ble_eq_true rfl) (Nat.le_of_ble_eq_true rfl) (m_X5_remove lw tl tt M q_3 hf_4 _ hc_8) ?_
      refine T_iconst dX8_tear_29 ic_1 ?_
      obtain ⟨rfl, rfl⟩ := sm2 h
      exact T_iret dX8_tear_30 ⟨rfl, rfl, rfl, rfl⟩
    · have h := it_neg hc h
      refine T_aload_n dX8_tear_19 rfl ?_
      refine T_iconst dX8_tear_20 ic_1 ?_
      obtain ⟨r_9, M_10, hc_11, h⟩ := bd2_some h
      refine T_cvi (as := [vI 1]) dX8_tear_21 cw_X8_found ml_X8_100 mi_X8_found se_X8_found lyC_0 rfl (by decide) rfl (Nat.le_of_ble_eq_true rfl) (Nat.le_of_ble_eq_true rfl) (m_X8_found lw tl tt M 1  _ _ hc_11) ?_
      obtain ⟨rfl, rfl⟩ := sm2 h
      exact T_iret dX8_tear_24 ⟨rfl, rfl, rfl, rfl⟩
def X8_copy_J53 (M : Mem) : Option (Int32 × Mem) :=
 bd2 (F_X8_found M 1) fun r_10 M_11 => some (r_10, M_11)
def X8_copy_J82 (M : Mem) : Option (Int32 × Mem) :=
 bd2 (F_X8_found M (nI 2)) fun r_18 M_19 => some (r_18, M_19)
def F_X8_copy (M : Mem) (x1 : Int32) (x2 : Int32) (x3 : Int32) (x4 : Int32) (x5 : Int32) : Option (Int32 × Mem) :=
 bd1 (F_X8_rowOf x1) fun o_1 => bd1 (F_X8_rowOf x3) fun o_3 => oc o_1 (some ((-1), M))
 (fun q_5 => oc o_3 (some ((-1), M))
 (fun q_6 => if 0 ≤ x5 then chk (isX5 q_5 = true) (bd1 (F_X5_isMissing M q_5) fun r_8 => if r_8 = 0 then chk (isX5 q_6 = true) (bd1 (F_X5_isMissing M q_6) fun r_14 => if r_14 = 0 then bd1 (F_X5_spans M q_5 x2 x5) fun r_16 => if r_16 = 0 then X8_copy_J82 M
 else bd1 (F_X5_spans M q_6 x4 x5) fun r_21 => if r_21 = 0 then X8_copy_J82 M
 else bd1 (F_X5_take M q_6 x4 q_5 x2 x5) fun M_23 => some (1, M_23)
 else X8_copy_J53 M)
 else X8_copy_J53 M)
 else bd2 (F_X8_found M (nI 5)) fun r_25 M_26 => some (r_25, M_26)))
set_option maxRecDepth 100000 in
set_option maxHeartbeats 4000000 in
theorem j_X8_copy_J53 (lw : Nat → Option Nat) (tl : Option Nat) (tt : Option Nat) (M : Mem) (r : Int32) (M' : Mem) (h : X8_copy_J53 M = some (r, M')) : T RX8 cX8_copy 8 (some .int) 0 3 0 0 false (eqp (vI r) LAYC (rfs lw tl tt) M') 53 [aR (some 0), aU, aU, aU, aU, aU, aU, aU] [] LAYC (rfs lw tl tt) M 0 0 := by
  unfold X8_copy_J53 at h
  refine T_aload_n dX8_copy_53 rfl ?_
  refine T_iconst dX8_copy_54 ic_1 ?_
  obtain ⟨r_10, M_11, hc_12, h⟩ := bd2_some h
  refine T_cvi (as := [vI 1]) dX8_copy_55 cw_X8_found ml_X8_100 mi_X8_found se_X8_found lyC_0 rfl (by decide) rfl (Nat.le_of_ble_eq_true rfl) (Nat.le_of_ble_eq_true rfl) (m_X8_found lw tl tt M 1  _ _ hc_12) ?_
  obtain ⟨rfl, rfl⟩ := sm2 h
  exact T_iret dX8_copy_58 ⟨rfl, rfl, rfl, rfl⟩
set_option maxRecDepth 100000 in
set_option maxHeartbeats 4000000 in
theorem j_X8_copy_J82 (lw : Nat → Option Nat) (tl : Option Nat) (tt : Option Nat) (M : Mem) (r : Int32) (M' : Mem) (h : X8_copy_J82 M = some (r, M')) : T RX8 cX8_copy 8 (some .int) 0 3 0 0 false (eqp (vI r) LAYC (rfs lw tl tt) M') 82 [aR (some 0), aU, aU, aU, aU, aU, aU, aU] [] LAYC (rfs lw tl tt) M 0 0 := by
  unfold X8_copy_J82 at h
  refine T_aload_n dX8_copy_82 rfl ?_
  refine T_iconst dX8_copy_83 ic_2 ?_
  obtain ⟨r_18, M_19, hc_20, h⟩ := bd2_some h
  refine T_cvi (as := [vI (nI 2)]) dX8_copy_84 cw_X8_found ml_X8_100 mi_X8_found se_X8_found lyC_0 rfl (by decide) rfl (Nat.le_of_ble_eq_true rfl) (Nat.le_of_ble_eq_true rfl) (m_X8_found lw tl tt M (nI 2)  _ _ hc_20) ?_
  obtain ⟨rfl, rfl⟩ := sm2 h
  exact T_iret dX8_copy_87 ⟨rfl, rfl, rfl, rfl⟩
set_option maxRecDepth 100000 in
set_option maxHeartbeats 4000000 in
theorem m_X8_copy (lw : Nat → Option Nat) (tl : Option Nat) (tt : Option Nat) (M : Mem) (x1 : Int32) (x2 : Int32) (x3 : Int32) (x4 : Int32) (x5 : Int32) (r : Int32) (M' : Mem) (h : F_X8_copy M x1 x2 x3 x4 x5 = some (r, M')) : Cal yX8_copy cX8_copy 8 (some .int) 0 3 0 0 false [vR (some 0), vI x1, vI x2, vI x3, vI x4, vI x5] LAYC (rfs lw tl tt) M (eqp (vI r) LAYC (rfs lw tl tt) M') := by
  refine Cal.of (by decide +kernel) (Nat.le_of_ble_eq_true rfl) (fun h => by cases h) ?_
  unfold F_X8_copy at h
  show T RX8 cX8_copy 8 (some .int) 0 3 0 0 false (eqp (vI r) LAYC (rfs lw tl tt) M') 0 [aR (some 0), aI x1, aI x2, aI x3, aI x4, aI x5, aU, aU] [] LAYC (rfs lw tl tt) M 0 0
  refine T_aload_n dX8_copy_0 rfl ?_
  refine T_iload_n dX8_copy_1 rfl ?_
  obtain ⟨o_1, hc_2, h⟩ := bd1_some h
  refine T_cvq (as := [vI x1]) dX8_copy_2 cw_X8_rowOf ml_X8_88 mi_X8_rowOf se_X8_rowOf lyC_0 rfl (by decide) rfl (Nat.le_of_ble_eq_true rfl) (Nat.le_of_ble_eq_true rfl) (m_X8_rowOf lw tl tt M x1  _ hc_2) ?_
  refine T_astore (i := 6) (L' := [aR (some 0), aI x1, aI x2, aI x3, aI x4, aI x5, aR o_1, aU]) dX8_copy_5 (Nat.le_of_ble_eq_true rfl) rfl ?_
  refine T_aload_n dX8_copy_7 rfl ?_
  refine T_iload_n dX8_copy_8 rfl ?_
  obtain ⟨o_3, hc_4, h⟩ := bd1_some h
  refine T_cvq (as := [vI x3]) dX8_copy_9 cw_X8_rowOf ml_X8_88 mi_X8_rowOf se_X8_rowOf lyC_0 rfl (by decide) rfl (Nat.le_of_ble_eq_true rfl) (Nat.le_of_ble_eq_true rfl) (m_X8_rowOf lw tl tt M x3  _ hc_4) ?_
  refine T_astore (i := 7) (L' := [aR (some 0), aI x1, aI x2, aI x3, aI x4, aI x5, aR o_1, aR o_3]) dX8_copy_12 (Nat.le_of_ble_eq_true rfl) rfl ?_
  refine T_aload dX8_copy_14 rfl ?_
  cases o_1 with
  | none =>
    have h := oc_none h
    refine T_ifnull0 (tgt := 24) dX8_copy_16 (by decide) ?_
    refine T_iconst dX8_copy_24 ic_m1 ?_
    obtain ⟨rfl, rfl⟩ := sm2 h
    exact T_iret dX8_copy_25 ⟨rfl, rfl, rfl, rfl⟩
  | some q_5 =>
    have h := oc_some h
    refine T_ifnull1 dX8_copy_16 ?_
    refine T_aload dX8_copy_19 rfl ?_
    cases o_3 with
    | none =>
      have h := oc_none h
      refine T_ifnonnull0 dX8_copy_21 ?_
      refine T_iconst dX8_copy_24 ic_m1 ?_
      obtain ⟨rfl, rfl⟩ := sm2 h
      exact T_iret dX8_copy_25 ⟨rfl, rfl, rfl, rfl⟩
    | some q_6 =>
      have h := oc_some h
      refine T_ifnonnull1 (tgt := 26) dX8_copy_21 (by decide) ?_
      refine T_iload dX8_copy_26 rfl ?_
      refine T_if_ge (tgt := 37) dX8_copy_28 (by decide) (fun hc => ?_) (fun hc => ?_)
      · have h := it_pos hc h
        refine T_aload dX8_copy_37 rfl ?_
        obtain ⟨hf_7, h⟩ := chk_some h
        obtain ⟨r_8, hc_9, h⟩ := bd1_some h
        refine T_cvi (as := []) dX8_copy_39 cw_X5_isMissing ml_X8_118 mi_X5_isMissing se_X5_isMissing (lyX5 hf_7) rfl (by decide) rfl (Nat.le_of_ble_eq_true rfl) (Nat.le_of_ble_eq_true rfl) (m_X5_isMissing lw tl tt M q_5 hf_7 _ hc_9) ?_
        refine T_if_ne (tgt := 53) dX8_copy_42 (by decide) (fun hc => ?_) (fun hc => ?_)
        · have h := it_neg hc h
          refine T_mask [true, false, false, false, false, false, false, false] rfl ?_
          exact j_X8_copy_J53  lw tl tt M  _ _ h
        · have h := it_pos hc h
          refine T_aload dX8_copy_45 rfl ?_
          obtain ⟨hf_13, h⟩ := chk_some h
          obtain ⟨r_14, hc_15, h⟩ := bd1_some h
          refine T_cvi (as := []) dX8_copy_47 cw_X5_isMissing ml_X8_118 mi_X5_isMissing se_X5_isMissing (lyX5 hf_13) rfl (by decide) rfl (Nat.le_of_ble_eq_true rfl) (Nat.le_of_ble_eq_true rfl) (m_X5_isMissing lw tl tt M q_6 hf_13 _ hc_15) ?_
          refine T_if_eq (tgt := 59) dX8_copy_50 (by decide) (fun hc => ?_) (fun hc => ?_)
          · have h := it_pos hc h
            refine T_aload dX8_copy_59 rfl ?_
            refine T_iload_n dX8_copy_61 rfl ?_
            refine T_iload dX8_copy_62 rfl ?_
            obtain ⟨r_16, hc_17, h⟩ := bd1_some h
            refine T_cvi (as := [vI x2, vI x5]) dX8_copy_64 cw_X5_spans ml_X8_125 mi_X5_spans se_X5_spans (lyX5 hf_7) rfl (by decide) rfl (Nat.le_of_ble_eq_true rfl) (Nat.le_of_ble_eq_true rfl) (m_X5_spans lw tl tt M q_5 x2 x5 hf_7 _ hc_17) ?_
            refine T_if_eq (tgt := 82) dX8_copy_67 (by decide) (fun hc => ?_) (fun hc => ?_)
            · have h := it_pos hc h
              refine T_mask [true, false, false, false, false, false, false, false] rfl ?_
              exact j_X8_copy_J82  lw tl tt M  _ _ h
            · have h := it_neg hc h
              refine T_aload dX8_copy_70 rfl ?_
              refine T_iload dX8_copy_72 rfl ?_
              refine T_iload dX8_copy_74 rfl ?_
              obtain ⟨r_21, hc_22, h⟩ := bd1_some h
              refine T_cvi (as := [vI x4, vI x5]) dX8_copy_76 cw_X5_spans ml_X8_125 mi_X5_spans se_X5_spans (lyX5 hf_13) rfl (by decide) rfl (Nat.le_of_ble_eq_true rfl) (Nat.le_of_ble_eq_true rfl) (m_X5_spans lw tl tt M q_6 x4 x5 hf_13 _ hc_22) ?_
              refine T_if_ne (tgt := 88) dX8_copy_79 (by decide) (fun hc => ?_) (fun hc => ?_)
              · have h := it_neg hc h
                refine T_aload dX8_copy_88 rfl ?_
                refine T_iload dX8_copy_90 rfl ?_
                refine T_aload dX8_copy_92 rfl ?_
                refine T_iload_n dX8_copy_94 rfl ?_
                refine T_iload dX8_copy_95 rfl ?_
                obtain ⟨M_23, hc_24, h⟩ := bd1_some h
                refine T_cvv (as := [vI x4, vR (some q_5), vI x2, vI x5]) dX8_copy_97 cw_X5_take ml_X8_129 mi_X5_take se_X5_take (lyX5 hf_13) rfl (by decide) rfl (Nat.le_of_ble_eq_true rfl) (Nat.le_of_ble_eq_true rfl) (m_X5_take lw tl tt M q_6 x4 q_5 x2 x5 hf_13 hf_7 _ hc_24) ?_
                refine T_iconst dX8_copy_100 ic_1 ?_
                obtain ⟨rfl, rfl⟩ := sm2 h
                exact T_iret dX8_copy_101 ⟨rfl, rfl, rfl, rfl⟩
              · have h := it_pos hc h
                refine T_mask [true, false, false, false, false, false, false, false] rfl ?_
                exact j_X8_copy_J82  lw tl tt M  _ _ h
          · have h := it_neg hc h
            refine T_mask [true, false, false, false, false, false, false, false] rfl ?_
            exact j_X8_copy_J53  lw tl tt M  _ _ h
      · have h := it_neg hc h
        refine T_aload_n dX8_copy_31 rfl ?_
        refine T_iconst dX8_copy_32 ic_5 ?_
        obtain ⟨r_25, M_26, hc_27, h⟩ := bd2_some h
        refine T_cvi (as := [vI (nI 5)]) dX8_copy_33 cw_X8_found ml_X8_100 mi_X8_found se_X8_found lyC_0 rfl (by decide) rfl (Nat.le_of_ble_eq_true rfl) (Nat.le_of_ble_eq_true rfl) (m_X8_found lw tl tt M (nI 5)  _ _ hc_27) ?_
        obtain ⟨rfl, rfl⟩ := sm2 h
        exact T_iret dX8_copy_36 ⟨rfl, rfl, rfl, rfl⟩
