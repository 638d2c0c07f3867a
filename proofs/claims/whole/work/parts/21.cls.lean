def F_X1_depthAt (M : Mem) (p0 : Nat) (x1 : Int32) : Option (Int32) :=
 if x1 < 0 then some 0
 else if (nI 16) ≤ x1 then some 0
 else chk (inb x1 16 = true) (some (gI M (p0 + 1) x1.toNatClampNeg))
set_option maxRecDepth 100000 in
set_option maxHeartbeats 4000000 in
theorem m_X1_depthAt (lw : Nat → Option Nat) (tl : Option Nat) (tt : Option Nat) (M : Mem) (p0 : Nat) (x1 : Int32) (h0 : isX1 p0 = true) (r : Int32) (h : F_X1_depthAt M p0 x1 = some r) : Cal yX1_depthAt cX1_depthAt 2 (some .int) 0 1 0 0 false [vR (some p0), vI x1] LAYC (rfs lw tl tt) M (eqp (vI r) LAYC (rfs lw tl tt) M) := by
  refine Cal.of (by decide +kernel) (Nat.le_of_ble_eq_true rfl) (fun h => by cases h) ?_
  unfold F_X1_depthAt at h
  show T RX1 cX1_depthAt 2 (some .int) 0 1 0 0 false (eqp (vI r) LAYC (rfs lw tl tt) M) 0 [aR (some p0), aI x1] [] LAYC (rfs lw tl tt) M 0 0
  refine T_iload_n dX1_depthAt_0 rfl ?_
  refine T_if_lt (tgt := 22) dX1_depthAt_1 (by decide) (fun hc => ?_) (fun hc => ?_)
  · have h := it_pos hc h
    refine T_iconst dX1_depthAt_22 ic_0 ?_
    obtain rfl := sm1 h
    exact T_iret dX1_depthAt_23 ⟨rfl, rfl, rfl, rfl⟩
  · have h := it_neg hc h
    refine T_iload_n dX1_depthAt_4 rfl ?_
    refine T_aload_n dX1_depthAt_5 rfl ?_
    refine T_getR dX1_depthAt_6 clOK_X1 fl_X1_9 (lyX1 h0) rfl (rfX1_1 h0) ?_
    refine T_alen dX1_depthAt_9 (lyX1a h0) (Or.inl rfl) rfl ?_
    refine T_icmp_ge (tgt := 22) dX1_depthAt_10 (by decide) (fun hc => ?_) (fun hc => ?_)
    · have h := it_pos hc h
      refine T_iconst dX1_depthAt_22 ic_0 ?_
      obtain rfl := sm1 h
      exact T_iret dX1_depthAt_23 ⟨rfl, rfl, rfl, rfl⟩
    · have h := it_neg hc h
      refine T_aload_n dX1_depthAt_13 rfl ?_
      refine T_getR dX1_depthAt_14 clOK_X1 fl_X1_9 (lyX1 h0) rfl (rfX1_1 h0) ?_
      refine T_iload_n dX1_depthAt_17 rfl ?_
      obtain ⟨hi_1, h⟩ := chk_some h
      refine T_iald dX1_depthAt_18 (lyX1a h0) (inb_in hi_1) ?_
      refine T_goto (tgt := 23) dX1_depthAt_19 (by decide) ?_
      obtain rfl := sm1 h
      exact T_iret dX1_depthAt_23 ⟨rfl, rfl, rfl, rfl⟩
def F_X1_bears (M : Mem) (p0 : Nat) (x1 : Int32) (x2 : Int32) : Option (Int32) :=
 bd1 (F_X1_depthAt M p0 x1) fun r_1 => lett (r_1 + x2) fun x_3 => if x_3 < 0 then some 0
 else if (nI 5) < x_3 then some 0
 else some 1
set_option maxRecDepth 100000 in
set_option maxHeartbeats 4000000 in
theorem m_X1_bears (lw : Nat → Option Nat) (tl : Option Nat) (tt : Option Nat) (M : Mem) (p0 : Nat) (x1 : Int32) (x2 : Int32) (h0 : isX1 p0 = true) (r : Int32) (h : F_X1_bears M p0 x1 x2 = some r) : Cal yX1_bears cX1_bears 4 (some .boolean) 0 2 0 0 false [vR (some p0), vI x1, vI x2] LAYC (rfs lw tl tt) M (eqp (vI r) LAYC (rfs lw tl tt) M) := by
  refine Cal.of (by decide +kernel) (Nat.le_of_ble_eq_true rfl) (fun h => by cases h) ?_
  unfold F_X1_bears at h
  show T RX1 cX1_bears 4 (some .boolean) 0 2 0 0 false (eqp (vI r) LAYC (rfs lw tl tt) M) 0 [aR (some p0), aI x1, aI x2, aU] [] LAYC (rfs lw tl tt) M 0 0
  refine T_aload_n dX1_bears_0 rfl ?_
  refine T_iload_n dX1_bears_1 rfl ?_
  obtain ⟨r_1, hc_2, h⟩ := bd1_some h
  refine T_cvi (as := [vI x1]) dX1_bears_2 cw_X1_depthAt ml_X1_59 mi_X1_depthAt se_X1_depthAt (lyX1 h0) rfl (by decide) rfl (Nat.le_of_ble_eq_true rfl) (Nat.le_of_ble_eq_true rfl) (m_X1_depthAt lw tl tt M p0 x1 h0 _ hc_2) ?_
  refine T_iload_n dX1_bears_5 rfl ?_
  refine T_iadd dX1_bears_6 ?_
  obtain ⟨x_3, ex_4, h⟩ := lett_some h
  refine T_topI ex_4 ?_
  refine T_istore_n (i := 3) (L' := [aR (some p0), aI x1, aI x2, aI x_3]) dX1_bears_7 rfl (Nat.le_of_ble_eq_true rfl) rfl ?_
  refine T_iload_n dX1_bears_8 rfl ?_
  refine T_if_lt (tgt := 21) dX1_bears_9 (by decide) (fun hc => ?_) (fun hc => ?_)
  · have h := it_pos hc h
    refine T_iconst dX1_bears_21 ic_0 ?_
    obtain rfl := sm1 h
    exact T_zret dX1_bears_22 (Or.inl rfl) ⟨rfl, rfl, rfl, rfl⟩
  · have h := it_neg hc h
    refine T_iload_n dX1_bears_12 rfl ?_
    refine T_iconst dX1_bears_13 ic_5 ?_
    refine T_icmp_gt (tgt := 21) dX1_bears_14 (by decide) (fun hc => ?_) (fun hc => ?_)
    · have h := it_pos hc h
      refine T_iconst dX1_bears_21 ic_0 ?_
      obtain rfl := sm1 h
      exact T_zret dX1_bears_22 (Or.inl rfl) ⟨rfl, rfl, rfl, rfl⟩
    · have h := it_neg hc h
      refine T_iconst dX1_bears_17 ic_1 ?_
      refine T_goto (tgt := 22) dX1_bears_18 (by decide) ?_
      obtain rfl := sm1 h
      exact T_zret dX1_bears_22 (Or.inr rfl) ⟨rfl, rfl, rfl, rfl⟩
def X1_holeAt_L2 (M : Mem) (p0 : Nat) (x1 : Int32) : Int32 → Option ((Int32) ⊕ (Int32))
  | x2 =>
    if (gI M p0 3) ≤ x2 then some (.inr (-9))
    else bd1 (F_X1_bitsOf M p0 x2) fun r_1 => if ((ius r_1 x1) &&& 1) = 0 then lett (x2 + 1) fun x_3 => some (.inl x_3)
    else some (.inr x2)
def F_X1_holeAt (M : Mem) (p0 : Nat) (x1 : Int32) : Option (Int32) :=
 loop (X1_holeAt_L2 M p0 x1) FU 0
set_option maxRecDepth 100000 in
set_option maxHeartbeats 4000000 in
theorem s_X1_holeAt_L2 (lw : Nat → Option Nat) (tl : Option Nat) (tt : Option Nat) (M : Mem) (p0 : Nat) (x1 : Int32) (h0 : isX1 p0 = true) (x2 : Int32) {Po : Po_} (x : (Int32) ⊕ (Int32)) (h : X1_holeAt_L2 M p0 x1 x2 = some x) (hI : ∀ (ix2 : Int32), x = .inl ix2 → T RX1 cX1_holeAt 3 (some .int) 0 2 0 0 false Po 2 [aR (some p0), aI x1, aI ix2] [] LAYC (rfs lw tl tt) M 0 0) (hE0 : ∀ (er : Int32), x = .inr er → Po (vI er) LAYC (rfs lw tl tt) M) : T RX1 cX1_holeAt 3 (some .int) 0 2 0 0 false Po 2 [aR (some p0), aI x1, aI x2] [] LAYC (rfs lw tl tt) M 0 0 := by
  unfold X1_holeAt_L2 at h
  simp only at h
  refine T_iload_n dX1_holeAt_2 rfl ?_
  refine T_aload_n dX1_holeAt_3 rfl ?_
  refine T_getI dX1_holeAt_4 clOK_X1 fl_X1_56 (lyX1 h0) rfl ?_
  refine T_icmp_ge (tgt := 30) dX1_holeAt_7 (by decide) (fun hc => ?_) (fun hc => ?_)
  · have h := it_pos hc h
    refine T_bipush dX1_holeAt_30 bp_m9 ?_
    obtain rfl := sm1 h
    exact T_iret dX1_holeAt_32 (hE0 _ rfl)
  · have h := it_neg hc h
    refine T_aload_n dX1_holeAt_10 rfl ?_
    refine T_iload_n dX1_holeAt_11 rfl ?_
    obtain ⟨r_1, hc_2, h⟩ := bd1_some h
    refine T_cvi (as := [vI x2]) dX1_holeAt_12 cw_X1_bitsOf ml_X1_64 mi_X1_bitsOf se_X1_bitsOf (lyX1 h0) rfl (by decide) rfl (Nat.le_of_ble_eq_true rfl) (Nat.le_of_ble_eq_true rfl) (m_X1_bitsOf lw tl tt M p0 x2 h0 _ hc_2) ?_
    refine T_iload_n dX1_holeAt_15 rfl ?_
    refine T_iushr dX1_holeAt_16 ?_
    refine T_iconst dX1_holeAt_17 ic_1 ?_
    refine T_iand dX1_holeAt_18 ?_
    refine T_if_eq (tgt := 24) dX1_holeAt_19 (by decide) (fun hc => ?_) (fun hc => ?_)
    · have h := it_pos hc h
      obtain ⟨x_3, ex_4, h⟩ := lett_some h
      refine T_iinc (L' := [aR (some p0), aI x1, aI x_3]) dX1_holeAt_24 rfl (ic_inc ic_1 ex_4) (Nat.le_of_ble_eq_true rfl) rfl ?_
      refine T_goto (tgt := 2) dX1_holeAt_27 (by decide) ?_
      obtain rfl := sm1 h
      exact hI _ rfl
    · have h := it_neg hc h
      refine T_iload_n dX1_holeAt_22 rfl ?_
      obtain rfl := sm1 h
      exact T_iret dX1_holeAt_23 (hE0 _ rfl)
set_option maxRecDepth 100000 in
set_option maxHeartbeats 4000000 in
theorem l_X1_holeAt_L2 (lw : Nat → Option Nat) (tl : Option Nat) (tt : Option Nat) (M : Mem) (p0 : Nat) (x1 : Int32) (h0 : isX1 p0 = true) {Po : Po_} (er : Int32) : ∀ (k : Nat) (x2 : Int32), loop (X1_holeAt_L2 M p0 x1) k x2 = some er → (Po (vI er) LAYC (rfs lw tl tt) M) → T RX1 cX1_holeAt 3 (some .int) 0 2 0 0 false Po 2 [aR (some p0), aI x1, aI x2] [] LAYC (rfs lw tl tt) M 0 0 := by
  intro k
  induction k with
  | zero => intro x2 h; cases h
  | succ k ih =>
    intro x2 h hE
    obtain ⟨x, hx, hx1, hx2⟩ := loop_succ h
    exact s_X1_holeAt_L2  lw tl tt M p0 x1 h0 x2 x hx (fun q0 e => ih q0 (hx1 _ e) hE) (fun q0 e => by cases hx2 _ e; exact hE)
set_option maxRecDepth 100000 in
set_option maxHeartbeats 4000000 in
theorem m_X1_holeAt (lw : Nat → Option Nat) (tl : Option Nat) (tt : Option Nat) (M : Mem) (p0 : Nat) (x1 : Int32) (h0 : isX1 p0 = true) (r : Int32) (h : F_X1_holeAt M p0 x1 = some r) : Cal yX1_holeAt cX1_holeAt 3 (some .int) 0 2 0 0 false [vR (some p0), vI x1] LAYC (rfs lw tl tt) M (eqp (vI r) LAYC (rfs lw tl tt) M) := by
  refine Cal.of (by decide +kernel) (Nat.le_of_ble_eq_true rfl) (fun h => by cases h) ?_
  unfold F_X1_holeAt at h
  show T RX1 cX1_holeAt 3 (some .int) 0 2 0 0 false (eqp (vI r) LAYC (rfs lw tl tt) M) 0 [aR (some p0), aI x1, aU] [] LAYC (rfs lw tl tt) M 0 0
  refine T_iconst dX1_holeAt_0 ic_0 ?_
  refine T_istore_n (i := 2) (L' := [aR (some p0), aI x1, aI 0]) dX1_holeAt_1 rfl (Nat.le_of_ble_eq_true rfl) rfl ?_
  exact l_X1_holeAt_L2  lw tl tt M p0 x1 h0 _ FU 0 h ⟨rfl, rfl, rfl, rfl⟩
def X1_volumeOf_L4 (M : Mem) (p0 : Nat) (x1 : Int32) : Int32 × Int32 → Option ((Int32 × Int32) ⊕ (Int32))
  | (x2, x3) =>
    if (nI 16) ≤ x3 then some (.inr x2)
    else if ((ius x1 x3) &&& 1) = 0 then lett (x3 + 1) fun x_1 => some (.inl (x2, x_1))
    else chk (inb x3 16 = true) (lett (x2 + (gI M (p0 + 1) x3.toNatClampNeg)) fun x_4 => lett (x3 + 1) fun x_6 => some (.inl (x_4, x_6)))
def F_X1_volumeOf (M : Mem) (p0 : Nat) (x1 : Int32) : Option (Int32) :=
 loop (X1_volumeOf_L4 M p0 x1) FU (0, 0)
set_option maxRecDepth 100000 in
set_option maxHeartbeats 4000000 in
theorem s_X1_volumeOf_L4 (lw : Nat → Option Nat) (tl : Option Nat) (tt : Option Nat) (M : Mem) (p0 : Nat) (x1 : Int32) (h0 : isX1 p0 = true) (x2 : Int32) (x3 : Int32) {Po : Po_} (x : (Int32 × Int32) ⊕ (Int32)) (h : X1_volumeOf_L4 M p0 x1 (x2, x3) = some x) (hI : ∀ (ix2 : Int32) (ix3 : Int32), x = .inl (ix2, ix3) → T RX1 cX1_volumeOf 4 (some .int) 0 1 0 0 false Po 4 [aR (some p0), aI x1, aI ix2, aI ix3] [] LAYC (rfs lw tl tt) M 0 0) (hE0 : ∀ (er : Int32), x = .inr er → Po (vI er) LAYC (rfs lw tl tt) M) : T RX1 cX1_volumeOf 4 (some .int) 0 1 0 0 false Po 4 [aR (some p0), aI x1, aI x2, aI x3] [] LAYC (rfs lw tl tt) M 0 0 := by
  unfold X1_volumeOf_L4 at h
  simp only at h
  refine T_iload_n dX1_volumeOf_4 rfl ?_
  refine T_aload_n dX1_volumeOf_5 rfl ?_
  refine T_getR dX1_volumeOf_6 clOK_X1 fl_X1_9 (lyX1 h0) rfl (rfX1_1 h0) ?_
  refine T_alen dX1_volumeOf_9 (lyX1a h0) (Or.inl rfl) rfl ?_
  refine T_icmp_ge (tgt := 36) dX1_volumeOf_10 (by decide) (fun hc => ?_) (fun hc => ?_)
  · have h := it_pos hc h
    refine T_iload_n dX1_volumeOf_36 rfl ?_
    obtain rfl := sm1 h
    exact T_iret dX1_volumeOf_37 (hE0 _ rfl)
  · have h := it_neg hc h
    refine T_iload_n dX1_volumeOf_13 rfl ?_
    refine T_iload_n dX1_volumeOf_14 rfl ?_
    refine T_iushr dX1_volumeOf_15 ?_
    refine T_iconst dX1_volumeOf_16 ic_1 ?_
    refine T_iand dX1_volumeOf_17 ?_
    refine T_if_eq (tgt := 30) dX1_volumeOf_18 (by decide) (fun hc => ?_) (fun hc => ?_)
    · have h := it_pos hc h
      obtain ⟨x_1, ex_2, h⟩ := lett_some h
      refine T_iinc (L' := [aR (some p0), aI x1, aI x2, aI x_1]) dX1_volumeOf_30 rfl (ic_inc ic_1 ex_2) (Nat.le_of_ble_eq_true rfl) rfl ?_
      refine T_goto (tgt := 4) dX1_volumeOf_33 (by decide) ?_
      obtain rfl := sm1 h
      exact hI _ _ rfl
    · have h := it_neg hc h
      refine T_iload_n dX1_volumeOf_21 rfl ?_
      refine T_aload_n dX1_volumeOf_22 rfl ?_
      refine T_getR dX1_volumeOf_23 clOK_X1 fl_X1_9 (lyX1 h0) rfl (rfX1_1 h0) ?_
      refine T_iload_n dX1_volumeOf_26 rfl ?_
      obtain ⟨hi_3, h⟩ := chk_some h
      refine T_iald dX1_volumeOf_27 (lyX1a h0) (inb_in hi_3) ?_
      refine T_iadd dX1_volumeOf_28 ?_
      obtain ⟨x_4, ex_5, h⟩ := lett_some h
      refine T_topI ex_5 ?_
      refine T_istore_n (i := 2) (L' := [aR (some p0), aI x1, aI x_4, aI x3]) dX1_volumeOf_29 rfl (Nat.le_of_ble_eq_true rfl) rfl ?_
      obtain ⟨x_6, ex_7, h⟩ := lett_some h
      refine T_iinc (L' := [aR (some p0), aI x1, aI x_4, aI x_6]) dX1_volumeOf_30 rfl (ic_inc ic_1 ex_7) (Nat.le_of_ble_eq_true rfl) rfl ?_
      refine T_goto (tgt := 4) dX1_volumeOf_33 (by decide) ?_
      obtain rfl := sm1 h
      exact hI _ _ rfl
set_option maxRecDepth 100000 in
set_option maxHeartbeats 4000000 in
theorem l_X1_volumeOf_L4 (lw : Nat → Option Nat) (tl : Option Nat) (tt : Option Nat) (M : Mem) (p0 : Nat) (x1 : Int32) (h0 : isX1 p0 = true) {Po : Po_} (er : Int32) : ∀ (k : Nat) (x2 : Int32) (x3 : Int32), loop (X1_volumeOf_L4 M p0 x1) k (x2, x3) = some er → (Po (vI er) LAYC (rfs lw tl tt) M) → T RX1 cX1_volumeOf 4 (some .int) 0 1 0 0 false Po 4 [aR (some p0), aI x1, aI x2, aI x3] [] LAYC (rfs lw tl tt) M 0 0 := by
  intro k
  induction k with
  | zero => intro x2 x3 h; cases h
  | succ k ih =>
    intro x2 x3 h hE
    obtain ⟨x, hx, hx1, hx2⟩ := loop_succ h
    exact s_X1_volumeOf_L4  lw tl tt M p0 x1 h0 x2 x3 x hx (fun q0 q1 e => ih q0 q1 (hx1 _ e) hE) (fun q0 e => by cases hx2 _ e; exact hE)
set_option maxRecDepth 100000 in
set_option maxHeartbeats 4000000 in
theorem m_X1_volumeOf (lw : Nat → Option Nat) (tl : Option Nat) (tt : Option Nat) (M : Mem) (p0 : Nat) (x1 : Int32) (h0 : isX1 p0 = true) (r : Int32) (h : F_X1_volumeOf M p0 x1 = some r) : Cal yX1_volumeOf cX1_volumeOf 4 (some .int) 0 1 0 0 false [vR (some p0), vI x1] LAYC (rfs lw tl tt) M (eqp (vI r) LAYC (rfs lw tl tt) M) := by
  refine Cal.of (by decide +kernel) (Nat.le_of_ble_eq_true rfl) (fun h => by cases h) ?_
  unfold F_X1_volumeOf at h
  show T RX1 cX1_volumeOf 4 (some .int) 0 1 0 0 false (eqp (vI r) LAYC (rfs lw tl tt) M) 0 [aR (some p0), aI x1, aU, aU] [] LAYC (rfs lw tl tt) M 0 0
  refine T_iconst dX1_volumeOf_0 ic_0 ?_
  refine T_istore_n (i := 2) (L' := [aR (some p0), aI x1, aI 0, aU]) dX1_volumeOf_1 rfl (Nat.le_of_ble_eq_true rfl) rfl ?_
  refine T_iconst dX1_volumeOf_2 ic_0 ?_
  refine T_istore_n (i := 3) (L' := [aR (some p0), aI x1, aI 0, aI 0]) dX1_volumeOf_3 rfl (Nat.le_of_ble_eq_true rfl) rfl ?_
  exact l_X1_volumeOf_L4  lw tl tt M p0 x1 h0 _ FU 0 0 h ⟨rfl, rfl, rfl, rfl⟩
def X1_bottomOf_L4 (M : Mem) (p0 : Nat) (x1 : Int32) : Int32 × Int32 → Option ((Int32 × Int32) ⊕ (Int32))
  | (x2, x3) =>
    if (nI 16) ≤ x3 then some (.inr x2)
    else if ((ius x1 x3) &&& 1) = 0 then lett (x3 + 1) fun x_1 => some (.inl (x2, x_1))
    else chk (inb x3 16 = true) (bd1 (F_J9_max_7cf53 x2 (gI M (p0 + 1) x3.toNatClampNeg)) fun r_4 => lett (x3 + 1) fun x_6 => some (.inl (r_4, x_6)))
def F_X1_bottomOf (M : Mem) (p0 : Nat) (x1 : Int32) : Option (Int32) :=
 loop (X1_bottomOf_L4 M p0 x1) FU (0, 0)
set_option maxRecDepth 100000 in
set_option maxHeartbeats 4000000 in
theorem s_X1_bottomOf_L4 (lw : Nat → Option Nat) (tl : Option Nat) (tt : Option Nat) (M : Mem) (p0 : Nat) (x1 : Int32) (h0 : isX1 p0 = true) (x2 : Int32) (x3 : Int32) {Po : Po_} (x : (Int32 × Int32) ⊕ (Int32)) (h : X1_bottomOf_L4 M p0 x1 (x2, x3) = some x) (hI : ∀ (ix2 : Int32) (ix3 : Int32), x = .inl (ix2, ix3) → T RX1 cX1_bottomOf 4 (some .int) 0 2 0 0 false Po 4 [aR (some p0), aI x1, aI ix2, aI ix3] [] LAYC (rfs lw tl tt) M 0 0) (hE0 : ∀ (er : Int32), x = .inr er → Po (vI er) LAYC (rfs lw tl tt) M) : T RX1 cX1_bottomOf 4 (some .int) 0 2 0 0 false Po 4 [aR (some p0), aI x1, aI x2, aI x3] [] LAYC (rfs lw tl tt) M 0 0 := by
  unfold X1_bottomOf_L4 at h
  simp only at h
  refine T_iload_n dX1_bottomOf_4 rfl ?_
  refine T_aload_n dX1_bottomOf_5 rfl ?_
  refine T_getR dX1_bottomOf_6 clOK_X1 fl_X1_9 (lyX1 h0) rfl (rfX1_1 h0) ?_
  refine T_alen dX1_bottomOf_9 (lyX1a h0) (Or.inl rfl) rfl ?_
  refine T_icmp_ge (tgt := 38) dX1_bottomOf_10 (by decide) (fun hc => ?_) (fun hc => ?_)
  · have h := it_pos hc h
    refine T_iload_n dX1_bottomOf_38 rfl ?_
    obtain rfl := sm1 h
    exact T_iret dX1_bottomOf_39 (hE0 _ rfl)
  · have h := it_neg hc h
    refine T_iload_n dX1_bottomOf_13 rfl ?_
    refine T_iload_n dX1_bottomOf_14 rfl ?_
    refine T_iushr dX1_bottomOf_15 ?_
    refine T_iconst dX1_bottomOf_16 ic_1 ?_
    refine T_iand dX1_bottomOf_17 ?_
    refine T_if_eq (tgt := 32) dX1_bottomOf_18 (by decide) (fun hc => ?_) (fun hc => ?_)
    · have h := it_pos hc h
      obtain ⟨x_1, ex_2, h⟩ := lett_some h
      refine T_iinc (L' := [aR (some p0), aI x1, aI x2, aI x_1]) dX1_bottomOf_32 rfl (ic_inc ic_1 ex_2) (Nat.le_of_ble_eq_true rfl) rfl ?_
      refine T_goto (tgt := 4) dX1_bottomOf_35 (by decide) ?_
      obtain rfl := sm1 h
      exact hI _ _ rfl
    · have h := it_neg hc h
      refine T_iload_n dX1_bottomOf_21 rfl ?_
      refine T_aload_n dX1_bottomOf_22 rfl ?_
      refine T_getR dX1_bottomOf_23 clOK_X1 fl_X1_9 (lyX1 h0) rfl (rfX1_1 h0) ?_
      refine T_iload_n dX1_bottomOf_26 rfl ?_
      obtain ⟨hi_3, h⟩ := chk_some h
      refine T_iald dX1_bottomOf_27 (lyX1a h0) (inb_in hi_3) ?_
      obtain ⟨r_4, hc_5, h⟩ := bd1_some h
      refine T_csi (as := [vI x2, vI (gI M (p0 + 1) x3.toNatClampNeg)]) dX1_bottomOf_28 cw_J9_max_7cf53 ml_X1_67 mt_J9_max_7cf53 rfl (Nat.le_of_ble_eq_true rfl) (Nat.le_of_ble_eq_true rfl) (m_J9_max_7cf53 LAYC (rfs lw tl tt) M x2 (gI M (p0 + 1) x3.toNatClampNeg)  _ hc_5) ?_
      refine T_istore_n (i := 2) (L' := [aR (some p0), aI x1, aI r_4, aI x3]) dX1_bottomOf_31 rfl (Nat.le_of_ble_eq_true rfl) rfl ?_
      obtain ⟨x_6, ex_7, h⟩ := lett_some h
      refine T_iinc (L' := [aR (some p0), aI x1, aI r_4, aI x_6]) dX1_bottomOf_32 rfl (ic_inc ic_1 ex_7) (Nat.le_of_ble_eq_true rfl) rfl ?_
      refine T_goto (tgt := 4) dX1_bottomOf_35 (by decide) ?_
      obtain rfl := sm1 h
      exact hI _ _ rfl
set_option maxRecDepth 100000 in
set_option maxHeartbeats 4000000 in
theorem l_X1_bottomOf_L4 (lw : Nat → Option Nat) (tl : Option Nat) (tt : Option Nat) (M : Mem) (p0 : Nat) (x1 : Int32) (h0 : isX1 p0 = true) {Po : Po_} (er : Int32) : ∀ (k : Nat) (x2 : Int32) (x3 : Int32), loop (X1_bottomOf_L4 M p0 x1) k (x2, x3) = some er → (Po (vI er) LAYC (rfs lw tl tt) M) → T RX1 cX1_bottomOf 4 (some .int) 0 2 0 0 false Po 4 [aR (some p0), aI x1, aI x2, aI x3] [] LAYC (rfs lw tl tt) M 0 0 := by
  intro k
  induction k with
  | zero => intro x2 x3 h; cases h
  | succ k ih =>
    intro x2 x3 h hE
    obtain ⟨x, hx, hx1, hx2⟩ := loop_succ h
    exact s_X1_bottomOf_L4  lw tl tt M p0 x1 h0 x2 x3 x hx (fun q0 q1 e => ih q0 q1 (hx1 _ e) hE) (fun q0 e => by cases hx2 _ e; exact hE)
set_option maxRecDepth 100000 in
set_option maxHeartbeats 4000000 in
theorem m_X1_bottomOf (lw : Nat → Option Nat) (tl : Option Nat) (tt : Option Nat) (M : Mem) (p0 : Nat) (x1 : Int32) (h0 : isX1 p0 = true) (r : Int32) (h : F_X1_bottomOf M p0 x1 = some r) : Cal yX1_bottomOf cX1_bottomOf 4 (some .int) 0 2 0 0 false [vR (some p0), vI x1] LAYC (rfs lw tl tt) M (eqp (vI r) LAYC (rfs lw tl tt) M) := by
  refine Cal.of (by decide +kernel) (Nat.le_of_ble_eq_true rfl) (fun h => by cases h) ?_
  unfold F_X1_bottomOf at h
  show T RX1 cX1_bottomOf 4 (some .int) 0 2 0 0 false (eqp (vI r) LAYC (rfs lw tl tt) M) 0 [aR (some p0), aI x1, aU, aU] [] LAYC (rfs lw tl tt) M 0 0
  refine T_iconst dX1_bottomOf_0 ic_0 ?_
  refine T_istore_n (i := 2) (L' := [aR (some p0), aI x1, aI 0, aU]) dX1_bottomOf_1 rfl (Nat.le_of_ble_eq_true rfl) rfl ?_
  refine T_iconst dX1_bottomOf_2 ic_0 ?_
  refine T_istore_n (i := 3) (L' := [aR (some p0), aI x1, aI 0, aI 0]) dX1_bottomOf_3 rfl (Nat.le_of_ble_eq_true rfl) rfl ?_
  exact l_X1_bottomOf_L4  lw tl tt M p0 x1 h0 _ FU 0 0 h ⟨rfl, rfl, rfl, rfl⟩
def X1_largestHole_L4 (M : Mem) (p0 : Nat) : Int32 × Int32 → Option ((Int32 × Int32) ⊕ (Int32))
  | (x1, x2) =>
    if (gI M p0 3) ≤ x2 then some (.inr x1)
    else bd1 (F_X1_bitsOf M p0 x2) fun r_1 => bd1 (F_J6_bitCount_0f7a4 r_1) fun r_3 => bd1 (F_J9_max_7cf53 x1 r_3) fun r_5 => lett (x2 + 1) fun x_7 => some (.inl (r_5, x_7))
def F_X1_largestHole (M : Mem) (p0 : Nat) : Option (Int32) :=
 loop (X1_largestHole_L4 M p0) FU (0, 0)
set_option maxRecDepth 100000 in
set_option maxHeartbeats 4000000 in
theorem s_X1_largestHole_L4 (lw : Nat → Option Nat) (tl : Option Nat) (tt : Option Nat) (M : Mem) (p0 : Nat) (h0 : isX1 p0 = true) (x1 : Int32) (x2 : Int32) {Po : Po_} (x : (Int32 × Int32) ⊕ (Int32)) (h : X1_largestHole_L4 M p0 (x1, x2) = some x) (hI : ∀ (ix1 : Int32) (ix2 : Int32), x = .inl (ix1, ix2) → T RX1 cX1_largestHole 3 (some .int) 0 2 0 0 false Po 4 [aR (some p0), aI ix1, aI ix2] [] LAYC (rfs lw tl tt) M 0 0) (hE0 : ∀ (er : Int32), x = .inr er → Po (vI er) LAYC (rfs lw tl tt) M) : T RX1 cX1_largestHole 3 (some .int) 0 2 0 0 false Po 4 [aR (some p0), aI x1, aI x2] [] LAYC (rfs lw tl tt) M 0 0 := by
  unfold X1_largestHole_L4 at h
  simp only at h
  refine T_iload_n dX1_largestHole_4 rfl ?_
  refine T_aload_n dX1_largestHole_5 rfl ?_
  refine T_getI dX1_largestHole_6 clOK_X1 fl_X1_56 (lyX1 h0) rfl ?_
  refine T_icmp_ge (tgt := 31) dX1_largestHole_9 (by decide) (fun hc => ?_) (fun hc => ?_)
  · have h := it_pos hc h
    refine T_iload_n dX1_largestHole_31 rfl ?_
    obtain rfl := sm1 h
    exact T_iret dX1_largestHole_32 (hE0 _ rfl)
  · have h := it_neg hc h
    refine T_iload_n dX1_largestHole_12 rfl ?_
    refine T_aload_n dX1_largestHole_13 rfl ?_
    refine T_iload_n dX1_largestHole_14 rfl ?_
    obtain ⟨r_1, hc_2, h⟩ := bd1_some h
    refine T_cvi (as := [vI x2]) dX1_largestHole_15 cw_X1_bitsOf ml_X1_64 mi_X1_bitsOf se_X1_bitsOf (lyX1 h0) rfl (by decide) rfl (Nat.le_of_ble_eq_true rfl) (Nat.le_of_ble_eq_true rfl) (m_X1_bitsOf lw tl tt M p0 x2 h0 _ hc_2) ?_
    obtain ⟨r_3, hc_4, h⟩ := bd1_some h
    refine T_csi (as := [vI r_1]) dX1_largestHole_18 cw_J6_bitCount_0f7a4 ml_X1_72 mt_J6_bitCount_0f7a4 rfl (Nat.le_of_ble_eq_true rfl) (Nat.le_of_ble_eq_true rfl) (m_J6_bitCount_0f7a4 LAYC (rfs lw tl tt) M r_1  _ hc_4) ?_
    obtain ⟨r_5, hc_6, h⟩ := bd1_some h
    refine T_csi (as := [vI x1, vI r_3]) dX1_largestHole_21 cw_J9_max_7cf53 ml_X1_67 mt_J9_max_7cf53 rfl (Nat.le_of_ble_eq_true rfl) (Nat.le_of_ble_eq_true rfl) (m_J9_max_7cf53 LAYC (rfs lw tl tt) M x1 r_3  _ hc_6) ?_
    refine T_istore_n (i := 1) (L' := [aR (some p0), aI r_5, aI x2]) dX1_largestHole_24 rfl (Nat.le_of_ble_eq_true rfl) rfl ?_
    obtain ⟨x_7, ex_8, h⟩ := lett_some h
    refine T_iinc (L' := [aR (some p0), aI r_5, aI x_7]) dX1_largestHole_25 rfl (ic_inc ic_1 ex_8) (Nat.le_of_ble_eq_true rfl) rfl ?_
    refine T_goto (tgt := 4) dX1_largestHole_28 (by decide) ?_
    obtain rfl := sm1 h
    exact hI _ _ rfl
set_option maxRecDepth 100000 in
set_option maxHeartbeats 4000000 in
theorem l_X1_largestHole_L4 (lw : Nat → Option Nat) (tl : Option Nat) (tt : Option Nat) (M : Mem) (p0 : Nat) (h0 : isX1 p0 = true) {Po : Po_} (er : Int32) : ∀ (k : Nat) (x1 : Int32) (x2 : Int32), loop (X1_largestHole_L4 M p0) k (x1, x2) = some er → (Po (vI er) LAYC (rfs lw tl tt) M) → T RX1 cX1_largestHole 3 (some .int) 0 2 0 0 false Po 4 [aR (some p0), aI x1, aI x2] [] LAYC (rfs lw tl tt) M 0 0 := by
  intro k
  induction k with
  | zero => intro x1 x2 h; cases h
  | succ k ih =>
    intro x1 x2 h hE
    obtain ⟨x, hx, hx1, hx2⟩ := loop_succ h
    exact s_X1_largestHole_L4  lw tl tt M p0 h0 x1 x2 x hx (fun q0 q1 e => ih q0 q1 (hx1 _ e) hE) (fun q0 e => by cases hx2 _ e; exact hE)
set_option maxRecDepth 100000 in
set_option maxHeartbeats 4000000 in
theorem m_X1_largestHole (lw : Nat → Option Nat) (tl : Option Nat) (tt : Option Nat) (M : Mem) (p0 : Nat) (h0 : isX1 p0 = true) (r : Int32) (h : F_X1_largestHole M p0 = some r) : Cal yX1_largestHole cX1_largestHole 3 (some .int) 0 2 0 0 false [vR (some p0)] LAYC (rfs lw tl tt) M (eqp (vI r) LAYC (rfs lw tl tt) M) := by
  refine Cal.of (by decide +kernel) (Nat.le_of_ble_eq_true rfl) (fun h => by cases h) ?_
  unfold F_X1_largestHole at h
  show T RX1 cX1_largestHole 3 (some .int) 0 2 0 0 false (eqp (vI r) LAYC (rfs lw tl tt) M) 0 [aR (some p0), aU, aU] [] LAYC (rfs lw tl tt) M 0 0
  refine T_iconst dX1_largestHole_0 ic_0 ?_
  refine T_istore_n (i := 1) (L' := [aR (some p0), aI 0, aU]) dX1_largestHole_1 rfl (Nat.le_of_ble_eq_true rfl) rfl ?_
  refine T_iconst dX1_largestHole_2 ic_0 ?_
  refine T_istore_n (i := 2) (L' := [aR (some p0), aI 0, aI 0]) dX1_largestHole_3 rfl (Nat.le_of_ble_eq_true rfl) rfl ?_
  exact l_X1_largestHole_L4  lw tl tt M p0 h0 _ FU 0 0 h ⟨rfl, rfl, rfl, rfl⟩
def X2_ownerOf_L8 (M : Mem) (x1 : Int32) : Int32 × Int32 × Int32 → Option ((Int32 × Int32 × Int32) ⊕ (Int32))
  | (x2, x3, x4) =>
    if (nI 4) ≤ x4 then some (.inr x3)
    else chk (inb x4 4 = true) (bd1 (F_J6_bitCount_0f7a4 (x1 &&& (gI M 8 x4.toNatClampNeg))) fun r_2 => if r_2 ≤ x2 then lett (x4 + 1) fun x_4 => some (.inl (x2, x3, x_4))
    else lett (x4 + 1) fun x_6 => some (.inl (r_2, x4, x_6)))
def F_X2_ownerOf (M : Mem) (x1 : Int32) : Option (Int32) :=
 loop (X2_ownerOf_L8 M x1) FU (0, (-9), 0)
set_option maxRecDepth 100000 in
set_option maxHeartbeats 4000000 in
theorem s_X2_ownerOf_L8 (lw : Nat → Option Nat) (tl : Option Nat) (tt : Option Nat) (M : Mem) (x1 : Int32) (x2 : Int32) (x3 : Int32) (x4 : Int32) {Po : Po_} (x : (Int32 × Int32 × Int32) ⊕ (Int32)) (h : X2_ownerOf_L8 M x1 (x2, x3, x4) = some x) (hI : ∀ (ix2 : Int32) (ix3 : Int32) (ix4 : Int32), x = .inl (ix2, ix3, ix4) → T RX2 cX2_ownerOf 6 (some .int) 0 2 0 0 false Po 8 [aR (some 7), aI x1, aI ix2, aI ix3, aI ix4, aU] [] LAYC (rfs lw tl tt) M 0 0) (hE0 : ∀ (er : Int32), x = .inr er → Po (vI er) LAYC (rfs lw tl tt) M) : T RX2 cX2_ownerOf 6 (some .int) 0 2 0 0 false Po 8 [aR (some 7), aI x1, aI x2, aI x3, aI x4, aU] [] LAYC (rfs lw tl tt) M 0 0 := by
  unfold X2_ownerOf_L8 at h
  simp only at h
  refine T_iload dX2_ownerOf_8 rfl ?_
  refine T_aload_n dX2_ownerOf_10 rfl ?_
  refine T_getR dX2_ownerOf_11 clOK_X2 fl_X2_9 lyC_7 rfl rfl ?_
  refine T_alen dX2_ownerOf_14 lyC_8 (Or.inl rfl) rfl ?_
  refine T_icmp_ge (tgt := 50) dX2_ownerOf_15 (by decide) (fun hc => ?_) (fun hc => ?_)
  · have h := it_pos hc h
    refine T_iload_n dX2_ownerOf_50 rfl ?_
    obtain rfl := sm1 h
    exact T_iret dX2_ownerOf_51 (hE0 _ rfl)
  · have h := it_neg hc h
    refine T_iload_n dX2_ownerOf_18 rfl ?_
    refine T_aload_n dX2_ownerOf_19 rfl ?_
    refine T_getR dX2_ownerOf_20 clOK_X2 fl_X2_9 lyC_7 rfl rfl ?_
    refine T_iload dX2_ownerOf_23 rfl ?_
    obtain ⟨hi_1, h⟩ := chk_some h
    refine T_iald dX2_ownerOf_25 lyC_8 (inb_in hi_1) ?_
    refine T_iand dX2_ownerOf_26 ?_
    obtain ⟨r_2, hc_3, h⟩ := bd1_some h
    refine T_csi (as := [vI (x1 &&& (gI M 8 x4.toNatClampNeg))]) dX2_ownerOf_27 cw_J6_bitCount_0f7a4 ml_X2_48 mt_J6_bitCount_0f7a4 rfl (Nat.le_of_ble_eq_true rfl) (Nat.le_of_ble_eq_true rfl) (m_J6_bitCount_0f7a4 LAYC (rfs lw tl tt) M (x1 &&& (gI M 8 x4.toNatClampNeg))  _ hc_3) ?_
    refine T_istore (i := 5) (L' := [aR (some 7), aI x1, aI x2, aI x3, aI x4, aI r_2]) dX2_ownerOf_30 (Nat.le_of_ble_eq_true rfl) rfl ?_
    refine T_iload dX2_ownerOf_32 rfl ?_
    refine T_iload_n dX2_ownerOf_34 rfl ?_
    refine T_icmp_le (tgt := 44) dX2_ownerOf_35 (by decide) (fun hc => ?_) (fun hc => ?_)
    · have h := it_pos hc h
      obtain ⟨x_4, ex_5, h⟩ := lett_some h
      refine T_iinc (L' := [aR (some 7), aI x1, aI x2, aI x3, aI x_4, aI r_2]) dX2_ownerOf_44 rfl (ic_inc ic_1 ex_5) (Nat.le_of_ble_eq_true rfl) rfl ?_
      refine T_goto (tgt := 8) dX2_ownerOf_47 (by decide) ?_
      obtain rfl := sm1 h
      refine T_mask [true, true, true, true, true, false] rfl ?_
      exact hI _ _ _ rfl
    · have h := it_neg hc h
      refine T_iload dX2_ownerOf_38 rfl ?_
      refine T_istore_n (i := 2) (L' := [aR (some 7), aI x1, aI r_2, aI x3, aI x4, aI r_2]) dX2_ownerOf_40 rfl (Nat.le_of_ble_eq_true rfl) rfl ?_
      refine T_iload dX2_ownerOf_41 rfl ?_
      refine T_istore_n (i := 3) (L' := [aR (some 7), aI x1, aI r_2, aI x4, aI x4, aI r_2]) dX2_ownerOf_43 rfl (Nat.le_of_ble_eq_true rfl) rfl ?_
      obtain ⟨x_6, ex_7, h⟩ := lett_some h
      refine T_iinc (L' := [aR (some 7), aI x1, aI r_2, aI x4, aI x_6, aI r_2]) dX2_ownerOf_44 rfl (ic_inc ic_1 ex_7) (Nat.le_of_ble_eq_true rfl) rfl ?_
      refine T_goto (tgt := 8) dX2_ownerOf_47 (by decide) ?_
      obtain rfl := sm1 h
      refine T_mask [true, true, true, true, true, false] rfl ?_
      exact hI _ _ _ rfl
set_option maxRecDepth 100000 in
set_option maxHeartbeats 4000000 in
theorem l_X2_ownerOf_L8 (lw : Nat → Option Nat) (tl : Option Nat) (tt : Option Nat) (M : Mem) (x1 : Int32) {Po : Po_} (er : Int32) : ∀ (k : Nat) (x2 : Int32) (x3 : Int32) (x4 : Int32), loop (X2_ownerOf_L8 M x1) k (x2, x3, x4) = some er → (Po (vI er) LAYC (rfs lw tl tt) M) → T RX2 cX2_ownerOf 6 (some .int) 0 2 0 0 false Po 8 [aR (some 7), aI x1, aI x2, aI x3, aI x4, aU] [] LAYC (rfs lw tl tt) M 0 0 := by
  intro k
  induction k with
  | zero => intro x2 x3 x4 h; cases h
  | succ k ih =>
    intro x2 x3 x4 h hE
    obtain ⟨x, hx, hx1, hx2⟩ := loop_succ h
    exact s_X2_ownerOf_L8  lw tl tt M x1  x2 x3 x4 x hx (fun q0 q1 q2 e => ih q0 q1 q2 (hx1 _ e) hE) (fun q0 e => by cases hx2 _ e; exact hE)
set_option maxRecDepth 100000 in
set_option maxHeartbeats 4000000 in
theorem m_X2_ownerOf (lw : Nat → Option Nat) (tl : Option Nat) (tt : Option Nat) (M : Mem) (x1 : Int32) (r : Int32) (h : F_X2_ownerOf M x1 = some r) : Cal yX2_ownerOf cX2_ownerOf 6 (some .int) 0 2 0 0 false [vR (some 7), vI x1] LAYC (rfs lw tl tt) M (eqp (vI r) LAYC (rfs lw tl tt) M) := by
  refine Cal.of (by decide +kernel) (Nat.le_of_ble_eq_true rfl) (fun h => by cases h) ?_
  unfold F_X2_ownerOf at h
  show T RX2 cX2_ownerOf 6 (some .int) 0 2 0 0 false (eqp (vI r) LAYC (rfs lw tl tt) M) 0 [aR (some 7), aI x1, aU, aU, aU, aU] [] LAYC (rfs lw tl tt) M 0 0
  refine T_iconst dX2_ownerOf_0 ic_0 ?_
  refine T_istore_n (i := 2) (L' := [aR (some 7), aI x1, aI 0, aU, aU, aU]) dX2_ownerOf_1 rfl (Nat.le_of_ble_eq_true rfl) rfl ?_
  refine T_bipush dX2_ownerOf_2 bp_m9 ?_
  refine T_istore_n (i := 3) (L' := [aR (some 7), aI x1, aI 0, aI (-9), aU, aU]) dX2_ownerOf_4 rfl (Nat.le_of_ble_eq_true rfl) rfl ?_
  refine T_iconst dX2_ownerOf_5 ic_0 ?_
  refine T_istore (i := 4) (L' := [aR (some 7), aI x1, aI 0, aI (-9), aI 0, aU]) dX2_ownerOf_6 (Nat.le_of_ble_eq_true rfl) rfl ?_
  exact l_X2_ownerOf_L8  lw tl tt M x1  _ FU 0 (-9) 0 h ⟨rfl, rfl, rfl, rfl⟩
def F_X1_holeTold (M : Mem) (p0 : Nat) (x1 : Int32) (x2 : Int32) : Option (Int32) :=
 bd1 (F_X1_bitsOf M p0 x1) fun r_1 => if x2 = 0 then some r_1
 else if x2 = 1 then bd1 (F_J6_bitCount_0f7a4 r_1) fun r_3 => some r_3
 else if x2 = (nI 2) then bd1 (F_X1_volumeOf M p0 r_1) fun r_5 => some r_5
 else if x2 = (nI 3) then bd1 (F_X1_bottomOf M p0 r_1) fun r_7 => some r_7
 else bd1 (F_X2_ownerOf M r_1) fun r_9 => some r_9
set_option maxRecDepth 100000 in
set_option maxHeartbeats 4000000 in
theorem m_X1_holeTold (lw : Nat → Option Nat) (tl : Option Nat) (tt : Option Nat) (M : Mem) (p0 : Nat) (x1 : Int32) (x2 : Int32) (h0 : isX1 p0 = true) (r : Int32) (h : F_X1_holeTold M p0 x1 x2 = some r) : Cal yX1_holeTold cX1_holeTold 4 (some .int) 0 3 0 0 false [vR (some p0), vI x1, vI x2] LAYC (rfs lw tl tt) M (eqp (vI r) LAYC (rfs lw tl tt) M) := by
  refine Cal.of (by decide +kernel) (Nat.le_of_ble_eq_true rfl) (fun h => by cases h) ?_
  unfold F_X1_holeTold at h
  show T RX1 cX1_holeTold 4 (some .int) 0 3 0 0 false (eqp (vI r) LAYC (rfs lw tl tt) M) 0 [aR (some p0), aI x1, aI x2, aU] [] LAYC (rfs lw tl tt) M 0 0
  refine T_aload_n dX1_holeTold_0 rfl ?_
  refine T_iload_n dX1_holeTold_1 rfl ?_
  obtain ⟨r_1, hc_2, h⟩ := bd1_some h
  refine T_cvi (as := [vI x1]) dX1_holeTold_2 cw_X1_bitsOf ml_X1_64 mi_X1_bitsOf se_X1_bitsOf (lyX1 h0) rfl (by decide) rfl (Nat.le_of_ble_eq_true rfl) (Nat.le_of_ble_eq_true rfl) (m_X1_bitsOf lw tl tt M p0 x1 h0 _ hc_2) ?_
  refine T_istore_n (i := 3) (L' := [aR (some p0), aI x1, aI x2, aI r_1]) dX1_holeTold_5 rfl (Nat.le_of_ble_eq_true rfl) rfl ?_
  refine T_iload_n dX1_holeTold_6 rfl ?_
  by_cases hs0 : x2 = 0
  · have h := it_pos hs0 h
    refine T_eqI hs0 ?_
    refine T_tabIn (off := 29) (tgt := 36) dX1_holeTold_7 (by decide) (by decide) (by decide) (by decide) ?_
    refine T_iload_n dX1_holeTold_36 rfl ?_
    obtain rfl := sm1 h
    exact T_iret dX1_holeTold_37 ⟨rfl, rfl, rfl, rfl⟩
  · have h := it_neg hs0 h
    by_cases hs1 : x2 = 1
    · have h := it_pos hs1 h
      refine T_eqI hs1 ?_
      refine T_tabIn (off := 31) (tgt := 38) dX1_holeTold_7 (by decide) (by decide) (by decide) (by decide) ?_
      refine T_iload_n dX1_holeTold_38 rfl ?_
      obtain ⟨r_3, hc_4, h⟩ := bd1_some h
      refine T_csi (as := [vI r_1]) dX1_holeTold_39 cw_J6_bitCount_0f7a4 ml_X1_72 mt_J6_bitCount_0f7a4 rfl (Nat.le_of_ble_eq_true rfl) (Nat.le_of_ble_eq_true rfl) (m_J6_bitCount_0f7a4 LAYC (rfs lw tl tt) M r_1  _ hc_4) ?_
      obtain rfl := sm1 h
      exact T_iret dX1_holeTold_42 ⟨rfl, rfl, rfl, rfl⟩
    · have h := it_neg hs1 h
      by_cases hs2 : x2 = (nI 2)
      · have h := it_pos hs2 h
        refine T_eqI hs2 ?_
        refine T_tabIn (off := 36) (tgt := 43) dX1_holeTold_7 (by decide) (by decide) (by decide) (by decide) ?_
        refine T_aload_n dX1_holeTold_43 rfl ?_
        refine T_iload_n dX1_holeTold_44 rfl ?_
        obtain ⟨r_5, hc_6, h⟩ := bd1_some h
        refine T_cvi (as := [vI r_1]) dX1_holeTold_45 cw_X1_volumeOf ml_X1_77 mi_X1_volumeOf se_X1_volumeOf (lyX1 h0) rfl (by decide) rfl (Nat.le_of_ble_eq_true rfl) (Nat.le_of_ble_eq_true rfl) (m_X1_volumeOf lw tl tt M p0 r_1 h0 _ hc_6) ?_
        obtain rfl := sm1 h
        exact T_iret dX1_holeTold_48 ⟨rfl, rfl, rfl, rfl⟩
      · have h := it_neg hs2 h
        by_cases hs3 : x2 = (nI 3)
        · have h := it_pos hs3 h
          refine T_eqI hs3 ?_
          refine T_tabIn (off := 42) (tgt := 49) dX1_holeTold_7 (by decide) (by decide) (by decide) (by decide) ?_
          refine T_aload_n dX1_holeTold_49 rfl ?_
          refine T_iload_n dX1_holeTold_50 rfl ?_
          obtain ⟨r_7, hc_8, h⟩ := bd1_some h
          refine T_cvi (as := [vI r_1]) dX1_holeTold_51 cw_X1_bottomOf ml_X1_80 mi_X1_bottomOf se_X1_bottomOf (lyX1 h0) rfl (by decide) rfl (Nat.le_of_ble_eq_true rfl) (Nat.le_of_ble_eq_true rfl) (m_X1_bottomOf lw tl tt M p0 r_1 h0 _ hc_8) ?_
          obtain rfl := sm1 h
          exact T_iret dX1_holeTold_54 ⟨rfl, rfl, rfl, rfl⟩
        · have h := it_neg hs3 h
          refine T_tabOut (tgt := 55) dX1_holeTold_7 (sw_out (fun k a b => by rcases (show k = 0 ∨ k = 1 ∨ k = 2 ∨ k = 3 by omega) with rfl | rfl | rfl | rfl <;> first | exact fun e => hs0 (e.trans (by decide)) | exact fun e => hs1 (e.trans (by decide)) | exact fun e => hs2 (e.trans (by decide)) | exact fun e => hs3 (e.trans (by decide)))) (by decide) ?_
          refine T_aload_n dX1_holeTold_55 rfl ?_
          refine T_getR dX1_holeTold_56 clOK_X1 fl_X1_18 (lyX1 h0) rfl (rfX1_0 h0) ?_
          refine T_iload_n dX1_holeTold_59 rfl ?_
          obtain ⟨r_9, hc_10, h⟩ := bd1_some h
          refine T_cvi (as := [vI r_1]) dX1_holeTold_60 cw_X2_ownerOf ml_X1_83 mi_X2_ownerOf se_X2_ownerOf lyC_7 rfl (by decide) rfl (Nat.le_of_ble_eq_true rfl) (Nat.le_of_ble_eq_true rfl) (m_X2_ownerOf lw tl tt M r_1  _ hc_10) ?_
          obtain rfl := sm1 h
          exact T_iret dX1_holeTold_63 ⟨rfl, rfl, rfl, rfl⟩
def X1_digestOnto_L22 (M : Mem) (p0 : Nat) : Int64 × Int32 → Option ((Int64 × Int32) ⊕ (Int64))
  | (x3, x5) =>
    if (gI M 7 0) ≤ x5 then some (.inr ((31 * x3) + ((gI M p0 6).toInt64)))
    else bd1 (F_X1_depthAt M p0 x5) fun r_1 => lett ((31 * x3) + r_1.toInt64) fun x_3 => lett (x5 + 1) fun x_5 => some (.inl (x_3, x_5))
def F_X1_digestOnto (M : Mem) (p0 : Nat) (x1 : Int64) : Option (Int64) :=
 if (gI M p0 7) = 0 then some ((31 * x1) + (-1))
 else loop (X1_digestOnto_L22 M p0) FU (x1, 0)
set_option maxRecDepth 100000 in
set_option maxHeartbeats 4000000 in
theorem s_X1_digestOnto_L22 (lw : Nat → Option Nat) (tl : Option Nat) (tt : Option Nat) (M : Mem) (p0 : Nat) (h0 : isX1 p0 = true) (x3 : Int64) (x5 : Int32) {Po : Po_} (x : (Int64 × Int32) ⊕ (Int64)) (h : X1_digestOnto_L22 M p0 (x3, x5) = some x) (hI : ∀ (ix3 : Int64) (ix5 : Int32), x = .inl (ix3, ix5) → T RX1 cX1_digestOnto 6 (some .long) 1 2 0 0 false Po 22 [aR (some p0), aU, aU, aJ ix3, aU, aI ix5] [] LAYC (rfs lw tl tt) M 0 0) (hE0 : ∀ (er : Int64), x = .inr er → Po (vJ er) LAYC (rfs lw tl tt) M) : T RX1 cX1_digestOnto 6 (some .long) 1 2 0 0 false Po 22 [aR (some p0), aU, aU, aJ x3, aU, aI x5] [] LAYC (rfs lw tl tt) M 0 0 := by
  unfold X1_digestOnto_L22 at h
  simp only at h
  refine T_iload dX1_digestOnto_22 rfl ?_
  refine T_aload_n dX1_digestOnto_24 rfl ?_
  refine T_getR dX1_digestOnto_25 clOK_X1 fl_X1_18 (lyX1 h0) rfl (rfX1_0 h0) ?_
  refine T_getI dX1_digestOnto_28 clOK_X2 fl_X1_26 lyC_7 rfl ?_
  refine T_icmp_ge (tgt := 54) dX1_digestOnto_31 (by decide) (fun hc => ?_) (fun hc => ?_)
  · have h := it_pos hc h
    refine T_ldc2 dX1_digestOnto_54 kl_X1_86 ?_
    refine T_lload_n dX1_digestOnto_57 rfl ?_
    refine T_lmul dX1_digestOnto_58 ?_
    refine T_aload_n dX1_digestOnto_59 rfl ?_
    refine T_getI dX1_digestOnto_60 clOK_X1 fl_X1_37 (lyX1 h0) rfl ?_
    refine T_i2l dX1_digestOnto_63 ?_
    refine T_ladd dX1_digestOnto_64 ?_
    obtain rfl := sm1 h
    exact T_lret dX1_digestOnto_65 (hE0 _ rfl)
  · have h := it_neg hc h
    refine T_ldc2 dX1_digestOnto_34 kl_X1_86 ?_
    refine T_lload_n dX1_digestOnto_37 rfl ?_
    refine T_lmul dX1_digestOnto_38 ?_
    refine T_aload_n dX1_digestOnto_39 rfl ?_
    refine T_iload dX1_digestOnto_40 rfl ?_
    obtain ⟨r_1, hc_2, h⟩ := bd1_some h
    refine T_cvi (as := [vI x5]) dX1_digestOnto_42 cw_X1_depthAt ml_X1_59 mi_X1_depthAt se_X1_depthAt (lyX1 h0) rfl (by decide) rfl (Nat.le_of_ble_eq_true rfl) (Nat.le_of_ble_eq_true rfl) (m_X1_depthAt lw tl tt M p0 x5 h0 _ hc_2) ?_
    refine T_i2l dX1_digestOnto_45 ?_
    refine T_ladd dX1_digestOnto_46 ?_
    obtain ⟨x_3, ex_4, h⟩ := lett_some h
    refine T_topJ ex_4 ?_
    refine T_lstore_n (i := 3) (L' := [aR (some p0), aU, aU, aJ x_3, aU, aI x5]) dX1_digestOnto_47 rfl (Nat.le_of_ble_eq_true rfl) rfl ?_
    obtain ⟨x_5, ex_6, h⟩ := lett_some h
    refine T_iinc (L' := [aR (some p0), aU, aU, aJ x_3, aU, aI x_5]) dX1_digestOnto_48 rfl (ic_inc ic_1 ex_6) (Nat.le_of_ble_eq_true rfl) rfl ?_
    refine T_goto (tgt := 22) dX1_digestOnto_51 (by decide) ?_
    obtain rfl := sm1 h
    exact hI _ _ rfl
set_option maxRecDepth 100000 in
set_option maxHeartbeats 4000000 in
theorem l_X1_digestOnto_L22 (lw : Nat → Option Nat) (tl : Option Nat) (tt : Option Nat) (M : Mem) (p0 : Nat) (h0 : isX1 p0 = true) {Po : Po_} (er : Int64) : ∀ (k : Nat) (x3 : Int64) (x5 : Int32), loop (X1_digestOnto_L22 M p0) k (x3, x5) = some er → (Po (vJ er) LAYC (rfs lw tl tt) M) → T RX1 cX1_digestOnto 6 (some .long) 1 2 0 0 false Po 22 [aR (some p0), aU, aU, aJ x3, aU, aI x5] [] LAYC (rfs lw tl tt) M 0 0 := by
  intro k
  induction k with
  | zero => intro x3 x5 h; cases h
  | succ k ih =>
    intro x3 x5 h hE
    obtain ⟨x, hx, hx1, hx2⟩ := loop_succ h
    exact s_X1_digestOnto_L22  lw tl tt M p0 h0 x3 x5 x hx (fun q0 q1 e => ih q0 q1 (hx1 _ e) hE) (fun q0 e => by cases hx2 _ e; exact hE)
set_option maxRecDepth 100000 in
set_option maxHeartbeats 4000000 in
theorem m_X1_digestOnto (lw : Nat → Option Nat) (tl : Option Nat) (tt : Option Nat) (M : Mem) (p0 : Nat) (x1 : Int64) (h0 : isX1 p0 = true) (r : Int64) (h : F_X1_digestOnto M p0 x1 = some r) : Cal yX1_digestOnto cX1_digestOnto 6 (some .long) 1 2 0 0 false [vR (some p0), vJ x1] LAYC (rfs lw tl tt) M (eqp (vJ r) LAYC (rfs lw tl tt) M) := by
  refine Cal.of (by decide +kernel) (Nat.le_of_ble_eq_true rfl) (fun h => by cases h) ?_
  unfold F_X1_digestOnto at h
  show T RX1 cX1_digestOnto 6 (some .long) 1 2 0 0 false (eqp (vJ r) LAYC (rfs lw tl tt) M) 0 [aR (some p0), aJ x1, aU, aU, aU, aU] [] LAYC (rfs lw tl tt) M 0 0
  refine T_aload_n dX1_digestOnto_0 rfl ?_
  refine T_getZ dX1_digestOnto_1 clOK_X1 fl_X1_40 (lyX1 h0) rfl ?_
  refine T_if_ne (tgt := 17) dX1_digestOnto_4 (by decide) (fun hc => ?_) (fun hc => ?_)
  · have h := it_neg hc h
    refine T_lload_n dX1_digestOnto_17 rfl ?_
    refine T_lstore_n (i := 3) (L' := [aR (some p0), aJ x1, aU, aJ x1, aU, aU]) dX1_digestOnto_18 rfl (Nat.le_of_ble_eq_true rfl) rfl ?_
    refine T_iconst dX1_digestOnto_19 ic_0 ?_
    refine T_istore (i := 5) (L' := [aR (some p0), aJ x1, aU, aJ x1, aU, aI 0]) dX1_digestOnto_20 (Nat.le_of_ble_eq_true rfl) rfl ?_
    refine T_mask [true, false, true, true, true, true] rfl ?_
    exact l_X1_digestOnto_L22  lw tl tt M p0 h0 _ FU x1 0 h ⟨rfl, rfl, rfl, rfl⟩
  · have h := it_pos hc h
    refine T_ldc2 dX1_digestOnto_7 kl_X1_86 ?_
    refine T_lload_n dX1_digestOnto_10 rfl ?_
    refine T_lmul dX1_digestOnto_11 ?_
    refine T_ldc2 dX1_digestOnto_12 kl_X1_88 ?_
    refine T_ladd dX1_digestOnto_15 ?_
    obtain rfl := sm1 h
    exact T_lret dX1_digestOnto_16 ⟨rfl, rfl, rfl, rfl⟩
def X2_columnBits_L4 (M : Mem) (x1 : Int32) : Int32 × Int32 → Option ((Int32 × Int32) ⊕ (Int32))
  | (x2, x3) =>
    if (nI 4) ≤ x3 then some (.inr x2)
    else lett ((x3 * (gI M 7 1)) + x1) fun x_1 => if x_1 < 0 then lett (x3 + 1) fun x_3 => some (.inl (x2, x_3))
    else if (gI M 7 0) ≤ x_1 then lett (x3 + 1) fun x_5 => some (.inl (x2, x_5))
    else lett (x2 ||| (ish 1 x_1)) fun x_7 => lett (x3 + 1) fun x_9 => some (.inl (x_7, x_9))
def F_X2_columnBits (M : Mem) (x1 : Int32) : Option (Int32) :=
 loop (X2_columnBits_L4 M x1) FU (0, 0)
set_option maxRecDepth 100000 in
set_option maxHeartbeats 4000000 in
theorem s_X2_columnBits_L4 (lw : Nat → Option Nat) (tl : Option Nat) (tt : Option Nat) (M : Mem) (x1 : Int32) (x2 : Int32) (x3 : Int32) {Po : Po_} (x : (Int32 × Int32) ⊕ (Int32)) (h : X2_columnBits_L4 M x1 (x2, x3) = some x) (hI : ∀ (ix2 : Int32) (ix3 : Int32), x = .inl (ix2, ix3) → T RX2 cX2_columnBits 5 (some .int) 0 1 0 0 false Po 4 [aR (some 7), aI x1, aI ix2, aI ix3, aU] [] LAYC (rfs lw tl tt) M 0 0) (hE0 : ∀ (er : Int32), x = .inr er → Po (vI er) LAYC (rfs lw tl tt) M) : T RX2 cX2_columnBits 5 (some .int) 0 1 0 0 false Po 4 [aR (some 7), aI x1, aI x2, aI x3, aU] [] LAYC (rfs lw tl tt) M 0 0 := by
  unfold X2_columnBits_L4 at h
  simp only at h
  refine T_iload_n dX2_columnBits_4 rfl ?_
  refine T_iconst dX2_columnBits_5 ic_4 ?_
  refine T_icmp_ge (tgt := 46) dX2_columnBits_6 (by decide) (fun hc => ?_) (fun hc => ?_)
  · have h := it_pos hc h
    refine T_iload_n dX2_columnBits_46 rfl ?_
    obtain rfl := sm1 h
    exact T_iret dX2_columnBits_47 (hE0 _ rfl)
  · have h := it_neg hc h
    refine T_iload_n dX2_columnBits_9 rfl ?_
    refine T_aload_n dX2_columnBits_10 rfl ?_
    refine T_getI dX2_columnBits_11 clOK_X2 fl_X2_21 lyC_7 rfl ?_
    refine T_imul dX2_columnBits_14 ?_
    refine T_iload_n dX2_columnBits_15 rfl ?_
    refine T_iadd dX2_columnBits_16 ?_
    obtain ⟨x_1, ex_2, h⟩ := lett_some h
    refine T_topI ex_2 ?_
    refine T_istore (i := 4) (L' := [aR (some 7), aI x1, aI x2, aI x3, aI x_1]) dX2_columnBits_17 (Nat.le_of_ble_eq_true rfl) rfl ?_
    refine T_iload dX2_columnBits_19 rfl ?_
    refine T_if_lt (tgt := 40) dX2_columnBits_21 (by decide) (fun hc => ?_) (fun hc => ?_)
    · have h := it_pos hc h
      obtain ⟨x_3, ex_4, h⟩ := lett_some h
      refine T_iinc (L' := [aR (some 7), aI x1, aI x2, aI x_3, aI x_1]) dX2_columnBits_40 rfl (ic_inc ic_1 ex_4) (Nat.le_of_ble_eq_true rfl) rfl ?_
      refine T_goto (tgt := 4) dX2_columnBits_43 (by decide) ?_
      obtain rfl := sm1 h
      refine T_mask [true, true, true, true, false] rfl ?_
      exact hI _ _ rfl
    · have h := it_neg hc h
      refine T_iload dX2_columnBits_24 rfl ?_
      refine T_aload_n dX2_columnBits_26 rfl ?_
      refine T_getI dX2_columnBits_27 clOK_X2 fl_X2_25 lyC_7 rfl ?_
      refine T_icmp_ge (tgt := 40) dX2_columnBits_30 (by decide) (fun hc => ?_) (fun hc => ?_)
      · have h := it_pos hc h
        obtain ⟨x_5, ex_6, h⟩ := lett_some h
        refine T_iinc (L' := [aR (some 7), aI x1, aI x2, aI x_5, aI x_1]) dX2_columnBits_40 rfl (ic_inc ic_1 ex_6) (Nat.le_of_ble_eq_true rfl) rfl ?_
        refine T_goto (tgt := 4) dX2_columnBits_43 (by decide) ?_
        obtain rfl := sm1 h
        refine T_mask [true, true, true, true, false] rfl ?_
        exact hI _ _ rfl
      · have h := it_neg hc h
        refine T_iload_n dX2_columnBits_33 rfl ?_
        refine T_iconst dX2_columnBits_34 ic_1 ?_
        refine T_iload dX2_columnBits_35 rfl ?_
        refine T_ishl dX2_columnBits_37 ?_
        refine T_ior dX2_columnBits_38 ?_
        obtain ⟨x_7, ex_8, h⟩ := lett_some h
        refine T_topI ex_8 ?_
        refine T_istore_n (i := 2) (L' := [aR (some 7), aI x1, aI x_7, aI x3, aI x_1]) dX2_columnBits_39 rfl (Nat.le_of_ble_eq_true rfl) rfl ?_
        obtain ⟨x_9, ex_10, h⟩ := lett_some h
        refine T_iinc (L' := [aR (some 7), aI x1, aI x_7, aI x_9, aI x_1]) dX2_columnBits_40 rfl (ic_inc ic_1 ex_10) (Nat.le_of_ble_eq_true rfl) rfl ?_
        refine T_goto (tgt := 4) dX2_columnBits_43 (by decide) ?_
        obtain rfl := sm1 h
        refine T_mask [true, true, true, true, false] rfl ?_
        exact hI _ _ rfl
set_option maxRecDepth 100000 in
set_option maxHeartbeats 4000000 in
theorem l_X2_columnBits_L4 (lw : Nat → Option Nat) (tl : Option Nat) (tt : Option Nat) (M : Mem) (x1 : Int32) {Po : Po_} (er : Int32) : ∀ (k : Nat) (x2 : Int32) (x3 : Int32), loop (X2_columnBits_L4 M x1) k (x2, x3) = some er → (Po (vI er) LAYC (rfs lw tl tt) M) → T RX2 cX2_columnBits 5 (some .int) 0 1 0 0 false Po 4 [aR (some 7), aI x1, aI x2, aI x3, aU] [] LAYC (rfs lw tl tt) M 0 0 := by
  intro k
  induction k with
  | zero => intro x2 x3 h; cases h
  | succ k ih =>
    intro x2 x3 h hE
    obtain ⟨x, hx, hx1, hx2⟩ := loop_succ h
    exact s_X2_columnBits_L4  lw tl tt M x1  x2 x3 x hx (fun q0 q1 e => ih q0 q1 (hx1 _ e) hE) (fun q0 e => by cases hx2 _ e; exact hE)
set_option maxRecDepth 100000 in
set_option maxHeartbeats 4000000 in
theorem m_X2_columnBits (lw : Nat → Option Nat) (tl : Option Nat) (tt : Option Nat) (M : Mem) (x1 : Int32) (r : Int32) (h : F_X2_columnBits M x1 = some r) : Cal yX2_columnBits cX2_columnBits 5 (some .int) 0 1 0 0 false [vR (some 7), vI x1] LAYC (rfs lw tl tt) M (eqp (vI r) LAYC (rfs lw tl tt) M) := by
  refine Cal.of (by decide +kernel) (Nat.le_of_ble_eq_true rfl) (fun h => by cases h) ?_
  unfold F_X2_columnBits at h
  show T RX2 cX2_columnBits 5 (some .int) 0 1 0 0 false (eqp (vI r) LAYC (rfs lw tl tt) M) 0 [aR (some 7), aI x1, aU, aU, aU] [] LAYC (rfs lw tl tt) M 0 0
  refine T_iconst dX2_columnBits_0 ic_0 ?_
  refine T_istore_n (i := 2) (L' := [aR (some 7), aI x1, aI 0, aU, aU]) dX2_columnBits_1 rfl (Nat.le_of_ble_eq_true rfl) rfl ?_
  refine T_iconst dX2_columnBits_2 ic_0 ?_
  refine T_istore_n (i := 3) (L' := [aR (some 7), aI x1, aI 0, aI 0, aU]) dX2_columnBits_3 rfl (Nat.le_of_ble_eq_true rfl) rfl ?_
  exact l_X2_columnBits_L4  lw tl tt M x1  _ FU 0 0 h ⟨rfl, rfl, rfl, rfl⟩
def F_X4_gardenerAt (M : Mem) (x1 : Int32) : Option (Int32) :=
 if x1 < 0 then some 0
 else if (nI 4) ≤ x1 then some 0
 else chk (inb x1 4 = true) (some (gI M 5 x1.toNatClampNeg))
set_option maxRecDepth 100000 in
set_option maxHeartbeats 4000000 in
theorem m_X4_gardenerAt (lw : Nat → Option Nat) (tl : Option Nat) (tt : Option Nat) (M : Mem) (x1 : Int32) (r : Int32) (h : F_X4_gardenerAt M x1 = some r) : Cal yX4_gardenerAt cX4_gardenerAt 2 (some .int) 0 1 0 0 false [vR (some 3), vI x1] LAYC (rfs lw tl tt) M (eqp (vI r) LAYC (rfs lw tl tt) M) := by
  refine Cal.of (by decide +kernel) (Nat.le_of_ble_eq_true rfl) (fun h => by cases h) ?_
  unfold F_X4_gardenerAt at h
  show T RX4 cX4_gardenerAt 2 (some .int) 0 1 0 0 false (eqp (vI r) LAYC (rfs lw tl tt) M) 0 [aR (some 3), aI x1] [] LAYC (rfs lw tl tt) M 0 0
  refine T_iload_n dX4_gardenerAt_0 rfl ?_
  refine T_if_lt (tgt := 22) dX4_gardenerAt_1 (by decide) (fun hc => ?_) (fun hc => ?_)
  · have h := it_pos hc h
    refine T_iconst dX4_gardenerAt_22 ic_0 ?_
    obtain rfl := sm1 h
    exact T_iret dX4_gardenerAt_23 ⟨rfl, rfl, rfl, rfl⟩
  · have h := it_neg hc h
    refine T_iload_n dX4_gardenerAt_4 rfl ?_
    refine T_aload_n dX4_gardenerAt_5 rfl ?_
    refine T_getR dX4_gardenerAt_6 clOK_X4 fl_X4_15 lyC_3 rfl rfl ?_
    refine T_alen dX4_gardenerAt_9 lyC_5 (Or.inl rfl) rfl ?_
    refine T_icmp_ge (tgt := 22) dX4_gardenerAt_10 (by decide) (fun hc => ?_) (fun hc => ?_)
    · have h := it_pos hc h
      refine T_iconst dX4_gardenerAt_22 ic_0 ?_
      obtain rfl := sm1 h
      exact T_iret dX4_gardenerAt_23 ⟨rfl, rfl, rfl, rfl⟩
    · have h := it_neg hc h
      refine T_aload_n dX4_gardenerAt_13 rfl ?_
      refine T_getR dX4_gardenerAt_14 clOK_X4 fl_X4_15 lyC_3 rfl rfl ?_
      refine T_iload_n dX4_gardenerAt_17 rfl ?_
      obtain ⟨hi_1, h⟩ := chk_some h
      refine T_iald dX4_gardenerAt_18 lyC_5 (inb_in hi_1) ?_
      refine T_goto (tgt := 23) dX4_gardenerAt_19 (by decide) ?_
      obtain rfl := sm1 h
      exact T_iret dX4_gardenerAt_23 ⟨rfl, rfl, rfl, rfl⟩
def X2_layOut_L64 (x2 : Int32) : Int32 × Mem → Option ((Int32 × Mem) ⊕ (Mem))
  | (x3, M) =>
    if (gI M 7 1) ≤ x3 then some (.inr M)
    else bd1 (F_X4_gardenerAt M x3) fun r_16 => if r_16 = x2 then chk (inb x2 4 = true) (bd1 (F_X2_columnBits M x3) fun r_21 => chk (inb x2 4 = true) (lett (sI M 8 x2.toNatClampNeg ((gI M 8 x2.toNatClampNeg) ||| r_21)) fun M_23 => lett (x3 + 1) fun x_26 => some (.inl (x_26, M_23))))
    else lett (x3 + 1) fun x_18 => some (.inl (x_18, M))
def X2_layOut_L46 : Int32 × Mem → Option ((Int32 × Mem) ⊕ (Mem))
  | (x2, M) =>
    if (nI 4) ≤ x2 then some (.inr M)
    else chk (inb x2 4 = true) (lett (sI M 8 x2.toNatClampNeg 0) fun M_13 => bd1 (loop (X2_layOut_L64 x2) FU (0, M_13)) fun M_28 => lett (x2 + 1) fun x_29 => some (.inl (x_29, M_28)))
def F_X2_layOut (M : Mem) : Option (Mem) :=
 lett (sI M 7 1 (gI M 3 5)) fun M_1 => lett (sI M_1 7 0 ((gI M_1 3 4) * (gI M_1 7 1))) fun M_3 => bd1 (F_X2_columnBits M_3 0) fun r_5 => lett (sI M_3 7 2 r_5) fun M_7 => bd1 (F_X2_columnBits M_7 ((gI M_7 7 1) - 1)) fun r_9 => lett (sI M_7 7 3 r_9) fun M_11 => loop (X2_layOut_L46 ) FU (0, M_11)
set_option maxRecDepth 100000 in
set_option maxHeartbeats 4000000 in
theorem s_X2_layOut_L64 (lw : Nat → Option Nat) (tl : Option Nat) (tt : Option Nat) (x2 : Int32) (x3 : Int32) (M : Mem) {Po : Po_} (x : (Int32 × Mem) ⊕ (Mem)) (h : X2_layOut_L64 x2 (x3, M) = some x) (hI : ∀ (ix3 : Int32) (iM : Mem), x = .inl (ix3, iM) → T RX2 cX2_layOut 4 none 2 2 0 0 false Po 64 [aR (some 7), aR (some 3), aI x2, aI ix3] [] LAYC (rfs lw tl tt) iM 0 0) (hE0 : ∀ (eM : Mem), x = .inr eM → T RX2 cX2_layOut 4 none 2 2 0 0 false Po 101 [aR (some 7), aR (some 3), aI x2, aU] [] LAYC (rfs lw tl tt) eM 0 0) : T RX2 cX2_layOut 4 none 2 2 0 0 false Po 64 [aR (some 7), aR (some 3), aI x2, aI x3] [] LAYC (rfs lw tl tt) M 0 0 := by
  unfold X2_layOut_L64 at h
  simp only at h
  refine T_iload_n dX2_layOut_64 rfl ?_
  refine T_aload_n dX2_layOut_65 rfl ?_
  refine T_getI dX2_layOut_66 clOK_X2 fl_X2_21 lyC_7 rfl ?_
  refine T_icmp_ge (tgt := 101) dX2_layOut_69 (by decide) (fun hc => ?_) (fun hc => ?_)
  · have h := it_pos hc h
    obtain rfl := sm1 h
    refine T_mask [true, true, true, false] rfl ?_
    exact hE0 _ rfl
  · have h := it_neg hc h
    refine T_aload_n dX2_layOut_72 rfl ?_
    refine T_iload_n dX2_layOut_73 rfl ?_
    obtain ⟨r_16, hc_17, h⟩ := bd1_some h
    refine T_cvi (as := [vI x3]) dX2_layOut_74 cw_X4_gardenerAt ml_X2_38 mi_X4_gardenerAt se_X4_gardenerAt lyC_3 rfl (by decide) rfl (Nat.le_of_ble_eq_true rfl) (Nat.le_of_ble_eq_true rfl) (m_X4_gardenerAt lw tl tt M x3  _ hc_17) ?_
    refine T_iload_n dX2_layOut_77 rfl ?_
    refine T_icmp_ne (tgt := 95) dX2_layOut_78 (by decide) (fun hc => ?_) (fun hc => ?_)
    · have h := it_neg hc h
      obtain ⟨x_18, ex_19, h⟩ := lett_some h
      refine T_iinc (L' := [aR (some 7), aR (some 3), aI x2, aI x_18]) dX2_layOut_95 rfl (ic_inc ic_1 ex_19) (Nat.le_of_ble_eq_true rfl) rfl ?_
      refine T_goto (tgt := 64) dX2_layOut_98 (by decide) ?_
      obtain rfl := sm1 h
      exact hI _ _ rfl
    · have h := it_pos hc h
      refine T_aload_n dX2_layOut_81 rfl ?_
      refine T_getR dX2_layOut_82 clOK_X2 fl_X2_9 lyC_7 rfl rfl ?_
      refine T_iload_n dX2_layOut_85 rfl ?_
      refine T_dup2_11 dX2_layOut_86 rfl rfl ?_
      obtain ⟨hi_20, h⟩ := chk_some h
      refine T_iald dX2_layOut_87 lyC_8 (inb_in hi_20) ?_
      refine T_aload_n dX2_layOut_88 rfl ?_
      refine T_iload_n dX2_layOut_89 rfl ?_
      obtain ⟨r_21, hc_22, h⟩ := bd1_some h
      refine T_cvi (as := [vI x3]) dX2_layOut_90 cw_X2_columnBits ml_X2_28 mi_X2_columnBits se_X2_columnBits lyC_7 rfl (by decide) rfl (Nat.le_of_ble_eq_true rfl) (Nat.le_of_ble_eq_true rfl) (m_X2_columnBits lw tl tt M x3  _ hc_22) ?_
      refine T_ior dX2_layOut_93 ?_
      obtain ⟨hi_25, h⟩ := chk_some h
      obtain ⟨M_23, eM_24, h⟩ := lett_some h
      refine T_iast dX2_layOut_94 lyC_8 (inb_in hi_25) eM_24 ?_
      obtain ⟨x_26, ex_27, h⟩ := lett_some h
      refine T_iinc (L' := [aR (some 7), aR (some 3), aI x2, aI x_26]) dX2_layOut_95 rfl (ic_inc ic_1 ex_27) (Nat.le_of_ble_eq_true rfl) rfl ?_
      refine T_goto (tgt := 64) dX2_layOut_98 (by decide) ?_
      obtain rfl := sm1 h
      exact hI _ _ rfl
set_option maxRecDepth 100000 in
set_option maxHeartbeats 4000000 in
theorem l_X2_layOut_L64 (lw : Nat → Option Nat) (tl : Option Nat) (tt : Option Nat) (x2 : Int32) {Po : Po_} (eM : Mem) : ∀ (k : Nat) (x3 : Int32) (M : Mem), loop (X2_layOut_L64 x2) k (x3, M) = some eM → (T RX2 cX2_layOut 4 none 2 2 0 0 false Po 101 [aR (some 7), aR (some 3), aI x2, aU] [] LAYC (rfs lw tl tt) eM 0 0) → T RX2 cX2_layOut 4 none 2 2 0 0 false Po 64 [aR (some 7), aR (some 3), aI x2, aI x3] [] LAYC (rfs lw tl tt) M 0 0 := by
  intro k
  induction k with
  | zero => intro x3 M h; cases h
  | succ k ih =>
    intro x3 M h hE
    obtain ⟨x, hx, hx1, hx2⟩ := loop_succ h
    exact s_X2_layOut_L64  lw tl tt x2  x3 M x hx (fun q0 q1 e => ih q0 q1 (hx1 _ e) hE) (fun q0 e => by cases hx2 _ e; exact hE)
set_option maxRecDepth 100000 in
set_option maxHeartbeats 4000000 in
theorem s_X2_layOut_L46 (lw : Nat → Option Nat) (tl : Option Nat) (tt : Option Nat) (x2 : Int32) (M : Mem) {Po : Po_} (x : (Int32 × Mem) ⊕ (Mem)) (h : X2_layOut_L46  (x2, M) = some x) (hI : ∀ (ix2 : Int32) (iM : Mem), x = .inl (ix2, iM) → T RX2 cX2_layOut 4 none 2 2 0 0 false Po 46 [aR (some 7), aR (some 3), aI ix2, aU] [] LAYC (rfs lw tl tt) iM 0 0) (hE0 : ∀ (eM : Mem), x = .inr eM → Po (vI 0) LAYC (rfs lw tl tt) eM) : T RX2 cX2_layOut 4 none 2 2 0 0 false Po 46 [aR (some 7), aR (some 3), aI x2, aU] [] LAYC (rfs lw tl tt) M 0 0 := by
  unfold X2_layOut_L46 at h
  simp only at h
  refine T_iload_n dX2_layOut_46 rfl ?_
  refine T_aload_n dX2_layOut_47 rfl ?_
  refine T_getR dX2_layOut_48 clOK_X2 fl_X2_9 lyC_7 rfl rfl ?_
  refine T_alen dX2_layOut_51 lyC_8 (Or.inl rfl) rfl ?_
  refine T_icmp_ge (tgt := 107) dX2_layOut_52 (by decide) (fun hc => ?_) (fun hc => ?_)
  · have h := it_pos hc h
    obtain rfl := sm1 h
    exact T_vret dX2_layOut_107 (hE0 _ rfl)
  · have h := it_neg hc h
    refine T_aload_n dX2_layOut_55 rfl ?_
    refine T_getR dX2_layOut_56 clOK_X2 fl_X2_9 lyC_7 rfl rfl ?_
    refine T_iload_n dX2_layOut_59 rfl ?_
    refine T_iconst dX2_layOut_60 ic_0 ?_
    obtain ⟨hi_15, h⟩ := chk_some h
    obtain ⟨M_13, eM_14, h⟩ := lett_some h
    refine T_iast dX2_layOut_61 lyC_8 (inb_in hi_15) eM_14 ?_
    refine T_iconst dX2_layOut_62 ic_0 ?_
    refine T_istore_n (i := 3) (L' := [aR (some 7), aR (some 3), aI x2, aI 0]) dX2_layOut_63 rfl (Nat.le_of_ble_eq_true rfl) rfl ?_
    obtain ⟨M_28, hl, h⟩ := bd1_some h
    refine l_X2_layOut_L64  lw tl tt x2  _ FU 0 M_13 hl ?_
    obtain ⟨x_29, ex_30, h⟩ := lett_some h
    refine T_iinc (L' := [aR (some 7), aR (some 3), aI x_29, aU]) dX2_layOut_101 rfl (ic_inc ic_1 ex_30) (Nat.le_of_ble_eq_true rfl) rfl ?_
    refine T_goto (tgt := 46) dX2_layOut_104 (by decide) ?_
    obtain rfl := sm1 h
    exact hI _ _ rfl
set_option maxRecDepth 100000 in
set_option maxHeartbeats 4000000 in
theorem l_X2_layOut_L46 (lw : Nat → Option Nat) (tl : Option Nat) (tt : Option Nat) {Po : Po_} (eM : Mem) : ∀ (k : Nat) (x2 : Int32) (M : Mem), loop (X2_layOut_L46 ) k (x2, M) = some eM → (Po (vI 0) LAYC (rfs lw tl tt) eM) → T RX2 cX2_layOut 4 none 2 2 0 0 false Po 46 [aR (some 7), aR (some 3), aI x2, aU] [] LAYC (rfs lw tl tt) M 0 0 := by
  intro k
  induction k with
  | zero => intro x2 M h; cases h
  | succ k ih =>
    intro x2 M h hE
    obtain ⟨x, hx, hx1, hx2⟩ := loop_succ h
    exact s_X2_layOut_L46  lw tl tt   x2 M x hx (fun q0 q1 e => ih q0 q1 (hx1 _ e) hE) (fun q0 e => by cases hx2 _ e; exact hE)
set_option maxRecDepth 100000 in
set_option maxHeartbeats 4000000 in
theorem m_X2_layOut (lw : Nat → Option Nat) (tl : Option Nat) (tt : Option Nat) (M : Mem) (M' : Mem) (h : F_X2_layOut M = some M') : Cal yX2_layOut cX2_layOut 4 none 2 2 0 0 false [vR (some 7), vR (some 3)] LAYC (rfs lw tl tt) M (eqp (vI 0) LAYC (rfs lw tl tt) M') := by
  refine Cal.of (by decide +kernel) (Nat.le_of_ble_eq_true rfl) (fun h => by cases h) ?_
  unfold F_X2_layOut at h
  show T RX2 cX2_layOut 4 none 2 2 0 0 false (eqp (vI 0) LAYC (rfs lw tl tt) M') 0 [aR (some 7), aR (some 3), aU, aU] [] LAYC (rfs lw tl tt) M 0 0
  refine T_aload_n dX2_layOut_0 rfl ?_
  refine T_aload_n dX2_layOut_1 rfl ?_
  refine T_getI dX2_layOut_2 clOK_X4 fl_X2_15 lyC_3 rfl ?_
  obtain ⟨M_1, eM_2, h⟩ := lett_some h
  refine T_putI dX2_layOut_5 clOK_X2 fl_X2_21 (Or.inl rfl) lyC_7 rfl rfl eM_2 ?_
  refine T_aload_n dX2_layOut_8 rfl ?_
  refine T_aload_n dX2_layOut_9 rfl ?_
  refine T_getI dX2_layOut_10 clOK_X4 fl_X2_22 lyC_3 rfl ?_
  refine T_aload_n dX2_layOut_13 rfl ?_
  refine T_getI dX2_layOut_14 clOK_X2 fl_X2_21 lyC_7 rfl ?_
  refine T_imul dX2_layOut_17 ?_
  obtain ⟨M_3, eM_4, h⟩ := lett_some h
  refine T_putI dX2_layOut_18 clOK_X2 fl_X2_25 (Or.inl rfl) lyC_7 rfl rfl eM_4 ?_
  refine T_aload_n dX2_layOut_21 rfl ?_
  refine T_aload_n dX2_layOut_22 rfl ?_
  refine T_iconst dX2_layOut_23 ic_0 ?_
  obtain ⟨r_5, hc_6, h⟩ := bd1_some h
  refine T_cvi (as := [vI 0]) dX2_layOut_24 cw_X2_columnBits ml_X2_28 mi_X2_columnBits se_X2_columnBits lyC_7 rfl (by decide) rfl (Nat.le_of_ble_eq_true rfl) (Nat.le_of_ble_eq_true rfl) (m_X2_columnBits lw tl tt M_3 0  _ hc_6) ?_
  obtain ⟨M_7, eM_8, h⟩ := lett_some h
  refine T_putI dX2_layOut_27 clOK_X2 fl_X2_32 (Or.inl rfl) lyC_7 rfl rfl eM_8 ?_
  refine T_aload_n dX2_layOut_30 rfl ?_
  refine T_aload_n dX2_layOut_31 rfl ?_
  refine T_aload_n dX2_layOut_32 rfl ?_
  refine T_getI dX2_layOut_33 clOK_X2 fl_X2_21 lyC_7 rfl ?_
  refine T_iconst dX2_layOut_36 ic_1 ?_
  refine T_isub dX2_layOut_37 ?_
  obtain ⟨r_9, hc_10, h⟩ := bd1_some h
  refine T_cvi (as := [vI ((gI M_7 7 1) - 1)]) dX2_layOut_38 cw_X2_columnBits ml_X2_28 mi_X2_columnBits se_X2_columnBits lyC_7 rfl (by decide) rfl (Nat.le_of_ble_eq_true rfl) (Nat.le_of_ble_eq_true rfl) (m_X2_columnBits lw tl tt M_7 ((gI M_7 7 1) - 1)  _ hc_10) ?_
  obtain ⟨M_11, eM_12, h⟩ := lett_some h
  refine T_putI dX2_layOut_41 clOK_X2 fl_X2_35 (Or.inl rfl) lyC_7 rfl rfl eM_12 ?_
  refine T_iconst dX2_layOut_44 ic_0 ?_
  refine T_istore_n (i := 2) (L' := [aR (some 7), aR (some 3), aI 0, aU]) dX2_layOut_45 rfl (Nat.le_of_ble_eq_true rfl) rfl ?_
  exact l_X2_layOut_L46  lw tl tt   _ FU 0 M_11 h ⟨rfl, rfl, rfl, rfl⟩
def F_X2_has (M : Mem) (x1 : Int32) : Option (Int32) :=
 if x1 < 0 then some 0
 else if (gI M 7 0) ≤ x1 then some 0
 else some 1
set_option maxRecDepth 100000 in
set_option maxHeartbeats 4000000 in
theorem m_X2_has (lw : Nat → Option Nat) (tl : Option Nat) (tt : Option Nat) (M : Mem) (x1 : Int32) (r : Int32) (h : F_X2_has M x1 = some r) : Cal yX2_has cX2_has 2 (some .boolean) 0 1 0 0 false [vR (some 7), vI x1] LAYC (rfs lw tl tt) M (eqp (vI r) LAYC (rfs lw tl tt) M) := by
  refine Cal.of (by decide +kernel) (Nat.le_of_ble_eq_true rfl) (fun h => by cases h) ?_
  unfold F_X2_has at h
  show T RX2 cX2_has 2 (some .boolean) 0 1 0 0 false (eqp (vI r) LAYC (rfs lw tl tt) M) 0 [aR (some 7), aI x1] [] LAYC (rfs lw tl tt) M 0 0
  refine T_iload_n dX2_has_0 rfl ?_
  refine T_if_lt (tgt := 16) dX2_has_1 (by decide) (fun hc => ?_) (fun hc => ?_)
  · have h := it_pos hc h
    refine T_iconst dX2_has_16 ic_0 ?_
    obtain rfl := sm1 h
    exact T_zret dX2_has_17 (Or.inl rfl) ⟨rfl, rfl, rfl, rfl⟩
  · have h := it_neg hc h
    refine T_iload_n dX2_has_4 rfl ?_
    refine T_aload_n dX2_has_5 rfl ?_
    refine T_getI dX2_has_6 clOK_X2 fl_X2_25 lyC_7 rfl ?_
    refine T_icmp_ge (tgt := 16) dX2_has_9 (by decide) (fun hc => ?_) (fun hc => ?_)
    · have h := it_pos hc h
      refine T_iconst dX2_has_16 ic_0 ?_
      obtain rfl := sm1 h
      exact T_zret dX2_has_17 (Or.inl rfl) ⟨rfl, rfl, rfl, rfl⟩
    · have h := it_neg hc h
      refine T_iconst dX2_has_12 ic_1 ?_
      refine T_goto (tgt := 17) dX2_has_13 (by decide) ?_
      obtain rfl := sm1 h
      exact T_zret dX2_has_17 (Or.inr rfl) ⟨rfl, rfl, rfl, rfl⟩
