def F_X0_size (M : Mem) : Option (Int32) :=
 some (gI M 15 3)
set_option maxRecDepth 100000 in
set_option maxHeartbeats 4000000 in
theorem m_X0_size (lw : Nat → Option Nat) (tl : Option Nat) (tt : Option Nat) (M : Mem) (r : Int32) (h : F_X0_size M = some r) : Cal yX0_size cX0_size 1 (some .int) 0 1 0 0 false [vR (some 15)] LAYC (rfs lw tl tt) M (eqp (vI r) LAYC (rfs lw tl tt) M) := by
  refine Cal.of (by decide +kernel) (Nat.le_of_ble_eq_true rfl) (fun h => by cases h) ?_
  unfold F_X0_size at h
  show T RX0 cX0_size 1 (some .int) 0 1 0 0 false (eqp (vI r) LAYC (rfs lw tl tt) M) 0 [aR (some 15)] [] LAYC (rfs lw tl tt) M 0 0
  refine T_aload_n dX0_size_0 rfl ?_
  refine T_getI dX0_size_1 clOK_X0 fl_X0_21 lyC_15 rfl ?_
  obtain rfl := sm1 h
  exact T_iret dX0_size_4 ⟨rfl, rfl, rfl, rfl⟩
def F_X0_areFull (M : Mem) : Option (Int32) :=
 if (gI M 15 3) < (nI 40) then some 0
 else some 1
set_option maxRecDepth 100000 in
set_option maxHeartbeats 4000000 in
theorem m_X0_areFull (lw : Nat → Option Nat) (tl : Option Nat) (tt : Option Nat) (M : Mem) (r : Int32) (h : F_X0_areFull M = some r) : Cal yX0_areFull cX0_areFull 1 (some .boolean) 0 1 0 0 false [vR (some 15)] LAYC (rfs lw tl tt) M (eqp (vI r) LAYC (rfs lw tl tt) M) := by
  refine Cal.of (by decide +kernel) (Nat.le_of_ble_eq_true rfl) (fun h => by cases h) ?_
  unfold F_X0_areFull at h
  show T RX0 cX0_areFull 1 (some .boolean) 0 1 0 0 false (eqp (vI r) LAYC (rfs lw tl tt) M) 0 [aR (some 15)] [] LAYC (rfs lw tl tt) M 0 0
  refine T_aload_n dX0_areFull_0 rfl ?_
  refine T_getI dX0_areFull_1 clOK_X0 fl_X0_21 lyC_15 rfl ?_
  refine T_bipush dX0_areFull_4 bp_40 ?_
  refine T_icmp_lt (tgt := 13) dX0_areFull_6 (by decide) (fun hc => ?_) (fun hc => ?_)
  · have h := it_pos hc h
    refine T_iconst dX0_areFull_13 ic_0 ?_
    obtain rfl := sm1 h
    exact T_zret dX0_areFull_14 (Or.inl rfl) ⟨rfl, rfl, rfl, rfl⟩
  · have h := it_neg hc h
    refine T_iconst dX0_areFull_9 ic_1 ?_
    refine T_goto (tgt := 14) dX0_areFull_10 (by decide) ?_
    obtain rfl := sm1 h
    exact T_zret dX0_areFull_14 (Or.inr rfl) ⟨rfl, rfl, rfl, rfl⟩
def F_X0_forget (M : Mem) : Option (Mem) :=
 lett (sI M 15 3 0) fun M_1 => some M_1
set_option maxRecDepth 100000 in
set_option maxHeartbeats 4000000 in
theorem m_X0_forget (lw : Nat → Option Nat) (tl : Option Nat) (tt : Option Nat) (M : Mem) (M' : Mem) (h : F_X0_forget M = some M') : Cal yX0_forget cX0_forget 1 none 2 1 0 0 false [vR (some 15)] LAYC (rfs lw tl tt) M (eqp (vI 0) LAYC (rfs lw tl tt) M') := by
  refine Cal.of (by decide +kernel) (Nat.le_of_ble_eq_true rfl) (fun h => by cases h) ?_
  unfold F_X0_forget at h
  show T RX0 cX0_forget 1 none 2 1 0 0 false (eqp (vI 0) LAYC (rfs lw tl tt) M') 0 [aR (some 15)] [] LAYC (rfs lw tl tt) M 0 0
  refine T_aload_n dX0_forget_0 rfl ?_
  refine T_iconst dX0_forget_1 ic_0 ?_
  obtain ⟨M_1, eM_2, h⟩ := lett_some h
  refine T_putI dX0_forget_2 clOK_X0 fl_X0_21 (Or.inl rfl) lyC_15 rfl rfl eM_2 ?_
  obtain rfl := sm1 h
  exact T_vret dX0_forget_5 ⟨rfl, rfl, rfl, rfl⟩
def F_X1_deepen (M : Mem) (p0 : Nat) (x1 : Int32) (x2 : Int32) : Option (Mem) :=
 if x1 < 0 then some M
 else if x1 < (nI 16) then chk (inb x1 16 = true) (chk (inb x1 16 = true) (lett (sI M (p0 + 1) x1.toNatClampNeg ((gI M (p0 + 1) x1.toNatClampNeg) + x2)) fun M_2 => chk (inb x1 16 = true) (if (gI M_2 (p0 + 1) x1.toNatClampNeg) ≤ 0 then lett (sI M_2 p0 4 ((gI M_2 p0 4) &&& ((ish 1 x1) ^^^ (-1)))) fun M_6 => some M_6
 else lett (sI M_2 p0 4 ((gI M_2 p0 4) ||| (ish 1 x1))) fun M_8 => some M_8)))
 else some M
set_option maxRecDepth 100000 in
set_option maxHeartbeats 4000000 in
theorem m_X1_deepen (lw : Nat → Option Nat) (tl : Option Nat) (tt : Option Nat) (M : Mem) (p0 : Nat) (x1 : Int32) (x2 : Int32) (h0 : isX1 p0 = true) (M' : Mem) (h : F_X1_deepen M p0 x1 x2 = some M') : Cal yX1_deepen cX1_deepen 3 none 2 1 0 0 false [vR (some p0), vI x1, vI x2] LAYC (rfs lw tl tt) M (eqp (vI 0) LAYC (rfs lw tl tt) M') := by
  refine Cal.of (by decide +kernel) (Nat.le_of_ble_eq_true rfl) (fun h => by cases h) ?_
  unfold F_X1_deepen at h
  show T RX1 cX1_deepen 3 none 2 1 0 0 false (eqp (vI 0) LAYC (rfs lw tl tt) M') 0 [aR (some p0), aI x1, aI x2] [] LAYC (rfs lw tl tt) M 0 0
  refine T_iload_n dX1_deepen_0 rfl ?_
  refine T_if_lt (tgt := 13) dX1_deepen_1 (by decide) (fun hc => ?_) (fun hc => ?_)
  · have h := it_pos hc h
    obtain rfl := sm1 h
    exact T_vret dX1_deepen_13 ⟨rfl, rfl, rfl, rfl⟩
  · have h := it_neg hc h
    refine T_iload_n dX1_deepen_4 rfl ?_
    refine T_aload_n dX1_deepen_5 rfl ?_
    refine T_getR dX1_deepen_6 clOK_X1 fl_X1_9 (lyX1 h0) rfl (rfX1_1 h0) ?_
    refine T_alen dX1_deepen_9 (lyX1a h0) (Or.inl rfl) rfl ?_
    refine T_icmp_lt (tgt := 14) dX1_deepen_10 (by decide) (fun hc => ?_) (fun hc => ?_)
    · have h := it_pos hc h
      refine T_aload_n dX1_deepen_14 rfl ?_
      refine T_getR dX1_deepen_15 clOK_X1 fl_X1_9 (lyX1 h0) rfl (rfX1_1 h0) ?_
      refine T_iload_n dX1_deepen_18 rfl ?_
      refine T_dup2_11 dX1_deepen_19 rfl rfl ?_
      obtain ⟨hi_1, h⟩ := chk_some h
      refine T_iald dX1_deepen_20 (lyX1a h0) (inb_in hi_1) ?_
      refine T_iload_n dX1_deepen_21 rfl ?_
      refine T_iadd dX1_deepen_22 ?_
      obtain ⟨hi_4, h⟩ := chk_some h
      obtain ⟨M_2, eM_3, h⟩ := lett_some h
      refine T_iast dX1_deepen_23 (lyX1a h0) (inb_in hi_4) eM_3 ?_
      refine T_aload_n dX1_deepen_24 rfl ?_
      refine T_getR dX1_deepen_25 clOK_X1 fl_X1_9 (lyX1 h0) rfl (rfX1_1 h0) ?_
      refine T_iload_n dX1_deepen_28 rfl ?_
      obtain ⟨hi_5, h⟩ := chk_some h
      refine T_iald dX1_deepen_29 (lyX1a h0) (inb_in hi_5) ?_
      refine T_if_le (tgt := 48) dX1_deepen_30 (by decide) (fun hc => ?_) (fun hc => ?_)
      · have h := it_pos hc h
        refine T_aload_n dX1_deepen_48 rfl ?_
        refine T_dup dX1_deepen_49 rfl ?_
        refine T_getI dX1_deepen_50 clOK_X1 fl_X1_22 (lyX1 h0) rfl ?_
        refine T_iconst dX1_deepen_53 ic_1 ?_
        refine T_iload_n dX1_deepen_54 rfl ?_
        refine T_ishl dX1_deepen_55 ?_
        refine T_iconst dX1_deepen_56 ic_m1 ?_
        refine T_ixor dX1_deepen_57 ?_
        refine T_iand dX1_deepen_58 ?_
        obtain ⟨M_6, eM_7, h⟩ := lett_some h
        refine T_putI dX1_deepen_59 clOK_X1 fl_X1_22 (Or.inl rfl) (lyX1 h0) rfl rfl eM_7 ?_
        obtain rfl := sm1 h
        exact T_vret dX1_deepen_62 ⟨rfl, rfl, rfl, rfl⟩
      · have h := it_neg hc h
        refine T_aload_n dX1_deepen_33 rfl ?_
        refine T_dup dX1_deepen_34 rfl ?_
        refine T_getI dX1_deepen_35 clOK_X1 fl_X1_22 (lyX1 h0) rfl ?_
        refine T_iconst dX1_deepen_38 ic_1 ?_
        refine T_iload_n dX1_deepen_39 rfl ?_
        refine T_ishl dX1_deepen_40 ?_
        refine T_ior dX1_deepen_41 ?_
        obtain ⟨M_8, eM_9, h⟩ := lett_some h
        refine T_putI dX1_deepen_42 clOK_X1 fl_X1_22 (Or.inl rfl) (lyX1 h0) rfl rfl eM_9 ?_
        refine T_goto (tgt := 62) dX1_deepen_45 (by decide) ?_
        obtain rfl := sm1 h
        exact T_vret dX1_deepen_62 ⟨rfl, rfl, rfl, rfl⟩
    · have h := it_neg hc h
      obtain rfl := sm1 h
      exact T_vret dX1_deepen_13 ⟨rfl, rfl, rfl, rfl⟩
def F_X2_spread (M : Mem) (x1 : Int32) : Option (Int32) :=
 lett ((ish (x1 &&& ((gI M 7 3) ^^^ (-1))) 1) ||| (ius (x1 &&& ((gI M 7 2) ^^^ (-1))) 1)) fun x_1 => lett ((ish x1 (gI M 7 1)) ||| (ius x1 (gI M 7 1))) fun x_3 => some (((x1 ||| x_1) ||| x_3) &&& ((ish 1 (gI M 7 0)) - 1))
set_option maxRecDepth 100000 in
set_option maxHeartbeats 4000000 in
theorem m_X2_spread (lw : Nat → Option Nat) (tl : Option Nat) (tt : Option Nat) (M : Mem) (x1 : Int32) (r : Int32) (h : F_X2_spread M x1 = some r) : Cal yX2_spread cX2_spread 4 (some .int) 0 1 0 0 false [vR (some 7), vI x1] LAYC (rfs lw tl tt) M (eqp (vI r) LAYC (rfs lw tl tt) M) := by
  refine Cal.of (by decide +kernel) (Nat.le_of_ble_eq_true rfl) (fun h => by cases h) ?_
  unfold F_X2_spread at h
  show T RX2 cX2_spread 4 (some .int) 0 1 0 0 false (eqp (vI r) LAYC (rfs lw tl tt) M) 0 [aR (some 7), aI x1, aU, aU] [] LAYC (rfs lw tl tt) M 0 0
  refine T_iload_n dX2_spread_0 rfl ?_
  refine T_aload_n dX2_spread_1 rfl ?_
  refine T_getI dX2_spread_2 clOK_X2 fl_X2_35 lyC_7 rfl ?_
  refine T_iconst dX2_spread_5 ic_m1 ?_
  refine T_ixor dX2_spread_6 ?_
  refine T_iand dX2_spread_7 ?_
  refine T_iconst dX2_spread_8 ic_1 ?_
  refine T_ishl dX2_spread_9 ?_
  refine T_iload_n dX2_spread_10 rfl ?_
  refine T_aload_n dX2_spread_11 rfl ?_
  refine T_getI dX2_spread_12 clOK_X2 fl_X2_32 lyC_7 rfl ?_
  refine T_iconst dX2_spread_15 ic_m1 ?_
  refine T_ixor dX2_spread_16 ?_
  refine T_iand dX2_spread_17 ?_
  refine T_iconst dX2_spread_18 ic_1 ?_
  refine T_iushr dX2_spread_19 ?_
  refine T_ior dX2_spread_20 ?_
  obtain ⟨x_1, ex_2, h⟩ := lett_some h
  refine T_topI ex_2 ?_
  refine T_istore_n (i := 2) (L' := [aR (some 7), aI x1, aI x_1, aU]) dX2_spread_21 rfl (Nat.le_of_ble_eq_true rfl) rfl ?_
  refine T_iload_n dX2_spread_22 rfl ?_
  refine T_aload_n dX2_spread_23 rfl ?_
  refine T_getI dX2_spread_24 clOK_X2 fl_X2_21 lyC_7 rfl ?_
  refine T_ishl dX2_spread_27 ?_
  refine T_iload_n dX2_spread_28 rfl ?_
  refine T_aload_n dX2_spread_29 rfl ?_
  refine T_getI dX2_spread_30 clOK_X2 fl_X2_21 lyC_7 rfl ?_
  refine T_iushr dX2_spread_33 ?_
  refine T_ior dX2_spread_34 ?_
  obtain ⟨x_3, ex_4, h⟩ := lett_some h
  refine T_topI ex_4 ?_
  refine T_istore_n (i := 3) (L' := [aR (some 7), aI x1, aI x_1, aI x_3]) dX2_spread_35 rfl (Nat.le_of_ble_eq_true rfl) rfl ?_
  refine T_iload_n dX2_spread_36 rfl ?_
  refine T_iload_n dX2_spread_37 rfl ?_
  refine T_ior dX2_spread_38 ?_
  refine T_iload_n dX2_spread_39 rfl ?_
  refine T_ior dX2_spread_40 ?_
  refine T_iconst dX2_spread_41 ic_1 ?_
  refine T_aload_n dX2_spread_42 rfl ?_
  refine T_getI dX2_spread_43 clOK_X2 fl_X2_25 lyC_7 rfl ?_
  refine T_ishl dX2_spread_46 ?_
  refine T_iconst dX2_spread_47 ic_1 ?_
  refine T_isub dX2_spread_48 ?_
  refine T_iand dX2_spread_49 ?_
  obtain rfl := sm1 h
  exact T_iret dX2_spread_50 ⟨rfl, rfl, rfl, rfl⟩
def X2_hangingWith_L7 (M : Mem) (x2 : Int32) : Int32 × Int32 → Option ((Int32 × Int32) ⊕ (Int32))
  | (x3, x4) =>
    if (nI 16) ≤ x4 then some (.inr x3)
    else bd1 (F_X2_spread M x3) fun r_3 => lett (r_3 &&& x2) fun x_5 => if x_5 = x3 then some (.inr x3)
    else lett (x4 + 1) fun x_7 => some (.inl (x_5, x_7))
def F_X2_hangingWith (M : Mem) (x1 : Int32) (x2 : Int32) : Option (Int32) :=
 lett (x1 &&& x2) fun x_1 => loop (X2_hangingWith_L7 M x2) FU (x_1, 0)
set_option maxRecDepth 100000 in
set_option maxHeartbeats 4000000 in
theorem s_X2_hangingWith_L7 (lw : Nat → Option Nat) (tl : Option Nat) (tt : Option Nat) (M : Mem) (x2 : Int32) (x3 : Int32) (x4 : Int32) {Po : Po_} (x : (Int32 × Int32) ⊕ (Int32)) (h : X2_hangingWith_L7 M x2 (x3, x4) = some x) (hI : ∀ (ix3 : Int32) (ix4 : Int32), x = .inl (ix3, ix4) → T RX2 cX2_hangingWith 6 (some .int) 0 2 0 0 false Po 7 [aR (some 7), aU, aI x2, aI ix3, aI ix4, aU] [] LAYC (rfs lw tl tt) M 0 0) (hE0 : ∀ (er : Int32), x = .inr er → Po (vI er) LAYC (rfs lw tl tt) M) : T RX2 cX2_hangingWith 6 (some .int) 0 2 0 0 false Po 7 [aR (some 7), aU, aI x2, aI x3, aI x4, aU] [] LAYC (rfs lw tl tt) M 0 0 := by
  unfold X2_hangingWith_L7 at h
  simp only at h
  refine T_iload dX2_hangingWith_7 rfl ?_
  refine T_bipush dX2_hangingWith_9 bp_16 ?_
  refine T_icmp_ge (tgt := 40) dX2_hangingWith_11 (by decide) (fun hc => ?_) (fun hc => ?_)
  · have h := it_pos hc h
    refine T_iload_n dX2_hangingWith_40 rfl ?_
    obtain rfl := sm1 h
    exact T_iret dX2_hangingWith_41 (hE0 _ rfl)
  · have h := it_neg hc h
    refine T_aload_n dX2_hangingWith_14 rfl ?_
    refine T_iload_n dX2_hangingWith_15 rfl ?_
    obtain ⟨r_3, hc_4, h⟩ := bd1_some h
    refine T_cvi (as := [vI x3]) dX2_hangingWith_16 cw_X2_spread ml_X2_53 mi_X2_spread se_X2_spread lyC_7 rfl (by decide) rfl (Nat.le_of_ble_eq_true rfl) (Nat.le_of_ble_eq_true rfl) (m_X2_spread lw tl tt M x3  _ hc_4) ?_
    refine T_iload_n dX2_hangingWith_19 rfl ?_
    refine T_iand dX2_hangingWith_20 ?_
    obtain ⟨x_5, ex_6, h⟩ := lett_some h
    refine T_topI ex_6 ?_
    refine T_istore (i := 5) (L' := [aR (some 7), aU, aI x2, aI x3, aI x4, aI x_5]) dX2_hangingWith_21 (Nat.le_of_ble_eq_true rfl) rfl ?_
    refine T_iload dX2_hangingWith_23 rfl ?_
    refine T_iload_n dX2_hangingWith_25 rfl ?_
    refine T_icmp_ne (tgt := 31) dX2_hangingWith_26 (by decide) (fun hc => ?_) (fun hc => ?_)
    · have h := it_neg hc h
      refine T_iload dX2_hangingWith_31 rfl ?_
      refine T_istore_n (i := 3) (L' := [aR (some 7), aU, aI x2, aI x_5, aI x4, aI x_5]) dX2_hangingWith_33 rfl (Nat.le_of_ble_eq_true rfl) rfl ?_
      obtain ⟨x_7, ex_8, h⟩ := lett_some h
      refine T_iinc (L' := [aR (some 7), aU, aI x2, aI x_5, aI x_7, aI x_5]) dX2_hangingWith_34 rfl (ic_inc ic_1 ex_8) (Nat.le_of_ble_eq_true rfl) rfl ?_
      refine T_goto (tgt := 7) dX2_hangingWith_37 (by decide) ?_
      obtain rfl := sm1 h
      refine T_mask [true, true, true, true, true, false] rfl ?_
      exact hI _ _ rfl
    · have h := it_pos hc h
      refine T_iload_n dX2_hangingWith_29 rfl ?_
      obtain rfl := sm1 h
      exact T_iret dX2_hangingWith_30 (hE0 _ rfl)
set_option maxRecDepth 100000 in
set_option maxHeartbeats 4000000 in
theorem l_X2_hangingWith_L7 (lw : Nat → Option Nat) (tl : Option Nat) (tt : Option Nat) (M : Mem) (x2 : Int32) {Po : Po_} (er : Int32) : ∀ (k : Nat) (x3 : Int32) (x4 : Int32), loop (X2_hangingWith_L7 M x2) k (x3, x4) = some er → (Po (vI er) LAYC (rfs lw tl tt) M) → T RX2 cX2_hangingWith 6 (some .int) 0 2 0 0 false Po 7 [aR (some 7), aU, aI x2, aI x3, aI x4, aU] [] LAYC (rfs lw tl tt) M 0 0 := by
  intro k
  induction k with
  | zero => intro x3 x4 h; cases h
  | succ k ih =>
    intro x3 x4 h hE
    obtain ⟨x, hx, hx1, hx2⟩ := loop_succ h
    exact s_X2_hangingWith_L7  lw tl tt M x2  x3 x4 x hx (fun q0 q1 e => ih q0 q1 (hx1 _ e) hE) (fun q0 e => by cases hx2 _ e; exact hE)
set_option maxRecDepth 100000 in
set_option maxHeartbeats 4000000 in
theorem m_X2_hangingWith (lw : Nat → Option Nat) (tl : Option Nat) (tt : Option Nat) (M : Mem) (x1 : Int32) (x2 : Int32) (r : Int32) (h : F_X2_hangingWith M x1 x2 = some r) : Cal yX2_hangingWith cX2_hangingWith 6 (some .int) 0 2 0 0 false [vR (some 7), vI x1, vI x2] LAYC (rfs lw tl tt) M (eqp (vI r) LAYC (rfs lw tl tt) M) := by
  refine Cal.of (by decide +kernel) (Nat.le_of_ble_eq_true rfl) (fun h => by cases h) ?_
  unfold F_X2_hangingWith at h
  show T RX2 cX2_hangingWith 6 (some .int) 0 2 0 0 false (eqp (vI r) LAYC (rfs lw tl tt) M) 0 [aR (some 7), aI x1, aI x2, aU, aU, aU] [] LAYC (rfs lw tl tt) M 0 0
  refine T_iload_n dX2_hangingWith_0 rfl ?_
  refine T_iload_n dX2_hangingWith_1 rfl ?_
  refine T_iand dX2_hangingWith_2 ?_
  obtain ⟨x_1, ex_2, h⟩ := lett_some h
  refine T_topI ex_2 ?_
  refine T_istore_n (i := 3) (L' := [aR (some 7), aI x1, aI x2, aI x_1, aU, aU]) dX2_hangingWith_3 rfl (Nat.le_of_ble_eq_true rfl) rfl ?_
  refine T_iconst dX2_hangingWith_4 ic_0 ?_
  refine T_istore (i := 4) (L' := [aR (some 7), aI x1, aI x2, aI x_1, aI 0, aU]) dX2_hangingWith_5 (Nat.le_of_ble_eq_true rfl) rfl ?_
  refine T_mask [true, false, true, true, true, true] rfl ?_
  exact l_X2_hangingWith_L7  lw tl tt M x2  _ FU x_1 0 h ⟨rfl, rfl, rfl, rfl⟩
def X1_survey_L32 (p0 : Nat) : Int32 × Int32 × Mem → Option ((Int32 × Int32 × Mem) ⊕ (Mem))
  | (x1, x2, M) =>
    if (nI 8) ≤ x2 then some (.inr M)
    else if x1 = 0 then some (.inr M)
    else bd1 (F_X2_hangingWith M (x1 &&& (-x1)) x1) fun r_7 => chk (inb x2 8 = true) (lett (sI M (p0 + 2) x2.toNatClampNeg r_7) fun M_9 => chk (inb x2 8 = true) (lett (x1 &&& ((gI M_9 (p0 + 2) x2.toNatClampNeg) ^^^ (-1))) fun x_13 => lett (sI M_9 p0 3 (x2 + 1)) fun M_15 => lett (x2 + 1) fun x_17 => some (.inl (x_13, x_17, M_15))))
def F_X1_survey (M : Mem) (p0 : Nat) : Option (Mem) :=
 if (gI M p0 4) = (gI M p0 5) then some M
 else lett (sI M p0 5 (gI M p0 4)) fun M_1 => lett (sI M_1 p0 3 0) fun M_3 => lett (gI M_3 p0 4) fun x_5 => loop (X1_survey_L32 p0) FU (x_5, 0, M_3)
set_option maxRecDepth 100000 in
set_option maxHeartbeats 4000000 in
theorem s_X1_survey_L32 (lw : Nat → Option Nat) (tl : Option Nat) (tt : Option Nat) (p0 : Nat) (h0 : isX1 p0 = true) (x1 : Int32) (x2 : Int32) (M : Mem) {Po : Po_} (x : (Int32 × Int32 × Mem) ⊕ (Mem)) (h : X1_survey_L32 p0 (x1, x2, M) = some x) (hI : ∀ (ix1 : Int32) (ix2 : Int32) (iM : Mem), x = .inl (ix1, ix2, iM) → T RX1 cX1_survey 3 none 2 3 0 0 false Po 32 [aR (some p0), aI ix1, aI ix2] [] LAYC (rfs lw tl tt) iM 0 0) (hE0 : ∀ (eM : Mem), x = .inr eM → Po (vI 0) LAYC (rfs lw tl tt) eM) : T RX1 cX1_survey 3 none 2 3 0 0 false Po 32 [aR (some p0), aI x1, aI x2] [] LAYC (rfs lw tl tt) M 0 0 := by
  unfold X1_survey_L32 at h
  simp only at h
  refine T_iload_n dX1_survey_32 rfl ?_
  refine T_aload_n dX1_survey_33 rfl ?_
  refine T_getR dX1_survey_34 clOK_X1 fl_X1_15 (lyX1 h0) rfl (rfX1_2 h0) ?_
  refine T_alen dX1_survey_37 (lyX1b h0) (Or.inl rfl) rfl ?_
  refine T_icmp_ge (tgt := 87) dX1_survey_38 (by decide) (fun hc => ?_) (fun hc => ?_)
  · have h := it_pos hc h
    obtain rfl := sm1 h
    exact T_vret dX1_survey_87 (hE0 _ rfl)
  · have h := it_neg hc h
    refine T_iload_n dX1_survey_41 rfl ?_
    refine T_if_eq (tgt := 87) dX1_survey_42 (by decide) (fun hc => ?_) (fun hc => ?_)
    · have h := it_pos hc h
      obtain rfl := sm1 h
      exact T_vret dX1_survey_87 (hE0 _ rfl)
    · have h := it_neg hc h
      refine T_aload_n dX1_survey_45 rfl ?_
      refine T_getR dX1_survey_46 clOK_X1 fl_X1_15 (lyX1 h0) rfl (rfX1_2 h0) ?_
      refine T_iload_n dX1_survey_49 rfl ?_
      refine T_aload_n dX1_survey_50 rfl ?_
      refine T_getR dX1_survey_51 clOK_X1 fl_X1_18 (lyX1 h0) rfl (rfX1_0 h0) ?_
      refine T_iload_n dX1_survey_54 rfl ?_
      refine T_iload_n dX1_survey_55 rfl ?_
      refine T_ineg dX1_survey_56 ?_
      refine T_iand dX1_survey_57 ?_
      refine T_iload_n dX1_survey_58 rfl ?_
      obtain ⟨r_7, hc_8, h⟩ := bd1_some h
      refine T_cvi (as := [vI (x1 &&& (-x1)), vI x1]) dX1_survey_59 cw_X2_hangingWith ml_X1_60 mi_X2_hangingWith se_X2_hangingWith lyC_7 rfl (by decide) rfl (Nat.le_of_ble_eq_true rfl) (Nat.le_of_ble_eq_true rfl) (m_X2_hangingWith lw tl tt M (x1 &&& (-x1)) x1  _ hc_8) ?_
      obtain ⟨hi_11, h⟩ := chk_some h
      obtain ⟨M_9, eM_10, h⟩ := lett_some h
      refine T_iast dX1_survey_62 (lyX1b h0) (inb_in hi_11) eM_10 ?_
      refine T_iload_n dX1_survey_63 rfl ?_
      refine T_aload_n dX1_survey_64 rfl ?_
      refine T_getR dX1_survey_65 clOK_X1 fl_X1_15 (lyX1 h0) rfl (rfX1_2 h0) ?_
      refine T_iload_n dX1_survey_68 rfl ?_
      obtain ⟨hi_12, h⟩ := chk_some h
      refine T_iald dX1_survey_69 (lyX1b h0) (inb_in hi_12) ?_
      refine T_iconst dX1_survey_70 ic_m1 ?_
      refine T_ixor dX1_survey_71 ?_
      refine T_iand dX1_survey_72 ?_
      obtain ⟨x_13, ex_14, h⟩ := lett_some h
      refine T_topI ex_14 ?_
      refine T_istore_n (i := 1) (L' := [aR (some p0), aI x_13, aI x2]) dX1_survey_73 rfl (Nat.le_of_ble_eq_true rfl) rfl ?_
      refine T_aload_n dX1_survey_74 rfl ?_
      refine T_iload_n dX1_survey_75 rfl ?_
      refine T_iconst dX1_survey_76 ic_1 ?_
      refine T_iadd dX1_survey_77 ?_
      obtain ⟨M_15, eM_16, h⟩ := lett_some h
      refine T_putI dX1_survey_78 clOK_X1 fl_X1_56 (Or.inl rfl) (lyX1 h0) rfl rfl eM_16 ?_
      obtain ⟨x_17, ex_18, h⟩ := lett_some h
      refine T_iinc (L' := [aR (some p0), aI x_13, aI x_17]) dX1_survey_81 rfl (ic_inc ic_1 ex_18) (Nat.le_of_ble_eq_true rfl) rfl ?_
      refine T_goto (tgt := 32) dX1_survey_84 (by decide) ?_
      obtain rfl := sm1 h
      exact hI _ _ _ rfl
set_option maxRecDepth 100000 in
set_option maxHeartbeats 4000000 in
theorem l_X1_survey_L32 (lw : Nat → Option Nat) (tl : Option Nat) (tt : Option Nat) (p0 : Nat) (h0 : isX1 p0 = true) {Po : Po_} (eM : Mem) : ∀ (k : Nat) (x1 : Int32) (x2 : Int32) (M : Mem), loop (X1_survey_L32 p0) k (x1, x2, M) = some eM → (Po (vI 0) LAYC (rfs lw tl tt) eM) → T RX1 cX1_survey 3 none 2 3 0 0 false Po 32 [aR (some p0), aI x1, aI x2] [] LAYC (rfs lw tl tt) M 0 0 := by
  intro k
  induction k with
  | zero => intro x1 x2 M h; cases h
  | succ k ih =>
    intro x1 x2 M h hE
    obtain ⟨x, hx, hx1, hx2⟩ := loop_succ h
    exact s_X1_survey_L32  lw tl tt p0 h0 x1 x2 M x hx (fun q0 q1 q2 e => ih q0 q1 q2 (hx1 _ e) hE) (fun q0 e => by cases hx2 _ e; exact hE)
set_option maxRecDepth 100000 in
set_option maxHeartbeats 4000000 in
theorem m_X1_survey (lw : Nat → Option Nat) (tl : Option Nat) (tt : Option Nat) (M : Mem) (p0 : Nat) (h0 : isX1 p0 = true) (M' : Mem) (h : F_X1_survey M p0 = some M') : Cal yX1_survey cX1_survey 3 none 2 3 0 0 false [vR (some p0)] LAYC (rfs lw tl tt) M (eqp (vI 0) LAYC (rfs lw tl tt) M') := by
  refine Cal.of (by decide +kernel) (Nat.le_of_ble_eq_true rfl) (fun h => by cases h) ?_
  unfold F_X1_survey at h
  show T RX1 cX1_survey 3 none 2 3 0 0 false (eqp (vI 0) LAYC (rfs lw tl tt) M') 0 [aR (some p0), aU, aU] [] LAYC (rfs lw tl tt) M 0 0
  refine T_aload_n dX1_survey_0 rfl ?_
  refine T_getI dX1_survey_1 clOK_X1 fl_X1_22 (lyX1 h0) rfl ?_
  refine T_aload_n dX1_survey_4 rfl ?_
  refine T_getI dX1_survey_5 clOK_X1 fl_X1_44 (lyX1 h0) rfl ?_
  refine T_icmp_ne (tgt := 12) dX1_survey_8 (by decide) (fun hc => ?_) (fun hc => ?_)
  · have h := it_neg hc h
    refine T_aload_n dX1_survey_12 rfl ?_
    refine T_aload_n dX1_survey_13 rfl ?_
    refine T_getI dX1_survey_14 clOK_X1 fl_X1_22 (lyX1 h0) rfl ?_
    obtain ⟨M_1, eM_2, h⟩ := lett_some h
    refine T_putI dX1_survey_17 clOK_X1 fl_X1_44 (Or.inl rfl) (lyX1 h0) rfl rfl eM_2 ?_
    refine T_aload_n dX1_survey_20 rfl ?_
    refine T_iconst dX1_survey_21 ic_0 ?_
    obtain ⟨M_3, eM_4, h⟩ := lett_some h
    refine T_putI dX1_survey_22 clOK_X1 fl_X1_56 (Or.inl rfl) (lyX1 h0) rfl rfl eM_4 ?_
    refine T_aload_n dX1_survey_25 rfl ?_
    refine T_getI dX1_survey_26 clOK_X1 fl_X1_22 (lyX1 h0) rfl ?_
    obtain ⟨x_5, ex_6, h⟩ := lett_some h
    refine T_topI ex_6 ?_
    refine T_istore_n (i := 1) (L' := [aR (some p0), aI x_5, aU]) dX1_survey_29 rfl (Nat.le_of_ble_eq_true rfl) rfl ?_
    refine T_iconst dX1_survey_30 ic_0 ?_
    refine T_istore_n (i := 2) (L' := [aR (some p0), aI x_5, aI 0]) dX1_survey_31 rfl (Nat.le_of_ble_eq_true rfl) rfl ?_
    exact l_X1_survey_L32  lw tl tt p0 h0 _ FU x_5 0 M_3 h ⟨rfl, rfl, rfl, rfl⟩
  · have h := it_pos hc h
    obtain rfl := sm1 h
    exact T_vret dX1_survey_11 ⟨rfl, rfl, rfl, rfl⟩
def X0_change_L3 (p0 : Nat) (x1 : Int32) (x2 : Int32) (x3 : Int32) : Int32 × Mem → Option ((Int32 × Mem) ⊕ (Mem))
  | (x4, M) =>
    if (nI 16) ≤ x4 then some (.inr M)
    else if ((ius x1 x4) &&& 1) = 0 then lett (x4 + 1) fun x_1 => some (.inl (x_1, M))
    else bd1 (F_X1_deepen M p0 x4 x2) fun M_3 => lett (x4 + 1) fun x_5 => some (.inl (x_5, M_3))
def F_X0_change (M : Mem) (p0 : Nat) (x1 : Int32) (x2 : Int32) (x3 : Int32) : Option (Mem) :=
 bd1 (loop (X0_change_L3 p0 x1 x2 x3) FU (0, M)) fun M_7 => lett (sI M_7 p0 6 ((gI M_7 p0 6) + x3)) fun M_8 => bd1 (F_X1_survey M_8 p0) fun M_10 => some M_10
set_option maxRecDepth 100000 in
set_option maxHeartbeats 4000000 in
theorem s_X0_change_L3 (lw : Nat → Option Nat) (tl : Option Nat) (tt : Option Nat) (p0 : Nat) (x1 : Int32) (x2 : Int32) (x3 : Int32) (h0 : isX1 p0 = true) (x4 : Int32) (M : Mem) {Po : Po_} (x : (Int32 × Mem) ⊕ (Mem)) (h : X0_change_L3 p0 x1 x2 x3 (x4, M) = some x) (hI : ∀ (ix4 : Int32) (iM : Mem), x = .inl (ix4, iM) → T RX0 cX0_change 5 none 2 4 0 0 false Po 3 [aR (some p0), aI x1, aI x2, aI x3, aI ix4] [] LAYC (rfs lw tl tt) iM 0 0) (hE0 : ∀ (eM : Mem), x = .inr eM → T RX0 cX0_change 5 none 2 4 0 0 false Po 32 [aR (some p0), aU, aU, aI x3, aU] [] LAYC (rfs lw tl tt) eM 0 0) : T RX0 cX0_change 5 none 2 4 0 0 false Po 3 [aR (some p0), aI x1, aI x2, aI x3, aI x4] [] LAYC (rfs lw tl tt) M 0 0 := by
  unfold X0_change_L3 at h
  simp only at h
  refine T_iload dX0_change_3 rfl ?_
  refine T_bipush dX0_change_5 bp_16 ?_
  refine T_icmp_ge (tgt := 32) dX0_change_7 (by decide) (fun hc => ?_) (fun hc => ?_)
  · have h := it_pos hc h
    obtain rfl := sm1 h
    refine T_mask [true, false, false, true, false] rfl ?_
    exact hE0 _ rfl
  · have h := it_neg hc h
    refine T_iload_n dX0_change_10 rfl ?_
    refine T_iload dX0_change_11 rfl ?_
    refine T_iushr dX0_change_13 ?_
    refine T_iconst dX0_change_14 ic_1 ?_
    refine T_iand dX0_change_15 ?_
    refine T_if_eq (tgt := 26) dX0_change_16 (by decide) (fun hc => ?_) (fun hc => ?_)
    · have h := it_pos hc h
      obtain ⟨x_1, ex_2, h⟩ := lett_some h
      refine T_iinc (L' := [aR (some p0), aI x1, aI x2, aI x3, aI x_1]) dX0_change_26 rfl (ic_inc ic_1 ex_2) (Nat.le_of_ble_eq_true rfl) rfl ?_
      refine T_goto (tgt := 3) dX0_change_29 (by decide) ?_
      obtain rfl := sm1 h
      exact hI _ _ rfl
    · have h := it_neg hc h
      refine T_aload_n dX0_change_19 rfl ?_
      refine T_iload dX0_change_20 rfl ?_
      refine T_iload_n dX0_change_22 rfl ?_
      obtain ⟨M_3, hc_4, h⟩ := bd1_some h
      refine T_cvv (as := [vI x4, vI x2]) dX0_change_23 cw_X1_deepen ml_X0_39 mi_X1_deepen se_X1_deepen (lyX1 h0) rfl (by decide) rfl (Nat.le_of_ble_eq_true rfl) (Nat.le_of_ble_eq_true rfl) (m_X1_deepen lw tl tt M p0 x4 x2 h0 _ hc_4) ?_
      obtain ⟨x_5, ex_6, h⟩ := lett_some h
      refine T_iinc (L' := [aR (some p0), aI x1, aI x2, aI x3, aI x_5]) dX0_change_26 rfl (ic_inc ic_1 ex_6) (Nat.le_of_ble_eq_true rfl) rfl ?_
      refine T_goto (tgt := 3) dX0_change_29 (by decide) ?_
      obtain rfl := sm1 h
      exact hI _ _ rfl
set_option maxRecDepth 100000 in
set_option maxHeartbeats 4000000 in
theorem l_X0_change_L3 (lw : Nat → Option Nat) (tl : Option Nat) (tt : Option Nat) (p0 : Nat) (x1 : Int32) (x2 : Int32) (x3 : Int32) (h0 : isX1 p0 = true) {Po : Po_} (eM : Mem) : ∀ (k : Nat) (x4 : Int32) (M : Mem), loop (X0_change_L3 p0 x1 x2 x3) k (x4, M) = some eM → (T RX0 cX0_change 5 none 2 4 0 0 false Po 32 [aR (some p0), aU, aU, aI x3, aU] [] LAYC (rfs lw tl tt) eM 0 0) → T RX0 cX0_change 5 none 2 4 0 0 false Po 3 [aR (some p0), aI x1, aI x2, aI x3, aI x4] [] LAYC (rfs lw tl tt) M 0 0 := by
  intro k
  induction k with
  | zero => intro x4 M h; cases h
  | succ k ih =>
    intro x4 M h hE
    obtain ⟨x, hx, hx1, hx2⟩ := loop_succ h
    exact s_X0_change_L3  lw tl tt p0 x1 x2 x3 h0 x4 M x hx (fun q0 q1 e => ih q0 q1 (hx1 _ e) hE) (fun q0 e => by cases hx2 _ e; exact hE)
set_option maxRecDepth 100000 in
set_option maxHeartbeats 4000000 in
theorem m_X0_change (lw : Nat → Option Nat) (tl : Option Nat) (tt : Option Nat) (M : Mem) (p0 : Nat) (x1 : Int32) (x2 : Int32) (x3 : Int32) (h0 : isX1 p0 = true) (M' : Mem) (h : F_X0_change M p0 x1 x2 x3 = some M') : Cal yX0_change cX0_change 5 none 2 4 0 0 false [vR (some p0), vI x1, vI x2, vI x3] LAYC (rfs lw tl tt) M (eqp (vI 0) LAYC (rfs lw tl tt) M') := by
  refine Cal.of (by decide +kernel) (Nat.le_of_ble_eq_true rfl) (fun h => by cases h) ?_
  unfold F_X0_change at h
  show T RX0 cX0_change 5 none 2 4 0 0 false (eqp (vI 0) LAYC (rfs lw tl tt) M') 0 [aR (some p0), aI x1, aI x2, aI x3, aU] [] LAYC (rfs lw tl tt) M 0 0
  refine T_iconst dX0_change_0 ic_0 ?_
  refine T_istore (i := 4) (L' := [aR (some p0), aI x1, aI x2, aI x3, aI 0]) dX0_change_1 (Nat.le_of_ble_eq_true rfl) rfl ?_
  obtain ⟨M_7, hl, h⟩ := bd1_some h
  refine l_X0_change_L3  lw tl tt p0 x1 x2 x3 h0 _ FU 0 M hl ?_
  refine T_aload_n dX0_change_32 rfl ?_
  refine T_dup dX0_change_33 rfl ?_
  refine T_getI dX0_change_34 clOK_X1 fl_X0_45 (lyX1 h0) rfl ?_
  refine T_iload_n dX0_change_37 rfl ?_
  refine T_iadd dX0_change_38 ?_
  obtain ⟨M_8, eM_9, h⟩ := lett_some h
  refine T_putI dX0_change_39 clOK_X1 fl_X0_45 (Or.inl rfl) (lyX1 h0) rfl rfl eM_9 ?_
  refine T_aload_n dX0_change_42 rfl ?_
  obtain ⟨M_10, hc_11, h⟩ := bd1_some h
  refine T_cvv (as := []) dX0_change_43 cw_X1_survey ml_X0_48 mi_X1_survey se_X1_survey (lyX1 h0) rfl (by decide) rfl (Nat.le_of_ble_eq_true rfl) (Nat.le_of_ble_eq_true rfl) (m_X1_survey lw tl tt M_8 p0 h0 _ hc_11) ?_
  obtain rfl := sm1 h
  exact T_vret dX0_change_46 ⟨rfl, rfl, rfl, rfl⟩
def F_X0_perform (M : Mem) (p1 : Nat) (x2 : Int32) (x3 : Int32) (x4 : Int32) : Option (Mem) :=
 if (gI M 15 3) < 0 then some M
 else bd1 (F_X0_areFull M) fun r_1 => if r_1 = 0 then chk (inb (gI M 15 3) 40 = true) (lett (sI M 16 (gI M 15 3).toNatClampNeg x2) fun M_3 => chk (inb (gI M_3 15 3) 40 = true) (lett (sI M_3 17 (gI M_3 15 3).toNatClampNeg x3) fun M_6 => chk (inb (gI M_6 15 3) 40 = true) (lett (sI M_6 18 (gI M_6 15 3).toNatClampNeg x4) fun M_9 => lett (sI M_9 15 3 ((gI M_9 15 3) + 1)) fun M_12 => bd1 (F_X0_change M_12 p1 x2 x3 x4) fun M_14 => some M_14)))
 else some M
set_option maxRecDepth 100000 in
set_option maxHeartbeats 4000000 in
theorem m_X0_perform (lw : Nat → Option Nat) (tl : Option Nat) (tt : Option Nat) (M : Mem) (p1 : Nat) (x2 : Int32) (x3 : Int32) (x4 : Int32) (h1 : isX1 p1 = true) (M' : Mem) (h : F_X0_perform M p1 x2 x3 x4 = some M') : Cal yX0_perform cX0_perform 5 none 2 5 0 0 false [vR (some 15), vR (some p1), vI x2, vI x3, vI x4] LAYC (rfs lw tl tt) M (eqp (vI 0) LAYC (rfs lw tl tt) M') := by
  refine Cal.of (by decide +kernel) (Nat.le_of_ble_eq_true rfl) (fun h => by cases h) ?_
  unfold F_X0_perform at h
  show T RX0 cX0_perform 5 none 2 5 0 0 false (eqp (vI 0) LAYC (rfs lw tl tt) M') 0 [aR (some 15), aR (some p1), aI x2, aI x3, aI x4] [] LAYC (rfs lw tl tt) M 0 0
  refine T_aload_n dX0_perform_0 rfl ?_
  refine T_getI dX0_perform_1 clOK_X0 fl_X0_21 lyC_15 rfl ?_
  refine T_if_lt (tgt := 14) dX0_perform_4 (by decide) (fun hc => ?_) (fun hc => ?_)
  · have h := it_pos hc h
    obtain rfl := sm1 h
    exact T_vret dX0_perform_14 ⟨rfl, rfl, rfl, rfl⟩
  · have h := it_neg hc h
    refine T_aload_n dX0_perform_7 rfl ?_
    obtain ⟨r_1, hc_2, h⟩ := bd1_some h
    refine T_cvi (as := []) dX0_perform_8 cw_X0_areFull ml_X0_25 mi_X0_areFull se_X0_areFull lyC_15 rfl (by decide) rfl (Nat.le_of_ble_eq_true rfl) (Nat.le_of_ble_eq_true rfl) (m_X0_areFull lw tl tt M  _ hc_2) ?_
    refine T_if_eq (tgt := 15) dX0_perform_11 (by decide) (fun hc => ?_) (fun hc => ?_)
    · have h := it_pos hc h
      refine T_aload_n dX0_perform_15 rfl ?_
      refine T_getR dX0_perform_16 clOK_X0 fl_X0_9 lyC_15 rfl rfl ?_
      refine T_aload_n dX0_perform_19 rfl ?_
      refine T_getI dX0_perform_20 clOK_X0 fl_X0_21 lyC_15 rfl ?_
      refine T_iload_n dX0_perform_23 rfl ?_
      obtain ⟨hi_5, h⟩ := chk_some h
      obtain ⟨M_3, eM_4, h⟩ := lett_some h
      refine T_iast dX0_perform_24 lyC_16 (inb_in hi_5) eM_4 ?_
      refine T_aload_n dX0_perform_25 rfl ?_
      refine T_getR dX0_perform_26 clOK_X0 fl_X0_15 lyC_15 rfl rfl ?_
      refine T_aload_n dX0_perform_29 rfl ?_
      refine T_getI dX0_perform_30 clOK_X0 fl_X0_21 lyC_15 rfl ?_
      refine T_iload_n dX0_perform_33 rfl ?_
      obtain ⟨hi_8, h⟩ := chk_some h
      obtain ⟨M_6, eM_7, h⟩ := lett_some h
      refine T_iast dX0_perform_34 lyC_17 (inb_in hi_8) eM_7 ?_
      refine T_aload_n dX0_perform_35 rfl ?_
      refine T_getR dX0_perform_36 clOK_X0 fl_X0_18 lyC_15 rfl rfl ?_
      refine T_aload_n dX0_perform_39 rfl ?_
      refine T_getI dX0_perform_40 clOK_X0 fl_X0_21 lyC_15 rfl ?_
      refine T_iload dX0_perform_43 rfl ?_
      obtain ⟨hi_11, h⟩ := chk_some h
      obtain ⟨M_9, eM_10, h⟩ := lett_some h
      refine T_iast dX0_perform_45 lyC_18 (inb_in hi_11) eM_10 ?_
      refine T_aload_n dX0_perform_46 rfl ?_
      refine T_dup dX0_perform_47 rfl ?_
      refine T_getI dX0_perform_48 clOK_X0 fl_X0_21 lyC_15 rfl ?_
      refine T_iconst dX0_perform_51 ic_1 ?_
      refine T_iadd dX0_perform_52 ?_
      obtain ⟨M_12, eM_13, h⟩ := lett_some h
      refine T_putI dX0_perform_53 clOK_X0 fl_X0_21 (Or.inl rfl) lyC_15 rfl rfl eM_13 ?_
      refine T_aload_n dX0_perform_56 rfl ?_
      refine T_iload_n dX0_perform_57 rfl ?_
      refine T_iload_n dX0_perform_58 rfl ?_
      refine T_iload dX0_perform_59 rfl ?_
      obtain ⟨M_14, hc_15, h⟩ := bd1_some h
      refine T_csv (as := [vR (some p1), vI x2, vI x3, vI x4]) dX0_perform_61 cw_X0_change ml_X0_29 mt_X0_change rfl (Nat.le_of_ble_eq_true rfl) (Nat.le_of_ble_eq_true rfl) (m_X0_change lw tl tt M_12 p1 x2 x3 x4 h1 _ hc_15) ?_
      obtain rfl := sm1 h
      exact T_vret dX0_perform_64 ⟨rfl, rfl, rfl, rfl⟩
    · have h := it_neg hc h
      obtain rfl := sm1 h
      exact T_vret dX0_perform_14 ⟨rfl, rfl, rfl, rfl⟩
def X0_takeBack_L15 (p1 : Nat) (x2 : Int32) : Int32 × Int32 × Mem → Option ((Int32 × Int32 × Mem) ⊕ (Int32 × Mem))
  | (x3, x4, M) =>
    if x4 < x2 then lett (sI M 15 3 ((gI M 15 3) - x3)) fun M_5 => some (.inr (x3, M_5))
    else if x4 < 0 then lett (sI M 15 3 ((gI M 15 3) - x3)) fun M_7 => some (.inr (x3, M_7))
    else chk (inb x4 40 = true) (chk (inb x4 40 = true) (chk (inb x4 40 = true) (bd1 (F_X0_change M p1 (gI M 16 x4.toNatClampNeg) (-(gI M 17 x4.toNatClampNeg)) (-(gI M 18 x4.toNatClampNeg))) fun M_12 => lett (x3 + 1) fun x_14 => lett (x4 + (-1)) fun x_16 => some (.inl (x_14, x_16, M_12)))))
def F_X0_takeBack (M : Mem) (p1 : Nat) (x2 : Int32) : Option (Int32 × Mem) :=
 bd1 (F_J9_min_7cf53 (gI M 15 3) (nI 40)) fun r_1 => lett (r_1 - 1) fun x_3 => loop (X0_takeBack_L15 p1 x2) FU (0, x_3, M)
set_option maxRecDepth 100000 in
set_option maxHeartbeats 4000000 in
theorem s_X0_takeBack_L15 (lw : Nat → Option Nat) (tl : Option Nat) (tt : Option Nat) (p1 : Nat) (x2 : Int32) (h1 : isX1 p1 = true) (x3 : Int32) (x4 : Int32) (M : Mem) {Po : Po_} (x : (Int32 × Int32 × Mem) ⊕ (Int32 × Mem)) (h : X0_takeBack_L15 p1 x2 (x3, x4, M) = some x) (hI : ∀ (ix3 : Int32) (ix4 : Int32) (iM : Mem), x = .inl (ix3, ix4, iM) → T RX0 cX0_takeBack 5 (some .int) 0 5 0 0 false Po 15 [aR (some 15), aR (some p1), aI x2, aI ix3, aI ix4] [] LAYC (rfs lw tl tt) iM 0 0) (hE0 : ∀ (er : Int32) (eM : Mem), x = .inr (er, eM) → Po (vI er) LAYC (rfs lw tl tt) eM) : T RX0 cX0_takeBack 5 (some .int) 0 5 0 0 false Po 15 [aR (some 15), aR (some p1), aI x2, aI x3, aI x4] [] LAYC (rfs lw tl tt) M 0 0 := by
  unfold X0_takeBack_L15 at h
  simp only at h
  refine T_iload dX0_takeBack_15 rfl ?_
  refine T_iload_n dX0_takeBack_17 rfl ?_
  refine T_icmp_lt (tgt := 62) dX0_takeBack_18 (by decide) (fun hc => ?_) (fun hc => ?_)
  · have h := it_pos hc h
    refine T_aload_n dX0_takeBack_62 rfl ?_
    refine T_dup dX0_takeBack_63 rfl ?_
    refine T_getI dX0_takeBack_64 clOK_X0 fl_X0_21 lyC_15 rfl ?_
    refine T_iload_n dX0_takeBack_67 rfl ?_
    refine T_isub dX0_takeBack_68 ?_
    obtain ⟨M_5, eM_6, h⟩ := lett_some h
    refine T_putI dX0_takeBack_69 clOK_X0 fl_X0_21 (Or.inl rfl) lyC_15 rfl rfl eM_6 ?_
    refine T_iload_n dX0_takeBack_72 rfl ?_
    obtain rfl := sm1 h
    exact T_iret dX0_takeBack_73 (hE0 _ _ rfl)
  · have h := it_neg hc h
    refine T_iload dX0_takeBack_21 rfl ?_
    refine T_if_lt (tgt := 62) dX0_takeBack_23 (by decide) (fun hc => ?_) (fun hc => ?_)
    · have h := it_pos hc h
      refine T_aload_n dX0_takeBack_62 rfl ?_
      refine T_dup dX0_takeBack_63 rfl ?_
      refine T_getI dX0_takeBack_64 clOK_X0 fl_X0_21 lyC_15 rfl ?_
      refine T_iload_n dX0_takeBack_67 rfl ?_
      refine T_isub dX0_takeBack_68 ?_
      obtain ⟨M_7, eM_8, h⟩ := lett_some h
      refine T_putI dX0_takeBack_69 clOK_X0 fl_X0_21 (Or.inl rfl) lyC_15 rfl rfl eM_8 ?_
      refine T_iload_n dX0_takeBack_72 rfl ?_
      obtain rfl := sm1 h
      exact T_iret dX0_takeBack_73 (hE0 _ _ rfl)
    · have h := it_neg hc h
      refine T_aload_n dX0_takeBack_26 rfl ?_
      refine T_aload_n dX0_takeBack_27 rfl ?_
      refine T_getR dX0_takeBack_28 clOK_X0 fl_X0_9 lyC_15 rfl rfl ?_
      refine T_iload dX0_takeBack_31 rfl ?_
      obtain ⟨hi_9, h⟩ := chk_some h
      refine T_iald dX0_takeBack_33 lyC_16 (inb_in hi_9) ?_
      refine T_aload_n dX0_takeBack_34 rfl ?_
      refine T_getR dX0_takeBack_35 clOK_X0 fl_X0_15 lyC_15 rfl rfl ?_
      refine T_iload dX0_takeBack_38 rfl ?_
      obtain ⟨hi_10, h⟩ := chk_some h
      refine T_iald dX0_takeBack_40 lyC_17 (inb_in hi_10) ?_
      refine T_ineg dX0_takeBack_41 ?_
      refine T_aload_n dX0_takeBack_42 rfl ?_
      refine T_getR dX0_takeBack_43 clOK_X0 fl_X0_18 lyC_15 rfl rfl ?_
      refine T_iload dX0_takeBack_46 rfl ?_
      obtain ⟨hi_11, h⟩ := chk_some h
      refine T_iald dX0_takeBack_48 lyC_18 (inb_in hi_11) ?_
      refine T_ineg dX0_takeBack_49 ?_
      obtain ⟨M_12, hc_13, h⟩ := bd1_some h
      refine T_csv (as := [vR (some p1), vI (gI M 16 x4.toNatClampNeg), vI (-(gI M 17 x4.toNatClampNeg)), vI (-(gI M 18 x4.toNatClampNeg))]) dX0_takeBack_50 cw_X0_change ml_X0_29 mt_X0_change rfl (Nat.le_of_ble_eq_true rfl) (Nat.le_of_ble_eq_true rfl) (m_X0_change lw tl tt M p1 (gI M 16 x4.toNatClampNeg) (-(gI M 17 x4.toNatClampNeg)) (-(gI M 18 x4.toNatClampNeg)) h1 _ hc_13) ?_
      obtain ⟨x_14, ex_15, h⟩ := lett_some h
      refine T_iinc (L' := [aR (some 15), aR (some p1), aI x2, aI x_14, aI x4]) dX0_takeBack_53 rfl (ic_inc ic_1 ex_15) (Nat.le_of_ble_eq_true rfl) rfl ?_
      obtain ⟨x_16, ex_17, h⟩ := lett_some h
      refine T_iinc (L' := [aR (some 15), aR (some p1), aI x2, aI x_14, aI x_16]) dX0_takeBack_56 rfl (ic_inc ic_m1 ex_17) (Nat.le_of_ble_eq_true rfl) rfl ?_
      refine T_goto (tgt := 15) dX0_takeBack_59 (by decide) ?_
      obtain rfl := sm1 h
      exact hI _ _ _ rfl
set_option maxRecDepth 100000 in
set_option maxHeartbeats 4000000 in
theorem l_X0_takeBack_L15 (lw : Nat → Option Nat) (tl : Option Nat) (tt : Option Nat) (p1 : Nat) (x2 : Int32) (h1 : isX1 p1 = true) {Po : Po_} (er : Int32) (eM : Mem) : ∀ (k : Nat) (x3 : Int32) (x4 : Int32) (M : Mem), loop (X0_takeBack_L15 p1 x2) k (x3, x4, M) = some (er, eM) → (Po (vI er) LAYC (rfs lw tl tt) eM) → T RX0 cX0_takeBack 5 (some .int) 0 5 0 0 false Po 15 [aR (some 15), aR (some p1), aI x2, aI x3, aI x4] [] LAYC (rfs lw tl tt) M 0 0 := by
  intro k
  induction k with
  | zero => intro x3 x4 M h; cases h
  | succ k ih =>
    intro x3 x4 M h hE
    obtain ⟨x, hx, hx1, hx2⟩ := loop_succ h
    exact s_X0_takeBack_L15  lw tl tt p1 x2 h1 x3 x4 M x hx (fun q0 q1 q2 e => ih q0 q1 q2 (hx1 _ e) hE) (fun q0 q1 e => by cases hx2 _ e; exact hE)
set_option maxRecDepth 100000 in
set_option maxHeartbeats 4000000 in
theorem m_X0_takeBack (lw : Nat → Option Nat) (tl : Option Nat) (tt : Option Nat) (M : Mem) (p1 : Nat) (x2 : Int32) (h1 : isX1 p1 = true) (r : Int32) (M' : Mem) (h : F_X0_takeBack M p1 x2 = some (r, M')) : Cal yX0_takeBack cX0_takeBack 5 (some .int) 0 5 0 0 false [vR (some 15), vR (some p1), vI x2] LAYC (rfs lw tl tt) M (eqp (vI r) LAYC (rfs lw tl tt) M') := by
  refine Cal.of (by decide +kernel) (Nat.le_of_ble_eq_true rfl) (fun h => by cases h) ?_
  unfold F_X0_takeBack at h
  show T RX0 cX0_takeBack 5 (some .int) 0 5 0 0 false (eqp (vI r) LAYC (rfs lw tl tt) M') 0 [aR (some 15), aR (some p1), aI x2, aU, aU] [] LAYC (rfs lw tl tt) M 0 0
  refine T_iconst dX0_takeBack_0 ic_0 ?_
  refine T_istore_n (i := 3) (L' := [aR (some 15), aR (some p1), aI x2, aI 0, aU]) dX0_takeBack_1 rfl (Nat.le_of_ble_eq_true rfl) rfl ?_
  refine T_aload_n dX0_takeBack_2 rfl ?_
  refine T_getI dX0_takeBack_3 clOK_X0 fl_X0_21 lyC_15 rfl ?_
  refine T_bipush dX0_takeBack_6 bp_40 ?_
  obtain ⟨r_1, hc_2, h⟩ := bd1_some h
  refine T_csi (as := [vI (gI M 15 3), vI (nI 40)]) dX0_takeBack_8 cw_J9_min_7cf53 ml_X0_33 mt_J9_min_7cf53 rfl (Nat.le_of_ble_eq_true rfl) (Nat.le_of_ble_eq_true rfl) (m_J9_min_7cf53 LAYC (rfs lw tl tt) M (gI M 15 3) (nI 40)  _ hc_2) ?_
  refine T_iconst dX0_takeBack_11 ic_1 ?_
  refine T_isub dX0_takeBack_12 ?_
  obtain ⟨x_3, ex_4, h⟩ := lett_some h
  refine T_topI ex_4 ?_
  refine T_istore (i := 4) (L' := [aR (some 15), aR (some p1), aI x2, aI 0, aI x_3]) dX0_takeBack_13 (Nat.le_of_ble_eq_true rfl) rfl ?_
  exact l_X0_takeBack_L15  lw tl tt p1 x2 h1 _ _ FU 0 x_3 M h ⟨rfl, rfl, rfl, rfl⟩
def F_X4_depthAt (M : Mem) (x1 : Int32) : Option (Int32) :=
 if x1 < 0 then some 0
 else if (nI 16) ≤ x1 then some 0
 else chk (inb x1 16 = true) (some (gI M 4 x1.toNatClampNeg))
set_option maxRecDepth 100000 in
set_option maxHeartbeats 4000000 in
theorem m_X4_depthAt (lw : Nat → Option Nat) (tl : Option Nat) (tt : Option Nat) (M : Mem) (x1 : Int32) (r : Int32) (h : F_X4_depthAt M x1 = some r) : Cal yX4_depthAt cX4_depthAt 2 (some .int) 0 1 0 0 false [vR (some 3), vI x1] LAYC (rfs lw tl tt) M (eqp (vI r) LAYC (rfs lw tl tt) M) := by
  refine Cal.of (by decide +kernel) (Nat.le_of_ble_eq_true rfl) (fun h => by cases h) ?_
  unfold F_X4_depthAt at h
  show T RX4 cX4_depthAt 2 (some .int) 0 1 0 0 false (eqp (vI r) LAYC (rfs lw tl tt) M) 0 [aR (some 3), aI x1] [] LAYC (rfs lw tl tt) M 0 0
  refine T_iload_n dX4_depthAt_0 rfl ?_
  refine T_if_lt (tgt := 22) dX4_depthAt_1 (by decide) (fun hc => ?_) (fun hc => ?_)
  · have h := it_pos hc h
    refine T_iconst dX4_depthAt_22 ic_0 ?_
    obtain rfl := sm1 h
    exact T_iret dX4_depthAt_23 ⟨rfl, rfl, rfl, rfl⟩
  · have h := it_neg hc h
    refine T_iload_n dX4_depthAt_4 rfl ?_
    refine T_aload_n dX4_depthAt_5 rfl ?_
    refine T_getR dX4_depthAt_6 clOK_X4 fl_X4_9 lyC_3 rfl rfl ?_
    refine T_alen dX4_depthAt_9 lyC_4 (Or.inl rfl) rfl ?_
    refine T_icmp_ge (tgt := 22) dX4_depthAt_10 (by decide) (fun hc => ?_) (fun hc => ?_)
    · have h := it_pos hc h
      refine T_iconst dX4_depthAt_22 ic_0 ?_
      obtain rfl := sm1 h
      exact T_iret dX4_depthAt_23 ⟨rfl, rfl, rfl, rfl⟩
    · have h := it_neg hc h
      refine T_aload_n dX4_depthAt_13 rfl ?_
      refine T_getR dX4_depthAt_14 clOK_X4 fl_X4_9 lyC_3 rfl rfl ?_
      refine T_iload_n dX4_depthAt_17 rfl ?_
      obtain ⟨hi_1, h⟩ := chk_some h
      refine T_iald dX4_depthAt_18 lyC_4 (inb_in hi_1) ?_
      refine T_goto (tgt := 23) dX4_depthAt_19 (by decide) ?_
      obtain rfl := sm1 h
      exact T_iret dX4_depthAt_23 ⟨rfl, rfl, rfl, rfl⟩
def X1_begin_J41 (M : Mem) (p0 : Nat) (x2 : Int32) (s0 : Int32) (s1 : Int32) : Option ((Int32 × Mem) ⊕ (Mem)) :=
 chk (inb s1 16 = true) (lett (sI M (p0 + 1) s1.toNatClampNeg s0) fun M_3 => chk (inb x2 16 = true) (if (gI M_3 (p0 + 1) x2.toNatClampNeg) ≤ 0 then lett (x2 + 1) fun x_7 => some (.inl (x_7, M_3))
 else lett (sI M_3 p0 4 ((gI M_3 p0 4) ||| (ish 1 x2))) fun M_9 => lett (x2 + 1) fun x_11 => some (.inl (x_11, M_9))))
def X1_begin_L7 (p0 : Nat) : Int32 × Mem → Option ((Int32 × Mem) ⊕ (Mem))
  | (x2, M) =>
    if (nI 16) ≤ x2 then some (.inr M)
    else if (gI M 7 0) ≤ x2 then X1_begin_J41 M p0 x2 0 x2
    else bd1 (F_X4_depthAt M x2) fun r_13 => X1_begin_J41 M p0 x2 r_13 x2
def F_X1_begin (M : Mem) (p0 : Nat) : Option (Mem) :=
 lett (sI M p0 4 0) fun M_1 => bd1 (loop (X1_begin_L7 p0) FU (0, M_1)) fun M_15 => lett (sI M_15 p0 6 0) fun M_16 => lett (sI M_16 p0 7 1) fun M_18 => lett (sI M_18 p0 5 (-1)) fun M_20 => bd1 (F_X1_survey M_20 p0) fun M_22 => some M_22
set_option maxRecDepth 100000 in
set_option maxHeartbeats 4000000 in
theorem j_X1_begin_J41 (lw : Nat → Option Nat) (tl : Option Nat) (tt : Option Nat) (M : Mem) (p0 : Nat) (x2 : Int32) (s0 : Int32) (s1 : Int32) (h0 : isX1 p0 = true) {Po : Po_} (x : (Int32 × Mem) ⊕ (Mem)) (h : X1_begin_J41 M p0 x2 s0 s1 = some x) (hI : ∀ (ix2 : Int32) (iM : Mem), x = .inl (ix2, iM) → T RX1 cX1_begin 3 none 2 4 0 0 false Po 7 [aR (some p0), aR (some 3), aI ix2] [] LAYC (rfs lw tl tt) iM 0 0) (hE0 : ∀ (eM : Mem), x = .inr eM → T RX1 cX1_begin 3 none 2 4 0 0 false Po 69 [aR (some p0), aU, aU] [] LAYC (rfs lw tl tt) eM 0 0) : T RX1 cX1_begin 3 none 2 4 0 0 false Po 41 [aR (some p0), aR (some 3), aI x2] [vI s0, vI s1, vR (some (p0 + 1))] LAYC (rfs lw tl tt) M 0 0 := by
  unfold X1_begin_J41 at h
  obtain ⟨hi_5, h⟩ := chk_some h
  obtain ⟨M_3, eM_4, h⟩ := lett_some h
  refine T_iast dX1_begin_41 (lyX1a h0) (inb_in hi_5) eM_4 ?_
  refine T_aload_n dX1_begin_42 rfl ?_
  refine T_getR dX1_begin_43 clOK_X1 fl_X1_9 (lyX1 h0) rfl (rfX1_1 h0) ?_
  refine T_iload_n dX1_begin_46 rfl ?_
  obtain ⟨hi_6, h⟩ := chk_some h
  refine T_iald dX1_begin_47 (lyX1a h0) (inb_in hi_6) ?_
  refine T_if_le (tgt := 63) dX1_begin_48 (by decide) (fun hc => ?_) (fun hc => ?_)
  · have h := it_pos hc h
    obtain ⟨x_7, ex_8, h⟩ := lett_some h
    refine T_iinc (L' := [aR (some p0), aR (some 3), aI x_7]) dX1_begin_63 rfl (ic_inc ic_1 ex_8) (Nat.le_of_ble_eq_true rfl) rfl ?_
    refine T_goto (tgt := 7) dX1_begin_66 (by decide) ?_
    obtain rfl := sm1 h
    exact hI _ _ rfl
  · have h := it_neg hc h
    refine T_aload_n dX1_begin_51 rfl ?_
    refine T_dup dX1_begin_52 rfl ?_
    refine T_getI dX1_begin_53 clOK_X1 fl_X1_22 (lyX1 h0) rfl ?_
    refine T_iconst dX1_begin_56 ic_1 ?_
    refine T_iload_n dX1_begin_57 rfl ?_
    refine T_ishl dX1_begin_58 ?_
    refine T_ior dX1_begin_59 ?_
    obtain ⟨M_9, eM_10, h⟩ := lett_some h
    refine T_putI dX1_begin_60 clOK_X1 fl_X1_22 (Or.inl rfl) (lyX1 h0) rfl rfl eM_10 ?_
    obtain ⟨x_11, ex_12, h⟩ := lett_some h
    refine T_iinc (L' := [aR (some p0), aR (some 3), aI x_11]) dX1_begin_63 rfl (ic_inc ic_1 ex_12) (Nat.le_of_ble_eq_true rfl) rfl ?_
    refine T_goto (tgt := 7) dX1_begin_66 (by decide) ?_
    obtain rfl := sm1 h
    exact hI _ _ rfl
set_option maxRecDepth 100000 in
set_option maxHeartbeats 4000000 in
theorem s_X1_begin_L7 (lw : Nat → Option Nat) (tl : Option Nat) (tt : Option Nat) (p0 : Nat) (h0 : isX1 p0 = true) (x2 : Int32) (M : Mem) {Po : Po_} (x : (Int32 × Mem) ⊕ (Mem)) (h : X1_begin_L7 p0 (x2, M) = some x) (hI : ∀ (ix2 : Int32) (iM : Mem), x = .inl (ix2, iM) → T RX1 cX1_begin 3 none 2 4 0 0 false Po 7 [aR (some p0), aR (some 3), aI ix2] [] LAYC (rfs lw tl tt) iM 0 0) (hE0 : ∀ (eM : Mem), x = .inr eM → T RX1 cX1_begin 3 none 2 4 0 0 false Po 69 [aR (some p0), aU, aU] [] LAYC (rfs lw tl tt) eM 0 0) : T RX1 cX1_begin 3 none 2 4 0 0 false Po 7 [aR (some p0), aR (some 3), aI x2] [] LAYC (rfs lw tl tt) M 0 0 := by
  unfold X1_begin_L7 at h
  simp only at h
  refine T_iload_n dX1_begin_7 rfl ?_
  refine T_aload_n dX1_begin_8 rfl ?_
  refine T_getR dX1_begin_9 clOK_X1 fl_X1_9 (lyX1 h0) rfl (rfX1_1 h0) ?_
  refine T_alen dX1_begin_12 (lyX1a h0) (Or.inl rfl) rfl ?_
  refine T_icmp_ge (tgt := 69) dX1_begin_13 (by decide) (fun hc => ?_) (fun hc => ?_)
  · have h := it_pos hc h
    obtain rfl := sm1 h
    refine T_mask [true, false, false] rfl ?_
    exact hE0 _ rfl
  · have h := it_neg hc h
    refine T_aload_n dX1_begin_16 rfl ?_
    refine T_getR dX1_begin_17 clOK_X1 fl_X1_9 (lyX1 h0) rfl (rfX1_1 h0) ?_
    refine T_iload_n dX1_begin_20 rfl ?_
    refine T_iload_n dX1_begin_21 rfl ?_
    refine T_aload_n dX1_begin_22 rfl ?_
    refine T_getR dX1_begin_23 clOK_X1 fl_X1_18 (lyX1 h0) rfl (rfX1_0 h0) ?_
    refine T_getI dX1_begin_26 clOK_X2 fl_X1_26 lyC_7 rfl ?_
    refine T_icmp_ge (tgt := 40) dX1_begin_29 (by decide) (fun hc => ?_) (fun hc => ?_)
    · have h := it_pos hc h
      refine T_iconst dX1_begin_40 ic_0 ?_
      exact j_X1_begin_J41  lw tl tt M p0 x2 0 x2 h0 _ h hI hE0
    · have h := it_neg hc h
      refine T_aload_n dX1_begin_32 rfl ?_
      refine T_iload_n dX1_begin_33 rfl ?_
      obtain ⟨r_13, hc_14, h⟩ := bd1_some h
      refine T_cvi (as := [vI x2]) dX1_begin_34 cw_X4_depthAt ml_X1_31 mi_X4_depthAt se_X4_depthAt lyC_3 rfl (by decide) rfl (Nat.le_of_ble_eq_true rfl) (Nat.le_of_ble_eq_true rfl) (m_X4_depthAt lw tl tt M x2  _ hc_14) ?_
      refine T_goto (tgt := 41) dX1_begin_37 (by decide) ?_
      exact j_X1_begin_J41  lw tl tt M p0 x2 r_13 x2 h0 _ h hI hE0
set_option maxRecDepth 100000 in
set_option maxHeartbeats 4000000 in
theorem l_X1_begin_L7 (lw : Nat → Option Nat) (tl : Option Nat) (tt : Option Nat) (p0 : Nat) (h0 : isX1 p0 = true) {Po : Po_} (eM : Mem) : ∀ (k : Nat) (x2 : Int32) (M : Mem), loop (X1_begin_L7 p0) k (x2, M) = some eM → (T RX1 cX1_begin 3 none 2 4 0 0 false Po 69 [aR (some p0), aU, aU] [] LAYC (rfs lw tl tt) eM 0 0) → T RX1 cX1_begin 3 none 2 4 0 0 false Po 7 [aR (some p0), aR (some 3), aI x2] [] LAYC (rfs lw tl tt) M 0 0 := by
  intro k
  induction k with
  | zero => intro x2 M h; cases h
  | succ k ih =>
    intro x2 M h hE
    obtain ⟨x, hx, hx1, hx2⟩ := loop_succ h
    exact s_X1_begin_L7  lw tl tt p0 h0 x2 M x hx (fun q0 q1 e => ih q0 q1 (hx1 _ e) hE) (fun q0 e => by cases hx2 _ e; exact hE)
set_option maxRecDepth 100000 in
set_option maxHeartbeats 4000000 in
theorem m_X1_begin (lw : Nat → Option Nat) (tl : Option Nat) (tt : Option Nat) (M : Mem) (p0 : Nat) (h0 : isX1 p0 = true) (M' : Mem) (h : F_X1_begin M p0 = some M') : Cal yX1_begin cX1_begin 3 none 2 4 0 0 false [vR (some p0), vR (some 3)] LAYC (rfs lw tl tt) M (eqp (vI 0) LAYC (rfs lw tl tt) M') := by
  refine Cal.of (by decide +kernel) (Nat.le_of_ble_eq_true rfl) (fun h => by cases h) ?_
  unfold F_X1_begin at h
  show T RX1 cX1_begin 3 none 2 4 0 0 false (eqp (vI 0) LAYC (rfs lw tl tt) M') 0 [aR (some p0), aR (some 3), aU] [] LAYC (rfs lw tl tt) M 0 0
  refine T_aload_n dX1_begin_0 rfl ?_
  refine T_iconst dX1_begin_1 ic_0 ?_
  obtain ⟨M_1, eM_2, h⟩ := lett_some h
  refine T_putI dX1_begin_2 clOK_X1 fl_X1_22 (Or.inl rfl) (lyX1 h0) rfl rfl eM_2 ?_
  refine T_iconst dX1_begin_5 ic_0 ?_
  refine T_istore_n (i := 2) (L' := [aR (some p0), aR (some 3), aI 0]) dX1_begin_6 rfl (Nat.le_of_ble_eq_true rfl) rfl ?_
  obtain ⟨M_15, hl, h⟩ := bd1_some h
  refine l_X1_begin_L7  lw tl tt p0 h0 _ FU 0 M_1 hl ?_
  refine T_aload_n dX1_begin_69 rfl ?_
  refine T_iconst dX1_begin_70 ic_0 ?_
  obtain ⟨M_16, eM_17, h⟩ := lett_some h
  refine T_putI dX1_begin_71 clOK_X1 fl_X1_37 (Or.inl rfl) (lyX1 h0) rfl rfl eM_17 ?_
  refine T_aload_n dX1_begin_74 rfl ?_
  refine T_iconst dX1_begin_75 ic_1 ?_
  obtain ⟨M_18, eM_19, h⟩ := lett_some h
  refine T_putZ dX1_begin_76 clOK_X1 fl_X1_40 (Or.inl rfl) (lyX1 h0) rfl rfl (Or.inr rfl) eM_19 ?_
  refine T_aload_n dX1_begin_79 rfl ?_
  refine T_iconst dX1_begin_80 ic_m1 ?_
  obtain ⟨M_20, eM_21, h⟩ := lett_some h
  refine T_putI dX1_begin_81 clOK_X1 fl_X1_44 (Or.inl rfl) (lyX1 h0) rfl rfl eM_21 ?_
  refine T_aload_n dX1_begin_84 rfl ?_
  obtain ⟨M_22, hc_23, h⟩ := bd1_some h
  refine T_cvv (as := []) dX1_begin_85 cw_X1_survey ml_X1_47 mi_X1_survey se_X1_survey (lyX1 h0) rfl (by decide) rfl (Nat.le_of_ble_eq_true rfl) (Nat.le_of_ble_eq_true rfl) (m_X1_survey lw tl tt M_20 p0 h0 _ hc_23) ?_
  obtain rfl := sm1 h
  exact T_vret dX1_begin_88 ⟨rfl, rfl, rfl, rfl⟩
def F_X1_become (M : Mem) (p0 : Nat) (p1 : Nat) : Option (Mem) :=
 chk (¬ (0 : Int32) < 0 ∧ ¬ (0 : Int32) < 0 ∧ ¬ (nI 16) < 0 ∧ (0 : Int32).toNatClampNeg + (nI 16).toNatClampNeg ≤ 16 ∧ (0 : Int32).toNatClampNeg + (nI 16).toNatClampNeg ≤ 16) (lett (cpI M (p1 + 1) (0 : Int32).toNatClampNeg (p0 + 1) (0 : Int32).toNatClampNeg (nI 16).toNatClampNeg) fun M_1 => chk (¬ (0 : Int32) < 0 ∧ ¬ (0 : Int32) < 0 ∧ ¬ (nI 8) < 0 ∧ (0 : Int32).toNatClampNeg + (nI 8).toNatClampNeg ≤ 8 ∧ (0 : Int32).toNatClampNeg + (nI 8).toNatClampNeg ≤ 8) (lett (cpI M_1 (p1 + 2) (0 : Int32).toNatClampNeg (p0 + 2) (0 : Int32).toNatClampNeg (nI 8).toNatClampNeg) fun M_4 => lett (sI M_4 p0 3 (gI M_4 p1 3)) fun M_7 => lett (sI M_7 p0 4 (gI M_7 p1 4)) fun M_9 => lett (sI M_9 p0 5 (gI M_9 p1 5)) fun M_11 => lett (sI M_11 p0 6 (gI M_11 p1 6)) fun M_13 => chk ((gI M_13 p1 7) = 0 ∨ (gI M_13 p1 7) = 1) (lett (sI M_13 p0 7 (gI M_13 p1 7)) fun M_15 => some M_15)))
set_option maxRecDepth 100000 in
set_option maxHeartbeats 4000000 in
theorem m_X1_become (lw : Nat → Option Nat) (tl : Option Nat) (tt : Option Nat) (M : Mem) (p0 : Nat) (p1 : Nat) (h0 : isX1 p0 = true) (h1 : isX1 p1 = true) (M' : Mem) (h : F_X1_become M p0 p1 = some M') : Cal yX1_become cX1_become 2 none 2 1 0 0 false [vR (some p0), vR (some p1)] LAYC (rfs lw tl tt) M (eqp (vI 0) LAYC (rfs lw tl tt) M') := by
  refine Cal.of (by decide +kernel) (Nat.le_of_ble_eq_true rfl) (fun h => by cases h) ?_
  unfold F_X1_become at h
  show T RX1 cX1_become 2 none 2 1 0 0 false (eqp (vI 0) LAYC (rfs lw tl tt) M') 0 [aR (some p0), aR (some p1)] [] LAYC (rfs lw tl tt) M 0 0
  refine T_aload_n dX1_become_0 rfl ?_
  refine T_getR dX1_become_1 clOK_X1 fl_X1_9 (lyX1 h1) rfl (rfX1_1 h1) ?_
  refine T_iconst dX1_become_4 ic_0 ?_
  refine T_aload_n dX1_become_5 rfl ?_
  refine T_getR dX1_become_6 clOK_X1 fl_X1_9 (lyX1 h0) rfl (rfX1_1 h0) ?_
  refine T_iconst dX1_become_9 ic_0 ?_
  refine T_bipush dX1_become_10 bp_16 ?_
  obtain ⟨hc_3, h⟩ := chk_some h
  obtain ⟨M_1, eM_2, h⟩ := lett_some h
  refine T_copy dX1_become_12 ml_X1_50 ac_nat ac_sta ac_ini (lyX1a h1) (lyX1a h0) hc_3.1 hc_3.2.1 hc_3.2.2.1 hc_3.2.2.2.1 hc_3.2.2.2.2 (Nat.le_of_ble_eq_true rfl) (Nat.le_of_ble_eq_true rfl) eM_2 ?_
  refine T_aload_n dX1_become_15 rfl ?_
  refine T_getR dX1_become_16 clOK_X1 fl_X1_15 (lyX1 h1) rfl (rfX1_2 h1) ?_
  refine T_iconst dX1_become_19 ic_0 ?_
  refine T_aload_n dX1_become_20 rfl ?_
  refine T_getR dX1_become_21 clOK_X1 fl_X1_15 (lyX1 h0) rfl (rfX1_2 h0) ?_
  refine T_iconst dX1_become_24 ic_0 ?_
  refine T_bipush dX1_become_25 bp_8 ?_
  obtain ⟨hc_6, h⟩ := chk_some h
  obtain ⟨M_4, eM_5, h⟩ := lett_some h
  refine T_copy dX1_become_27 ml_X1_50 ac_nat ac_sta ac_ini (lyX1b h1) (lyX1b h0) hc_6.1 hc_6.2.1 hc_6.2.2.1 hc_6.2.2.2.1 hc_6.2.2.2.2 (Nat.le_of_ble_eq_true rfl) (Nat.le_of_ble_eq_true rfl) eM_5 ?_
  refine T_aload_n dX1_become_30 rfl ?_
  refine T_aload_n dX1_become_31 rfl ?_
  refine T_getI dX1_become_32 clOK_X1 fl_X1_56 (lyX1 h1) rfl ?_
  obtain ⟨M_7, eM_8, h⟩ := lett_some h
  refine T_putI dX1_become_35 clOK_X1 fl_X1_56 (Or.inl rfl) (lyX1 h0) rfl rfl eM_8 ?_
  refine T_aload_n dX1_become_38 rfl ?_
  refine T_aload_n dX1_become_39 rfl ?_
  refine T_getI dX1_become_40 clOK_X1 fl_X1_22 (lyX1 h1) rfl ?_
  obtain ⟨M_9, eM_10, h⟩ := lett_some h
  refine T_putI dX1_become_43 clOK_X1 fl_X1_22 (Or.inl rfl) (lyX1 h0) rfl rfl eM_10 ?_
  refine T_aload_n dX1_become_46 rfl ?_
  refine T_aload_n dX1_become_47 rfl ?_
  refine T_getI dX1_become_48 clOK_X1 fl_X1_44 (lyX1 h1) rfl ?_
  obtain ⟨M_11, eM_12, h⟩ := lett_some h
  refine T_putI dX1_become_51 clOK_X1 fl_X1_44 (Or.inl rfl) (lyX1 h0) rfl rfl eM_12 ?_
  refine T_aload_n dX1_become_54 rfl ?_
  refine T_aload_n dX1_become_55 rfl ?_
  refine T_getI dX1_become_56 clOK_X1 fl_X1_37 (lyX1 h1) rfl ?_
  obtain ⟨M_13, eM_14, h⟩ := lett_some h
  refine T_putI dX1_become_59 clOK_X1 fl_X1_37 (Or.inl rfl) (lyX1 h0) rfl rfl eM_14 ?_
  refine T_aload_n dX1_become_62 rfl ?_
  refine T_aload_n dX1_become_63 rfl ?_
  refine T_getZ dX1_become_64 clOK_X1 fl_X1_40 (lyX1 h1) rfl ?_
  obtain ⟨hb_17, h⟩ := chk_some h
  obtain ⟨M_15, eM_16, h⟩ := lett_some h
  refine T_putZ dX1_become_67 clOK_X1 fl_X1_40 (Or.inl rfl) (lyX1 h0) rfl rfl hb_17 eM_16 ?_
  obtain rfl := sm1 h
  exact T_vret dX1_become_70 ⟨rfl, rfl, rfl, rfl⟩
def F_X1_go (M : Mem) (p0 : Nat) : Option (Mem) :=
 lett (sI M p0 7 0) fun M_1 => some M_1
set_option maxRecDepth 100000 in
set_option maxHeartbeats 4000000 in
theorem m_X1_go (lw : Nat → Option Nat) (tl : Option Nat) (tt : Option Nat) (M : Mem) (p0 : Nat) (h0 : isX1 p0 = true) (M' : Mem) (h : F_X1_go M p0 = some M') : Cal yX1_go cX1_go 1 none 2 1 0 0 false [vR (some p0)] LAYC (rfs lw tl tt) M (eqp (vI 0) LAYC (rfs lw tl tt) M') := by
  refine Cal.of (by decide +kernel) (Nat.le_of_ble_eq_true rfl) (fun h => by cases h) ?_
  unfold F_X1_go at h
  show T RX1 cX1_go 1 none 2 1 0 0 false (eqp (vI 0) LAYC (rfs lw tl tt) M') 0 [aR (some p0)] [] LAYC (rfs lw tl tt) M 0 0
  refine T_aload_n dX1_go_0 rfl ?_
  refine T_iconst dX1_go_1 ic_0 ?_
  obtain ⟨M_1, eM_2, h⟩ := lett_some h
  refine T_putZ dX1_go_2 clOK_X1 fl_X1_40 (Or.inl rfl) (lyX1 h0) rfl rfl (Or.inl rfl) eM_2 ?_
  obtain rfl := sm1 h
  exact T_vret dX1_go_5 ⟨rfl, rfl, rfl, rfl⟩
def F_X1_has (M : Mem) (p0 : Nat) (x1 : Int32) : Option (Int32) :=
 if x1 < 0 then some 0
 else if (gI M p0 3) ≤ x1 then some 0
 else some 1
set_option maxRecDepth 100000 in
set_option maxHeartbeats 4000000 in
theorem m_X1_has (lw : Nat → Option Nat) (tl : Option Nat) (tt : Option Nat) (M : Mem) (p0 : Nat) (x1 : Int32) (h0 : isX1 p0 = true) (r : Int32) (h : F_X1_has M p0 x1 = some r) : Cal yX1_has cX1_has 2 (some .boolean) 0 1 0 0 false [vR (some p0), vI x1] LAYC (rfs lw tl tt) M (eqp (vI r) LAYC (rfs lw tl tt) M) := by
  refine Cal.of (by decide +kernel) (Nat.le_of_ble_eq_true rfl) (fun h => by cases h) ?_
  unfold F_X1_has at h
  show T RX1 cX1_has 2 (some .boolean) 0 1 0 0 false (eqp (vI r) LAYC (rfs lw tl tt) M) 0 [aR (some p0), aI x1] [] LAYC (rfs lw tl tt) M 0 0
  refine T_iload_n dX1_has_0 rfl ?_
  refine T_if_lt (tgt := 16) dX1_has_1 (by decide) (fun hc => ?_) (fun hc => ?_)
  · have h := it_pos hc h
    refine T_iconst dX1_has_16 ic_0 ?_
    obtain rfl := sm1 h
    exact T_zret dX1_has_17 (Or.inl rfl) ⟨rfl, rfl, rfl, rfl⟩
  · have h := it_neg hc h
    refine T_iload_n dX1_has_4 rfl ?_
    refine T_aload_n dX1_has_5 rfl ?_
    refine T_getI dX1_has_6 clOK_X1 fl_X1_56 (lyX1 h0) rfl ?_
    refine T_icmp_ge (tgt := 16) dX1_has_9 (by decide) (fun hc => ?_) (fun hc => ?_)
    · have h := it_pos hc h
      refine T_iconst dX1_has_16 ic_0 ?_
      obtain rfl := sm1 h
      exact T_zret dX1_has_17 (Or.inl rfl) ⟨rfl, rfl, rfl, rfl⟩
    · have h := it_neg hc h
      refine T_iconst dX1_has_12 ic_1 ?_
      refine T_goto (tgt := 17) dX1_has_13 (by decide) ?_
      obtain rfl := sm1 h
      exact T_zret dX1_has_17 (Or.inr rfl) ⟨rfl, rfl, rfl, rfl⟩
def F_X1_bitsOf (M : Mem) (p0 : Nat) (x1 : Int32) : Option (Int32) :=
 if x1 < 0 then some 0
 else if (gI M p0 3) ≤ x1 then some 0
 else if (nI 8) ≤ x1 then some 0
 else chk (inb x1 8 = true) (some (gI M (p0 + 2) x1.toNatClampNeg))
set_option maxRecDepth 100000 in
set_option maxHeartbeats 4000000 in
theorem m_X1_bitsOf (lw : Nat → Option Nat) (tl : Option Nat) (tt : Option Nat) (M : Mem) (p0 : Nat) (x1 : Int32) (h0 : isX1 p0 = true) (r : Int32) (h : F_X1_bitsOf M p0 x1 = some r) : Cal yX1_bitsOf cX1_bitsOf 2 (some .int) 0 1 0 0 false [vR (some p0), vI x1] LAYC (rfs lw tl tt) M (eqp (vI r) LAYC (rfs lw tl tt) M) := by
  refine Cal.of (by decide +kernel) (Nat.le_of_ble_eq_true rfl) (fun h => by cases h) ?_
  unfold F_X1_bitsOf at h
  show T RX1 cX1_bitsOf 2 (some .int) 0 1 0 0 false (eqp (vI r) LAYC (rfs lw tl tt) M) 0 [aR (some p0), aI x1] [] LAYC (rfs lw tl tt) M 0 0
  refine T_iload_n dX1_bitsOf_0 rfl ?_
  refine T_if_lt (tgt := 30) dX1_bitsOf_1 (by decide) (fun hc => ?_) (fun hc => ?_)
  · have h := it_pos hc h
    refine T_iconst dX1_bitsOf_30 ic_0 ?_
    obtain rfl := sm1 h
    exact T_iret dX1_bitsOf_31 ⟨rfl, rfl, rfl, rfl⟩
  · have h := it_neg hc h
    refine T_iload_n dX1_bitsOf_4 rfl ?_
    refine T_aload_n dX1_bitsOf_5 rfl ?_
    refine T_getI dX1_bitsOf_6 clOK_X1 fl_X1_56 (lyX1 h0) rfl ?_
    refine T_icmp_ge (tgt := 30) dX1_bitsOf_9 (by decide) (fun hc => ?_) (fun hc => ?_)
    · have h := it_pos hc h
      refine T_iconst dX1_bitsOf_30 ic_0 ?_
      obtain rfl := sm1 h
      exact T_iret dX1_bitsOf_31 ⟨rfl, rfl, rfl, rfl⟩
    · have h := it_neg hc h
      refine T_iload_n dX1_bitsOf_12 rfl ?_
      refine T_aload_n dX1_bitsOf_13 rfl ?_
      refine T_getR dX1_bitsOf_14 clOK_X1 fl_X1_15 (lyX1 h0) rfl (rfX1_2 h0) ?_
      refine T_alen dX1_bitsOf_17 (lyX1b h0) (Or.inl rfl) rfl ?_
      refine T_icmp_ge (tgt := 30) dX1_bitsOf_18 (by decide) (fun hc => ?_) (fun hc => ?_)
      · have h := it_pos hc h
        refine T_iconst dX1_bitsOf_30 ic_0 ?_
        obtain rfl := sm1 h
        exact T_iret dX1_bitsOf_31 ⟨rfl, rfl, rfl, rfl⟩
      · have h := it_neg hc h
        refine T_aload_n dX1_bitsOf_21 rfl ?_
        refine T_getR dX1_bitsOf_22 clOK_X1 fl_X1_15 (lyX1 h0) rfl (rfX1_2 h0) ?_
        refine T_iload_n dX1_bitsOf_25 rfl ?_
        obtain ⟨hi_1, h⟩ := chk_some h
        refine T_iald dX1_bitsOf_26 (lyX1b h0) (inb_in hi_1) ?_
        refine T_goto (tgt := 31) dX1_bitsOf_27 (by decide) ?_
        obtain rfl := sm1 h
        exact T_iret dX1_bitsOf_31 ⟨rfl, rfl, rfl, rfl⟩
