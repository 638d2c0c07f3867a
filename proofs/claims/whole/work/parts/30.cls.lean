def X8_part_J138 (M : Mem) (x2 : Int32) (x3 : Int32) (x4 : Int32) (x5 : Int32) (x6 : Int32) (x7 : Int32) : Option ((Int32 × Int32 × Int32 × Int32) ⊕ (Int32 × Int32)) :=
 bd1 (F_X8_nextSet x6) fun r_7 => lett (x7 + 1) fun x_9 => some (.inl (x3, x4, r_7, x_9))
def X8_part_J131 (M : Mem) (x2 : Int32) (x5 : Int32) (x6 : Int32) (x7 : Int32) (x8 : Int32) : Option ((Int32 × Int32 × Int32 × Int32) ⊕ (Int32 × Int32)) :=
 X8_part_J138 M x2 x8 x6 x5 x6 x7
def X8_part_L48 (M : Mem) (x2 : Int32) (x5 : Int32) : Int32 × Int32 × Int32 × Int32 → Option ((Int32 × Int32 × Int32 × Int32) ⊕ (Int32 × Int32))
  | (x3, x4, x6, x7) =>
    if (nI 1820) ≤ x7 then some (.inr (x3, x4))
    else if (ish 1 (gI M 7 0)) ≤ x6 then some (.inr (x3, x4))
    else if (x6 &&& (x2 ^^^ (-1))) = 0 then bd1 (F_X2_isParted M (x2 &&& (x6 ^^^ (-1)))) fun r_11 => if r_11 = 0 then X8_part_J138 M x2 x3 x4 x5 x6 x7
    else bd1 (F_X1_volumeOf M 9 x6) fun r_13 => if x3 = (-9) then X8_part_J131 M x2 x5 x6 x7 r_13
    else if r_13 < x3 then X8_part_J131 M x2 x5 x6 x7 r_13
    else if r_13 = x3 then if x4 ≤ x6 then X8_part_J138 M x2 x3 x4 x5 x6 x7
    else X8_part_J131 M x2 x5 x6 x7 r_13
    else X8_part_J138 M x2 x3 x4 x5 x6 x7
    else X8_part_J138 M x2 x3 x4 x5 x6 x7
def X8_part_L31 (M : Mem) (x2 : Int32) : Int32 × Int32 × Int32 → Option ((Int32 × Int32 × Int32) ⊕ (Int32 × Int32))
  | (x3, x4, x5) =>
    if (nI 3) < x5 then some (.inr (x3, x4))
    else lett ((ish 1 x5) - 1) fun x_5 => bd2 (loop (X8_part_L48 M x2 x5) FU (x3, x4, x_5, 0)) fun x_15 x_16 => lett (x5 + 1) fun x_17 => some (.inl (x_15, x_16, x_17))
def F_X8_part (M : Mem) (x1 : Int32) : Option (Int32 × Mem) :=
 bd1 (F_X1_has M 9 x1) fun r_1 => if r_1 = 0 then some ((-1), M)
 else bd1 (F_X1_bitsOf M 9 x1) fun r_3 => bd2 (loop (X8_part_L31 M r_3) FU ((-9), 0, 1)) fun x_19 x_20 => if x_19 = (-9) then some (x_19, M)
 else lett (sI M 0 12 x_20) fun M_21 => some (x_19, M_21)
set_option maxRecDepth 100000 in
set_option maxHeartbeats 4000000 in
theorem j_X8_part_J138 (lw : Nat → Option Nat) (tl : Option Nat) (tt : Option Nat) (M : Mem) (x2 : Int32) (x3 : Int32) (x4 : Int32) (x5 : Int32) (x6 : Int32) (x7 : Int32) {Po : Po_} (x : (Int32 × Int32 × Int32 × Int32) ⊕ (Int32 × Int32)) (h : X8_part_J138 M x2 x3 x4 x5 x6 x7 = some x) (hI : ∀ (ix3 : Int32) (ix4 : Int32) (ix6 : Int32) (ix7 : Int32), x = .inl (ix3, ix4, ix6, ix7) → T RX8 cX8_part 9 (some .int) 0 4 0 0 false Po 48 [aR (some 0), aU, aI x2, aI ix3, aI ix4, aI x5, aI ix6, aI ix7, aU] [] LAYC (rfs lw tl tt) M 0 0) (hE0 : ∀ (e3 : Int32) (e4 : Int32), x = .inr (e3, e4) → T RX8 cX8_part 9 (some .int) 0 4 0 0 false Po 151 [aR (some 0), aU, aI x2, aI e3, aI e4, aI x5, aU, aU, aU] [] LAYC (rfs lw tl tt) M 0 0) : T RX8 cX8_part 9 (some .int) 0 4 0 0 false Po 138 [aR (some 0), aU, aI x2, aI x3, aI x4, aI x5, aI x6, aI x7, aU] [] LAYC (rfs lw tl tt) M 0 0 := by
  unfold X8_part_J138 at h
  refine T_iload dX8_part_138 rfl ?_
  obtain ⟨r_7, hc_8, h⟩ := bd1_some h
  refine T_csi (as := [vI x6]) dX8_part_140 cw_X8_nextSet ml_X8_277 mt_X8_nextSet rfl (Nat.le_of_ble_eq_true rfl) (Nat.le_of_ble_eq_true rfl) (m_X8_nextSet lw tl tt M x6  _ hc_8) ?_
  refine T_istore (i := 6) (L' := [aR (some 0), aU, aI x2, aI x3, aI x4, aI x5, aI r_7, aI x7, aU]) dX8_part_143 (Nat.le_of_ble_eq_true rfl) rfl ?_
  obtain ⟨x_9, ex_10, h⟩ := lett_some h
  refine T_iinc (L' := [aR (some 0), aU, aI x2, aI x3, aI x4, aI x5, aI r_7, aI x_9, aU]) dX8_part_145 rfl (ic_inc ic_1 ex_10) (Nat.le_of_ble_eq_true rfl) rfl ?_
  refine T_goto (tgt := 48) dX8_part_148 (by decide) ?_
  obtain rfl := sm1 h
  exact hI _ _ _ _ rfl
set_option maxRecDepth 100000 in
set_option maxHeartbeats 4000000 in
theorem j_X8_part_J131 (lw : Nat → Option Nat) (tl : Option Nat) (tt : Option Nat) (M : Mem) (x2 : Int32) (x5 : Int32) (x6 : Int32) (x7 : Int32) (x8 : Int32) {Po : Po_} (x : (Int32 × Int32 × Int32 × Int32) ⊕ (Int32 × Int32)) (h : X8_part_J131 M x2 x5 x6 x7 x8 = some x) (hI : ∀ (ix3 : Int32) (ix4 : Int32) (ix6 : Int32) (ix7 : Int32), x = .inl (ix3, ix4, ix6, ix7) → T RX8 cX8_part 9 (some .int) 0 4 0 0 false Po 48 [aR (some 0), aU, aI x2, aI ix3, aI ix4, aI x5, aI ix6, aI ix7, aU] [] LAYC (rfs lw tl tt) M 0 0) (hE0 : ∀ (e3 : Int32) (e4 : Int32), x = .inr (e3, e4) → T RX8 cX8_part 9 (some .int) 0 4 0 0 false Po 151 [aR (some 0), aU, aI x2, aI e3, aI e4, aI x5, aU, aU, aU] [] LAYC (rfs lw tl tt) M 0 0) : T RX8 cX8_part 9 (some .int) 0 4 0 0 false Po 131 [aR (some 0), aU, aI x2, aU, aU, aI x5, aI x6, aI x7, aI x8] [] LAYC (rfs lw tl tt) M 0 0 := by
  unfold X8_part_J131 at h
  refine T_iload dX8_part_131 rfl ?_
  refine T_istore_n (i := 3) (L' := [aR (some 0), aU, aI x2, aI x8, aU, aI x5, aI x6, aI x7, aI x8]) dX8_part_133 rfl (Nat.le_of_ble_eq_true rfl) rfl ?_
  refine T_iload dX8_part_134 rfl ?_
  refine T_istore (i := 4) (L' := [aR (some 0), aU, aI x2, aI x8, aI x6, aI x5, aI x6, aI x7, aI x8]) dX8_part_136 (Nat.le_of_ble_eq_true rfl) rfl ?_
  refine T_mask [true, true, true, true, true, true, true, true, false] rfl ?_
  exact j_X8_part_J138  lw tl tt M x2 x8 x6 x5 x6 x7  _ h hI hE0
set_option maxRecDepth 100000 in
set_option maxHeartbeats 4000000 in
theorem s_X8_part_L48 (lw : Nat → Option Nat) (tl : Option Nat) (tt : Option Nat) (M : Mem) (x2 : Int32) (x5 : Int32) (x3 : Int32) (x4 : Int32) (x6 : Int32) (x7 : Int32) {Po : Po_} (x : (Int32 × Int32 × Int32 × Int32) ⊕ (Int32 × Int32)) (h : X8_part_L48 M x2 x5 (x3, x4, x6, x7) = some x) (hI : ∀ (ix3 : Int32) (ix4 : Int32) (ix6 : Int32) (ix7 : Int32), x = .inl (ix3, ix4, ix6, ix7) → T RX8 cX8_part 9 (some .int) 0 4 0 0 false Po 48 [aR (some 0), aU, aI x2, aI ix3, aI ix4, aI x5, aI ix6, aI ix7, aU] [] LAYC (rfs lw tl tt) M 0 0) (hE0 : ∀ (e3 : Int32) (e4 : Int32), x = .inr (e3, e4) → T RX8 cX8_part 9 (some .int) 0 4 0 0 false Po 151 [aR (some 0), aU, aI x2, aI e3, aI e4, aI x5, aU, aU, aU] [] LAYC (rfs lw tl tt) M 0 0) : T RX8 cX8_part 9 (some .int) 0 4 0 0 false Po 48 [aR (some 0), aU, aI x2, aI x3, aI x4, aI x5, aI x6, aI x7, aU] [] LAYC (rfs lw tl tt) M 0 0 := by
  unfold X8_part_L48 at h
  simp only at h
  refine T_iload dX8_part_48 rfl ?_
  refine T_sipush dX8_part_50 sp_1820 ?_
  refine T_icmp_ge (tgt := 151) dX8_part_53 (by decide) (fun hc => ?_) (fun hc => ?_)
  · have h := it_pos hc h
    obtain rfl := sm1 h
    refine T_mask [true, true, true, true, true, true, false, false, true] rfl ?_
    exact hE0 _ _ rfl
  · have h := it_neg hc h
    refine T_iload dX8_part_56 rfl ?_
    refine T_iconst dX8_part_58 ic_1 ?_
    refine T_aload_n dX8_part_59 rfl ?_
    refine T_getR dX8_part_60 clOK_X8 fl_X8_28 lyC_0 rfl rfl ?_
    refine T_getI dX8_part_63 clOK_X2 fl_X8_164 lyC_7 rfl ?_
    refine T_ishl dX8_part_66 ?_
    refine T_icmp_ge (tgt := 151) dX8_part_67 (by decide) (fun hc => ?_) (fun hc => ?_)
    · have h := it_pos hc h
      obtain rfl := sm1 h
      refine T_mask [true, true, true, true, true, true, false, false, true] rfl ?_
      exact hE0 _ _ rfl
    · have h := it_neg hc h
      refine T_iload dX8_part_70 rfl ?_
      refine T_iload_n dX8_part_72 rfl ?_
      refine T_iconst dX8_part_73 ic_m1 ?_
      refine T_ixor dX8_part_74 ?_
      refine T_iand dX8_part_75 ?_
      refine T_if_ne (tgt := 138) dX8_part_76 (by decide) (fun hc => ?_) (fun hc => ?_)
      · have h := it_neg hc h
        exact j_X8_part_J138  lw tl tt M x2 x3 x4 x5 x6 x7  _ h hI hE0
      · have h := it_pos hc h
        refine T_aload_n dX8_part_79 rfl ?_
        refine T_getR dX8_part_80 clOK_X8 fl_X8_28 lyC_0 rfl rfl ?_
        refine T_iload_n dX8_part_83 rfl ?_
        refine T_iload dX8_part_84 rfl ?_
        refine T_iconst dX8_part_86 ic_m1 ?_
        refine T_ixor dX8_part_87 ?_
        refine T_iand dX8_part_88 ?_
        obtain ⟨r_11, hc_12, h⟩ := bd1_some h
        refine T_cvi (as := [vI (x2 &&& (x6 ^^^ (-1)))]) dX8_part_89 cw_X2_isParted ml_X8_280 mi_X2_isParted se_X2_isParted lyC_7 rfl (by decide) rfl (Nat.le_of_ble_eq_true rfl) (Nat.le_of_ble_eq_true rfl) (m_X2_isParted lw tl tt M (x2 &&& (x6 ^^^ (-1)))  _ hc_12) ?_
        refine T_if_eq (tgt := 138) dX8_part_92 (by decide) (fun hc => ?_) (fun hc => ?_)
        · have h := it_pos hc h
          exact j_X8_part_J138  lw tl tt M x2 x3 x4 x5 x6 x7  _ h hI hE0
        · have h := it_neg hc h
          refine T_aload_n dX8_part_95 rfl ?_
          refine T_getR dX8_part_96 clOK_X8 fl_X8_37 lyC_0 rfl rfl ?_
          refine T_iload dX8_part_99 rfl ?_
          obtain ⟨r_13, hc_14, h⟩ := bd1_some h
          refine T_cvi (as := [vI x6]) dX8_part_101 cw_X1_volumeOf ml_X8_283 mi_X1_volumeOf se_X1_volumeOf lyC_9 rfl (by decide) rfl (Nat.le_of_ble_eq_true rfl) (Nat.le_of_ble_eq_true rfl) (m_X1_volumeOf lw tl tt M 9 x6 rfl _ hc_14) ?_
          refine T_istore (i := 8) (L' := [aR (some 0), aU, aI x2, aI x3, aI x4, aI x5, aI x6, aI x7, aI r_13]) dX8_part_104 (Nat.le_of_ble_eq_true rfl) rfl ?_
          refine T_iload_n dX8_part_106 rfl ?_
          refine T_bipush dX8_part_107 bp_m9 ?_
          refine T_icmp_eq (tgt := 131) dX8_part_109 (by decide) (fun hc => ?_) (fun hc => ?_)
          · have h := it_pos hc h
            refine T_mask [true, true, true, false, false, true, true, true, true] rfl ?_
            exact j_X8_part_J131  lw tl tt M x2 x5 x6 x7 r_13  _ h hI hE0
          · have h := it_neg hc h
            refine T_iload dX8_part_112 rfl ?_
            refine T_iload_n dX8_part_114 rfl ?_
            refine T_icmp_lt (tgt := 131) dX8_part_115 (by decide) (fun hc => ?_) (fun hc => ?_)
            · have h := it_pos hc h
              refine T_mask [true, true, true, false, false, true, true, true, true] rfl ?_
              exact j_X8_part_J131  lw tl tt M x2 x5 x6 x7 r_13  _ h hI hE0
            · have h := it_neg hc h
              refine T_iload dX8_part_118 rfl ?_
              refine T_iload_n dX8_part_120 rfl ?_
              refine T_icmp_ne (tgt := 138) dX8_part_121 (by decide) (fun hc => ?_) (fun hc => ?_)
              · have h := it_neg hc h
                refine T_mask [true, true, true, true, true, true, true, true, false] rfl ?_
                exact j_X8_part_J138  lw tl tt M x2 x3 x4 x5 x6 x7  _ h hI hE0
              · have h := it_pos hc h
                refine T_iload dX8_part_124 rfl ?_
                refine T_iload dX8_part_126 rfl ?_
                refine T_icmp_ge (tgt := 138) dX8_part_128 (by decide) (fun hc => ?_) (fun hc => ?_)
                · have h := it_pos hc h
                  refine T_mask [true, true, true, true, true, true, true, true, false] rfl ?_
                  exact j_X8_part_J138  lw tl tt M x2 x3 x4 x5 x6 x7  _ h hI hE0
                · have h := it_neg hc h
                  refine T_mask [true, true, true, false, false, true, true, true, true] rfl ?_
                  exact j_X8_part_J131  lw tl tt M x2 x5 x6 x7 r_13  _ h hI hE0
set_option maxRecDepth 100000 in
set_option maxHeartbeats 4000000 in
theorem l_X8_part_L48 (lw : Nat → Option Nat) (tl : Option Nat) (tt : Option Nat) (M : Mem) (x2 : Int32) (x5 : Int32) {Po : Po_} (e3 : Int32) (e4 : Int32) : ∀ (k : Nat) (x3 : Int32) (x4 : Int32) (x6 : Int32) (x7 : Int32), loop (X8_part_L48 M x2 x5) k (x3, x4, x6, x7) = some (e3, e4) → (T RX8 cX8_part 9 (some .int) 0 4 0 0 false Po 151 [aR (some 0), aU, aI x2, aI e3, aI e4, aI x5, aU, aU, aU] [] LAYC (rfs lw tl tt) M 0 0) → T RX8 cX8_part 9 (some .int) 0 4 0 0 false Po 48 [aR (some 0), aU, aI x2, aI x3, aI x4, aI x5, aI x6, aI x7, aU] [] LAYC (rfs lw tl tt) M 0 0 := by
  intro k
  induction k with
  | zero => intro x3 x4 x6 x7 h; cases h
  | succ k ih =>
    intro x3 x4 x6 x7 h hE
    obtain ⟨x, hx, hx1, hx2⟩ := loop_succ h
    exact s_X8_part_L48  lw tl tt M x2 x5  x3 x4 x6 x7 x hx (fun q0 q1 q2 q3 e => ih q0 q1 q2 q3 (hx1 _ e) hE) (fun q0 q1 e => by cases hx2 _ e; exact hE)
set_option maxRecDepth 100000 in
set_option maxHeartbeats 4000000 in
theorem s_X8_part_L31 (lw : Nat → Option Nat) (tl : Option Nat) (tt : Option Nat) (M : Mem) (x2 : Int32) (x3 : Int32) (x4 : Int32) (x5 : Int32) {Po : Po_} (x : (Int32 × Int32 × Int32) ⊕ (Int32 × Int32)) (h : X8_part_L31 M x2 (x3, x4, x5) = some x) (hI : ∀ (ix3 : Int32) (ix4 : Int32) (ix5 : Int32), x = .inl (ix3, ix4, ix5) → T RX8 cX8_part 9 (some .int) 0 4 0 0 false Po 31 [aR (some 0), aU, aI x2, aI ix3, aI ix4, aI ix5, aU, aU, aU] [] LAYC (rfs lw tl tt) M 0 0) (hE0 : ∀ (e3 : Int32) (e4 : Int32), x = .inr (e3, e4) → T RX8 cX8_part 9 (some .int) 0 4 0 0 false Po 157 [aR (some 0), aU, aU, aI e3, aI e4, aU, aU, aU, aU] [] LAYC (rfs lw tl tt) M 0 0) : T RX8 cX8_part 9 (some .int) 0 4 0 0 false Po 31 [aR (some 0), aU, aI x2, aI x3, aI x4, aI x5, aU, aU, aU] [] LAYC (rfs lw tl tt) M 0 0 := by
  unfold X8_part_L31 at h
  simp only at h
  refine T_iload dX8_part_31 rfl ?_
  refine T_iconst dX8_part_33 ic_3 ?_
  refine T_icmp_gt (tgt := 157) dX8_part_34 (by decide) (fun hc => ?_) (fun hc => ?_)
  · have h := it_pos hc h
    obtain rfl := sm1 h
    refine T_mask [true, true, false, true, true, false, true, true, true] rfl ?_
    exact hE0 _ _ rfl
  · have h := it_neg hc h
    refine T_iconst dX8_part_37 ic_1 ?_
    refine T_iload dX8_part_38 rfl ?_
    refine T_ishl dX8_part_40 ?_
    refine T_iconst dX8_part_41 ic_1 ?_
    refine T_isub dX8_part_42 ?_
    obtain ⟨x_5, ex_6, h⟩ := lett_some h
    refine T_topI ex_6 ?_
    refine T_istore (i := 6) (L' := [aR (some 0), aU, aI x2, aI x3, aI x4, aI x5, aI x_5, aU, aU]) dX8_part_43 (Nat.le_of_ble_eq_true rfl) rfl ?_
    refine T_iconst dX8_part_45 ic_0 ?_
    refine T_istore (i := 7) (L' := [aR (some 0), aU, aI x2, aI x3, aI x4, aI x5, aI x_5, aI 0, aU]) dX8_part_46 (Nat.le_of_ble_eq_true rfl) rfl ?_
    obtain ⟨x_15, x_16, hl, h⟩ := bd2_some h
    refine l_X8_part_L48  lw tl tt M x2 x5  _ _ FU x3 x4 x_5 0 hl ?_
    obtain ⟨x_17, ex_18, h⟩ := lett_some h
    refine T_iinc (L' := [aR (some 0), aU, aI x2, aI x_15, aI x_16, aI x_17, aU, aU, aU]) dX8_part_151 rfl (ic_inc ic_1 ex_18) (Nat.le_of_ble_eq_true rfl) rfl ?_
    refine T_goto (tgt := 31) dX8_part_154 (by decide) ?_
    obtain rfl := sm1 h
    exact hI _ _ _ rfl
set_option maxRecDepth 100000 in
set_option maxHeartbeats 4000000 in
theorem l_X8_part_L31 (lw : Nat → Option Nat) (tl : Option Nat) (tt : Option Nat) (M : Mem) (x2 : Int32) {Po : Po_} (e3 : Int32) (e4 : Int32) : ∀ (k : Nat) (x3 : Int32) (x4 : Int32) (x5 : Int32), loop (X8_part_L31 M x2) k (x3, x4, x5) = some (e3, e4) → (T RX8 cX8_part 9 (some .int) 0 4 0 0 false Po 157 [aR (some 0), aU, aU, aI e3, aI e4, aU, aU, aU, aU] [] LAYC (rfs lw tl tt) M 0 0) → T RX8 cX8_part 9 (some .int) 0 4 0 0 false Po 31 [aR (some 0), aU, aI x2, aI x3, aI x4, aI x5, aU, aU, aU] [] LAYC (rfs lw tl tt) M 0 0 := by
  intro k
  induction k with
  | zero => intro x3 x4 x5 h; cases h
  | succ k ih =>
    intro x3 x4 x5 h hE
    obtain ⟨x, hx, hx1, hx2⟩ := loop_succ h
    exact s_X8_part_L31  lw tl tt M x2  x3 x4 x5 x hx (fun q0 q1 q2 e => ih q0 q1 q2 (hx1 _ e) hE) (fun q0 q1 e => by cases hx2 _ e; exact hE)
set_option maxRecDepth 100000 in
set_option maxHeartbeats 4000000 in
theorem m_X8_part (lw : Nat → Option Nat) (tl : Option Nat) (tt : Option Nat) (M : Mem) (x1 : Int32) (r : Int32) (M' : Mem) (h : F_X8_part M x1 = some (r, M')) : Cal yX8_part cX8_part 9 (some .int) 0 4 0 0 false [vR (some 0), vI x1] LAYC (rfs lw tl tt) M (eqp (vI r) LAYC (rfs lw tl tt) M') := by
  refine Cal.of (by decide +kernel) (Nat.le_of_ble_eq_true rfl) (fun h => by cases h) ?_
  unfold F_X8_part at h
  show T RX8 cX8_part 9 (some .int) 0 4 0 0 false (eqp (vI r) LAYC (rfs lw tl tt) M') 0 [aR (some 0), aI x1, aU, aU, aU, aU, aU, aU, aU] [] LAYC (rfs lw tl tt) M 0 0
  refine T_aload_n dX8_part_0 rfl ?_
  refine T_getR dX8_part_1 clOK_X8 fl_X8_37 lyC_0 rfl rfl ?_
  refine T_iload_n dX8_part_4 rfl ?_
  obtain ⟨r_1, hc_2, h⟩ := bd1_some h
  refine T_cvi (as := [vI x1]) dX8_part_5 cw_X1_has ml_X8_189 mi_X1_has se_X1_has lyC_9 rfl (by decide) rfl (Nat.le_of_ble_eq_true rfl) (Nat.le_of_ble_eq_true rfl) (m_X1_has lw tl tt M 9 x1 rfl _ hc_2) ?_
  refine T_if_ne (tgt := 13) dX8_part_8 (by decide) (fun hc => ?_) (fun hc => ?_)
  · have h := it_neg hc h
    refine T_aload_n dX8_part_13 rfl ?_
    refine T_getR dX8_part_14 clOK_X8 fl_X8_37 lyC_0 rfl rfl ?_
    refine T_iload_n dX8_part_17 rfl ?_
    obtain ⟨r_3, hc_4, h⟩ := bd1_some h
    refine T_cvi (as := [vI x1]) dX8_part_18 cw_X1_bitsOf ml_X8_258 mi_X1_bitsOf se_X1_bitsOf lyC_9 rfl (by decide) rfl (Nat.le_of_ble_eq_true rfl) (Nat.le_of_ble_eq_true rfl) (m_X1_bitsOf lw tl tt M 9 x1 rfl _ hc_4) ?_
    refine T_istore_n (i := 2) (L' := [aR (some 0), aI x1, aI r_3, aU, aU, aU, aU, aU, aU]) dX8_part_21 rfl (Nat.le_of_ble_eq_true rfl) rfl ?_
    refine T_bipush dX8_part_22 bp_m9 ?_
    refine T_istore_n (i := 3) (L' := [aR (some 0), aI x1, aI r_3, aI (-9), aU, aU, aU, aU, aU]) dX8_part_24 rfl (Nat.le_of_ble_eq_true rfl) rfl ?_
    refine T_iconst dX8_part_25 ic_0 ?_
    refine T_istore (i := 4) (L' := [aR (some 0), aI x1, aI r_3, aI (-9), aI 0, aU, aU, aU, aU]) dX8_part_26 (Nat.le_of_ble_eq_true rfl) rfl ?_
    refine T_iconst dX8_part_28 ic_1 ?_
    refine T_istore (i := 5) (L' := [aR (some 0), aI x1, aI r_3, aI (-9), aI 0, aI 1, aU, aU, aU]) dX8_part_29 (Nat.le_of_ble_eq_true rfl) rfl ?_
    obtain ⟨x_19, x_20, hl, h⟩ := bd2_some h
    refine T_mask [true, false, true, true, true, true, true, true, true] rfl ?_
    refine l_X8_part_L31  lw tl tt M r_3  _ _ FU (-9) 0 1 hl ?_
    refine T_iload_n dX8_part_157 rfl ?_
    refine T_bipush dX8_part_158 bp_m9 ?_
    refine T_icmp_eq (tgt := 169) dX8_part_160 (by decide) (fun hc => ?_) (fun hc => ?_)
    · have h := it_pos hc h
      refine T_iload_n dX8_part_169 rfl ?_
      obtain ⟨rfl, rfl⟩ := sm2 h
      exact T_iret dX8_part_170 ⟨rfl, rfl, rfl, rfl⟩
    · have h := it_neg hc h
      refine T_aload_n dX8_part_163 rfl ?_
      refine T_iload dX8_part_164 rfl ?_
      obtain ⟨M_21, eM_22, h⟩ := lett_some h
      refine T_putI dX8_part_166 clOK_X8 fl_X8_107 (Or.inl rfl) lyC_0 rfl rfl eM_22 ?_
      refine T_iload_n dX8_part_169 rfl ?_
      obtain ⟨rfl, rfl⟩ := sm2 h
      exact T_iret dX8_part_170 ⟨rfl, rfl, rfl, rfl⟩
  · have h := it_pos hc h
    refine T_iconst dX8_part_11 ic_m1 ?_
    obtain ⟨rfl, rfl⟩ := sm2 h
    exact T_iret dX8_part_12 ⟨rfl, rfl, rfl, rfl⟩
def F_X8_isPerson (x0 : Int32) : Option (Int32) :=
 if x0 < 0 then some 0
 else if (nI 4) ≤ x0 then some 0
 else some 1
set_option maxRecDepth 100000 in
set_option maxHeartbeats 4000000 in
theorem m_X8_isPerson (lw : Nat → Option Nat) (tl : Option Nat) (tt : Option Nat) (M : Mem) (x0 : Int32) (r : Int32) (h : F_X8_isPerson x0 = some r) : Cal yX8_isPerson cX8_isPerson 1 (some .boolean) 0 1 0 0 false [vI x0] LAYC (rfs lw tl tt) M (eqp (vI r) LAYC (rfs lw tl tt) M) := by
  refine Cal.of (by decide +kernel) (Nat.le_of_ble_eq_true rfl) (fun h => by cases h) ?_
  unfold F_X8_isPerson at h
  show T RX8 cX8_isPerson 1 (some .boolean) 0 1 0 0 false (eqp (vI r) LAYC (rfs lw tl tt) M) 0 [aI x0] [] LAYC (rfs lw tl tt) M 0 0
  refine T_iload_n dX8_isPerson_0 rfl ?_
  refine T_if_lt (tgt := 13) dX8_isPerson_1 (by decide) (fun hc => ?_) (fun hc => ?_)
  · have h := it_pos hc h
    refine T_iconst dX8_isPerson_13 ic_0 ?_
    obtain rfl := sm1 h
    exact T_zret dX8_isPerson_14 (Or.inl rfl) ⟨rfl, rfl, rfl, rfl⟩
  · have h := it_neg hc h
    refine T_iload_n dX8_isPerson_4 rfl ?_
    refine T_iconst dX8_isPerson_5 ic_4 ?_
    refine T_icmp_ge (tgt := 13) dX8_isPerson_6 (by decide) (fun hc => ?_) (fun hc => ?_)
    · have h := it_pos hc h
      refine T_iconst dX8_isPerson_13 ic_0 ?_
      obtain rfl := sm1 h
      exact T_zret dX8_isPerson_14 (Or.inl rfl) ⟨rfl, rfl, rfl, rfl⟩
    · have h := it_neg hc h
      refine T_iconst dX8_isPerson_9 ic_1 ?_
      refine T_goto (tgt := 14) dX8_isPerson_10 (by decide) ?_
      obtain rfl := sm1 h
      exact T_zret dX8_isPerson_14 (Or.inr rfl) ⟨rfl, rfl, rfl, rfl⟩
def X8_steal_L117 (lw : Nat → Option Nat) (tl : Option Nat) (tt : Option Nat) (p8 : Nat) (x9 : Int32) : Int32 × Mem → Option ((Int32 × Mem) ⊕ (Int32 × Option Nat × Option Nat × Mem))
  | (x10, M) =>
    if x9 ≤ x10 then some (.inr (x9, tl, tt, M))
    else bd1 (F_X6_moveAt M x10) fun r_26 => bd1 (F_X5_set M p8 x10 r_26) fun M_28 => lett (x10 + 1) fun x_30 => some (.inl (x_30, M_28))
def F_X8_steal (lw : Nat → Option Nat) (tl : Option Nat) (tt : Option Nat) (M : Mem) (x1 : Int32) (x2 : Int32) (x3 : Int32) (x4 : Int32) (x5 : Int32) : Option (Int32 × Option Nat × Option Nat × Mem) :=
 bd1 (F_X8_lawOf lw M x1) fun o_1 => bd1 (F_X8_imageOf x2) fun o_3 => bd1 (F_X8_rowOf x5) fun o_5 => oc o_1 (some ((-1), tl, tt, M))
 (fun q_7 => oc o_3 (some ((-1), tl, tt, M))
 (fun q_8 => oc o_5 (some ((-1), tl, tt, M))
 (fun q_9 => bd1 (F_X8_isPerson x4) fun r_10 => if r_10 = 0 then some ((-1), tl, tt, M)
 else chk (isX1 q_8 = true) (if (gI M q_8 7) = 0 then bd2 (F_X8_found M 1) fun r_32 M_33 => some (r_32, tl, tt, M_33)
 else bd1 (F_X1_has M q_8 x3) fun r_13 => if r_13 = 0 then some ((-1), tl, tt, M)
 else chk (isX3 q_7 = true) (bd3 (F_X6_want tl tt M q_7 q_8 x3 x4) fun tl_16 tt_17 M_18 => bd2 (F_X6_fewestMoves tl_16 tt_17 M_18 9) fun r_20 M_21 => if r_20 = (-9) then some (r_20, tl_16, tt_17, M_21)
 else chk (isX5 q_9 = true) (bd1 (F_X5_renew M_21 q_9 r_20 0) fun M_24 => loop (X8_steal_L117 lw tl_16 tt_17 q_9 r_20) FU (0, M_24)))))))
set_option maxRecDepth 100000 in
set_option maxHeartbeats 4000000 in
theorem s_X8_steal_L117 (lw : Nat → Option Nat) (tl : Option Nat) (tt : Option Nat) (p8 : Nat) (x9 : Int32) (h8 : isX5 p8 = true) (x10 : Int32) (M : Mem) {Po : Po_} (x : (Int32 × Mem) ⊕ (Int32 × Option Nat × Option Nat × Mem)) (h : X8_steal_L117 lw tl tt p8 x9 (x10, M) = some x) (hI : ∀ (ix10 : Int32) (iM : Mem), x = .inl (ix10, iM) → T RX8 cX8_steal 11 (some .int) 0 15 0 0 false Po 117 [aR (some 0), aU, aU, aU, aU, aU, aU, aU, aR (some p8), aI x9, aI ix10] [] LAYC (rfs lw tl tt) iM 0 0) (hE0 : ∀ (er : Int32) (etl : Option Nat) (ett : Option Nat) (eM : Mem), x = .inr (er, etl, ett, eM) → Po (vI er) LAYC (rfs lw etl ett) eM) : T RX8 cX8_steal 11 (some .int) 0 15 0 0 false Po 117 [aR (some 0), aU, aU, aU, aU, aU, aU, aU, aR (some p8), aI x9, aI x10] [] LAYC (rfs lw tl tt) M 0 0 := by
  unfold X8_steal_L117 at h
  simp only at h
  refine T_iload dX8_steal_117 rfl ?_
  refine T_iload dX8_steal_119 rfl ?_
  refine T_icmp_ge (tgt := 146) dX8_steal_121 (by decide) (fun hc => ?_) (fun hc => ?_)
  · have h := it_pos hc h
    refine T_iload dX8_steal_146 rfl ?_
    obtain rfl := sm1 h
    exact T_iret dX8_steal_148 (hE0 _ _ _ _ rfl)
  · have h := it_neg hc h
    refine T_aload dX8_steal_124 rfl ?_
    refine T_iload dX8_steal_126 rfl ?_
    refine T_aload_n dX8_steal_128 rfl ?_
    refine T_getR dX8_steal_129 clOK_X8 fl_X8_68 lyC_0 rfl rfl ?_
    refine T_iload dX8_steal_132 rfl ?_
    obtain ⟨r_26, hc_27, h⟩ := bd1_some h
    refine T_cvi (as := [vI x10]) dX8_steal_134 cw_X6_moveAt ml_X8_300 mi_X6_moveAt se_X6_moveAt lyC_19 rfl (by decide) rfl (Nat.le_of_ble_eq_true rfl) (Nat.le_of_ble_eq_true rfl) (m_X6_moveAt lw tl tt M x10  _ hc_27) ?_
    obtain ⟨M_28, hc_29, h⟩ := bd1_some h
    refine T_cvv (as := [vI x10, vI r_26]) dX8_steal_137 cw_X5_set ml_X8_111 mi_X5_set se_X5_set (lyX5 h8) rfl (by decide) rfl (Nat.le_of_ble_eq_true rfl) (Nat.le_of_ble_eq_true rfl) (m_X5_set lw tl tt M p8 x10 r_26 h8 _ hc_29) ?_
    obtain ⟨x_30, ex_31, h⟩ := lett_some h
    refine T_iinc (L' := [aR (some 0), aU, aU, aU, aU, aU, aU, aU, aR (some p8), aI x9, aI x_30]) dX8_steal_140 rfl (ic_inc ic_1 ex_31) (Nat.le_of_ble_eq_true rfl) rfl ?_
    refine T_goto (tgt := 117) dX8_steal_143 (by decide) ?_
    obtain rfl := sm1 h
    exact hI _ _ rfl
set_option maxRecDepth 100000 in
set_option maxHeartbeats 4000000 in
theorem l_X8_steal_L117 (lw : Nat → Option Nat) (tl : Option Nat) (tt : Option Nat) (p8 : Nat) (x9 : Int32) (h8 : isX5 p8 = true) {Po : Po_} (er : Int32) (etl : Option Nat) (ett : Option Nat) (eM : Mem) : ∀ (k : Nat) (x10 : Int32) (M : Mem), loop (X8_steal_L117 lw tl tt p8 x9) k (x10, M) = some (er, etl, ett, eM) → (Po (vI er) LAYC (rfs lw etl ett) eM) → T RX8 cX8_steal 11 (some .int) 0 15 0 0 false Po 117 [aR (some 0), aU, aU, aU, aU, aU, aU, aU, aR (some p8), aI x9, aI x10] [] LAYC (rfs lw tl tt) M 0 0 := by
  intro k
  induction k with
  | zero => intro x10 M h; cases h
  | succ k ih =>
    intro x10 M h hE
    obtain ⟨x, hx, hx1, hx2⟩ := loop_succ h
    exact s_X8_steal_L117  lw tl tt p8 x9 h8 x10 M x hx (fun q0 q1 e => ih q0 q1 (hx1 _ e) hE) (fun q0 q1 q2 q3 e => by cases hx2 _ e; exact hE)
set_option maxRecDepth 100000 in
set_option maxHeartbeats 4000000 in
theorem m_X8_steal (lw : Nat → Option Nat) (tl : Option Nat) (tt : Option Nat) (M : Mem) (x1 : Int32) (x2 : Int32) (x3 : Int32) (x4 : Int32) (x5 : Int32) (r : Int32) (tl' : Option Nat) (tt' : Option Nat) (M' : Mem) (h : F_X8_steal lw tl tt M x1 x2 x3 x4 x5 = some (r, tl', tt', M')) : Cal yX8_steal cX8_steal 11 (some .int) 0 15 0 0 false [vR (some 0), vI x1, vI x2, vI x3, vI x4, vI x5] LAYC (rfs lw tl tt) M (eqp (vI r) LAYC (rfs lw tl' tt') M') := by
  refine Cal.of (by decide +kernel) (Nat.le_of_ble_eq_true rfl) (fun h => by cases h) ?_
  unfold F_X8_steal at h
  show T RX8 cX8_steal 11 (some .int) 0 15 0 0 false (eqp (vI r) LAYC (rfs lw tl' tt') M') 0 [aR (some 0), aI x1, aI x2, aI x3, aI x4, aI x5, aU, aU, aU, aU, aU] [] LAYC (rfs lw tl tt) M 0 0
  refine T_aload_n dX8_steal_0 rfl ?_
  refine T_iload_n dX8_steal_1 rfl ?_
  obtain ⟨o_1, hc_2, h⟩ := bd1_some h
  refine T_cvq (as := [vI x1]) dX8_steal_2 cw_X8_lawOf ml_X8_175 mi_X8_lawOf se_X8_lawOf lyC_0 rfl (by decide) rfl (Nat.le_of_ble_eq_true rfl) (Nat.le_of_ble_eq_true rfl) (m_X8_lawOf tl tt lw M x1  _ hc_2) ?_
  refine T_astore (i := 6) (L' := [aR (some 0), aI x1, aI x2, aI x3, aI x4, aI x5, aR o_1, aU, aU, aU, aU]) dX8_steal_5 (Nat.le_of_ble_eq_true rfl) rfl ?_
  refine T_aload_n dX8_steal_7 rfl ?_
  refine T_iload_n dX8_steal_8 rfl ?_
  obtain ⟨o_3, hc_4, h⟩ := bd1_some h
  refine T_cvq (as := [vI x2]) dX8_steal_9 cw_X8_imageOf ml_X8_225 mi_X8_imageOf se_X8_imageOf lyC_0 rfl (by decide) rfl (Nat.le_of_ble_eq_true rfl) (Nat.le_of_ble_eq_true rfl) (m_X8_imageOf lw tl tt M x2  _ hc_4) ?_
  refine T_astore (i := 7) (L' := [aR (some 0), aI x1, aI x2, aI x3, aI x4, aI x5, aR o_1, aR o_3, aU, aU, aU]) dX8_steal_12 (Nat.le_of_ble_eq_true rfl) rfl ?_
  refine T_aload_n dX8_steal_14 rfl ?_
  refine T_iload dX8_steal_15 rfl ?_
  obtain ⟨o_5, hc_6, h⟩ := bd1_some h
  refine T_cvq (as := [vI x5]) dX8_steal_17 cw_X8_rowOf ml_X8_88 mi_X8_rowOf se_X8_rowOf lyC_0 rfl (by decide) rfl (Nat.le_of_ble_eq_true rfl) (Nat.le_of_ble_eq_true rfl) (m_X8_rowOf lw tl tt M x5  _ hc_6) ?_
  refine T_astore (i := 8) (L' := [aR (some 0), aI x1, aI x2, aI x3, aI x4, aI x5, aR o_1, aR o_3, aR o_5, aU, aU]) dX8_steal_20 (Nat.le_of_ble_eq_true rfl) rfl ?_
  refine T_aload dX8_steal_22 rfl ?_
  cases o_1 with
  | none =>
    have h := oc_none h
    refine T_ifnull0 (tgt := 45) dX8_steal_24 (by decide) ?_
    refine T_iconst dX8_steal_45 ic_m1 ?_
    obtain ⟨rfl, rfl, rfl, rfl⟩ := sm4 h
    exact T_iret dX8_steal_46 ⟨rfl, rfl, rfl, rfl⟩
  | some q_7 =>
    have h := oc_some h
    refine T_ifnull1 dX8_steal_24 ?_
    refine T_aload dX8_steal_27 rfl ?_
    cases o_3 with
    | none =>
      have h := oc_none h
      refine T_ifnull0 (tgt := 45) dX8_steal_29 (by decide) ?_
      refine T_iconst dX8_steal_45 ic_m1 ?_
      obtain ⟨rfl, rfl, rfl, rfl⟩ := sm4 h
      exact T_iret dX8_steal_46 ⟨rfl, rfl, rfl, rfl⟩
    | some q_8 =>
      have h := oc_some h
      refine T_ifnull1 dX8_steal_29 ?_
      refine T_aload dX8_steal_32 rfl ?_
      cases o_5 with
      | none =>
        have h := oc_none h
        refine T_ifnull0 (tgt := 45) dX8_steal_34 (by decide) ?_
        refine T_iconst dX8_steal_45 ic_m1 ?_
        obtain ⟨rfl, rfl, rfl, rfl⟩ := sm4 h
        exact T_iret dX8_steal_46 ⟨rfl, rfl, rfl, rfl⟩
      | some q_9 =>
        have h := oc_some h
        refine T_ifnull1 dX8_steal_34 ?_
        refine T_iload dX8_steal_37 rfl ?_
        obtain ⟨r_10, hc_11, h⟩ := bd1_some h
        refine T_csi (as := [vI x4]) dX8_steal_39 cw_X8_isPerson ml_X8_286 mt_X8_isPerson rfl (Nat.le_of_ble_eq_true rfl) (Nat.le_of_ble_eq_true rfl) (m_X8_isPerson lw tl tt M x4  _ hc_11) ?_
        refine T_if_ne (tgt := 47) dX8_steal_42 (by decide) (fun hc => ?_) (fun hc => ?_)
        · have h := it_neg hc h
          refine T_aload dX8_steal_47 rfl ?_
          obtain ⟨hf_12, h⟩ := chk_some h
          refine T_getZ dX8_steal_49 clOK_X1 fl_X8_210 (lyX1 hf_12) rfl ?_
          refine T_if_ne (tgt := 61) dX8_steal_52 (by decide) (fun hc => ?_) (fun hc => ?_)
          · have h := it_neg hc h
            refine T_aload dX8_steal_61 rfl ?_
            refine T_iload_n dX8_steal_63 rfl ?_
            obtain ⟨r_13, hc_14, h⟩ := bd1_some h
            refine T_cvi (as := [vI x3]) dX8_steal_64 cw_X1_has ml_X8_189 mi_X1_has se_X1_has (lyX1 hf_12) rfl (by decide) rfl (Nat.le_of_ble_eq_true rfl) (Nat.le_of_ble_eq_true rfl) (m_X1_has lw tl tt M q_8 x3 hf_12 _ hc_14) ?_
            refine T_if_ne (tgt := 72) dX8_steal_67 (by decide) (fun hc => ?_) (fun hc => ?_)
            · have h := it_neg hc h
              refine T_aload_n dX8_steal_72 rfl ?_
              refine T_getR dX8_steal_73 clOK_X8 fl_X8_68 lyC_0 rfl rfl ?_
              refine T_aload dX8_steal_76 rfl ?_
              refine T_aload dX8_steal_78 rfl ?_
              refine T_iload_n dX8_steal_80 rfl ?_
              refine T_iload dX8_steal_81 rfl ?_
              obtain ⟨hf_15, h⟩ := chk_some h
              obtain ⟨tl_16, tt_17, M_18, hc_19, h⟩ := bd3_some h
              refine T_cvv (as := [vR (some q_7), vR (some q_8), vI x3, vI x4]) dX8_steal_83 cw_X6_want ml_X8_289 mi_X6_want se_X6_want lyC_19 rfl (by decide) rfl (Nat.le_of_ble_eq_true rfl) (Nat.le_of_ble_eq_true rfl) (m_X6_want lw tl tt M q_7 q_8 x3 x4 hf_15 hf_12 _ _ _ hc_19) ?_
              refine T_aload_n dX8_steal_86 rfl ?_
              refine T_getR dX8_steal_87 clOK_X8 fl_X8_68 lyC_0 rfl rfl ?_
              refine T_aload_n dX8_steal_90 rfl ?_
              refine T_getR dX8_steal_91 clOK_X8 fl_X8_37 lyC_0 rfl rfl ?_
              obtain ⟨r_20, M_21, hc_22, h⟩ := bd2_some h
              refine T_cvi (as := [vR (some 9)]) dX8_steal_94 cw_X6_fewestMoves ml_X8_293 mi_X6_fewestMoves se_X6_fewestMoves lyC_19 rfl (by decide) rfl (Nat.le_of_ble_eq_true rfl) (Nat.le_of_ble_eq_true rfl) (m_X6_fewestMoves lw tl_16 tt_17 M_18 9 rfl _ _ hc_22) ?_
              refine T_istore (i := 9) (L' := [aR (some 0), aI x1, aI x2, aI x3, aI x4, aI x5, aR (some q_7), aR (some q_8), aR (some q_9), aI r_20, aU]) dX8_steal_97 (Nat.le_of_ble_eq_true rfl) rfl ?_
              refine T_iload dX8_steal_99 rfl ?_
              refine T_bipush dX8_steal_101 bp_m9 ?_
              refine T_icmp_eq (tgt := 146) dX8_steal_103 (by decide) (fun hc => ?_) (fun hc => ?_)
              · have h := it_pos hc h
                refine T_iload dX8_steal_146 rfl ?_
                obtain ⟨rfl, rfl, rfl, rfl⟩ := sm4 h
                exact T_iret dX8_steal_148 ⟨rfl, rfl, rfl, rfl⟩
              · have h := it_neg hc h
                refine T_aload dX8_steal_106 rfl ?_
                refine T_iload dX8_steal_108 rfl ?_
                refine T_iconst dX8_steal_110 ic_0 ?_
                obtain ⟨hf_23, h⟩ := chk_some h
                obtain ⟨M_24, hc_25, h⟩ := bd1_some h
                refine T_cvv (as := [vI r_20, vI 0]) dX8_steal_111 cw_X5_renew ml_X8_297 mi_X5_renew se_X5_renew (lyX5 hf_23) rfl (by decide) rfl (Nat.le_of_ble_eq_true rfl) (Nat.le_of_ble_eq_true rfl) (m_X5_renew lw tl_16 tt_17 M_21 q_9 r_20 0 hf_23 _ hc_25) ?_
                refine T_iconst dX8_steal_114 ic_0 ?_
                refine T_istore (i := 10) (L' := [aR (some 0), aI x1, aI x2, aI x3, aI x4, aI x5, aR (some q_7), aR (some q_8), aR (some q_9), aI r_20, aI 0]) dX8_steal_115 (Nat.le_of_ble_eq_true rfl) rfl ?_
                refine T_mask [true, false, false, false, false, false, false, false, true, true, true] rfl ?_
                exact l_X8_steal_L117  lw tl_16 tt_17 q_9 r_20 hf_23 _ _ _ _ FU 0 M_24 h ⟨rfl, rfl, rfl, rfl⟩
            · have h := it_pos hc h
              refine T_iconst dX8_steal_70 ic_m1 ?_
              obtain ⟨rfl, rfl, rfl, rfl⟩ := sm4 h
              exact T_iret dX8_steal_71 ⟨rfl, rfl, rfl, rfl⟩
          · have h := it_pos hc h
            refine T_aload_n dX8_steal_55 rfl ?_
            refine T_iconst dX8_steal_56 ic_1 ?_
            obtain ⟨r_32, M_33, hc_34, h⟩ := bd2_some h
            refine T_cvi (as := [vI 1]) dX8_steal_57 cw_X8_found ml_X8_100 mi_X8_found se_X8_found lyC_0 rfl (by decide) rfl (Nat.le_of_ble_eq_true rfl) (Nat.le_of_ble_eq_true rfl) (m_X8_found lw tl tt M 1  _ _ hc_34) ?_
            obtain ⟨rfl, rfl, rfl, rfl⟩ := sm4 h
            exact T_iret dX8_steal_60 ⟨rfl, rfl, rfl, rfl⟩
        · have h := it_pos hc h
          refine T_iconst dX8_steal_45 ic_m1 ?_
          obtain ⟨rfl, rfl, rfl, rfl⟩ := sm4 h
          exact T_iret dX8_steal_46 ⟨rfl, rfl, rfl, rfl⟩
def X8_commonDivisor_L9 : Int64 × Int64 × Int32 → Option ((Int64 × Int64 × Int32) ⊕ (Int64))
  | (x4, x6, x8) =>
    if (nI 100) ≤ x8 then some (.inr x4)
    else if (lg_cmp x6 0) = 0 then some (.inr x4)
    else chk (¬ x6 = 0) (lett (lrm x4 x6) fun x_2 => lett (x8 + 1) fun x_4 => some (.inl (x6, x_2, x_4)))
def F_X8_commonDivisor (x0 : Int64) (x2 : Int64) : Option (Int64) :=
 loop (X8_commonDivisor_L9 ) FU (x0, x2, 0)
set_option maxRecDepth 100000 in
set_option maxHeartbeats 4000000 in
theorem s_X8_commonDivisor_L9 (lw : Nat → Option Nat) (tl : Option Nat) (tt : Option Nat) (M : Mem) (x4 : Int64) (x6 : Int64) (x8 : Int32) {Po : Po_} (x : (Int64 × Int64 × Int32) ⊕ (Int64)) (h : X8_commonDivisor_L9  (x4, x6, x8) = some x) (hI : ∀ (ix4 : Int64) (ix6 : Int64) (ix8 : Int32), x = .inl (ix4, ix6, ix8) → T RX8 cX8_commonDivisor 11 (some .long) 1 1 0 0 false Po 9 [aU, aU, aU, aU, aJ ix4, aU, aJ ix6, aU, aI ix8, aU, aU] [] LAYC (rfs lw tl tt) M 0 0) (hE0 : ∀ (er : Int64), x = .inr er → Po (vJ er) LAYC (rfs lw tl tt) M) : T RX8 cX8_commonDivisor 11 (some .long) 1 1 0 0 false Po 9 [aU, aU, aU, aU, aJ x4, aU, aJ x6, aU, aI x8, aU, aU] [] LAYC (rfs lw tl tt) M 0 0 := by
  unfold X8_commonDivisor_L9 at h
  simp only at h
  refine T_iload dX8_commonDivisor_9 rfl ?_
  refine T_bipush dX8_commonDivisor_11 bp_100 ?_
  refine T_icmp_ge (tgt := 44) dX8_commonDivisor_13 (by decide) (fun hc => ?_) (fun hc => ?_)
  · have h := it_pos hc h
    refine T_lload dX8_commonDivisor_44 rfl ?_
    obtain rfl := sm1 h
    exact T_lret dX8_commonDivisor_46 (hE0 _ rfl)
  · have h := it_neg hc h
    refine T_lload dX8_commonDivisor_16 rfl ?_
    refine T_lconst dX8_commonDivisor_18 lc_0 ?_
    refine T_lcmp dX8_commonDivisor_19 ?_
    refine T_if_eq (tgt := 44) dX8_commonDivisor_20 (by decide) (fun hc => ?_) (fun hc => ?_)
    · have h := it_pos hc h
      refine T_lload dX8_commonDivisor_44 rfl ?_
      obtain rfl := sm1 h
      exact T_lret dX8_commonDivisor_46 (hE0 _ rfl)
    · have h := it_neg hc h
      refine T_lload dX8_commonDivisor_23 rfl ?_
      refine T_lload dX8_commonDivisor_25 rfl ?_
      obtain ⟨hz_1, h⟩ := chk_some h
      refine T_lrem dX8_commonDivisor_27 hz_1 ?_
      obtain ⟨x_2, ex_3, h⟩ := lett_some h
      refine T_topJ ex_3 ?_
      refine T_lstore (i := 9) (L' := [aU, aU, aU, aU, aJ x4, aU, aJ x6, aU, aI x8, aJ x_2, aU]) dX8_commonDivisor_28 (Nat.le_of_ble_eq_true rfl) rfl ?_
      refine T_lload dX8_commonDivisor_30 rfl ?_
      refine T_lstore (i := 4) (L' := [aU, aU, aU, aU, aJ x6, aU, aJ x6, aU, aI x8, aJ x_2, aU]) dX8_commonDivisor_32 (Nat.le_of_ble_eq_true rfl) rfl ?_
      refine T_lload dX8_commonDivisor_34 rfl ?_
      refine T_lstore (i := 6) (L' := [aU, aU, aU, aU, aJ x6, aU, aJ x_2, aU, aI x8, aJ x_2, aU]) dX8_commonDivisor_36 (Nat.le_of_ble_eq_true rfl) rfl ?_
      obtain ⟨x_4, ex_5, h⟩ := lett_some h
      refine T_iinc (L' := [aU, aU, aU, aU, aJ x6, aU, aJ x_2, aU, aI x_4, aJ x_2, aU]) dX8_commonDivisor_38 rfl (ic_inc ic_1 ex_5) (Nat.le_of_ble_eq_true rfl) rfl ?_
      refine T_goto (tgt := 9) dX8_commonDivisor_41 (by decide) ?_
      obtain rfl := sm1 h
      refine T_mask [true, true, true, true, true, true, true, true, true, false, true] rfl ?_
      exact hI _ _ _ rfl
set_option maxRecDepth 100000 in
set_option maxHeartbeats 4000000 in
theorem l_X8_commonDivisor_L9 (lw : Nat → Option Nat) (tl : Option Nat) (tt : Option Nat) (M : Mem) {Po : Po_} (er : Int64) : ∀ (k : Nat) (x4 : Int64) (x6 : Int64) (x8 : Int32), loop (X8_commonDivisor_L9 ) k (x4, x6, x8) = some er → (Po (vJ er) LAYC (rfs lw tl tt) M) → T RX8 cX8_commonDivisor 11 (some .long) 1 1 0 0 false Po 9 [aU, aU, aU, aU, aJ x4, aU, aJ x6, aU, aI x8, aU, aU] [] LAYC (rfs lw tl tt) M 0 0 := by
  intro k
  induction k with
  | zero => intro x4 x6 x8 h; cases h
  | succ k ih =>
    intro x4 x6 x8 h hE
    obtain ⟨x, hx, hx1, hx2⟩ := loop_succ h
    exact s_X8_commonDivisor_L9  lw tl tt M   x4 x6 x8 x hx (fun q0 q1 q2 e => ih q0 q1 q2 (hx1 _ e) hE) (fun q0 e => by cases hx2 _ e; exact hE)
set_option maxRecDepth 100000 in
set_option maxHeartbeats 4000000 in
theorem m_X8_commonDivisor (lw : Nat → Option Nat) (tl : Option Nat) (tt : Option Nat) (M : Mem) (x0 : Int64) (x2 : Int64) (r : Int64) (h : F_X8_commonDivisor x0 x2 = some r) : Cal yX8_commonDivisor cX8_commonDivisor 11 (some .long) 1 1 0 0 false [vJ x0, vJ x2] LAYC (rfs lw tl tt) M (eqp (vJ r) LAYC (rfs lw tl tt) M) := by
  refine Cal.of (by decide +kernel) (Nat.le_of_ble_eq_true rfl) (fun h => by cases h) ?_
  unfold F_X8_commonDivisor at h
  show T RX8 cX8_commonDivisor 11 (some .long) 1 1 0 0 false (eqp (vJ r) LAYC (rfs lw tl tt) M) 0 [aJ x0, aU, aJ x2, aU, aU, aU, aU, aU, aU, aU, aU] [] LAYC (rfs lw tl tt) M 0 0
  refine T_lload_n dX8_commonDivisor_0 rfl ?_
  refine T_lstore (i := 4) (L' := [aJ x0, aU, aJ x2, aU, aJ x0, aU, aU, aU, aU, aU, aU]) dX8_commonDivisor_1 (Nat.le_of_ble_eq_true rfl) rfl ?_
  refine T_lload_n dX8_commonDivisor_3 rfl ?_
  refine T_lstore (i := 6) (L' := [aJ x0, aU, aJ x2, aU, aJ x0, aU, aJ x2, aU, aU, aU, aU]) dX8_commonDivisor_4 (Nat.le_of_ble_eq_true rfl) rfl ?_
  refine T_iconst dX8_commonDivisor_6 ic_0 ?_
  refine T_istore (i := 8) (L' := [aJ x0, aU, aJ x2, aU, aJ x0, aU, aJ x2, aU, aI 0, aU, aU]) dX8_commonDivisor_7 (Nat.le_of_ble_eq_true rfl) rfl ?_
  refine T_mask [false, true, false, true, true, true, true, true, true, true, true] rfl ?_
  exact l_X8_commonDivisor_L9  lw tl tt M   _ FU x0 x2 0 h ⟨rfl, rfl, rfl, rfl⟩
def X8_tellFraction_J23 (M : Mem) (x3 : Int64) (x5 : Int64) (s0 : Int64) : Option (Int32 × Mem) :=
 lett (sJ M 0 13 s0) fun M_3 => if (lg_cmp x5 0) ≤ 0 then lett (sJ M_3 0 14 1) fun M_5 => some (1, M_5)
 else chk (¬ x5 = 0) (lett (sJ M_3 0 14 (x3 / x5)) fun M_8 => some (1, M_8))
def F_X8_tellFraction (M : Mem) (x1 : Int64) (x3 : Int64) : Option (Int32 × Mem) :=
 bd1 (F_X8_commonDivisor x1 x3) fun r_1 => if (lg_cmp r_1 0) ≤ 0 then X8_tellFraction_J23 M x3 r_1 0
 else chk (¬ r_1 = 0) (X8_tellFraction_J23 M x3 r_1 (x1 / r_1))
set_option maxRecDepth 100000 in
set_option maxHeartbeats 4000000 in
theorem j_X8_tellFraction_J23 (lw : Nat → Option Nat) (tl : Option Nat) (tt : Option Nat) (M : Mem) (x3 : Int64) (x5 : Int64) (s0 : Int64) (r : Int32) (M' : Mem) (h : X8_tellFraction_J23 M x3 x5 s0 = some (r, M')) : T RX8 cX8_tellFraction 7 (some .int) 0 2 0 0 false (eqp (vI r) LAYC (rfs lw tl tt) M') 23 [aR (some 0), aU, aU, aJ x3, aU, aJ x5, aU] [vJ s0, vR (some 0)] LAYC (rfs lw tl tt) M 0 0 := by
  unfold X8_tellFraction_J23 at h
  obtain ⟨M_3, eM_4, h⟩ := lett_some h
  refine T_putJ dX8_tellFraction_23 clOK_X8 fl_X8_339 (Or.inl rfl) lyC_0 rfl rfl eM_4 ?_
  refine T_aload_n dX8_tellFraction_26 rfl ?_
  refine T_lload dX8_tellFraction_27 rfl ?_
  refine T_lconst dX8_tellFraction_29 lc_0 ?_
  refine T_lcmp dX8_tellFraction_30 ?_
  refine T_if_le (tgt := 41) dX8_tellFraction_31 (by decide) (fun hc => ?_) (fun hc => ?_)
  · have h := it_pos hc h
    refine T_lconst dX8_tellFraction_41 lc_1 ?_
    obtain ⟨M_5, eM_6, h⟩ := lett_some h
    refine T_putJ dX8_tellFraction_42 clOK_X8 fl_X8_75 (Or.inl rfl) lyC_0 rfl rfl eM_6 ?_
    refine T_iconst dX8_tellFraction_45 ic_1 ?_
    obtain ⟨rfl, rfl⟩ := sm2 h
    exact T_iret dX8_tellFraction_46 ⟨rfl, rfl, rfl, rfl⟩
  · have h := it_neg hc h
    refine T_lload_n dX8_tellFraction_34 rfl ?_
    refine T_lload dX8_tellFraction_35 rfl ?_
    obtain ⟨hz_7, h⟩ := chk_some h
    refine T_ldiv dX8_tellFraction_37 hz_7 ?_
    refine T_goto (tgt := 42) dX8_tellFraction_38 (by decide) ?_
    obtain ⟨M_8, eM_9, h⟩ := lett_some h
    refine T_putJ dX8_tellFraction_42 clOK_X8 fl_X8_75 (Or.inl rfl) lyC_0 rfl rfl eM_9 ?_
    refine T_iconst dX8_tellFraction_45 ic_1 ?_
    obtain ⟨rfl, rfl⟩ := sm2 h
    exact T_iret dX8_tellFraction_46 ⟨rfl, rfl, rfl, rfl⟩
set_option maxRecDepth 100000 in
set_option maxHeartbeats 4000000 in
theorem m_X8_tellFraction (lw : Nat → Option Nat) (tl : Option Nat) (tt : Option Nat) (M : Mem) (x1 : Int64) (x3 : Int64) (r : Int32) (M' : Mem) (h : F_X8_tellFraction M x1 x3 = some (r, M')) : Cal yX8_tellFraction cX8_tellFraction 7 (some .int) 0 2 0 0 false [vR (some 0), vJ x1, vJ x3] LAYC (rfs lw tl tt) M (eqp (vI r) LAYC (rfs lw tl tt) M') := by
  refine Cal.of (by decide +kernel) (Nat.le_of_ble_eq_true rfl) (fun h => by cases h) ?_
  unfold F_X8_tellFraction at h
  show T RX8 cX8_tellFraction 7 (some .int) 0 2 0 0 false (eqp (vI r) LAYC (rfs lw tl tt) M') 0 [aR (some 0), aJ x1, aU, aJ x3, aU, aU, aU] [] LAYC (rfs lw tl tt) M 0 0
  refine T_lload_n dX8_tellFraction_0 rfl ?_
  refine T_lload_n dX8_tellFraction_1 rfl ?_
  obtain ⟨r_1, hc_2, h⟩ := bd1_some h
  refine T_csl (as := [vJ x1, vJ x3]) dX8_tellFraction_2 cw_X8_commonDivisor ml_X8_360 mt_X8_commonDivisor rfl (Nat.le_of_ble_eq_true rfl) (Nat.le_of_ble_eq_true rfl) (m_X8_commonDivisor lw tl tt M x1 x3  _ hc_2) ?_
  refine T_lstore (i := 5) (L' := [aR (some 0), aJ x1, aU, aJ x3, aU, aJ r_1, aU]) dX8_tellFraction_5 (Nat.le_of_ble_eq_true rfl) rfl ?_
  refine T_aload_n dX8_tellFraction_7 rfl ?_
  refine T_lload dX8_tellFraction_8 rfl ?_
  refine T_lconst dX8_tellFraction_10 lc_0 ?_
  refine T_lcmp dX8_tellFraction_11 ?_
  refine T_if_le (tgt := 22) dX8_tellFraction_12 (by decide) (fun hc => ?_) (fun hc => ?_)
  · have h := it_pos hc h
    refine T_lconst dX8_tellFraction_22 lc_0 ?_
    refine T_mask [true, false, true, true, true, true, true] rfl ?_
    exact j_X8_tellFraction_J23  lw tl tt M x3 r_1 0  _ _ h
  · have h := it_neg hc h
    refine T_lload_n dX8_tellFraction_15 rfl ?_
    refine T_lload dX8_tellFraction_16 rfl ?_
    obtain ⟨hz_10, h⟩ := chk_some h
    refine T_ldiv dX8_tellFraction_18 hz_10 ?_
    refine T_goto (tgt := 23) dX8_tellFraction_19 (by decide) ?_
    refine T_mask [true, false, true, true, true, true, true] rfl ?_
    exact j_X8_tellFraction_J23  lw tl tt M x3 r_1 (x1 / r_1)  _ _ h
def F_X8_share (M : Mem) (x1 : Int32) (x2 : Int32) : Option (Int32 × Mem) :=
 bd1 (F_X1_has M 9 x1) fun r_1 => if r_1 = 0 then some ((-1), M)
 else bd1 (F_X8_isPerson x2) fun r_3 => if r_3 = 0 then some ((-1), M)
 else bd1 (F_X1_bitsOf M 9 x1) fun r_5 => bd1 (F_X2_gardenOf M x2) fun r_7 => bd1 (F_X1_volumeOf M 9 (r_5 &&& r_7)) fun r_9 => bd1 (F_X1_volumeOf M 9 r_5) fun r_11 => bd2 (F_X8_tellFraction M r_9.toInt64 r_11.toInt64) fun r_13 M_14 => some (r_13, M_14)
set_option maxRecDepth 100000 in
set_option maxHeartbeats 4000000 in
theorem m_X8_share (lw : Nat → Option Nat) (tl : Option Nat) (tt : Option Nat) (M : Mem) (x1 : Int32) (x2 : Int32) (r : Int32) (M' : Mem) (h : F_X8_share M x1 x2 = some (r, M')) : Cal yX8_share cX8_share 4 (some .int) 0 3 0 0 false [vR (some 0), vI x1, vI x2] LAYC (rfs lw tl tt) M (eqp (vI r) LAYC (rfs lw tl tt) M') := by
  refine Cal.of (by decide +kernel) (Nat.le_of_ble_eq_true rfl) (fun h => by cases h) ?_
  unfold F_X8_share at h
  show T RX8 cX8_share 4 (some .int) 0 3 0 0 false (eqp (vI r) LAYC (rfs lw tl tt) M') 0 [aR (some 0), aI x1, aI x2, aU] [] LAYC (rfs lw tl tt) M 0 0
  refine T_aload_n dX8_share_0 rfl ?_
  refine T_getR dX8_share_1 clOK_X8 fl_X8_37 lyC_0 rfl rfl ?_
  refine T_iload_n dX8_share_4 rfl ?_
  obtain ⟨r_1, hc_2, h⟩ := bd1_some h
  refine T_cvi (as := [vI x1]) dX8_share_5 cw_X1_has ml_X8_189 mi_X1_has se_X1_has lyC_9 rfl (by decide) rfl (Nat.le_of_ble_eq_true rfl) (Nat.le_of_ble_eq_true rfl) (m_X1_has lw tl tt M 9 x1 rfl _ hc_2) ?_
  refine T_if_eq (tgt := 18) dX8_share_8 (by decide) (fun hc => ?_) (fun hc => ?_)
  · have h := it_pos hc h
    refine T_iconst dX8_share_18 ic_m1 ?_
    obtain ⟨rfl, rfl⟩ := sm2 h
    exact T_iret dX8_share_19 ⟨rfl, rfl, rfl, rfl⟩
  · have h := it_neg hc h
    refine T_iload_n dX8_share_11 rfl ?_
    obtain ⟨r_3, hc_4, h⟩ := bd1_some h
    refine T_csi (as := [vI x2]) dX8_share_12 cw_X8_isPerson ml_X8_286 mt_X8_isPerson rfl (Nat.le_of_ble_eq_true rfl) (Nat.le_of_ble_eq_true rfl) (m_X8_isPerson lw tl tt M x2  _ hc_4) ?_
    refine T_if_ne (tgt := 20) dX8_share_15 (by decide) (fun hc => ?_) (fun hc => ?_)
    · have h := it_neg hc h
      refine T_aload_n dX8_share_20 rfl ?_
      refine T_getR dX8_share_21 clOK_X8 fl_X8_37 lyC_0 rfl rfl ?_
      refine T_iload_n dX8_share_24 rfl ?_
      obtain ⟨r_5, hc_6, h⟩ := bd1_some h
      refine T_cvi (as := [vI x1]) dX8_share_25 cw_X1_bitsOf ml_X8_258 mi_X1_bitsOf se_X1_bitsOf lyC_9 rfl (by decide) rfl (Nat.le_of_ble_eq_true rfl) (Nat.le_of_ble_eq_true rfl) (m_X1_bitsOf lw tl tt M 9 x1 rfl _ hc_6) ?_
      refine T_istore_n (i := 3) (L' := [aR (some 0), aI x1, aI x2, aI r_5]) dX8_share_28 rfl (Nat.le_of_ble_eq_true rfl) rfl ?_
      refine T_aload_n dX8_share_29 rfl ?_
      refine T_aload_n dX8_share_30 rfl ?_
      refine T_getR dX8_share_31 clOK_X8 fl_X8_37 lyC_0 rfl rfl ?_
      refine T_iload_n dX8_share_34 rfl ?_
      refine T_aload_n dX8_share_35 rfl ?_
      refine T_getR dX8_share_36 clOK_X8 fl_X8_28 lyC_0 rfl rfl ?_
      refine T_iload_n dX8_share_39 rfl ?_
      obtain ⟨r_7, hc_8, h⟩ := bd1_some h
      refine T_cvi (as := [vI x2]) dX8_share_40 cw_X2_gardenOf ml_X8_303 mi_X2_gardenOf se_X2_gardenOf lyC_7 rfl (by decide) rfl (Nat.le_of_ble_eq_true rfl) (Nat.le_of_ble_eq_true rfl) (m_X2_gardenOf lw tl tt M x2  _ hc_8) ?_
      refine T_iand dX8_share_43 ?_
      obtain ⟨r_9, hc_10, h⟩ := bd1_some h
      refine T_cvi (as := [vI (r_5 &&& r_7)]) dX8_share_44 cw_X1_volumeOf ml_X8_283 mi_X1_volumeOf se_X1_volumeOf lyC_9 rfl (by decide) rfl (Nat.le_of_ble_eq_true rfl) (Nat.le_of_ble_eq_true rfl) (m_X1_volumeOf lw tl tt M 9 (r_5 &&& r_7) rfl _ hc_10) ?_
      refine T_i2l dX8_share_47 ?_
      refine T_aload_n dX8_share_48 rfl ?_
      refine T_getR dX8_share_49 clOK_X8 fl_X8_37 lyC_0 rfl rfl ?_
      refine T_iload_n dX8_share_52 rfl ?_
      obtain ⟨r_11, hc_12, h⟩ := bd1_some h
      refine T_cvi (as := [vI r_5]) dX8_share_53 cw_X1_volumeOf ml_X8_283 mi_X1_volumeOf se_X1_volumeOf lyC_9 rfl (by decide) rfl (Nat.le_of_ble_eq_true rfl) (Nat.le_of_ble_eq_true rfl) (m_X1_volumeOf lw tl tt M 9 r_5 rfl _ hc_12) ?_
      refine T_i2l dX8_share_56 ?_
      obtain ⟨r_13, M_14, hc_15, h⟩ := bd2_some h
      refine T_cvi (as := [vJ r_9.toInt64, vJ r_11.toInt64]) dX8_share_57 cw_X8_tellFraction ml_X8_306 mi_X8_tellFraction se_X8_tellFraction lyC_0 rfl (by decide) rfl (Nat.le_of_ble_eq_true rfl) (Nat.le_of_ble_eq_true rfl) (m_X8_tellFraction lw tl tt M r_9.toInt64 r_11.toInt64  _ _ hc_15) ?_
      obtain ⟨rfl, rfl⟩ := sm2 h
      exact T_iret dX8_share_60 ⟨rfl, rfl, rfl, rfl⟩
    · have h := it_pos hc h
      refine T_iconst dX8_share_18 ic_m1 ?_
      obtain ⟨rfl, rfl⟩ := sm2 h
      exact T_iret dX8_share_19 ⟨rfl, rfl, rfl, rfl⟩
def X8_waysFrom_L28 (rc : Mem → Nat → Int32 → Option (Int32 × Mem)) (p1 : Nat) (x2 : Int32) (x4 : Int32) : Int32 × Int32 × Mem → Option ((Int32 × Int32 × Mem) ⊕ (Int32 × Mem))
  | (x3, x5, M) =>
    if (gI M 9 3) ≤ x5 then some (.inr (x3, M))
    else if (nI 8) ≤ x5 then some (.inr (x3, M))
    else chk (inb x5 8 = true) (if (gI M 24 x5.toNatClampNeg) < x4 then lett (x5 + 1) fun x_6 => some (.inl (x3, x_6, M))
    else chk (inb x5 8 = true) (chk (inb x5 8 = true) (lett (sI M 24 x5.toNatClampNeg ((gI M 24 x5.toNatClampNeg) - x4)) fun M_9 => bd2 (rc M_9 p1 (x2 + 1)) fun r_12 M_13 => lett (x3 + r_12) fun x_15 => chk (inb x5 8 = true) (chk (inb x5 8 = true) (lett (sI M_13 24 x5.toNatClampNeg ((gI M_13 24 x5.toNatClampNeg) + x4)) fun M_18 => lett (x5 + 1) fun x_21 => some (.inl (x_15, x_21, M_18)))))))
def F_X8_waysFrom : Nat → Mem → Nat → Int32 → Option (Int32 × Mem)
  | 0, _, _, _ => none
  | n + 1, M, p1, x2 =>
    bd1 (F_X5_size M p1) fun r_1 => if r_1 ≤ x2 then some (1, M)
    else if x2 < (nI 6) then bd1 (F_X5_get M p1 x2) fun r_3 => loop (X8_waysFrom_L28 (F_X8_waysFrom n) p1 x2 r_3) FU (0, 0, M)
    else some (1, M)
set_option maxRecDepth 100000 in
set_option maxHeartbeats 4000000 in
theorem s_X8_waysFrom_L28 (rc : Mem → Nat → Int32 → Option (Int32 × Mem)) {n : Nat} (hrc : ∀ (lw : Nat → Option Nat) (tl : Option Nat) (tt : Option Nat) (M : Mem) (p1 : Nat) (x2 : Int32) (h1 : isX5 p1 = true) (r : Int32) (M' : Mem), rc M p1 x2 = some (r, M') → Cal yX8_waysFrom cX8_waysFrom 6 (some .int) 0 (3 + n) 0 0 false [vR (some 0), vR (some p1), vI x2] LAYC (rfs lw tl tt) M (eqp (vI r) LAYC (rfs lw tl tt) M')) (lw : Nat → Option Nat) (tl : Option Nat) (tt : Option Nat) (p1 : Nat) (x2 : Int32) (x4 : Int32) (h1 : isX5 p1 = true) (x3 : Int32) (x5 : Int32) (M : Mem) {Po : Po_} (x : (Int32 × Int32 × Mem) ⊕ (Int32 × Mem)) (h : X8_waysFrom_L28 rc p1 x2 x4 (x3, x5, M) = some x) (hI : ∀ (ix3 : Int32) (ix5 : Int32) (iM : Mem), x = .inl (ix3, ix5, iM) → T RX8 cX8_waysFrom 6 (some .int) 0 (3 + (n + 1)) 0 0 false Po 28 [aR (some 0), aR (some p1), aI x2, aI ix3, aI x4, aI ix5] [] LAYC (rfs lw tl tt) iM 0 0) (hE0 : ∀ (er : Int32) (eM : Mem), x = .inr (er, eM) → Po (vI er) LAYC (rfs lw tl tt) eM) : T RX8 cX8_waysFrom 6 (some .int) 0 (3 + (n + 1)) 0 0 false Po 28 [aR (some 0), aR (some p1), aI x2, aI x3, aI x4, aI x5] [] LAYC (rfs lw tl tt) M 0 0 := by
  unfold X8_waysFrom_L28 at h
  simp only at h
  refine T_iload dX8_waysFrom_28 rfl ?_
  refine T_aload_n dX8_waysFrom_30 rfl ?_
  refine T_getR dX8_waysFrom_31 clOK_X8 fl_X8_37 lyC_0 rfl rfl ?_
  refine T_getI dX8_waysFrom_34 clOK_X1 fl_X8_217 lyC_9 rfl ?_
  refine T_icmp_ge (tgt := 103) dX8_waysFrom_37 (by decide) (fun hc => ?_) (fun hc => ?_)
  · have h := it_pos hc h
    refine T_iload_n dX8_waysFrom_103 rfl ?_
    obtain rfl := sm1 h
    exact T_iret dX8_waysFrom_104 (hE0 _ _ rfl)
  · have h := it_neg hc h
    refine T_iload dX8_waysFrom_40 rfl ?_
    refine T_aload_n dX8_waysFrom_42 rfl ?_
    refine T_getR dX8_waysFrom_43 clOK_X8 fl_X8_72 lyC_0 rfl rfl ?_
    refine T_alen dX8_waysFrom_46 lyC_24 (Or.inl rfl) rfl ?_
    refine T_icmp_ge (tgt := 103) dX8_waysFrom_47 (by decide) (fun hc => ?_) (fun hc => ?_)
    · have h := it_pos hc h
      refine T_iload_n dX8_waysFrom_103 rfl ?_
      obtain rfl := sm1 h
      exact T_iret dX8_waysFrom_104 (hE0 _ _ rfl)
    · have h := it_neg hc h
      refine T_aload_n dX8_waysFrom_50 rfl ?_
      refine T_getR dX8_waysFrom_51 clOK_X8 fl_X8_72 lyC_0 rfl rfl ?_
      refine T_iload dX8_waysFrom_54 rfl ?_
      obtain ⟨hi_5, h⟩ := chk_some h
      refine T_iald dX8_waysFrom_56 lyC_24 (inb_in hi_5) ?_
      refine T_iload dX8_waysFrom_57 rfl ?_
      refine T_icmp_lt (tgt := 97) dX8_waysFrom_59 (by decide) (fun hc => ?_) (fun hc => ?_)
      · have h := it_pos hc h
        obtain ⟨x_6, ex_7, h⟩ := lett_some h
        refine T_iinc (L' := [aR (some 0), aR (some p1), aI x2, aI x3, aI x4, aI x_6]) dX8_waysFrom_97 rfl (ic_inc ic_1 ex_7) (Nat.le_of_ble_eq_true rfl) rfl ?_
        refine T_goto (tgt := 28) dX8_waysFrom_100 (by decide) ?_
        obtain rfl := sm1 h
        exact hI _ _ _ rfl
      · have h := it_neg hc h
        refine T_aload_n dX8_waysFrom_62 rfl ?_
        refine T_getR dX8_waysFrom_63 clOK_X8 fl_X8_72 lyC_0 rfl rfl ?_
        refine T_iload dX8_waysFrom_66 rfl ?_
        refine T_dup2_11 dX8_waysFrom_68 rfl rfl ?_
        obtain ⟨hi_8, h⟩ := chk_some h
        refine T_iald dX8_waysFrom_69 lyC_24 (inb_in hi_8) ?_
        refine T_iload dX8_waysFrom_70 rfl ?_
        refine T_isub dX8_waysFrom_72 ?_
        obtain ⟨hi_11, h⟩ := chk_some h
        obtain ⟨M_9, eM_10, h⟩ := lett_some h
        refine T_iast dX8_waysFrom_73 lyC_24 (inb_in hi_11) eM_10 ?_
        refine T_iload_n dX8_waysFrom_74 rfl ?_
        refine T_aload_n dX8_waysFrom_75 rfl ?_
        refine T_aload_n dX8_waysFrom_76 rfl ?_
        refine T_iload_n dX8_waysFrom_77 rfl ?_
        refine T_iconst dX8_waysFrom_78 ic_1 ?_
        refine T_iadd dX8_waysFrom_79 ?_
        obtain ⟨r_12, M_13, hc_14, h⟩ := bd2_some h
        refine T_cvi (as := [vR (some p1), vI (x2 + 1)]) dX8_waysFrom_80 cw_X8_waysFrom ml_X8_313 mi_X8_waysFrom se_X8_waysFrom lyC_0 rfl (by decide) rfl (Nat.le_of_ble_eq_true rfl) (by omega) (hrc lw tl tt M_9 p1 (x2 + 1) h1 _ _ hc_14) ?_
        refine T_iadd dX8_waysFrom_83 ?_
        obtain ⟨x_15, ex_16, h⟩ := lett_some h
        refine T_topI ex_16 ?_
        refine T_istore_n (i := 3) (L' := [aR (some 0), aR (some p1), aI x2, aI x_15, aI x4, aI x5]) dX8_waysFrom_84 rfl (Nat.le_of_ble_eq_true rfl) rfl ?_
        refine T_aload_n dX8_waysFrom_85 rfl ?_
        refine T_getR dX8_waysFrom_86 clOK_X8 fl_X8_72 lyC_0 rfl rfl ?_
        refine T_iload dX8_waysFrom_89 rfl ?_
        refine T_dup2_11 dX8_waysFrom_91 rfl rfl ?_
        obtain ⟨hi_17, h⟩ := chk_some h
        refine T_iald dX8_waysFrom_92 lyC_24 (inb_in hi_17) ?_
        refine T_iload dX8_waysFrom_93 rfl ?_
        refine T_iadd dX8_waysFrom_95 ?_
        obtain ⟨hi_20, h⟩ := chk_some h
        obtain ⟨M_18, eM_19, h⟩ := lett_some h
        refine T_iast dX8_waysFrom_96 lyC_24 (inb_in hi_20) eM_19 ?_
        obtain ⟨x_21, ex_22, h⟩ := lett_some h
        refine T_iinc (L' := [aR (some 0), aR (some p1), aI x2, aI x_15, aI x4, aI x_21]) dX8_waysFrom_97 rfl (ic_inc ic_1 ex_22) (Nat.le_of_ble_eq_true rfl) rfl ?_
        refine T_goto (tgt := 28) dX8_waysFrom_100 (by decide) ?_
        obtain rfl := sm1 h
        exact hI _ _ _ rfl
set_option maxRecDepth 100000 in
set_option maxHeartbeats 4000000 in
theorem l_X8_waysFrom_L28 (rc : Mem → Nat → Int32 → Option (Int32 × Mem)) {n : Nat} (hrc : ∀ (lw : Nat → Option Nat) (tl : Option Nat) (tt : Option Nat) (M : Mem) (p1 : Nat) (x2 : Int32) (h1 : isX5 p1 = true) (r : Int32) (M' : Mem), rc M p1 x2 = some (r, M') → Cal yX8_waysFrom cX8_waysFrom 6 (some .int) 0 (3 + n) 0 0 false [vR (some 0), vR (some p1), vI x2] LAYC (rfs lw tl tt) M (eqp (vI r) LAYC (rfs lw tl tt) M')) (lw : Nat → Option Nat) (tl : Option Nat) (tt : Option Nat) (p1 : Nat) (x2 : Int32) (x4 : Int32) (h1 : isX5 p1 = true) {Po : Po_} (er : Int32) (eM : Mem) : ∀ (k : Nat) (x3 : Int32) (x5 : Int32) (M : Mem), loop (X8_waysFrom_L28 rc p1 x2 x4) k (x3, x5, M) = some (er, eM) → (Po (vI er) LAYC (rfs lw tl tt) eM) → T RX8 cX8_waysFrom 6 (some .int) 0 (3 + (n + 1)) 0 0 false Po 28 [aR (some 0), aR (some p1), aI x2, aI x3, aI x4, aI x5] [] LAYC (rfs lw tl tt) M 0 0 := by
  intro k
  induction k with
  | zero => intro x3 x5 M h; cases h
  | succ k ih =>
    intro x3 x5 M h hE
    obtain ⟨x, hx, hx1, hx2⟩ := loop_succ h
    exact s_X8_waysFrom_L28 rc hrc  lw tl tt p1 x2 x4 h1 x3 x5 M x hx (fun q0 q1 q2 e => ih q0 q1 q2 (hx1 _ e) hE) (fun q0 q1 e => by cases hx2 _ e; exact hE)
set_option maxRecDepth 100000 in
set_option maxHeartbeats 4000000 in
theorem m_X8_waysFrom : ∀ (n : Nat) (lw : Nat → Option Nat) (tl : Option Nat) (tt : Option Nat) (M : Mem) (p1 : Nat) (x2 : Int32) (h1 : isX5 p1 = true) (r : Int32) (M' : Mem), F_X8_waysFrom n M p1 x2 = some (r, M') → Cal yX8_waysFrom cX8_waysFrom 6 (some .int) 0 (3 + n) 0 0 false [vR (some 0), vR (some p1), vI x2] LAYC (rfs lw tl tt) M (eqp (vI r) LAYC (rfs lw tl tt) M') := by
  intro n
  induction n with
  | zero => intro lw tl tt M p1 x2 h1 r M' h; cases h
  | succ n ih =>
    intro lw tl tt M p1 x2 h1 r M' h
    refine Cal.of (by decide +kernel) (Nat.le_of_ble_eq_true rfl) (fun h => by cases h) ?_
    simp only [F_X8_waysFrom] at h
    show T RX8 cX8_waysFrom 6 (some .int) 0 (3 + (n + 1)) 0 0 false (eqp (vI r) LAYC (rfs lw tl tt) M') 0 [aR (some 0), aR (some p1), aI x2, aU, aU, aU] [] LAYC (rfs lw tl tt) M 0 0
    refine T_iload_n dX8_waysFrom_0 rfl ?_
    refine T_aload_n dX8_waysFrom_1 rfl ?_
    obtain ⟨r_1, hc_2, h⟩ := bd1_some h
    refine T_cvi (as := []) dX8_waysFrom_2 cw_X5_size ml_X8_133 mi_X5_size se_X5_size (lyX5 h1) rfl (by decide) rfl (Nat.le_of_ble_eq_true rfl) (by omega) (m_X5_size lw tl tt M p1 h1 _ hc_2) ?_
    refine T_icmp_ge (tgt := 14) dX8_waysFrom_5 (by decide) (fun hc => ?_) (fun hc => ?_)
    · have h := it_pos hc h
      refine T_iconst dX8_waysFrom_14 ic_1 ?_
      obtain ⟨rfl, rfl⟩ := sm2 h
      exact T_iret dX8_waysFrom_15 ⟨rfl, rfl, rfl, rfl⟩
    · have h := it_neg hc h
      refine T_iload_n dX8_waysFrom_8 rfl ?_
      refine T_bipush dX8_waysFrom_9 bp_6 ?_
      refine T_icmp_lt (tgt := 16) dX8_waysFrom_11 (by decide) (fun hc => ?_) (fun hc => ?_)
      · have h := it_pos hc h
        refine T_iconst dX8_waysFrom_16 ic_0 ?_
        refine T_istore_n (i := 3) (L' := [aR (some 0), aR (some p1), aI x2, aI 0, aU, aU]) dX8_waysFrom_17 rfl (Nat.le_of_ble_eq_true rfl) rfl ?_
        refine T_aload_n dX8_waysFrom_18 rfl ?_
        refine T_iload_n dX8_waysFrom_19 rfl ?_
        obtain ⟨r_3, hc_4, h⟩ := bd1_some h
        refine T_cvi (as := [vI x2]) dX8_waysFrom_20 cw_X5_get ml_X8_104 mi_X5_get se_X5_get (lyX5 h1) rfl (by decide) rfl (Nat.le_of_ble_eq_true rfl) (by omega) (m_X5_get lw tl tt M p1 x2 h1 _ hc_4) ?_
        refine T_istore (i := 4) (L' := [aR (some 0), aR (some p1), aI x2, aI 0, aI r_3, aU]) dX8_waysFrom_23 (Nat.le_of_ble_eq_true rfl) rfl ?_
        refine T_iconst dX8_waysFrom_25 ic_0 ?_
        refine T_istore (i := 5) (L' := [aR (some 0), aR (some p1), aI x2, aI 0, aI r_3, aI 0]) dX8_waysFrom_26 (Nat.le_of_ble_eq_true rfl) rfl ?_
        exact l_X8_waysFrom_L28 _ ih  lw tl tt p1 x2 r_3 h1 _ _ FU 0 0 M h ⟨rfl, rfl, rfl, rfl⟩
      · have h := it_neg hc h
        refine T_iconst dX8_waysFrom_14 ic_1 ?_
        obtain ⟨rfl, rfl⟩ := sm2 h
        exact T_iret dX8_waysFrom_15 ⟨rfl, rfl, rfl, rfl⟩
