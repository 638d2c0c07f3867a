def X9_isStolen_L10 (M : Mem) (x1 : Int32) (x2 : Int32) (x3 : Int32) (x4 : Int32) : Int32 × Int32 → Option ((Int32 × Int32) ⊕ (Int32 × Mem))
  | (x5, x6) =>
    if (gI M 0 23) ≤ x6 then chk (x5 = 0 ∨ x5 = 1) (some (.inr (x5, M)))
    else if x5 = 0 then chk (inb x6 8 = true) (bd1 (F_X9_whose M (gI M 11 x6.toNatClampNeg)) fun r_7 => if r_7 = x4 then bd1 (F_X9_isSame M x1 x2 x3 x6) fun r_11 => if r_11 = 0 then lett (x6 + 1) fun x_13 => some (.inl (0, x_13))
    else lett (x6 + 1) fun x_15 => some (.inl (1, x_15))
    else lett (x6 + 1) fun x_9 => some (.inl (0, x_9)))
    else lett (x6 + 1) fun x_4 => some (.inl (1, x_4))
def F_X9_isStolen (M : Mem) (x1 : Int32) (x2 : Int32) (x3 : Int32) (x4 : Int32) : Option (Int32 × Mem) :=
 bd1 (F_X9_layHoles M) fun M_1 => loop (X9_isStolen_L10 M_1 x1 x2 x3 x4) FU (0, 0)
set_option maxRecDepth 100000 in
set_option maxHeartbeats 4000000 in
theorem s_X9_isStolen_L10 (M : Mem) (x1 : Int32) (x2 : Int32) (x3 : Int32) (x4 : Int32) (x5 : Int32) (x6 : Int32) {Po : Po_} (x : (Int32 × Int32) ⊕ (Int32 × Mem)) (h : X9_isStolen_L10 M x1 x2 x3 x4 (x5, x6) = some x) (hI : ∀ (ix5 : Int32) (ix6 : Int32), x = .inl (ix5, ix6) → T RX9 cX9_isStolen 7 (some .boolean) 0 7 0 0 false Po 10 [aR (some 0), aI x1, aI x2, aI x3, aI x4, aI ix5, aI ix6] [] LAYM rfm M 0 0) (hE0 : ∀ (er : Int32) (eM : Mem), x = .inr (er, eM) → Po (vI er) LAYM rfm eM) : T RX9 cX9_isStolen 7 (some .boolean) 0 7 0 0 false Po 10 [aR (some 0), aI x1, aI x2, aI x3, aI x4, aI x5, aI x6] [] LAYM rfm M 0 0 := by
  unfold X9_isStolen_L10 at h
  simp only at h
  refine T_iload dX9_isStolen_10 rfl ?_
  refine T_aload_n dX9_isStolen_12 rfl ?_
  refine T_getI dX9_isStolen_13 clOK_X9 fl_X9_187 lyM_0 rfl ?_
  refine T_icmp_ge (tgt := 65) dX9_isStolen_16 (by decide) (fun hc => ?_) (fun hc => ?_)
  · have h := it_pos hc h
    refine T_iload dX9_isStolen_65 rfl ?_
    obtain ⟨hb_3, h⟩ := chk_some h
    obtain rfl := sm1 h
    exact T_zret dX9_isStolen_67 hb_3 (hE0 _ _ rfl)
  · have h := it_neg hc h
    refine T_iload dX9_isStolen_19 rfl ?_
    refine T_if_ne (tgt := 52) dX9_isStolen_21 (by decide) (fun hc => ?_) (fun hc => ?_)
    · have h := it_neg hc h
      refine T_iconst dX9_isStolen_52 ic_1 ?_
      refine T_goto (tgt := 57) dX9_isStolen_53 (by decide) ?_
      refine T_istore (i := 5) (L' := [aR (some 0), aI x1, aI x2, aI x3, aI x4, aI 1, aI x6]) dX9_isStolen_57 (Nat.le_of_ble_eq_true rfl) rfl ?_
      obtain ⟨x_4, ex_5, h⟩ := lett_some h
      refine T_iinc (L' := [aR (some 0), aI x1, aI x2, aI x3, aI x4, aI 1, aI x_4]) dX9_isStolen_59 rfl (ic_inc ic_1 ex_5) (Nat.le_of_ble_eq_true rfl) rfl ?_
      refine T_goto (tgt := 10) dX9_isStolen_62 (by decide) ?_
      obtain rfl := sm1 h
      exact hI _ _ rfl
    · have h := it_pos hc h
      refine T_aload_n dX9_isStolen_24 rfl ?_
      refine T_aload_n dX9_isStolen_25 rfl ?_
      refine T_getR dX9_isStolen_26 clOK_X9 fl_X9_44 lyM_0 rfl rfl ?_
      refine T_iload dX9_isStolen_29 rfl ?_
      obtain ⟨hi_6, h⟩ := chk_some h
      refine T_iald dX9_isStolen_31 lyM_11 (inb_in hi_6) ?_
      obtain ⟨r_7, hc_8, h⟩ := bd1_some h
      refine T_cvi (as := [vI (gI M 11 x6.toNatClampNeg)]) dX9_isStolen_32 cw_X9_whose ml_X9_209 mi_X9_whose se_X9_whose lyM_0 rfl (by decide) rfl (Nat.le_of_ble_eq_true rfl) (Nat.le_of_ble_eq_true rfl) (m_X9_whose  M (gI M 11 x6.toNatClampNeg)  _ hc_8) ?_
      refine T_iload dX9_isStolen_35 rfl ?_
      refine T_icmp_ne (tgt := 56) dX9_isStolen_37 (by decide) (fun hc => ?_) (fun hc => ?_)
      · have h := it_neg hc h
        refine T_iconst dX9_isStolen_56 ic_0 ?_
        refine T_istore (i := 5) (L' := [aR (some 0), aI x1, aI x2, aI x3, aI x4, aI 0, aI x6]) dX9_isStolen_57 (Nat.le_of_ble_eq_true rfl) rfl ?_
        obtain ⟨x_9, ex_10, h⟩ := lett_some h
        refine T_iinc (L' := [aR (some 0), aI x1, aI x2, aI x3, aI x4, aI 0, aI x_9]) dX9_isStolen_59 rfl (ic_inc ic_1 ex_10) (Nat.le_of_ble_eq_true rfl) rfl ?_
        refine T_goto (tgt := 10) dX9_isStolen_62 (by decide) ?_
        obtain rfl := sm1 h
        exact hI _ _ rfl
      · have h := it_pos hc h
        refine T_aload_n dX9_isStolen_40 rfl ?_
        refine T_iload_n dX9_isStolen_41 rfl ?_
        refine T_iload_n dX9_isStolen_42 rfl ?_
        refine T_iload_n dX9_isStolen_43 rfl ?_
        refine T_iload dX9_isStolen_44 rfl ?_
        obtain ⟨r_11, hc_12, h⟩ := bd1_some h
        refine T_cvi (as := [vI x1, vI x2, vI x3, vI x6]) dX9_isStolen_46 cw_X9_isSame ml_X9_283 mi_X9_isSame se_X9_isSame lyM_0 rfl (by decide) rfl (Nat.le_of_ble_eq_true rfl) (Nat.le_of_ble_eq_true rfl) (m_X9_isSame  M x1 x2 x3 x6  _ hc_12) ?_
        refine T_if_eq (tgt := 56) dX9_isStolen_49 (by decide) (fun hc => ?_) (fun hc => ?_)
        · have h := it_pos hc h
          refine T_iconst dX9_isStolen_56 ic_0 ?_
          refine T_istore (i := 5) (L' := [aR (some 0), aI x1, aI x2, aI x3, aI x4, aI 0, aI x6]) dX9_isStolen_57 (Nat.le_of_ble_eq_true rfl) rfl ?_
          obtain ⟨x_13, ex_14, h⟩ := lett_some h
          refine T_iinc (L' := [aR (some 0), aI x1, aI x2, aI x3, aI x4, aI 0, aI x_13]) dX9_isStolen_59 rfl (ic_inc ic_1 ex_14) (Nat.le_of_ble_eq_true rfl) rfl ?_
          refine T_goto (tgt := 10) dX9_isStolen_62 (by decide) ?_
          obtain rfl := sm1 h
          exact hI _ _ rfl
        · have h := it_neg hc h
          refine T_iconst dX9_isStolen_52 ic_1 ?_
          refine T_goto (tgt := 57) dX9_isStolen_53 (by decide) ?_
          refine T_istore (i := 5) (L' := [aR (some 0), aI x1, aI x2, aI x3, aI x4, aI 1, aI x6]) dX9_isStolen_57 (Nat.le_of_ble_eq_true rfl) rfl ?_
          obtain ⟨x_15, ex_16, h⟩ := lett_some h
          refine T_iinc (L' := [aR (some 0), aI x1, aI x2, aI x3, aI x4, aI 1, aI x_15]) dX9_isStolen_59 rfl (ic_inc ic_1 ex_16) (Nat.le_of_ble_eq_true rfl) rfl ?_
          refine T_goto (tgt := 10) dX9_isStolen_62 (by decide) ?_
          obtain rfl := sm1 h
          exact hI _ _ rfl
set_option maxRecDepth 100000 in
set_option maxHeartbeats 4000000 in
theorem l_X9_isStolen_L10 (M : Mem) (x1 : Int32) (x2 : Int32) (x3 : Int32) (x4 : Int32) {Po : Po_} (er : Int32) (eM : Mem) : ∀ (k : Nat) (x5 : Int32) (x6 : Int32), loop (X9_isStolen_L10 M x1 x2 x3 x4) k (x5, x6) = some (er, eM) → (Po (vI er) LAYM rfm eM) → T RX9 cX9_isStolen 7 (some .boolean) 0 7 0 0 false Po 10 [aR (some 0), aI x1, aI x2, aI x3, aI x4, aI x5, aI x6] [] LAYM rfm M 0 0 := by
  intro k
  induction k with
  | zero => intro x5 x6 h; cases h
  | succ k ih =>
    intro x5 x6 h hE
    obtain ⟨x, hx, hx1, hx2⟩ := loop_succ h
    exact s_X9_isStolen_L10  M x1 x2 x3 x4  x5 x6 x hx (fun q0 q1 e => ih q0 q1 (hx1 _ e) hE) (fun q0 q1 e => by cases hx2 _ e; exact hE)
set_option maxRecDepth 100000 in
set_option maxHeartbeats 4000000 in
theorem m_X9_isStolen (M : Mem) (x1 : Int32) (x2 : Int32) (x3 : Int32) (x4 : Int32) (r : Int32) (M' : Mem) (h : F_X9_isStolen M x1 x2 x3 x4 = some (r, M')) : Cal yX9_isStolen cX9_isStolen 7 (some .boolean) 0 7 0 0 false [vR (some 0), vI x1, vI x2, vI x3, vI x4] LAYM rfm M (eqp (vI r) LAYM rfm M') := by
  refine Cal.of (by decide +kernel) (Nat.le_of_ble_eq_true rfl) (fun h => by cases h) ?_
  unfold F_X9_isStolen at h
  show T RX9 cX9_isStolen 7 (some .boolean) 0 7 0 0 false (eqp (vI r) LAYM rfm M') 0 [aR (some 0), aI x1, aI x2, aI x3, aI x4, aU, aU] [] LAYM rfm M 0 0
  refine T_aload_n dX9_isStolen_0 rfl ?_
  obtain ⟨M_1, hc_2, h⟩ := bd1_some h
  refine T_cvv (as := []) dX9_isStolen_1 cw_X9_layHoles ml_X9_190 mi_X9_layHoles se_X9_layHoles lyM_0 rfl (by decide) rfl (Nat.le_of_ble_eq_true rfl) (Nat.le_of_ble_eq_true rfl) (m_X9_layHoles  M  _ hc_2) ?_
  refine T_iconst dX9_isStolen_4 ic_0 ?_
  refine T_istore (i := 5) (L' := [aR (some 0), aI x1, aI x2, aI x3, aI x4, aI 0, aU]) dX9_isStolen_5 (Nat.le_of_ble_eq_true rfl) rfl ?_
  refine T_iconst dX9_isStolen_7 ic_0 ?_
  refine T_istore (i := 6) (L' := [aR (some 0), aI x1, aI x2, aI x3, aI x4, aI 0, aI 0]) dX9_isStolen_8 (Nat.le_of_ble_eq_true rfl) rfl ?_
  exact l_X9_isStolen_L10  M_1 x1 x2 x3 x4  _ _ FU 0 0 h ⟨rfl, rfl, rfl, rfl⟩
def X9_stealOn_J99 (rc : Mem → Int32 → Int32 → Int32 → Int32 → Int32 → Int32 → Option (Int32 × Mem)) (M : Mem) (x1 : Int32) (x2 : Int32) (x3 : Int32) (x4 : Int32) (x5 : Int32) (x6 : Int32) (x7 : Int32) (x8 : Int32) (x9 : Int32) (s0 : Int32) (s1 : Int32) : Option ((Int32 × Mem) ⊕ (Int32 × Mem)) :=
 chk (inb s1 3 = true) (lett (sI M 16 s1.toNatClampNeg s0) fun M_9 => chk (inb x8 16 = true) (chk (inb x8 16 = true) (lett (sI M_9 7 x8.toNatClampNeg ((gI M_9 7 x8.toNatClampNeg) + x9)) fun M_13 => bd2 (rc M_13 x1 x2 x3 x4 (x5 + 1) x6) fun r_16 M_17 => chk (inb x8 16 = true) (chk (inb x8 16 = true) (lett (sI M_17 7 x8.toNatClampNeg ((gI M_17 7 x8.toNatClampNeg) - x9)) fun M_20 => if r_16 = 0 then lett (x7 + 1) fun x_23 => some (.inl (x_23, M_20))
 else some (.inr (1, M_20)))))))
def X9_stealOn_J54 (rc : Mem → Int32 → Int32 → Int32 → Int32 → Int32 → Int32 → Option (Int32 × Mem)) (M : Mem) (x1 : Int32) (x2 : Int32) (x3 : Int32) (x4 : Int32) (x5 : Int32) (x6 : Int32) (x7 : Int32) (x8 : Int32) (s0 : Int32) : Option ((Int32 × Mem) ⊕ (Int32 × Mem)) :=
 chk (inb x8 16 = true) (bd1 (F_X9_in ((gI M 7 x8.toNatClampNeg) + s0) 0 (nI 5)) fun r_5 => if r_5 = 0 then lett (x7 + 1) fun x_7 => some (.inl (x_7, M))
 else if (gI M 0 11) ≤ x7 then X9_stealOn_J99 rc M x1 x2 x3 x4 x5 x6 x7 x8 s0 ((nI 100) + x8) x5
 else X9_stealOn_J99 rc M x1 x2 x3 x4 x5 x6 x7 x8 s0 x8 x5)
def X9_stealOn_L20 (rc : Mem → Int32 → Int32 → Int32 → Int32 → Int32 → Int32 → Option (Int32 × Mem)) (x1 : Int32) (x2 : Int32) (x3 : Int32) (x4 : Int32) (x5 : Int32) (x6 : Int32) : Int32 × Mem → Option ((Int32 × Mem) ⊕ (Int32 × Mem))
  | (x7, M) =>
    if ((nI 2) * (gI M 0 11)) ≤ x7 then some (.inr (0, M))
    else chk (¬ (gI M 0 11) = 0) (lett (irm x7 (gI M 0 11)) fun x_2 => if (gI M 0 11) ≤ x7 then X9_stealOn_J54 rc M x1 x2 x3 x4 x5 x6 x7 x_2 (-1)
    else X9_stealOn_J54 rc M x1 x2 x3 x4 x5 x6 x7 x_2 1)
def F_X9_stealOn : Nat → Mem → Int32 → Int32 → Int32 → Int32 → Int32 → Int32 → Option (Int32 × Mem)
  | 0, _, _, _, _, _, _, _ => none
  | n + 1, M, x1, x2, x3, x4, x5, x6 =>
    if x5 = x6 then bd2 (F_X9_isStolen M x1 x2 x3 x4) fun r_25 M_26 => chk (r_25 = 0 ∨ r_25 = 1) (some (r_25, M_26))
    else loop (X9_stealOn_L20 (F_X9_stealOn n) x1 x2 x3 x4 x5 x6) FU (0, M)
set_option maxRecDepth 100000 in
set_option maxHeartbeats 4000000 in
theorem j_X9_stealOn_J99 (rc : Mem → Int32 → Int32 → Int32 → Int32 → Int32 → Int32 → Option (Int32 × Mem)) {n : Nat} (hrc : ∀ (M : Mem) (x1 : Int32) (x2 : Int32) (x3 : Int32) (x4 : Int32) (x5 : Int32) (x6 : Int32) (r : Int32) (M' : Mem), rc M x1 x2 x3 x4 x5 x6 = some (r, M') → Cal yX9_stealOn cX9_stealOn 11 (some .boolean) 0 (8 + n) 0 0 false [vR (some 0), vI x1, vI x2, vI x3, vI x4, vI x5, vI x6] LAYM rfm M (eqp (vI r) LAYM rfm M')) (M : Mem) (x1 : Int32) (x2 : Int32) (x3 : Int32) (x4 : Int32) (x5 : Int32) (x6 : Int32) (x7 : Int32) (x8 : Int32) (x9 : Int32) (s0 : Int32) (s1 : Int32) {Po : Po_} (x : (Int32 × Mem) ⊕ (Int32 × Mem)) (h : X9_stealOn_J99 rc M x1 x2 x3 x4 x5 x6 x7 x8 x9 s0 s1 = some x) (hI : ∀ (ix7 : Int32) (iM : Mem), x = .inl (ix7, iM) → T RX9 cX9_stealOn 11 (some .boolean) 0 (8 + (n + 1)) 0 0 false Po 20 [aR (some 0), aI x1, aI x2, aI x3, aI x4, aI x5, aI x6, aI ix7, aU, aU, aU] [] LAYM rfm iM 0 0) (hE0 : ∀ (er : Int32) (eM : Mem), x = .inr (er, eM) → Po (vI er) LAYM rfm eM) : T RX9 cX9_stealOn 11 (some .boolean) 0 (8 + (n + 1)) 0 0 false Po 99 [aR (some 0), aI x1, aI x2, aI x3, aI x4, aI x5, aI x6, aI x7, aI x8, aI x9, aU] [vI s0, vI s1, vR (some 16)] LAYM rfm M 0 0 := by
  unfold X9_stealOn_J99 at h
  obtain ⟨hi_11, h⟩ := chk_some h
  obtain ⟨M_9, eM_10, h⟩ := lett_some h
  refine T_iast dX9_stealOn_99 lyM_16 (inb_in hi_11) eM_10 ?_
  refine T_aload_n dX9_stealOn_100 rfl ?_
  refine T_getR dX9_stealOn_101 clOK_X9 fl_X9_32 lyM_0 rfl rfl ?_
  refine T_iload dX9_stealOn_104 rfl ?_
  refine T_dup2_11 dX9_stealOn_106 rfl rfl ?_
  obtain ⟨hi_12, h⟩ := chk_some h
  refine T_iald dX9_stealOn_107 lyM_7 (inb_in hi_12) ?_
  refine T_iload dX9_stealOn_108 rfl ?_
  refine T_iadd dX9_stealOn_110 ?_
  obtain ⟨hi_15, h⟩ := chk_some h
  obtain ⟨M_13, eM_14, h⟩ := lett_some h
  refine T_iast dX9_stealOn_111 lyM_7 (inb_in hi_15) eM_14 ?_
  refine T_aload_n dX9_stealOn_112 rfl ?_
  refine T_iload_n dX9_stealOn_113 rfl ?_
  refine T_iload_n dX9_stealOn_114 rfl ?_
  refine T_iload_n dX9_stealOn_115 rfl ?_
  refine T_iload dX9_stealOn_116 rfl ?_
  refine T_iload dX9_stealOn_118 rfl ?_
  refine T_iconst dX9_stealOn_120 ic_1 ?_
  refine T_iadd dX9_stealOn_121 ?_
  refine T_iload dX9_stealOn_122 rfl ?_
  obtain ⟨r_16, M_17, hc_18, h⟩ := bd2_some h
  refine T_cvi (as := [vI x1, vI x2, vI x3, vI x4, vI (x5 + 1), vI x6]) dX9_stealOn_124 cw_X9_stealOn ml_X9_301 mi_X9_stealOn se_X9_stealOn lyM_0 rfl (by decide) rfl (Nat.le_of_ble_eq_true rfl) (by omega) (hrc  M_13 x1 x2 x3 x4 (x5 + 1) x6  _ _ hc_18) ?_
  refine T_istore (i := 10) (L' := [aR (some 0), aI x1, aI x2, aI x3, aI x4, aI x5, aI x6, aI x7, aI x8, aI x9, aI r_16]) dX9_stealOn_127 (Nat.le_of_ble_eq_true rfl) rfl ?_
  refine T_aload_n dX9_stealOn_129 rfl ?_
  refine T_getR dX9_stealOn_130 clOK_X9 fl_X9_32 lyM_0 rfl rfl ?_
  refine T_iload dX9_stealOn_133 rfl ?_
  refine T_dup2_11 dX9_stealOn_135 rfl rfl ?_
  obtain ⟨hi_19, h⟩ := chk_some h
  refine T_iald dX9_stealOn_136 lyM_7 (inb_in hi_19) ?_
  refine T_iload dX9_stealOn_137 rfl ?_
  refine T_isub dX9_stealOn_139 ?_
  obtain ⟨hi_22, h⟩ := chk_some h
  obtain ⟨M_20, eM_21, h⟩ := lett_some h
  refine T_iast dX9_stealOn_140 lyM_7 (inb_in hi_22) eM_21 ?_
  refine T_iload dX9_stealOn_141 rfl ?_
  refine T_if_eq (tgt := 148) dX9_stealOn_143 (by decide) (fun hc => ?_) (fun hc => ?_)
  · have h := it_pos hc h
    obtain ⟨x_23, ex_24, h⟩ := lett_some h
    refine T_iinc (L' := [aR (some 0), aI x1, aI x2, aI x3, aI x4, aI x5, aI x6, aI x_23, aI x8, aI x9, aI r_16]) dX9_stealOn_148 rfl (ic_inc ic_1 ex_24) (Nat.le_of_ble_eq_true rfl) rfl ?_
    refine T_goto (tgt := 20) dX9_stealOn_151 (by decide) ?_
    obtain rfl := sm1 h
    refine T_mask [true, true, true, true, true, true, true, true, false, false, false] rfl ?_
    exact hI _ _ rfl
  · have h := it_neg hc h
    refine T_iconst dX9_stealOn_146 ic_1 ?_
    obtain rfl := sm1 h
    exact T_zret dX9_stealOn_147 (Or.inr rfl) (hE0 _ _ rfl)
set_option maxRecDepth 100000 in
set_option maxHeartbeats 4000000 in
theorem j_X9_stealOn_J54 (rc : Mem → Int32 → Int32 → Int32 → Int32 → Int32 → Int32 → Option (Int32 × Mem)) {n : Nat} (hrc : ∀ (M : Mem) (x1 : Int32) (x2 : Int32) (x3 : Int32) (x4 : Int32) (x5 : Int32) (x6 : Int32) (r : Int32) (M' : Mem), rc M x1 x2 x3 x4 x5 x6 = some (r, M') → Cal yX9_stealOn cX9_stealOn 11 (some .boolean) 0 (8 + n) 0 0 false [vR (some 0), vI x1, vI x2, vI x3, vI x4, vI x5, vI x6] LAYM rfm M (eqp (vI r) LAYM rfm M')) (M : Mem) (x1 : Int32) (x2 : Int32) (x3 : Int32) (x4 : Int32) (x5 : Int32) (x6 : Int32) (x7 : Int32) (x8 : Int32) (s0 : Int32) {Po : Po_} (x : (Int32 × Mem) ⊕ (Int32 × Mem)) (h : X9_stealOn_J54 rc M x1 x2 x3 x4 x5 x6 x7 x8 s0 = some x) (hI : ∀ (ix7 : Int32) (iM : Mem), x = .inl (ix7, iM) → T RX9 cX9_stealOn 11 (some .boolean) 0 (8 + (n + 1)) 0 0 false Po 20 [aR (some 0), aI x1, aI x2, aI x3, aI x4, aI x5, aI x6, aI ix7, aU, aU, aU] [] LAYM rfm iM 0 0) (hE0 : ∀ (er : Int32) (eM : Mem), x = .inr (er, eM) → Po (vI er) LAYM rfm eM) : T RX9 cX9_stealOn 11 (some .boolean) 0 (8 + (n + 1)) 0 0 false Po 54 [aR (some 0), aI x1, aI x2, aI x3, aI x4, aI x5, aI x6, aI x7, aI x8, aU, aU] [vI s0] LAYM rfm M 0 0 := by
  unfold X9_stealOn_J54 at h
  refine T_istore (i := 9) (L' := [aR (some 0), aI x1, aI x2, aI x3, aI x4, aI x5, aI x6, aI x7, aI x8, aI s0, aU]) dX9_stealOn_54 (Nat.le_of_ble_eq_true rfl) rfl ?_
  refine T_aload_n dX9_stealOn_56 rfl ?_
  refine T_getR dX9_stealOn_57 clOK_X9 fl_X9_32 lyM_0 rfl rfl ?_
  refine T_iload dX9_stealOn_60 rfl ?_
  obtain ⟨hi_4, h⟩ := chk_some h
  refine T_iald dX9_stealOn_62 lyM_7 (inb_in hi_4) ?_
  refine T_iload dX9_stealOn_63 rfl ?_
  refine T_iadd dX9_stealOn_65 ?_
  refine T_iconst dX9_stealOn_66 ic_0 ?_
  refine T_iconst dX9_stealOn_67 ic_5 ?_
  obtain ⟨r_5, hc_6, h⟩ := bd1_some h
  refine T_csi (as := [vI ((gI M 7 x8.toNatClampNeg) + s0), vI 0, vI (nI 5)]) dX9_stealOn_68 cw_X9_in ml_X9_79 mt_X9_in rfl (Nat.le_of_ble_eq_true rfl) (by omega) (m_X9_in M ((gI M 7 x8.toNatClampNeg) + s0) 0 (nI 5)  _ hc_6) ?_
  refine T_if_eq (tgt := 148) dX9_stealOn_71 (by decide) (fun hc => ?_) (fun hc => ?_)
  · have h := it_pos hc h
    obtain ⟨x_7, ex_8, h⟩ := lett_some h
    refine T_iinc (L' := [aR (some 0), aI x1, aI x2, aI x3, aI x4, aI x5, aI x6, aI x_7, aI x8, aI s0, aU]) dX9_stealOn_148 rfl (ic_inc ic_1 ex_8) (Nat.le_of_ble_eq_true rfl) rfl ?_
    refine T_goto (tgt := 20) dX9_stealOn_151 (by decide) ?_
    obtain rfl := sm1 h
    refine T_mask [true, true, true, true, true, true, true, true, false, false, true] rfl ?_
    exact hI _ _ rfl
  · have h := it_neg hc h
    refine T_aload_n dX9_stealOn_74 rfl ?_
    refine T_getR dX9_stealOn_75 clOK_X9 fl_X9_59 lyM_0 rfl rfl ?_
    refine T_iload dX9_stealOn_78 rfl ?_
    refine T_iload dX9_stealOn_80 rfl ?_
    refine T_aload_n dX9_stealOn_82 rfl ?_
    refine T_getI dX9_stealOn_83 clOK_X9 fl_X9_155 lyM_0 rfl ?_
    refine T_icmp_ge (tgt := 94) dX9_stealOn_86 (by decide) (fun hc => ?_) (fun hc => ?_)
    · have h := it_pos hc h
      refine T_bipush dX9_stealOn_94 bp_100 ?_
      refine T_iload dX9_stealOn_96 rfl ?_
      refine T_iadd dX9_stealOn_98 ?_
      exact j_X9_stealOn_J99 _ hrc  M x1 x2 x3 x4 x5 x6 x7 x8 s0 ((nI 100) + x8) x5  _ h hI hE0
    · have h := it_neg hc h
      refine T_iload dX9_stealOn_89 rfl ?_
      refine T_goto (tgt := 99) dX9_stealOn_91 (by decide) ?_
      exact j_X9_stealOn_J99 _ hrc  M x1 x2 x3 x4 x5 x6 x7 x8 s0 x8 x5  _ h hI hE0
set_option maxRecDepth 100000 in
set_option maxHeartbeats 4000000 in
theorem s_X9_stealOn_L20 (rc : Mem → Int32 → Int32 → Int32 → Int32 → Int32 → Int32 → Option (Int32 × Mem)) {n : Nat} (hrc : ∀ (M : Mem) (x1 : Int32) (x2 : Int32) (x3 : Int32) (x4 : Int32) (x5 : Int32) (x6 : Int32) (r : Int32) (M' : Mem), rc M x1 x2 x3 x4 x5 x6 = some (r, M') → Cal yX9_stealOn cX9_stealOn 11 (some .boolean) 0 (8 + n) 0 0 false [vR (some 0), vI x1, vI x2, vI x3, vI x4, vI x5, vI x6] LAYM rfm M (eqp (vI r) LAYM rfm M')) (x1 : Int32) (x2 : Int32) (x3 : Int32) (x4 : Int32) (x5 : Int32) (x6 : Int32) (x7 : Int32) (M : Mem) {Po : Po_} (x : (Int32 × Mem) ⊕ (Int32 × Mem)) (h : X9_stealOn_L20 rc x1 x2 x3 x4 x5 x6 (x7, M) = some x) (hI : ∀ (ix7 : Int32) (iM : Mem), x = .inl (ix7, iM) → T RX9 cX9_stealOn 11 (some .boolean) 0 (8 + (n + 1)) 0 0 false Po 20 [aR (some 0), aI x1, aI x2, aI x3, aI x4, aI x5, aI x6, aI ix7, aU, aU, aU] [] LAYM rfm iM 0 0) (hE0 : ∀ (er : Int32) (eM : Mem), x = .inr (er, eM) → Po (vI er) LAYM rfm eM) : T RX9 cX9_stealOn 11 (some .boolean) 0 (8 + (n + 1)) 0 0 false Po 20 [aR (some 0), aI x1, aI x2, aI x3, aI x4, aI x5, aI x6, aI x7, aU, aU, aU] [] LAYM rfm M 0 0 := by
  unfold X9_stealOn_L20 at h
  simp only at h
  refine T_iload dX9_stealOn_20 rfl ?_
  refine T_iconst dX9_stealOn_22 ic_2 ?_
  refine T_aload_n dX9_stealOn_23 rfl ?_
  refine T_getI dX9_stealOn_24 clOK_X9 fl_X9_155 lyM_0 rfl ?_
  refine T_imul dX9_stealOn_27 ?_
  refine T_icmp_ge (tgt := 154) dX9_stealOn_28 (by decide) (fun hc => ?_) (fun hc => ?_)
  · have h := it_pos hc h
    refine T_iconst dX9_stealOn_154 ic_0 ?_
    obtain rfl := sm1 h
    exact T_zret dX9_stealOn_155 (Or.inl rfl) (hE0 _ _ rfl)
  · have h := it_neg hc h
    refine T_iload dX9_stealOn_31 rfl ?_
    refine T_aload_n dX9_stealOn_33 rfl ?_
    refine T_getI dX9_stealOn_34 clOK_X9 fl_X9_155 lyM_0 rfl ?_
    obtain ⟨hz_1, h⟩ := chk_some h
    refine T_irem dX9_stealOn_37 hz_1 ?_
    obtain ⟨x_2, ex_3, h⟩ := lett_some h
    refine T_topI ex_3 ?_
    refine T_istore (i := 8) (L' := [aR (some 0), aI x1, aI x2, aI x3, aI x4, aI x5, aI x6, aI x7, aI x_2, aU, aU]) dX9_stealOn_38 (Nat.le_of_ble_eq_true rfl) rfl ?_
    refine T_iload dX9_stealOn_40 rfl ?_
    refine T_aload_n dX9_stealOn_42 rfl ?_
    refine T_getI dX9_stealOn_43 clOK_X9 fl_X9_155 lyM_0 rfl ?_
    refine T_icmp_ge (tgt := 53) dX9_stealOn_46 (by decide) (fun hc => ?_) (fun hc => ?_)
    · have h := it_pos hc h
      refine T_iconst dX9_stealOn_53 ic_m1 ?_
      exact j_X9_stealOn_J54 _ hrc  M x1 x2 x3 x4 x5 x6 x7 x_2 (-1)  _ h hI hE0
    · have h := it_neg hc h
      refine T_iconst dX9_stealOn_49 ic_1 ?_
      refine T_goto (tgt := 54) dX9_stealOn_50 (by decide) ?_
      exact j_X9_stealOn_J54 _ hrc  M x1 x2 x3 x4 x5 x6 x7 x_2 1  _ h hI hE0
set_option maxRecDepth 100000 in
set_option maxHeartbeats 4000000 in
theorem l_X9_stealOn_L20 (rc : Mem → Int32 → Int32 → Int32 → Int32 → Int32 → Int32 → Option (Int32 × Mem)) {n : Nat} (hrc : ∀ (M : Mem) (x1 : Int32) (x2 : Int32) (x3 : Int32) (x4 : Int32) (x5 : Int32) (x6 : Int32) (r : Int32) (M' : Mem), rc M x1 x2 x3 x4 x5 x6 = some (r, M') → Cal yX9_stealOn cX9_stealOn 11 (some .boolean) 0 (8 + n) 0 0 false [vR (some 0), vI x1, vI x2, vI x3, vI x4, vI x5, vI x6] LAYM rfm M (eqp (vI r) LAYM rfm M')) (x1 : Int32) (x2 : Int32) (x3 : Int32) (x4 : Int32) (x5 : Int32) (x6 : Int32) {Po : Po_} (er : Int32) (eM : Mem) : ∀ (k : Nat) (x7 : Int32) (M : Mem), loop (X9_stealOn_L20 rc x1 x2 x3 x4 x5 x6) k (x7, M) = some (er, eM) → (Po (vI er) LAYM rfm eM) → T RX9 cX9_stealOn 11 (some .boolean) 0 (8 + (n + 1)) 0 0 false Po 20 [aR (some 0), aI x1, aI x2, aI x3, aI x4, aI x5, aI x6, aI x7, aU, aU, aU] [] LAYM rfm M 0 0 := by
  intro k
  induction k with
  | zero => intro x7 M h; cases h
  | succ k ih =>
    intro x7 M h hE
    obtain ⟨x, hx, hx1, hx2⟩ := loop_succ h
    exact s_X9_stealOn_L20 rc hrc  x1 x2 x3 x4 x5 x6  x7 M x hx (fun q0 q1 e => ih q0 q1 (hx1 _ e) hE) (fun q0 q1 e => by cases hx2 _ e; exact hE)
set_option maxRecDepth 100000 in
set_option maxHeartbeats 4000000 in
theorem m_X9_stealOn : ∀ (n : Nat) (M : Mem) (x1 : Int32) (x2 : Int32) (x3 : Int32) (x4 : Int32) (x5 : Int32) (x6 : Int32) (r : Int32) (M' : Mem), F_X9_stealOn n M x1 x2 x3 x4 x5 x6 = some (r, M') → Cal yX9_stealOn cX9_stealOn 11 (some .boolean) 0 (8 + n) 0 0 false [vR (some 0), vI x1, vI x2, vI x3, vI x4, vI x5, vI x6] LAYM rfm M (eqp (vI r) LAYM rfm M') := by
  intro n
  induction n with
  | zero => intro M x1 x2 x3 x4 x5 x6 r M' h; cases h
  | succ n ih =>
    intro M x1 x2 x3 x4 x5 x6 r M' h
    refine Cal.of (by decide +kernel) (Nat.le_of_ble_eq_true rfl) (fun h => by cases h) ?_
    simp only [F_X9_stealOn] at h
    show T RX9 cX9_stealOn 11 (some .boolean) 0 (8 + (n + 1)) 0 0 false (eqp (vI r) LAYM rfm M') 0 [aR (some 0), aI x1, aI x2, aI x3, aI x4, aI x5, aI x6, aU, aU, aU, aU] [] LAYM rfm M 0 0
    refine T_iload dX9_stealOn_0 rfl ?_
    refine T_iload dX9_stealOn_2 rfl ?_
    refine T_icmp_ne (tgt := 17) dX9_stealOn_4 (by decide) (fun hc => ?_) (fun hc => ?_)
    · have h := it_neg hc h
      refine T_iconst dX9_stealOn_17 ic_0 ?_
      refine T_istore (i := 7) (L' := [aR (some 0), aI x1, aI x2, aI x3, aI x4, aI x5, aI x6, aI 0, aU, aU, aU]) dX9_stealOn_18 (Nat.le_of_ble_eq_true rfl) rfl ?_
      exact l_X9_stealOn_L20 _ ih  x1 x2 x3 x4 x5 x6  _ _ FU 0 M h ⟨rfl, rfl, rfl, rfl⟩
    · have h := it_pos hc h
      refine T_aload_n dX9_stealOn_7 rfl ?_
      refine T_iload_n dX9_stealOn_8 rfl ?_
      refine T_iload_n dX9_stealOn_9 rfl ?_
      refine T_iload_n dX9_stealOn_10 rfl ?_
      refine T_iload dX9_stealOn_11 rfl ?_
      obtain ⟨r_25, M_26, hc_27, h⟩ := bd2_some h
      refine T_cvi (as := [vI x1, vI x2, vI x3, vI x4]) dX9_stealOn_13 cw_X9_isStolen ml_X9_298 mi_X9_isStolen se_X9_isStolen lyM_0 rfl (by decide) rfl (Nat.le_of_ble_eq_true rfl) (by omega) (m_X9_isStolen  M x1 x2 x3 x4  _ _ hc_27) ?_
      obtain ⟨hb_28, h⟩ := chk_some h
      obtain ⟨rfl, rfl⟩ := sm2 h
      exact T_zret dX9_stealOn_16 hb_28 ⟨rfl, rfl, rfl, rfl⟩
def X9_steal_L71 (x1 : Int32) (x2 : Int32) (x3 : Int32) (x4 : Int32) (x5 : Int32) : Int32 × Mem → Option ((Int32 × Mem) ⊕ ((Int32 × Mem) ⊕ (Int32 × Mem)))
  | (x7, M) =>
    if (nI 4) ≤ x7 then some (.inr (.inr ((-9), M)))
    else bd2 (F_X9_stealOn 8 M x1 x2 x3 x4 0 x7) fun r_5 M_6 => if r_5 = 0 then lett (x7 + 1) fun x_8 => some (.inl (x_8, M_6))
    else some (.inr (.inl (x7, M_6)))
def X9_steal_L104 (x5 : Int32) (x7 : Int32) : Int32 × Mem → Option ((Int32 × Mem) ⊕ (Int32 × Mem))
  | (x8, M) =>
    if x7 ≤ x8 then some (.inr (x7, M))
    else chk (inb x8 3 = true) (bd1 (F_X9_setRow M x5 x8 (gI M 16 x8.toNatClampNeg)) fun M_17 => lett (x8 + 1) fun x_19 => some (.inl (x_19, M_17)))
def X9_steal_J42 (M : Mem) (x1 : Int32) (x2 : Int32) (x3 : Int32) (x4 : Int32) (x5 : Int32) (s0 : Int32) : Option (Int32 × Mem) :=
 if 0 ≤ s0 then bd1 (F_X9_in x3 0 ((gI M 0 25) - 1)) fun r_3 => if r_3 = 0 then some ((-1), M)
 else bd1 (loop (X9_steal_L71 x1 x2 x3 x4 x5) FU (0, M)) (Sum.elim (un2 fun x_11 M_12 => bd2 (F_X9_row M_12 x5 x_11) fun r_13 M_14 => loop (X9_steal_L104 x5 x_11) FU (0, M_14)) (un2 fun r_21 r_22 => some (r_21, r_22)))
 else some (s0, M)
def X9_steal_J33 (M : Mem) (x1 : Int32) (x2 : Int32) (x3 : Int32) (x4 : Int32) (x5 : Int32) : Option (Int32 × Mem) :=
 X9_steal_J42 M x1 x2 x3 x4 x5 (-1)
def F_X9_steal (M : Mem) (x1 : Int32) (x2 : Int32) (x3 : Int32) (x4 : Int32) (x5 : Int32) : Option (Int32 × Mem) :=
 bd1 (F_X9_isLaw M x1) fun r_1 => if r_1 = 0 then X9_steal_J33 M x1 x2 x3 x4 x5
 else bd1 (F_X9_isImage x2) fun r_23 => if r_23 = 0 then X9_steal_J33 M x1 x2 x3 x4 x5
 else bd1 (F_X9_in x4 0 (nI 3)) fun r_25 => if r_25 = 0 then X9_steal_J33 M x1 x2 x3 x4 x5
 else bd1 (F_X9_isRow x5) fun r_27 => if r_27 = 0 then X9_steal_J33 M x1 x2 x3 x4 x5
 else bd2 (F_X9_needImage M x2) fun r_29 M_30 => X9_steal_J42 M_30 x1 x2 x3 x4 x5 r_29
set_option maxRecDepth 100000 in
set_option maxHeartbeats 4000000 in
theorem s_X9_steal_L71 (x1 : Int32) (x2 : Int32) (x3 : Int32) (x4 : Int32) (x5 : Int32) (x7 : Int32) (M : Mem) {Po : Po_} (x : (Int32 × Mem) ⊕ ((Int32 × Mem) ⊕ (Int32 × Mem))) (h : X9_steal_L71 x1 x2 x3 x4 x5 (x7, M) = some x) (hI : ∀ (ix7 : Int32) (iM : Mem), x = .inl (ix7, iM) → T RX9 cX9_steal 9 (some .int) 0 17 0 0 false Po 71 [aR (some 0), aI x1, aI x2, aI x3, aI x4, aI x5, aU, aI ix7, aU] [] LAYM rfm iM 0 0) (hE0 : ∀ (e7 : Int32) (eM : Mem), x = .inr (.inl (e7, eM)) → T RX9 cX9_steal 9 (some .int) 0 17 0 0 false Po 92 [aR (some 0), aU, aU, aU, aU, aI x5, aU, aI e7, aU] [] LAYM rfm eM 0 0) (hE1 : ∀ (er : Int32) (eM : Mem), x = .inr (.inr (er, eM)) → Po (vI er) LAYM rfm eM) : T RX9 cX9_steal 9 (some .int) 0 17 0 0 false Po 71 [aR (some 0), aI x1, aI x2, aI x3, aI x4, aI x5, aU, aI x7, aU] [] LAYM rfm M 0 0 := by
  unfold X9_steal_L71 at h
  simp only at h
  refine T_iload dX9_steal_71 rfl ?_
  refine T_iconst dX9_steal_73 ic_4 ?_
  refine T_icmp_ge (tgt := 141) dX9_steal_74 (by decide) (fun hc => ?_) (fun hc => ?_)
  · have h := it_pos hc h
    refine T_bipush dX9_steal_141 bp_m9 ?_
    obtain rfl := sm1 h
    exact T_iret dX9_steal_143 (hE1 _ _ rfl)
  · have h := it_neg hc h
    refine T_aload_n dX9_steal_77 rfl ?_
    refine T_iload_n dX9_steal_78 rfl ?_
    refine T_iload_n dX9_steal_79 rfl ?_
    refine T_iload_n dX9_steal_80 rfl ?_
    refine T_iload dX9_steal_81 rfl ?_
    refine T_iconst dX9_steal_83 ic_0 ?_
    refine T_iload dX9_steal_84 rfl ?_
    obtain ⟨r_5, M_6, hc_7, h⟩ := bd2_some h
    refine T_cvi (as := [vI x1, vI x2, vI x3, vI x4, vI 0, vI x7]) dX9_steal_86 cw_X9_stealOn ml_X9_301 mi_X9_stealOn se_X9_stealOn lyM_0 rfl (by decide) rfl (Nat.le_of_ble_eq_true rfl) (by omega) (m_X9_stealOn 8  M x1 x2 x3 x4 0 x7  _ _ hc_7) ?_
    refine T_if_eq (tgt := 135) dX9_steal_89 (by decide) (fun hc => ?_) (fun hc => ?_)
    · have h := it_pos hc h
      obtain ⟨x_8, ex_9, h⟩ := lett_some h
      refine T_iinc (L' := [aR (some 0), aI x1, aI x2, aI x3, aI x4, aI x5, aU, aI x_8, aU]) dX9_steal_135 rfl (ic_inc ic_1 ex_9) (Nat.le_of_ble_eq_true rfl) rfl ?_
      refine T_goto (tgt := 71) dX9_steal_138 (by decide) ?_
      obtain rfl := sm1 h
      exact hI _ _ rfl
    · have h := it_neg hc h
      obtain rfl := sm1 h
      refine T_mask [true, false, false, false, false, true, true, true, true] rfl ?_
      exact hE0 _ _ rfl
set_option maxRecDepth 100000 in
set_option maxHeartbeats 4000000 in
theorem l_X9_steal_L71 (x1 : Int32) (x2 : Int32) (x3 : Int32) (x4 : Int32) (x5 : Int32) {Po : Po_} (e : ((Int32 × Mem) ⊕ (Int32 × Mem))) : ∀ (k : Nat) (x7 : Int32) (M : Mem), loop (X9_steal_L71 x1 x2 x3 x4 x5) k (x7, M) = some e → (∀ (e7 : Int32) (eM : Mem), e = (.inl (e7, eM)) → T RX9 cX9_steal 9 (some .int) 0 17 0 0 false Po 92 [aR (some 0), aU, aU, aU, aU, aI x5, aU, aI e7, aU] [] LAYM rfm eM 0 0) → (∀ (er : Int32) (eM : Mem), e = (.inr (er, eM)) → Po (vI er) LAYM rfm eM) → T RX9 cX9_steal 9 (some .int) 0 17 0 0 false Po 71 [aR (some 0), aI x1, aI x2, aI x3, aI x4, aI x5, aU, aI x7, aU] [] LAYM rfm M 0 0 := by
  intro k
  induction k with
  | zero => intro x7 M h; cases h
  | succ k ih =>
    intro x7 M h hE0 hE1
    obtain ⟨x, hx, hx1, hx2⟩ := loop_succ h
    exact s_X9_steal_L71  x1 x2 x3 x4 x5  x7 M x hx (fun q0 q1 ee => ih q0 q1 (hx1 _ ee) hE0 hE1) (fun q0 q1 ee => hE0 q0 q1 (hx2 _ ee).symm) (fun q0 q1 ee => hE1 q0 q1 (hx2 _ ee).symm)
set_option maxRecDepth 100000 in
set_option maxHeartbeats 4000000 in
theorem s_X9_steal_L104 (x5 : Int32) (x7 : Int32) (x8 : Int32) (M : Mem) {Po : Po_} (x : (Int32 × Mem) ⊕ (Int32 × Mem)) (h : X9_steal_L104 x5 x7 (x8, M) = some x) (hI : ∀ (ix8 : Int32) (iM : Mem), x = .inl (ix8, iM) → T RX9 cX9_steal 9 (some .int) 0 17 0 0 false Po 104 [aR (some 0), aU, aU, aU, aU, aI x5, aU, aI x7, aI ix8] [] LAYM rfm iM 0 0) (hE0 : ∀ (er : Int32) (eM : Mem), x = .inr (er, eM) → Po (vI er) LAYM rfm eM) : T RX9 cX9_steal 9 (some .int) 0 17 0 0 false Po 104 [aR (some 0), aU, aU, aU, aU, aI x5, aU, aI x7, aI x8] [] LAYM rfm M 0 0 := by
  unfold X9_steal_L104 at h
  simp only at h
  refine T_iload dX9_steal_104 rfl ?_
  refine T_iload dX9_steal_106 rfl ?_
  refine T_icmp_ge (tgt := 132) dX9_steal_108 (by decide) (fun hc => ?_) (fun hc => ?_)
  · have h := it_pos hc h
    refine T_iload dX9_steal_132 rfl ?_
    obtain rfl := sm1 h
    exact T_iret dX9_steal_134 (hE0 _ _ rfl)
  · have h := it_neg hc h
    refine T_aload_n dX9_steal_111 rfl ?_
    refine T_iload dX9_steal_112 rfl ?_
    refine T_iload dX9_steal_114 rfl ?_
    refine T_aload_n dX9_steal_116 rfl ?_
    refine T_getR dX9_steal_117 clOK_X9 fl_X9_59 lyM_0 rfl rfl ?_
    refine T_iload dX9_steal_120 rfl ?_
    obtain ⟨hi_16, h⟩ := chk_some h
    refine T_iald dX9_steal_122 lyM_16 (inb_in hi_16) ?_
    obtain ⟨M_17, hc_18, h⟩ := bd1_some h
    refine T_cvv (as := [vI x5, vI x8, vI (gI M 16 x8.toNatClampNeg)]) dX9_steal_123 cw_X9_setRow ml_X9_94 mi_X9_setRow se_X9_setRow lyM_0 rfl (by decide) rfl (Nat.le_of_ble_eq_true rfl) (Nat.le_of_ble_eq_true rfl) (m_X9_setRow  M x5 x8 (gI M 16 x8.toNatClampNeg)  _ hc_18) ?_
    obtain ⟨x_19, ex_20, h⟩ := lett_some h
    refine T_iinc (L' := [aR (some 0), aU, aU, aU, aU, aI x5, aU, aI x7, aI x_19]) dX9_steal_126 rfl (ic_inc ic_1 ex_20) (Nat.le_of_ble_eq_true rfl) rfl ?_
    refine T_goto (tgt := 104) dX9_steal_129 (by decide) ?_
    obtain rfl := sm1 h
    exact hI _ _ rfl
set_option maxRecDepth 100000 in
set_option maxHeartbeats 4000000 in
theorem l_X9_steal_L104 (x5 : Int32) (x7 : Int32) {Po : Po_} (er : Int32) (eM : Mem) : ∀ (k : Nat) (x8 : Int32) (M : Mem), loop (X9_steal_L104 x5 x7) k (x8, M) = some (er, eM) → (Po (vI er) LAYM rfm eM) → T RX9 cX9_steal 9 (some .int) 0 17 0 0 false Po 104 [aR (some 0), aU, aU, aU, aU, aI x5, aU, aI x7, aI x8] [] LAYM rfm M 0 0 := by
  intro k
  induction k with
  | zero => intro x8 M h; cases h
  | succ k ih =>
    intro x8 M h hE
    obtain ⟨x, hx, hx1, hx2⟩ := loop_succ h
    exact s_X9_steal_L104  x5 x7  x8 M x hx (fun q0 q1 e => ih q0 q1 (hx1 _ e) hE) (fun q0 q1 e => by cases hx2 _ e; exact hE)
set_option maxRecDepth 100000 in
set_option maxHeartbeats 4000000 in
theorem j_X9_steal_J42 (M : Mem) (x1 : Int32) (x2 : Int32) (x3 : Int32) (x4 : Int32) (x5 : Int32) (s0 : Int32) (r : Int32) (M' : Mem) (h : X9_steal_J42 M x1 x2 x3 x4 x5 s0 = some (r, M')) : T RX9 cX9_steal 9 (some .int) 0 17 0 0 false (eqp (vI r) LAYM rfm M') 42 [aR (some 0), aI x1, aI x2, aI x3, aI x4, aI x5, aU, aU, aU] [vI s0] LAYM rfm M 0 0 := by
  unfold X9_steal_J42 at h
  refine T_istore (i := 6) (L' := [aR (some 0), aI x1, aI x2, aI x3, aI x4, aI x5, aI s0, aU, aU]) dX9_steal_42 (Nat.le_of_ble_eq_true rfl) rfl ?_
  refine T_iload dX9_steal_44 rfl ?_
  refine T_if_ge (tgt := 52) dX9_steal_46 (by decide) (fun hc => ?_) (fun hc => ?_)
  · have h := it_pos hc h
    refine T_iload_n dX9_steal_52 rfl ?_
    refine T_iconst dX9_steal_53 ic_0 ?_
    refine T_aload_n dX9_steal_54 rfl ?_
    refine T_getI dX9_steal_55 clOK_X9 fl_X9_277 lyM_0 rfl ?_
    refine T_iconst dX9_steal_58 ic_1 ?_
    refine T_isub dX9_steal_59 ?_
    obtain ⟨r_3, hc_4, h⟩ := bd1_some h
    refine T_csi (as := [vI x3, vI 0, vI ((gI M 0 25) - 1)]) dX9_steal_60 cw_X9_in ml_X9_79 mt_X9_in rfl (Nat.le_of_ble_eq_true rfl) (Nat.le_of_ble_eq_true rfl) (m_X9_in M x3 0 ((gI M 0 25) - 1)  _ hc_4) ?_
    refine T_if_ne (tgt := 68) dX9_steal_63 (by decide) (fun hc => ?_) (fun hc => ?_)
    · have h := it_neg hc h
      refine T_iconst dX9_steal_68 ic_0 ?_
      refine T_istore (i := 7) (L' := [aR (some 0), aI x1, aI x2, aI x3, aI x4, aI x5, aI s0, aI 0, aU]) dX9_steal_69 (Nat.le_of_ble_eq_true rfl) rfl ?_
      obtain ⟨e_10, hl, h⟩ := bd1_some h
      refine T_mask [true, true, true, true, true, true, false, true, true] rfl ?_
      refine l_X9_steal_L71  x1 x2 x3 x4 x5  e_10 FU 0 M hl ?_ ?_
      · intro x_11 M_12 ee
        subst ee
        have h := elim_l h
        have h := un2_ap h
        refine T_aload_n dX9_steal_92 rfl ?_
        refine T_iload dX9_steal_93 rfl ?_
        refine T_iload dX9_steal_95 rfl ?_
        obtain ⟨r_13, M_14, hc_15, h⟩ := bd2_some h
        refine T_cvi (as := [vI x5, vI x_11]) dX9_steal_97 cw_X9_row ml_X9_305 mi_X9_row se_X9_row lyM_0 rfl (by decide) rfl (Nat.le_of_ble_eq_true rfl) (Nat.le_of_ble_eq_true rfl) (m_X9_row  M_12 x5 x_11  _ _ hc_15) ?_
        refine T_pop dX9_steal_100 rfl ?_
        refine T_iconst dX9_steal_101 ic_0 ?_
        refine T_istore (i := 8) (L' := [aR (some 0), aU, aU, aU, aU, aI x5, aU, aI x_11, aI 0]) dX9_steal_102 (Nat.le_of_ble_eq_true rfl) rfl ?_
        exact l_X9_steal_L104  x5 x_11  _ _ FU 0 M_14 h ⟨rfl, rfl, rfl, rfl⟩
      · intro r_21 r_22 ee
        subst ee
        have h := elim_r h
        have h := un2_ap h
        obtain ⟨rfl, rfl⟩ := sm2 h
        exact ⟨rfl, rfl, rfl, rfl⟩
    · have h := it_pos hc h
      refine T_iconst dX9_steal_66 ic_m1 ?_
      obtain ⟨rfl, rfl⟩ := sm2 h
      exact T_iret dX9_steal_67 ⟨rfl, rfl, rfl, rfl⟩
  · have h := it_neg hc h
    refine T_iload dX9_steal_49 rfl ?_
    obtain ⟨rfl, rfl⟩ := sm2 h
    exact T_iret dX9_steal_51 ⟨rfl, rfl, rfl, rfl⟩
set_option maxRecDepth 100000 in
set_option maxHeartbeats 4000000 in
theorem j_X9_steal_J33 (M : Mem) (x1 : Int32) (x2 : Int32) (x3 : Int32) (x4 : Int32) (x5 : Int32) (r : Int32) (M' : Mem) (h : X9_steal_J33 M x1 x2 x3 x4 x5 = some (r, M')) : T RX9 cX9_steal 9 (some .int) 0 17 0 0 false (eqp (vI r) LAYM rfm M') 33 [aR (some 0), aI x1, aI x2, aI x3, aI x4, aI x5, aU, aU, aU] [] LAYM rfm M 0 0 := by
  unfold X9_steal_J33 at h
  refine T_iconst dX9_steal_33 ic_m1 ?_
  refine T_goto (tgt := 42) dX9_steal_34 (by decide) ?_
  exact j_X9_steal_J42  M x1 x2 x3 x4 x5 (-1)  _ _ h
set_option maxRecDepth 100000 in
set_option maxHeartbeats 4000000 in
theorem m_X9_steal (M : Mem) (x1 : Int32) (x2 : Int32) (x3 : Int32) (x4 : Int32) (x5 : Int32) (r : Int32) (M' : Mem) (h : F_X9_steal M x1 x2 x3 x4 x5 = some (r, M')) : Cal yX9_steal cX9_steal 9 (some .int) 0 17 0 0 false [vR (some 0), vI x1, vI x2, vI x3, vI x4, vI x5] LAYM rfm M (eqp (vI r) LAYM rfm M') := by
  refine Cal.of (by decide +kernel) (Nat.le_of_ble_eq_true rfl) (fun h => by cases h) ?_
  unfold F_X9_steal at h
  show T RX9 cX9_steal 9 (some .int) 0 17 0 0 false (eqp (vI r) LAYM rfm M') 0 [aR (some 0), aI x1, aI x2, aI x3, aI x4, aI x5, aU, aU, aU] [] LAYM rfm M 0 0
  refine T_aload_n dX9_steal_0 rfl ?_
  refine T_iload_n dX9_steal_1 rfl ?_
  obtain ⟨r_1, hc_2, h⟩ := bd1_some h
  refine T_cvi (as := [vI x1]) dX9_steal_2 cw_X9_isLaw ml_X9_218 mi_X9_isLaw se_X9_isLaw lyM_0 rfl (by decide) rfl (Nat.le_of_ble_eq_true rfl) (Nat.le_of_ble_eq_true rfl) (m_X9_isLaw  M x1  _ hc_2) ?_
  refine T_if_eq (tgt := 33) dX9_steal_5 (by decide) (fun hc => ?_) (fun hc => ?_)
  · have h := it_pos hc h
    exact j_X9_steal_J33  M x1 x2 x3 x4 x5  _ _ h
  · have h := it_neg hc h
    refine T_iload_n dX9_steal_8 rfl ?_
    obtain ⟨r_23, hc_24, h⟩ := bd1_some h
    refine T_csi (as := [vI x2]) dX9_steal_9 cw_X9_isImage ml_X9_274 mt_X9_isImage rfl (Nat.le_of_ble_eq_true rfl) (Nat.le_of_ble_eq_true rfl) (m_X9_isImage M x2  _ hc_24) ?_
    refine T_if_eq (tgt := 33) dX9_steal_12 (by decide) (fun hc => ?_) (fun hc => ?_)
    · have h := it_pos hc h
      exact j_X9_steal_J33  M x1 x2 x3 x4 x5  _ _ h
    · have h := it_neg hc h
      refine T_iload dX9_steal_15 rfl ?_
      refine T_iconst dX9_steal_17 ic_0 ?_
      refine T_iconst dX9_steal_18 ic_3 ?_
      obtain ⟨r_25, hc_26, h⟩ := bd1_some h
      refine T_csi (as := [vI x4, vI 0, vI (nI 3)]) dX9_steal_19 cw_X9_in ml_X9_79 mt_X9_in rfl (Nat.le_of_ble_eq_true rfl) (Nat.le_of_ble_eq_true rfl) (m_X9_in M x4 0 (nI 3)  _ hc_26) ?_
      refine T_if_eq (tgt := 33) dX9_steal_22 (by decide) (fun hc => ?_) (fun hc => ?_)
      · have h := it_pos hc h
        exact j_X9_steal_J33  M x1 x2 x3 x4 x5  _ _ h
      · have h := it_neg hc h
        refine T_iload dX9_steal_25 rfl ?_
        obtain ⟨r_27, hc_28, h⟩ := bd1_some h
        refine T_csi (as := [vI x5]) dX9_steal_27 cw_X9_isRow ml_X9_83 mt_X9_isRow rfl (Nat.le_of_ble_eq_true rfl) (Nat.le_of_ble_eq_true rfl) (m_X9_isRow M x5  _ hc_28) ?_
        refine T_if_ne (tgt := 37) dX9_steal_30 (by decide) (fun hc => ?_) (fun hc => ?_)
        · have h := it_neg hc h
          refine T_aload_n dX9_steal_37 rfl ?_
          refine T_iload_n dX9_steal_38 rfl ?_
          obtain ⟨r_29, M_30, hc_31, h⟩ := bd2_some h
          refine T_cvi (as := [vI x2]) dX9_steal_39 cw_X9_needImage ml_X9_280 mi_X9_needImage se_X9_needImage lyM_0 rfl (by decide) rfl (Nat.le_of_ble_eq_true rfl) (Nat.le_of_ble_eq_true rfl) (m_X9_needImage  M x2  _ _ hc_31) ?_
          exact j_X9_steal_J42  M_30 x1 x2 x3 x4 x5 r_29  _ _ h
        · have h := it_pos hc h
          exact j_X9_steal_J33  M x1 x2 x3 x4 x5  _ _ h
def X9_share_L24 (M : Mem) (x1 : Int32) (x2 : Int32) : Int32 × Int32 → Option ((Int32 × Int32) ⊕ (Int32))
  | (x3, x4) =>
    if (gI M 0 11) ≤ x4 then some (.inr x3)
    else chk (inb x1 8 = true) (bd1 (F_X9_has (gI M 11 x1.toNatClampNeg) x4) fun r_7 => if r_7 = 0 then lett (x3 + 0) fun x_9 => lett (x4 + 1) fun x_11 => some (.inl (x_9, x_11))
    else chk (¬ (gI M 0 10) = 0) (chk (inb (irm x4 (gI M 0 10)) 4 = true) (if (gI M 8 (irm x4 (gI M 0 10)).toNatClampNeg) = x2 then chk (inb x4 16 = true) (lett (x3 + (gI M 7 x4.toNatClampNeg)) fun x_20 => lett (x4 + 1) fun x_22 => some (.inl (x_20, x_22)))
    else lett (x3 + 0) fun x_15 => lett (x4 + 1) fun x_17 => some (.inl (x_15, x_17)))))
def F_X9_share (M : Mem) (x1 : Int32) (x2 : Int32) : Option (Int32 × Mem) :=
 bd2 (F_X9_isHole M x1) fun r_1 M_2 => if r_1 = 0 then some ((-1), M_2)
 else bd1 (F_X9_in x2 0 (nI 3)) fun r_4 => if r_4 = 0 then some ((-1), M_2)
 else bd1 (loop (X9_share_L24 M_2 x1 x2) FU (0, 0)) fun x_24 => chk (inb x1 8 = true) (bd1 (F_X9_volume M_2 7 0 (gI M_2 11 x1.toNatClampNeg)) fun r_26 => bd2 (F_X9_part M_2 x_24.toInt64 r_26.toInt64) fun r_28 M_29 => some (r_28, M_29))
set_option maxRecDepth 100000 in
set_option maxHeartbeats 4000000 in
theorem s_X9_share_L24 (M : Mem) (x1 : Int32) (x2 : Int32) (x3 : Int32) (x4 : Int32) {Po : Po_} (x : (Int32 × Int32) ⊕ (Int32)) (h : X9_share_L24 M x1 x2 (x3, x4) = some x) (hI : ∀ (ix3 : Int32) (ix4 : Int32), x = .inl (ix3, ix4) → T RX9 cX9_share 5 (some .int) 0 6 0 0 false Po 24 [aR (some 0), aI x1, aI x2, aI ix3, aI ix4] [] LAYM rfm M 0 0) (hE0 : ∀ (e3 : Int32), x = .inr e3 → T RX9 cX9_share 5 (some .int) 0 6 0 0 false Po 83 [aR (some 0), aI x1, aU, aI e3, aU] [] LAYM rfm M 0 0) : T RX9 cX9_share 5 (some .int) 0 6 0 0 false Po 24 [aR (some 0), aI x1, aI x2, aI x3, aI x4] [] LAYM rfm M 0 0 := by
  unfold X9_share_L24 at h
  simp only at h
  refine T_iload dX9_share_24 rfl ?_
  refine T_aload_n dX9_share_26 rfl ?_
  refine T_getI dX9_share_27 clOK_X9 fl_X9_155 lyM_0 rfl ?_
  refine T_icmp_ge (tgt := 83) dX9_share_30 (by decide) (fun hc => ?_) (fun hc => ?_)
  · have h := it_pos hc h
    obtain rfl := sm1 h
    refine T_mask [true, true, false, true, false] rfl ?_
    exact hE0 _ rfl
  · have h := it_neg hc h
    refine T_iload_n dX9_share_33 rfl ?_
    refine T_aload_n dX9_share_34 rfl ?_
    refine T_getR dX9_share_35 clOK_X9 fl_X9_44 lyM_0 rfl rfl ?_
    refine T_iload_n dX9_share_38 rfl ?_
    obtain ⟨hi_6, h⟩ := chk_some h
    refine T_iald dX9_share_39 lyM_11 (inb_in hi_6) ?_
    refine T_iload dX9_share_40 rfl ?_
    obtain ⟨r_7, hc_8, h⟩ := bd1_some h
    refine T_csi (as := [vI (gI M 11 x1.toNatClampNeg), vI x4]) dX9_share_42 cw_X9_has ml_X9_170 mt_X9_has rfl (Nat.le_of_ble_eq_true rfl) (Nat.le_of_ble_eq_true rfl) (m_X9_has M (gI M 11 x1.toNatClampNeg) x4  _ hc_8) ?_
    refine T_if_eq (tgt := 74) dX9_share_45 (by decide) (fun hc => ?_) (fun hc => ?_)
    · have h := it_pos hc h
      refine T_iconst dX9_share_74 ic_0 ?_
      refine T_iadd dX9_share_75 ?_
      obtain ⟨x_9, ex_10, h⟩ := lett_some h
      refine T_topI ex_10 ?_
      refine T_istore_n (i := 3) (L' := [aR (some 0), aI x1, aI x2, aI x_9, aI x4]) dX9_share_76 rfl (Nat.le_of_ble_eq_true rfl) rfl ?_
      obtain ⟨x_11, ex_12, h⟩ := lett_some h
      refine T_iinc (L' := [aR (some 0), aI x1, aI x2, aI x_9, aI x_11]) dX9_share_77 rfl (ic_inc ic_1 ex_12) (Nat.le_of_ble_eq_true rfl) rfl ?_
      refine T_goto (tgt := 24) dX9_share_80 (by decide) ?_
      obtain rfl := sm1 h
      exact hI _ _ rfl
    · have h := it_neg hc h
      refine T_aload_n dX9_share_48 rfl ?_
      refine T_getR dX9_share_49 clOK_X9 fl_X9_35 lyM_0 rfl rfl ?_
      refine T_iload dX9_share_52 rfl ?_
      refine T_aload_n dX9_share_54 rfl ?_
      refine T_getI dX9_share_55 clOK_X9 fl_X9_158 lyM_0 rfl ?_
      obtain ⟨hz_13, h⟩ := chk_some h
      refine T_irem dX9_share_58 hz_13 ?_
      obtain ⟨hi_14, h⟩ := chk_some h
      refine T_iald dX9_share_59 lyM_8 (inb_in hi_14) ?_
      refine T_iload_n dX9_share_60 rfl ?_
      refine T_icmp_ne (tgt := 74) dX9_share_61 (by decide) (fun hc => ?_) (fun hc => ?_)
      · have h := it_neg hc h
        refine T_iconst dX9_share_74 ic_0 ?_
        refine T_iadd dX9_share_75 ?_
        obtain ⟨x_15, ex_16, h⟩ := lett_some h
        refine T_topI ex_16 ?_
        refine T_istore_n (i := 3) (L' := [aR (some 0), aI x1, aI x2, aI x_15, aI x4]) dX9_share_76 rfl (Nat.le_of_ble_eq_true rfl) rfl ?_
        obtain ⟨x_17, ex_18, h⟩ := lett_some h
        refine T_iinc (L' := [aR (some 0), aI x1, aI x2, aI x_15, aI x_17]) dX9_share_77 rfl (ic_inc ic_1 ex_18) (Nat.le_of_ble_eq_true rfl) rfl ?_
        refine T_goto (tgt := 24) dX9_share_80 (by decide) ?_
        obtain rfl := sm1 h
        exact hI _ _ rfl
      · have h := it_pos hc h
        refine T_aload_n dX9_share_64 rfl ?_
        refine T_getR dX9_share_65 clOK_X9 fl_X9_32 lyM_0 rfl rfl ?_
        refine T_iload dX9_share_68 rfl ?_
        obtain ⟨hi_19, h⟩ := chk_some h
        refine T_iald dX9_share_70 lyM_7 (inb_in hi_19) ?_
        refine T_goto (tgt := 75) dX9_share_71 (by decide) ?_
        refine T_iadd dX9_share_75 ?_
        obtain ⟨x_20, ex_21, h⟩ := lett_some h
        refine T_topI ex_21 ?_
        refine T_istore_n (i := 3) (L' := [aR (some 0), aI x1, aI x2, aI x_20, aI x4]) dX9_share_76 rfl (Nat.le_of_ble_eq_true rfl) rfl ?_
        obtain ⟨x_22, ex_23, h⟩ := lett_some h
        refine T_iinc (L' := [aR (some 0), aI x1, aI x2, aI x_20, aI x_22]) dX9_share_77 rfl (ic_inc ic_1 ex_23) (Nat.le_of_ble_eq_true rfl) rfl ?_
        refine T_goto (tgt := 24) dX9_share_80 (by decide) ?_
        obtain rfl := sm1 h
        exact hI _ _ rfl
set_option maxRecDepth 100000 in
set_option maxHeartbeats 4000000 in
theorem l_X9_share_L24 (M : Mem) (x1 : Int32) (x2 : Int32) {Po : Po_} (e3 : Int32) : ∀ (k : Nat) (x3 : Int32) (x4 : Int32), loop (X9_share_L24 M x1 x2) k (x3, x4) = some e3 → (T RX9 cX9_share 5 (some .int) 0 6 0 0 false Po 83 [aR (some 0), aI x1, aU, aI e3, aU] [] LAYM rfm M 0 0) → T RX9 cX9_share 5 (some .int) 0 6 0 0 false Po 24 [aR (some 0), aI x1, aI x2, aI x3, aI x4] [] LAYM rfm M 0 0 := by
  intro k
  induction k with
  | zero => intro x3 x4 h; cases h
  | succ k ih =>
    intro x3 x4 h hE
    obtain ⟨x, hx, hx1, hx2⟩ := loop_succ h
    exact s_X9_share_L24  M x1 x2  x3 x4 x hx (fun q0 q1 e => ih q0 q1 (hx1 _ e) hE) (fun q0 e => by cases hx2 _ e; exact hE)
set_option maxRecDepth 100000 in
set_option maxHeartbeats 4000000 in
theorem m_X9_share (M : Mem) (x1 : Int32) (x2 : Int32) (r : Int32) (M' : Mem) (h : F_X9_share M x1 x2 = some (r, M')) : Cal yX9_share cX9_share 5 (some .int) 0 6 0 0 false [vR (some 0), vI x1, vI x2] LAYM rfm M (eqp (vI r) LAYM rfm M') := by
  refine Cal.of (by decide +kernel) (Nat.le_of_ble_eq_true rfl) (fun h => by cases h) ?_
  unfold F_X9_share at h
  show T RX9 cX9_share 5 (some .int) 0 6 0 0 false (eqp (vI r) LAYM rfm M') 0 [aR (some 0), aI x1, aI x2, aU, aU] [] LAYM rfm M 0 0
  refine T_aload_n dX9_share_0 rfl ?_
  refine T_iload_n dX9_share_1 rfl ?_
  obtain ⟨r_1, M_2, hc_3, h⟩ := bd2_some h
  refine T_cvi (as := [vI x1]) dX9_share_2 cw_X9_isHole ml_X9_246 mi_X9_isHole se_X9_isHole lyM_0 rfl (by decide) rfl (Nat.le_of_ble_eq_true rfl) (Nat.le_of_ble_eq_true rfl) (m_X9_isHole  M x1  _ _ hc_3) ?_
  refine T_if_eq (tgt := 17) dX9_share_5 (by decide) (fun hc => ?_) (fun hc => ?_)
  · have h := it_pos hc h
    refine T_iconst dX9_share_17 ic_m1 ?_
    obtain ⟨rfl, rfl⟩ := sm2 h
    exact T_iret dX9_share_18 ⟨rfl, rfl, rfl, rfl⟩
  · have h := it_neg hc h
    refine T_iload_n dX9_share_8 rfl ?_
    refine T_iconst dX9_share_9 ic_0 ?_
    refine T_iconst dX9_share_10 ic_3 ?_
    obtain ⟨r_4, hc_5, h⟩ := bd1_some h
    refine T_csi (as := [vI x2, vI 0, vI (nI 3)]) dX9_share_11 cw_X9_in ml_X9_79 mt_X9_in rfl (Nat.le_of_ble_eq_true rfl) (Nat.le_of_ble_eq_true rfl) (m_X9_in M_2 x2 0 (nI 3)  _ hc_5) ?_
    refine T_if_ne (tgt := 19) dX9_share_14 (by decide) (fun hc => ?_) (fun hc => ?_)
    · have h := it_neg hc h
      refine T_iconst dX9_share_19 ic_0 ?_
      refine T_istore_n (i := 3) (L' := [aR (some 0), aI x1, aI x2, aI 0, aU]) dX9_share_20 rfl (Nat.le_of_ble_eq_true rfl) rfl ?_
      refine T_iconst dX9_share_21 ic_0 ?_
      refine T_istore (i := 4) (L' := [aR (some 0), aI x1, aI x2, aI 0, aI 0]) dX9_share_22 (Nat.le_of_ble_eq_true rfl) rfl ?_
      obtain ⟨x_24, hl, h⟩ := bd1_some h
      refine l_X9_share_L24  M_2 x1 x2  _ FU 0 0 hl ?_
      refine T_aload_n dX9_share_83 rfl ?_
      refine T_iload_n dX9_share_84 rfl ?_
      refine T_i2l dX9_share_85 ?_
      refine T_aload_n dX9_share_86 rfl ?_
      refine T_aload_n dX9_share_87 rfl ?_
      refine T_getR dX9_share_88 clOK_X9 fl_X9_32 lyM_0 rfl rfl ?_
      refine T_iconst dX9_share_91 ic_0 ?_
      refine T_aload_n dX9_share_92 rfl ?_
      refine T_getR dX9_share_93 clOK_X9 fl_X9_44 lyM_0 rfl rfl ?_
      refine T_iload_n dX9_share_96 rfl ?_
      obtain ⟨hi_25, h⟩ := chk_some h
      refine T_iald dX9_share_97 lyM_11 (inb_in hi_25) ?_
      obtain ⟨r_26, hc_27, h⟩ := bd1_some h
      refine T_cvi (as := [vR (some 7), vI 0, vI (gI M_2 11 x1.toNatClampNeg)]) dX9_share_98 cw_X9_volume ml_X9_202 mi_X9_volume se_X9_volume lyM_0 rfl (by decide) rfl (Nat.le_of_ble_eq_true rfl) (Nat.le_of_ble_eq_true rfl) (m_X9_volume  M_2 7 0 (gI M_2 11 x1.toNatClampNeg) rfl _ hc_27) ?_
      refine T_i2l dX9_share_101 ?_
      obtain ⟨r_28, M_29, hc_30, h⟩ := bd2_some h
      refine T_cvi (as := [vJ x_24.toInt64, vJ r_26.toInt64]) dX9_share_102 cw_X9_part ml_X9_308 mi_X9_part se_X9_part lyM_0 rfl (by decide) rfl (Nat.le_of_ble_eq_true rfl) (Nat.le_of_ble_eq_true rfl) (m_X9_part  M_2 x_24.toInt64 r_26.toInt64  _ _ hc_30) ?_
      obtain ⟨rfl, rfl⟩ := sm2 h
      exact T_iret dX9_share_105 ⟨rfl, rfl, rfl, rfl⟩
    · have h := it_pos hc h
      refine T_iconst dX9_share_17 ic_m1 ?_
      obtain ⟨rfl, rfl⟩ := sm2 h
      exact T_iret dX9_share_18 ⟨rfl, rfl, rfl, rfl⟩
