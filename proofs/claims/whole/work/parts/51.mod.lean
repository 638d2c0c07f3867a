def X9_which_J24 (M : Mem) (x1 : Int32) (x2 : Int32) (x3 : Int32) (s0 : Int32) : Option (Int32 × Mem) :=
 if 0 ≤ s0 then bd1 (F_X9_in x3 0 ((gI M 0 25) - 1)) fun r_3 => if r_3 = 0 then some ((-1), M)
 else bd1 (F_X9_sameSet M x1 x2 x3) fun r_5 => some (r_5, M)
 else some (s0, M)
def X9_which_J15 (M : Mem) (x1 : Int32) (x2 : Int32) (x3 : Int32) : Option (Int32 × Mem) :=
 X9_which_J24 M x1 x2 x3 (-1)
def F_X9_which (M : Mem) (x1 : Int32) (x2 : Int32) (x3 : Int32) : Option (Int32 × Mem) :=
 bd1 (F_X9_isLaw M x1) fun r_1 => if r_1 = 0 then X9_which_J15 M x1 x2 x3
 else bd1 (F_X9_isImage x2) fun r_7 => if r_7 = 0 then X9_which_J15 M x1 x2 x3
 else bd2 (F_X9_needImage M x2) fun r_9 M_10 => X9_which_J24 M_10 x1 x2 x3 r_9
set_option maxRecDepth 100000 in
set_option maxHeartbeats 4000000 in
theorem j_X9_which_J24 (M : Mem) (x1 : Int32) (x2 : Int32) (x3 : Int32) (s0 : Int32) (r : Int32) (M' : Mem) (h : X9_which_J24 M x1 x2 x3 s0 = some (r, M')) : T RX9 cX9_which 5 (some .int) 0 8 0 0 false (eqp (vI r) LAYM rfm M') 24 [aR (some 0), aI x1, aI x2, aI x3, aU] [vI s0] LAYM rfm M 0 0 := by
  unfold X9_which_J24 at h
  refine T_istore (i := 4) (L' := [aR (some 0), aI x1, aI x2, aI x3, aI s0]) dX9_which_24 (Nat.le_of_ble_eq_true rfl) rfl ?_
  refine T_iload dX9_which_26 rfl ?_
  refine T_if_ge (tgt := 34) dX9_which_28 (by decide) (fun hc => ?_) (fun hc => ?_)
  · have h := it_pos hc h
    refine T_iload_n dX9_which_34 rfl ?_
    refine T_iconst dX9_which_35 ic_0 ?_
    refine T_aload_n dX9_which_36 rfl ?_
    refine T_getI dX9_which_37 clOK_X9 fl_X9_277 lyM_0 rfl ?_
    refine T_iconst dX9_which_40 ic_1 ?_
    refine T_isub dX9_which_41 ?_
    obtain ⟨r_3, hc_4, h⟩ := bd1_some h
    refine T_csi (as := [vI x3, vI 0, vI ((gI M 0 25) - 1)]) dX9_which_42 cw_X9_in ml_X9_79 mt_X9_in rfl (Nat.le_of_ble_eq_true rfl) (Nat.le_of_ble_eq_true rfl) (m_X9_in M x3 0 ((gI M 0 25) - 1)  _ hc_4) ?_
    refine T_if_eq (tgt := 58) dX9_which_45 (by decide) (fun hc => ?_) (fun hc => ?_)
    · have h := it_pos hc h
      refine T_iconst dX9_which_58 ic_m1 ?_
      obtain ⟨rfl, rfl⟩ := sm2 h
      exact T_iret dX9_which_59 ⟨rfl, rfl, rfl, rfl⟩
    · have h := it_neg hc h
      refine T_aload_n dX9_which_48 rfl ?_
      refine T_iload_n dX9_which_49 rfl ?_
      refine T_iload_n dX9_which_50 rfl ?_
      refine T_iload_n dX9_which_51 rfl ?_
      obtain ⟨r_5, hc_6, h⟩ := bd1_some h
      refine T_cvi (as := [vI x1, vI x2, vI x3]) dX9_which_52 cw_X9_sameSet ml_X9_287 mi_X9_sameSet se_X9_sameSet lyM_0 rfl (by decide) rfl (Nat.le_of_ble_eq_true rfl) (Nat.le_of_ble_eq_true rfl) (m_X9_sameSet  M x1 x2 x3  _ hc_6) ?_
      refine T_goto (tgt := 59) dX9_which_55 (by decide) ?_
      obtain ⟨rfl, rfl⟩ := sm2 h
      exact T_iret dX9_which_59 ⟨rfl, rfl, rfl, rfl⟩
  · have h := it_neg hc h
    refine T_iload dX9_which_31 rfl ?_
    obtain ⟨rfl, rfl⟩ := sm2 h
    exact T_iret dX9_which_33 ⟨rfl, rfl, rfl, rfl⟩
set_option maxRecDepth 100000 in
set_option maxHeartbeats 4000000 in
theorem j_X9_which_J15 (M : Mem) (x1 : Int32) (x2 : Int32) (x3 : Int32) (r : Int32) (M' : Mem) (h : X9_which_J15 M x1 x2 x3 = some (r, M')) : T RX9 cX9_which 5 (some .int) 0 8 0 0 false (eqp (vI r) LAYM rfm M') 15 [aR (some 0), aI x1, aI x2, aI x3, aU] [] LAYM rfm M 0 0 := by
  unfold X9_which_J15 at h
  refine T_iconst dX9_which_15 ic_m1 ?_
  refine T_goto (tgt := 24) dX9_which_16 (by decide) ?_
  exact j_X9_which_J24  M x1 x2 x3 (-1)  _ _ h
set_option maxRecDepth 100000 in
set_option maxHeartbeats 4000000 in
theorem m_X9_which (M : Mem) (x1 : Int32) (x2 : Int32) (x3 : Int32) (r : Int32) (M' : Mem) (h : F_X9_which M x1 x2 x3 = some (r, M')) : Cal yX9_which cX9_which 5 (some .int) 0 8 0 0 false [vR (some 0), vI x1, vI x2, vI x3] LAYM rfm M (eqp (vI r) LAYM rfm M') := by
  refine Cal.of (by decide +kernel) (Nat.le_of_ble_eq_true rfl) (fun h => by cases h) ?_
  unfold F_X9_which at h
  show T RX9 cX9_which 5 (some .int) 0 8 0 0 false (eqp (vI r) LAYM rfm M') 0 [aR (some 0), aI x1, aI x2, aI x3, aU] [] LAYM rfm M 0 0
  refine T_aload_n dX9_which_0 rfl ?_
  refine T_iload_n dX9_which_1 rfl ?_
  obtain ⟨r_1, hc_2, h⟩ := bd1_some h
  refine T_cvi (as := [vI x1]) dX9_which_2 cw_X9_isLaw ml_X9_218 mi_X9_isLaw se_X9_isLaw lyM_0 rfl (by decide) rfl (Nat.le_of_ble_eq_true rfl) (Nat.le_of_ble_eq_true rfl) (m_X9_isLaw  M x1  _ hc_2) ?_
  refine T_if_eq (tgt := 15) dX9_which_5 (by decide) (fun hc => ?_) (fun hc => ?_)
  · have h := it_pos hc h
    exact j_X9_which_J15  M x1 x2 x3  _ _ h
  · have h := it_neg hc h
    refine T_iload_n dX9_which_8 rfl ?_
    obtain ⟨r_7, hc_8, h⟩ := bd1_some h
    refine T_csi (as := [vI x2]) dX9_which_9 cw_X9_isImage ml_X9_274 mt_X9_isImage rfl (Nat.le_of_ble_eq_true rfl) (Nat.le_of_ble_eq_true rfl) (m_X9_isImage M x2  _ hc_8) ?_
    refine T_if_ne (tgt := 19) dX9_which_12 (by decide) (fun hc => ?_) (fun hc => ?_)
    · have h := it_neg hc h
      refine T_aload_n dX9_which_19 rfl ?_
      refine T_iload_n dX9_which_20 rfl ?_
      obtain ⟨r_9, M_10, hc_11, h⟩ := bd2_some h
      refine T_cvi (as := [vI x2]) dX9_which_21 cw_X9_needImage ml_X9_280 mi_X9_needImage se_X9_needImage lyM_0 rfl (by decide) rfl (Nat.le_of_ble_eq_true rfl) (Nat.le_of_ble_eq_true rfl) (m_X9_needImage  M x2  _ _ hc_11) ?_
      exact j_X9_which_J24  M_10 x1 x2 x3 r_9  _ _ h
    · have h := it_pos hc h
      exact j_X9_which_J15  M x1 x2 x3  _ _ h
def X9_doubt_J75 (M : Mem) (x1 : Int32) (x2 : Int32) (x5 : Int32) (x6 : Int32) (x7 : Int32) (s0 : Int32) (s1 : Int32) : Option ((Int32 × Int32 × Int32) ⊕ (Int32 × Mem)) :=
 lett (s1 + s0) fun x_10 => if x7 = 0 then lett (x5 + 1) fun x_16 => lett (x6 + 1) fun x_18 => some (.inl (x_10, x_16, x_18))
 else lett (x5 + 0) fun x_12 => lett (x6 + 1) fun x_14 => some (.inl (x_10, x_12, x_14))
def X9_doubt_L40 (M : Mem) (x1 : Int32) (x2 : Int32) : Int32 × Int32 × Int32 → Option ((Int32 × Int32 × Int32) ⊕ (Int32 × Mem))
  | (x4, x5, x6) =>
    if (gI M 0 25) ≤ x6 then bd2 (F_X9_ask M x5 x4) fun r_3 M_4 => some (.inr (r_3, M_4))
    else bd1 (F_X9_sameSet M x1 x2 x6) fun r_6 => bd1 (F_X9_sizeOf r_6) fun r_8 => if r_8 ≤ 1 then X9_doubt_J75 M x1 x2 x5 x6 r_8 0 x4
    else X9_doubt_J75 M x1 x2 x5 x6 r_8 1 x4
def X9_doubt_J24 (M : Mem) (x1 : Int32) (x2 : Int32) (s0 : Int32) : Option (Int32 × Mem) :=
 if 0 ≤ s0 then loop (X9_doubt_L40 M x1 x2) FU (0, 0, 0)
 else some (s0, M)
def X9_doubt_J15 (M : Mem) (x1 : Int32) (x2 : Int32) : Option (Int32 × Mem) :=
 X9_doubt_J24 M x1 x2 (-1)
def F_X9_doubt (M : Mem) (x1 : Int32) (x2 : Int32) : Option (Int32 × Mem) :=
 bd1 (F_X9_isLaw M x1) fun r_1 => if r_1 = 0 then X9_doubt_J15 M x1 x2
 else bd1 (F_X9_isImage x2) fun r_20 => if r_20 = 0 then X9_doubt_J15 M x1 x2
 else bd2 (F_X9_needImage M x2) fun r_22 M_23 => X9_doubt_J24 M_23 x1 x2 r_22
set_option maxRecDepth 100000 in
set_option maxHeartbeats 4000000 in
theorem j_X9_doubt_J75 (M : Mem) (x1 : Int32) (x2 : Int32) (x5 : Int32) (x6 : Int32) (x7 : Int32) (s0 : Int32) (s1 : Int32) {Po : Po_} (x : (Int32 × Int32 × Int32) ⊕ (Int32 × Mem)) (h : X9_doubt_J75 M x1 x2 x5 x6 x7 s0 s1 = some x) (hI : ∀ (ix4 : Int32) (ix5 : Int32) (ix6 : Int32), x = .inl (ix4, ix5, ix6) → T RX9 cX9_doubt 8 (some .int) 0 8 0 0 false Po 40 [aR (some 0), aI x1, aI x2, aU, aI ix4, aI ix5, aI ix6, aU] [] LAYM rfm M 0 0) (hE0 : ∀ (er : Int32) (eM : Mem), x = .inr (er, eM) → Po (vI er) LAYM rfm eM) : T RX9 cX9_doubt 8 (some .int) 0 8 0 0 false Po 75 [aR (some 0), aI x1, aI x2, aU, aU, aI x5, aI x6, aI x7] [vI s0, vI s1] LAYM rfm M 0 0 := by
  unfold X9_doubt_J75 at h
  refine T_iadd dX9_doubt_75 ?_
  obtain ⟨x_10, ex_11, h⟩ := lett_some h
  refine T_topI ex_11 ?_
  refine T_istore (i := 4) (L' := [aR (some 0), aI x1, aI x2, aU, aI x_10, aI x5, aI x6, aI x7]) dX9_doubt_76 (Nat.le_of_ble_eq_true rfl) rfl ?_
  refine T_iload dX9_doubt_78 rfl ?_
  refine T_iload dX9_doubt_80 rfl ?_
  refine T_if_ne (tgt := 89) dX9_doubt_82 (by decide) (fun hc => ?_) (fun hc => ?_)
  · have h := it_neg hc h
    refine T_iconst dX9_doubt_89 ic_0 ?_
    refine T_iadd dX9_doubt_90 ?_
    obtain ⟨x_12, ex_13, h⟩ := lett_some h
    refine T_topI ex_13 ?_
    refine T_istore (i := 5) (L' := [aR (some 0), aI x1, aI x2, aU, aI x_10, aI x_12, aI x6, aI x7]) dX9_doubt_91 (Nat.le_of_ble_eq_true rfl) rfl ?_
    obtain ⟨x_14, ex_15, h⟩ := lett_some h
    refine T_iinc (L' := [aR (some 0), aI x1, aI x2, aU, aI x_10, aI x_12, aI x_14, aI x7]) dX9_doubt_93 rfl (ic_inc ic_1 ex_15) (Nat.le_of_ble_eq_true rfl) rfl ?_
    refine T_goto (tgt := 40) dX9_doubt_96 (by decide) ?_
    obtain rfl := sm1 h
    refine T_mask [true, true, true, true, true, true, true, false] rfl ?_
    exact hI _ _ _ rfl
  · have h := it_pos hc h
    refine T_iconst dX9_doubt_85 ic_1 ?_
    refine T_goto (tgt := 90) dX9_doubt_86 (by decide) ?_
    refine T_iadd dX9_doubt_90 ?_
    obtain ⟨x_16, ex_17, h⟩ := lett_some h
    refine T_topI ex_17 ?_
    refine T_istore (i := 5) (L' := [aR (some 0), aI x1, aI x2, aU, aI x_10, aI x_16, aI x6, aI x7]) dX9_doubt_91 (Nat.le_of_ble_eq_true rfl) rfl ?_
    obtain ⟨x_18, ex_19, h⟩ := lett_some h
    refine T_iinc (L' := [aR (some 0), aI x1, aI x2, aU, aI x_10, aI x_16, aI x_18, aI x7]) dX9_doubt_93 rfl (ic_inc ic_1 ex_19) (Nat.le_of_ble_eq_true rfl) rfl ?_
    refine T_goto (tgt := 40) dX9_doubt_96 (by decide) ?_
    obtain rfl := sm1 h
    refine T_mask [true, true, true, true, true, true, true, false] rfl ?_
    exact hI _ _ _ rfl
set_option maxRecDepth 100000 in
set_option maxHeartbeats 4000000 in
theorem s_X9_doubt_L40 (M : Mem) (x1 : Int32) (x2 : Int32) (x4 : Int32) (x5 : Int32) (x6 : Int32) {Po : Po_} (x : (Int32 × Int32 × Int32) ⊕ (Int32 × Mem)) (h : X9_doubt_L40 M x1 x2 (x4, x5, x6) = some x) (hI : ∀ (ix4 : Int32) (ix5 : Int32) (ix6 : Int32), x = .inl (ix4, ix5, ix6) → T RX9 cX9_doubt 8 (some .int) 0 8 0 0 false Po 40 [aR (some 0), aI x1, aI x2, aU, aI ix4, aI ix5, aI ix6, aU] [] LAYM rfm M 0 0) (hE0 : ∀ (er : Int32) (eM : Mem), x = .inr (er, eM) → Po (vI er) LAYM rfm eM) : T RX9 cX9_doubt 8 (some .int) 0 8 0 0 false Po 40 [aR (some 0), aI x1, aI x2, aU, aI x4, aI x5, aI x6, aU] [] LAYM rfm M 0 0 := by
  unfold X9_doubt_L40 at h
  simp only at h
  refine T_iload dX9_doubt_40 rfl ?_
  refine T_aload_n dX9_doubt_42 rfl ?_
  refine T_getI dX9_doubt_43 clOK_X9 fl_X9_277 lyM_0 rfl ?_
  refine T_icmp_ge (tgt := 99) dX9_doubt_46 (by decide) (fun hc => ?_) (fun hc => ?_)
  · have h := it_pos hc h
    refine T_aload_n dX9_doubt_99 rfl ?_
    refine T_iload dX9_doubt_100 rfl ?_
    refine T_iload dX9_doubt_102 rfl ?_
    obtain ⟨r_3, M_4, hc_5, h⟩ := bd2_some h
    refine T_cvi (as := [vI x5, vI x4]) dX9_doubt_104 cw_X9_ask ml_X9_105 mi_X9_ask se_X9_ask lyM_0 rfl (by decide) rfl (Nat.le_of_ble_eq_true rfl) (Nat.le_of_ble_eq_true rfl) (m_X9_ask  M x5 x4  _ _ hc_5) ?_
    obtain rfl := sm1 h
    exact T_iret dX9_doubt_107 (hE0 _ _ rfl)
  · have h := it_neg hc h
    refine T_aload_n dX9_doubt_49 rfl ?_
    refine T_iload_n dX9_doubt_50 rfl ?_
    refine T_iload_n dX9_doubt_51 rfl ?_
    refine T_iload dX9_doubt_52 rfl ?_
    obtain ⟨r_6, hc_7, h⟩ := bd1_some h
    refine T_cvi (as := [vI x1, vI x2, vI x6]) dX9_doubt_54 cw_X9_sameSet ml_X9_287 mi_X9_sameSet se_X9_sameSet lyM_0 rfl (by decide) rfl (Nat.le_of_ble_eq_true rfl) (Nat.le_of_ble_eq_true rfl) (m_X9_sameSet  M x1 x2 x6  _ hc_7) ?_
    obtain ⟨r_8, hc_9, h⟩ := bd1_some h
    refine T_csi (as := [vI r_6]) dX9_doubt_57 cw_X9_sizeOf ml_X9_199 mt_X9_sizeOf rfl (Nat.le_of_ble_eq_true rfl) (Nat.le_of_ble_eq_true rfl) (m_X9_sizeOf M r_6  _ hc_9) ?_
    refine T_istore (i := 7) (L' := [aR (some 0), aI x1, aI x2, aU, aI x4, aI x5, aI x6, aI r_8]) dX9_doubt_60 (Nat.le_of_ble_eq_true rfl) rfl ?_
    refine T_iload dX9_doubt_62 rfl ?_
    refine T_iload dX9_doubt_64 rfl ?_
    refine T_iconst dX9_doubt_66 ic_1 ?_
    refine T_icmp_le (tgt := 74) dX9_doubt_67 (by decide) (fun hc => ?_) (fun hc => ?_)
    · have h := it_pos hc h
      refine T_iconst dX9_doubt_74 ic_0 ?_
      refine T_mask [true, true, true, true, false, true, true, true] rfl ?_
      exact j_X9_doubt_J75  M x1 x2 x5 x6 r_8 0 x4  _ h hI hE0
    · have h := it_neg hc h
      refine T_iconst dX9_doubt_70 ic_1 ?_
      refine T_goto (tgt := 75) dX9_doubt_71 (by decide) ?_
      refine T_mask [true, true, true, true, false, true, true, true] rfl ?_
      exact j_X9_doubt_J75  M x1 x2 x5 x6 r_8 1 x4  _ h hI hE0
set_option maxRecDepth 100000 in
set_option maxHeartbeats 4000000 in
theorem l_X9_doubt_L40 (M : Mem) (x1 : Int32) (x2 : Int32) {Po : Po_} (er : Int32) (eM : Mem) : ∀ (k : Nat) (x4 : Int32) (x5 : Int32) (x6 : Int32), loop (X9_doubt_L40 M x1 x2) k (x4, x5, x6) = some (er, eM) → (Po (vI er) LAYM rfm eM) → T RX9 cX9_doubt 8 (some .int) 0 8 0 0 false Po 40 [aR (some 0), aI x1, aI x2, aU, aI x4, aI x5, aI x6, aU] [] LAYM rfm M 0 0 := by
  intro k
  induction k with
  | zero => intro x4 x5 x6 h; cases h
  | succ k ih =>
    intro x4 x5 x6 h hE
    obtain ⟨x, hx, hx1, hx2⟩ := loop_succ h
    exact s_X9_doubt_L40  M x1 x2  x4 x5 x6 x hx (fun q0 q1 q2 e => ih q0 q1 q2 (hx1 _ e) hE) (fun q0 q1 e => by cases hx2 _ e; exact hE)
set_option maxRecDepth 100000 in
set_option maxHeartbeats 4000000 in
theorem j_X9_doubt_J24 (M : Mem) (x1 : Int32) (x2 : Int32) (s0 : Int32) (r : Int32) (M' : Mem) (h : X9_doubt_J24 M x1 x2 s0 = some (r, M')) : T RX9 cX9_doubt 8 (some .int) 0 8 0 0 false (eqp (vI r) LAYM rfm M') 24 [aR (some 0), aI x1, aI x2, aU, aU, aU, aU, aU] [vI s0] LAYM rfm M 0 0 := by
  unfold X9_doubt_J24 at h
  refine T_istore_n (i := 3) (L' := [aR (some 0), aI x1, aI x2, aI s0, aU, aU, aU, aU]) dX9_doubt_24 rfl (Nat.le_of_ble_eq_true rfl) rfl ?_
  refine T_iload_n dX9_doubt_25 rfl ?_
  refine T_if_ge (tgt := 31) dX9_doubt_26 (by decide) (fun hc => ?_) (fun hc => ?_)
  · have h := it_pos hc h
    refine T_iconst dX9_doubt_31 ic_0 ?_
    refine T_istore (i := 4) (L' := [aR (some 0), aI x1, aI x2, aI s0, aI 0, aU, aU, aU]) dX9_doubt_32 (Nat.le_of_ble_eq_true rfl) rfl ?_
    refine T_iconst dX9_doubt_34 ic_0 ?_
    refine T_istore (i := 5) (L' := [aR (some 0), aI x1, aI x2, aI s0, aI 0, aI 0, aU, aU]) dX9_doubt_35 (Nat.le_of_ble_eq_true rfl) rfl ?_
    refine T_iconst dX9_doubt_37 ic_0 ?_
    refine T_istore (i := 6) (L' := [aR (some 0), aI x1, aI x2, aI s0, aI 0, aI 0, aI 0, aU]) dX9_doubt_38 (Nat.le_of_ble_eq_true rfl) rfl ?_
    refine T_mask [true, true, true, false, true, true, true, true] rfl ?_
    exact l_X9_doubt_L40  M x1 x2  _ _ FU 0 0 0 h ⟨rfl, rfl, rfl, rfl⟩
  · have h := it_neg hc h
    refine T_iload_n dX9_doubt_29 rfl ?_
    obtain ⟨rfl, rfl⟩ := sm2 h
    exact T_iret dX9_doubt_30 ⟨rfl, rfl, rfl, rfl⟩
set_option maxRecDepth 100000 in
set_option maxHeartbeats 4000000 in
theorem j_X9_doubt_J15 (M : Mem) (x1 : Int32) (x2 : Int32) (r : Int32) (M' : Mem) (h : X9_doubt_J15 M x1 x2 = some (r, M')) : T RX9 cX9_doubt 8 (some .int) 0 8 0 0 false (eqp (vI r) LAYM rfm M') 15 [aR (some 0), aI x1, aI x2, aU, aU, aU, aU, aU] [] LAYM rfm M 0 0 := by
  unfold X9_doubt_J15 at h
  refine T_iconst dX9_doubt_15 ic_m1 ?_
  refine T_goto (tgt := 24) dX9_doubt_16 (by decide) ?_
  exact j_X9_doubt_J24  M x1 x2 (-1)  _ _ h
set_option maxRecDepth 100000 in
set_option maxHeartbeats 4000000 in
theorem m_X9_doubt (M : Mem) (x1 : Int32) (x2 : Int32) (r : Int32) (M' : Mem) (h : F_X9_doubt M x1 x2 = some (r, M')) : Cal yX9_doubt cX9_doubt 8 (some .int) 0 8 0 0 false [vR (some 0), vI x1, vI x2] LAYM rfm M (eqp (vI r) LAYM rfm M') := by
  refine Cal.of (by decide +kernel) (Nat.le_of_ble_eq_true rfl) (fun h => by cases h) ?_
  unfold F_X9_doubt at h
  show T RX9 cX9_doubt 8 (some .int) 0 8 0 0 false (eqp (vI r) LAYM rfm M') 0 [aR (some 0), aI x1, aI x2, aU, aU, aU, aU, aU] [] LAYM rfm M 0 0
  refine T_aload_n dX9_doubt_0 rfl ?_
  refine T_iload_n dX9_doubt_1 rfl ?_
  obtain ⟨r_1, hc_2, h⟩ := bd1_some h
  refine T_cvi (as := [vI x1]) dX9_doubt_2 cw_X9_isLaw ml_X9_218 mi_X9_isLaw se_X9_isLaw lyM_0 rfl (by decide) rfl (Nat.le_of_ble_eq_true rfl) (Nat.le_of_ble_eq_true rfl) (m_X9_isLaw  M x1  _ hc_2) ?_
  refine T_if_eq (tgt := 15) dX9_doubt_5 (by decide) (fun hc => ?_) (fun hc => ?_)
  · have h := it_pos hc h
    exact j_X9_doubt_J15  M x1 x2  _ _ h
  · have h := it_neg hc h
    refine T_iload_n dX9_doubt_8 rfl ?_
    obtain ⟨r_20, hc_21, h⟩ := bd1_some h
    refine T_csi (as := [vI x2]) dX9_doubt_9 cw_X9_isImage ml_X9_274 mt_X9_isImage rfl (Nat.le_of_ble_eq_true rfl) (Nat.le_of_ble_eq_true rfl) (m_X9_isImage M x2  _ hc_21) ?_
    refine T_if_ne (tgt := 19) dX9_doubt_12 (by decide) (fun hc => ?_) (fun hc => ?_)
    · have h := it_neg hc h
      refine T_aload_n dX9_doubt_19 rfl ?_
      refine T_iload_n dX9_doubt_20 rfl ?_
      obtain ⟨r_22, M_23, hc_24, h⟩ := bd2_some h
      refine T_cvi (as := [vI x2]) dX9_doubt_21 cw_X9_needImage ml_X9_280 mi_X9_needImage se_X9_needImage lyM_0 rfl (by decide) rfl (Nat.le_of_ble_eq_true rfl) (Nat.le_of_ble_eq_true rfl) (m_X9_needImage  M x2  _ _ hc_24) ?_
      exact j_X9_doubt_J24  M_23 x1 x2 r_22  _ _ h
    · have h := it_pos hc h
      exact j_X9_doubt_J15  M x1 x2  _ _ h
def X9_isFair_L8 (M : Mem) (x1 : Int32) (x2 : Int32) : Int32 × Int32 × Int32 → Option ((Int32 × Int32 × Int32) ⊕ (Int32 × Int32))
  | (x3, x4, x5) =>
    if (gI M 0 25) ≤ x5 then some (.inr (x3, x4))
    else bd1 (F_X9_sameSet M x1 x2 x5) fun r_1 => if x3 = 0 then lett (x4 ||| r_1) fun x_3 => lett (x5 + 1) fun x_5 => some (.inl (0, x_3, x_5))
    else bd1 (F_X9_sizeOf r_1) fun r_7 => if r_7 = 1 then if (r_1 &&& x4) = 0 then lett (x4 ||| r_1) fun x_17 => lett (x5 + 1) fun x_19 => some (.inl (1, x_17, x_19))
    else lett (x4 ||| r_1) fun x_13 => lett (x5 + 1) fun x_15 => some (.inl (0, x_13, x_15))
    else lett (x4 ||| r_1) fun x_9 => lett (x5 + 1) fun x_11 => some (.inl (0, x_9, x_11))
def F_X9_isFair (M : Mem) (x1 : Int32) (x2 : Int32) : Option (Int32) :=
 bd2 (loop (X9_isFair_L8 M x1 x2) FU (1, 0, 0)) fun x_21 x_22 => if x_21 = 0 then some 0
 else if x_22 = ((ish 1 (gI M 0 23)) - 1) then some 1
 else some 0
set_option maxRecDepth 100000 in
set_option maxHeartbeats 4000000 in
theorem s_X9_isFair_L8 (M : Mem) (x1 : Int32) (x2 : Int32) (x3 : Int32) (x4 : Int32) (x5 : Int32) {Po : Po_} (x : (Int32 × Int32 × Int32) ⊕ (Int32 × Int32)) (h : X9_isFair_L8 M x1 x2 (x3, x4, x5) = some x) (hI : ∀ (ix3 : Int32) (ix4 : Int32) (ix5 : Int32), x = .inl (ix3, ix4, ix5) → T RX9 cX9_isFair 7 (some .boolean) 0 8 0 0 false Po 8 [aR (some 0), aI x1, aI x2, aI ix3, aI ix4, aI ix5, aU] [] LAYM rfm M 0 0) (hE0 : ∀ (e3 : Int32) (e4 : Int32), x = .inr (e3, e4) → T RX9 cX9_isFair 7 (some .boolean) 0 8 0 0 false Po 67 [aR (some 0), aU, aU, aI e3, aI e4, aU, aU] [] LAYM rfm M 0 0) : T RX9 cX9_isFair 7 (some .boolean) 0 8 0 0 false Po 8 [aR (some 0), aI x1, aI x2, aI x3, aI x4, aI x5, aU] [] LAYM rfm M 0 0 := by
  unfold X9_isFair_L8 at h
  simp only at h
  refine T_iload dX9_isFair_8 rfl ?_
  refine T_aload_n dX9_isFair_10 rfl ?_
  refine T_getI dX9_isFair_11 clOK_X9 fl_X9_277 lyM_0 rfl ?_
  refine T_icmp_ge (tgt := 67) dX9_isFair_14 (by decide) (fun hc => ?_) (fun hc => ?_)
  · have h := it_pos hc h
    obtain rfl := sm1 h
    refine T_mask [true, false, false, true, true, false, true] rfl ?_
    exact hE0 _ _ rfl
  · have h := it_neg hc h
    refine T_aload_n dX9_isFair_17 rfl ?_
    refine T_iload_n dX9_isFair_18 rfl ?_
    refine T_iload_n dX9_isFair_19 rfl ?_
    refine T_iload dX9_isFair_20 rfl ?_
    obtain ⟨r_1, hc_2, h⟩ := bd1_some h
    refine T_cvi (as := [vI x1, vI x2, vI x5]) dX9_isFair_22 cw_X9_sameSet ml_X9_287 mi_X9_sameSet se_X9_sameSet lyM_0 rfl (by decide) rfl (Nat.le_of_ble_eq_true rfl) (Nat.le_of_ble_eq_true rfl) (m_X9_sameSet  M x1 x2 x5  _ hc_2) ?_
    refine T_istore (i := 6) (L' := [aR (some 0), aI x1, aI x2, aI x3, aI x4, aI x5, aI r_1]) dX9_isFair_25 (Nat.le_of_ble_eq_true rfl) rfl ?_
    refine T_iload_n dX9_isFair_27 rfl ?_
    refine T_if_eq (tgt := 52) dX9_isFair_28 (by decide) (fun hc => ?_) (fun hc => ?_)
    · have h := it_pos hc h
      refine T_iconst dX9_isFair_52 ic_0 ?_
      refine T_istore_n (i := 3) (L' := [aR (some 0), aI x1, aI x2, aI 0, aI x4, aI x5, aI r_1]) dX9_isFair_53 rfl (Nat.le_of_ble_eq_true rfl) rfl ?_
      refine T_iload dX9_isFair_54 rfl ?_
      refine T_iload dX9_isFair_56 rfl ?_
      refine T_ior dX9_isFair_58 ?_
      obtain ⟨x_3, ex_4, h⟩ := lett_some h
      refine T_topI ex_4 ?_
      refine T_istore (i := 4) (L' := [aR (some 0), aI x1, aI x2, aI 0, aI x_3, aI x5, aI r_1]) dX9_isFair_59 (Nat.le_of_ble_eq_true rfl) rfl ?_
      obtain ⟨x_5, ex_6, h⟩ := lett_some h
      refine T_iinc (L' := [aR (some 0), aI x1, aI x2, aI 0, aI x_3, aI x_5, aI r_1]) dX9_isFair_61 rfl (ic_inc ic_1 ex_6) (Nat.le_of_ble_eq_true rfl) rfl ?_
      refine T_goto (tgt := 8) dX9_isFair_64 (by decide) ?_
      obtain rfl := sm1 h
      refine T_mask [true, true, true, true, true, true, false] rfl ?_
      exact hI _ _ _ rfl
    · have h := it_neg hc h
      refine T_iload dX9_isFair_31 rfl ?_
      obtain ⟨r_7, hc_8, h⟩ := bd1_some h
      refine T_csi (as := [vI r_1]) dX9_isFair_33 cw_X9_sizeOf ml_X9_199 mt_X9_sizeOf rfl (Nat.le_of_ble_eq_true rfl) (Nat.le_of_ble_eq_true rfl) (m_X9_sizeOf M r_1  _ hc_8) ?_
      refine T_iconst dX9_isFair_36 ic_1 ?_
      refine T_icmp_ne (tgt := 52) dX9_isFair_37 (by decide) (fun hc => ?_) (fun hc => ?_)
      · have h := it_neg hc h
        refine T_iconst dX9_isFair_52 ic_0 ?_
        refine T_istore_n (i := 3) (L' := [aR (some 0), aI x1, aI x2, aI 0, aI x4, aI x5, aI r_1]) dX9_isFair_53 rfl (Nat.le_of_ble_eq_true rfl) rfl ?_
        refine T_iload dX9_isFair_54 rfl ?_
        refine T_iload dX9_isFair_56 rfl ?_
        refine T_ior dX9_isFair_58 ?_
        obtain ⟨x_9, ex_10, h⟩ := lett_some h
        refine T_topI ex_10 ?_
        refine T_istore (i := 4) (L' := [aR (some 0), aI x1, aI x2, aI 0, aI x_9, aI x5, aI r_1]) dX9_isFair_59 (Nat.le_of_ble_eq_true rfl) rfl ?_
        obtain ⟨x_11, ex_12, h⟩ := lett_some h
        refine T_iinc (L' := [aR (some 0), aI x1, aI x2, aI 0, aI x_9, aI x_11, aI r_1]) dX9_isFair_61 rfl (ic_inc ic_1 ex_12) (Nat.le_of_ble_eq_true rfl) rfl ?_
        refine T_goto (tgt := 8) dX9_isFair_64 (by decide) ?_
        obtain rfl := sm1 h
        refine T_mask [true, true, true, true, true, true, false] rfl ?_
        exact hI _ _ _ rfl
      · have h := it_pos hc h
        refine T_iload dX9_isFair_40 rfl ?_
        refine T_iload dX9_isFair_42 rfl ?_
        refine T_iand dX9_isFair_44 ?_
        refine T_if_ne (tgt := 52) dX9_isFair_45 (by decide) (fun hc => ?_) (fun hc => ?_)
        · have h := it_neg hc h
          refine T_iconst dX9_isFair_52 ic_0 ?_
          refine T_istore_n (i := 3) (L' := [aR (some 0), aI x1, aI x2, aI 0, aI x4, aI x5, aI r_1]) dX9_isFair_53 rfl (Nat.le_of_ble_eq_true rfl) rfl ?_
          refine T_iload dX9_isFair_54 rfl ?_
          refine T_iload dX9_isFair_56 rfl ?_
          refine T_ior dX9_isFair_58 ?_
          obtain ⟨x_13, ex_14, h⟩ := lett_some h
          refine T_topI ex_14 ?_
          refine T_istore (i := 4) (L' := [aR (some 0), aI x1, aI x2, aI 0, aI x_13, aI x5, aI r_1]) dX9_isFair_59 (Nat.le_of_ble_eq_true rfl) rfl ?_
          obtain ⟨x_15, ex_16, h⟩ := lett_some h
          refine T_iinc (L' := [aR (some 0), aI x1, aI x2, aI 0, aI x_13, aI x_15, aI r_1]) dX9_isFair_61 rfl (ic_inc ic_1 ex_16) (Nat.le_of_ble_eq_true rfl) rfl ?_
          refine T_goto (tgt := 8) dX9_isFair_64 (by decide) ?_
          obtain rfl := sm1 h
          refine T_mask [true, true, true, true, true, true, false] rfl ?_
          exact hI _ _ _ rfl
        · have h := it_pos hc h
          refine T_iconst dX9_isFair_48 ic_1 ?_
          refine T_goto (tgt := 53) dX9_isFair_49 (by decide) ?_
          refine T_istore_n (i := 3) (L' := [aR (some 0), aI x1, aI x2, aI 1, aI x4, aI x5, aI r_1]) dX9_isFair_53 rfl (Nat.le_of_ble_eq_true rfl) rfl ?_
          refine T_iload dX9_isFair_54 rfl ?_
          refine T_iload dX9_isFair_56 rfl ?_
          refine T_ior dX9_isFair_58 ?_
          obtain ⟨x_17, ex_18, h⟩ := lett_some h
          refine T_topI ex_18 ?_
          refine T_istore (i := 4) (L' := [aR (some 0), aI x1, aI x2, aI 1, aI x_17, aI x5, aI r_1]) dX9_isFair_59 (Nat.le_of_ble_eq_true rfl) rfl ?_
          obtain ⟨x_19, ex_20, h⟩ := lett_some h
          refine T_iinc (L' := [aR (some 0), aI x1, aI x2, aI 1, aI x_17, aI x_19, aI r_1]) dX9_isFair_61 rfl (ic_inc ic_1 ex_20) (Nat.le_of_ble_eq_true rfl) rfl ?_
          refine T_goto (tgt := 8) dX9_isFair_64 (by decide) ?_
          obtain rfl := sm1 h
          refine T_mask [true, true, true, true, true, true, false] rfl ?_
          exact hI _ _ _ rfl
set_option maxRecDepth 100000 in
set_option maxHeartbeats 4000000 in
theorem l_X9_isFair_L8 (M : Mem) (x1 : Int32) (x2 : Int32) {Po : Po_} (e3 : Int32) (e4 : Int32) : ∀ (k : Nat) (x3 : Int32) (x4 : Int32) (x5 : Int32), loop (X9_isFair_L8 M x1 x2) k (x3, x4, x5) = some (e3, e4) → (T RX9 cX9_isFair 7 (some .boolean) 0 8 0 0 false Po 67 [aR (some 0), aU, aU, aI e3, aI e4, aU, aU] [] LAYM rfm M 0 0) → T RX9 cX9_isFair 7 (some .boolean) 0 8 0 0 false Po 8 [aR (some 0), aI x1, aI x2, aI x3, aI x4, aI x5, aU] [] LAYM rfm M 0 0 := by
  intro k
  induction k with
  | zero => intro x3 x4 x5 h; cases h
  | succ k ih =>
    intro x3 x4 x5 h hE
    obtain ⟨x, hx, hx1, hx2⟩ := loop_succ h
    exact s_X9_isFair_L8  M x1 x2  x3 x4 x5 x hx (fun q0 q1 q2 e => ih q0 q1 q2 (hx1 _ e) hE) (fun q0 q1 e => by cases hx2 _ e; exact hE)
set_option maxRecDepth 100000 in
set_option maxHeartbeats 4000000 in
theorem m_X9_isFair (M : Mem) (x1 : Int32) (x2 : Int32) (r : Int32) (h : F_X9_isFair M x1 x2 = some r) : Cal yX9_isFair cX9_isFair 7 (some .boolean) 0 8 0 0 false [vR (some 0), vI x1, vI x2] LAYM rfm M (eqp (vI r) LAYM rfm M) := by
  refine Cal.of (by decide +kernel) (Nat.le_of_ble_eq_true rfl) (fun h => by cases h) ?_
  unfold F_X9_isFair at h
  show T RX9 cX9_isFair 7 (some .boolean) 0 8 0 0 false (eqp (vI r) LAYM rfm M) 0 [aR (some 0), aI x1, aI x2, aU, aU, aU, aU] [] LAYM rfm M 0 0
  refine T_iconst dX9_isFair_0 ic_1 ?_
  refine T_istore_n (i := 3) (L' := [aR (some 0), aI x1, aI x2, aI 1, aU, aU, aU]) dX9_isFair_1 rfl (Nat.le_of_ble_eq_true rfl) rfl ?_
  refine T_iconst dX9_isFair_2 ic_0 ?_
  refine T_istore (i := 4) (L' := [aR (some 0), aI x1, aI x2, aI 1, aI 0, aU, aU]) dX9_isFair_3 (Nat.le_of_ble_eq_true rfl) rfl ?_
  refine T_iconst dX9_isFair_5 ic_0 ?_
  refine T_istore (i := 5) (L' := [aR (some 0), aI x1, aI x2, aI 1, aI 0, aI 0, aU]) dX9_isFair_6 (Nat.le_of_ble_eq_true rfl) rfl ?_
  obtain ⟨x_21, x_22, hl, h⟩ := bd2_some h
  refine l_X9_isFair_L8  M x1 x2  _ _ FU 1 0 0 hl ?_
  refine T_iload_n dX9_isFair_67 rfl ?_
  refine T_if_eq (tgt := 88) dX9_isFair_68 (by decide) (fun hc => ?_) (fun hc => ?_)
  · have h := it_pos hc h
    refine T_iconst dX9_isFair_88 ic_0 ?_
    obtain rfl := sm1 h
    exact T_zret dX9_isFair_89 (Or.inl rfl) ⟨rfl, rfl, rfl, rfl⟩
  · have h := it_neg hc h
    refine T_iload dX9_isFair_71 rfl ?_
    refine T_iconst dX9_isFair_73 ic_1 ?_
    refine T_aload_n dX9_isFair_74 rfl ?_
    refine T_getI dX9_isFair_75 clOK_X9 fl_X9_187 lyM_0 rfl ?_
    refine T_ishl dX9_isFair_78 ?_
    refine T_iconst dX9_isFair_79 ic_1 ?_
    refine T_isub dX9_isFair_80 ?_
    refine T_icmp_ne (tgt := 88) dX9_isFair_81 (by decide) (fun hc => ?_) (fun hc => ?_)
    · have h := it_neg hc h
      refine T_iconst dX9_isFair_88 ic_0 ?_
      obtain rfl := sm1 h
      exact T_zret dX9_isFair_89 (Or.inl rfl) ⟨rfl, rfl, rfl, rfl⟩
    · have h := it_pos hc h
      refine T_iconst dX9_isFair_84 ic_1 ?_
      refine T_goto (tgt := 89) dX9_isFair_85 (by decide) ?_
      obtain rfl := sm1 h
      exact T_zret dX9_isFair_89 (Or.inr rfl) ⟨rfl, rfl, rfl, rfl⟩
def X9_fair_L28 (M : Mem) (x1 : Int32) : Int32 × Int32 → Option ((Int32 × Int32) ⊕ (Int32 × Mem))
  | (x3, x4) =>
    if (gI M 0 12) ≤ x4 then some (.inr (x3, M))
    else bd1 (F_X9_isFair M x4 x1) fun r_6 => if r_6 = 0 then lett (x3 ||| 0) fun x_8 => lett (x4 + 1) fun x_10 => some (.inl (x_8, x_10))
    else lett (x3 ||| (ish 1 x4)) fun x_12 => lett (x4 + 1) fun x_14 => some (.inl (x_12, x_14))
def X9_fair_J16 (M : Mem) (x1 : Int32) (s0 : Int32) : Option (Int32 × Mem) :=
 if 0 ≤ s0 then loop (X9_fair_L28 M x1) FU (0, 0)
 else some (s0, M)
def F_X9_fair (M : Mem) (x1 : Int32) : Option (Int32 × Mem) :=
 bd1 (F_X9_isImage x1) fun r_1 => if r_1 = 0 then X9_fair_J16 M x1 (-1)
 else bd2 (F_X9_needImage M x1) fun r_3 M_4 => X9_fair_J16 M_4 x1 r_3
set_option maxRecDepth 100000 in
set_option maxHeartbeats 4000000 in
theorem s_X9_fair_L28 (M : Mem) (x1 : Int32) (x3 : Int32) (x4 : Int32) {Po : Po_} (x : (Int32 × Int32) ⊕ (Int32 × Mem)) (h : X9_fair_L28 M x1 (x3, x4) = some x) (hI : ∀ (ix3 : Int32) (ix4 : Int32), x = .inl (ix3, ix4) → T RX9 cX9_fair 5 (some .int) 0 9 0 0 false Po 28 [aR (some 0), aI x1, aU, aI ix3, aI ix4] [] LAYM rfm M 0 0) (hE0 : ∀ (er : Int32) (eM : Mem), x = .inr (er, eM) → Po (vI er) LAYM rfm eM) : T RX9 cX9_fair 5 (some .int) 0 9 0 0 false Po 28 [aR (some 0), aI x1, aU, aI x3, aI x4] [] LAYM rfm M 0 0 := by
  unfold X9_fair_L28 at h
  simp only at h
  refine T_iload dX9_fair_28 rfl ?_
  refine T_aload_n dX9_fair_30 rfl ?_
  refine T_getI dX9_fair_31 clOK_X9 fl_X9_161 lyM_0 rfl ?_
  refine T_icmp_ge (tgt := 64) dX9_fair_34 (by decide) (fun hc => ?_) (fun hc => ?_)
  · have h := it_pos hc h
    refine T_iload_n dX9_fair_64 rfl ?_
    obtain rfl := sm1 h
    exact T_iret dX9_fair_65 (hE0 _ _ rfl)
  · have h := it_neg hc h
    refine T_iload_n dX9_fair_37 rfl ?_
    refine T_aload_n dX9_fair_38 rfl ?_
    refine T_iload dX9_fair_39 rfl ?_
    refine T_iload_n dX9_fair_41 rfl ?_
    obtain ⟨r_6, hc_7, h⟩ := bd1_some h
    refine T_cvi (as := [vI x4, vI x1]) dX9_fair_42 cw_X9_isFair ml_X9_291 mi_X9_isFair se_X9_isFair lyM_0 rfl (by decide) rfl (Nat.le_of_ble_eq_true rfl) (Nat.le_of_ble_eq_true rfl) (m_X9_isFair  M x4 x1  _ hc_7) ?_
    refine T_if_eq (tgt := 55) dX9_fair_45 (by decide) (fun hc => ?_) (fun hc => ?_)
    · have h := it_pos hc h
      refine T_iconst dX9_fair_55 ic_0 ?_
      refine T_ior dX9_fair_56 ?_
      obtain ⟨x_8, ex_9, h⟩ := lett_some h
      refine T_topI ex_9 ?_
      refine T_istore_n (i := 3) (L' := [aR (some 0), aI x1, aU, aI x_8, aI x4]) dX9_fair_57 rfl (Nat.le_of_ble_eq_true rfl) rfl ?_
      obtain ⟨x_10, ex_11, h⟩ := lett_some h
      refine T_iinc (L' := [aR (some 0), aI x1, aU, aI x_8, aI x_10]) dX9_fair_58 rfl (ic_inc ic_1 ex_11) (Nat.le_of_ble_eq_true rfl) rfl ?_
      refine T_goto (tgt := 28) dX9_fair_61 (by decide) ?_
      obtain rfl := sm1 h
      exact hI _ _ rfl
    · have h := it_neg hc h
      refine T_iconst dX9_fair_48 ic_1 ?_
      refine T_iload dX9_fair_49 rfl ?_
      refine T_ishl dX9_fair_51 ?_
      refine T_goto (tgt := 56) dX9_fair_52 (by decide) ?_
      refine T_ior dX9_fair_56 ?_
      obtain ⟨x_12, ex_13, h⟩ := lett_some h
      refine T_topI ex_13 ?_
      refine T_istore_n (i := 3) (L' := [aR (some 0), aI x1, aU, aI x_12, aI x4]) dX9_fair_57 rfl (Nat.le_of_ble_eq_true rfl) rfl ?_
      obtain ⟨x_14, ex_15, h⟩ := lett_some h
      refine T_iinc (L' := [aR (some 0), aI x1, aU, aI x_12, aI x_14]) dX9_fair_58 rfl (ic_inc ic_1 ex_15) (Nat.le_of_ble_eq_true rfl) rfl ?_
      refine T_goto (tgt := 28) dX9_fair_61 (by decide) ?_
      obtain rfl := sm1 h
      exact hI _ _ rfl
set_option maxRecDepth 100000 in
set_option maxHeartbeats 4000000 in
theorem l_X9_fair_L28 (M : Mem) (x1 : Int32) {Po : Po_} (er : Int32) (eM : Mem) : ∀ (k : Nat) (x3 : Int32) (x4 : Int32), loop (X9_fair_L28 M x1) k (x3, x4) = some (er, eM) → (Po (vI er) LAYM rfm eM) → T RX9 cX9_fair 5 (some .int) 0 9 0 0 false Po 28 [aR (some 0), aI x1, aU, aI x3, aI x4] [] LAYM rfm M 0 0 := by
  intro k
  induction k with
  | zero => intro x3 x4 h; cases h
  | succ k ih =>
    intro x3 x4 h hE
    obtain ⟨x, hx, hx1, hx2⟩ := loop_succ h
    exact s_X9_fair_L28  M x1  x3 x4 x hx (fun q0 q1 e => ih q0 q1 (hx1 _ e) hE) (fun q0 q1 e => by cases hx2 _ e; exact hE)
set_option maxRecDepth 100000 in
set_option maxHeartbeats 4000000 in
theorem j_X9_fair_J16 (M : Mem) (x1 : Int32) (s0 : Int32) (r : Int32) (M' : Mem) (h : X9_fair_J16 M x1 s0 = some (r, M')) : T RX9 cX9_fair 5 (some .int) 0 9 0 0 false (eqp (vI r) LAYM rfm M') 16 [aR (some 0), aI x1, aU, aU, aU] [vI s0] LAYM rfm M 0 0 := by
  unfold X9_fair_J16 at h
  refine T_istore_n (i := 2) (L' := [aR (some 0), aI x1, aI s0, aU, aU]) dX9_fair_16 rfl (Nat.le_of_ble_eq_true rfl) rfl ?_
  refine T_iload_n dX9_fair_17 rfl ?_
  refine T_if_ge (tgt := 23) dX9_fair_18 (by decide) (fun hc => ?_) (fun hc => ?_)
  · have h := it_pos hc h
    refine T_iconst dX9_fair_23 ic_0 ?_
    refine T_istore_n (i := 3) (L' := [aR (some 0), aI x1, aI s0, aI 0, aU]) dX9_fair_24 rfl (Nat.le_of_ble_eq_true rfl) rfl ?_
    refine T_iconst dX9_fair_25 ic_0 ?_
    refine T_istore (i := 4) (L' := [aR (some 0), aI x1, aI s0, aI 0, aI 0]) dX9_fair_26 (Nat.le_of_ble_eq_true rfl) rfl ?_
    refine T_mask [true, true, false, true, true] rfl ?_
    exact l_X9_fair_L28  M x1  _ _ FU 0 0 h ⟨rfl, rfl, rfl, rfl⟩
  · have h := it_neg hc h
    refine T_iload_n dX9_fair_21 rfl ?_
    obtain ⟨rfl, rfl⟩ := sm2 h
    exact T_iret dX9_fair_22 ⟨rfl, rfl, rfl, rfl⟩
set_option maxRecDepth 100000 in
set_option maxHeartbeats 4000000 in
theorem m_X9_fair (M : Mem) (x1 : Int32) (r : Int32) (M' : Mem) (h : F_X9_fair M x1 = some (r, M')) : Cal yX9_fair cX9_fair 5 (some .int) 0 9 0 0 false [vR (some 0), vI x1] LAYM rfm M (eqp (vI r) LAYM rfm M') := by
  refine Cal.of (by decide +kernel) (Nat.le_of_ble_eq_true rfl) (fun h => by cases h) ?_
  unfold F_X9_fair at h
  show T RX9 cX9_fair 5 (some .int) 0 9 0 0 false (eqp (vI r) LAYM rfm M') 0 [aR (some 0), aI x1, aU, aU, aU] [] LAYM rfm M 0 0
  refine T_iload_n dX9_fair_0 rfl ?_
  obtain ⟨r_1, hc_2, h⟩ := bd1_some h
  refine T_csi (as := [vI x1]) dX9_fair_1 cw_X9_isImage ml_X9_274 mt_X9_isImage rfl (Nat.le_of_ble_eq_true rfl) (Nat.le_of_ble_eq_true rfl) (m_X9_isImage M x1  _ hc_2) ?_
  refine T_if_ne (tgt := 11) dX9_fair_4 (by decide) (fun hc => ?_) (fun hc => ?_)
  · have h := it_neg hc h
    refine T_aload_n dX9_fair_11 rfl ?_
    refine T_iload_n dX9_fair_12 rfl ?_
    obtain ⟨r_3, M_4, hc_5, h⟩ := bd2_some h
    refine T_cvi (as := [vI x1]) dX9_fair_13 cw_X9_needImage ml_X9_280 mi_X9_needImage se_X9_needImage lyM_0 rfl (by decide) rfl (Nat.le_of_ble_eq_true rfl) (Nat.le_of_ble_eq_true rfl) (m_X9_needImage  M x1  _ _ hc_5) ?_
    exact j_X9_fair_J16  M_4 x1 r_3  _ _ h
  · have h := it_pos hc h
    refine T_iconst dX9_fair_7 ic_m1 ?_
    refine T_goto (tgt := 16) dX9_fair_8 (by decide) ?_
    exact j_X9_fair_J16  M x1 (-1)  _ _ h
def X9_shovels_L31 (M : Mem) (x1 : Int32) : Int32 × Int32 × Int32 → Option ((Int32 × Int32 × Int32) ⊕ (Int32 × Mem))
  | (x3, x4, x5) =>
    if (gI M 0 11) ≤ x5 then bd2 (F_X9_ask M x4 x3) fun r_6 M_7 => some (.inr (r_6, M_7))
    else chk (inb x5 16 = true) (chk (inb (((nI 17) * x1) + x5) 51 = true) (lett ((gI M 7 x5.toNatClampNeg) - (gI M 15 (((nI 17) * x1) + x5).toNatClampNeg)) fun x_11 => if 0 ≤ x_11 then lett (x3 + x_11) fun x_13 => lett (x4 + x_11) fun x_15 => lett (x5 + 1) fun x_17 => some (.inl (x_13, x_15, x_17))
    else lett (x3 + (-x_11)) fun x_19 => lett (x4 + x_11) fun x_21 => lett (x5 + 1) fun x_23 => some (.inl (x_19, x_21, x_23))))
def X9_shovels_J16 (M : Mem) (x1 : Int32) (s0 : Int32) : Option (Int32 × Mem) :=
 if 0 ≤ s0 then loop (X9_shovels_L31 M x1) FU (0, 0, 0)
 else some (s0, M)
def F_X9_shovels (M : Mem) (x1 : Int32) : Option (Int32 × Mem) :=
 bd1 (F_X9_isImage x1) fun r_1 => if r_1 = 0 then X9_shovels_J16 M x1 (-1)
 else bd2 (F_X9_needImage M x1) fun r_3 M_4 => X9_shovels_J16 M_4 x1 r_3
set_option maxRecDepth 100000 in
set_option maxHeartbeats 4000000 in
theorem s_X9_shovels_L31 (M : Mem) (x1 : Int32) (x3 : Int32) (x4 : Int32) (x5 : Int32) {Po : Po_} (x : (Int32 × Int32 × Int32) ⊕ (Int32 × Mem)) (h : X9_shovels_L31 M x1 (x3, x4, x5) = some x) (hI : ∀ (ix3 : Int32) (ix4 : Int32) (ix5 : Int32), x = .inl (ix3, ix4, ix5) → T RX9 cX9_shovels 7 (some .int) 0 6 0 0 false Po 31 [aR (some 0), aI x1, aU, aI ix3, aI ix4, aI ix5, aU] [] LAYM rfm M 0 0) (hE0 : ∀ (er : Int32) (eM : Mem), x = .inr (er, eM) → Po (vI er) LAYM rfm eM) : T RX9 cX9_shovels 7 (some .int) 0 6 0 0 false Po 31 [aR (some 0), aI x1, aU, aI x3, aI x4, aI x5, aU] [] LAYM rfm M 0 0 := by
  unfold X9_shovels_L31 at h
  simp only at h
  refine T_iload dX9_shovels_31 rfl ?_
  refine T_aload_n dX9_shovels_33 rfl ?_
  refine T_getI dX9_shovels_34 clOK_X9 fl_X9_155 lyM_0 rfl ?_
  refine T_icmp_ge (tgt := 91) dX9_shovels_37 (by decide) (fun hc => ?_) (fun hc => ?_)
  · have h := it_pos hc h
    refine T_aload_n dX9_shovels_91 rfl ?_
    refine T_iload dX9_shovels_92 rfl ?_
    refine T_iload_n dX9_shovels_94 rfl ?_
    obtain ⟨r_6, M_7, hc_8, h⟩ := bd2_some h
    refine T_cvi (as := [vI x4, vI x3]) dX9_shovels_95 cw_X9_ask ml_X9_105 mi_X9_ask se_X9_ask lyM_0 rfl (by decide) rfl (Nat.le_of_ble_eq_true rfl) (Nat.le_of_ble_eq_true rfl) (m_X9_ask  M x4 x3  _ _ hc_8) ?_
    obtain rfl := sm1 h
    exact T_iret dX9_shovels_98 (hE0 _ _ rfl)
  · have h := it_neg hc h
    refine T_aload_n dX9_shovels_40 rfl ?_
    refine T_getR dX9_shovels_41 clOK_X9 fl_X9_32 lyM_0 rfl rfl ?_
    refine T_iload dX9_shovels_44 rfl ?_
    obtain ⟨hi_9, h⟩ := chk_some h
    refine T_iald dX9_shovels_46 lyM_7 (inb_in hi_9) ?_
    refine T_aload_n dX9_shovels_47 rfl ?_
    refine T_getR dX9_shovels_48 clOK_X9 fl_X9_56 lyM_0 rfl rfl ?_
    refine T_bipush dX9_shovels_51 bp_17 ?_
    refine T_iload_n dX9_shovels_53 rfl ?_
    refine T_imul dX9_shovels_54 ?_
    refine T_iload dX9_shovels_55 rfl ?_
    refine T_iadd dX9_shovels_57 ?_
    obtain ⟨hi_10, h⟩ := chk_some h
    refine T_iald dX9_shovels_58 lyM_15 (inb_in hi_10) ?_
    refine T_isub dX9_shovels_59 ?_
    obtain ⟨x_11, ex_12, h⟩ := lett_some h
    refine T_topI ex_12 ?_
    refine T_istore (i := 6) (L' := [aR (some 0), aI x1, aU, aI x3, aI x4, aI x5, aI x_11]) dX9_shovels_60 (Nat.le_of_ble_eq_true rfl) rfl ?_
    refine T_iload_n dX9_shovels_62 rfl ?_
    refine T_iload dX9_shovels_63 rfl ?_
    refine T_if_ge (tgt := 74) dX9_shovels_65 (by decide) (fun hc => ?_) (fun hc => ?_)
    · have h := it_pos hc h
      refine T_iload dX9_shovels_74 rfl ?_
      refine T_iadd dX9_shovels_76 ?_
      obtain ⟨x_13, ex_14, h⟩ := lett_some h
      refine T_topI ex_14 ?_
      refine T_istore_n (i := 3) (L' := [aR (some 0), aI x1, aU, aI x_13, aI x4, aI x5, aI x_11]) dX9_shovels_77 rfl (Nat.le_of_ble_eq_true rfl) rfl ?_
      refine T_iload dX9_shovels_78 rfl ?_
      refine T_iload dX9_shovels_80 rfl ?_
      refine T_iadd dX9_shovels_82 ?_
      obtain ⟨x_15, ex_16, h⟩ := lett_some h
      refine T_topI ex_16 ?_
      refine T_istore (i := 4) (L' := [aR (some 0), aI x1, aU, aI x_13, aI x_15, aI x5, aI x_11]) dX9_shovels_83 (Nat.le_of_ble_eq_true rfl) rfl ?_
      obtain ⟨x_17, ex_18, h⟩ := lett_some h
      refine T_iinc (L' := [aR (some 0), aI x1, aU, aI x_13, aI x_15, aI x_17, aI x_11]) dX9_shovels_85 rfl (ic_inc ic_1 ex_18) (Nat.le_of_ble_eq_true rfl) rfl ?_
      refine T_goto (tgt := 31) dX9_shovels_88 (by decide) ?_
      obtain rfl := sm1 h
      refine T_mask [true, true, true, true, true, true, false] rfl ?_
      exact hI _ _ _ rfl
    · have h := it_neg hc h
      refine T_iload dX9_shovels_68 rfl ?_
      refine T_ineg dX9_shovels_70 ?_
      refine T_goto (tgt := 76) dX9_shovels_71 (by decide) ?_
      refine T_iadd dX9_shovels_76 ?_
      obtain ⟨x_19, ex_20, h⟩ := lett_some h
      refine T_topI ex_20 ?_
      refine T_istore_n (i := 3) (L' := [aR (some 0), aI x1, aU, aI x_19, aI x4, aI x5, aI x_11]) dX9_shovels_77 rfl (Nat.le_of_ble_eq_true rfl) rfl ?_
      refine T_iload dX9_shovels_78 rfl ?_
      refine T_iload dX9_shovels_80 rfl ?_
      refine T_iadd dX9_shovels_82 ?_
      obtain ⟨x_21, ex_22, h⟩ := lett_some h
      refine T_topI ex_22 ?_
      refine T_istore (i := 4) (L' := [aR (some 0), aI x1, aU, aI x_19, aI x_21, aI x5, aI x_11]) dX9_shovels_83 (Nat.le_of_ble_eq_true rfl) rfl ?_
      obtain ⟨x_23, ex_24, h⟩ := lett_some h
      refine T_iinc (L' := [aR (some 0), aI x1, aU, aI x_19, aI x_21, aI x_23, aI x_11]) dX9_shovels_85 rfl (ic_inc ic_1 ex_24) (Nat.le_of_ble_eq_true rfl) rfl ?_
      refine T_goto (tgt := 31) dX9_shovels_88 (by decide) ?_
      obtain rfl := sm1 h
      refine T_mask [true, true, true, true, true, true, false] rfl ?_
      exact hI _ _ _ rfl
set_option maxRecDepth 100000 in
set_option maxHeartbeats 4000000 in
theorem l_X9_shovels_L31 (M : Mem) (x1 : Int32) {Po : Po_} (er : Int32) (eM : Mem) : ∀ (k : Nat) (x3 : Int32) (x4 : Int32) (x5 : Int32), loop (X9_shovels_L31 M x1) k (x3, x4, x5) = some (er, eM) → (Po (vI er) LAYM rfm eM) → T RX9 cX9_shovels 7 (some .int) 0 6 0 0 false Po 31 [aR (some 0), aI x1, aU, aI x3, aI x4, aI x5, aU] [] LAYM rfm M 0 0 := by
  intro k
  induction k with
  | zero => intro x3 x4 x5 h; cases h
  | succ k ih =>
    intro x3 x4 x5 h hE
    obtain ⟨x, hx, hx1, hx2⟩ := loop_succ h
    exact s_X9_shovels_L31  M x1  x3 x4 x5 x hx (fun q0 q1 q2 e => ih q0 q1 q2 (hx1 _ e) hE) (fun q0 q1 e => by cases hx2 _ e; exact hE)
set_option maxRecDepth 100000 in
set_option maxHeartbeats 4000000 in
theorem j_X9_shovels_J16 (M : Mem) (x1 : Int32) (s0 : Int32) (r : Int32) (M' : Mem) (h : X9_shovels_J16 M x1 s0 = some (r, M')) : T RX9 cX9_shovels 7 (some .int) 0 6 0 0 false (eqp (vI r) LAYM rfm M') 16 [aR (some 0), aI x1, aU, aU, aU, aU, aU] [vI s0] LAYM rfm M 0 0 := by
  unfold X9_shovels_J16 at h
  refine T_istore_n (i := 2) (L' := [aR (some 0), aI x1, aI s0, aU, aU, aU, aU]) dX9_shovels_16 rfl (Nat.le_of_ble_eq_true rfl) rfl ?_
  refine T_iload_n dX9_shovels_17 rfl ?_
  refine T_if_ge (tgt := 23) dX9_shovels_18 (by decide) (fun hc => ?_) (fun hc => ?_)
  · have h := it_pos hc h
    refine T_iconst dX9_shovels_23 ic_0 ?_
    refine T_istore_n (i := 3) (L' := [aR (some 0), aI x1, aI s0, aI 0, aU, aU, aU]) dX9_shovels_24 rfl (Nat.le_of_ble_eq_true rfl) rfl ?_
    refine T_iconst dX9_shovels_25 ic_0 ?_
    refine T_istore (i := 4) (L' := [aR (some 0), aI x1, aI s0, aI 0, aI 0, aU, aU]) dX9_shovels_26 (Nat.le_of_ble_eq_true rfl) rfl ?_
    refine T_iconst dX9_shovels_28 ic_0 ?_
    refine T_istore (i := 5) (L' := [aR (some 0), aI x1, aI s0, aI 0, aI 0, aI 0, aU]) dX9_shovels_29 (Nat.le_of_ble_eq_true rfl) rfl ?_
    refine T_mask [true, true, false, true, true, true, true] rfl ?_
    exact l_X9_shovels_L31  M x1  _ _ FU 0 0 0 h ⟨rfl, rfl, rfl, rfl⟩
  · have h := it_neg hc h
    refine T_iload_n dX9_shovels_21 rfl ?_
    obtain ⟨rfl, rfl⟩ := sm2 h
    exact T_iret dX9_shovels_22 ⟨rfl, rfl, rfl, rfl⟩
set_option maxRecDepth 100000 in
set_option maxHeartbeats 4000000 in
theorem m_X9_shovels (M : Mem) (x1 : Int32) (r : Int32) (M' : Mem) (h : F_X9_shovels M x1 = some (r, M')) : Cal yX9_shovels cX9_shovels 7 (some .int) 0 6 0 0 false [vR (some 0), vI x1] LAYM rfm M (eqp (vI r) LAYM rfm M') := by
  refine Cal.of (by decide +kernel) (Nat.le_of_ble_eq_true rfl) (fun h => by cases h) ?_
  unfold F_X9_shovels at h
  show T RX9 cX9_shovels 7 (some .int) 0 6 0 0 false (eqp (vI r) LAYM rfm M') 0 [aR (some 0), aI x1, aU, aU, aU, aU, aU] [] LAYM rfm M 0 0
  refine T_iload_n dX9_shovels_0 rfl ?_
  obtain ⟨r_1, hc_2, h⟩ := bd1_some h
  refine T_csi (as := [vI x1]) dX9_shovels_1 cw_X9_isImage ml_X9_274 mt_X9_isImage rfl (Nat.le_of_ble_eq_true rfl) (Nat.le_of_ble_eq_true rfl) (m_X9_isImage M x1  _ hc_2) ?_
  refine T_if_ne (tgt := 11) dX9_shovels_4 (by decide) (fun hc => ?_) (fun hc => ?_)
  · have h := it_neg hc h
    refine T_aload_n dX9_shovels_11 rfl ?_
    refine T_iload_n dX9_shovels_12 rfl ?_
    obtain ⟨r_3, M_4, hc_5, h⟩ := bd2_some h
    refine T_cvi (as := [vI x1]) dX9_shovels_13 cw_X9_needImage ml_X9_280 mi_X9_needImage se_X9_needImage lyM_0 rfl (by decide) rfl (Nat.le_of_ble_eq_true rfl) (Nat.le_of_ble_eq_true rfl) (m_X9_needImage  M x1  _ _ hc_5) ?_
    exact j_X9_shovels_J16  M_4 x1 r_3  _ _ h
  · have h := it_pos hc h
    refine T_iconst dX9_shovels_7 ic_m1 ?_
    refine T_goto (tgt := 16) dX9_shovels_8 (by decide) ?_
    exact j_X9_shovels_J16  M x1 (-1)  _ _ h
def X9_suspect_J76 (M : Mem) (x1 : Int32) (x4 : Int32) (x5 : Int32) (x6 : Int32) (s0 : Int32) : Option ((Int32 × Int32 × Int32) ⊕ (Int32 × Int32)) :=
 bd1 (F_X9_greater x4 x6) fun r_10 => lett (x5 + 1) fun x_12 => some (.inl (s0, r_10, x_12))
def X9_suspect_L32 (M : Mem) (x1 : Int32) : Int32 × Int32 × Int32 → Option ((Int32 × Int32 × Int32) ⊕ (Int32 × Int32))
  | (x3, x4, x5) =>
    if (gI M 0 11) ≤ x5 then some (.inr (x3, x4))
    else chk (inb x5 16 = true) (chk (inb (((nI 17) * x1) + x5) 51 = true) (lett ((gI M 7 x5.toNatClampNeg) - (gI M 15 (((nI 17) * x1) + x5).toNatClampNeg)) fun x_8 => if x_8 ≤ x4 then X9_suspect_J76 M x1 x4 x5 x_8 x3
    else X9_suspect_J76 M x1 x4 x5 x_8 x5))
def X9_suspect_J16 (M : Mem) (x1 : Int32) (s0 : Int32) : Option (Int32 × Mem) :=
 if 0 ≤ s0 then bd2 (loop (X9_suspect_L32 M x1) FU ((-9), 0, 0)) fun x_14 x_15 => if x_14 = (-9) then some ((-9), M)
 else bd2 (F_X9_ask M x_15 x_14) fun r_16 M_17 => some (r_16, M_17)
 else some (s0, M)
def F_X9_suspect (M : Mem) (x1 : Int32) : Option (Int32 × Mem) :=
 bd1 (F_X9_isImage x1) fun r_1 => if r_1 = 0 then X9_suspect_J16 M x1 (-1)
 else bd2 (F_X9_needImage M x1) fun r_3 M_4 => X9_suspect_J16 M_4 x1 r_3
set_option maxRecDepth 100000 in
set_option maxHeartbeats 4000000 in
theorem j_X9_suspect_J76 (M : Mem) (x1 : Int32) (x4 : Int32) (x5 : Int32) (x6 : Int32) (s0 : Int32) {Po : Po_} (x : (Int32 × Int32 × Int32) ⊕ (Int32 × Int32)) (h : X9_suspect_J76 M x1 x4 x5 x6 s0 = some x) (hI : ∀ (ix3 : Int32) (ix4 : Int32) (ix5 : Int32), x = .inl (ix3, ix4, ix5) → T RX9 cX9_suspect 7 (some .int) 0 6 0 0 false Po 32 [aR (some 0), aI x1, aU, aI ix3, aI ix4, aI ix5, aU] [] LAYM rfm M 0 0) (hE0 : ∀ (e3 : Int32) (e4 : Int32), x = .inr (e3, e4) → T RX9 cX9_suspect 7 (some .int) 0 6 0 0 false Po 92 [aR (some 0), aU, aU, aI e3, aI e4, aU, aU] [] LAYM rfm M 0 0) : T RX9 cX9_suspect 7 (some .int) 0 6 0 0 false Po 76 [aR (some 0), aI x1, aU, aU, aI x4, aI x5, aI x6] [vI s0] LAYM rfm M 0 0 := by
  unfold X9_suspect_J76 at h
  refine T_istore_n (i := 3) (L' := [aR (some 0), aI x1, aU, aI s0, aI x4, aI x5, aI x6]) dX9_suspect_76 rfl (Nat.le_of_ble_eq_true rfl) rfl ?_
  refine T_iload dX9_suspect_77 rfl ?_
  refine T_iload dX9_suspect_79 rfl ?_
  obtain ⟨r_10, hc_11, h⟩ := bd1_some h
  refine T_csi (as := [vI x4, vI x6]) dX9_suspect_81 cw_X9_greater ml_X9_193 mt_X9_greater rfl (Nat.le_of_ble_eq_true rfl) (Nat.le_of_ble_eq_true rfl) (m_X9_greater M x4 x6  _ hc_11) ?_
  refine T_istore (i := 4) (L' := [aR (some 0), aI x1, aU, aI s0, aI r_10, aI x5, aI x6]) dX9_suspect_84 (Nat.le_of_ble_eq_true rfl) rfl ?_
  obtain ⟨x_12, ex_13, h⟩ := lett_some h
  refine T_iinc (L' := [aR (some 0), aI x1, aU, aI s0, aI r_10, aI x_12, aI x6]) dX9_suspect_86 rfl (ic_inc ic_1 ex_13) (Nat.le_of_ble_eq_true rfl) rfl ?_
  refine T_goto (tgt := 32) dX9_suspect_89 (by decide) ?_
  obtain rfl := sm1 h
  refine T_mask [true, true, true, true, true, true, false] rfl ?_
  exact hI _ _ _ rfl
set_option maxRecDepth 100000 in
set_option maxHeartbeats 4000000 in
theorem s_X9_suspect_L32 (M : Mem) (x1 : Int32) (x3 : Int32) (x4 : Int32) (x5 : Int32) {Po : Po_} (x : (Int32 × Int32 × Int32) ⊕ (Int32 × Int32)) (h : X9_suspect_L32 M x1 (x3, x4, x5) = some x) (hI : ∀ (ix3 : Int32) (ix4 : Int32) (ix5 : Int32), x = .inl (ix3, ix4, ix5) → T RX9 cX9_suspect 7 (some .int) 0 6 0 0 false Po 32 [aR (some 0), aI x1, aU, aI ix3, aI ix4, aI ix5, aU] [] LAYM rfm M 0 0) (hE0 : ∀ (e3 : Int32) (e4 : Int32), x = .inr (e3, e4) → T RX9 cX9_suspect 7 (some .int) 0 6 0 0 false Po 92 [aR (some 0), aU, aU, aI e3, aI e4, aU, aU] [] LAYM rfm M 0 0) : T RX9 cX9_suspect 7 (some .int) 0 6 0 0 false Po 32 [aR (some 0), aI x1, aU, aI x3, aI x4, aI x5, aU] [] LAYM rfm M 0 0 := by
  unfold X9_suspect_L32 at h
  simp only at h
  refine T_iload dX9_suspect_32 rfl ?_
  refine T_aload_n dX9_suspect_34 rfl ?_
  refine T_getI dX9_suspect_35 clOK_X9 fl_X9_155 lyM_0 rfl ?_
  refine T_icmp_ge (tgt := 92) dX9_suspect_38 (by decide) (fun hc => ?_) (fun hc => ?_)
  · have h := it_pos hc h
    obtain rfl := sm1 h
    refine T_mask [true, false, true, true, true, false, true] rfl ?_
    exact hE0 _ _ rfl
  · have h := it_neg hc h
    refine T_aload_n dX9_suspect_41 rfl ?_
    refine T_getR dX9_suspect_42 clOK_X9 fl_X9_32 lyM_0 rfl rfl ?_
    refine T_iload dX9_suspect_45 rfl ?_
    obtain ⟨hi_6, h⟩ := chk_some h
    refine T_iald dX9_suspect_47 lyM_7 (inb_in hi_6) ?_
    refine T_aload_n dX9_suspect_48 rfl ?_
    refine T_getR dX9_suspect_49 clOK_X9 fl_X9_56 lyM_0 rfl rfl ?_
    refine T_bipush dX9_suspect_52 bp_17 ?_
    refine T_iload_n dX9_suspect_54 rfl ?_
    refine T_imul dX9_suspect_55 ?_
    refine T_iload dX9_suspect_56 rfl ?_
    refine T_iadd dX9_suspect_58 ?_
    obtain ⟨hi_7, h⟩ := chk_some h
    refine T_iald dX9_suspect_59 lyM_15 (inb_in hi_7) ?_
    refine T_isub dX9_suspect_60 ?_
    obtain ⟨x_8, ex_9, h⟩ := lett_some h
    refine T_topI ex_9 ?_
    refine T_istore (i := 6) (L' := [aR (some 0), aI x1, aU, aI x3, aI x4, aI x5, aI x_8]) dX9_suspect_61 (Nat.le_of_ble_eq_true rfl) rfl ?_
    refine T_iload dX9_suspect_63 rfl ?_
    refine T_iload dX9_suspect_65 rfl ?_
    refine T_icmp_le (tgt := 75) dX9_suspect_67 (by decide) (fun hc => ?_) (fun hc => ?_)
    · have h := it_pos hc h
      refine T_iload_n dX9_suspect_75 rfl ?_
      refine T_mask [true, true, true, false, true, true, true] rfl ?_
      exact j_X9_suspect_J76  M x1 x4 x5 x_8 x3  _ h hI hE0
    · have h := it_neg hc h
      refine T_iload dX9_suspect_70 rfl ?_
      refine T_goto (tgt := 76) dX9_suspect_72 (by decide) ?_
      refine T_mask [true, true, true, false, true, true, true] rfl ?_
      exact j_X9_suspect_J76  M x1 x4 x5 x_8 x5  _ h hI hE0
set_option maxRecDepth 100000 in
set_option maxHeartbeats 4000000 in
theorem l_X9_suspect_L32 (M : Mem) (x1 : Int32) {Po : Po_} (e3 : Int32) (e4 : Int32) : ∀ (k : Nat) (x3 : Int32) (x4 : Int32) (x5 : Int32), loop (X9_suspect_L32 M x1) k (x3, x4, x5) = some (e3, e4) → (T RX9 cX9_suspect 7 (some .int) 0 6 0 0 false Po 92 [aR (some 0), aU, aU, aI e3, aI e4, aU, aU] [] LAYM rfm M 0 0) → T RX9 cX9_suspect 7 (some .int) 0 6 0 0 false Po 32 [aR (some 0), aI x1, aU, aI x3, aI x4, aI x5, aU] [] LAYM rfm M 0 0 := by
  intro k
  induction k with
  | zero => intro x3 x4 x5 h; cases h
  | succ k ih =>
    intro x3 x4 x5 h hE
    obtain ⟨x, hx, hx1, hx2⟩ := loop_succ h
    exact s_X9_suspect_L32  M x1  x3 x4 x5 x hx (fun q0 q1 q2 e => ih q0 q1 q2 (hx1 _ e) hE) (fun q0 q1 e => by cases hx2 _ e; exact hE)
set_option maxRecDepth 100000 in
set_option maxHeartbeats 4000000 in
theorem j_X9_suspect_J16 (M : Mem) (x1 : Int32) (s0 : Int32) (r : Int32) (M' : Mem) (h : X9_suspect_J16 M x1 s0 = some (r, M')) : T RX9 cX9_suspect 7 (some .int) 0 6 0 0 false (eqp (vI r) LAYM rfm M') 16 [aR (some 0), aI x1, aU, aU, aU, aU, aU] [vI s0] LAYM rfm M 0 0 := by
  unfold X9_suspect_J16 at h
  refine T_istore_n (i := 2) (L' := [aR (some 0), aI x1, aI s0, aU, aU, aU, aU]) dX9_suspect_16 rfl (Nat.le_of_ble_eq_true rfl) rfl ?_
  refine T_iload_n dX9_suspect_17 rfl ?_
  refine T_if_ge (tgt := 23) dX9_suspect_18 (by decide) (fun hc => ?_) (fun hc => ?_)
  · have h := it_pos hc h
    refine T_bipush dX9_suspect_23 bp_m9 ?_
    refine T_istore_n (i := 3) (L' := [aR (some 0), aI x1, aI s0, aI (-9), aU, aU, aU]) dX9_suspect_25 rfl (Nat.le_of_ble_eq_true rfl) rfl ?_
    refine T_iconst dX9_suspect_26 ic_0 ?_
    refine T_istore (i := 4) (L' := [aR (some 0), aI x1, aI s0, aI (-9), aI 0, aU, aU]) dX9_suspect_27 (Nat.le_of_ble_eq_true rfl) rfl ?_
    refine T_iconst dX9_suspect_29 ic_0 ?_
    refine T_istore (i := 5) (L' := [aR (some 0), aI x1, aI s0, aI (-9), aI 0, aI 0, aU]) dX9_suspect_30 (Nat.le_of_ble_eq_true rfl) rfl ?_
    obtain ⟨x_14, x_15, hl, h⟩ := bd2_some h
    refine T_mask [true, true, false, true, true, true, true] rfl ?_
    refine l_X9_suspect_L32  M x1  _ _ FU (-9) 0 0 hl ?_
    refine T_iload_n dX9_suspect_92 rfl ?_
    refine T_bipush dX9_suspect_93 bp_m9 ?_
    refine T_icmp_ne (tgt := 103) dX9_suspect_95 (by decide) (fun hc => ?_) (fun hc => ?_)
    · have h := it_neg hc h
      refine T_aload_n dX9_suspect_103 rfl ?_
      refine T_iload dX9_suspect_104 rfl ?_
      refine T_iload_n dX9_suspect_106 rfl ?_
      obtain ⟨r_16, M_17, hc_18, h⟩ := bd2_some h
      refine T_cvi (as := [vI x_15, vI x_14]) dX9_suspect_107 cw_X9_ask ml_X9_105 mi_X9_ask se_X9_ask lyM_0 rfl (by decide) rfl (Nat.le_of_ble_eq_true rfl) (Nat.le_of_ble_eq_true rfl) (m_X9_ask  M x_15 x_14  _ _ hc_18) ?_
      obtain ⟨rfl, rfl⟩ := sm2 h
      exact T_iret dX9_suspect_110 ⟨rfl, rfl, rfl, rfl⟩
    · have h := it_pos hc h
      refine T_bipush dX9_suspect_98 bp_m9 ?_
      refine T_goto (tgt := 110) dX9_suspect_100 (by decide) ?_
      obtain ⟨rfl, rfl⟩ := sm2 h
      exact T_iret dX9_suspect_110 ⟨rfl, rfl, rfl, rfl⟩
  · have h := it_neg hc h
    refine T_iload_n dX9_suspect_21 rfl ?_
    obtain ⟨rfl, rfl⟩ := sm2 h
    exact T_iret dX9_suspect_22 ⟨rfl, rfl, rfl, rfl⟩
set_option maxRecDepth 100000 in
set_option maxHeartbeats 4000000 in
theorem m_X9_suspect (M : Mem) (x1 : Int32) (r : Int32) (M' : Mem) (h : F_X9_suspect M x1 = some (r, M')) : Cal yX9_suspect cX9_suspect 7 (some .int) 0 6 0 0 false [vR (some 0), vI x1] LAYM rfm M (eqp (vI r) LAYM rfm M') := by
  refine Cal.of (by decide +kernel) (Nat.le_of_ble_eq_true rfl) (fun h => by cases h) ?_
  unfold F_X9_suspect at h
  show T RX9 cX9_suspect 7 (some .int) 0 6 0 0 false (eqp (vI r) LAYM rfm M') 0 [aR (some 0), aI x1, aU, aU, aU, aU, aU] [] LAYM rfm M 0 0
  refine T_iload_n dX9_suspect_0 rfl ?_
  obtain ⟨r_1, hc_2, h⟩ := bd1_some h
  refine T_csi (as := [vI x1]) dX9_suspect_1 cw_X9_isImage ml_X9_274 mt_X9_isImage rfl (Nat.le_of_ble_eq_true rfl) (Nat.le_of_ble_eq_true rfl) (m_X9_isImage M x1  _ hc_2) ?_
  refine T_if_ne (tgt := 11) dX9_suspect_4 (by decide) (fun hc => ?_) (fun hc => ?_)
  · have h := it_neg hc h
    refine T_aload_n dX9_suspect_11 rfl ?_
    refine T_iload_n dX9_suspect_12 rfl ?_
    obtain ⟨r_3, M_4, hc_5, h⟩ := bd2_some h
    refine T_cvi (as := [vI x1]) dX9_suspect_13 cw_X9_needImage ml_X9_280 mi_X9_needImage se_X9_needImage lyM_0 rfl (by decide) rfl (Nat.le_of_ble_eq_true rfl) (Nat.le_of_ble_eq_true rfl) (m_X9_needImage  M x1  _ _ hc_5) ?_
    exact j_X9_suspect_J16  M_4 x1 r_3  _ _ h
  · have h := it_pos hc h
    refine T_iconst dX9_suspect_7 ic_m1 ?_
    refine T_goto (tgt := 16) dX9_suspect_8 (by decide) ?_
    exact j_X9_suspect_J16  M x1 (-1)  _ _ h
