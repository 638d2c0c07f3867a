def X9_areTurned_L29 (M : Mem) (x4 : Int32) : Int32 × Int32 × Int32 → Option ((Int32 × Int32 × Int32) ⊕ (Int32))
  | (x3, x5, x6) =>
    if (nI 3) ≤ x6 then chk (x5 = 0 ∨ x5 = 1) (some (.inr x5))
    else bd1 (F_X9_quarter x3) fun r_6 => if x5 = 0 then if r_6 = x4 then lett (x6 + 1) fun x_12 => some (.inl (r_6, 1, x_12))
    else lett (x6 + 1) fun x_10 => some (.inl (r_6, 0, x_10))
    else lett (x6 + 1) fun x_8 => some (.inl (r_6, 1, x_8))
def X9_areTurned_J24 (M : Mem) (x3 : Int32) (x4 : Int32) (s0 : Int32) : Option (Int32) :=
 loop (X9_areTurned_L29 M x4) FU (x3, s0, 0)
def F_X9_areTurned (M : Mem) (x1 : Int32) (x2 : Int32) : Option (Int32) :=
 bd1 (F_X9_shape M x1) fun r_1 => bd1 (F_X9_shape M x2) fun r_3 => if r_1 = r_3 then X9_areTurned_J24 M r_1 r_3 1
 else X9_areTurned_J24 M r_1 r_3 0
set_option maxRecDepth 100000 in
set_option maxHeartbeats 4000000 in
theorem s_X9_areTurned_L29 (M : Mem) (x4 : Int32) (x3 : Int32) (x5 : Int32) (x6 : Int32) {Po : Po_} (x : (Int32 × Int32 × Int32) ⊕ (Int32)) (h : X9_areTurned_L29 M x4 (x3, x5, x6) = some x) (hI : ∀ (ix3 : Int32) (ix5 : Int32) (ix6 : Int32), x = .inl (ix3, ix5, ix6) → T RX9 cX9_areTurned 7 (some .boolean) 0 4 0 0 false Po 29 [aR (some 0), aU, aU, aI ix3, aI x4, aI ix5, aI ix6] [] LAYM rfm M 0 0) (hE0 : ∀ (er : Int32), x = .inr er → Po (vI er) LAYM rfm M) : T RX9 cX9_areTurned 7 (some .boolean) 0 4 0 0 false Po 29 [aR (some 0), aU, aU, aI x3, aI x4, aI x5, aI x6] [] LAYM rfm M 0 0 := by
  unfold X9_areTurned_L29 at h
  simp only at h
  refine T_iload dX9_areTurned_29 rfl ?_
  refine T_iconst dX9_areTurned_31 ic_3 ?_
  refine T_icmp_ge (tgt := 65) dX9_areTurned_32 (by decide) (fun hc => ?_) (fun hc => ?_)
  · have h := it_pos hc h
    refine T_iload dX9_areTurned_65 rfl ?_
    obtain ⟨hb_5, h⟩ := chk_some h
    obtain rfl := sm1 h
    exact T_zret dX9_areTurned_67 hb_5 (hE0 _ rfl)
  · have h := it_neg hc h
    refine T_aload_n dX9_areTurned_35 rfl ?_
    refine T_iload_n dX9_areTurned_36 rfl ?_
    obtain ⟨r_6, hc_7, h⟩ := bd1_some h
    refine T_cvi (as := [vI x3]) dX9_areTurned_37 cw_X9_quarter ml_X9_227 mi_X9_quarter se_X9_quarter lyM_0 rfl (by decide) rfl (Nat.le_of_ble_eq_true rfl) (Nat.le_of_ble_eq_true rfl) (m_X9_quarter M x3  _ hc_7) ?_
    refine T_istore_n (i := 3) (L' := [aR (some 0), aU, aU, aI r_6, aI x4, aI x5, aI x6]) dX9_areTurned_40 rfl (Nat.le_of_ble_eq_true rfl) rfl ?_
    refine T_iload dX9_areTurned_41 rfl ?_
    refine T_if_ne (tgt := 52) dX9_areTurned_43 (by decide) (fun hc => ?_) (fun hc => ?_)
    · have h := it_neg hc h
      refine T_iconst dX9_areTurned_52 ic_1 ?_
      refine T_goto (tgt := 57) dX9_areTurned_53 (by decide) ?_
      refine T_istore (i := 5) (L' := [aR (some 0), aU, aU, aI r_6, aI x4, aI 1, aI x6]) dX9_areTurned_57 (Nat.le_of_ble_eq_true rfl) rfl ?_
      obtain ⟨x_8, ex_9, h⟩ := lett_some h
      refine T_iinc (L' := [aR (some 0), aU, aU, aI r_6, aI x4, aI 1, aI x_8]) dX9_areTurned_59 rfl (ic_inc ic_1 ex_9) (Nat.le_of_ble_eq_true rfl) rfl ?_
      refine T_goto (tgt := 29) dX9_areTurned_62 (by decide) ?_
      obtain rfl := sm1 h
      exact hI _ _ _ rfl
    · have h := it_pos hc h
      refine T_iload_n dX9_areTurned_46 rfl ?_
      refine T_iload dX9_areTurned_47 rfl ?_
      refine T_icmp_ne (tgt := 56) dX9_areTurned_49 (by decide) (fun hc => ?_) (fun hc => ?_)
      · have h := it_neg hc h
        refine T_iconst dX9_areTurned_56 ic_0 ?_
        refine T_istore (i := 5) (L' := [aR (some 0), aU, aU, aI r_6, aI x4, aI 0, aI x6]) dX9_areTurned_57 (Nat.le_of_ble_eq_true rfl) rfl ?_
        obtain ⟨x_10, ex_11, h⟩ := lett_some h
        refine T_iinc (L' := [aR (some 0), aU, aU, aI r_6, aI x4, aI 0, aI x_10]) dX9_areTurned_59 rfl (ic_inc ic_1 ex_11) (Nat.le_of_ble_eq_true rfl) rfl ?_
        refine T_goto (tgt := 29) dX9_areTurned_62 (by decide) ?_
        obtain rfl := sm1 h
        exact hI _ _ _ rfl
      · have h := it_pos hc h
        refine T_iconst dX9_areTurned_52 ic_1 ?_
        refine T_goto (tgt := 57) dX9_areTurned_53 (by decide) ?_
        refine T_istore (i := 5) (L' := [aR (some 0), aU, aU, aI r_6, aI x4, aI 1, aI x6]) dX9_areTurned_57 (Nat.le_of_ble_eq_true rfl) rfl ?_
        obtain ⟨x_12, ex_13, h⟩ := lett_some h
        refine T_iinc (L' := [aR (some 0), aU, aU, aI r_6, aI x4, aI 1, aI x_12]) dX9_areTurned_59 rfl (ic_inc ic_1 ex_13) (Nat.le_of_ble_eq_true rfl) rfl ?_
        refine T_goto (tgt := 29) dX9_areTurned_62 (by decide) ?_
        obtain rfl := sm1 h
        exact hI _ _ _ rfl
set_option maxRecDepth 100000 in
set_option maxHeartbeats 4000000 in
theorem l_X9_areTurned_L29 (M : Mem) (x4 : Int32) {Po : Po_} (er : Int32) : ∀ (k : Nat) (x3 : Int32) (x5 : Int32) (x6 : Int32), loop (X9_areTurned_L29 M x4) k (x3, x5, x6) = some er → (Po (vI er) LAYM rfm M) → T RX9 cX9_areTurned 7 (some .boolean) 0 4 0 0 false Po 29 [aR (some 0), aU, aU, aI x3, aI x4, aI x5, aI x6] [] LAYM rfm M 0 0 := by
  intro k
  induction k with
  | zero => intro x3 x5 x6 h; cases h
  | succ k ih =>
    intro x3 x5 x6 h hE
    obtain ⟨x, hx, hx1, hx2⟩ := loop_succ h
    exact s_X9_areTurned_L29  M x4  x3 x5 x6 x hx (fun q0 q1 q2 e => ih q0 q1 q2 (hx1 _ e) hE) (fun q0 e => by cases hx2 _ e; exact hE)
set_option maxRecDepth 100000 in
set_option maxHeartbeats 4000000 in
theorem j_X9_areTurned_J24 (M : Mem) (x3 : Int32) (x4 : Int32) (s0 : Int32) (r : Int32) (h : X9_areTurned_J24 M x3 x4 s0 = some r) : T RX9 cX9_areTurned 7 (some .boolean) 0 4 0 0 false (eqp (vI r) LAYM rfm M) 24 [aR (some 0), aU, aU, aI x3, aI x4, aU, aU] [vI s0] LAYM rfm M 0 0 := by
  unfold X9_areTurned_J24 at h
  refine T_istore (i := 5) (L' := [aR (some 0), aU, aU, aI x3, aI x4, aI s0, aU]) dX9_areTurned_24 (Nat.le_of_ble_eq_true rfl) rfl ?_
  refine T_iconst dX9_areTurned_26 ic_0 ?_
  refine T_istore (i := 6) (L' := [aR (some 0), aU, aU, aI x3, aI x4, aI s0, aI 0]) dX9_areTurned_27 (Nat.le_of_ble_eq_true rfl) rfl ?_
  exact l_X9_areTurned_L29  M x4  _ FU x3 s0 0 h ⟨rfl, rfl, rfl, rfl⟩
set_option maxRecDepth 100000 in
set_option maxHeartbeats 4000000 in
theorem m_X9_areTurned (M : Mem) (x1 : Int32) (x2 : Int32) (r : Int32) (h : F_X9_areTurned M x1 x2 = some r) : Cal yX9_areTurned cX9_areTurned 7 (some .boolean) 0 4 0 0 false [vR (some 0), vI x1, vI x2] LAYM rfm M (eqp (vI r) LAYM rfm M) := by
  refine Cal.of (by decide +kernel) (Nat.le_of_ble_eq_true rfl) (fun h => by cases h) ?_
  unfold F_X9_areTurned at h
  show T RX9 cX9_areTurned 7 (some .boolean) 0 4 0 0 false (eqp (vI r) LAYM rfm M) 0 [aR (some 0), aI x1, aI x2, aU, aU, aU, aU] [] LAYM rfm M 0 0
  refine T_aload_n dX9_areTurned_0 rfl ?_
  refine T_iload_n dX9_areTurned_1 rfl ?_
  obtain ⟨r_1, hc_2, h⟩ := bd1_some h
  refine T_cvi (as := [vI x1]) dX9_areTurned_2 cw_X9_shape ml_X9_224 mi_X9_shape se_X9_shape lyM_0 rfl (by decide) rfl (Nat.le_of_ble_eq_true rfl) (Nat.le_of_ble_eq_true rfl) (m_X9_shape  M x1  _ hc_2) ?_
  refine T_istore_n (i := 3) (L' := [aR (some 0), aI x1, aI x2, aI r_1, aU, aU, aU]) dX9_areTurned_5 rfl (Nat.le_of_ble_eq_true rfl) rfl ?_
  refine T_aload_n dX9_areTurned_6 rfl ?_
  refine T_iload_n dX9_areTurned_7 rfl ?_
  obtain ⟨r_3, hc_4, h⟩ := bd1_some h
  refine T_cvi (as := [vI x2]) dX9_areTurned_8 cw_X9_shape ml_X9_224 mi_X9_shape se_X9_shape lyM_0 rfl (by decide) rfl (Nat.le_of_ble_eq_true rfl) (Nat.le_of_ble_eq_true rfl) (m_X9_shape  M x2  _ hc_4) ?_
  refine T_istore (i := 4) (L' := [aR (some 0), aI x1, aI x2, aI r_1, aI r_3, aU, aU]) dX9_areTurned_11 (Nat.le_of_ble_eq_true rfl) rfl ?_
  refine T_iload_n dX9_areTurned_13 rfl ?_
  refine T_iload dX9_areTurned_14 rfl ?_
  refine T_icmp_ne (tgt := 23) dX9_areTurned_16 (by decide) (fun hc => ?_) (fun hc => ?_)
  · have h := it_neg hc h
    refine T_iconst dX9_areTurned_23 ic_0 ?_
    refine T_mask [true, false, false, true, true, true, true] rfl ?_
    exact j_X9_areTurned_J24  M r_1 r_3 0  _ h
  · have h := it_pos hc h
    refine T_iconst dX9_areTurned_19 ic_1 ?_
    refine T_goto (tgt := 24) dX9_areTurned_20 (by decide) ?_
    refine T_mask [true, false, false, true, true, true, true] rfl ?_
    exact j_X9_areTurned_J24  M r_1 r_3 1  _ h
def F_X9_areSame (M : Mem) (x1 : Int32) (p2 : Nat) (x3 : Int32) (x4 : Int32) (x5 : Int32) : Option (Int32) :=
 if x1 = 0 then if (x4 &&& x5) = 0 then some 0
 else some 1
 else if x1 = 1 then if x4 = x5 then some 1
 else some 0
 else if x1 = (nI 2) then bd1 (F_X9_shape M x4) fun r_1 => bd1 (F_X9_shape M x5) fun r_3 => if r_1 = r_3 then some 1
 else some 0
 else if x1 = (nI 3) then bd1 (F_X9_volume M p2 x3 x4) fun r_5 => bd1 (F_X9_volume M 7 0 x5) fun r_7 => if r_5 = r_7 then some 1
 else some 0
 else if x1 = (nI 4) then bd1 (F_X9_areTurned M x4 x5) fun r_9 => chk (r_9 = 0 ∨ r_9 = 1) (some r_9)
 else bd1 (F_X9_volume M p2 x3 x4) fun r_12 => bd1 (F_X9_volume M 7 0 x5) fun r_14 => if r_12 = r_14 then bd1 (F_X9_bottom M p2 x3 x4) fun r_16 => bd1 (F_X9_bottom M 7 0 x5) fun r_18 => if r_16 = r_18 then some 1
 else some 0
 else some 0
set_option maxRecDepth 100000 in
set_option maxHeartbeats 4000000 in
theorem m_X9_areSame (M : Mem) (x1 : Int32) (p2 : Nat) (x3 : Int32) (x4 : Int32) (x5 : Int32) (h2 : isAM p2 = true) (r : Int32) (h : F_X9_areSame M x1 p2 x3 x4 x5 = some r) : Cal yX9_areSame cX9_areSame 6 (some .boolean) 0 5 0 0 false [vR (some 0), vI x1, vR (some p2), vI x3, vI x4, vI x5] LAYM rfm M (eqp (vI r) LAYM rfm M) := by
  refine Cal.of (by decide +kernel) (Nat.le_of_ble_eq_true rfl) (fun h => by cases h) ?_
  unfold F_X9_areSame at h
  show T RX9 cX9_areSame 6 (some .boolean) 0 5 0 0 false (eqp (vI r) LAYM rfm M) 0 [aR (some 0), aI x1, aR (some p2), aI x3, aI x4, aI x5] [] LAYM rfm M 0 0
  refine T_iload_n dX9_areSame_0 rfl ?_
  by_cases hs0 : x1 = 0
  · have h := it_pos hs0 h
    refine T_eqI hs0 ?_
    refine T_tabIn (off := 35) (tgt := 36) dX9_areSame_1 (by decide) (by decide) (by decide) (by decide) ?_
    refine T_iload dX9_areSame_36 rfl ?_
    refine T_iload dX9_areSame_38 rfl ?_
    refine T_iand dX9_areSame_40 ?_
    refine T_if_eq (tgt := 48) dX9_areSame_41 (by decide) (fun hc => ?_) (fun hc => ?_)
    · have h := it_pos hc h
      refine T_iconst dX9_areSame_48 ic_0 ?_
      obtain rfl := sm1 h
      exact T_zret dX9_areSame_49 (Or.inl rfl) ⟨rfl, rfl, rfl, rfl⟩
    · have h := it_neg hc h
      refine T_iconst dX9_areSame_44 ic_1 ?_
      refine T_goto (tgt := 49) dX9_areSame_45 (by decide) ?_
      obtain rfl := sm1 h
      exact T_zret dX9_areSame_49 (Or.inr rfl) ⟨rfl, rfl, rfl, rfl⟩
  · have h := it_neg hs0 h
    by_cases hs1 : x1 = 1
    · have h := it_pos hs1 h
      refine T_eqI hs1 ?_
      refine T_tabIn (off := 49) (tgt := 50) dX9_areSame_1 (by decide) (by decide) (by decide) (by decide) ?_
      refine T_iload dX9_areSame_50 rfl ?_
      refine T_iload dX9_areSame_52 rfl ?_
      refine T_icmp_ne (tgt := 61) dX9_areSame_54 (by decide) (fun hc => ?_) (fun hc => ?_)
      · have h := it_neg hc h
        refine T_iconst dX9_areSame_61 ic_0 ?_
        obtain rfl := sm1 h
        exact T_zret dX9_areSame_62 (Or.inl rfl) ⟨rfl, rfl, rfl, rfl⟩
      · have h := it_pos hc h
        refine T_iconst dX9_areSame_57 ic_1 ?_
        refine T_goto (tgt := 62) dX9_areSame_58 (by decide) ?_
        obtain rfl := sm1 h
        exact T_zret dX9_areSame_62 (Or.inr rfl) ⟨rfl, rfl, rfl, rfl⟩
    · have h := it_neg hs1 h
      by_cases hs2 : x1 = (nI 2)
      · have h := it_pos hs2 h
        refine T_eqI hs2 ?_
        refine T_tabIn (off := 62) (tgt := 63) dX9_areSame_1 (by decide) (by decide) (by decide) (by decide) ?_
        refine T_aload_n dX9_areSame_63 rfl ?_
        refine T_iload dX9_areSame_64 rfl ?_
        obtain ⟨r_1, hc_2, h⟩ := bd1_some h
        refine T_cvi (as := [vI x4]) dX9_areSame_66 cw_X9_shape ml_X9_224 mi_X9_shape se_X9_shape lyM_0 rfl (by decide) rfl (Nat.le_of_ble_eq_true rfl) (Nat.le_of_ble_eq_true rfl) (m_X9_shape  M x4  _ hc_2) ?_
        refine T_aload_n dX9_areSame_69 rfl ?_
        refine T_iload dX9_areSame_70 rfl ?_
        obtain ⟨r_3, hc_4, h⟩ := bd1_some h
        refine T_cvi (as := [vI x5]) dX9_areSame_72 cw_X9_shape ml_X9_224 mi_X9_shape se_X9_shape lyM_0 rfl (by decide) rfl (Nat.le_of_ble_eq_true rfl) (Nat.le_of_ble_eq_true rfl) (m_X9_shape  M x5  _ hc_4) ?_
        refine T_icmp_ne (tgt := 82) dX9_areSame_75 (by decide) (fun hc => ?_) (fun hc => ?_)
        · have h := it_neg hc h
          refine T_iconst dX9_areSame_82 ic_0 ?_
          obtain rfl := sm1 h
          exact T_zret dX9_areSame_83 (Or.inl rfl) ⟨rfl, rfl, rfl, rfl⟩
        · have h := it_pos hc h
          refine T_iconst dX9_areSame_78 ic_1 ?_
          refine T_goto (tgt := 83) dX9_areSame_79 (by decide) ?_
          obtain rfl := sm1 h
          exact T_zret dX9_areSame_83 (Or.inr rfl) ⟨rfl, rfl, rfl, rfl⟩
      · have h := it_neg hs2 h
        by_cases hs3 : x1 = (nI 3)
        · have h := it_pos hs3 h
          refine T_eqI hs3 ?_
          refine T_tabIn (off := 92) (tgt := 93) dX9_areSame_1 (by decide) (by decide) (by decide) (by decide) ?_
          refine T_aload_n dX9_areSame_93 rfl ?_
          refine T_aload_n dX9_areSame_94 rfl ?_
          refine T_iload_n dX9_areSame_95 rfl ?_
          refine T_iload dX9_areSame_96 rfl ?_
          obtain ⟨r_5, hc_6, h⟩ := bd1_some h
          refine T_cvi (as := [vR (some p2), vI x3, vI x4]) dX9_areSame_98 cw_X9_volume ml_X9_202 mi_X9_volume se_X9_volume lyM_0 rfl (by decide) rfl (Nat.le_of_ble_eq_true rfl) (Nat.le_of_ble_eq_true rfl) (m_X9_volume  M p2 x3 x4 h2 _ hc_6) ?_
          refine T_aload_n dX9_areSame_101 rfl ?_
          refine T_aload_n dX9_areSame_102 rfl ?_
          refine T_getR dX9_areSame_103 clOK_X9 fl_X9_32 lyM_0 rfl rfl ?_
          refine T_iconst dX9_areSame_106 ic_0 ?_
          refine T_iload dX9_areSame_107 rfl ?_
          obtain ⟨r_7, hc_8, h⟩ := bd1_some h
          refine T_cvi (as := [vR (some 7), vI 0, vI x5]) dX9_areSame_109 cw_X9_volume ml_X9_202 mi_X9_volume se_X9_volume lyM_0 rfl (by decide) rfl (Nat.le_of_ble_eq_true rfl) (Nat.le_of_ble_eq_true rfl) (m_X9_volume  M 7 0 x5 rfl _ hc_8) ?_
          refine T_icmp_ne (tgt := 119) dX9_areSame_112 (by decide) (fun hc => ?_) (fun hc => ?_)
          · have h := it_neg hc h
            refine T_iconst dX9_areSame_119 ic_0 ?_
            obtain rfl := sm1 h
            exact T_zret dX9_areSame_120 (Or.inl rfl) ⟨rfl, rfl, rfl, rfl⟩
          · have h := it_pos hc h
            refine T_iconst dX9_areSame_115 ic_1 ?_
            refine T_goto (tgt := 120) dX9_areSame_116 (by decide) ?_
            obtain rfl := sm1 h
            exact T_zret dX9_areSame_120 (Or.inr rfl) ⟨rfl, rfl, rfl, rfl⟩
        · have h := it_neg hs3 h
          by_cases hs4 : x1 = (nI 4)
          · have h := it_pos hs4 h
            refine T_eqI hs4 ?_
            refine T_tabIn (off := 83) (tgt := 84) dX9_areSame_1 (by decide) (by decide) (by decide) (by decide) ?_
            refine T_aload_n dX9_areSame_84 rfl ?_
            refine T_iload dX9_areSame_85 rfl ?_
            refine T_iload dX9_areSame_87 rfl ?_
            obtain ⟨r_9, hc_10, h⟩ := bd1_some h
            refine T_cvi (as := [vI x4, vI x5]) dX9_areSame_89 cw_X9_areTurned ml_X9_230 mi_X9_areTurned se_X9_areTurned lyM_0 rfl (by decide) rfl (Nat.le_of_ble_eq_true rfl) (Nat.le_of_ble_eq_true rfl) (m_X9_areTurned  M x4 x5  _ hc_10) ?_
            obtain ⟨hb_11, h⟩ := chk_some h
            obtain rfl := sm1 h
            exact T_zret dX9_areSame_92 hb_11 ⟨rfl, rfl, rfl, rfl⟩
          · have h := it_neg hs4 h
            refine T_tabOut (tgt := 121) dX9_areSame_1 (sw_out (fun k a b => by rcases (show k = 0 ∨ k = 1 ∨ k = 2 ∨ k = 3 ∨ k = 4 by omega) with rfl | rfl | rfl | rfl | rfl <;> first | exact fun e => hs0 (e.trans (by decide)) | exact fun e => hs1 (e.trans (by decide)) | exact fun e => hs2 (e.trans (by decide)) | exact fun e => hs3 (e.trans (by decide)) | exact fun e => hs4 (e.trans (by decide)))) (by decide) ?_
            refine T_aload_n dX9_areSame_121 rfl ?_
            refine T_aload_n dX9_areSame_122 rfl ?_
            refine T_iload_n dX9_areSame_123 rfl ?_
            refine T_iload dX9_areSame_124 rfl ?_
            obtain ⟨r_12, hc_13, h⟩ := bd1_some h
            refine T_cvi (as := [vR (some p2), vI x3, vI x4]) dX9_areSame_126 cw_X9_volume ml_X9_202 mi_X9_volume se_X9_volume lyM_0 rfl (by decide) rfl (Nat.le_of_ble_eq_true rfl) (Nat.le_of_ble_eq_true rfl) (m_X9_volume  M p2 x3 x4 h2 _ hc_13) ?_
            refine T_aload_n dX9_areSame_129 rfl ?_
            refine T_aload_n dX9_areSame_130 rfl ?_
            refine T_getR dX9_areSame_131 clOK_X9 fl_X9_32 lyM_0 rfl rfl ?_
            refine T_iconst dX9_areSame_134 ic_0 ?_
            refine T_iload dX9_areSame_135 rfl ?_
            obtain ⟨r_14, hc_15, h⟩ := bd1_some h
            refine T_cvi (as := [vR (some 7), vI 0, vI x5]) dX9_areSame_137 cw_X9_volume ml_X9_202 mi_X9_volume se_X9_volume lyM_0 rfl (by decide) rfl (Nat.le_of_ble_eq_true rfl) (Nat.le_of_ble_eq_true rfl) (m_X9_volume  M 7 0 x5 rfl _ hc_15) ?_
            refine T_icmp_ne (tgt := 169) dX9_areSame_140 (by decide) (fun hc => ?_) (fun hc => ?_)
            · have h := it_neg hc h
              refine T_iconst dX9_areSame_169 ic_0 ?_
              obtain rfl := sm1 h
              exact T_zret dX9_areSame_170 (Or.inl rfl) ⟨rfl, rfl, rfl, rfl⟩
            · have h := it_pos hc h
              refine T_aload_n dX9_areSame_143 rfl ?_
              refine T_aload_n dX9_areSame_144 rfl ?_
              refine T_iload_n dX9_areSame_145 rfl ?_
              refine T_iload dX9_areSame_146 rfl ?_
              obtain ⟨r_16, hc_17, h⟩ := bd1_some h
              refine T_cvi (as := [vR (some p2), vI x3, vI x4]) dX9_areSame_148 cw_X9_bottom ml_X9_206 mi_X9_bottom se_X9_bottom lyM_0 rfl (by decide) rfl (Nat.le_of_ble_eq_true rfl) (Nat.le_of_ble_eq_true rfl) (m_X9_bottom  M p2 x3 x4 h2 _ hc_17) ?_
              refine T_aload_n dX9_areSame_151 rfl ?_
              refine T_aload_n dX9_areSame_152 rfl ?_
              refine T_getR dX9_areSame_153 clOK_X9 fl_X9_32 lyM_0 rfl rfl ?_
              refine T_iconst dX9_areSame_156 ic_0 ?_
              refine T_iload dX9_areSame_157 rfl ?_
              obtain ⟨r_18, hc_19, h⟩ := bd1_some h
              refine T_cvi (as := [vR (some 7), vI 0, vI x5]) dX9_areSame_159 cw_X9_bottom ml_X9_206 mi_X9_bottom se_X9_bottom lyM_0 rfl (by decide) rfl (Nat.le_of_ble_eq_true rfl) (Nat.le_of_ble_eq_true rfl) (m_X9_bottom  M 7 0 x5 rfl _ hc_19) ?_
              refine T_icmp_ne (tgt := 169) dX9_areSame_162 (by decide) (fun hc => ?_) (fun hc => ?_)
              · have h := it_neg hc h
                refine T_iconst dX9_areSame_169 ic_0 ?_
                obtain rfl := sm1 h
                exact T_zret dX9_areSame_170 (Or.inl rfl) ⟨rfl, rfl, rfl, rfl⟩
              · have h := it_pos hc h
                refine T_iconst dX9_areSame_165 ic_1 ?_
                refine T_goto (tgt := 170) dX9_areSame_166 (by decide) ?_
                obtain rfl := sm1 h
                exact T_zret dX9_areSame_170 (Or.inr rfl) ⟨rfl, rfl, rfl, rfl⟩
def X9_pairsBy_L17 (M : Mem) (x1 : Int32) (x3 : Int32) : Int32 × Int32 → Option ((Int32 × Int32) ⊕ (Int32))
  | (x2, x4) =>
    if (gI M 0 23) ≤ x4 then some (.inr x2)
    else chk (inb x3 8 = true) (chk (inb x4 8 = true) (bd1 (F_X9_areSame M x1 7 0 (gI M 11 x3.toNatClampNeg) (gI M 11 x4.toNatClampNeg)) fun r_5 => if r_5 = 0 then lett (x2 + 0) fun x_7 => lett (x4 + 1) fun x_9 => some (.inl (x_7, x_9))
    else lett (x2 + 1) fun x_11 => lett (x4 + 1) fun x_13 => some (.inl (x_11, x_13))))
def X9_pairsBy_L4 (M : Mem) (x1 : Int32) : Int32 × Int32 → Option ((Int32 × Int32) ⊕ (Int32))
  | (x2, x3) =>
    if (gI M 0 23) ≤ x3 then some (.inr x2)
    else lett (x3 + 1) fun x_1 => bd1 (loop (X9_pairsBy_L17 M x1 x3) FU (x2, x_1)) fun x_15 => lett (x3 + 1) fun x_16 => some (.inl (x_15, x_16))
def F_X9_pairsBy (M : Mem) (x1 : Int32) : Option (Int32) :=
 loop (X9_pairsBy_L4 M x1) FU (0, 0)
set_option maxRecDepth 100000 in
set_option maxHeartbeats 4000000 in
theorem s_X9_pairsBy_L17 (M : Mem) (x1 : Int32) (x3 : Int32) (x2 : Int32) (x4 : Int32) {Po : Po_} (x : (Int32 × Int32) ⊕ (Int32)) (h : X9_pairsBy_L17 M x1 x3 (x2, x4) = some x) (hI : ∀ (ix2 : Int32) (ix4 : Int32), x = .inl (ix2, ix4) → T RX9 cX9_pairsBy 5 (some .int) 0 6 0 0 false Po 17 [aR (some 0), aI x1, aI ix2, aI x3, aI ix4] [] LAYM rfm M 0 0) (hE0 : ∀ (e2 : Int32), x = .inr e2 → T RX9 cX9_pairsBy 5 (some .int) 0 6 0 0 false Po 66 [aR (some 0), aI x1, aI e2, aI x3, aU] [] LAYM rfm M 0 0) : T RX9 cX9_pairsBy 5 (some .int) 0 6 0 0 false Po 17 [aR (some 0), aI x1, aI x2, aI x3, aI x4] [] LAYM rfm M 0 0 := by
  unfold X9_pairsBy_L17 at h
  simp only at h
  refine T_iload dX9_pairsBy_17 rfl ?_
  refine T_aload_n dX9_pairsBy_19 rfl ?_
  refine T_getI dX9_pairsBy_20 clOK_X9 fl_X9_187 lyM_0 rfl ?_
  refine T_icmp_ge (tgt := 66) dX9_pairsBy_23 (by decide) (fun hc => ?_) (fun hc => ?_)
  · have h := it_pos hc h
    obtain rfl := sm1 h
    refine T_mask [true, true, true, true, false] rfl ?_
    exact hE0 _ rfl
  · have h := it_neg hc h
    refine T_iload_n dX9_pairsBy_26 rfl ?_
    refine T_aload_n dX9_pairsBy_27 rfl ?_
    refine T_iload_n dX9_pairsBy_28 rfl ?_
    refine T_aload_n dX9_pairsBy_29 rfl ?_
    refine T_getR dX9_pairsBy_30 clOK_X9 fl_X9_32 lyM_0 rfl rfl ?_
    refine T_iconst dX9_pairsBy_33 ic_0 ?_
    refine T_aload_n dX9_pairsBy_34 rfl ?_
    refine T_getR dX9_pairsBy_35 clOK_X9 fl_X9_44 lyM_0 rfl rfl ?_
    refine T_iload_n dX9_pairsBy_38 rfl ?_
    obtain ⟨hi_3, h⟩ := chk_some h
    refine T_iald dX9_pairsBy_39 lyM_11 (inb_in hi_3) ?_
    refine T_aload_n dX9_pairsBy_40 rfl ?_
    refine T_getR dX9_pairsBy_41 clOK_X9 fl_X9_44 lyM_0 rfl rfl ?_
    refine T_iload dX9_pairsBy_44 rfl ?_
    obtain ⟨hi_4, h⟩ := chk_some h
    refine T_iald dX9_pairsBy_46 lyM_11 (inb_in hi_4) ?_
    obtain ⟨r_5, hc_6, h⟩ := bd1_some h
    refine T_cvi (as := [vI x1, vR (some 7), vI 0, vI (gI M 11 x3.toNatClampNeg), vI (gI M 11 x4.toNatClampNeg)]) dX9_pairsBy_47 cw_X9_areSame ml_X9_233 mi_X9_areSame se_X9_areSame lyM_0 rfl (by decide) rfl (Nat.le_of_ble_eq_true rfl) (Nat.le_of_ble_eq_true rfl) (m_X9_areSame  M x1 7 0 (gI M 11 x3.toNatClampNeg) (gI M 11 x4.toNatClampNeg) rfl _ hc_6) ?_
    refine T_if_eq (tgt := 57) dX9_pairsBy_50 (by decide) (fun hc => ?_) (fun hc => ?_)
    · have h := it_pos hc h
      refine T_iconst dX9_pairsBy_57 ic_0 ?_
      refine T_iadd dX9_pairsBy_58 ?_
      obtain ⟨x_7, ex_8, h⟩ := lett_some h
      refine T_topI ex_8 ?_
      refine T_istore_n (i := 2) (L' := [aR (some 0), aI x1, aI x_7, aI x3, aI x4]) dX9_pairsBy_59 rfl (Nat.le_of_ble_eq_true rfl) rfl ?_
      obtain ⟨x_9, ex_10, h⟩ := lett_some h
      refine T_iinc (L' := [aR (some 0), aI x1, aI x_7, aI x3, aI x_9]) dX9_pairsBy_60 rfl (ic_inc ic_1 ex_10) (Nat.le_of_ble_eq_true rfl) rfl ?_
      refine T_goto (tgt := 17) dX9_pairsBy_63 (by decide) ?_
      obtain rfl := sm1 h
      exact hI _ _ rfl
    · have h := it_neg hc h
      refine T_iconst dX9_pairsBy_53 ic_1 ?_
      refine T_goto (tgt := 58) dX9_pairsBy_54 (by decide) ?_
      refine T_iadd dX9_pairsBy_58 ?_
      obtain ⟨x_11, ex_12, h⟩ := lett_some h
      refine T_topI ex_12 ?_
      refine T_istore_n (i := 2) (L' := [aR (some 0), aI x1, aI x_11, aI x3, aI x4]) dX9_pairsBy_59 rfl (Nat.le_of_ble_eq_true rfl) rfl ?_
      obtain ⟨x_13, ex_14, h⟩ := lett_some h
      refine T_iinc (L' := [aR (some 0), aI x1, aI x_11, aI x3, aI x_13]) dX9_pairsBy_60 rfl (ic_inc ic_1 ex_14) (Nat.le_of_ble_eq_true rfl) rfl ?_
      refine T_goto (tgt := 17) dX9_pairsBy_63 (by decide) ?_
      obtain rfl := sm1 h
      exact hI _ _ rfl
set_option maxRecDepth 100000 in
set_option maxHeartbeats 4000000 in
theorem l_X9_pairsBy_L17 (M : Mem) (x1 : Int32) (x3 : Int32) {Po : Po_} (e2 : Int32) : ∀ (k : Nat) (x2 : Int32) (x4 : Int32), loop (X9_pairsBy_L17 M x1 x3) k (x2, x4) = some e2 → (T RX9 cX9_pairsBy 5 (some .int) 0 6 0 0 false Po 66 [aR (some 0), aI x1, aI e2, aI x3, aU] [] LAYM rfm M 0 0) → T RX9 cX9_pairsBy 5 (some .int) 0 6 0 0 false Po 17 [aR (some 0), aI x1, aI x2, aI x3, aI x4] [] LAYM rfm M 0 0 := by
  intro k
  induction k with
  | zero => intro x2 x4 h; cases h
  | succ k ih =>
    intro x2 x4 h hE
    obtain ⟨x, hx, hx1, hx2⟩ := loop_succ h
    exact s_X9_pairsBy_L17  M x1 x3  x2 x4 x hx (fun q0 q1 e => ih q0 q1 (hx1 _ e) hE) (fun q0 e => by cases hx2 _ e; exact hE)
set_option maxRecDepth 100000 in
set_option maxHeartbeats 4000000 in
theorem s_X9_pairsBy_L4 (M : Mem) (x1 : Int32) (x2 : Int32) (x3 : Int32) {Po : Po_} (x : (Int32 × Int32) ⊕ (Int32)) (h : X9_pairsBy_L4 M x1 (x2, x3) = some x) (hI : ∀ (ix2 : Int32) (ix3 : Int32), x = .inl (ix2, ix3) → T RX9 cX9_pairsBy 5 (some .int) 0 6 0 0 false Po 4 [aR (some 0), aI x1, aI ix2, aI ix3, aU] [] LAYM rfm M 0 0) (hE0 : ∀ (er : Int32), x = .inr er → Po (vI er) LAYM rfm M) : T RX9 cX9_pairsBy 5 (some .int) 0 6 0 0 false Po 4 [aR (some 0), aI x1, aI x2, aI x3, aU] [] LAYM rfm M 0 0 := by
  unfold X9_pairsBy_L4 at h
  simp only at h
  refine T_iload_n dX9_pairsBy_4 rfl ?_
  refine T_aload_n dX9_pairsBy_5 rfl ?_
  refine T_getI dX9_pairsBy_6 clOK_X9 fl_X9_187 lyM_0 rfl ?_
  refine T_icmp_ge (tgt := 72) dX9_pairsBy_9 (by decide) (fun hc => ?_) (fun hc => ?_)
  · have h := it_pos hc h
    refine T_iload_n dX9_pairsBy_72 rfl ?_
    obtain rfl := sm1 h
    exact T_iret dX9_pairsBy_73 (hE0 _ rfl)
  · have h := it_neg hc h
    refine T_iload_n dX9_pairsBy_12 rfl ?_
    refine T_iconst dX9_pairsBy_13 ic_1 ?_
    refine T_iadd dX9_pairsBy_14 ?_
    obtain ⟨x_1, ex_2, h⟩ := lett_some h
    refine T_topI ex_2 ?_
    refine T_istore (i := 4) (L' := [aR (some 0), aI x1, aI x2, aI x3, aI x_1]) dX9_pairsBy_15 (Nat.le_of_ble_eq_true rfl) rfl ?_
    obtain ⟨x_15, hl, h⟩ := bd1_some h
    refine l_X9_pairsBy_L17  M x1 x3  _ FU x2 x_1 hl ?_
    obtain ⟨x_16, ex_17, h⟩ := lett_some h
    refine T_iinc (L' := [aR (some 0), aI x1, aI x_15, aI x_16, aU]) dX9_pairsBy_66 rfl (ic_inc ic_1 ex_17) (Nat.le_of_ble_eq_true rfl) rfl ?_
    refine T_goto (tgt := 4) dX9_pairsBy_69 (by decide) ?_
    obtain rfl := sm1 h
    exact hI _ _ rfl
set_option maxRecDepth 100000 in
set_option maxHeartbeats 4000000 in
theorem l_X9_pairsBy_L4 (M : Mem) (x1 : Int32) {Po : Po_} (er : Int32) : ∀ (k : Nat) (x2 : Int32) (x3 : Int32), loop (X9_pairsBy_L4 M x1) k (x2, x3) = some er → (Po (vI er) LAYM rfm M) → T RX9 cX9_pairsBy 5 (some .int) 0 6 0 0 false Po 4 [aR (some 0), aI x1, aI x2, aI x3, aU] [] LAYM rfm M 0 0 := by
  intro k
  induction k with
  | zero => intro x2 x3 h; cases h
  | succ k ih =>
    intro x2 x3 h hE
    obtain ⟨x, hx, hx1, hx2⟩ := loop_succ h
    exact s_X9_pairsBy_L4  M x1  x2 x3 x hx (fun q0 q1 e => ih q0 q1 (hx1 _ e) hE) (fun q0 e => by cases hx2 _ e; exact hE)
set_option maxRecDepth 100000 in
set_option maxHeartbeats 4000000 in
theorem m_X9_pairsBy (M : Mem) (x1 : Int32) (r : Int32) (h : F_X9_pairsBy M x1 = some r) : Cal yX9_pairsBy cX9_pairsBy 5 (some .int) 0 6 0 0 false [vR (some 0), vI x1] LAYM rfm M (eqp (vI r) LAYM rfm M) := by
  refine Cal.of (by decide +kernel) (Nat.le_of_ble_eq_true rfl) (fun h => by cases h) ?_
  unfold F_X9_pairsBy at h
  show T RX9 cX9_pairsBy 5 (some .int) 0 6 0 0 false (eqp (vI r) LAYM rfm M) 0 [aR (some 0), aI x1, aU, aU, aU] [] LAYM rfm M 0 0
  refine T_iconst dX9_pairsBy_0 ic_0 ?_
  refine T_istore_n (i := 2) (L' := [aR (some 0), aI x1, aI 0, aU, aU]) dX9_pairsBy_1 rfl (Nat.le_of_ble_eq_true rfl) rfl ?_
  refine T_iconst dX9_pairsBy_2 ic_0 ?_
  refine T_istore_n (i := 3) (L' := [aR (some 0), aI x1, aI 0, aI 0, aU]) dX9_pairsBy_3 rfl (Nat.le_of_ble_eq_true rfl) rfl ?_
  exact l_X9_pairsBy_L4  M x1  _ FU 0 0 h ⟨rfl, rfl, rfl, rfl⟩
def X9_marked_L15 (M : Mem) (x1 : Int32) (x2 : Int32) : Int32 × Int32 × Int32 × Int32 → Option ((Int32 × Int32 × Int32 × Int32) ⊕ (Int32 × Int32 × Int32))
  | (x3, x4, x5, x6) =>
    if (gI M 0 23) ≤ x6 then some (.inr (x3, x4, x5))
    else chk (inb x6 8 = true) (bd1 (F_X9_sizeOf (gI M 11 x6.toNatClampNeg)) fun r_4 => bd1 (F_X9_greater x3 r_4) fun r_6 => chk (inb x6 8 = true) (bd1 (F_X9_volume M 7 0 (gI M 11 x6.toNatClampNeg)) fun r_9 => lett (x4 + r_9) fun x_11 => chk (inb x6 8 = true) (bd1 (F_X9_bottom M 7 0 (gI M 11 x6.toNatClampNeg)) fun r_14 => bd1 (F_X9_greater x5 r_14) fun r_16 => lett (x6 + 1) fun x_18 => some (.inl (r_6, x_11, r_16, x_18)))))
def F_X9_marked (M : Mem) (x1 : Int32) (x2 : Int32) : Option (Int32 × Mem) :=
 bd1 (F_X9_layHoles M) fun M_1 => bd3 (loop (X9_marked_L15 M_1 x1 x2) FU (0, 0, 0, 0)) fun x_20 x_21 x_22 => if x2 = 1 then some (x_20, M_1)
 else if x2 = (nI 2) then chk (inb x1 6 = true) (bd1 (F_X9_pairsBy M_1 (gI M_1 9 x1.toNatClampNeg)) fun r_24 => some (r_24, M_1))
 else if x2 = (nI 3) then some (x_21, M_1)
 else if x2 = (nI 4) then bd1 (F_X9_pairsBy M_1 (nI 4)) fun r_26 => bd1 (F_X9_pairsBy M_1 (nI 2)) fun r_28 => some (r_26 - r_28, M_1)
 else some (x_22, M_1)
set_option maxRecDepth 100000 in
set_option maxHeartbeats 4000000 in
theorem s_X9_marked_L15 (M : Mem) (x1 : Int32) (x2 : Int32) (x3 : Int32) (x4 : Int32) (x5 : Int32) (x6 : Int32) {Po : Po_} (x : (Int32 × Int32 × Int32 × Int32) ⊕ (Int32 × Int32 × Int32)) (h : X9_marked_L15 M x1 x2 (x3, x4, x5, x6) = some x) (hI : ∀ (ix3 : Int32) (ix4 : Int32) (ix5 : Int32) (ix6 : Int32), x = .inl (ix3, ix4, ix5, ix6) → T RX9 cX9_marked 7 (some .int) 0 7 0 0 false Po 15 [aR (some 0), aI x1, aI x2, aI ix3, aI ix4, aI ix5, aI ix6] [] LAYM rfm M 0 0) (hE0 : ∀ (e3 : Int32) (e4 : Int32) (e5 : Int32), x = .inr (e3, e4, e5) → T RX9 cX9_marked 7 (some .int) 0 7 0 0 false Po 89 [aR (some 0), aI x1, aI x2, aI e3, aI e4, aI e5, aU] [] LAYM rfm M 0 0) : T RX9 cX9_marked 7 (some .int) 0 7 0 0 false Po 15 [aR (some 0), aI x1, aI x2, aI x3, aI x4, aI x5, aI x6] [] LAYM rfm M 0 0 := by
  unfold X9_marked_L15 at h
  simp only at h
  refine T_iload dX9_marked_15 rfl ?_
  refine T_aload_n dX9_marked_17 rfl ?_
  refine T_getI dX9_marked_18 clOK_X9 fl_X9_187 lyM_0 rfl ?_
  refine T_icmp_ge (tgt := 89) dX9_marked_21 (by decide) (fun hc => ?_) (fun hc => ?_)
  · have h := it_pos hc h
    obtain rfl := sm1 h
    refine T_mask [true, true, true, true, true, true, false] rfl ?_
    exact hE0 _ _ _ rfl
  · have h := it_neg hc h
    refine T_iload_n dX9_marked_24 rfl ?_
    refine T_aload_n dX9_marked_25 rfl ?_
    refine T_getR dX9_marked_26 clOK_X9 fl_X9_44 lyM_0 rfl rfl ?_
    refine T_iload dX9_marked_29 rfl ?_
    obtain ⟨hi_3, h⟩ := chk_some h
    refine T_iald dX9_marked_31 lyM_11 (inb_in hi_3) ?_
    obtain ⟨r_4, hc_5, h⟩ := bd1_some h
    refine T_csi (as := [vI (gI M 11 x6.toNatClampNeg)]) dX9_marked_32 cw_X9_sizeOf ml_X9_199 mt_X9_sizeOf rfl (Nat.le_of_ble_eq_true rfl) (Nat.le_of_ble_eq_true rfl) (m_X9_sizeOf M (gI M 11 x6.toNatClampNeg)  _ hc_5) ?_
    obtain ⟨r_6, hc_7, h⟩ := bd1_some h
    refine T_csi (as := [vI x3, vI r_4]) dX9_marked_35 cw_X9_greater ml_X9_193 mt_X9_greater rfl (Nat.le_of_ble_eq_true rfl) (Nat.le_of_ble_eq_true rfl) (m_X9_greater M x3 r_4  _ hc_7) ?_
    refine T_istore_n (i := 3) (L' := [aR (some 0), aI x1, aI x2, aI r_6, aI x4, aI x5, aI x6]) dX9_marked_38 rfl (Nat.le_of_ble_eq_true rfl) rfl ?_
    refine T_iload dX9_marked_39 rfl ?_
    refine T_aload_n dX9_marked_41 rfl ?_
    refine T_aload_n dX9_marked_42 rfl ?_
    refine T_getR dX9_marked_43 clOK_X9 fl_X9_32 lyM_0 rfl rfl ?_
    refine T_iconst dX9_marked_46 ic_0 ?_
    refine T_aload_n dX9_marked_47 rfl ?_
    refine T_getR dX9_marked_48 clOK_X9 fl_X9_44 lyM_0 rfl rfl ?_
    refine T_iload dX9_marked_51 rfl ?_
    obtain ⟨hi_8, h⟩ := chk_some h
    refine T_iald dX9_marked_53 lyM_11 (inb_in hi_8) ?_
    obtain ⟨r_9, hc_10, h⟩ := bd1_some h
    refine T_cvi (as := [vR (some 7), vI 0, vI (gI M 11 x6.toNatClampNeg)]) dX9_marked_54 cw_X9_volume ml_X9_202 mi_X9_volume se_X9_volume lyM_0 rfl (by decide) rfl (Nat.le_of_ble_eq_true rfl) (Nat.le_of_ble_eq_true rfl) (m_X9_volume  M 7 0 (gI M 11 x6.toNatClampNeg) rfl _ hc_10) ?_
    refine T_iadd dX9_marked_57 ?_
    obtain ⟨x_11, ex_12, h⟩ := lett_some h
    refine T_topI ex_12 ?_
    refine T_istore (i := 4) (L' := [aR (some 0), aI x1, aI x2, aI r_6, aI x_11, aI x5, aI x6]) dX9_marked_58 (Nat.le_of_ble_eq_true rfl) rfl ?_
    refine T_iload dX9_marked_60 rfl ?_
    refine T_aload_n dX9_marked_62 rfl ?_
    refine T_aload_n dX9_marked_63 rfl ?_
    refine T_getR dX9_marked_64 clOK_X9 fl_X9_32 lyM_0 rfl rfl ?_
    refine T_iconst dX9_marked_67 ic_0 ?_
    refine T_aload_n dX9_marked_68 rfl ?_
    refine T_getR dX9_marked_69 clOK_X9 fl_X9_44 lyM_0 rfl rfl ?_
    refine T_iload dX9_marked_72 rfl ?_
    obtain ⟨hi_13, h⟩ := chk_some h
    refine T_iald dX9_marked_74 lyM_11 (inb_in hi_13) ?_
    obtain ⟨r_14, hc_15, h⟩ := bd1_some h
    refine T_cvi (as := [vR (some 7), vI 0, vI (gI M 11 x6.toNatClampNeg)]) dX9_marked_75 cw_X9_bottom ml_X9_206 mi_X9_bottom se_X9_bottom lyM_0 rfl (by decide) rfl (Nat.le_of_ble_eq_true rfl) (Nat.le_of_ble_eq_true rfl) (m_X9_bottom  M 7 0 (gI M 11 x6.toNatClampNeg) rfl _ hc_15) ?_
    obtain ⟨r_16, hc_17, h⟩ := bd1_some h
    refine T_csi (as := [vI x5, vI r_14]) dX9_marked_78 cw_X9_greater ml_X9_193 mt_X9_greater rfl (Nat.le_of_ble_eq_true rfl) (Nat.le_of_ble_eq_true rfl) (m_X9_greater M x5 r_14  _ hc_17) ?_
    refine T_istore (i := 5) (L' := [aR (some 0), aI x1, aI x2, aI r_6, aI x_11, aI r_16, aI x6]) dX9_marked_81 (Nat.le_of_ble_eq_true rfl) rfl ?_
    obtain ⟨x_18, ex_19, h⟩ := lett_some h
    refine T_iinc (L' := [aR (some 0), aI x1, aI x2, aI r_6, aI x_11, aI r_16, aI x_18]) dX9_marked_83 rfl (ic_inc ic_1 ex_19) (Nat.le_of_ble_eq_true rfl) rfl ?_
    refine T_goto (tgt := 15) dX9_marked_86 (by decide) ?_
    obtain rfl := sm1 h
    exact hI _ _ _ _ rfl
set_option maxRecDepth 100000 in
set_option maxHeartbeats 4000000 in
theorem l_X9_marked_L15 (M : Mem) (x1 : Int32) (x2 : Int32) {Po : Po_} (e3 : Int32) (e4 : Int32) (e5 : Int32) : ∀ (k : Nat) (x3 : Int32) (x4 : Int32) (x5 : Int32) (x6 : Int32), loop (X9_marked_L15 M x1 x2) k (x3, x4, x5, x6) = some (e3, e4, e5) → (T RX9 cX9_marked 7 (some .int) 0 7 0 0 false Po 89 [aR (some 0), aI x1, aI x2, aI e3, aI e4, aI e5, aU] [] LAYM rfm M 0 0) → T RX9 cX9_marked 7 (some .int) 0 7 0 0 false Po 15 [aR (some 0), aI x1, aI x2, aI x3, aI x4, aI x5, aI x6] [] LAYM rfm M 0 0 := by
  intro k
  induction k with
  | zero => intro x3 x4 x5 x6 h; cases h
  | succ k ih =>
    intro x3 x4 x5 x6 h hE
    obtain ⟨x, hx, hx1, hx2⟩ := loop_succ h
    exact s_X9_marked_L15  M x1 x2  x3 x4 x5 x6 x hx (fun q0 q1 q2 q3 e => ih q0 q1 q2 q3 (hx1 _ e) hE) (fun q0 q1 q2 e => by cases hx2 _ e; exact hE)
set_option maxRecDepth 100000 in
set_option maxHeartbeats 4000000 in
theorem m_X9_marked (M : Mem) (x1 : Int32) (x2 : Int32) (r : Int32) (M' : Mem) (h : F_X9_marked M x1 x2 = some (r, M')) : Cal yX9_marked cX9_marked 7 (some .int) 0 7 0 0 false [vR (some 0), vI x1, vI x2] LAYM rfm M (eqp (vI r) LAYM rfm M') := by
  refine Cal.of (by decide +kernel) (Nat.le_of_ble_eq_true rfl) (fun h => by cases h) ?_
  unfold F_X9_marked at h
  show T RX9 cX9_marked 7 (some .int) 0 7 0 0 false (eqp (vI r) LAYM rfm M') 0 [aR (some 0), aI x1, aI x2, aU, aU, aU, aU] [] LAYM rfm M 0 0
  refine T_aload_n dX9_marked_0 rfl ?_
  obtain ⟨M_1, hc_2, h⟩ := bd1_some h
  refine T_cvv (as := []) dX9_marked_1 cw_X9_layHoles ml_X9_190 mi_X9_layHoles se_X9_layHoles lyM_0 rfl (by decide) rfl (Nat.le_of_ble_eq_true rfl) (Nat.le_of_ble_eq_true rfl) (m_X9_layHoles  M  _ hc_2) ?_
  refine T_iconst dX9_marked_4 ic_0 ?_
  refine T_istore_n (i := 3) (L' := [aR (some 0), aI x1, aI x2, aI 0, aU, aU, aU]) dX9_marked_5 rfl (Nat.le_of_ble_eq_true rfl) rfl ?_
  refine T_iconst dX9_marked_6 ic_0 ?_
  refine T_istore (i := 4) (L' := [aR (some 0), aI x1, aI x2, aI 0, aI 0, aU, aU]) dX9_marked_7 (Nat.le_of_ble_eq_true rfl) rfl ?_
  refine T_iconst dX9_marked_9 ic_0 ?_
  refine T_istore (i := 5) (L' := [aR (some 0), aI x1, aI x2, aI 0, aI 0, aI 0, aU]) dX9_marked_10 (Nat.le_of_ble_eq_true rfl) rfl ?_
  refine T_iconst dX9_marked_12 ic_0 ?_
  refine T_istore (i := 6) (L' := [aR (some 0), aI x1, aI x2, aI 0, aI 0, aI 0, aI 0]) dX9_marked_13 (Nat.le_of_ble_eq_true rfl) rfl ?_
  obtain ⟨x_20, x_21, x_22, hl, h⟩ := bd3_some h
  refine l_X9_marked_L15  M_1 x1 x2  _ _ _ FU 0 0 0 0 hl ?_
  refine T_iload_n dX9_marked_89 rfl ?_
  by_cases hs1 : x2 = 1
  · have h := it_pos hs1 h
    refine T_eqI hs1 ?_
    refine T_tabIn (off := 30) (tgt := 120) dX9_marked_90 (by decide) (by decide) (by decide) (by decide) ?_
    refine T_iload_n dX9_marked_120 rfl ?_
    obtain ⟨rfl, rfl⟩ := sm2 h
    exact T_iret dX9_marked_121 ⟨rfl, rfl, rfl, rfl⟩
  · have h := it_neg hs1 h
    by_cases hs2 : x2 = (nI 2)
    · have h := it_pos hs2 h
      refine T_eqI hs2 ?_
      refine T_tabIn (off := 32) (tgt := 122) dX9_marked_90 (by decide) (by decide) (by decide) (by decide) ?_
      refine T_aload_n dX9_marked_122 rfl ?_
      refine T_aload_n dX9_marked_123 rfl ?_
      refine T_getR dX9_marked_124 clOK_X9 fl_X9_38 lyM_0 rfl rfl ?_
      refine T_iload_n dX9_marked_127 rfl ?_
      obtain ⟨hi_23, h⟩ := chk_some h
      refine T_iald dX9_marked_128 lyM_9 (inb_in hi_23) ?_
      obtain ⟨r_24, hc_25, h⟩ := bd1_some h
      refine T_cvi (as := [vI (gI M_1 9 x1.toNatClampNeg)]) dX9_marked_129 cw_X9_pairsBy ml_X9_237 mi_X9_pairsBy se_X9_pairsBy lyM_0 rfl (by decide) rfl (Nat.le_of_ble_eq_true rfl) (Nat.le_of_ble_eq_true rfl) (m_X9_pairsBy  M_1 (gI M_1 9 x1.toNatClampNeg)  _ hc_25) ?_
      obtain ⟨rfl, rfl⟩ := sm2 h
      exact T_iret dX9_marked_132 ⟨rfl, rfl, rfl, rfl⟩
    · have h := it_neg hs2 h
      by_cases hs3 : x2 = (nI 3)
      · have h := it_pos hs3 h
        refine T_eqI hs3 ?_
        refine T_tabIn (off := 43) (tgt := 133) dX9_marked_90 (by decide) (by decide) (by decide) (by decide) ?_
        refine T_iload dX9_marked_133 rfl ?_
        obtain ⟨rfl, rfl⟩ := sm2 h
        exact T_iret dX9_marked_135 ⟨rfl, rfl, rfl, rfl⟩
      · have h := it_neg hs3 h
        by_cases hs4 : x2 = (nI 4)
        · have h := it_pos hs4 h
          refine T_eqI hs4 ?_
          refine T_tabIn (off := 46) (tgt := 136) dX9_marked_90 (by decide) (by decide) (by decide) (by decide) ?_
          refine T_aload_n dX9_marked_136 rfl ?_
          refine T_iconst dX9_marked_137 ic_4 ?_
          obtain ⟨r_26, hc_27, h⟩ := bd1_some h
          refine T_cvi (as := [vI (nI 4)]) dX9_marked_138 cw_X9_pairsBy ml_X9_237 mi_X9_pairsBy se_X9_pairsBy lyM_0 rfl (by decide) rfl (Nat.le_of_ble_eq_true rfl) (Nat.le_of_ble_eq_true rfl) (m_X9_pairsBy  M_1 (nI 4)  _ hc_27) ?_
          refine T_aload_n dX9_marked_141 rfl ?_
          refine T_iconst dX9_marked_142 ic_2 ?_
          obtain ⟨r_28, hc_29, h⟩ := bd1_some h
          refine T_cvi (as := [vI (nI 2)]) dX9_marked_143 cw_X9_pairsBy ml_X9_237 mi_X9_pairsBy se_X9_pairsBy lyM_0 rfl (by decide) rfl (Nat.le_of_ble_eq_true rfl) (Nat.le_of_ble_eq_true rfl) (m_X9_pairsBy  M_1 (nI 2)  _ hc_29) ?_
          refine T_isub dX9_marked_146 ?_
          obtain ⟨rfl, rfl⟩ := sm2 h
          exact T_iret dX9_marked_147 ⟨rfl, rfl, rfl, rfl⟩
        · have h := it_neg hs4 h
          refine T_tabOut (tgt := 148) dX9_marked_90 (sw_out (fun k a b => by rcases (show k = 1 ∨ k = 2 ∨ k = 3 ∨ k = 4 by omega) with rfl | rfl | rfl | rfl <;> first | exact fun e => hs1 (e.trans (by decide)) | exact fun e => hs2 (e.trans (by decide)) | exact fun e => hs3 (e.trans (by decide)) | exact fun e => hs4 (e.trans (by decide)))) (by decide) ?_
          refine T_iload dX9_marked_148 rfl ?_
          obtain ⟨rfl, rfl⟩ := sm2 h
          exact T_iret dX9_marked_150 ⟨rfl, rfl, rfl, rfl⟩
def X9_isA_J37 (M : Mem) (x2 : Int32) (x3 : Int32) : Option (Int32) :=
 if x2 = (nI 3) then if x3 = (nI 5) then some 1
 else some 0
 else some 0
def X9_isA_J27 (M : Mem) (x2 : Int32) (x3 : Int32) : Option (Int32) :=
 if x2 = (nI 2) then if x3 = (nI 4) then some 1
 else X9_isA_J37 M x2 x3
 else X9_isA_J37 M x2 x3
def F_X9_isA (M : Mem) (x1 : Int32) (x2 : Int32) : Option (Int32) :=
 chk (inb x1 6 = true) (lett (gI M 9 x1.toNatClampNeg) fun x_2 => if x_2 = x2 then some 1
 else if x2 = 1 then if x_2 = (nI 2) then some 1
 else if x_2 = (nI 4) then some 1
 else X9_isA_J27 M x2 x_2
 else X9_isA_J27 M x2 x_2)
set_option maxRecDepth 100000 in
set_option maxHeartbeats 4000000 in
theorem j_X9_isA_J37 (M : Mem) (x2 : Int32) (x3 : Int32) (r : Int32) (h : X9_isA_J37 M x2 x3 = some r) : T RX9 cX9_isA 4 (some .boolean) 0 1 0 0 false (eqp (vI r) LAYM rfm M) 37 [aU, aU, aI x2, aI x3] [] LAYM rfm M 0 0 := by
  unfold X9_isA_J37 at h
  refine T_iload_n dX9_isA_37 rfl ?_
  refine T_iconst dX9_isA_38 ic_3 ?_
  refine T_icmp_ne (tgt := 51) dX9_isA_39 (by decide) (fun hc => ?_) (fun hc => ?_)
  · have h := it_neg hc h
    refine T_iconst dX9_isA_51 ic_0 ?_
    obtain rfl := sm1 h
    exact T_zret dX9_isA_52 (Or.inl rfl) ⟨rfl, rfl, rfl, rfl⟩
  · have h := it_pos hc h
    refine T_iload_n dX9_isA_42 rfl ?_
    refine T_iconst dX9_isA_43 ic_5 ?_
    refine T_icmp_ne (tgt := 51) dX9_isA_44 (by decide) (fun hc => ?_) (fun hc => ?_)
    · have h := it_neg hc h
      refine T_iconst dX9_isA_51 ic_0 ?_
      obtain rfl := sm1 h
      exact T_zret dX9_isA_52 (Or.inl rfl) ⟨rfl, rfl, rfl, rfl⟩
    · have h := it_pos hc h
      refine T_iconst dX9_isA_47 ic_1 ?_
      refine T_goto (tgt := 52) dX9_isA_48 (by decide) ?_
      obtain rfl := sm1 h
      exact T_zret dX9_isA_52 (Or.inr rfl) ⟨rfl, rfl, rfl, rfl⟩
set_option maxRecDepth 100000 in
set_option maxHeartbeats 4000000 in
theorem j_X9_isA_J27 (M : Mem) (x2 : Int32) (x3 : Int32) (r : Int32) (h : X9_isA_J27 M x2 x3 = some r) : T RX9 cX9_isA 4 (some .boolean) 0 1 0 0 false (eqp (vI r) LAYM rfm M) 27 [aU, aU, aI x2, aI x3] [] LAYM rfm M 0 0 := by
  unfold X9_isA_J27 at h
  refine T_iload_n dX9_isA_27 rfl ?_
  refine T_iconst dX9_isA_28 ic_2 ?_
  refine T_icmp_ne (tgt := 37) dX9_isA_29 (by decide) (fun hc => ?_) (fun hc => ?_)
  · have h := it_neg hc h
    exact j_X9_isA_J37  M x2 x3  _ h
  · have h := it_pos hc h
    refine T_iload_n dX9_isA_32 rfl ?_
    refine T_iconst dX9_isA_33 ic_4 ?_
    refine T_icmp_eq (tgt := 47) dX9_isA_34 (by decide) (fun hc => ?_) (fun hc => ?_)
    · have h := it_pos hc h
      refine T_iconst dX9_isA_47 ic_1 ?_
      refine T_goto (tgt := 52) dX9_isA_48 (by decide) ?_
      obtain rfl := sm1 h
      exact T_zret dX9_isA_52 (Or.inr rfl) ⟨rfl, rfl, rfl, rfl⟩
    · have h := it_neg hc h
      exact j_X9_isA_J37  M x2 x3  _ h
set_option maxRecDepth 100000 in
set_option maxHeartbeats 4000000 in
theorem m_X9_isA (M : Mem) (x1 : Int32) (x2 : Int32) (r : Int32) (h : F_X9_isA M x1 x2 = some r) : Cal yX9_isA cX9_isA 4 (some .boolean) 0 1 0 0 false [vR (some 0), vI x1, vI x2] LAYM rfm M (eqp (vI r) LAYM rfm M) := by
  refine Cal.of (by decide +kernel) (Nat.le_of_ble_eq_true rfl) (fun h => by cases h) ?_
  unfold F_X9_isA at h
  show T RX9 cX9_isA 4 (some .boolean) 0 1 0 0 false (eqp (vI r) LAYM rfm M) 0 [aR (some 0), aI x1, aI x2, aU] [] LAYM rfm M 0 0
  refine T_aload_n dX9_isA_0 rfl ?_
  refine T_getR dX9_isA_1 clOK_X9 fl_X9_38 lyM_0 rfl rfl ?_
  refine T_iload_n dX9_isA_4 rfl ?_
  obtain ⟨hi_1, h⟩ := chk_some h
  refine T_iald dX9_isA_5 lyM_9 (inb_in hi_1) ?_
  obtain ⟨x_2, ex_3, h⟩ := lett_some h
  refine T_topI ex_3 ?_
  refine T_istore_n (i := 3) (L' := [aR (some 0), aI x1, aI x2, aI x_2]) dX9_isA_6 rfl (Nat.le_of_ble_eq_true rfl) rfl ?_
  refine T_iload_n dX9_isA_7 rfl ?_
  refine T_iload_n dX9_isA_8 rfl ?_
  refine T_icmp_eq (tgt := 47) dX9_isA_9 (by decide) (fun hc => ?_) (fun hc => ?_)
  · have h := it_pos hc h
    refine T_iconst dX9_isA_47 ic_1 ?_
    refine T_goto (tgt := 52) dX9_isA_48 (by decide) ?_
    obtain rfl := sm1 h
    exact T_zret dX9_isA_52 (Or.inr rfl) ⟨rfl, rfl, rfl, rfl⟩
  · have h := it_neg hc h
    refine T_iload_n dX9_isA_12 rfl ?_
    refine T_iconst dX9_isA_13 ic_1 ?_
    refine T_icmp_ne (tgt := 27) dX9_isA_14 (by decide) (fun hc => ?_) (fun hc => ?_)
    · have h := it_neg hc h
      refine T_mask [false, false, true, true] rfl ?_
      exact j_X9_isA_J27  M x2 x_2  _ h
    · have h := it_pos hc h
      refine T_iload_n dX9_isA_17 rfl ?_
      refine T_iconst dX9_isA_18 ic_2 ?_
      refine T_icmp_eq (tgt := 47) dX9_isA_19 (by decide) (fun hc => ?_) (fun hc => ?_)
      · have h := it_pos hc h
        refine T_iconst dX9_isA_47 ic_1 ?_
        refine T_goto (tgt := 52) dX9_isA_48 (by decide) ?_
        obtain rfl := sm1 h
        exact T_zret dX9_isA_52 (Or.inr rfl) ⟨rfl, rfl, rfl, rfl⟩
      · have h := it_neg hc h
        refine T_iload_n dX9_isA_22 rfl ?_
        refine T_iconst dX9_isA_23 ic_4 ?_
        refine T_icmp_eq (tgt := 47) dX9_isA_24 (by decide) (fun hc => ?_) (fun hc => ?_)
        · have h := it_pos hc h
          refine T_iconst dX9_isA_47 ic_1 ?_
          refine T_goto (tgt := 52) dX9_isA_48 (by decide) ?_
          obtain rfl := sm1 h
          exact T_zret dX9_isA_52 (Or.inr rfl) ⟨rfl, rfl, rfl, rfl⟩
        · have h := it_neg hc h
          refine T_mask [false, false, true, true] rfl ?_
          exact j_X9_isA_J27  M x2 x_2  _ h
def F_X9_mark (M : Mem) (x1 : Int32) (x2 : Int32) : Option (Int32 × Mem) :=
 bd1 (F_X9_isLaw M x1) fun r_1 => if r_1 = 0 then some ((-1), M)
 else bd1 (F_X9_in x2 1 (nI 5)) fun r_3 => if r_3 = 0 then some ((-1), M)
 else bd1 (F_X9_isA M x1 x2) fun r_5 => if r_5 = 0 then bd2 (F_X9_meet M (nI 3)) fun r_7 M_8 => some (r_7, M_8)
 else bd2 (F_X9_marked M x1 x2) fun r_10 M_11 => some (r_10, M_11)
set_option maxRecDepth 100000 in
set_option maxHeartbeats 4000000 in
theorem m_X9_mark (M : Mem) (x1 : Int32) (x2 : Int32) (r : Int32) (M' : Mem) (h : F_X9_mark M x1 x2 = some (r, M')) : Cal yX9_mark cX9_mark 3 (some .int) 0 8 0 0 false [vR (some 0), vI x1, vI x2] LAYM rfm M (eqp (vI r) LAYM rfm M') := by
  refine Cal.of (by decide +kernel) (Nat.le_of_ble_eq_true rfl) (fun h => by cases h) ?_
  unfold F_X9_mark at h
  show T RX9 cX9_mark 3 (some .int) 0 8 0 0 false (eqp (vI r) LAYM rfm M') 0 [aR (some 0), aI x1, aI x2] [] LAYM rfm M 0 0
  refine T_aload_n dX9_mark_0 rfl ?_
  refine T_iload_n dX9_mark_1 rfl ?_
  obtain ⟨r_1, hc_2, h⟩ := bd1_some h
  refine T_cvi (as := [vI x1]) dX9_mark_2 cw_X9_isLaw ml_X9_218 mi_X9_isLaw se_X9_isLaw lyM_0 rfl (by decide) rfl (Nat.le_of_ble_eq_true rfl) (Nat.le_of_ble_eq_true rfl) (m_X9_isLaw  M x1  _ hc_2) ?_
  refine T_if_eq (tgt := 17) dX9_mark_5 (by decide) (fun hc => ?_) (fun hc => ?_)
  · have h := it_pos hc h
    refine T_iconst dX9_mark_17 ic_m1 ?_
    obtain ⟨rfl, rfl⟩ := sm2 h
    exact T_iret dX9_mark_18 ⟨rfl, rfl, rfl, rfl⟩
  · have h := it_neg hc h
    refine T_iload_n dX9_mark_8 rfl ?_
    refine T_iconst dX9_mark_9 ic_1 ?_
    refine T_iconst dX9_mark_10 ic_5 ?_
    obtain ⟨r_3, hc_4, h⟩ := bd1_some h
    refine T_csi (as := [vI x2, vI 1, vI (nI 5)]) dX9_mark_11 cw_X9_in ml_X9_79 mt_X9_in rfl (Nat.le_of_ble_eq_true rfl) (Nat.le_of_ble_eq_true rfl) (m_X9_in M x2 1 (nI 5)  _ hc_4) ?_
    refine T_if_ne (tgt := 19) dX9_mark_14 (by decide) (fun hc => ?_) (fun hc => ?_)
    · have h := it_neg hc h
      refine T_aload_n dX9_mark_19 rfl ?_
      refine T_iload_n dX9_mark_20 rfl ?_
      refine T_iload_n dX9_mark_21 rfl ?_
      obtain ⟨r_5, hc_6, h⟩ := bd1_some h
      refine T_cvi (as := [vI x1, vI x2]) dX9_mark_22 cw_X9_isA ml_X9_240 mi_X9_isA se_X9_isA lyM_0 rfl (by decide) rfl (Nat.le_of_ble_eq_true rfl) (Nat.le_of_ble_eq_true rfl) (m_X9_isA  M x1 x2  _ hc_6) ?_
      refine T_if_eq (tgt := 37) dX9_mark_25 (by decide) (fun hc => ?_) (fun hc => ?_)
      · have h := it_pos hc h
        refine T_aload_n dX9_mark_37 rfl ?_
        refine T_iconst dX9_mark_38 ic_3 ?_
        obtain ⟨r_7, M_8, hc_9, h⟩ := bd2_some h
        refine T_cvi (as := [vI (nI 3)]) dX9_mark_39 cw_X9_meet ml_X9_87 mi_X9_meet se_X9_meet lyM_0 rfl (by decide) rfl (Nat.le_of_ble_eq_true rfl) (Nat.le_of_ble_eq_true rfl) (m_X9_meet  M (nI 3)  _ _ hc_9) ?_
        obtain ⟨rfl, rfl⟩ := sm2 h
        exact T_iret dX9_mark_42 ⟨rfl, rfl, rfl, rfl⟩
      · have h := it_neg hc h
        refine T_aload_n dX9_mark_28 rfl ?_
        refine T_iload_n dX9_mark_29 rfl ?_
        refine T_iload_n dX9_mark_30 rfl ?_
        obtain ⟨r_10, M_11, hc_12, h⟩ := bd2_some h
        refine T_cvi (as := [vI x1, vI x2]) dX9_mark_31 cw_X9_marked ml_X9_243 mi_X9_marked se_X9_marked lyM_0 rfl (by decide) rfl (Nat.le_of_ble_eq_true rfl) (Nat.le_of_ble_eq_true rfl) (m_X9_marked  M x1 x2  _ _ hc_12) ?_
        refine T_goto (tgt := 42) dX9_mark_34 (by decide) ?_
        obtain ⟨rfl, rfl⟩ := sm2 h
        exact T_iret dX9_mark_42 ⟨rfl, rfl, rfl, rfl⟩
    · have h := it_pos hc h
      refine T_iconst dX9_mark_17 ic_m1 ?_
      obtain ⟨rfl, rfl⟩ := sm2 h
      exact T_iret dX9_mark_18 ⟨rfl, rfl, rfl, rfl⟩
def F_X9_hole (M : Mem) (x1 : Int32) (x2 : Int32) : Option (Int32 × Mem) :=
 bd2 (F_X9_isHole M x1) fun r_1 M_2 => if r_1 = 0 then some ((-1), M_2)
 else bd1 (F_X9_in x2 0 (nI 4)) fun r_4 => if r_4 = 0 then some ((-1), M_2)
 else chk (inb x1 8 = true) (bd1 (F_X9_holeOf M_2 7 0 (gI M_2 11 x1.toNatClampNeg) x2) fun r_7 => bd2 (F_X9_ask M_2 r_7 1) fun r_9 M_10 => some (r_9, M_10))
set_option maxRecDepth 100000 in
set_option maxHeartbeats 4000000 in
theorem m_X9_hole (M : Mem) (x1 : Int32) (x2 : Int32) (r : Int32) (M' : Mem) (h : F_X9_hole M x1 x2 = some (r, M')) : Cal yX9_hole cX9_hole 3 (some .int) 0 6 0 0 false [vR (some 0), vI x1, vI x2] LAYM rfm M (eqp (vI r) LAYM rfm M') := by
  refine Cal.of (by decide +kernel) (Nat.le_of_ble_eq_true rfl) (fun h => by cases h) ?_
  unfold F_X9_hole at h
  show T RX9 cX9_hole 3 (some .int) 0 6 0 0 false (eqp (vI r) LAYM rfm M') 0 [aR (some 0), aI x1, aI x2] [] LAYM rfm M 0 0
  refine T_aload_n dX9_hole_0 rfl ?_
  refine T_iload_n dX9_hole_1 rfl ?_
  obtain ⟨r_1, M_2, hc_3, h⟩ := bd2_some h
  refine T_cvi (as := [vI x1]) dX9_hole_2 cw_X9_isHole ml_X9_246 mi_X9_isHole se_X9_isHole lyM_0 rfl (by decide) rfl (Nat.le_of_ble_eq_true rfl) (Nat.le_of_ble_eq_true rfl) (m_X9_isHole  M x1  _ _ hc_3) ?_
  refine T_if_eq (tgt := 41) dX9_hole_5 (by decide) (fun hc => ?_) (fun hc => ?_)
  · have h := it_pos hc h
    refine T_iconst dX9_hole_41 ic_m1 ?_
    obtain ⟨rfl, rfl⟩ := sm2 h
    exact T_iret dX9_hole_42 ⟨rfl, rfl, rfl, rfl⟩
  · have h := it_neg hc h
    refine T_iload_n dX9_hole_8 rfl ?_
    refine T_iconst dX9_hole_9 ic_0 ?_
    refine T_iconst dX9_hole_10 ic_4 ?_
    obtain ⟨r_4, hc_5, h⟩ := bd1_some h
    refine T_csi (as := [vI x2, vI 0, vI (nI 4)]) dX9_hole_11 cw_X9_in ml_X9_79 mt_X9_in rfl (Nat.le_of_ble_eq_true rfl) (Nat.le_of_ble_eq_true rfl) (m_X9_in M_2 x2 0 (nI 4)  _ hc_5) ?_
    refine T_if_eq (tgt := 41) dX9_hole_14 (by decide) (fun hc => ?_) (fun hc => ?_)
    · have h := it_pos hc h
      refine T_iconst dX9_hole_41 ic_m1 ?_
      obtain ⟨rfl, rfl⟩ := sm2 h
      exact T_iret dX9_hole_42 ⟨rfl, rfl, rfl, rfl⟩
    · have h := it_neg hc h
      refine T_aload_n dX9_hole_17 rfl ?_
      refine T_aload_n dX9_hole_18 rfl ?_
      refine T_aload_n dX9_hole_19 rfl ?_
      refine T_getR dX9_hole_20 clOK_X9 fl_X9_32 lyM_0 rfl rfl ?_
      refine T_iconst dX9_hole_23 ic_0 ?_
      refine T_aload_n dX9_hole_24 rfl ?_
      refine T_getR dX9_hole_25 clOK_X9 fl_X9_44 lyM_0 rfl rfl ?_
      refine T_iload_n dX9_hole_28 rfl ?_
      obtain ⟨hi_6, h⟩ := chk_some h
      refine T_iald dX9_hole_29 lyM_11 (inb_in hi_6) ?_
      refine T_iload_n dX9_hole_30 rfl ?_
      obtain ⟨r_7, hc_8, h⟩ := bd1_some h
      refine T_cvi (as := [vR (some 7), vI 0, vI (gI M_2 11 x1.toNatClampNeg), vI x2]) dX9_hole_31 cw_X9_holeOf ml_X9_249 mi_X9_holeOf se_X9_holeOf lyM_0 rfl (by decide) rfl (Nat.le_of_ble_eq_true rfl) (Nat.le_of_ble_eq_true rfl) (m_X9_holeOf  M_2 7 0 (gI M_2 11 x1.toNatClampNeg) x2 rfl _ hc_8) ?_
      refine T_iconst dX9_hole_34 ic_1 ?_
      obtain ⟨r_9, M_10, hc_11, h⟩ := bd2_some h
      refine T_cvi (as := [vI r_7, vI 1]) dX9_hole_35 cw_X9_ask ml_X9_105 mi_X9_ask se_X9_ask lyM_0 rfl (by decide) rfl (Nat.le_of_ble_eq_true rfl) (Nat.le_of_ble_eq_true rfl) (m_X9_ask  M_2 r_7 1  _ _ hc_11) ?_
      refine T_goto (tgt := 42) dX9_hole_38 (by decide) ?_
      obtain ⟨rfl, rfl⟩ := sm2 h
      exact T_iret dX9_hole_42 ⟨rfl, rfl, rfl, rfl⟩
def X9_write_L2 (p1 : Nat) (x2 : Int32) : Int32 × Mem → Option ((Int32 × Mem) ⊕ (Mem))
  | (x3, M) =>
    if (nI 16) ≤ x3 then chk (inb (x2 + (nI 16)) (alM p1) = true) (lett (sI M p1 (x2 + (nI 16)).toNatClampNeg (gI M 0 16)) fun M_1 => some (.inr M_1))
    else chk (inb x3 16 = true) (chk (inb (x2 + x3) (alM p1) = true) (lett (sI M p1 (x2 + x3).toNatClampNeg (gI M 7 x3.toNatClampNeg)) fun M_5 => lett (x3 + 1) fun x_8 => some (.inl (x_8, M_5))))
def F_X9_write (M : Mem) (p1 : Nat) (x2 : Int32) : Option (Mem) :=
 loop (X9_write_L2 p1 x2) FU (0, M)
set_option maxRecDepth 100000 in
set_option maxHeartbeats 4000000 in
theorem s_X9_write_L2 (p1 : Nat) (x2 : Int32) (h1 : isAM p1 = true) (x3 : Int32) (M : Mem) {Po : Po_} (x : (Int32 × Mem) ⊕ (Mem)) (h : X9_write_L2 p1 x2 (x3, M) = some x) (hI : ∀ (ix3 : Int32) (iM : Mem), x = .inl (ix3, iM) → T RX9 cX9_write 4 none 2 1 0 0 false Po 2 [aR (some 0), aR (some p1), aI x2, aI ix3] [] LAYM rfm iM 0 0) (hE0 : ∀ (eM : Mem), x = .inr eM → Po (vI 0) LAYM rfm eM) : T RX9 cX9_write 4 none 2 1 0 0 false Po 2 [aR (some 0), aR (some p1), aI x2, aI x3] [] LAYM rfm M 0 0 := by
  unfold X9_write_L2 at h
  simp only at h
  refine T_iload_n dX9_write_2 rfl ?_
  refine T_bipush dX9_write_3 bp_16 ?_
  refine T_icmp_ge (tgt := 25) dX9_write_5 (by decide) (fun hc => ?_) (fun hc => ?_)
  · have h := it_pos hc h
    refine T_aload_n dX9_write_25 rfl ?_
    refine T_iload_n dX9_write_26 rfl ?_
    refine T_bipush dX9_write_27 bp_16 ?_
    refine T_iadd dX9_write_29 ?_
    refine T_aload_n dX9_write_30 rfl ?_
    refine T_getI dX9_write_31 clOK_X9 fl_X9_164 lyM_0 rfl ?_
    obtain ⟨hi_3, h⟩ := chk_some h
    obtain ⟨M_1, eM_2, h⟩ := lett_some h
    refine T_iast dX9_write_34 (lyAM h1) (inb_in hi_3) eM_2 ?_
    obtain rfl := sm1 h
    exact T_vret dX9_write_35 (hE0 _ rfl)
  · have h := it_neg hc h
    refine T_aload_n dX9_write_8 rfl ?_
    refine T_iload_n dX9_write_9 rfl ?_
    refine T_iload_n dX9_write_10 rfl ?_
    refine T_iadd dX9_write_11 ?_
    refine T_aload_n dX9_write_12 rfl ?_
    refine T_getR dX9_write_13 clOK_X9 fl_X9_32 lyM_0 rfl rfl ?_
    refine T_iload_n dX9_write_16 rfl ?_
    obtain ⟨hi_4, h⟩ := chk_some h
    refine T_iald dX9_write_17 lyM_7 (inb_in hi_4) ?_
    obtain ⟨hi_7, h⟩ := chk_some h
    obtain ⟨M_5, eM_6, h⟩ := lett_some h
    refine T_iast dX9_write_18 (lyAM h1) (inb_in hi_7) eM_6 ?_
    obtain ⟨x_8, ex_9, h⟩ := lett_some h
    refine T_iinc (L' := [aR (some 0), aR (some p1), aI x2, aI x_8]) dX9_write_19 rfl (ic_inc ic_1 ex_9) (Nat.le_of_ble_eq_true rfl) rfl ?_
    refine T_goto (tgt := 2) dX9_write_22 (by decide) ?_
    obtain rfl := sm1 h
    exact hI _ _ rfl
set_option maxRecDepth 100000 in
set_option maxHeartbeats 4000000 in
theorem l_X9_write_L2 (p1 : Nat) (x2 : Int32) (h1 : isAM p1 = true) {Po : Po_} (eM : Mem) : ∀ (k : Nat) (x3 : Int32) (M : Mem), loop (X9_write_L2 p1 x2) k (x3, M) = some eM → (Po (vI 0) LAYM rfm eM) → T RX9 cX9_write 4 none 2 1 0 0 false Po 2 [aR (some 0), aR (some p1), aI x2, aI x3] [] LAYM rfm M 0 0 := by
  intro k
  induction k with
  | zero => intro x3 M h; cases h
  | succ k ih =>
    intro x3 M h hE
    obtain ⟨x, hx, hx1, hx2⟩ := loop_succ h
    exact s_X9_write_L2  p1 x2 h1 x3 M x hx (fun q0 q1 e => ih q0 q1 (hx1 _ e) hE) (fun q0 e => by cases hx2 _ e; exact hE)
set_option maxRecDepth 100000 in
set_option maxHeartbeats 4000000 in
theorem m_X9_write (M : Mem) (p1 : Nat) (x2 : Int32) (h1 : isAM p1 = true) (M' : Mem) (h : F_X9_write M p1 x2 = some M') : Cal yX9_write cX9_write 4 none 2 1 0 0 false [vR (some 0), vR (some p1), vI x2] LAYM rfm M (eqp (vI 0) LAYM rfm M') := by
  refine Cal.of (by decide +kernel) (Nat.le_of_ble_eq_true rfl) (fun h => by cases h) ?_
  unfold F_X9_write at h
  show T RX9 cX9_write 4 none 2 1 0 0 false (eqp (vI 0) LAYM rfm M') 0 [aR (some 0), aR (some p1), aI x2, aU] [] LAYM rfm M 0 0
  refine T_iconst dX9_write_0 ic_0 ?_
  refine T_istore_n (i := 3) (L' := [aR (some 0), aR (some p1), aI x2, aI 0]) dX9_write_1 rfl (Nat.le_of_ble_eq_true rfl) rfl ?_
  exact l_X9_write_L2  p1 x2 h1 _ FU 0 M h ⟨rfl, rfl, rfl, rfl⟩
