def X7_wrongIn_L22 (M : Mem) (p0 : Nat) : Int32 → Option ((Int32) ⊕ (Int32))
  | x2 =>
    bd1 (F_X5_size M p0) fun r_5 => if r_5 ≤ x2 then some (.inr 0)
    else bd1 (F_X5_get M p0 (x2 + 1)) fun r_7 => bd1 (F_X5_get M p0 (x2 + 2)) fun r_9 => bd1 (F_X5_get M p0 x2) fun r_11 => bd1 (F_X2_has M r_11) fun r_13 => if r_13 = 0 then some (.inr 3)
    else if r_7 < 0 then some (.inr 3)
    else if 5 < r_7 then some (.inr 3)
    else if r_9 < 0 then some (.inr 3)
    else if r_9 ≤ 2 then lett (x2 + 3) fun x_15 => some (.inl x_15)
    else some (.inr 3)
def F_X7_wrongIn (M : Mem) (p0 : Nat) : Option (Int32) :=
 bd1 (F_X5_isMissing M p0) fun r_1 => if r_1 = 0 then bd1 (F_X5_size M p0) fun r_3 => if (irm r_3 3) = 0 then loop (X7_wrongIn_L22 M p0) FU 0
 else some 5
 else some 1
set_option maxRecDepth 100000 in
set_option maxHeartbeats 4000000 in
theorem s_X7_wrongIn_L22 (lw : Nat → Option Nat) (tl : Option Nat) (tt : Option Nat) (M : Mem) (p0 : Nat) (h0 : isX5 p0 = true) (x2 : Int32) {Po : Po_} (x : (Int32) ⊕ (Int32)) (h : X7_wrongIn_L22 M p0 x2 = some x) (hI : ∀ (ix2 : Int32), x = .inl ix2 → T RX7 cX7_wrongIn 5 (some .int) 0 3 0 0 false Po 22 [aR (some p0), aR (some 7), aI ix2, aU, aU] [] LAYC (rfs lw tl tt) M 0 0) (hE0 : ∀ (er : Int32), x = .inr er → Po (vI er) LAYC (rfs lw tl tt) M) : T RX7 cX7_wrongIn 5 (some .int) 0 3 0 0 false Po 22 [aR (some p0), aR (some 7), aI x2, aU, aU] [] LAYC (rfs lw tl tt) M 0 0 := by
  unfold X7_wrongIn_L22 at h
  simp only at h
  refine T_iload_n dX7_wrongIn_22 rfl ?_
  refine T_aload_n dX7_wrongIn_23 rfl ?_
  obtain ⟨r_5, hc_6, h⟩ := bd1_some h
  refine T_cvi (as := []) dX7_wrongIn_24 cw_X5_size ml_X7_15 mi_X5_size se_X5_size (lyX5 h0) rfl (by decide) rfl (Nat.le_of_ble_eq_true rfl) (Nat.le_of_ble_eq_true rfl) (m_X5_size lw tl tt M p0 h0 _ hc_6) ?_
  refine T_icmp_ge (tgt := 87) dX7_wrongIn_27 (by decide) (fun hc => ?_) (fun hc => ?_)
  · have h := it_pos hc h
    refine T_iconst dX7_wrongIn_87 ic_0 ?_
    obtain rfl := sm1 h
    exact T_iret dX7_wrongIn_88 (hE0 _ rfl)
  · have h := it_neg hc h
    refine T_aload_n dX7_wrongIn_30 rfl ?_
    refine T_iload_n dX7_wrongIn_31 rfl ?_
    refine T_iconst dX7_wrongIn_32 ic_1 ?_
    refine T_iadd dX7_wrongIn_33 ?_
    obtain ⟨r_7, hc_8, h⟩ := bd1_some h
    refine T_cvi (as := [vI (x2 + 1)]) dX7_wrongIn_34 cw_X5_get ml_X7_19 mi_X5_get se_X5_get (lyX5 h0) rfl (by decide) rfl (Nat.le_of_ble_eq_true rfl) (Nat.le_of_ble_eq_true rfl) (m_X5_get lw tl tt M p0 (x2 + 1) h0 _ hc_8) ?_
    refine T_istore_n (i := 3) (L' := [aR (some p0), aR (some 7), aI x2, aI r_7, aU]) dX7_wrongIn_37 rfl (Nat.le_of_ble_eq_true rfl) rfl ?_
    refine T_aload_n dX7_wrongIn_38 rfl ?_
    refine T_iload_n dX7_wrongIn_39 rfl ?_
    refine T_iconst dX7_wrongIn_40 ic_2 ?_
    refine T_iadd dX7_wrongIn_41 ?_
    obtain ⟨r_9, hc_10, h⟩ := bd1_some h
    refine T_cvi (as := [vI (x2 + 2)]) dX7_wrongIn_42 cw_X5_get ml_X7_19 mi_X5_get se_X5_get (lyX5 h0) rfl (by decide) rfl (Nat.le_of_ble_eq_true rfl) (Nat.le_of_ble_eq_true rfl) (m_X5_get lw tl tt M p0 (x2 + 2) h0 _ hc_10) ?_
    refine T_istore (i := 4) (L' := [aR (some p0), aR (some 7), aI x2, aI r_7, aI r_9]) dX7_wrongIn_45 (Nat.le_of_ble_eq_true rfl) rfl ?_
    refine T_aload_n dX7_wrongIn_47 rfl ?_
    refine T_aload_n dX7_wrongIn_48 rfl ?_
    refine T_iload_n dX7_wrongIn_49 rfl ?_
    obtain ⟨r_11, hc_12, h⟩ := bd1_some h
    refine T_cvi (as := [vI x2]) dX7_wrongIn_50 cw_X5_get ml_X7_19 mi_X5_get se_X5_get (lyX5 h0) rfl (by decide) rfl (Nat.le_of_ble_eq_true rfl) (Nat.le_of_ble_eq_true rfl) (m_X5_get lw tl tt M p0 x2 h0 _ hc_12) ?_
    obtain ⟨r_13, hc_14, h⟩ := bd1_some h
    refine T_cvi (as := [vI r_11]) dX7_wrongIn_53 cw_X2_has ml_X7_23 mi_X2_has se_X2_has lyC_7 rfl (by decide) rfl (Nat.le_of_ble_eq_true rfl) (Nat.le_of_ble_eq_true rfl) (m_X2_has lw tl tt M r_11  _ hc_14) ?_
    refine T_if_eq (tgt := 79) dX7_wrongIn_56 (by decide) (fun hc => ?_) (fun hc => ?_)
    · have h := it_pos hc h
      refine T_iconst dX7_wrongIn_79 ic_3 ?_
      obtain rfl := sm1 h
      exact T_iret dX7_wrongIn_80 (hE0 _ rfl)
    · have h := it_neg hc h
      refine T_iload_n dX7_wrongIn_59 rfl ?_
      refine T_if_lt (tgt := 79) dX7_wrongIn_60 (by decide) (fun hc => ?_) (fun hc => ?_)
      · have h := it_pos hc h
        refine T_iconst dX7_wrongIn_79 ic_3 ?_
        obtain rfl := sm1 h
        exact T_iret dX7_wrongIn_80 (hE0 _ rfl)
      · have h := it_neg hc h
        refine T_iload_n dX7_wrongIn_63 rfl ?_
        refine T_iconst dX7_wrongIn_64 ic_5 ?_
        refine T_icmp_gt (tgt := 79) dX7_wrongIn_65 (by decide) (fun hc => ?_) (fun hc => ?_)
        · have h := it_pos hc h
          refine T_iconst dX7_wrongIn_79 ic_3 ?_
          obtain rfl := sm1 h
          exact T_iret dX7_wrongIn_80 (hE0 _ rfl)
        · have h := it_neg hc h
          refine T_iload dX7_wrongIn_68 rfl ?_
          refine T_if_lt (tgt := 79) dX7_wrongIn_70 (by decide) (fun hc => ?_) (fun hc => ?_)
          · have h := it_pos hc h
            refine T_iconst dX7_wrongIn_79 ic_3 ?_
            obtain rfl := sm1 h
            exact T_iret dX7_wrongIn_80 (hE0 _ rfl)
          · have h := it_neg hc h
            refine T_iload dX7_wrongIn_73 rfl ?_
            refine T_iconst dX7_wrongIn_75 ic_2 ?_
            refine T_icmp_le (tgt := 81) dX7_wrongIn_76 (by decide) (fun hc => ?_) (fun hc => ?_)
            · have h := it_pos hc h
              obtain ⟨x_15, ex_16, h⟩ := lett_some h
              refine T_iinc (L' := [aR (some p0), aR (some 7), aI x_15, aI r_7, aI r_9]) dX7_wrongIn_81 rfl (ic_inc ic_3 ex_16) (Nat.le_of_ble_eq_true rfl) rfl ?_
              refine T_goto (tgt := 22) dX7_wrongIn_84 (by decide) ?_
              obtain rfl := sm1 h
              refine T_mask [true, true, true, false, false] rfl ?_
              exact hI _ rfl
            · have h := it_neg hc h
              refine T_iconst dX7_wrongIn_79 ic_3 ?_
              obtain rfl := sm1 h
              exact T_iret dX7_wrongIn_80 (hE0 _ rfl)
set_option maxRecDepth 100000 in
set_option maxHeartbeats 4000000 in
theorem l_X7_wrongIn_L22 (lw : Nat → Option Nat) (tl : Option Nat) (tt : Option Nat) (M : Mem) (p0 : Nat) (h0 : isX5 p0 = true) {Po : Po_} (er : Int32) : ∀ (k : Nat) (x2 : Int32), loop (X7_wrongIn_L22 M p0) k x2 = some er → (Po (vI er) LAYC (rfs lw tl tt) M) → T RX7 cX7_wrongIn 5 (some .int) 0 3 0 0 false Po 22 [aR (some p0), aR (some 7), aI x2, aU, aU] [] LAYC (rfs lw tl tt) M 0 0 := by
  intro k
  induction k with
  | zero => intro x2 h; cases h
  | succ k ih =>
    intro x2 h hE
    obtain ⟨x, hx, hx1, hx2⟩ := loop_succ h
    exact s_X7_wrongIn_L22  lw tl tt M p0 h0 x2 x hx (fun q0 e => ih q0 (hx1 _ e) hE) (fun q0 e => by cases hx2 _ e; exact hE)
set_option maxRecDepth 100000 in
set_option maxHeartbeats 4000000 in
theorem m_X7_wrongIn (lw : Nat → Option Nat) (tl : Option Nat) (tt : Option Nat) (M : Mem) (p0 : Nat) (h0 : isX5 p0 = true) (r : Int32) (h : F_X7_wrongIn M p0 = some r) : Cal yX7_wrongIn cX7_wrongIn 5 (some .int) 0 3 0 0 false [vR (some p0), vR (some 7)] LAYC (rfs lw tl tt) M (eqp (vI r) LAYC (rfs lw tl tt) M) := by
  refine Cal.of (by decide +kernel) (Nat.le_of_ble_eq_true rfl) (fun h => by cases h) ?_
  unfold F_X7_wrongIn at h
  show T RX7 cX7_wrongIn 5 (some .int) 0 3 0 0 false (eqp (vI r) LAYC (rfs lw tl tt) M) 0 [aR (some p0), aR (some 7), aU, aU, aU] [] LAYC (rfs lw tl tt) M 0 0
  refine T_aload_n dX7_wrongIn_0 rfl ?_
  obtain ⟨r_1, hc_2, h⟩ := bd1_some h
  refine T_cvi (as := []) dX7_wrongIn_1 cw_X5_isMissing ml_X7_9 mi_X5_isMissing se_X5_isMissing (lyX5 h0) rfl (by decide) rfl (Nat.le_of_ble_eq_true rfl) (Nat.le_of_ble_eq_true rfl) (m_X5_isMissing lw tl tt M p0 h0 _ hc_2) ?_
  refine T_if_eq (tgt := 9) dX7_wrongIn_4 (by decide) (fun hc => ?_) (fun hc => ?_)
  · have h := it_pos hc h
    refine T_aload_n dX7_wrongIn_9 rfl ?_
    obtain ⟨r_3, hc_4, h⟩ := bd1_some h
    refine T_cvi (as := []) dX7_wrongIn_10 cw_X5_size ml_X7_15 mi_X5_size se_X5_size (lyX5 h0) rfl (by decide) rfl (Nat.le_of_ble_eq_true rfl) (Nat.le_of_ble_eq_true rfl) (m_X5_size lw tl tt M p0 h0 _ hc_4) ?_
    refine T_iconst dX7_wrongIn_13 ic_3 ?_
    refine T_irem dX7_wrongIn_14 (by decide) ?_
    refine T_if_eq (tgt := 20) dX7_wrongIn_15 (by decide) (fun hc => ?_) (fun hc => ?_)
    · have h := it_pos hc h
      refine T_iconst dX7_wrongIn_20 ic_0 ?_
      refine T_istore_n (i := 2) (L' := [aR (some p0), aR (some 7), aI 0, aU, aU]) dX7_wrongIn_21 rfl (Nat.le_of_ble_eq_true rfl) rfl ?_
      exact l_X7_wrongIn_L22  lw tl tt M p0 h0 _ FU 0 h ⟨rfl, rfl, rfl, rfl⟩
    · have h := it_neg hc h
      refine T_iconst dX7_wrongIn_18 ic_5 ?_
      obtain rfl := sm1 h
      exact T_iret dX7_wrongIn_19 ⟨rfl, rfl, rfl, rfl⟩
  · have h := it_neg hc h
    refine T_iconst dX7_wrongIn_7 ic_1 ?_
    obtain rfl := sm1 h
    exact T_iret dX7_wrongIn_8 ⟨rfl, rfl, rfl, rfl⟩
def F_X7_isLie (M : Mem) (p0 : Nat) (x1 : Int32) (x2 : Int32) : Option (Int32) :=
 bd1 (F_X5_get M p0 (x1 + 1)) fun r_1 => bd1 (F_X5_get M p0 (x1 + 2)) fun r_3 => if r_3 = 0 then if x2 = r_1 then some 0
 else some 1
 else if r_3 = 1 then if r_1 ≤ x2 then some 0
 else some 1
 else if x2 ≤ r_1 then some 0
 else some 1
set_option maxRecDepth 100000 in
set_option maxHeartbeats 4000000 in
theorem m_X7_isLie (lw : Nat → Option Nat) (tl : Option Nat) (tt : Option Nat) (M : Mem) (p0 : Nat) (x1 : Int32) (x2 : Int32) (h0 : isX5 p0 = true) (r : Int32) (h : F_X7_isLie M p0 x1 x2 = some r) : Cal yX7_isLie cX7_isLie 4 (some .boolean) 0 3 0 0 false [vR (some p0), vI x1, vI x2] LAYC (rfs lw tl tt) M (eqp (vI r) LAYC (rfs lw tl tt) M) := by
  refine Cal.of (by decide +kernel) (Nat.le_of_ble_eq_true rfl) (fun h => by cases h) ?_
  unfold F_X7_isLie at h
  show T RX7 cX7_isLie 4 (some .boolean) 0 3 0 0 false (eqp (vI r) LAYC (rfs lw tl tt) M) 0 [aR (some p0), aI x1, aI x2, aU] [] LAYC (rfs lw tl tt) M 0 0
  refine T_aload_n dX7_isLie_0 rfl ?_
  refine T_iload_n dX7_isLie_1 rfl ?_
  refine T_iconst dX7_isLie_2 ic_1 ?_
  refine T_iadd dX7_isLie_3 ?_
  obtain ⟨r_1, hc_2, h⟩ := bd1_some h
  refine T_cvi (as := [vI (x1 + 1)]) dX7_isLie_4 cw_X5_get ml_X7_19 mi_X5_get se_X5_get (lyX5 h0) rfl (by decide) rfl (Nat.le_of_ble_eq_true rfl) (Nat.le_of_ble_eq_true rfl) (m_X5_get lw tl tt M p0 (x1 + 1) h0 _ hc_2) ?_
  refine T_istore_n (i := 3) (L' := [aR (some p0), aI x1, aI x2, aI r_1]) dX7_isLie_7 rfl (Nat.le_of_ble_eq_true rfl) rfl ?_
  refine T_aload_n dX7_isLie_8 rfl ?_
  refine T_iload_n dX7_isLie_9 rfl ?_
  refine T_iconst dX7_isLie_10 ic_2 ?_
  refine T_iadd dX7_isLie_11 ?_
  obtain ⟨r_3, hc_4, h⟩ := bd1_some h
  refine T_cvi (as := [vI (x1 + 2)]) dX7_isLie_12 cw_X5_get ml_X7_19 mi_X5_get se_X5_get (lyX5 h0) rfl (by decide) rfl (Nat.le_of_ble_eq_true rfl) (Nat.le_of_ble_eq_true rfl) (m_X5_get lw tl tt M p0 (x1 + 2) h0 _ hc_4) ?_
  by_cases hs0 : r_3 = 0
  · have h := it_pos hs0 h
    refine T_eqI hs0 ?_
    refine T_lookup (off := 25) (tgt := 40) dX7_isLie_15 (by decide) (by decide) (by decide) ?_
    refine T_iload_n dX7_isLie_40 rfl ?_
    refine T_iload_n dX7_isLie_41 rfl ?_
    refine T_icmp_eq (tgt := 49) dX7_isLie_42 (by decide) (fun hc => ?_) (fun hc => ?_)
    · have h := it_pos hc h
      refine T_iconst dX7_isLie_49 ic_0 ?_
      obtain rfl := sm1 h
      exact T_zret dX7_isLie_50 (Or.inl rfl) ⟨rfl, rfl, rfl, rfl⟩
    · have h := it_neg hc h
      refine T_iconst dX7_isLie_45 ic_1 ?_
      refine T_goto (tgt := 50) dX7_isLie_46 (by decide) ?_
      obtain rfl := sm1 h
      exact T_zret dX7_isLie_50 (Or.inr rfl) ⟨rfl, rfl, rfl, rfl⟩
  · have h := it_neg hs0 h
    by_cases hs1 : r_3 = 1
    · have h := it_pos hs1 h
      refine T_eqI hs1 ?_
      refine T_lookup (off := 36) (tgt := 51) dX7_isLie_15 (by decide) (by decide) (by decide) ?_
      refine T_iload_n dX7_isLie_51 rfl ?_
      refine T_iload_n dX7_isLie_52 rfl ?_
      refine T_icmp_ge (tgt := 60) dX7_isLie_53 (by decide) (fun hc => ?_) (fun hc => ?_)
      · have h := it_pos hc h
        refine T_iconst dX7_isLie_60 ic_0 ?_
        obtain rfl := sm1 h
        exact T_zret dX7_isLie_61 (Or.inl rfl) ⟨rfl, rfl, rfl, rfl⟩
      · have h := it_neg hc h
        refine T_iconst dX7_isLie_56 ic_1 ?_
        refine T_goto (tgt := 61) dX7_isLie_57 (by decide) ?_
        obtain rfl := sm1 h
        exact T_zret dX7_isLie_61 (Or.inr rfl) ⟨rfl, rfl, rfl, rfl⟩
    · have h := it_neg hs1 h
      refine T_lookup (off := 47) (tgt := 62) dX7_isLie_15 (by decide) (look2 hs0 hs1) (by decide) ?_
      refine T_iload_n dX7_isLie_62 rfl ?_
      refine T_iload_n dX7_isLie_63 rfl ?_
      refine T_icmp_le (tgt := 71) dX7_isLie_64 (by decide) (fun hc => ?_) (fun hc => ?_)
      · have h := it_pos hc h
        refine T_iconst dX7_isLie_71 ic_0 ?_
        obtain rfl := sm1 h
        exact T_zret dX7_isLie_72 (Or.inl rfl) ⟨rfl, rfl, rfl, rfl⟩
      · have h := it_neg hc h
        refine T_iconst dX7_isLie_67 ic_1 ?_
        refine T_goto (tgt := 72) dX7_isLie_68 (by decide) ?_
        obtain rfl := sm1 h
        exact T_zret dX7_isLie_72 (Or.inr rfl) ⟨rfl, rfl, rfl, rfl⟩
def X7_liarsOf_L4 (M : Mem) (p0 : Nat) (p1 : Nat) : Int32 × Int32 → Option ((Int32 × Int32) ⊕ (Int32))
  | (x2, x3) =>
    bd1 (F_X5_size M p0) fun r_1 => if r_1 ≤ x3 then some (.inr x2)
    else bd1 (F_X5_get M p0 x3) fun r_3 => bd1 (F_X1_depthAt M p1 r_3) fun r_5 => bd1 (F_X7_isLie M p0 x3 r_5) fun r_7 => if r_7 = 0 then lett (x3 + 3) fun x_9 => some (.inl (x2, x_9))
    else lett (x2 + 1) fun x_11 => lett (x3 + 3) fun x_13 => some (.inl (x_11, x_13))
def F_X7_liarsOf (M : Mem) (p0 : Nat) (p1 : Nat) : Option (Int32) :=
 loop (X7_liarsOf_L4 M p0 p1) FU (0, 0)
set_option maxRecDepth 100000 in
set_option maxHeartbeats 4000000 in
theorem s_X7_liarsOf_L4 (lw : Nat → Option Nat) (tl : Option Nat) (tt : Option Nat) (M : Mem) (p0 : Nat) (p1 : Nat) (h0 : isX5 p0 = true) (h1 : isX1 p1 = true) (x2 : Int32) (x3 : Int32) {Po : Po_} (x : (Int32 × Int32) ⊕ (Int32)) (h : X7_liarsOf_L4 M p0 p1 (x2, x3) = some x) (hI : ∀ (ix2 : Int32) (ix3 : Int32), x = .inl (ix2, ix3) → T RX7 cX7_liarsOf 4 (some .int) 0 4 0 0 false Po 4 [aR (some p0), aR (some p1), aI ix2, aI ix3] [] LAYC (rfs lw tl tt) M 0 0) (hE0 : ∀ (er : Int32), x = .inr er → Po (vI er) LAYC (rfs lw tl tt) M) : T RX7 cX7_liarsOf 4 (some .int) 0 4 0 0 false Po 4 [aR (some p0), aR (some p1), aI x2, aI x3] [] LAYC (rfs lw tl tt) M 0 0 := by
  unfold X7_liarsOf_L4 at h
  simp only at h
  refine T_iload_n dX7_liarsOf_4 rfl ?_
  refine T_aload_n dX7_liarsOf_5 rfl ?_
  obtain ⟨r_1, hc_2, h⟩ := bd1_some h
  refine T_cvi (as := []) dX7_liarsOf_6 cw_X5_size ml_X7_15 mi_X5_size se_X5_size (lyX5 h0) rfl (by decide) rfl (Nat.le_of_ble_eq_true rfl) (Nat.le_of_ble_eq_true rfl) (m_X5_size lw tl tt M p0 h0 _ hc_2) ?_
  refine T_icmp_ge (tgt := 38) dX7_liarsOf_9 (by decide) (fun hc => ?_) (fun hc => ?_)
  · have h := it_pos hc h
    refine T_iload_n dX7_liarsOf_38 rfl ?_
    obtain rfl := sm1 h
    exact T_iret dX7_liarsOf_39 (hE0 _ rfl)
  · have h := it_neg hc h
    refine T_aload_n dX7_liarsOf_12 rfl ?_
    refine T_iload_n dX7_liarsOf_13 rfl ?_
    refine T_aload_n dX7_liarsOf_14 rfl ?_
    refine T_aload_n dX7_liarsOf_15 rfl ?_
    refine T_iload_n dX7_liarsOf_16 rfl ?_
    obtain ⟨r_3, hc_4, h⟩ := bd1_some h
    refine T_cvi (as := [vI x3]) dX7_liarsOf_17 cw_X5_get ml_X7_19 mi_X5_get se_X5_get (lyX5 h0) rfl (by decide) rfl (Nat.le_of_ble_eq_true rfl) (Nat.le_of_ble_eq_true rfl) (m_X5_get lw tl tt M p0 x3 h0 _ hc_4) ?_
    obtain ⟨r_5, hc_6, h⟩ := bd1_some h
    refine T_cvi (as := [vI r_3]) dX7_liarsOf_20 cw_X1_depthAt ml_X7_31 mi_X1_depthAt se_X1_depthAt (lyX1 h1) rfl (by decide) rfl (Nat.le_of_ble_eq_true rfl) (Nat.le_of_ble_eq_true rfl) (m_X1_depthAt lw tl tt M p1 r_3 h1 _ hc_6) ?_
    obtain ⟨r_7, hc_8, h⟩ := bd1_some h
    refine T_csi (as := [vR (some p0), vI x3, vI r_5]) dX7_liarsOf_23 cw_X7_isLie ml_X7_36 mt_X7_isLie rfl (Nat.le_of_ble_eq_true rfl) (Nat.le_of_ble_eq_true rfl) (m_X7_isLie lw tl tt M p0 x3 r_5 h0 _ hc_8) ?_
    refine T_if_eq (tgt := 32) dX7_liarsOf_26 (by decide) (fun hc => ?_) (fun hc => ?_)
    · have h := it_pos hc h
      obtain ⟨x_9, ex_10, h⟩ := lett_some h
      refine T_iinc (L' := [aR (some p0), aR (some p1), aI x2, aI x_9]) dX7_liarsOf_32 rfl (ic_inc ic_3 ex_10) (Nat.le_of_ble_eq_true rfl) rfl ?_
      refine T_goto (tgt := 4) dX7_liarsOf_35 (by decide) ?_
      obtain rfl := sm1 h
      exact hI _ _ rfl
    · have h := it_neg hc h
      obtain ⟨x_11, ex_12, h⟩ := lett_some h
      refine T_iinc (L' := [aR (some p0), aR (some p1), aI x_11, aI x3]) dX7_liarsOf_29 rfl (ic_inc ic_1 ex_12) (Nat.le_of_ble_eq_true rfl) rfl ?_
      obtain ⟨x_13, ex_14, h⟩ := lett_some h
      refine T_iinc (L' := [aR (some p0), aR (some p1), aI x_11, aI x_13]) dX7_liarsOf_32 rfl (ic_inc ic_3 ex_14) (Nat.le_of_ble_eq_true rfl) rfl ?_
      refine T_goto (tgt := 4) dX7_liarsOf_35 (by decide) ?_
      obtain rfl := sm1 h
      exact hI _ _ rfl
set_option maxRecDepth 100000 in
set_option maxHeartbeats 4000000 in
theorem l_X7_liarsOf_L4 (lw : Nat → Option Nat) (tl : Option Nat) (tt : Option Nat) (M : Mem) (p0 : Nat) (p1 : Nat) (h0 : isX5 p0 = true) (h1 : isX1 p1 = true) {Po : Po_} (er : Int32) : ∀ (k : Nat) (x2 : Int32) (x3 : Int32), loop (X7_liarsOf_L4 M p0 p1) k (x2, x3) = some er → (Po (vI er) LAYC (rfs lw tl tt) M) → T RX7 cX7_liarsOf 4 (some .int) 0 4 0 0 false Po 4 [aR (some p0), aR (some p1), aI x2, aI x3] [] LAYC (rfs lw tl tt) M 0 0 := by
  intro k
  induction k with
  | zero => intro x2 x3 h; cases h
  | succ k ih =>
    intro x2 x3 h hE
    obtain ⟨x, hx, hx1, hx2⟩ := loop_succ h
    exact s_X7_liarsOf_L4  lw tl tt M p0 p1 h0 h1 x2 x3 x hx (fun q0 q1 e => ih q0 q1 (hx1 _ e) hE) (fun q0 e => by cases hx2 _ e; exact hE)
set_option maxRecDepth 100000 in
set_option maxHeartbeats 4000000 in
theorem m_X7_liarsOf (lw : Nat → Option Nat) (tl : Option Nat) (tt : Option Nat) (M : Mem) (p0 : Nat) (p1 : Nat) (h0 : isX5 p0 = true) (h1 : isX1 p1 = true) (r : Int32) (h : F_X7_liarsOf M p0 p1 = some r) : Cal yX7_liarsOf cX7_liarsOf 4 (some .int) 0 4 0 0 false [vR (some p0), vR (some p1)] LAYC (rfs lw tl tt) M (eqp (vI r) LAYC (rfs lw tl tt) M) := by
  refine Cal.of (by decide +kernel) (Nat.le_of_ble_eq_true rfl) (fun h => by cases h) ?_
  unfold F_X7_liarsOf at h
  show T RX7 cX7_liarsOf 4 (some .int) 0 4 0 0 false (eqp (vI r) LAYC (rfs lw tl tt) M) 0 [aR (some p0), aR (some p1), aU, aU] [] LAYC (rfs lw tl tt) M 0 0
  refine T_iconst dX7_liarsOf_0 ic_0 ?_
  refine T_istore_n (i := 2) (L' := [aR (some p0), aR (some p1), aI 0, aU]) dX7_liarsOf_1 rfl (Nat.le_of_ble_eq_true rfl) rfl ?_
  refine T_iconst dX7_liarsOf_2 ic_0 ?_
  refine T_istore_n (i := 3) (L' := [aR (some p0), aR (some p1), aI 0, aI 0]) dX7_liarsOf_3 rfl (Nat.le_of_ble_eq_true rfl) rfl ?_
  exact l_X7_liarsOf_L4  lw tl tt M p0 p1 h0 h1 _ FU 0 0 h ⟨rfl, rfl, rfl, rfl⟩
def X7_firstLiar_L2 (M : Mem) (p0 : Nat) (p1 : Nat) : Int32 → Option ((Int32) ⊕ (Int32))
  | x2 =>
    bd1 (F_X5_size M p0) fun r_1 => if r_1 ≤ x2 then some (.inr (-9))
    else bd1 (F_X5_get M p0 x2) fun r_3 => bd1 (F_X1_depthAt M p1 r_3) fun r_5 => bd1 (F_X7_isLie M p0 x2 r_5) fun r_7 => if r_7 = 0 then lett (x2 + 3) fun x_9 => some (.inl x_9)
    else some (.inr (x2 / 3))
def F_X7_firstLiar (M : Mem) (p0 : Nat) (p1 : Nat) : Option (Int32) :=
 loop (X7_firstLiar_L2 M p0 p1) FU 0
set_option maxRecDepth 100000 in
set_option maxHeartbeats 4000000 in
theorem s_X7_firstLiar_L2 (lw : Nat → Option Nat) (tl : Option Nat) (tt : Option Nat) (M : Mem) (p0 : Nat) (p1 : Nat) (h0 : isX5 p0 = true) (h1 : isX1 p1 = true) (x2 : Int32) {Po : Po_} (x : (Int32) ⊕ (Int32)) (h : X7_firstLiar_L2 M p0 p1 x2 = some x) (hI : ∀ (ix2 : Int32), x = .inl ix2 → T RX7 cX7_firstLiar 3 (some .int) 0 4 0 0 false Po 2 [aR (some p0), aR (some p1), aI ix2] [] LAYC (rfs lw tl tt) M 0 0) (hE0 : ∀ (er : Int32), x = .inr er → Po (vI er) LAYC (rfs lw tl tt) M) : T RX7 cX7_firstLiar 3 (some .int) 0 4 0 0 false Po 2 [aR (some p0), aR (some p1), aI x2] [] LAYC (rfs lw tl tt) M 0 0 := by
  unfold X7_firstLiar_L2 at h
  simp only at h
  refine T_iload_n dX7_firstLiar_2 rfl ?_
  refine T_aload_n dX7_firstLiar_3 rfl ?_
  obtain ⟨r_1, hc_2, h⟩ := bd1_some h
  refine T_cvi (as := []) dX7_firstLiar_4 cw_X5_size ml_X7_15 mi_X5_size se_X5_size (lyX5 h0) rfl (by decide) rfl (Nat.le_of_ble_eq_true rfl) (Nat.le_of_ble_eq_true rfl) (m_X5_size lw tl tt M p0 h0 _ hc_2) ?_
  refine T_icmp_ge (tgt := 37) dX7_firstLiar_7 (by decide) (fun hc => ?_) (fun hc => ?_)
  · have h := it_pos hc h
    refine T_bipush dX7_firstLiar_37 bp_m9 ?_
    obtain rfl := sm1 h
    exact T_iret dX7_firstLiar_39 (hE0 _ rfl)
  · have h := it_neg hc h
    refine T_aload_n dX7_firstLiar_10 rfl ?_
    refine T_iload_n dX7_firstLiar_11 rfl ?_
    refine T_aload_n dX7_firstLiar_12 rfl ?_
    refine T_aload_n dX7_firstLiar_13 rfl ?_
    refine T_iload_n dX7_firstLiar_14 rfl ?_
    obtain ⟨r_3, hc_4, h⟩ := bd1_some h
    refine T_cvi (as := [vI x2]) dX7_firstLiar_15 cw_X5_get ml_X7_19 mi_X5_get se_X5_get (lyX5 h0) rfl (by decide) rfl (Nat.le_of_ble_eq_true rfl) (Nat.le_of_ble_eq_true rfl) (m_X5_get lw tl tt M p0 x2 h0 _ hc_4) ?_
    obtain ⟨r_5, hc_6, h⟩ := bd1_some h
    refine T_cvi (as := [vI r_3]) dX7_firstLiar_18 cw_X1_depthAt ml_X7_31 mi_X1_depthAt se_X1_depthAt (lyX1 h1) rfl (by decide) rfl (Nat.le_of_ble_eq_true rfl) (Nat.le_of_ble_eq_true rfl) (m_X1_depthAt lw tl tt M p1 r_3 h1 _ hc_6) ?_
    obtain ⟨r_7, hc_8, h⟩ := bd1_some h
    refine T_csi (as := [vR (some p0), vI x2, vI r_5]) dX7_firstLiar_21 cw_X7_isLie ml_X7_36 mt_X7_isLie rfl (Nat.le_of_ble_eq_true rfl) (Nat.le_of_ble_eq_true rfl) (m_X7_isLie lw tl tt M p0 x2 r_5 h0 _ hc_8) ?_
    refine T_if_eq (tgt := 31) dX7_firstLiar_24 (by decide) (fun hc => ?_) (fun hc => ?_)
    · have h := it_pos hc h
      obtain ⟨x_9, ex_10, h⟩ := lett_some h
      refine T_iinc (L' := [aR (some p0), aR (some p1), aI x_9]) dX7_firstLiar_31 rfl (ic_inc ic_3 ex_10) (Nat.le_of_ble_eq_true rfl) rfl ?_
      refine T_goto (tgt := 2) dX7_firstLiar_34 (by decide) ?_
      obtain rfl := sm1 h
      exact hI _ rfl
    · have h := it_neg hc h
      refine T_iload_n dX7_firstLiar_27 rfl ?_
      refine T_iconst dX7_firstLiar_28 ic_3 ?_
      refine T_idiv dX7_firstLiar_29 (by decide) ?_
      obtain rfl := sm1 h
      exact T_iret dX7_firstLiar_30 (hE0 _ rfl)
set_option maxRecDepth 100000 in
set_option maxHeartbeats 4000000 in
theorem l_X7_firstLiar_L2 (lw : Nat → Option Nat) (tl : Option Nat) (tt : Option Nat) (M : Mem) (p0 : Nat) (p1 : Nat) (h0 : isX5 p0 = true) (h1 : isX1 p1 = true) {Po : Po_} (er : Int32) : ∀ (k : Nat) (x2 : Int32), loop (X7_firstLiar_L2 M p0 p1) k x2 = some er → (Po (vI er) LAYC (rfs lw tl tt) M) → T RX7 cX7_firstLiar 3 (some .int) 0 4 0 0 false Po 2 [aR (some p0), aR (some p1), aI x2] [] LAYC (rfs lw tl tt) M 0 0 := by
  intro k
  induction k with
  | zero => intro x2 h; cases h
  | succ k ih =>
    intro x2 h hE
    obtain ⟨x, hx, hx1, hx2⟩ := loop_succ h
    exact s_X7_firstLiar_L2  lw tl tt M p0 p1 h0 h1 x2 x hx (fun q0 e => ih q0 (hx1 _ e) hE) (fun q0 e => by cases hx2 _ e; exact hE)
set_option maxRecDepth 100000 in
set_option maxHeartbeats 4000000 in
theorem m_X7_firstLiar (lw : Nat → Option Nat) (tl : Option Nat) (tt : Option Nat) (M : Mem) (p0 : Nat) (p1 : Nat) (h0 : isX5 p0 = true) (h1 : isX1 p1 = true) (r : Int32) (h : F_X7_firstLiar M p0 p1 = some r) : Cal yX7_firstLiar cX7_firstLiar 3 (some .int) 0 4 0 0 false [vR (some p0), vR (some p1)] LAYC (rfs lw tl tt) M (eqp (vI r) LAYC (rfs lw tl tt) M) := by
  refine Cal.of (by decide +kernel) (Nat.le_of_ble_eq_true rfl) (fun h => by cases h) ?_
  unfold F_X7_firstLiar at h
  show T RX7 cX7_firstLiar 3 (some .int) 0 4 0 0 false (eqp (vI r) LAYC (rfs lw tl tt) M) 0 [aR (some p0), aR (some p1), aU] [] LAYC (rfs lw tl tt) M 0 0
  refine T_iconst dX7_firstLiar_0 ic_0 ?_
  refine T_istore_n (i := 2) (L' := [aR (some p0), aR (some p1), aI 0]) dX7_firstLiar_1 rfl (Nat.le_of_ble_eq_true rfl) rfl ?_
  exact l_X7_firstLiar_L2  lw tl tt M p0 p1 h0 h1 _ FU 0 h ⟨rfl, rfl, rfl, rfl⟩
def X7_depthsBy_L15 (M : Mem) (p0 : Nat) (x1 : Int32) (x2 : Int32) (x3 : Int32) : Int32 × Int32 → Option ((Int32 × Int32) ⊕ (Int32))
  | (x4, x5) =>
    bd1 (F_X5_size M p0) fun r_1 => if r_1 ≤ x5 then some (.inr x4)
    else if x4 = 0 then bd1 (F_X5_get M p0 x5) fun r_3 => if r_3 = x1 then bd1 (F_X7_isLie M p0 x5 x3) fun r_7 => if r_7 = 0 then lett (x5 + 3) fun x_9 => some (.inl (0, x_9))
    else lett (x5 + 3) fun x_11 => some (.inl (1, x_11))
    else lett (x5 + 3) fun x_5 => some (.inl (0, x_5))
    else some (.inr x4)
def X7_depthsBy_L4 (M : Mem) (p0 : Nat) (x1 : Int32) : Int32 × Int32 → Option ((Int32 × Int32) ⊕ (Int32))
  | (x2, x3) =>
    if 5 < x3 then some (.inr x2)
    else bd1 (loop (X7_depthsBy_L15 M p0 x1 x2 x3) FU (0, 0)) fun x_13 => if x_13 = 0 then lett (x2 + 1) fun x_16 => lett (x3 + 1) fun x_18 => some (.inl (x_16, x_18))
    else lett (x3 + 1) fun x_14 => some (.inl (x2, x_14))
def F_X7_depthsBy (M : Mem) (p0 : Nat) (x1 : Int32) : Option (Int32) :=
 loop (X7_depthsBy_L4 M p0 x1) FU (0, 0)
set_option maxRecDepth 100000 in
set_option maxHeartbeats 4000000 in
theorem s_X7_depthsBy_L15 (lw : Nat → Option Nat) (tl : Option Nat) (tt : Option Nat) (M : Mem) (p0 : Nat) (x1 : Int32) (x2 : Int32) (x3 : Int32) (h0 : isX5 p0 = true) (x4 : Int32) (x5 : Int32) {Po : Po_} (x : (Int32 × Int32) ⊕ (Int32)) (h : X7_depthsBy_L15 M p0 x1 x2 x3 (x4, x5) = some x) (hI : ∀ (ix4 : Int32) (ix5 : Int32), x = .inl (ix4, ix5) → T RX7 cX7_depthsBy 6 (some .int) 0 4 0 0 false Po 15 [aR (some p0), aI x1, aI x2, aI x3, aI ix4, aI ix5] [] LAYC (rfs lw tl tt) M 0 0) (hE0 : ∀ (e4 : Int32), x = .inr e4 → T RX7 cX7_depthsBy 6 (some .int) 0 4 0 0 false Po 62 [aR (some p0), aI x1, aI x2, aI x3, aI e4, aU] [] LAYC (rfs lw tl tt) M 0 0) : T RX7 cX7_depthsBy 6 (some .int) 0 4 0 0 false Po 15 [aR (some p0), aI x1, aI x2, aI x3, aI x4, aI x5] [] LAYC (rfs lw tl tt) M 0 0 := by
  unfold X7_depthsBy_L15 at h
  simp only at h
  refine T_iload dX7_depthsBy_15 rfl ?_
  refine T_aload_n dX7_depthsBy_17 rfl ?_
  obtain ⟨r_1, hc_2, h⟩ := bd1_some h
  refine T_cvi (as := []) dX7_depthsBy_18 cw_X5_size ml_X7_15 mi_X5_size se_X5_size (lyX5 h0) rfl (by decide) rfl (Nat.le_of_ble_eq_true rfl) (Nat.le_of_ble_eq_true rfl) (m_X5_size lw tl tt M p0 h0 _ hc_2) ?_
  refine T_icmp_ge (tgt := 62) dX7_depthsBy_21 (by decide) (fun hc => ?_) (fun hc => ?_)
  · have h := it_pos hc h
    obtain rfl := sm1 h
    refine T_mask [true, true, true, true, true, false] rfl ?_
    exact hE0 _ rfl
  · have h := it_neg hc h
    refine T_iload dX7_depthsBy_24 rfl ?_
    refine T_if_ne (tgt := 62) dX7_depthsBy_26 (by decide) (fun hc => ?_) (fun hc => ?_)
    · have h := it_neg hc h
      obtain rfl := sm1 h
      refine T_mask [true, true, true, true, true, false] rfl ?_
      exact hE0 _ rfl
    · have h := it_pos hc h
      refine T_aload_n dX7_depthsBy_29 rfl ?_
      refine T_iload dX7_depthsBy_30 rfl ?_
      obtain ⟨r_3, hc_4, h⟩ := bd1_some h
      refine T_cvi (as := [vI x5]) dX7_depthsBy_32 cw_X5_get ml_X7_19 mi_X5_get se_X5_get (lyX5 h0) rfl (by decide) rfl (Nat.le_of_ble_eq_true rfl) (Nat.le_of_ble_eq_true rfl) (m_X5_get lw tl tt M p0 x5 h0 _ hc_4) ?_
      refine T_iload_n dX7_depthsBy_35 rfl ?_
      refine T_icmp_ne (tgt := 53) dX7_depthsBy_36 (by decide) (fun hc => ?_) (fun hc => ?_)
      · have h := it_neg hc h
        refine T_iconst dX7_depthsBy_53 ic_0 ?_
        refine T_istore (i := 4) (L' := [aR (some p0), aI x1, aI x2, aI x3, aI 0, aI x5]) dX7_depthsBy_54 (Nat.le_of_ble_eq_true rfl) rfl ?_
        obtain ⟨x_5, ex_6, h⟩ := lett_some h
        refine T_iinc (L' := [aR (some p0), aI x1, aI x2, aI x3, aI 0, aI x_5]) dX7_depthsBy_56 rfl (ic_inc ic_3 ex_6) (Nat.le_of_ble_eq_true rfl) rfl ?_
        refine T_goto (tgt := 15) dX7_depthsBy_59 (by decide) ?_
        obtain rfl := sm1 h
        exact hI _ _ rfl
      · have h := it_pos hc h
        refine T_aload_n dX7_depthsBy_39 rfl ?_
        refine T_iload dX7_depthsBy_40 rfl ?_
        refine T_iload_n dX7_depthsBy_42 rfl ?_
        obtain ⟨r_7, hc_8, h⟩ := bd1_some h
        refine T_csi (as := [vR (some p0), vI x5, vI x3]) dX7_depthsBy_43 cw_X7_isLie ml_X7_36 mt_X7_isLie rfl (Nat.le_of_ble_eq_true rfl) (Nat.le_of_ble_eq_true rfl) (m_X7_isLie lw tl tt M p0 x5 x3 h0 _ hc_8) ?_
        refine T_if_eq (tgt := 53) dX7_depthsBy_46 (by decide) (fun hc => ?_) (fun hc => ?_)
        · have h := it_pos hc h
          refine T_iconst dX7_depthsBy_53 ic_0 ?_
          refine T_istore (i := 4) (L' := [aR (some p0), aI x1, aI x2, aI x3, aI 0, aI x5]) dX7_depthsBy_54 (Nat.le_of_ble_eq_true rfl) rfl ?_
          obtain ⟨x_9, ex_10, h⟩ := lett_some h
          refine T_iinc (L' := [aR (some p0), aI x1, aI x2, aI x3, aI 0, aI x_9]) dX7_depthsBy_56 rfl (ic_inc ic_3 ex_10) (Nat.le_of_ble_eq_true rfl) rfl ?_
          refine T_goto (tgt := 15) dX7_depthsBy_59 (by decide) ?_
          obtain rfl := sm1 h
          exact hI _ _ rfl
        · have h := it_neg hc h
          refine T_iconst dX7_depthsBy_49 ic_1 ?_
          refine T_goto (tgt := 54) dX7_depthsBy_50 (by decide) ?_
          refine T_istore (i := 4) (L' := [aR (some p0), aI x1, aI x2, aI x3, aI 1, aI x5]) dX7_depthsBy_54 (Nat.le_of_ble_eq_true rfl) rfl ?_
          obtain ⟨x_11, ex_12, h⟩ := lett_some h
          refine T_iinc (L' := [aR (some p0), aI x1, aI x2, aI x3, aI 1, aI x_11]) dX7_depthsBy_56 rfl (ic_inc ic_3 ex_12) (Nat.le_of_ble_eq_true rfl) rfl ?_
          refine T_goto (tgt := 15) dX7_depthsBy_59 (by decide) ?_
          obtain rfl := sm1 h
          exact hI _ _ rfl
set_option maxRecDepth 100000 in
set_option maxHeartbeats 4000000 in
theorem l_X7_depthsBy_L15 (lw : Nat → Option Nat) (tl : Option Nat) (tt : Option Nat) (M : Mem) (p0 : Nat) (x1 : Int32) (x2 : Int32) (x3 : Int32) (h0 : isX5 p0 = true) {Po : Po_} (e4 : Int32) : ∀ (k : Nat) (x4 : Int32) (x5 : Int32), loop (X7_depthsBy_L15 M p0 x1 x2 x3) k (x4, x5) = some e4 → (T RX7 cX7_depthsBy 6 (some .int) 0 4 0 0 false Po 62 [aR (some p0), aI x1, aI x2, aI x3, aI e4, aU] [] LAYC (rfs lw tl tt) M 0 0) → T RX7 cX7_depthsBy 6 (some .int) 0 4 0 0 false Po 15 [aR (some p0), aI x1, aI x2, aI x3, aI x4, aI x5] [] LAYC (rfs lw tl tt) M 0 0 := by
  intro k
  induction k with
  | zero => intro x4 x5 h; cases h
  | succ k ih =>
    intro x4 x5 h hE
    obtain ⟨x, hx, hx1, hx2⟩ := loop_succ h
    exact s_X7_depthsBy_L15  lw tl tt M p0 x1 x2 x3 h0 x4 x5 x hx (fun q0 q1 e => ih q0 q1 (hx1 _ e) hE) (fun q0 e => by cases hx2 _ e; exact hE)
set_option maxRecDepth 100000 in
set_option maxHeartbeats 4000000 in
theorem s_X7_depthsBy_L4 (lw : Nat → Option Nat) (tl : Option Nat) (tt : Option Nat) (M : Mem) (p0 : Nat) (x1 : Int32) (h0 : isX5 p0 = true) (x2 : Int32) (x3 : Int32) {Po : Po_} (x : (Int32 × Int32) ⊕ (Int32)) (h : X7_depthsBy_L4 M p0 x1 (x2, x3) = some x) (hI : ∀ (ix2 : Int32) (ix3 : Int32), x = .inl (ix2, ix3) → T RX7 cX7_depthsBy 6 (some .int) 0 4 0 0 false Po 4 [aR (some p0), aI x1, aI ix2, aI ix3, aU, aU] [] LAYC (rfs lw tl tt) M 0 0) (hE0 : ∀ (er : Int32), x = .inr er → Po (vI er) LAYC (rfs lw tl tt) M) : T RX7 cX7_depthsBy 6 (some .int) 0 4 0 0 false Po 4 [aR (some p0), aI x1, aI x2, aI x3, aU, aU] [] LAYC (rfs lw tl tt) M 0 0 := by
  unfold X7_depthsBy_L4 at h
  simp only at h
  refine T_iload_n dX7_depthsBy_4 rfl ?_
  refine T_iconst dX7_depthsBy_5 ic_5 ?_
  refine T_icmp_gt (tgt := 76) dX7_depthsBy_6 (by decide) (fun hc => ?_) (fun hc => ?_)
  · have h := it_pos hc h
    refine T_iload_n dX7_depthsBy_76 rfl ?_
    obtain rfl := sm1 h
    exact T_iret dX7_depthsBy_77 (hE0 _ rfl)
  · have h := it_neg hc h
    refine T_iconst dX7_depthsBy_9 ic_0 ?_
    refine T_istore (i := 4) (L' := [aR (some p0), aI x1, aI x2, aI x3, aI 0, aU]) dX7_depthsBy_10 (Nat.le_of_ble_eq_true rfl) rfl ?_
    refine T_iconst dX7_depthsBy_12 ic_0 ?_
    refine T_istore (i := 5) (L' := [aR (some p0), aI x1, aI x2, aI x3, aI 0, aI 0]) dX7_depthsBy_13 (Nat.le_of_ble_eq_true rfl) rfl ?_
    obtain ⟨x_13, hl, h⟩ := bd1_some h
    refine l_X7_depthsBy_L15  lw tl tt M p0 x1 x2 x3 h0 _ FU 0 0 hl ?_
    refine T_iload dX7_depthsBy_62 rfl ?_
    refine T_if_ne (tgt := 70) dX7_depthsBy_64 (by decide) (fun hc => ?_) (fun hc => ?_)
    · have h := it_neg hc h
      obtain ⟨x_14, ex_15, h⟩ := lett_some h
      refine T_iinc (L' := [aR (some p0), aI x1, aI x2, aI x_14, aI x_13, aU]) dX7_depthsBy_70 rfl (ic_inc ic_1 ex_15) (Nat.le_of_ble_eq_true rfl) rfl ?_
      refine T_goto (tgt := 4) dX7_depthsBy_73 (by decide) ?_
      obtain rfl := sm1 h
      refine T_mask [true, true, true, true, false, true] rfl ?_
      exact hI _ _ rfl
    · have h := it_pos hc h
      obtain ⟨x_16, ex_17, h⟩ := lett_some h
      refine T_iinc (L' := [aR (some p0), aI x1, aI x_16, aI x3, aI x_13, aU]) dX7_depthsBy_67 rfl (ic_inc ic_1 ex_17) (Nat.le_of_ble_eq_true rfl) rfl ?_
      obtain ⟨x_18, ex_19, h⟩ := lett_some h
      refine T_iinc (L' := [aR (some p0), aI x1, aI x_16, aI x_18, aI x_13, aU]) dX7_depthsBy_70 rfl (ic_inc ic_1 ex_19) (Nat.le_of_ble_eq_true rfl) rfl ?_
      refine T_goto (tgt := 4) dX7_depthsBy_73 (by decide) ?_
      obtain rfl := sm1 h
      refine T_mask [true, true, true, true, false, true] rfl ?_
      exact hI _ _ rfl
set_option maxRecDepth 100000 in
set_option maxHeartbeats 4000000 in
theorem l_X7_depthsBy_L4 (lw : Nat → Option Nat) (tl : Option Nat) (tt : Option Nat) (M : Mem) (p0 : Nat) (x1 : Int32) (h0 : isX5 p0 = true) {Po : Po_} (er : Int32) : ∀ (k : Nat) (x2 : Int32) (x3 : Int32), loop (X7_depthsBy_L4 M p0 x1) k (x2, x3) = some er → (Po (vI er) LAYC (rfs lw tl tt) M) → T RX7 cX7_depthsBy 6 (some .int) 0 4 0 0 false Po 4 [aR (some p0), aI x1, aI x2, aI x3, aU, aU] [] LAYC (rfs lw tl tt) M 0 0 := by
  intro k
  induction k with
  | zero => intro x2 x3 h; cases h
  | succ k ih =>
    intro x2 x3 h hE
    obtain ⟨x, hx, hx1, hx2⟩ := loop_succ h
    exact s_X7_depthsBy_L4  lw tl tt M p0 x1 h0 x2 x3 x hx (fun q0 q1 e => ih q0 q1 (hx1 _ e) hE) (fun q0 e => by cases hx2 _ e; exact hE)
set_option maxRecDepth 100000 in
set_option maxHeartbeats 4000000 in
theorem m_X7_depthsBy (lw : Nat → Option Nat) (tl : Option Nat) (tt : Option Nat) (M : Mem) (p0 : Nat) (x1 : Int32) (h0 : isX5 p0 = true) (r : Int32) (h : F_X7_depthsBy M p0 x1 = some r) : Cal yX7_depthsBy cX7_depthsBy 6 (some .int) 0 4 0 0 false [vR (some p0), vI x1] LAYC (rfs lw tl tt) M (eqp (vI r) LAYC (rfs lw tl tt) M) := by
  refine Cal.of (by decide +kernel) (Nat.le_of_ble_eq_true rfl) (fun h => by cases h) ?_
  unfold F_X7_depthsBy at h
  show T RX7 cX7_depthsBy 6 (some .int) 0 4 0 0 false (eqp (vI r) LAYC (rfs lw tl tt) M) 0 [aR (some p0), aI x1, aU, aU, aU, aU] [] LAYC (rfs lw tl tt) M 0 0
  refine T_iconst dX7_depthsBy_0 ic_0 ?_
  refine T_istore_n (i := 2) (L' := [aR (some p0), aI x1, aI 0, aU, aU, aU]) dX7_depthsBy_1 rfl (Nat.le_of_ble_eq_true rfl) rfl ?_
  refine T_iconst dX7_depthsBy_2 ic_0 ?_
  refine T_istore_n (i := 3) (L' := [aR (some p0), aI x1, aI 0, aI 0, aU, aU]) dX7_depthsBy_3 rfl (Nat.le_of_ble_eq_true rfl) rfl ?_
  exact l_X7_depthsBy_L4  lw tl tt M p0 x1 h0 _ FU 0 0 h ⟨rfl, rfl, rfl, rfl⟩
def X7_speaksOf_L2 (M : Mem) (p0 : Nat) (x1 : Int32) : Int32 → Option ((Int32) ⊕ (Int32))
  | x2 =>
    bd1 (F_X5_size M p0) fun r_1 => if r_1 ≤ x2 then some (.inr 0)
    else bd1 (F_X5_get M p0 x2) fun r_3 => if r_3 = x1 then some (.inr 1)
    else lett (x2 + 3) fun x_5 => some (.inl x_5)
def F_X7_speaksOf (M : Mem) (p0 : Nat) (x1 : Int32) : Option (Int32) :=
 loop (X7_speaksOf_L2 M p0 x1) FU 0
set_option maxRecDepth 100000 in
set_option maxHeartbeats 4000000 in
theorem s_X7_speaksOf_L2 (lw : Nat → Option Nat) (tl : Option Nat) (tt : Option Nat) (M : Mem) (p0 : Nat) (x1 : Int32) (h0 : isX5 p0 = true) (x2 : Int32) {Po : Po_} (x : (Int32) ⊕ (Int32)) (h : X7_speaksOf_L2 M p0 x1 x2 = some x) (hI : ∀ (ix2 : Int32), x = .inl ix2 → T RX7 cX7_speaksOf 3 (some .boolean) 0 3 0 0 false Po 2 [aR (some p0), aI x1, aI ix2] [] LAYC (rfs lw tl tt) M 0 0) (hE0 : ∀ (er : Int32), x = .inr er → Po (vI er) LAYC (rfs lw tl tt) M) : T RX7 cX7_speaksOf 3 (some .boolean) 0 3 0 0 false Po 2 [aR (some p0), aI x1, aI x2] [] LAYC (rfs lw tl tt) M 0 0 := by
  unfold X7_speaksOf_L2 at h
  simp only at h
  refine T_iload_n dX7_speaksOf_2 rfl ?_
  refine T_aload_n dX7_speaksOf_3 rfl ?_
  obtain ⟨r_1, hc_2, h⟩ := bd1_some h
  refine T_cvi (as := []) dX7_speaksOf_4 cw_X5_size ml_X7_15 mi_X5_size se_X5_size (lyX5 h0) rfl (by decide) rfl (Nat.le_of_ble_eq_true rfl) (Nat.le_of_ble_eq_true rfl) (m_X5_size lw tl tt M p0 h0 _ hc_2) ?_
  refine T_icmp_ge (tgt := 27) dX7_speaksOf_7 (by decide) (fun hc => ?_) (fun hc => ?_)
  · have h := it_pos hc h
    refine T_iconst dX7_speaksOf_27 ic_0 ?_
    obtain rfl := sm1 h
    exact T_zret dX7_speaksOf_28 (Or.inl rfl) (hE0 _ rfl)
  · have h := it_neg hc h
    refine T_aload_n dX7_speaksOf_10 rfl ?_
    refine T_iload_n dX7_speaksOf_11 rfl ?_
    obtain ⟨r_3, hc_4, h⟩ := bd1_some h
    refine T_cvi (as := [vI x2]) dX7_speaksOf_12 cw_X5_get ml_X7_19 mi_X5_get se_X5_get (lyX5 h0) rfl (by decide) rfl (Nat.le_of_ble_eq_true rfl) (Nat.le_of_ble_eq_true rfl) (m_X5_get lw tl tt M p0 x2 h0 _ hc_4) ?_
    refine T_iload_n dX7_speaksOf_15 rfl ?_
    refine T_icmp_ne (tgt := 21) dX7_speaksOf_16 (by decide) (fun hc => ?_) (fun hc => ?_)
    · have h := it_neg hc h
      obtain ⟨x_5, ex_6, h⟩ := lett_some h
      refine T_iinc (L' := [aR (some p0), aI x1, aI x_5]) dX7_speaksOf_21 rfl (ic_inc ic_3 ex_6) (Nat.le_of_ble_eq_true rfl) rfl ?_
      refine T_goto (tgt := 2) dX7_speaksOf_24 (by decide) ?_
      obtain rfl := sm1 h
      exact hI _ rfl
    · have h := it_pos hc h
      refine T_iconst dX7_speaksOf_19 ic_1 ?_
      obtain rfl := sm1 h
      exact T_zret dX7_speaksOf_20 (Or.inr rfl) (hE0 _ rfl)
set_option maxRecDepth 100000 in
set_option maxHeartbeats 4000000 in
theorem l_X7_speaksOf_L2 (lw : Nat → Option Nat) (tl : Option Nat) (tt : Option Nat) (M : Mem) (p0 : Nat) (x1 : Int32) (h0 : isX5 p0 = true) {Po : Po_} (er : Int32) : ∀ (k : Nat) (x2 : Int32), loop (X7_speaksOf_L2 M p0 x1) k x2 = some er → (Po (vI er) LAYC (rfs lw tl tt) M) → T RX7 cX7_speaksOf 3 (some .boolean) 0 3 0 0 false Po 2 [aR (some p0), aI x1, aI x2] [] LAYC (rfs lw tl tt) M 0 0 := by
  intro k
  induction k with
  | zero => intro x2 h; cases h
  | succ k ih =>
    intro x2 h hE
    obtain ⟨x, hx, hx1, hx2⟩ := loop_succ h
    exact s_X7_speaksOf_L2  lw tl tt M p0 x1 h0 x2 x hx (fun q0 e => ih q0 (hx1 _ e) hE) (fun q0 e => by cases hx2 _ e; exact hE)
set_option maxRecDepth 100000 in
set_option maxHeartbeats 4000000 in
theorem m_X7_speaksOf (lw : Nat → Option Nat) (tl : Option Nat) (tt : Option Nat) (M : Mem) (p0 : Nat) (x1 : Int32) (h0 : isX5 p0 = true) (r : Int32) (h : F_X7_speaksOf M p0 x1 = some r) : Cal yX7_speaksOf cX7_speaksOf 3 (some .boolean) 0 3 0 0 false [vR (some p0), vI x1] LAYC (rfs lw tl tt) M (eqp (vI r) LAYC (rfs lw tl tt) M) := by
  refine Cal.of (by decide +kernel) (Nat.le_of_ble_eq_true rfl) (fun h => by cases h) ?_
  unfold F_X7_speaksOf at h
  show T RX7 cX7_speaksOf 3 (some .boolean) 0 3 0 0 false (eqp (vI r) LAYC (rfs lw tl tt) M) 0 [aR (some p0), aI x1, aU] [] LAYC (rfs lw tl tt) M 0 0
  refine T_iconst dX7_speaksOf_0 ic_0 ?_
  refine T_istore_n (i := 2) (L' := [aR (some p0), aI x1, aI 0]) dX7_speaksOf_1 rfl (Nat.le_of_ble_eq_true rfl) rfl ?_
  exact l_X7_speaksOf_L2  lw tl tt M p0 x1 h0 _ FU 0 h ⟨rfl, rfl, rfl, rfl⟩
def X7_groundsBy_L5 (M : Mem) (p0 : Nat) : Int64 × Int32 → Option ((Int64 × Int32) ⊕ (Int64))
  | (x2, x4) =>
    if (gI M 7 0) ≤ x4 then some (.inr x2)
    else bd1 (F_X7_speaksOf M p0 x4) fun r_1 => if r_1 = 0 then lett (x4 + 1) fun x_3 => some (.inl (x2, x_3))
    else bd1 (F_X7_depthsBy M p0 x4) fun r_5 => lett (x2 * r_5.toInt64) fun x_7 => lett (x4 + 1) fun x_9 => some (.inl (x_7, x_9))
def F_X7_groundsBy (M : Mem) (p0 : Nat) : Option (Int64) :=
 loop (X7_groundsBy_L5 M p0) FU (1, 0)
set_option maxRecDepth 100000 in
set_option maxHeartbeats 4000000 in
theorem s_X7_groundsBy_L5 (lw : Nat → Option Nat) (tl : Option Nat) (tt : Option Nat) (M : Mem) (p0 : Nat) (h0 : isX5 p0 = true) (x2 : Int64) (x4 : Int32) {Po : Po_} (x : (Int64 × Int32) ⊕ (Int64)) (h : X7_groundsBy_L5 M p0 (x2, x4) = some x) (hI : ∀ (ix2 : Int64) (ix4 : Int32), x = .inl (ix2, ix4) → T RX7 cX7_groundsBy 5 (some .long) 1 5 0 0 false Po 5 [aR (some p0), aR (some 7), aJ ix2, aU, aI ix4] [] LAYC (rfs lw tl tt) M 0 0) (hE0 : ∀ (er : Int64), x = .inr er → Po (vJ er) LAYC (rfs lw tl tt) M) : T RX7 cX7_groundsBy 5 (some .long) 1 5 0 0 false Po 5 [aR (some p0), aR (some 7), aJ x2, aU, aI x4] [] LAYC (rfs lw tl tt) M 0 0 := by
  unfold X7_groundsBy_L5 at h
  simp only at h
  refine T_iload dX7_groundsBy_5 rfl ?_
  refine T_aload_n dX7_groundsBy_7 rfl ?_
  refine T_getI dX7_groundsBy_8 clOK_X2 fl_X7_40 lyC_7 rfl ?_
  refine T_icmp_ge (tgt := 39) dX7_groundsBy_11 (by decide) (fun hc => ?_) (fun hc => ?_)
  · have h := it_pos hc h
    refine T_lload_n dX7_groundsBy_39 rfl ?_
    obtain rfl := sm1 h
    exact T_lret dX7_groundsBy_40 (hE0 _ rfl)
  · have h := it_neg hc h
    refine T_aload_n dX7_groundsBy_14 rfl ?_
    refine T_iload dX7_groundsBy_15 rfl ?_
    obtain ⟨r_1, hc_2, h⟩ := bd1_some h
    refine T_csi (as := [vR (some p0), vI x4]) dX7_groundsBy_17 cw_X7_speaksOf ml_X7_44 mt_X7_speaksOf rfl (Nat.le_of_ble_eq_true rfl) (Nat.le_of_ble_eq_true rfl) (m_X7_speaksOf lw tl tt M p0 x4 h0 _ hc_2) ?_
    refine T_if_eq (tgt := 33) dX7_groundsBy_20 (by decide) (fun hc => ?_) (fun hc => ?_)
    · have h := it_pos hc h
      obtain ⟨x_3, ex_4, h⟩ := lett_some h
      refine T_iinc (L' := [aR (some p0), aR (some 7), aJ x2, aU, aI x_3]) dX7_groundsBy_33 rfl (ic_inc ic_1 ex_4) (Nat.le_of_ble_eq_true rfl) rfl ?_
      refine T_goto (tgt := 5) dX7_groundsBy_36 (by decide) ?_
      obtain rfl := sm1 h
      exact hI _ _ rfl
    · have h := it_neg hc h
      refine T_lload_n dX7_groundsBy_23 rfl ?_
      refine T_aload_n dX7_groundsBy_24 rfl ?_
      refine T_iload dX7_groundsBy_25 rfl ?_
      obtain ⟨r_5, hc_6, h⟩ := bd1_some h
      refine T_csi (as := [vR (some p0), vI x4]) dX7_groundsBy_27 cw_X7_depthsBy ml_X7_48 mt_X7_depthsBy rfl (Nat.le_of_ble_eq_true rfl) (Nat.le_of_ble_eq_true rfl) (m_X7_depthsBy lw tl tt M p0 x4 h0 _ hc_6) ?_
      refine T_i2l dX7_groundsBy_30 ?_
      refine T_lmul dX7_groundsBy_31 ?_
      obtain ⟨x_7, ex_8, h⟩ := lett_some h
      refine T_topJ ex_8 ?_
      refine T_lstore_n (i := 2) (L' := [aR (some p0), aR (some 7), aJ x_7, aU, aI x4]) dX7_groundsBy_32 rfl (Nat.le_of_ble_eq_true rfl) rfl ?_
      obtain ⟨x_9, ex_10, h⟩ := lett_some h
      refine T_iinc (L' := [aR (some p0), aR (some 7), aJ x_7, aU, aI x_9]) dX7_groundsBy_33 rfl (ic_inc ic_1 ex_10) (Nat.le_of_ble_eq_true rfl) rfl ?_
      refine T_goto (tgt := 5) dX7_groundsBy_36 (by decide) ?_
      obtain rfl := sm1 h
      exact hI _ _ rfl
set_option maxRecDepth 100000 in
set_option maxHeartbeats 4000000 in
theorem l_X7_groundsBy_L5 (lw : Nat → Option Nat) (tl : Option Nat) (tt : Option Nat) (M : Mem) (p0 : Nat) (h0 : isX5 p0 = true) {Po : Po_} (er : Int64) : ∀ (k : Nat) (x2 : Int64) (x4 : Int32), loop (X7_groundsBy_L5 M p0) k (x2, x4) = some er → (Po (vJ er) LAYC (rfs lw tl tt) M) → T RX7 cX7_groundsBy 5 (some .long) 1 5 0 0 false Po 5 [aR (some p0), aR (some 7), aJ x2, aU, aI x4] [] LAYC (rfs lw tl tt) M 0 0 := by
  intro k
  induction k with
  | zero => intro x2 x4 h; cases h
  | succ k ih =>
    intro x2 x4 h hE
    obtain ⟨x, hx, hx1, hx2⟩ := loop_succ h
    exact s_X7_groundsBy_L5  lw tl tt M p0 h0 x2 x4 x hx (fun q0 q1 e => ih q0 q1 (hx1 _ e) hE) (fun q0 e => by cases hx2 _ e; exact hE)
set_option maxRecDepth 100000 in
set_option maxHeartbeats 4000000 in
theorem m_X7_groundsBy (lw : Nat → Option Nat) (tl : Option Nat) (tt : Option Nat) (M : Mem) (p0 : Nat) (h0 : isX5 p0 = true) (r : Int64) (h : F_X7_groundsBy M p0 = some r) : Cal yX7_groundsBy cX7_groundsBy 5 (some .long) 1 5 0 0 false [vR (some p0), vR (some 7)] LAYC (rfs lw tl tt) M (eqp (vJ r) LAYC (rfs lw tl tt) M) := by
  refine Cal.of (by decide +kernel) (Nat.le_of_ble_eq_true rfl) (fun h => by cases h) ?_
  unfold F_X7_groundsBy at h
  show T RX7 cX7_groundsBy 5 (some .long) 1 5 0 0 false (eqp (vJ r) LAYC (rfs lw tl tt) M) 0 [aR (some p0), aR (some 7), aU, aU, aU] [] LAYC (rfs lw tl tt) M 0 0
  refine T_lconst dX7_groundsBy_0 lc_1 ?_
  refine T_lstore_n (i := 2) (L' := [aR (some p0), aR (some 7), aJ 1, aU, aU]) dX7_groundsBy_1 rfl (Nat.le_of_ble_eq_true rfl) rfl ?_
  refine T_iconst dX7_groundsBy_2 ic_0 ?_
  refine T_istore (i := 4) (L' := [aR (some p0), aR (some 7), aJ 1, aU, aI 0]) dX7_groundsBy_3 (Nat.le_of_ble_eq_true rfl) rfl ?_
  exact l_X7_groundsBy_L5  lw tl tt M p0 h0 _ FU 1 0 h ⟨rfl, rfl, rfl, rfl⟩
def F_X8_found (M : Mem) (x1 : Int32) : Option (Int32 × Mem) :=
 if x1 < 1 then some ((-3), M)
 else if 6 ≤ x1 then some ((-3), M)
 else lett (sI M 0 15 x1) fun M_1 => chk (inb x1 6 = true) (chk (inb x1 6 = true) (lett (sI M_1 25 x1.toNatClampNeg ((gI M_1 25 x1.toNatClampNeg) + 1)) fun M_4 => some ((-3), M_4)))
set_option maxRecDepth 100000 in
set_option maxHeartbeats 4000000 in
theorem m_X8_found (lw : Nat → Option Nat) (tl : Option Nat) (tt : Option Nat) (M : Mem) (x1 : Int32) (r : Int32) (M' : Mem) (h : F_X8_found M x1 = some (r, M')) : Cal yX8_found cX8_found 2 (some .int) 0 1 0 0 false [vR (some 0), vI x1] LAYC (rfs lw tl tt) M (eqp (vI r) LAYC (rfs lw tl tt) M') := by
  refine Cal.of (by decide +kernel) (Nat.le_of_ble_eq_true rfl) (fun h => by cases h) ?_
  unfold F_X8_found at h
  show T RX8 cX8_found 2 (some .int) 0 1 0 0 false (eqp (vI r) LAYC (rfs lw tl tt) M') 0 [aR (some 0), aI x1] [] LAYC (rfs lw tl tt) M 0 0
  refine T_iload_n dX8_found_0 rfl ?_
  refine T_iconst dX8_found_1 ic_1 ?_
  refine T_icmp_lt (tgt := 29) dX8_found_2 (by decide) (fun hc => ?_) (fun hc => ?_)
  · have h := it_pos hc h
    refine T_bipush dX8_found_29 bp_m3 ?_
    obtain ⟨rfl, rfl⟩ := sm2 h
    exact T_iret dX8_found_31 ⟨rfl, rfl, rfl, rfl⟩
  · have h := it_neg hc h
    refine T_iload_n dX8_found_5 rfl ?_
    refine T_aload_n dX8_found_6 rfl ?_
    refine T_getR dX8_found_7 clOK_X8 fl_X8_79 lyC_0 rfl rfl ?_
    refine T_alen dX8_found_10 lyC_25 (Or.inl rfl) rfl ?_
    refine T_icmp_ge (tgt := 29) dX8_found_11 (by decide) (fun hc => ?_) (fun hc => ?_)
    · have h := it_pos hc h
      refine T_bipush dX8_found_29 bp_m3 ?_
      obtain ⟨rfl, rfl⟩ := sm2 h
      exact T_iret dX8_found_31 ⟨rfl, rfl, rfl, rfl⟩
    · have h := it_neg hc h
      refine T_aload_n dX8_found_14 rfl ?_
      refine T_iload_n dX8_found_15 rfl ?_
      obtain ⟨M_1, eM_2, h⟩ := lett_some h
      refine T_putI dX8_found_16 clOK_X8 fl_X8_345 (Or.inl rfl) lyC_0 rfl rfl eM_2 ?_
      refine T_aload_n dX8_found_19 rfl ?_
      refine T_getR dX8_found_20 clOK_X8 fl_X8_79 lyC_0 rfl rfl ?_
      refine T_iload_n dX8_found_23 rfl ?_
      refine T_dup2_11 dX8_found_24 rfl rfl ?_
      obtain ⟨hi_3, h⟩ := chk_some h
      refine T_iald dX8_found_25 lyC_25 (inb_in hi_3) ?_
      refine T_iconst dX8_found_26 ic_1 ?_
      refine T_iadd dX8_found_27 ?_
      obtain ⟨hi_6, h⟩ := chk_some h
      obtain ⟨M_4, eM_5, h⟩ := lett_some h
      refine T_iast dX8_found_28 lyC_25 (inb_in hi_6) eM_5 ?_
      refine T_bipush dX8_found_29 bp_m3 ?_
      obtain ⟨rfl, rfl⟩ := sm2 h
      exact T_iret dX8_found_31 ⟨rfl, rfl, rfl, rfl⟩
def F_X8_comeAnew (M : Mem) (o1 : Option Nat) (x2 : Int32) (x3 : Int32) : Option (Int32 × Mem) :=
 oc o1 (some ((-1), M))
 (fun q_1 => chk (isX5 q_1 = true) (bd1 (F_X5_most q_1) fun r_3 => if x2 ≤ r_3 then if 0 ≤ x2 then bd1 (F_X5_renew M q_1 x2 x3) fun M_5 => some (x2, M_5)
 else bd2 (F_X8_found M 5) fun r_7 M_8 => some (r_7, M_8)
 else some ((-1), M)))
set_option maxRecDepth 100000 in
set_option maxHeartbeats 4000000 in
theorem m_X8_comeAnew (lw : Nat → Option Nat) (tl : Option Nat) (tt : Option Nat) (M : Mem) (o1 : Option Nat) (x2 : Int32) (x3 : Int32) (r : Int32) (M' : Mem) (h : F_X8_comeAnew M o1 x2 x3 = some (r, M')) : Cal yX8_comeAnew cX8_comeAnew 4 (some .int) 0 3 0 0 false [vR (some 0), vR o1, vI x2, vI x3] LAYC (rfs lw tl tt) M (eqp (vI r) LAYC (rfs lw tl tt) M') := by
  refine Cal.of (by decide +kernel) (Nat.le_of_ble_eq_true rfl) (fun h => by cases h) ?_
  unfold F_X8_comeAnew at h
  show T RX8 cX8_comeAnew 4 (some .int) 0 3 0 0 false (eqp (vI r) LAYC (rfs lw tl tt) M') 0 [aR (some 0), aR o1, aI x2, aI x3] [] LAYC (rfs lw tl tt) M 0 0
  refine T_aload_n dX8_comeAnew_0 rfl ?_
  cases o1 with
  | none =>
    have h := oc_none h
    refine T_ifnull0 (tgt := 12) dX8_comeAnew_1 (by decide) ?_
    refine T_iconst dX8_comeAnew_12 ic_m1 ?_
    obtain ⟨rfl, rfl⟩ := sm2 h
    exact T_iret dX8_comeAnew_13 ⟨rfl, rfl, rfl, rfl⟩
  | some q_1 =>
    have h := oc_some h
    refine T_ifnull1 dX8_comeAnew_1 ?_
    refine T_iload_n dX8_comeAnew_4 rfl ?_
    refine T_aload_n dX8_comeAnew_5 rfl ?_
    obtain ⟨hf_2, h⟩ := chk_some h
    obtain ⟨r_3, hc_4, h⟩ := bd1_some h
    refine T_cvi (as := []) dX8_comeAnew_6 cw_X5_most ml_X8_364 mi_X5_most se_X5_most (lyX5 hf_2) rfl (by decide) rfl (Nat.le_of_ble_eq_true rfl) (Nat.le_of_ble_eq_true rfl) (m_X5_most lw tl tt M q_1 hf_2 _ hc_4) ?_
    refine T_icmp_le (tgt := 14) dX8_comeAnew_9 (by decide) (fun hc => ?_) (fun hc => ?_)
    · have h := it_pos hc h
      refine T_iload_n dX8_comeAnew_14 rfl ?_
      refine T_if_ge (tgt := 24) dX8_comeAnew_15 (by decide) (fun hc => ?_) (fun hc => ?_)
      · have h := it_pos hc h
        refine T_aload_n dX8_comeAnew_24 rfl ?_
        refine T_iload_n dX8_comeAnew_25 rfl ?_
        refine T_iload_n dX8_comeAnew_26 rfl ?_
        obtain ⟨M_5, hc_6, h⟩ := bd1_some h
        refine T_cvv (as := [vI x2, vI x3]) dX8_comeAnew_27 cw_X5_renew ml_X8_297 mi_X5_renew se_X5_renew (lyX5 hf_2) rfl (by decide) rfl (Nat.le_of_ble_eq_true rfl) (Nat.le_of_ble_eq_true rfl) (m_X5_renew lw tl tt M q_1 x2 x3 hf_2 _ hc_6) ?_
        refine T_iload_n dX8_comeAnew_30 rfl ?_
        obtain ⟨rfl, rfl⟩ := sm2 h
        exact T_iret dX8_comeAnew_31 ⟨rfl, rfl, rfl, rfl⟩
      · have h := it_neg hc h
        refine T_aload_n dX8_comeAnew_18 rfl ?_
        refine T_iconst dX8_comeAnew_19 ic_5 ?_
        obtain ⟨r_7, M_8, hc_9, h⟩ := bd2_some h
        refine T_cvi (as := [vI 5]) dX8_comeAnew_20 cw_X8_found ml_X8_100 mi_X8_found se_X8_found lyC_0 rfl (by decide) rfl (Nat.le_of_ble_eq_true rfl) (Nat.le_of_ble_eq_true rfl) (m_X8_found lw tl tt M 5  _ _ hc_9) ?_
        obtain ⟨rfl, rfl⟩ := sm2 h
        exact T_iret dX8_comeAnew_23 ⟨rfl, rfl, rfl, rfl⟩
    · have h := it_neg hc h
      refine T_iconst dX8_comeAnew_12 ic_m1 ?_
      obtain ⟨rfl, rfl⟩ := sm2 h
      exact T_iret dX8_comeAnew_13 ⟨rfl, rfl, rfl, rfl⟩
def F_X8_rowOf (x1 : Int32) : Option (Option Nat) :=
 if x1 < 0 then some none
 else if 6 ≤ x1 then some none
 else chk (inb x1 6 = true) (lett (finC 1 x1.toNatClampNeg) fun o_2 => some o_2)
set_option maxRecDepth 100000 in
set_option maxHeartbeats 4000000 in
theorem m_X8_rowOf (lw : Nat → Option Nat) (tl : Option Nat) (tt : Option Nat) (M : Mem) (x1 : Int32) (r : Option Nat) (h : F_X8_rowOf x1 = some r) : Cal yX8_rowOf cX8_rowOf 2 (some (.object "HoleMoved$Strip")) 3 1 0 0 false [vR (some 0), vI x1] LAYC (rfs lw tl tt) M (eqp (vR r) LAYC (rfs lw tl tt) M) := by
  refine Cal.of (by decide +kernel) (Nat.le_of_ble_eq_true rfl) (fun h => by cases h) ?_
  unfold F_X8_rowOf at h
  show T RX8 cX8_rowOf 2 (some (.object "HoleMoved$Strip")) 3 1 0 0 false (eqp (vR r) LAYC (rfs lw tl tt) M) 0 [aR (some 0), aI x1] [] LAYC (rfs lw tl tt) M 0 0
  refine T_iload_n dX8_rowOf_0 rfl ?_
  refine T_if_lt (tgt := 22) dX8_rowOf_1 (by decide) (fun hc => ?_) (fun hc => ?_)
  · have h := it_pos hc h
    refine T_null dX8_rowOf_22 ?_
    obtain rfl := sm1 h
    exact T_aret dX8_rowOf_23 ⟨rfl, rfl, rfl, rfl⟩
  · have h := it_neg hc h
    refine T_iload_n dX8_rowOf_4 rfl ?_
    refine T_aload_n dX8_rowOf_5 rfl ?_
    refine T_getR dX8_rowOf_6 clOK_X8 fl_X8_11 lyC_0 rfl rfl ?_
    refine T_alen dX8_rowOf_9 lyC_1 (Or.inr (Or.inr (Or.inr (Or.inr rfl)))) rfl ?_
    refine T_icmp_ge (tgt := 22) dX8_rowOf_10 (by decide) (fun hc => ?_) (fun hc => ?_)
    · have h := it_pos hc h
      refine T_null dX8_rowOf_22 ?_
      obtain rfl := sm1 h
      exact T_aret dX8_rowOf_23 ⟨rfl, rfl, rfl, rfl⟩
    · have h := it_neg hc h
      refine T_aload_n dX8_rowOf_13 rfl ?_
      refine T_getR dX8_rowOf_14 clOK_X8 fl_X8_11 lyC_0 rfl rfl ?_
      refine T_iload_n dX8_rowOf_17 rfl ?_
      obtain ⟨hi_1, h⟩ := chk_some h
      obtain ⟨o_2, eo_3, h⟩ := lett_some h
      refine T_aald dX8_rowOf_18 lyC_1 (Or.inr (Or.inr rfl)) (inb_in hi_1) (Eq.symm eo_3) ?_
      refine T_goto (tgt := 23) dX8_rowOf_19 (by decide) ?_
      obtain rfl := sm1 h
      exact T_aret dX8_rowOf_23 ⟨rfl, rfl, rfl, rfl⟩
def F_X8_row (M : Mem) (x1 : Int32) (x2 : Int32) : Option (Int32 × Mem) :=
 bd1 (F_X8_rowOf x1) fun o_1 => bd2 (F_X8_comeAnew M o_1 x2 0) fun r_3 M_4 => some (r_3, M_4)
set_option maxRecDepth 100000 in
set_option maxHeartbeats 4000000 in
theorem m_X8_row (lw : Nat → Option Nat) (tl : Option Nat) (tt : Option Nat) (M : Mem) (x1 : Int32) (x2 : Int32) (r : Int32) (M' : Mem) (h : F_X8_row M x1 x2 = some (r, M')) : Cal yX8_row cX8_row 3 (some .int) 0 4 0 0 false [vR (some 0), vI x1, vI x2] LAYC (rfs lw tl tt) M (eqp (vI r) LAYC (rfs lw tl tt) M') := by
  refine Cal.of (by decide +kernel) (Nat.le_of_ble_eq_true rfl) (fun h => by cases h) ?_
  unfold F_X8_row at h
  show T RX8 cX8_row 3 (some .int) 0 4 0 0 false (eqp (vI r) LAYC (rfs lw tl tt) M') 0 [aR (some 0), aI x1, aI x2] [] LAYC (rfs lw tl tt) M 0 0
  refine T_aload_n dX8_row_0 rfl ?_
  refine T_aload_n dX8_row_1 rfl ?_
  refine T_iload_n dX8_row_2 rfl ?_
  obtain ⟨o_1, hc_2, h⟩ := bd1_some h
  refine T_cvq (as := [vI x1]) dX8_row_3 cw_X8_rowOf ml_X8_88 mi_X8_rowOf se_X8_rowOf lyC_0 rfl (by decide) rfl (Nat.le_of_ble_eq_true rfl) (Nat.le_of_ble_eq_true rfl) (m_X8_rowOf lw tl tt M x1  _ hc_2) ?_
  refine T_iload_n dX8_row_6 rfl ?_
  refine T_iconst dX8_row_7 ic_0 ?_
  obtain ⟨r_3, M_4, hc_5, h⟩ := bd2_some h
  refine T_cvi (as := [vR o_1, vI x2, vI 0]) dX8_row_8 cw_X8_comeAnew ml_X8_92 mi_X8_comeAnew se_X8_comeAnew lyC_0 rfl (by decide) rfl (Nat.le_of_ble_eq_true rfl) (Nat.le_of_ble_eq_true rfl) (m_X8_comeAnew lw tl tt M o_1 x2 0  _ _ hc_5) ?_
  obtain ⟨rfl, rfl⟩ := sm2 h
  exact T_iret dX8_row_11 ⟨rfl, rfl, rfl, rfl⟩
def F_X8_wrongPlace (M : Mem) (p0 : Nat) (x1 : Int32) : Option (Int32) :=
 bd1 (F_X5_isMissing M p0) fun r_1 => if r_1 = 0 then bd1 (F_X5_has M p0 x1) fun r_3 => if r_3 = 0 then some 2
 else some 0
 else some 1
set_option maxRecDepth 100000 in
set_option maxHeartbeats 4000000 in
theorem m_X8_wrongPlace (lw : Nat → Option Nat) (tl : Option Nat) (tt : Option Nat) (M : Mem) (p0 : Nat) (x1 : Int32) (h0 : isX5 p0 = true) (r : Int32) (h : F_X8_wrongPlace M p0 x1 = some r) : Cal yX8_wrongPlace cX8_wrongPlace 2 (some .int) 0 2 0 0 false [vR (some p0), vI x1] LAYC (rfs lw tl tt) M (eqp (vI r) LAYC (rfs lw tl tt) M) := by
  refine Cal.of (by decide +kernel) (Nat.le_of_ble_eq_true rfl) (fun h => by cases h) ?_
  unfold F_X8_wrongPlace at h
  show T RX8 cX8_wrongPlace 2 (some .int) 0 2 0 0 false (eqp (vI r) LAYC (rfs lw tl tt) M) 0 [aR (some p0), aI x1] [] LAYC (rfs lw tl tt) M 0 0
  refine T_aload_n dX8_wrongPlace_0 rfl ?_
  obtain ⟨r_1, hc_2, h⟩ := bd1_some h
  refine T_cvi (as := []) dX8_wrongPlace_1 cw_X5_isMissing ml_X8_118 mi_X5_isMissing se_X5_isMissing (lyX5 h0) rfl (by decide) rfl (Nat.le_of_ble_eq_true rfl) (Nat.le_of_ble_eq_true rfl) (m_X5_isMissing lw tl tt M p0 h0 _ hc_2) ?_
  refine T_if_eq (tgt := 9) dX8_wrongPlace_4 (by decide) (fun hc => ?_) (fun hc => ?_)
  · have h := it_pos hc h
    refine T_aload_n dX8_wrongPlace_9 rfl ?_
    refine T_iload_n dX8_wrongPlace_10 rfl ?_
    obtain ⟨r_3, hc_4, h⟩ := bd1_some h
    refine T_cvi (as := [vI x1]) dX8_wrongPlace_11 cw_X5_has ml_X8_367 mi_X5_has se_X5_has (lyX5 h0) rfl (by decide) rfl (Nat.le_of_ble_eq_true rfl) (Nat.le_of_ble_eq_true rfl) (m_X5_has lw tl tt M p0 x1 h0 _ hc_4) ?_
    refine T_if_eq (tgt := 21) dX8_wrongPlace_14 (by decide) (fun hc => ?_) (fun hc => ?_)
    · have h := it_pos hc h
      refine T_iconst dX8_wrongPlace_21 ic_2 ?_
      obtain rfl := sm1 h
      exact T_iret dX8_wrongPlace_22 ⟨rfl, rfl, rfl, rfl⟩
    · have h := it_neg hc h
      refine T_iconst dX8_wrongPlace_17 ic_0 ?_
      refine T_goto (tgt := 22) dX8_wrongPlace_18 (by decide) ?_
      obtain rfl := sm1 h
      exact T_iret dX8_wrongPlace_22 ⟨rfl, rfl, rfl, rfl⟩
  · have h := it_neg hc h
    refine T_iconst dX8_wrongPlace_7 ic_1 ?_
    obtain rfl := sm1 h
    exact T_iret dX8_wrongPlace_8 ⟨rfl, rfl, rfl, rfl⟩
