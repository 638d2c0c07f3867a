def F_X6_moveAt (M : Mem) (x1 : Int32) : Option (Int32) :=
 if x1 < 0 then some 0
 else if (nI 3) ≤ x1 then some 0
 else chk (inb x1 3 = true) (some (gI M 20 x1.toNatClampNeg))
set_option maxRecDepth 100000 in
set_option maxHeartbeats 4000000 in
theorem m_X6_moveAt (lw : Nat → Option Nat) (tl : Option Nat) (tt : Option Nat) (M : Mem) (x1 : Int32) (r : Int32) (h : F_X6_moveAt M x1 = some r) : Cal yX6_moveAt cX6_moveAt 2 (some .int) 0 1 0 0 false [vR (some 19), vI x1] LAYC (rfs lw tl tt) M (eqp (vI r) LAYC (rfs lw tl tt) M) := by
  refine Cal.of (by decide +kernel) (Nat.le_of_ble_eq_true rfl) (fun h => by cases h) ?_
  unfold F_X6_moveAt at h
  show T RX6 cX6_moveAt 2 (some .int) 0 1 0 0 false (eqp (vI r) LAYC (rfs lw tl tt) M) 0 [aR (some 19), aI x1] [] LAYC (rfs lw tl tt) M 0 0
  refine T_iload_n dX6_moveAt_0 rfl ?_
  refine T_if_lt (tgt := 22) dX6_moveAt_1 (by decide) (fun hc => ?_) (fun hc => ?_)
  · have h := it_pos hc h
    refine T_iconst dX6_moveAt_22 ic_0 ?_
    obtain rfl := sm1 h
    exact T_iret dX6_moveAt_23 ⟨rfl, rfl, rfl, rfl⟩
  · have h := it_neg hc h
    refine T_iload_n dX6_moveAt_4 rfl ?_
    refine T_aload_n dX6_moveAt_5 rfl ?_
    refine T_getR dX6_moveAt_6 clOK_X6 fl_X6_9 lyC_19 rfl rfl ?_
    refine T_alen dX6_moveAt_9 lyC_20 (Or.inl rfl) rfl ?_
    refine T_icmp_ge (tgt := 22) dX6_moveAt_10 (by decide) (fun hc => ?_) (fun hc => ?_)
    · have h := it_pos hc h
      refine T_iconst dX6_moveAt_22 ic_0 ?_
      obtain rfl := sm1 h
      exact T_iret dX6_moveAt_23 ⟨rfl, rfl, rfl, rfl⟩
    · have h := it_neg hc h
      refine T_aload_n dX6_moveAt_13 rfl ?_
      refine T_getR dX6_moveAt_14 clOK_X6 fl_X6_9 lyC_19 rfl rfl ?_
      refine T_iload_n dX6_moveAt_17 rfl ?_
      obtain ⟨hi_1, h⟩ := chk_some h
      refine T_iald dX6_moveAt_18 lyC_20 (inb_in hi_1) ?_
      refine T_goto (tgt := 23) dX6_moveAt_19 (by decide) ?_
      obtain rfl := sm1 h
      exact T_iret dX6_moveAt_23 ⟨rfl, rfl, rfl, rfl⟩
def X6_isStolen_L25 (tl : Option Nat) (tt : Option Nat) (M : Mem) : Int32 → Option ((Int32) ⊕ (Int32 × Mem))
  | x1 =>
    if (gI M 21 3) ≤ x1 then some (.inr (0, M))
    else oc tl none (fun q_5 => chk (isX3 q_5 = true) (oc tt none (fun q_7 => chk (isX1 q_7 = true) (bd1 (F_X3_matches M q_5 q_7 (gI M 19 5) 21 x1) fun r_9 => if r_9 = 0 then lett (x1 + 1) fun x_11 => some (.inl x_11)
    else bd1 (F_X1_bitsOf M 21 x1) fun r_13 => bd1 (F_X2_ownerOf M r_13) fun r_15 => if r_15 = (gI M 19 6) then some (.inr (1, M))
    else lett (x1 + 1) fun x_17 => some (.inl x_17)))))
def F_X6_isStolen (tl : Option Nat) (tt : Option Nat) (M : Mem) : Option (Int32 × Mem) :=
 oc tl (some (0, M))
 (fun q_1 => oc tt (some (0, M))
 (fun q_2 => bd1 (F_X1_survey M 21) fun M_3 => loop (X6_isStolen_L25 (some q_1) (some q_2) M_3) FU 0))
set_option maxRecDepth 100000 in
set_option maxHeartbeats 4000000 in
theorem s_X6_isStolen_L25 (lw : Nat → Option Nat) (tl : Option Nat) (tt : Option Nat) (M : Mem) (x1 : Int32) {Po : Po_} (x : (Int32) ⊕ (Int32 × Mem)) (h : X6_isStolen_L25 tl tt M x1 = some x) (hI : ∀ (ix1 : Int32), x = .inl ix1 → T RX6 cX6_isStolen 2 (some .boolean) 0 4 0 0 false Po 25 [aR (some 19), aI ix1] [] LAYC (rfs lw tl tt) M 0 0) (hE0 : ∀ (er : Int32) (eM : Mem), x = .inr (er, eM) → Po (vI er) LAYC (rfs lw tl tt) eM) : T RX6 cX6_isStolen 2 (some .boolean) 0 4 0 0 false Po 25 [aR (some 19), aI x1] [] LAYC (rfs lw tl tt) M 0 0 := by
  unfold X6_isStolen_L25 at h
  simp only at h
  refine T_iload_n dX6_isStolen_25 rfl ?_
  refine T_aload_n dX6_isStolen_26 rfl ?_
  refine T_getR dX6_isStolen_27 clOK_X6 fl_X6_24 lyC_19 rfl rfl ?_
  refine T_getI dX6_isStolen_30 clOK_X1 fl_X6_74 lyC_21 rfl ?_
  refine T_icmp_ge (tgt := 89) dX6_isStolen_33 (by decide) (fun hc => ?_) (fun hc => ?_)
  · have h := it_pos hc h
    refine T_iconst dX6_isStolen_89 ic_0 ?_
    obtain rfl := sm1 h
    exact T_zret dX6_isStolen_90 (Or.inl rfl) (hE0 _ _ rfl)
  · have h := it_neg hc h
    refine T_aload_n dX6_isStolen_36 rfl ?_
    refine T_getR dX6_isStolen_37 clOK_X6 fl_X6_28 lyC_19 rfl rfl ?_
    refine T_aload_n dX6_isStolen_40 rfl ?_
    refine T_getR dX6_isStolen_41 clOK_X6 fl_X6_32 lyC_19 rfl rfl ?_
    refine T_aload_n dX6_isStolen_44 rfl ?_
    refine T_getI dX6_isStolen_45 clOK_X6 fl_X6_35 lyC_19 rfl ?_
    refine T_aload_n dX6_isStolen_48 rfl ?_
    refine T_getR dX6_isStolen_49 clOK_X6 fl_X6_24 lyC_19 rfl rfl ?_
    refine T_iload_n dX6_isStolen_52 rfl ?_
    cases tl with
    | none => exact absurd (oc_none h) (fun e => by cases e)
    | some q_5 =>
      have h := oc_some h
      obtain ⟨hf_6, h⟩ := chk_some h
      cases tt with
      | none => exact absurd (oc_none h) (fun e => by cases e)
      | some q_7 =>
        have h := oc_some h
        obtain ⟨hf_8, h⟩ := chk_some h
        obtain ⟨r_9, hc_10, h⟩ := bd1_some h
        refine T_cvi (as := [vR (some q_7), vI (gI M 19 5), vR (some 21), vI x1]) dX6_isStolen_53 cw_X3_matches ml_X6_77 mi_X3_matches se_X3_matches (lyX3 hf_6) rfl (by decide) rfl (Nat.le_of_ble_eq_true rfl) (Nat.le_of_ble_eq_true rfl) (m_X3_matches lw (some q_5) (some q_7) M q_5 q_7 (gI M 19 5) 21 x1 hf_6 hf_8 rfl _ hc_10) ?_
        refine T_if_eq (tgt := 83) dX6_isStolen_56 (by decide) (fun hc => ?_) (fun hc => ?_)
        · have h := it_pos hc h
          obtain ⟨x_11, ex_12, h⟩ := lett_some h
          refine T_iinc (L' := [aR (some 19), aI x_11]) dX6_isStolen_83 rfl (ic_inc ic_1 ex_12) (Nat.le_of_ble_eq_true rfl) rfl ?_
          refine T_goto (tgt := 25) dX6_isStolen_86 (by decide) ?_
          obtain rfl := sm1 h
          exact hI _ rfl
        · have h := it_neg hc h
          refine T_aload_n dX6_isStolen_59 rfl ?_
          refine T_getR dX6_isStolen_60 clOK_X6 fl_X6_15 lyC_19 rfl rfl ?_
          refine T_aload_n dX6_isStolen_63 rfl ?_
          refine T_getR dX6_isStolen_64 clOK_X6 fl_X6_24 lyC_19 rfl rfl ?_
          refine T_iload_n dX6_isStolen_67 rfl ?_
          obtain ⟨r_13, hc_14, h⟩ := bd1_some h
          refine T_cvi (as := [vI x1]) dX6_isStolen_68 cw_X1_bitsOf ml_X6_83 mi_X1_bitsOf se_X1_bitsOf lyC_21 rfl (by decide) rfl (Nat.le_of_ble_eq_true rfl) (Nat.le_of_ble_eq_true rfl) (m_X1_bitsOf lw (some q_5) (some q_7) M 21 x1 rfl _ hc_14) ?_
          obtain ⟨r_15, hc_16, h⟩ := bd1_some h
          refine T_cvi (as := [vI r_13]) dX6_isStolen_71 cw_X2_ownerOf ml_X6_86 mi_X2_ownerOf se_X2_ownerOf lyC_7 rfl (by decide) rfl (Nat.le_of_ble_eq_true rfl) (Nat.le_of_ble_eq_true rfl) (m_X2_ownerOf lw (some q_5) (some q_7) M r_13  _ hc_16) ?_
          refine T_aload_n dX6_isStolen_74 rfl ?_
          refine T_getI dX6_isStolen_75 clOK_X6 fl_X6_39 lyC_19 rfl ?_
          refine T_icmp_ne (tgt := 83) dX6_isStolen_78 (by decide) (fun hc => ?_) (fun hc => ?_)
          · have h := it_neg hc h
            obtain ⟨x_17, ex_18, h⟩ := lett_some h
            refine T_iinc (L' := [aR (some 19), aI x_17]) dX6_isStolen_83 rfl (ic_inc ic_1 ex_18) (Nat.le_of_ble_eq_true rfl) rfl ?_
            refine T_goto (tgt := 25) dX6_isStolen_86 (by decide) ?_
            obtain rfl := sm1 h
            exact hI _ rfl
          · have h := it_pos hc h
            refine T_iconst dX6_isStolen_81 ic_1 ?_
            obtain rfl := sm1 h
            exact T_zret dX6_isStolen_82 (Or.inr rfl) (hE0 _ _ rfl)
set_option maxRecDepth 100000 in
set_option maxHeartbeats 4000000 in
theorem l_X6_isStolen_L25 (lw : Nat → Option Nat) (tl : Option Nat) (tt : Option Nat) (M : Mem) {Po : Po_} (er : Int32) (eM : Mem) : ∀ (k : Nat) (x1 : Int32), loop (X6_isStolen_L25 tl tt M) k x1 = some (er, eM) → (Po (vI er) LAYC (rfs lw tl tt) eM) → T RX6 cX6_isStolen 2 (some .boolean) 0 4 0 0 false Po 25 [aR (some 19), aI x1] [] LAYC (rfs lw tl tt) M 0 0 := by
  intro k
  induction k with
  | zero => intro x1 h; cases h
  | succ k ih =>
    intro x1 h hE
    obtain ⟨x, hx, hx1, hx2⟩ := loop_succ h
    exact s_X6_isStolen_L25  lw tl tt M  x1 x hx (fun q0 e => ih q0 (hx1 _ e) hE) (fun q0 q1 e => by cases hx2 _ e; exact hE)
set_option maxRecDepth 100000 in
set_option maxHeartbeats 4000000 in
theorem m_X6_isStolen (lw : Nat → Option Nat) (tl : Option Nat) (tt : Option Nat) (M : Mem) (r : Int32) (M' : Mem) (h : F_X6_isStolen tl tt M = some (r, M')) : Cal yX6_isStolen cX6_isStolen 2 (some .boolean) 0 4 0 0 false [vR (some 19)] LAYC (rfs lw tl tt) M (eqp (vI r) LAYC (rfs lw tl tt) M') := by
  refine Cal.of (by decide +kernel) (Nat.le_of_ble_eq_true rfl) (fun h => by cases h) ?_
  unfold F_X6_isStolen at h
  show T RX6 cX6_isStolen 2 (some .boolean) 0 4 0 0 false (eqp (vI r) LAYC (rfs lw tl tt) M') 0 [aR (some 19), aU] [] LAYC (rfs lw tl tt) M 0 0
  refine T_aload_n dX6_isStolen_0 rfl ?_
  refine T_getR dX6_isStolen_1 clOK_X6 fl_X6_28 lyC_19 rfl rfl ?_
  cases tl with
  | none =>
    have h := oc_none h
    refine T_ifnull0 (tgt := 14) dX6_isStolen_4 (by decide) ?_
    refine T_iconst dX6_isStolen_14 ic_0 ?_
    obtain ⟨rfl, rfl⟩ := sm2 h
    exact T_zret dX6_isStolen_15 (Or.inl rfl) ⟨rfl, rfl, rfl, rfl⟩
  | some q_1 =>
    have h := oc_some h
    refine T_ifnull1 dX6_isStolen_4 ?_
    refine T_aload_n dX6_isStolen_7 rfl ?_
    refine T_getR dX6_isStolen_8 clOK_X6 fl_X6_32 lyC_19 rfl rfl ?_
    cases tt with
    | none =>
      have h := oc_none h
      refine T_ifnonnull0 dX6_isStolen_11 ?_
      refine T_iconst dX6_isStolen_14 ic_0 ?_
      obtain ⟨rfl, rfl⟩ := sm2 h
      exact T_zret dX6_isStolen_15 (Or.inl rfl) ⟨rfl, rfl, rfl, rfl⟩
    | some q_2 =>
      have h := oc_some h
      refine T_ifnonnull1 (tgt := 16) dX6_isStolen_11 (by decide) ?_
      refine T_aload_n dX6_isStolen_16 rfl ?_
      refine T_getR dX6_isStolen_17 clOK_X6 fl_X6_24 lyC_19 rfl rfl ?_
      obtain ⟨M_3, hc_4, h⟩ := bd1_some h
      refine T_cvv (as := []) dX6_isStolen_20 cw_X1_survey ml_X6_71 mi_X1_survey se_X1_survey lyC_21 rfl (by decide) rfl (Nat.le_of_ble_eq_true rfl) (Nat.le_of_ble_eq_true rfl) (m_X1_survey lw (some q_1) (some q_2) M 21 rfl _ hc_4) ?_
      refine T_iconst dX6_isStolen_23 ic_0 ?_
      refine T_istore_n (i := 1) (L' := [aR (some 19), aI 0]) dX6_isStolen_24 rfl (Nat.le_of_ble_eq_true rfl) rfl ?_
      exact l_X6_isStolen_L25  lw (some q_1) (some q_2) M_3  _ _ FU 0 h ⟨rfl, rfl, rfl, rfl⟩
def X6_succeeds_J14 (rc : Option Nat → Option Nat → Mem → Int32 → Int32 → Int32 → Option (Int32 × Mem)) (tl : Option Nat) (tt : Option Nat) (M : Mem) : Option (Int32 × Mem) :=
 bd2 (F_X6_isStolen tl tt M) fun r_1 M_2 => chk (r_1 = 0 ∨ r_1 = 1) (some (r_1, M_2))
def X6_succeeds_J126 (rc : Option Nat → Option Nat → Mem → Int32 → Int32 → Int32 → Option (Int32 × Mem)) (tl : Option Nat) (tt : Option Nat) (M : Mem) (x1 : Int32) (x3 : Int32) (x4 : Int32) (x6 : Int32) (x7 : Int32) (s0 : Int32) (s1 : Int32) : Option ((Int32 × Mem) ⊕ (Int32 × Mem)) :=
 chk (inb s1 3 = true) (lett (sI M 20 s1.toNatClampNeg s0) fun M_7 => bd1 (F_X1_deepen M_7 21 x6 x7) fun M_10 => bd2 (rc tl tt M_10 (x1 + 1) x4 x3) fun r_12 M_13 => bd1 (F_X1_deepen M_13 21 x6 (-x7)) fun M_15 => if r_12 = 0 then lett (x4 + 1) fun x_17 => some (.inl (x_17, M_15))
 else some (.inr (1, M_15)))
def X6_succeeds_J87 (rc : Option Nat → Option Nat → Mem → Int32 → Int32 → Int32 → Option (Int32 × Mem)) (tl : Option Nat) (tt : Option Nat) (M : Mem) (x1 : Int32) (x3 : Int32) (x4 : Int32) (x5 : Int32) (x6 : Int32) (s0 : Int32) : Option ((Int32 × Mem) ⊕ (Int32 × Mem)) :=
 bd1 (F_X1_bears M 21 x6 s0) fun r_5 => if r_5 = 0 then lett (x4 + 1) fun x_19 => some (.inl (x_19, M))
 else if x5 = 0 then X6_succeeds_J126 rc tl tt M x1 x3 x4 x6 s0 x6 x1
 else X6_succeeds_J126 rc tl tt M x1 x3 x4 x6 s0 (x6 + (nI 100)) x1
def X6_succeeds_J75 (rc : Option Nat → Option Nat → Mem → Int32 → Int32 → Int32 → Option (Int32 × Mem)) (tl : Option Nat) (tt : Option Nat) (M : Mem) (x1 : Int32) (x3 : Int32) (x4 : Int32) (x5 : Int32) (s0 : Int32) : Option ((Int32 × Mem) ⊕ (Int32 × Mem)) :=
 if x5 = 0 then X6_succeeds_J87 rc tl tt M x1 x3 x4 x5 s0 1
 else X6_succeeds_J87 rc tl tt M x1 x3 x4 x5 s0 (-1)
def X6_succeeds_J53 (rc : Option Nat → Option Nat → Mem → Int32 → Int32 → Int32 → Option (Int32 × Mem)) (tl : Option Nat) (tt : Option Nat) (M : Mem) (x1 : Int32) (x3 : Int32) (x4 : Int32) (s0 : Int32) : Option ((Int32 × Mem) ⊕ (Int32 × Mem)) :=
 if s0 = 0 then X6_succeeds_J75 rc tl tt M x1 x3 x4 s0 x4
 else X6_succeeds_J75 rc tl tt M x1 x3 x4 s0 (x4 - (gI M 7 0))
def X6_succeeds_L22 (rc : Option Nat → Option Nat → Mem → Int32 → Int32 → Int32 → Option (Int32 × Mem)) (tl : Option Nat) (tt : Option Nat) (x1 : Int32) (x3 : Int32) : Int32 × Mem → Option ((Int32 × Mem) ⊕ (Int32 × Mem))
  | (x4, M) =>
    if ((nI 2) * (gI M 7 0)) ≤ x4 then some (.inr (0, M))
    else if x4 < (gI M 7 0) then X6_succeeds_J53 rc tl tt M x1 x3 x4 0
    else X6_succeeds_J53 rc tl tt M x1 x3 x4 1
def F_X6_succeeds : Nat → Option Nat → Option Nat → Mem → Int32 → Int32 → Int32 → Option (Int32 × Mem)
  | 0, _, _, _, _, _, _ => none
  | n + 1, tl, tt, M, x1, x2, x3 =>
    if x3 ≤ x1 then X6_succeeds_J14 (F_X6_succeeds n) tl tt M
    else if x1 < (nI 3) then loop (X6_succeeds_L22 (F_X6_succeeds n) tl tt x1 x3) FU (x2, M)
    else X6_succeeds_J14 (F_X6_succeeds n) tl tt M
set_option maxRecDepth 100000 in
set_option maxHeartbeats 4000000 in
theorem j_X6_succeeds_J14 (rc : Option Nat → Option Nat → Mem → Int32 → Int32 → Int32 → Option (Int32 × Mem)) {n : Nat} (hrc : ∀ (lw : Nat → Option Nat) (tl : Option Nat) (tt : Option Nat) (M : Mem) (x1 : Int32) (x2 : Int32) (x3 : Int32) (r : Int32) (M' : Mem), rc tl tt M x1 x2 x3 = some (r, M') → Cal yX6_succeeds cX6_succeeds 9 (some .boolean) 0 (5 + n) 0 0 false [vR (some 19), vI x1, vI x2, vI x3] LAYC (rfs lw tl tt) M (eqp (vI r) LAYC (rfs lw tl tt) M')) (lw : Nat → Option Nat) (tl : Option Nat) (tt : Option Nat) (M : Mem) (r : Int32) (M' : Mem) (h : X6_succeeds_J14 rc tl tt M = some (r, M')) : T RX6 cX6_succeeds 9 (some .boolean) 0 (5 + (n + 1)) 0 0 false (eqp (vI r) LAYC (rfs lw tl tt) M') 14 [aR (some 19), aU, aU, aU, aU, aU, aU, aU, aU] [] LAYC (rfs lw tl tt) M 0 0 := by
  unfold X6_succeeds_J14 at h
  refine T_aload_n dX6_succeeds_14 rfl ?_
  obtain ⟨r_1, M_2, hc_3, h⟩ := bd2_some h
  refine T_cvi (as := []) dX6_succeeds_15 cw_X6_isStolen ml_X6_56 mi_X6_isStolen se_X6_isStolen lyC_19 rfl (by decide) rfl (Nat.le_of_ble_eq_true rfl) (by omega) (m_X6_isStolen lw tl tt M  _ _ hc_3) ?_
  obtain ⟨hb_4, h⟩ := chk_some h
  obtain ⟨rfl, rfl⟩ := sm2 h
  exact T_zret dX6_succeeds_18 hb_4 ⟨rfl, rfl, rfl, rfl⟩
set_option maxRecDepth 100000 in
set_option maxHeartbeats 4000000 in
theorem j_X6_succeeds_J126 (rc : Option Nat → Option Nat → Mem → Int32 → Int32 → Int32 → Option (Int32 × Mem)) {n : Nat} (hrc : ∀ (lw : Nat → Option Nat) (tl : Option Nat) (tt : Option Nat) (M : Mem) (x1 : Int32) (x2 : Int32) (x3 : Int32) (r : Int32) (M' : Mem), rc tl tt M x1 x2 x3 = some (r, M') → Cal yX6_succeeds cX6_succeeds 9 (some .boolean) 0 (5 + n) 0 0 false [vR (some 19), vI x1, vI x2, vI x3] LAYC (rfs lw tl tt) M (eqp (vI r) LAYC (rfs lw tl tt) M')) (lw : Nat → Option Nat) (tl : Option Nat) (tt : Option Nat) (M : Mem) (x1 : Int32) (x3 : Int32) (x4 : Int32) (x6 : Int32) (x7 : Int32) (s0 : Int32) (s1 : Int32) {Po : Po_} (x : (Int32 × Mem) ⊕ (Int32 × Mem)) (h : X6_succeeds_J126 rc tl tt M x1 x3 x4 x6 x7 s0 s1 = some x) (hI : ∀ (ix4 : Int32) (iM : Mem), x = .inl (ix4, iM) → T RX6 cX6_succeeds 9 (some .boolean) 0 (5 + (n + 1)) 0 0 false Po 22 [aR (some 19), aI x1, aU, aI x3, aI ix4, aU, aU, aU, aU] [] LAYC (rfs lw tl tt) iM 0 0) (hE0 : ∀ (er : Int32) (eM : Mem), x = .inr (er, eM) → Po (vI er) LAYC (rfs lw tl tt) eM) : T RX6 cX6_succeeds 9 (some .boolean) 0 (5 + (n + 1)) 0 0 false Po 126 [aR (some 19), aI x1, aU, aI x3, aI x4, aU, aI x6, aI x7, aU] [vI s0, vI s1, vR (some 20)] LAYC (rfs lw tl tt) M 0 0 := by
  unfold X6_succeeds_J126 at h
  obtain ⟨hi_9, h⟩ := chk_some h
  obtain ⟨M_7, eM_8, h⟩ := lett_some h
  refine T_iast dX6_succeeds_126 lyC_20 (inb_in hi_9) eM_8 ?_
  refine T_aload_n dX6_succeeds_127 rfl ?_
  refine T_getR dX6_succeeds_128 clOK_X6 fl_X6_24 lyC_19 rfl rfl ?_
  refine T_iload dX6_succeeds_131 rfl ?_
  refine T_iload dX6_succeeds_133 rfl ?_
  obtain ⟨M_10, hc_11, h⟩ := bd1_some h
  refine T_cvv (as := [vI x6, vI x7]) dX6_succeeds_135 cw_X1_deepen ml_X6_67 mi_X1_deepen se_X1_deepen lyC_21 rfl (by decide) rfl (Nat.le_of_ble_eq_true rfl) (by omega) (m_X1_deepen lw tl tt M_7 21 x6 x7 rfl _ hc_11) ?_
  refine T_aload_n dX6_succeeds_138 rfl ?_
  refine T_iload_n dX6_succeeds_139 rfl ?_
  refine T_iconst dX6_succeeds_140 ic_1 ?_
  refine T_iadd dX6_succeeds_141 ?_
  refine T_iload dX6_succeeds_142 rfl ?_
  refine T_iload_n dX6_succeeds_144 rfl ?_
  obtain ⟨r_12, M_13, hc_14, h⟩ := bd2_some h
  refine T_cvi (as := [vI (x1 + 1), vI x4, vI x3]) dX6_succeeds_145 cw_X6_succeeds ml_X6_52 mi_X6_succeeds se_X6_succeeds lyC_19 rfl (by decide) rfl (Nat.le_of_ble_eq_true rfl) (by omega) (hrc lw tl tt M_10 (x1 + 1) x4 x3  _ _ hc_14) ?_
  refine T_istore (i := 8) (L' := [aR (some 19), aI x1, aU, aI x3, aI x4, aU, aI x6, aI x7, aI r_12]) dX6_succeeds_148 (Nat.le_of_ble_eq_true rfl) rfl ?_
  refine T_aload_n dX6_succeeds_150 rfl ?_
  refine T_getR dX6_succeeds_151 clOK_X6 fl_X6_24 lyC_19 rfl rfl ?_
  refine T_iload dX6_succeeds_154 rfl ?_
  refine T_iload dX6_succeeds_156 rfl ?_
  refine T_ineg dX6_succeeds_158 ?_
  obtain ⟨M_15, hc_16, h⟩ := bd1_some h
  refine T_cvv (as := [vI x6, vI (-x7)]) dX6_succeeds_159 cw_X1_deepen ml_X6_67 mi_X1_deepen se_X1_deepen lyC_21 rfl (by decide) rfl (Nat.le_of_ble_eq_true rfl) (by omega) (m_X1_deepen lw tl tt M_13 21 x6 (-x7) rfl _ hc_16) ?_
  refine T_iload dX6_succeeds_162 rfl ?_
  refine T_if_eq (tgt := 169) dX6_succeeds_164 (by decide) (fun hc => ?_) (fun hc => ?_)
  · have h := it_pos hc h
    obtain ⟨x_17, ex_18, h⟩ := lett_some h
    refine T_iinc (L' := [aR (some 19), aI x1, aU, aI x3, aI x_17, aU, aI x6, aI x7, aI r_12]) dX6_succeeds_169 rfl (ic_inc ic_1 ex_18) (Nat.le_of_ble_eq_true rfl) rfl ?_
    refine T_goto (tgt := 22) dX6_succeeds_172 (by decide) ?_
    obtain rfl := sm1 h
    refine T_mask [true, true, true, true, true, true, false, false, false] rfl ?_
    exact hI _ _ rfl
  · have h := it_neg hc h
    refine T_iconst dX6_succeeds_167 ic_1 ?_
    obtain rfl := sm1 h
    exact T_zret dX6_succeeds_168 (Or.inr rfl) (hE0 _ _ rfl)
set_option maxRecDepth 100000 in
set_option maxHeartbeats 4000000 in
theorem j_X6_succeeds_J87 (rc : Option Nat → Option Nat → Mem → Int32 → Int32 → Int32 → Option (Int32 × Mem)) {n : Nat} (hrc : ∀ (lw : Nat → Option Nat) (tl : Option Nat) (tt : Option Nat) (M : Mem) (x1 : Int32) (x2 : Int32) (x3 : Int32) (r : Int32) (M' : Mem), rc tl tt M x1 x2 x3 = some (r, M') → Cal yX6_succeeds cX6_succeeds 9 (some .boolean) 0 (5 + n) 0 0 false [vR (some 19), vI x1, vI x2, vI x3] LAYC (rfs lw tl tt) M (eqp (vI r) LAYC (rfs lw tl tt) M')) (lw : Nat → Option Nat) (tl : Option Nat) (tt : Option Nat) (M : Mem) (x1 : Int32) (x3 : Int32) (x4 : Int32) (x5 : Int32) (x6 : Int32) (s0 : Int32) {Po : Po_} (x : (Int32 × Mem) ⊕ (Int32 × Mem)) (h : X6_succeeds_J87 rc tl tt M x1 x3 x4 x5 x6 s0 = some x) (hI : ∀ (ix4 : Int32) (iM : Mem), x = .inl (ix4, iM) → T RX6 cX6_succeeds 9 (some .boolean) 0 (5 + (n + 1)) 0 0 false Po 22 [aR (some 19), aI x1, aU, aI x3, aI ix4, aU, aU, aU, aU] [] LAYC (rfs lw tl tt) iM 0 0) (hE0 : ∀ (er : Int32) (eM : Mem), x = .inr (er, eM) → Po (vI er) LAYC (rfs lw tl tt) eM) : T RX6 cX6_succeeds 9 (some .boolean) 0 (5 + (n + 1)) 0 0 false Po 87 [aR (some 19), aI x1, aU, aI x3, aI x4, aI x5, aI x6, aU, aU] [vI s0] LAYC (rfs lw tl tt) M 0 0 := by
  unfold X6_succeeds_J87 at h
  refine T_istore (i := 7) (L' := [aR (some 19), aI x1, aU, aI x3, aI x4, aI x5, aI x6, aI s0, aU]) dX6_succeeds_87 (Nat.le_of_ble_eq_true rfl) rfl ?_
  refine T_aload_n dX6_succeeds_89 rfl ?_
  refine T_getR dX6_succeeds_90 clOK_X6 fl_X6_24 lyC_19 rfl rfl ?_
  refine T_iload dX6_succeeds_93 rfl ?_
  refine T_iload dX6_succeeds_95 rfl ?_
  obtain ⟨r_5, hc_6, h⟩ := bd1_some h
  refine T_cvi (as := [vI x6, vI s0]) dX6_succeeds_97 cw_X1_bears ml_X6_63 mi_X1_bears se_X1_bears lyC_21 rfl (by decide) rfl (Nat.le_of_ble_eq_true rfl) (by omega) (m_X1_bears lw tl tt M 21 x6 s0 rfl _ hc_6) ?_
  refine T_if_ne (tgt := 106) dX6_succeeds_100 (by decide) (fun hc => ?_) (fun hc => ?_)
  · have h := it_neg hc h
    refine T_aload_n dX6_succeeds_106 rfl ?_
    refine T_getR dX6_succeeds_107 clOK_X6 fl_X6_9 lyC_19 rfl rfl ?_
    refine T_iload_n dX6_succeeds_110 rfl ?_
    refine T_iload dX6_succeeds_111 rfl ?_
    refine T_if_eq (tgt := 124) dX6_succeeds_113 (by decide) (fun hc => ?_) (fun hc => ?_)
    · have h := it_pos hc h
      refine T_iload dX6_succeeds_124 rfl ?_
      refine T_mask [true, true, true, true, true, false, true, true, true] rfl ?_
      exact j_X6_succeeds_J126 _ hrc  lw tl tt M x1 x3 x4 x6 s0 x6 x1  _ h hI hE0
    · have h := it_neg hc h
      refine T_iload dX6_succeeds_116 rfl ?_
      refine T_bipush dX6_succeeds_118 bp_100 ?_
      refine T_iadd dX6_succeeds_120 ?_
      refine T_goto (tgt := 126) dX6_succeeds_121 (by decide) ?_
      refine T_mask [true, true, true, true, true, false, true, true, true] rfl ?_
      exact j_X6_succeeds_J126 _ hrc  lw tl tt M x1 x3 x4 x6 s0 (x6 + (nI 100)) x1  _ h hI hE0
  · have h := it_pos hc h
    refine T_goto (tgt := 169) dX6_succeeds_103 (by decide) ?_
    obtain ⟨x_19, ex_20, h⟩ := lett_some h
    refine T_iinc (L' := [aR (some 19), aI x1, aU, aI x3, aI x_19, aI x5, aI x6, aI s0, aU]) dX6_succeeds_169 rfl (ic_inc ic_1 ex_20) (Nat.le_of_ble_eq_true rfl) rfl ?_
    refine T_goto (tgt := 22) dX6_succeeds_172 (by decide) ?_
    obtain rfl := sm1 h
    refine T_mask [true, true, true, true, true, false, false, false, true] rfl ?_
    exact hI _ _ rfl
set_option maxRecDepth 100000 in
set_option maxHeartbeats 4000000 in
theorem j_X6_succeeds_J75 (rc : Option Nat → Option Nat → Mem → Int32 → Int32 → Int32 → Option (Int32 × Mem)) {n : Nat} (hrc : ∀ (lw : Nat → Option Nat) (tl : Option Nat) (tt : Option Nat) (M : Mem) (x1 : Int32) (x2 : Int32) (x3 : Int32) (r : Int32) (M' : Mem), rc tl tt M x1 x2 x3 = some (r, M') → Cal yX6_succeeds cX6_succeeds 9 (some .boolean) 0 (5 + n) 0 0 false [vR (some 19), vI x1, vI x2, vI x3] LAYC (rfs lw tl tt) M (eqp (vI r) LAYC (rfs lw tl tt) M')) (lw : Nat → Option Nat) (tl : Option Nat) (tt : Option Nat) (M : Mem) (x1 : Int32) (x3 : Int32) (x4 : Int32) (x5 : Int32) (s0 : Int32) {Po : Po_} (x : (Int32 × Mem) ⊕ (Int32 × Mem)) (h : X6_succeeds_J75 rc tl tt M x1 x3 x4 x5 s0 = some x) (hI : ∀ (ix4 : Int32) (iM : Mem), x = .inl (ix4, iM) → T RX6 cX6_succeeds 9 (some .boolean) 0 (5 + (n + 1)) 0 0 false Po 22 [aR (some 19), aI x1, aU, aI x3, aI ix4, aU, aU, aU, aU] [] LAYC (rfs lw tl tt) iM 0 0) (hE0 : ∀ (er : Int32) (eM : Mem), x = .inr (er, eM) → Po (vI er) LAYC (rfs lw tl tt) eM) : T RX6 cX6_succeeds 9 (some .boolean) 0 (5 + (n + 1)) 0 0 false Po 75 [aR (some 19), aI x1, aU, aI x3, aI x4, aI x5, aU, aU, aU] [vI s0] LAYC (rfs lw tl tt) M 0 0 := by
  unfold X6_succeeds_J75 at h
  refine T_istore (i := 6) (L' := [aR (some 19), aI x1, aU, aI x3, aI x4, aI x5, aI s0, aU, aU]) dX6_succeeds_75 (Nat.le_of_ble_eq_true rfl) rfl ?_
  refine T_iload dX6_succeeds_77 rfl ?_
  refine T_if_eq (tgt := 86) dX6_succeeds_79 (by decide) (fun hc => ?_) (fun hc => ?_)
  · have h := it_pos hc h
    refine T_iconst dX6_succeeds_86 ic_1 ?_
    exact j_X6_succeeds_J87 _ hrc  lw tl tt M x1 x3 x4 x5 s0 1  _ h hI hE0
  · have h := it_neg hc h
    refine T_iconst dX6_succeeds_82 ic_m1 ?_
    refine T_goto (tgt := 87) dX6_succeeds_83 (by decide) ?_
    exact j_X6_succeeds_J87 _ hrc  lw tl tt M x1 x3 x4 x5 s0 (-1)  _ h hI hE0
set_option maxRecDepth 100000 in
set_option maxHeartbeats 4000000 in
theorem j_X6_succeeds_J53 (rc : Option Nat → Option Nat → Mem → Int32 → Int32 → Int32 → Option (Int32 × Mem)) {n : Nat} (hrc : ∀ (lw : Nat → Option Nat) (tl : Option Nat) (tt : Option Nat) (M : Mem) (x1 : Int32) (x2 : Int32) (x3 : Int32) (r : Int32) (M' : Mem), rc tl tt M x1 x2 x3 = some (r, M') → Cal yX6_succeeds cX6_succeeds 9 (some .boolean) 0 (5 + n) 0 0 false [vR (some 19), vI x1, vI x2, vI x3] LAYC (rfs lw tl tt) M (eqp (vI r) LAYC (rfs lw tl tt) M')) (lw : Nat → Option Nat) (tl : Option Nat) (tt : Option Nat) (M : Mem) (x1 : Int32) (x3 : Int32) (x4 : Int32) (s0 : Int32) {Po : Po_} (x : (Int32 × Mem) ⊕ (Int32 × Mem)) (h : X6_succeeds_J53 rc tl tt M x1 x3 x4 s0 = some x) (hI : ∀ (ix4 : Int32) (iM : Mem), x = .inl (ix4, iM) → T RX6 cX6_succeeds 9 (some .boolean) 0 (5 + (n + 1)) 0 0 false Po 22 [aR (some 19), aI x1, aU, aI x3, aI ix4, aU, aU, aU, aU] [] LAYC (rfs lw tl tt) iM 0 0) (hE0 : ∀ (er : Int32) (eM : Mem), x = .inr (er, eM) → Po (vI er) LAYC (rfs lw tl tt) eM) : T RX6 cX6_succeeds 9 (some .boolean) 0 (5 + (n + 1)) 0 0 false Po 53 [aR (some 19), aI x1, aU, aI x3, aI x4, aU, aU, aU, aU] [vI s0] LAYC (rfs lw tl tt) M 0 0 := by
  unfold X6_succeeds_J53 at h
  refine T_istore (i := 5) (L' := [aR (some 19), aI x1, aU, aI x3, aI x4, aI s0, aU, aU, aU]) dX6_succeeds_53 (Nat.le_of_ble_eq_true rfl) rfl ?_
  refine T_iload dX6_succeeds_55 rfl ?_
  refine T_if_eq (tgt := 73) dX6_succeeds_57 (by decide) (fun hc => ?_) (fun hc => ?_)
  · have h := it_pos hc h
    refine T_iload dX6_succeeds_73 rfl ?_
    exact j_X6_succeeds_J75 _ hrc  lw tl tt M x1 x3 x4 s0 x4  _ h hI hE0
  · have h := it_neg hc h
    refine T_iload dX6_succeeds_60 rfl ?_
    refine T_aload_n dX6_succeeds_62 rfl ?_
    refine T_getR dX6_succeeds_63 clOK_X6 fl_X6_15 lyC_19 rfl rfl ?_
    refine T_getI dX6_succeeds_66 clOK_X2 fl_X6_60 lyC_7 rfl ?_
    refine T_isub dX6_succeeds_69 ?_
    refine T_goto (tgt := 75) dX6_succeeds_70 (by decide) ?_
    exact j_X6_succeeds_J75 _ hrc  lw tl tt M x1 x3 x4 s0 (x4 - (gI M 7 0))  _ h hI hE0
set_option maxRecDepth 100000 in
set_option maxHeartbeats 4000000 in
theorem s_X6_succeeds_L22 (rc : Option Nat → Option Nat → Mem → Int32 → Int32 → Int32 → Option (Int32 × Mem)) {n : Nat} (hrc : ∀ (lw : Nat → Option Nat) (tl : Option Nat) (tt : Option Nat) (M : Mem) (x1 : Int32) (x2 : Int32) (x3 : Int32) (r : Int32) (M' : Mem), rc tl tt M x1 x2 x3 = some (r, M') → Cal yX6_succeeds cX6_succeeds 9 (some .boolean) 0 (5 + n) 0 0 false [vR (some 19), vI x1, vI x2, vI x3] LAYC (rfs lw tl tt) M (eqp (vI r) LAYC (rfs lw tl tt) M')) (lw : Nat → Option Nat) (tl : Option Nat) (tt : Option Nat) (x1 : Int32) (x3 : Int32) (x4 : Int32) (M : Mem) {Po : Po_} (x : (Int32 × Mem) ⊕ (Int32 × Mem)) (h : X6_succeeds_L22 rc tl tt x1 x3 (x4, M) = some x) (hI : ∀ (ix4 : Int32) (iM : Mem), x = .inl (ix4, iM) → T RX6 cX6_succeeds 9 (some .boolean) 0 (5 + (n + 1)) 0 0 false Po 22 [aR (some 19), aI x1, aU, aI x3, aI ix4, aU, aU, aU, aU] [] LAYC (rfs lw tl tt) iM 0 0) (hE0 : ∀ (er : Int32) (eM : Mem), x = .inr (er, eM) → Po (vI er) LAYC (rfs lw tl tt) eM) : T RX6 cX6_succeeds 9 (some .boolean) 0 (5 + (n + 1)) 0 0 false Po 22 [aR (some 19), aI x1, aU, aI x3, aI x4, aU, aU, aU, aU] [] LAYC (rfs lw tl tt) M 0 0 := by
  unfold X6_succeeds_L22 at h
  simp only at h
  refine T_iload dX6_succeeds_22 rfl ?_
  refine T_iconst dX6_succeeds_24 ic_2 ?_
  refine T_aload_n dX6_succeeds_25 rfl ?_
  refine T_getR dX6_succeeds_26 clOK_X6 fl_X6_15 lyC_19 rfl rfl ?_
  refine T_getI dX6_succeeds_29 clOK_X2 fl_X6_60 lyC_7 rfl ?_
  refine T_imul dX6_succeeds_32 ?_
  refine T_icmp_ge (tgt := 175) dX6_succeeds_33 (by decide) (fun hc => ?_) (fun hc => ?_)
  · have h := it_pos hc h
    refine T_iconst dX6_succeeds_175 ic_0 ?_
    obtain rfl := sm1 h
    exact T_zret dX6_succeeds_176 (Or.inl rfl) (hE0 _ _ rfl)
  · have h := it_neg hc h
    refine T_iload dX6_succeeds_36 rfl ?_
    refine T_aload_n dX6_succeeds_38 rfl ?_
    refine T_getR dX6_succeeds_39 clOK_X6 fl_X6_15 lyC_19 rfl rfl ?_
    refine T_getI dX6_succeeds_42 clOK_X2 fl_X6_60 lyC_7 rfl ?_
    refine T_icmp_lt (tgt := 52) dX6_succeeds_45 (by decide) (fun hc => ?_) (fun hc => ?_)
    · have h := it_pos hc h
      refine T_iconst dX6_succeeds_52 ic_0 ?_
      exact j_X6_succeeds_J53 _ hrc  lw tl tt M x1 x3 x4 0  _ h hI hE0
    · have h := it_neg hc h
      refine T_iconst dX6_succeeds_48 ic_1 ?_
      refine T_goto (tgt := 53) dX6_succeeds_49 (by decide) ?_
      exact j_X6_succeeds_J53 _ hrc  lw tl tt M x1 x3 x4 1  _ h hI hE0
set_option maxRecDepth 100000 in
set_option maxHeartbeats 4000000 in
theorem l_X6_succeeds_L22 (rc : Option Nat → Option Nat → Mem → Int32 → Int32 → Int32 → Option (Int32 × Mem)) {n : Nat} (hrc : ∀ (lw : Nat → Option Nat) (tl : Option Nat) (tt : Option Nat) (M : Mem) (x1 : Int32) (x2 : Int32) (x3 : Int32) (r : Int32) (M' : Mem), rc tl tt M x1 x2 x3 = some (r, M') → Cal yX6_succeeds cX6_succeeds 9 (some .boolean) 0 (5 + n) 0 0 false [vR (some 19), vI x1, vI x2, vI x3] LAYC (rfs lw tl tt) M (eqp (vI r) LAYC (rfs lw tl tt) M')) (lw : Nat → Option Nat) (tl : Option Nat) (tt : Option Nat) (x1 : Int32) (x3 : Int32) {Po : Po_} (er : Int32) (eM : Mem) : ∀ (k : Nat) (x4 : Int32) (M : Mem), loop (X6_succeeds_L22 rc tl tt x1 x3) k (x4, M) = some (er, eM) → (Po (vI er) LAYC (rfs lw tl tt) eM) → T RX6 cX6_succeeds 9 (some .boolean) 0 (5 + (n + 1)) 0 0 false Po 22 [aR (some 19), aI x1, aU, aI x3, aI x4, aU, aU, aU, aU] [] LAYC (rfs lw tl tt) M 0 0 := by
  intro k
  induction k with
  | zero => intro x4 M h; cases h
  | succ k ih =>
    intro x4 M h hE
    obtain ⟨x, hx, hx1, hx2⟩ := loop_succ h
    exact s_X6_succeeds_L22 rc hrc  lw tl tt x1 x3  x4 M x hx (fun q0 q1 e => ih q0 q1 (hx1 _ e) hE) (fun q0 q1 e => by cases hx2 _ e; exact hE)
set_option maxRecDepth 100000 in
set_option maxHeartbeats 4000000 in
theorem m_X6_succeeds : ∀ (n : Nat) (lw : Nat → Option Nat) (tl : Option Nat) (tt : Option Nat) (M : Mem) (x1 : Int32) (x2 : Int32) (x3 : Int32) (r : Int32) (M' : Mem), F_X6_succeeds n tl tt M x1 x2 x3 = some (r, M') → Cal yX6_succeeds cX6_succeeds 9 (some .boolean) 0 (5 + n) 0 0 false [vR (some 19), vI x1, vI x2, vI x3] LAYC (rfs lw tl tt) M (eqp (vI r) LAYC (rfs lw tl tt) M') := by
  intro n
  induction n with
  | zero => intro lw tl tt M x1 x2 x3 r M' h; cases h
  | succ n ih =>
    intro lw tl tt M x1 x2 x3 r M' h
    refine Cal.of (by decide +kernel) (Nat.le_of_ble_eq_true rfl) (fun h => by cases h) ?_
    simp only [F_X6_succeeds] at h
    show T RX6 cX6_succeeds 9 (some .boolean) 0 (5 + (n + 1)) 0 0 false (eqp (vI r) LAYC (rfs lw tl tt) M') 0 [aR (some 19), aI x1, aI x2, aI x3, aU, aU, aU, aU, aU] [] LAYC (rfs lw tl tt) M 0 0
    refine T_iload_n dX6_succeeds_0 rfl ?_
    refine T_iload_n dX6_succeeds_1 rfl ?_
    refine T_icmp_ge (tgt := 14) dX6_succeeds_2 (by decide) (fun hc => ?_) (fun hc => ?_)
    · have h := it_pos hc h
      refine T_mask [true, false, false, false, true, true, true, true, true] rfl ?_
      exact j_X6_succeeds_J14 _ ih  lw tl tt M  _ _ h
    · have h := it_neg hc h
      refine T_iload_n dX6_succeeds_5 rfl ?_
      refine T_aload_n dX6_succeeds_6 rfl ?_
      refine T_getR dX6_succeeds_7 clOK_X6 fl_X6_9 lyC_19 rfl rfl ?_
      refine T_alen dX6_succeeds_10 lyC_20 (Or.inl rfl) rfl ?_
      refine T_icmp_lt (tgt := 19) dX6_succeeds_11 (by decide) (fun hc => ?_) (fun hc => ?_)
      · have h := it_pos hc h
        refine T_iload_n dX6_succeeds_19 rfl ?_
        refine T_istore (i := 4) (L' := [aR (some 19), aI x1, aI x2, aI x3, aI x2, aU, aU, aU, aU]) dX6_succeeds_20 (Nat.le_of_ble_eq_true rfl) rfl ?_
        refine T_mask [true, true, false, true, true, true, true, true, true] rfl ?_
        exact l_X6_succeeds_L22 _ ih  lw tl tt x1 x3  _ _ FU x2 M h ⟨rfl, rfl, rfl, rfl⟩
      · have h := it_neg hc h
        refine T_mask [true, false, false, false, true, true, true, true, true] rfl ?_
        exact j_X6_succeeds_J14 _ ih  lw tl tt M  _ _ h
def X6_fewestMoves_L27 (tl : Option Nat) (tt : Option Nat) : Int32 × Mem → Option ((Int32 × Mem) ⊕ (Int32 × Mem))
  | (x2, M) =>
    if (nI 3) < x2 then some (.inr ((-9), M))
    else bd2 (F_X6_succeeds 8 tl tt M 0 0 x2) fun r_5 M_6 => if r_5 = 0 then lett (x2 + 1) fun x_8 => some (.inl (x_8, M_6))
    else some (.inr (x2, M_6))
def F_X6_fewestMoves (tl : Option Nat) (tt : Option Nat) (M : Mem) (p1 : Nat) : Option (Int32 × Mem) :=
 bd1 (F_X2_gardenOf M (gI M 19 6)) fun r_1 => if r_1 = 0 then some ((-9), M)
 else bd1 (F_X1_become M 21 p1) fun M_3 => loop (X6_fewestMoves_L27 tl tt) FU (0, M_3)
set_option maxRecDepth 100000 in
set_option maxHeartbeats 4000000 in
theorem s_X6_fewestMoves_L27 (lw : Nat → Option Nat) (tl : Option Nat) (tt : Option Nat) (x2 : Int32) (M : Mem) {Po : Po_} (x : (Int32 × Mem) ⊕ (Int32 × Mem)) (h : X6_fewestMoves_L27 tl tt (x2, M) = some x) (hI : ∀ (ix2 : Int32) (iM : Mem), x = .inl (ix2, iM) → T RX6 cX6_fewestMoves 3 (some .int) 0 14 0 0 false Po 27 [aR (some 19), aU, aI ix2] [] LAYC (rfs lw tl tt) iM 0 0) (hE0 : ∀ (er : Int32) (eM : Mem), x = .inr (er, eM) → Po (vI er) LAYC (rfs lw tl tt) eM) : T RX6 cX6_fewestMoves 3 (some .int) 0 14 0 0 false Po 27 [aR (some 19), aU, aI x2] [] LAYC (rfs lw tl tt) M 0 0 := by
  unfold X6_fewestMoves_L27 at h
  simp only at h
  refine T_iload_n dX6_fewestMoves_27 rfl ?_
  refine T_iconst dX6_fewestMoves_28 ic_3 ?_
  refine T_icmp_gt (tgt := 50) dX6_fewestMoves_29 (by decide) (fun hc => ?_) (fun hc => ?_)
  · have h := it_pos hc h
    refine T_bipush dX6_fewestMoves_50 bp_m9 ?_
    obtain rfl := sm1 h
    exact T_iret dX6_fewestMoves_52 (hE0 _ _ rfl)
  · have h := it_neg hc h
    refine T_aload_n dX6_fewestMoves_32 rfl ?_
    refine T_iconst dX6_fewestMoves_33 ic_0 ?_
    refine T_iconst dX6_fewestMoves_34 ic_0 ?_
    refine T_iload_n dX6_fewestMoves_35 rfl ?_
    obtain ⟨r_5, M_6, hc_7, h⟩ := bd2_some h
    refine T_cvi (as := [vI 0, vI 0, vI x2]) dX6_fewestMoves_36 cw_X6_succeeds ml_X6_52 mi_X6_succeeds se_X6_succeeds lyC_19 rfl (by decide) rfl (Nat.le_of_ble_eq_true rfl) (by omega) (m_X6_succeeds 8 lw tl tt M 0 0 x2  _ _ hc_7) ?_
    refine T_if_eq (tgt := 44) dX6_fewestMoves_39 (by decide) (fun hc => ?_) (fun hc => ?_)
    · have h := it_pos hc h
      obtain ⟨x_8, ex_9, h⟩ := lett_some h
      refine T_iinc (L' := [aR (some 19), aU, aI x_8]) dX6_fewestMoves_44 rfl (ic_inc ic_1 ex_9) (Nat.le_of_ble_eq_true rfl) rfl ?_
      refine T_goto (tgt := 27) dX6_fewestMoves_47 (by decide) ?_
      obtain rfl := sm1 h
      exact hI _ _ rfl
    · have h := it_neg hc h
      refine T_iload_n dX6_fewestMoves_42 rfl ?_
      obtain rfl := sm1 h
      exact T_iret dX6_fewestMoves_43 (hE0 _ _ rfl)
set_option maxRecDepth 100000 in
set_option maxHeartbeats 4000000 in
theorem l_X6_fewestMoves_L27 (lw : Nat → Option Nat) (tl : Option Nat) (tt : Option Nat) {Po : Po_} (er : Int32) (eM : Mem) : ∀ (k : Nat) (x2 : Int32) (M : Mem), loop (X6_fewestMoves_L27 tl tt) k (x2, M) = some (er, eM) → (Po (vI er) LAYC (rfs lw tl tt) eM) → T RX6 cX6_fewestMoves 3 (some .int) 0 14 0 0 false Po 27 [aR (some 19), aU, aI x2] [] LAYC (rfs lw tl tt) M 0 0 := by
  intro k
  induction k with
  | zero => intro x2 M h; cases h
  | succ k ih =>
    intro x2 M h hE
    obtain ⟨x, hx, hx1, hx2⟩ := loop_succ h
    exact s_X6_fewestMoves_L27  lw tl tt  x2 M x hx (fun q0 q1 e => ih q0 q1 (hx1 _ e) hE) (fun q0 q1 e => by cases hx2 _ e; exact hE)
set_option maxRecDepth 100000 in
set_option maxHeartbeats 4000000 in
theorem m_X6_fewestMoves (lw : Nat → Option Nat) (tl : Option Nat) (tt : Option Nat) (M : Mem) (p1 : Nat) (h1 : isX1 p1 = true) (r : Int32) (M' : Mem) (h : F_X6_fewestMoves tl tt M p1 = some (r, M')) : Cal yX6_fewestMoves cX6_fewestMoves 3 (some .int) 0 14 0 0 false [vR (some 19), vR (some p1)] LAYC (rfs lw tl tt) M (eqp (vI r) LAYC (rfs lw tl tt) M') := by
  refine Cal.of (by decide +kernel) (Nat.le_of_ble_eq_true rfl) (fun h => by cases h) ?_
  unfold F_X6_fewestMoves at h
  show T RX6 cX6_fewestMoves 3 (some .int) 0 14 0 0 false (eqp (vI r) LAYC (rfs lw tl tt) M') 0 [aR (some 19), aR (some p1), aU] [] LAYC (rfs lw tl tt) M 0 0
  refine T_aload_n dX6_fewestMoves_0 rfl ?_
  refine T_getR dX6_fewestMoves_1 clOK_X6 fl_X6_15 lyC_19 rfl rfl ?_
  refine T_aload_n dX6_fewestMoves_4 rfl ?_
  refine T_getI dX6_fewestMoves_5 clOK_X6 fl_X6_39 lyC_19 rfl ?_
  obtain ⟨r_1, hc_2, h⟩ := bd1_some h
  refine T_cvi (as := [vI (gI M 19 6)]) dX6_fewestMoves_8 cw_X2_gardenOf ml_X6_42 mi_X2_gardenOf se_X2_gardenOf lyC_7 rfl (by decide) rfl (Nat.le_of_ble_eq_true rfl) (Nat.le_of_ble_eq_true rfl) (m_X2_gardenOf lw tl tt M (gI M 19 6)  _ hc_2) ?_
  refine T_if_ne (tgt := 17) dX6_fewestMoves_11 (by decide) (fun hc => ?_) (fun hc => ?_)
  · have h := it_neg hc h
    refine T_aload_n dX6_fewestMoves_17 rfl ?_
    refine T_getR dX6_fewestMoves_18 clOK_X6 fl_X6_24 lyC_19 rfl rfl ?_
    refine T_aload_n dX6_fewestMoves_21 rfl ?_
    obtain ⟨M_3, hc_4, h⟩ := bd1_some h
    refine T_cvv (as := [vR (some p1)]) dX6_fewestMoves_22 cw_X1_become ml_X6_48 mi_X1_become se_X1_become lyC_21 rfl (by decide) rfl (Nat.le_of_ble_eq_true rfl) (Nat.le_of_ble_eq_true rfl) (m_X1_become lw tl tt M 21 p1 rfl h1 _ hc_4) ?_
    refine T_iconst dX6_fewestMoves_25 ic_0 ?_
    refine T_istore_n (i := 2) (L' := [aR (some 19), aR (some p1), aI 0]) dX6_fewestMoves_26 rfl (Nat.le_of_ble_eq_true rfl) rfl ?_
    refine T_mask [true, false, true] rfl ?_
    exact l_X6_fewestMoves_L27  lw tl tt  _ _ FU 0 M_3 h ⟨rfl, rfl, rfl, rfl⟩
  · have h := it_pos hc h
    refine T_bipush dX6_fewestMoves_14 bp_m9 ?_
    obtain ⟨rfl, rfl⟩ := sm2 h
    exact T_iret dX6_fewestMoves_16 ⟨rfl, rfl, rfl, rfl⟩
def X7_wrongIn_L22 (M : Mem) (p0 : Nat) : Int32 → Option ((Int32) ⊕ (Int32))
  | x2 =>
    bd1 (F_X5_size M p0) fun r_5 => if r_5 ≤ x2 then some (.inr 0)
    else bd1 (F_X5_get M p0 (x2 + 1)) fun r_7 => bd1 (F_X5_get M p0 (x2 + (nI 2))) fun r_9 => bd1 (F_X5_get M p0 x2) fun r_11 => bd1 (F_X2_has M r_11) fun r_13 => if r_13 = 0 then some (.inr (nI 3))
    else if r_7 < 0 then some (.inr (nI 3))
    else if (nI 5) < r_7 then some (.inr (nI 3))
    else if r_9 < 0 then some (.inr (nI 3))
    else if r_9 ≤ (nI 2) then lett (x2 + (nI 3)) fun x_15 => some (.inl x_15)
    else some (.inr (nI 3))
def F_X7_wrongIn (M : Mem) (p0 : Nat) : Option (Int32) :=
 bd1 (F_X5_isMissing M p0) fun r_1 => if r_1 = 0 then bd1 (F_X5_size M p0) fun r_3 => if (irm r_3 (nI 3)) = 0 then loop (X7_wrongIn_L22 M p0) FU 0
 else some (nI 5)
 else some 1
set_option maxRecDepth 100000 in
set_option maxHeartbeats 4000000 in
theorem s_X7_wrongIn_L22 (lw : Nat → Option Nat) (tl : Option Nat) (tt : Option Nat) (M : Mem) (p0 : Nat) (h0 : isX5 p0 = true) (x2 : Int32) {Po : Po_} (x : (Int32) ⊕ (Int32)) (h : X7_wrongIn_L22 M p0 x2 = some x) (hI : ∀ (ix2 : Int32), x = .inl ix2 → T RX7 cX7_wrongIn 5 (some .int) 0 3 0 0 false Po 22 [aR (some p0), aR (some 7), aI ix2, aU, aU] [] LAYC (rfs lw tl tt) M 0 0) (hE0 : ∀ (er : Int32), x = .inr er → Po (vI er) LAYC (rfs lw tl tt) M) : T RX7 cX7_wrongIn 5 (some .int) 0 3 0 0 false Po 22 [aR (some p0), aR (some 7), aI x2, aU, aU] [] LAYC (rfs lw tl tt) M 0 0 := by
  unfold X7_wrongIn_L22 at h
  simp only at h
  refine T_iload_n dX7_wrongIn_22 rfl ?_
  refine T_aload_n dX7_wrongIn_23 rfl ?_
  obtain ⟨r_5, hc_6, h⟩ := bd1_some h
  refine T_cvi (as := []) dX7_wrongIn_24 cw_X5_size ml_X7_15 mi_X5_size se_X5_size (lyX5 h0) rfl (by decide) rfl (Nat.le_of_ble_eq_true rfl) (Nat.le_of_ble_eq_true rfl) (m_X5_size lw tl tt M p0 h0 _ hc_6) ?_
  refine T_icmp_ge (tgt := 87) dX7_wrongIn_27 (by decide) (fun hc => ?_) (fun hc => ?_)
  · have h := it_pos hc h
    refine T_iconst dX7_wrongIn_87 ic_0 ?_
    obtain rfl := sm1 h
    exact T_iret dX7_wrongIn_88 (hE0 _ rfl)
  · have h := it_neg hc h
    refine T_aload_n dX7_wrongIn_30 rfl ?_
    refine T_iload_n dX7_wrongIn_31 rfl ?_
    refine T_iconst dX7_wrongIn_32 ic_1 ?_
    refine T_iadd dX7_wrongIn_33 ?_
    obtain ⟨r_7, hc_8, h⟩ := bd1_some h
    refine T_cvi (as := [vI (x2 + 1)]) dX7_wrongIn_34 cw_X5_get ml_X7_19 mi_X5_get se_X5_get (lyX5 h0) rfl (by decide) rfl (Nat.le_of_ble_eq_true rfl) (Nat.le_of_ble_eq_true rfl) (m_X5_get lw tl tt M p0 (x2 + 1) h0 _ hc_8) ?_
    refine T_istore_n (i := 3) (L' := [aR (some p0), aR (some 7), aI x2, aI r_7, aU]) dX7_wrongIn_37 rfl (Nat.le_of_ble_eq_true rfl) rfl ?_
    refine T_aload_n dX7_wrongIn_38 rfl ?_
    refine T_iload_n dX7_wrongIn_39 rfl ?_
    refine T_iconst dX7_wrongIn_40 ic_2 ?_
    refine T_iadd dX7_wrongIn_41 ?_
    obtain ⟨r_9, hc_10, h⟩ := bd1_some h
    refine T_cvi (as := [vI (x2 + (nI 2))]) dX7_wrongIn_42 cw_X5_get ml_X7_19 mi_X5_get se_X5_get (lyX5 h0) rfl (by decide) rfl (Nat.le_of_ble_eq_true rfl) (Nat.le_of_ble_eq_true rfl) (m_X5_get lw tl tt M p0 (x2 + (nI 2)) h0 _ hc_10) ?_
    refine T_istore (i := 4) (L' := [aR (some p0), aR (some 7), aI x2, aI r_7, aI r_9]) dX7_wrongIn_45 (Nat.le_of_ble_eq_true rfl) rfl ?_
    refine T_aload_n dX7_wrongIn_47 rfl ?_
    refine T_aload_n dX7_wrongIn_48 rfl ?_
    refine T_iload_n dX7_wrongIn_49 rfl ?_
    obtain ⟨r_11, hc_12, h⟩ := bd1_some h
    refine T_cvi (as := [vI x2]) dX7_wrongIn_50 cw_X5_get ml_X7_19 mi_X5_get se_X5_get (lyX5 h0) rfl (by decide) rfl (Nat.le_of_ble_eq_true rfl) (Nat.le_of_ble_eq_true rfl) (m_X5_get lw tl tt M p0 x2 h0 _ hc_12) ?_
    obtain ⟨r_13, hc_14, h⟩ := bd1_some h
    refine T_cvi (as := [vI r_11]) dX7_wrongIn_53 cw_X2_has ml_X7_23 mi_X2_has se_X2_has lyC_7 rfl (by decide) rfl (Nat.le_of_ble_eq_true rfl) (Nat.le_of_ble_eq_true rfl) (m_X2_has lw tl tt M r_11  _ hc_14) ?_
    refine T_if_eq (tgt := 79) dX7_wrongIn_56 (by decide) (fun hc => ?_) (fun hc => ?_)
    · have h := it_pos hc h
      refine T_iconst dX7_wrongIn_79 ic_3 ?_
      obtain rfl := sm1 h
      exact T_iret dX7_wrongIn_80 (hE0 _ rfl)
    · have h := it_neg hc h
      refine T_iload_n dX7_wrongIn_59 rfl ?_
      refine T_if_lt (tgt := 79) dX7_wrongIn_60 (by decide) (fun hc => ?_) (fun hc => ?_)
      · have h := it_pos hc h
        refine T_iconst dX7_wrongIn_79 ic_3 ?_
        obtain rfl := sm1 h
        exact T_iret dX7_wrongIn_80 (hE0 _ rfl)
      · have h := it_neg hc h
        refine T_iload_n dX7_wrongIn_63 rfl ?_
        refine T_iconst dX7_wrongIn_64 ic_5 ?_
        refine T_icmp_gt (tgt := 79) dX7_wrongIn_65 (by decide) (fun hc => ?_) (fun hc => ?_)
        · have h := it_pos hc h
          refine T_iconst dX7_wrongIn_79 ic_3 ?_
          obtain rfl := sm1 h
          exact T_iret dX7_wrongIn_80 (hE0 _ rfl)
        · have h := it_neg hc h
          refine T_iload dX7_wrongIn_68 rfl ?_
          refine T_if_lt (tgt := 79) dX7_wrongIn_70 (by decide) (fun hc => ?_) (fun hc => ?_)
          · have h := it_pos hc h
            refine T_iconst dX7_wrongIn_79 ic_3 ?_
            obtain rfl := sm1 h
            exact T_iret dX7_wrongIn_80 (hE0 _ rfl)
          · have h := it_neg hc h
            refine T_iload dX7_wrongIn_73 rfl ?_
            refine T_iconst dX7_wrongIn_75 ic_2 ?_
            refine T_icmp_le (tgt := 81) dX7_wrongIn_76 (by decide) (fun hc => ?_) (fun hc => ?_)
            · have h := it_pos hc h
              obtain ⟨x_15, ex_16, h⟩ := lett_some h
              refine T_iinc (L' := [aR (some p0), aR (some 7), aI x_15, aI r_7, aI r_9]) dX7_wrongIn_81 rfl (ic_inc ic_3 ex_16) (Nat.le_of_ble_eq_true rfl) rfl ?_
              refine T_goto (tgt := 22) dX7_wrongIn_84 (by decide) ?_
              obtain rfl := sm1 h
              refine T_mask [true, true, true, false, false] rfl ?_
              exact hI _ rfl
            · have h := it_neg hc h
              refine T_iconst dX7_wrongIn_79 ic_3 ?_
              obtain rfl := sm1 h
              exact T_iret dX7_wrongIn_80 (hE0 _ rfl)
set_option maxRecDepth 100000 in
set_option maxHeartbeats 4000000 in
theorem l_X7_wrongIn_L22 (lw : Nat → Option Nat) (tl : Option Nat) (tt : Option Nat) (M : Mem) (p0 : Nat) (h0 : isX5 p0 = true) {Po : Po_} (er : Int32) : ∀ (k : Nat) (x2 : Int32), loop (X7_wrongIn_L22 M p0) k x2 = some er → (Po (vI er) LAYC (rfs lw tl tt) M) → T RX7 cX7_wrongIn 5 (some .int) 0 3 0 0 false Po 22 [aR (some p0), aR (some 7), aI x2, aU, aU] [] LAYC (rfs lw tl tt) M 0 0 := by
  intro k
  induction k with
  | zero => intro x2 h; cases h
  | succ k ih =>
    intro x2 h hE
    obtain ⟨x, hx, hx1, hx2⟩ := loop_succ h
    exact s_X7_wrongIn_L22  lw tl tt M p0 h0 x2 x hx (fun q0 e => ih q0 (hx1 _ e) hE) (fun q0 e => by cases hx2 _ e; exact hE)
set_option maxRecDepth 100000 in
set_option maxHeartbeats 4000000 in
theorem m_X7_wrongIn (lw : Nat → Option Nat) (tl : Option Nat) (tt : Option Nat) (M : Mem) (p0 : Nat) (h0 : isX5 p0 = true) (r : Int32) (h : F_X7_wrongIn M p0 = some r) : Cal yX7_wrongIn cX7_wrongIn 5 (some .int) 0 3 0 0 false [vR (some p0), vR (some 7)] LAYC (rfs lw tl tt) M (eqp (vI r) LAYC (rfs lw tl tt) M) := by
  refine Cal.of (by decide +kernel) (Nat.le_of_ble_eq_true rfl) (fun h => by cases h) ?_
  unfold F_X7_wrongIn at h
  show T RX7 cX7_wrongIn 5 (some .int) 0 3 0 0 false (eqp (vI r) LAYC (rfs lw tl tt) M) 0 [aR (some p0), aR (some 7), aU, aU, aU] [] LAYC (rfs lw tl tt) M 0 0
  refine T_aload_n dX7_wrongIn_0 rfl ?_
  obtain ⟨r_1, hc_2, h⟩ := bd1_some h
  refine T_cvi (as := []) dX7_wrongIn_1 cw_X5_isMissing ml_X7_9 mi_X5_isMissing se_X5_isMissing (lyX5 h0) rfl (by decide) rfl (Nat.le_of_ble_eq_true rfl) (Nat.le_of_ble_eq_true rfl) (m_X5_isMissing lw tl tt M p0 h0 _ hc_2) ?_
  refine T_if_eq (tgt := 9) dX7_wrongIn_4 (by decide) (fun hc => ?_) (fun hc => ?_)
  · have h := it_pos hc h
    refine T_aload_n dX7_wrongIn_9 rfl ?_
    obtain ⟨r_3, hc_4, h⟩ := bd1_some h
    refine T_cvi (as := []) dX7_wrongIn_10 cw_X5_size ml_X7_15 mi_X5_size se_X5_size (lyX5 h0) rfl (by decide) rfl (Nat.le_of_ble_eq_true rfl) (Nat.le_of_ble_eq_true rfl) (m_X5_size lw tl tt M p0 h0 _ hc_4) ?_
    refine T_iconst dX7_wrongIn_13 ic_3 ?_
    refine T_irem dX7_wrongIn_14 (by decide) ?_
    refine T_if_eq (tgt := 20) dX7_wrongIn_15 (by decide) (fun hc => ?_) (fun hc => ?_)
    · have h := it_pos hc h
      refine T_iconst dX7_wrongIn_20 ic_0 ?_
      refine T_istore_n (i := 2) (L' := [aR (some p0), aR (some 7), aI 0, aU, aU]) dX7_wrongIn_21 rfl (Nat.le_of_ble_eq_true rfl) rfl ?_
      exact l_X7_wrongIn_L22  lw tl tt M p0 h0 _ FU 0 h ⟨rfl, rfl, rfl, rfl⟩
    · have h := it_neg hc h
      refine T_iconst dX7_wrongIn_18 ic_5 ?_
      obtain rfl := sm1 h
      exact T_iret dX7_wrongIn_19 ⟨rfl, rfl, rfl, rfl⟩
  · have h := it_neg hc h
    refine T_iconst dX7_wrongIn_7 ic_1 ?_
    obtain rfl := sm1 h
    exact T_iret dX7_wrongIn_8 ⟨rfl, rfl, rfl, rfl⟩
def F_X7_isLie (M : Mem) (p0 : Nat) (x1 : Int32) (x2 : Int32) : Option (Int32) :=
 bd1 (F_X5_get M p0 (x1 + 1)) fun r_1 => bd1 (F_X5_get M p0 (x1 + (nI 2))) fun r_3 => if r_3 = 0 then if x2 = r_1 then some 0
 else some 1
 else if r_3 = 1 then if r_1 ≤ x2 then some 0
 else some 1
 else if x2 ≤ r_1 then some 0
 else some 1
set_option maxRecDepth 100000 in
set_option maxHeartbeats 4000000 in
theorem m_X7_isLie (lw : Nat → Option Nat) (tl : Option Nat) (tt : Option Nat) (M : Mem) (p0 : Nat) (x1 : Int32) (x2 : Int32) (h0 : isX5 p0 = true) (r : Int32) (h : F_X7_isLie M p0 x1 x2 = some r) : Cal yX7_isLie cX7_isLie 4 (some .boolean) 0 3 0 0 false [vR (some p0), vI x1, vI x2] LAYC (rfs lw tl tt) M (eqp (vI r) LAYC (rfs lw tl tt) M) := by
  refine Cal.of (by decide +kernel) (Nat.le_of_ble_eq_true rfl) (fun h => by cases h) ?_
  unfold F_X7_isLie at h
  show T RX7 cX7_isLie 4 (some .boolean) 0 3 0 0 false (eqp (vI r) LAYC (rfs lw tl tt) M) 0 [aR (some p0), aI x1, aI x2, aU] [] LAYC (rfs lw tl tt) M 0 0
  refine T_aload_n dX7_isLie_0 rfl ?_
  refine T_iload_n dX7_isLie_1 rfl ?_
  refine T_iconst dX7_isLie_2 ic_1 ?_
  refine T_iadd dX7_isLie_3 ?_
  obtain ⟨r_1, hc_2, h⟩ := bd1_some h
  refine T_cvi (as := [vI (x1 + 1)]) dX7_isLie_4 cw_X5_get ml_X7_19 mi_X5_get se_X5_get (lyX5 h0) rfl (by decide) rfl (Nat.le_of_ble_eq_true rfl) (Nat.le_of_ble_eq_true rfl) (m_X5_get lw tl tt M p0 (x1 + 1) h0 _ hc_2) ?_
  refine T_istore_n (i := 3) (L' := [aR (some p0), aI x1, aI x2, aI r_1]) dX7_isLie_7 rfl (Nat.le_of_ble_eq_true rfl) rfl ?_
  refine T_aload_n dX7_isLie_8 rfl ?_
  refine T_iload_n dX7_isLie_9 rfl ?_
  refine T_iconst dX7_isLie_10 ic_2 ?_
  refine T_iadd dX7_isLie_11 ?_
  obtain ⟨r_3, hc_4, h⟩ := bd1_some h
  refine T_cvi (as := [vI (x1 + (nI 2))]) dX7_isLie_12 cw_X5_get ml_X7_19 mi_X5_get se_X5_get (lyX5 h0) rfl (by decide) rfl (Nat.le_of_ble_eq_true rfl) (Nat.le_of_ble_eq_true rfl) (m_X5_get lw tl tt M p0 (x1 + (nI 2)) h0 _ hc_4) ?_
  by_cases hs0 : r_3 = 0
  · have h := it_pos hs0 h
    refine T_eqI hs0 ?_
    refine T_lookup (off := 25) (tgt := 40) dX7_isLie_15 (by decide) (by decide) (by decide) ?_
    refine T_iload_n dX7_isLie_40 rfl ?_
    refine T_iload_n dX7_isLie_41 rfl ?_
    refine T_icmp_eq (tgt := 49) dX7_isLie_42 (by decide) (fun hc => ?_) (fun hc => ?_)
    · have h := it_pos hc h
      refine T_iconst dX7_isLie_49 ic_0 ?_
      obtain rfl := sm1 h
      exact T_zret dX7_isLie_50 (Or.inl rfl) ⟨rfl, rfl, rfl, rfl⟩
    · have h := it_neg hc h
      refine T_iconst dX7_isLie_45 ic_1 ?_
      refine T_goto (tgt := 50) dX7_isLie_46 (by decide) ?_
      obtain rfl := sm1 h
      exact T_zret dX7_isLie_50 (Or.inr rfl) ⟨rfl, rfl, rfl, rfl⟩
  · have h := it_neg hs0 h
    by_cases hs1 : r_3 = 1
    · have h := it_pos hs1 h
      refine T_eqI hs1 ?_
      refine T_lookup (off := 36) (tgt := 51) dX7_isLie_15 (by decide) (by decide) (by decide) ?_
      refine T_iload_n dX7_isLie_51 rfl ?_
      refine T_iload_n dX7_isLie_52 rfl ?_
      refine T_icmp_ge (tgt := 60) dX7_isLie_53 (by decide) (fun hc => ?_) (fun hc => ?_)
      · have h := it_pos hc h
        refine T_iconst dX7_isLie_60 ic_0 ?_
        obtain rfl := sm1 h
        exact T_zret dX7_isLie_61 (Or.inl rfl) ⟨rfl, rfl, rfl, rfl⟩
      · have h := it_neg hc h
        refine T_iconst dX7_isLie_56 ic_1 ?_
        refine T_goto (tgt := 61) dX7_isLie_57 (by decide) ?_
        obtain rfl := sm1 h
        exact T_zret dX7_isLie_61 (Or.inr rfl) ⟨rfl, rfl, rfl, rfl⟩
    · have h := it_neg hs1 h
      refine T_lookup (off := 47) (tgt := 62) dX7_isLie_15 (by decide) (look2 hs0 hs1) (by decide) ?_
      refine T_iload_n dX7_isLie_62 rfl ?_
      refine T_iload_n dX7_isLie_63 rfl ?_
      refine T_icmp_le (tgt := 71) dX7_isLie_64 (by decide) (fun hc => ?_) (fun hc => ?_)
      · have h := it_pos hc h
        refine T_iconst dX7_isLie_71 ic_0 ?_
        obtain rfl := sm1 h
        exact T_zret dX7_isLie_72 (Or.inl rfl) ⟨rfl, rfl, rfl, rfl⟩
      · have h := it_neg hc h
        refine T_iconst dX7_isLie_67 ic_1 ?_
        refine T_goto (tgt := 72) dX7_isLie_68 (by decide) ?_
        obtain rfl := sm1 h
        exact T_zret dX7_isLie_72 (Or.inr rfl) ⟨rfl, rfl, rfl, rfl⟩
def X7_liarsOf_L4 (M : Mem) (p0 : Nat) (p1 : Nat) : Int32 × Int32 → Option ((Int32 × Int32) ⊕ (Int32))
  | (x2, x3) =>
    bd1 (F_X5_size M p0) fun r_1 => if r_1 ≤ x3 then some (.inr x2)
    else bd1 (F_X5_get M p0 x3) fun r_3 => bd1 (F_X1_depthAt M p1 r_3) fun r_5 => bd1 (F_X7_isLie M p0 x3 r_5) fun r_7 => if r_7 = 0 then lett (x3 + (nI 3)) fun x_9 => some (.inl (x2, x_9))
    else lett (x2 + 1) fun x_11 => lett (x3 + (nI 3)) fun x_13 => some (.inl (x_11, x_13))
def F_X7_liarsOf (M : Mem) (p0 : Nat) (p1 : Nat) : Option (Int32) :=
 loop (X7_liarsOf_L4 M p0 p1) FU (0, 0)
set_option maxRecDepth 100000 in
set_option maxHeartbeats 4000000 in
theorem s_X7_liarsOf_L4 (lw : Nat → Option Nat) (tl : Option Nat) (tt : Option Nat) (M : Mem) (p0 : Nat) (p1 : Nat) (h0 : isX5 p0 = true) (h1 : isX1 p1 = true) (x2 : Int32) (x3 : Int32) {Po : Po_} (x : (Int32 × Int32) ⊕ (Int32)) (h : X7_liarsOf_L4 M p0 p1 (x2, x3) = some x) (hI : ∀ (ix2 : Int32) (ix3 : Int32), x = .inl (ix2, ix3) → T RX7 cX7_liarsOf 4 (some .int) 0 4 0 0 false Po 4 [aR (some p0), aR (some p1), aI ix2, aI ix3] [] LAYC (rfs lw tl tt) M 0 0) (hE0 : ∀ (er : Int32), x = .inr er → Po (vI er) LAYC (rfs lw tl tt) M) : T RX7 cX7_liarsOf 4 (some .int) 0 4 0 0 false Po 4 [aR (some p0), aR (some p1), aI x2, aI x3] [] LAYC (rfs lw tl tt) M 0 0 := by
  unfold X7_liarsOf_L4 at h
  simp only at h
  refine T_iload_n dX7_liarsOf_4 rfl ?_
  refine T_aload_n dX7_liarsOf_5 rfl ?_
  obtain ⟨r_1, hc_2, h⟩ := bd1_some h
  refine T_cvi (as := []) dX7_liarsOf_6 cw_X5_size ml_X7_15 mi_X5_size se_X5_size (lyX5 h0) rfl (by decide) rfl (Nat.le_of_ble_eq_true rfl) (Nat.le_of_ble_eq_true rfl) (m_X5_size lw tl tt M p0 h0 _ hc_2) ?_
  refine T_icmp_ge (tgt := 38) dX7_liarsOf_9 (by decide) (fun hc => ?_) (fun hc => ?_)
  · have h := it_pos hc h
    refine T_iload_n dX7_liarsOf_38 rfl ?_
    obtain rfl := sm1 h
    exact T_iret dX7_liarsOf_39 (hE0 _ rfl)
  · have h := it_neg hc h
    refine T_aload_n dX7_liarsOf_12 rfl ?_
    refine T_iload_n dX7_liarsOf_13 rfl ?_
    refine T_aload_n dX7_liarsOf_14 rfl ?_
    refine T_aload_n dX7_liarsOf_15 rfl ?_
    refine T_iload_n dX7_liarsOf_16 rfl ?_
    obtain ⟨r_3, hc_4, h⟩ := bd1_some h
    refine T_cvi (as := [vI x3]) dX7_liarsOf_17 cw_X5_get ml_X7_19 mi_X5_get se_X5_get (lyX5 h0) rfl (by decide) rfl (Nat.le_of_ble_eq_true rfl) (Nat.le_of_ble_eq_true rfl) (m_X5_get lw tl tt M p0 x3 h0 _ hc_4) ?_
    obtain ⟨r_5, hc_6, h⟩ := bd1_some h
    refine T_cvi (as := [vI r_3]) dX7_liarsOf_20 cw_X1_depthAt ml_X7_31 mi_X1_depthAt se_X1_depthAt (lyX1 h1) rfl (by decide) rfl (Nat.le_of_ble_eq_true rfl) (Nat.le_of_ble_eq_true rfl) (m_X1_depthAt lw tl tt M p1 r_3 h1 _ hc_6) ?_
    obtain ⟨r_7, hc_8, h⟩ := bd1_some h
    refine T_csi (as := [vR (some p0), vI x3, vI r_5]) dX7_liarsOf_23 cw_X7_isLie ml_X7_36 mt_X7_isLie rfl (Nat.le_of_ble_eq_true rfl) (Nat.le_of_ble_eq_true rfl) (m_X7_isLie lw tl tt M p0 x3 r_5 h0 _ hc_8) ?_
    refine T_if_eq (tgt := 32) dX7_liarsOf_26 (by decide) (fun hc => ?_) (fun hc => ?_)
    · have h := it_pos hc h
      obtain ⟨x_9, ex_10, h⟩ := lett_some h
      refine T_iinc (L' := [aR (some p0), aR (some p1), aI x2, aI x_9]) dX7_liarsOf_32 rfl (ic_inc ic_3 ex_10) (Nat.le_of_ble_eq_true rfl) rfl ?_
      refine T_goto (tgt := 4) dX7_liarsOf_35 (by decide) ?_
      obtain rfl := sm1 h
      exact hI _ _ rfl
    · have h := it_neg hc h
      obtain ⟨x_11, ex_12, h⟩ := lett_some h
      refine T_iinc (L' := [aR (some p0), aR (some p1), aI x_11, aI x3]) dX7_liarsOf_29 rfl (ic_inc ic_1 ex_12) (Nat.le_of_ble_eq_true rfl) rfl ?_
      obtain ⟨x_13, ex_14, h⟩ := lett_some h
      refine T_iinc (L' := [aR (some p0), aR (some p1), aI x_11, aI x_13]) dX7_liarsOf_32 rfl (ic_inc ic_3 ex_14) (Nat.le_of_ble_eq_true rfl) rfl ?_
      refine T_goto (tgt := 4) dX7_liarsOf_35 (by decide) ?_
      obtain rfl := sm1 h
      exact hI _ _ rfl
set_option maxRecDepth 100000 in
set_option maxHeartbeats 4000000 in
theorem l_X7_liarsOf_L4 (lw : Nat → Option Nat) (tl : Option Nat) (tt : Option Nat) (M : Mem) (p0 : Nat) (p1 : Nat) (h0 : isX5 p0 = true) (h1 : isX1 p1 = true) {Po : Po_} (er : Int32) : ∀ (k : Nat) (x2 : Int32) (x3 : Int32), loop (X7_liarsOf_L4 M p0 p1) k (x2, x3) = some er → (Po (vI er) LAYC (rfs lw tl tt) M) → T RX7 cX7_liarsOf 4 (some .int) 0 4 0 0 false Po 4 [aR (some p0), aR (some p1), aI x2, aI x3] [] LAYC (rfs lw tl tt) M 0 0 := by
  intro k
  induction k with
  | zero => intro x2 x3 h; cases h
  | succ k ih =>
    intro x2 x3 h hE
    obtain ⟨x, hx, hx1, hx2⟩ := loop_succ h
    exact s_X7_liarsOf_L4  lw tl tt M p0 p1 h0 h1 x2 x3 x hx (fun q0 q1 e => ih q0 q1 (hx1 _ e) hE) (fun q0 e => by cases hx2 _ e; exact hE)
set_option maxRecDepth 100000 in
set_option maxHeartbeats 4000000 in
theorem m_X7_liarsOf (lw : Nat → Option Nat) (tl : Option Nat) (tt : Option Nat) (M : Mem) (p0 : Nat) (p1 : Nat) (h0 : isX5 p0 = true) (h1 : isX1 p1 = true) (r : Int32) (h : F_X7_liarsOf M p0 p1 = some r) : Cal yX7_liarsOf cX7_liarsOf 4 (some .int) 0 4 0 0 false [vR (some p0), vR (some p1)] LAYC (rfs lw tl tt) M (eqp (vI r) LAYC (rfs lw tl tt) M) := by
  refine Cal.of (by decide +kernel) (Nat.le_of_ble_eq_true rfl) (fun h => by cases h) ?_
  unfold F_X7_liarsOf at h
  show T RX7 cX7_liarsOf 4 (some .int) 0 4 0 0 false (eqp (vI r) LAYC (rfs lw tl tt) M) 0 [aR (some p0), aR (some p1), aU, aU] [] LAYC (rfs lw tl tt) M 0 0
  refine T_iconst dX7_liarsOf_0 ic_0 ?_
  refine T_istore_n (i := 2) (L' := [aR (some p0), aR (some p1), aI 0, aU]) dX7_liarsOf_1 rfl (Nat.le_of_ble_eq_true rfl) rfl ?_
  refine T_iconst dX7_liarsOf_2 ic_0 ?_
  refine T_istore_n (i := 3) (L' := [aR (some p0), aR (some p1), aI 0, aI 0]) dX7_liarsOf_3 rfl (Nat.le_of_ble_eq_true rfl) rfl ?_
  exact l_X7_liarsOf_L4  lw tl tt M p0 p1 h0 h1 _ FU 0 0 h ⟨rfl, rfl, rfl, rfl⟩
