/-! ===== count ===== -/
def tlb (N : Mem) (q : Nat) (K : Nat → Nat) (k i : Nat) : Bool :=
  if k = 6 then decide (i < q) && isa (K i) 1 else if k = 7 then decide (0 ≤ gI N 2 i) else if k = 8 then decide (i < 4) && decide (0 ≤ gI N 5 i) else if k = 9 then decide (i < 3) && decide (gI N 14 i = 1) else false
theorem nk {k j : Nat} (hk : k < 10) (h : k ≠ j) (hj : j < 10) : ¬ nI k = nI j := fun z => h ((nI_eq (by omega) (by omega)).mp z)
theorem tl_69o {N : Mem} {k c i : Nat} (hk : k < 10) (h : k ≠ 9) : X9_tells_J69 N (nI k) (nI i) (nI c) = some (.inl (nI c, nI (i + 1))) := by
  unfold X9_tells_J69
  rw [if_neg (nk hk h (by decide))]
  simp only [lets]
  rw [nI_add0, nI_1]
theorem tl_49o {N : Mem} {k c i : Nat} (hk : k < 10) (h : k ≠ 9) (h8 : k ≠ 8) : X9_tells_J49 N (nI k) (nI i) (nI c) = some (.inl (nI c, nI (i + 1))) := by
  unfold X9_tells_J49
  rw [if_neg (nk hk h8 (by decide)), tl_69o hk h]
theorem tl_34o {N : Mem} {k c i : Nat} (hk : k < 10) (h : k ≠ 9) (h8 : k ≠ 8) (h7 : k ≠ 7) : X9_tells_J34 N (nI k) (nI i) (nI c) = some (.inl (nI c, nI (i + 1))) := by
  unfold X9_tells_J34
  rw [if_neg (nk hk h7 (by decide)), tl_49o hk h h8]
theorem tl_69 {N : Mem} {c i : Nat} (hi : i < 6) : X9_tells_J69 N (nI 9) (nI i) (nI c) = some (.inl (nI (c + b01 (decide (i < 3) && decide (gI N 14 i = 1))), nI (i + 1))) := by
  unfold X9_tells_J69
  rw [if_pos rfl]
  by_cases h : i < 3
  · rw [if_neg (nI_nleN h (by decide)), chk_pos (inb_nI h (by decide)), clN (by omega)]
    by_cases e : gI N 14 i = 1
    · rw [if_pos e]
      simp only [lets]
      rw [nI_1, nI_1]
      simp [h, e, b01]
    · rw [if_neg e]
      simp only [lets]
      rw [nI_add0, nI_1]
      simp [h, e, b01]
  · rw [if_pos (nI_le (by omega) (by omega))]
    simp only [lets]
    rw [nI_add0, nI_1]
    simp [h, b01]
theorem tells_st {N : Mem} {q : Nat} {K : Nat → Nat} (h1 : q ≤ 6) (h3 : gI N 0 12 = nI q) (h4 : ∀ j, j < q → K j < 6 ∧ gI N 9 j = nI (K j)) {k i c : Nat} (hk : k < 10) (hi : i < 6) : X9_tells_L4 N (nI k) (nI c, nI i) = some (.inl (nI (c + b01 (tlb N q K k i)), nI (i + 1))) := by
  rw [X9_tells_L4, if_neg (nI_nleN hi (by decide))]
  unfold tlb
  by_cases k6 : k = 6
  · subst k6
    rw [if_pos rfl, if_pos rfl, h3]
    by_cases hq : i < q
    · obtain ⟨z1, z2⟩ := h4 i hq
      have e1 : F_X9_isA N (nI i) 1 = some (nI (b01 (isa (K i) 1))) := isA_eq hi z2 z1 (by decide) (by decide)
      rw [if_neg (nI_nleN hq (by omega)), bd1e e1, decide_eq_true hq, Bool.true_and]
      cases isa (K i) 1
      · rw [if_pos (show nI (b01 false) = 0 from rfl), tl_34o (by decide) (by decide) (by decide) (by decide)]
        rfl
      · rw [if_neg (show ¬ nI (b01 true) = 0 by decide)]
        simp only [lets]
        rw [nI_1, nI_1]
        rfl
    · rw [if_pos (nI_le (by omega) (by omega)), tl_34o (by decide) (by decide) (by decide) (by decide), decide_eq_false hq]
      rfl
  · rw [if_neg (nk hk k6 (by decide)), if_neg k6]
    by_cases k7 : k = 7
    · subst k7
      unfold X9_tells_J34
      rw [if_pos rfl, if_pos rfl, chk_pos (inb_nI hi (by decide)), clN (by omega)]
      by_cases e : 0 ≤ gI N 2 i
      · rw [if_pos e, decide_eq_true e]
        simp only [lets]
        rw [nI_1, nI_1]
        rfl
      · rw [if_neg e, decide_eq_false e, tl_49o (by decide) (by decide) (by decide)]
        rfl
    · unfold X9_tells_J34
      rw [if_neg (nk hk k7 (by decide)), if_neg k7]
      by_cases k8 : k = 8
      · subst k8
        unfold X9_tells_J49
        rw [if_pos rfl, if_pos rfl]
        by_cases h : i < 4
        · rw [if_neg (nI_nleN h (by decide)), chk_pos (inb_nI h (by decide)), clN (by omega), decide_eq_true h, Bool.true_and]
          by_cases e : 0 ≤ gI N 5 i
          · rw [if_pos e, decide_eq_true e]
            simp only [lets]
            rw [nI_1, nI_1]
            rfl
          · rw [if_neg e, decide_eq_false e, tl_69o (by decide) (by decide)]
            rfl
        · rw [if_pos (nI_le (by omega) (by omega)), tl_69o (by decide) (by decide), decide_eq_false h]
          rfl
      · unfold X9_tells_J49
        rw [if_neg (nk hk k8 (by decide)), if_neg k8]
        by_cases k9 : k = 9
        · subst k9
          rw [tl_69 hi, if_pos rfl]
        · rw [tl_69o hk k9, if_neg k9]
          rfl
theorem tells_loop {N : Mem} {q : Nat} {K : Nat → Nat} (h1 : q ≤ 6) (h3 : gI N 0 12 = nI q) (h4 : ∀ j, j < q → K j < 6 ∧ gI N 9 j = nI (K j)) {k : Nat} (hk : k < 10) : loop (X9_tells_L4 N (nI k)) FU (0, 0) = some (nI (sm (fun i => b01 (tlb N q K k i)) 6)) := by
  refine loop_fn' (fun i => (nI (sm (fun i => b01 (tlb N q K k i)) i), nI i)) 6 rfl (fun i hi => ?_) ?_ (by decide)
  · show X9_tells_L4 N (nI k) (_, _) = _
    rw [tells_st h1 h3 h4 hk hi]
    rfl
  · show X9_tells_L4 N (nI k) (_, _) = _
    rw [X9_tells_L4, if_pos (nI_le (Nat.le_refl _) (by decide))]
theorem strip_row {M N : Mem} (h : Rows M N) : ∀ i, i < 6 → finC 1 i = some (26 + 2 * i) ∧ isX5 (26 + 2 * i) = true ∧ F_X5_isMissing M (26 + 2 * i) = some (if decide (0 ≤ gI N 2 i) then 0 else 1) := by
  intro i hi
  refine ⟨?_, isX5_row hi, ?_⟩
  · have : i = 0 ∨ i = 1 ∨ i = 2 ∨ i = 3 ∨ i = 4 ∨ i = 5 := by omega
    rcases this with rfl | rfl | rfl | rfl | rfl | rfl <;> rfl
  · rcases h i hi with ⟨e1, e2⟩ | ⟨n, e0, e1, e2, -⟩
    · rw [missing_yes e1, e2]; rfl
    · rw [missing_no e1 (by omega), e2, if_pos (decide_eq_true (show (0 : Int32) ≤ nI n from nI_le (a := 0) (by omega) (by omega)))]
theorem strip_txt {M N : Mem} (h : Txts M N) : ∀ i, i < 4 → finC 2 i = some (38 + 2 * i) ∧ isX5 (38 + 2 * i) = true ∧ F_X5_isMissing M (38 + 2 * i) = some (if decide (0 ≤ gI N 5 i) then 0 else 1) := by
  intro i hi
  refine ⟨?_, isX5_txt hi, ?_⟩
  · have : i = 0 ∨ i = 1 ∨ i = 2 ∨ i = 3 := by omega
    rcases this with rfl | rfl | rfl | rfl <;> rfl
  · rcases h i hi with ⟨e1, e2⟩ | ⟨n, e0, e1, e2, -⟩
    · rw [missing_yes e1, e2]; rfl
    · rw [missing_no e1 (by omega), e2, if_pos (decide_eq_true (show (0 : Int32) ≤ nI n from nI_le (a := 0) (by omega) (by omega)))]
theorem op_count {lw : Nat → Option Nat} (tl tt : Option Nat) {M N : Mem} {t : Nat} (ht : t ≤ 3100) (h : Rel t lw M N) (a1 : Int32) : ∃ (r : Int32) (N' : Mem), F_X8_count lw M a1 = some r ∧ F_X9_count N a1 = some (r, N') ∧ Rel (t + 1) lw M N' := by
  obtain ⟨h0, q, K, h1, h2, h3, h4⟩ := h.laws
  rcases cut 10 (by decide) a1 with z | ⟨k, hk, rfl⟩
  · refine ⟨-1, N, ?_, ?_, h.up⟩
    · rw [F_X8_count]
      by_cases y : a1 < 0
      · rw [if_pos y]
      · rw [if_neg y, if_neg (not_lt_of (z.resolve_left y) (by decide))]
    · rw [F_X9_count, bd1e (in_no (z.imp_right (fun y => lt_of_le y (by decide)))), if_pos rfl]
  · have hC : ∀ x, F_X8_counted lw M (nI k) = some x → F_X8_count lw M (nI k) = some x := fun x hx => by
      rw [F_X8_count, if_neg (nneg k (by omega)), if_pos (nI_lt hk (by decide)), bd1e hx]
    have hM : ∀ x N', F_X9_tells N (nI k) = some (x, N') → F_X9_count N (nI k) = some (x, N') := fun x N' hx => by
      rw [F_X9_count, bd1e (in_yes (nneg k (by omega)) (by rw [nI_ltI (by decide) (by omega)]; omega)), if_neg n10, bd2e hx]
    have hL := tells_loop h1 h3 (fun j hj => ⟨(h4 j hj).1, (h4 j hj).2.2⟩) hk
    obtain ⟨m, w, gd, d, e, hd, hw, he, hl, hg, hm, hi, hdd, -⟩ := h.2.2.2
    obtain ⟨l1, l2, l3, l4, -⟩ := hl
    obtain ⟨g1, g2, g3, g4, g5, g6, g7⟩ := hg
    have hk' : k = 0 ∨ k = 1 ∨ k = 2 ∨ k = 3 ∨ k = 4 ∨ k = 5 ∨ k = 6 ∨ k = 7 ∨ k = 8 ∨ k = 9 := by omega
    rcases hk' with rfl | rfl | rfl | rfl | rfl | rfl | rfl | rfl | rfl | rfl
    · exact ⟨nI m, N, hC _ (by rw [F_X8_counted, if_pos e00, l1]), hM _ _ (by rw [F_X9_tells, bd1e hL, if_pos e00, l3]), h.up⟩
    · exact ⟨nI w, N, hC _ (by rw [F_X8_counted, if_neg (by decide), if_pos e11, l2]), hM _ _ (by rw [F_X9_tells, bd1e hL, if_neg (by decide), if_pos e11, l4]), h.up⟩
    · obtain ⟨N', f1, f2, f3, f4, f5⟩ := layHoles_eq hd l3 l4 hw hm.1
      refine ⟨nI (HL m w (dg d)).length, N', hC _ ?_, hM _ _ ?_, (h.lay f4 f5).up⟩
      · rw [F_X8_counted, if_neg (by decide), if_neg (by decide), if_pos rfl, g4]
      · have e1 : F_X9_holeCount N = some (nI (HL m w (dg d)).length, N') := by rw [F_X9_holeCount, bd1e f1, f2]
        rw [F_X9_tells, bd1e hL, if_neg (by decide), if_neg (by decide), if_pos rfl, bd2e e1]
    · exact ⟨nI e, N, hC _ (by rw [F_X8_counted, if_neg (by decide), if_neg (by decide), if_neg (by decide), if_pos rfl, g6]), hM _ _ (by rw [F_X9_tells, bd1e hL, if_neg (by decide), if_neg (by decide), if_neg (by decide), if_pos rfl, hm.2]), h.up⟩
    · obtain ⟨qd, D, E, d1, d2, d3, -⟩ := hdd
      exact ⟨nI qd, N, hC _ (by rw [F_X8_counted, if_neg (by decide), if_neg (by decide), if_neg (by decide), if_neg (by decide), if_pos rfl, F_X0_size, bd1s, d2]), hM _ _ (by rw [F_X9_tells, bd1e hL, if_neg (by decide), if_neg (by decide), if_neg (by decide), if_neg (by decide), if_pos rfl, d3]), h.up⟩
    · exact ⟨nI q, N, hC _ (by rw [F_X8_counted, if_neg (by decide), if_neg (by decide), if_neg (by decide), if_neg (by decide), if_neg (by decide), if_pos rfl, h2]), hM _ _ (by rw [F_X9_tells, bd1e hL, if_neg (by decide), if_neg (by decide), if_neg (by decide), if_neg (by decide), if_neg (by decide), if_pos rfl, h3]), h.up⟩
    · have e1 : sm (fun i => b01 (tlb N q K 6 i)) 6 = sm (fun i => b01 (isa (K i) 1)) q := by
        rw [sm_ext h1 (fun i y1 _ => by unfold tlb; rw [if_pos rfl, decide_eq_false (by omega)]; rfl)]
        exact sm_congr (fun i hi => by unfold tlb; rw [if_pos rfl, decide_eq_true hi, Bool.true_and])
      rw [e1] at hL
      refine ⟨nI (sm (fun i => b01 (isa (K i) 1)) q), N, hC _ ?_, hM _ _ ?_, h.up⟩
      · rw [F_X8_counted, if_neg (by decide), if_neg (by decide), if_neg (by decide), if_neg (by decide), if_neg (by decide), if_neg (by decide), if_pos rfl, bd1e (rim_eq h0 h1 h2 (fun j hj => ⟨(h4 j hj).1, (h4 j hj).2.1⟩))]
      · rw [F_X9_tells, bd1e hL, if_neg (by decide), if_neg (by decide), if_neg (by decide), if_neg (by decide), if_neg (by decide), if_neg (by decide)]
    · have e1 : sm (fun i => b01 (tlb N q K 7 i)) 6 = sm (fun i => b01 (decide (0 ≤ gI N 2 i))) 6 := rfl
      rw [e1] at hL
      refine ⟨nI (sm (fun i => b01 (decide (0 ≤ gI N 2 i))) 6), N, hC _ ?_, hM _ _ ?_, h.up⟩
      · rw [F_X8_counted, if_neg (by decide), if_neg (by decide), if_neg (by decide), if_neg (by decide), if_neg (by decide), if_neg (by decide), if_neg (by decide), if_pos rfl, bd1e (strips_eq (n := 6) rfl (by decide) (strip_row h.2.1))]
      · rw [F_X9_tells, bd1e hL, if_neg (by decide), if_neg (by decide), if_neg (by decide), if_neg (by decide), if_neg (by decide), if_neg (by decide)]
    · have e1 : sm (fun i => b01 (tlb N q K 8 i)) 6 = sm (fun i => b01 (decide (0 ≤ gI N 5 i))) 4 := by
        rw [sm_ext (show 4 ≤ 6 by decide) (fun i y1 _ => by unfold tlb; rw [if_neg (by decide), if_neg (by decide), if_pos rfl, decide_eq_false (by omega)]; rfl)]
        exact sm_congr (fun i hi => by unfold tlb; rw [if_neg (by decide), if_neg (by decide), if_pos rfl, decide_eq_true hi, Bool.true_and])
      rw [e1] at hL
      refine ⟨nI (sm (fun i => b01 (decide (0 ≤ gI N 5 i))) 4), N, hC _ ?_, hM _ _ ?_, h.up⟩
      · rw [F_X8_counted, if_neg (by decide), if_neg (by decide), if_neg (by decide), if_neg (by decide), if_neg (by decide), if_neg (by decide), if_neg (by decide), if_neg (by decide), if_pos rfl, bd1e (strips_eq (n := 4) rfl (by decide) (strip_txt h.2.2.1))]
      · rw [F_X9_tells, bd1e hL, if_neg (by decide), if_neg (by decide), if_neg (by decide), if_neg (by decide), if_neg (by decide), if_neg (by decide)]
    · have e1 : sm (fun i => b01 (tlb N q K 9 i)) 6 = sm (fun i => b01 (decide (gI N 14 i = 1))) 3 := by
        rw [sm_ext (show 3 ≤ 6 by decide) (fun i y1 _ => by unfold tlb; rw [if_neg (by decide), if_neg (by decide), if_neg (by decide), if_pos rfl, decide_eq_false (by omega)]; rfl)]
        exact sm_congr (fun i hi => by unfold tlb; rw [if_neg (by decide), if_neg (by decide), if_neg (by decide), if_pos rfl, decide_eq_true hi, Bool.true_and])
      rw [e1] at hL
      refine ⟨nI (sm (fun i => b01 (decide (gI N 14 i = 1))) 3), N, hC _ ?_, hM _ _ ?_, h.up⟩
      · rw [F_X8_counted, if_neg (by decide), if_neg (by decide), if_neg (by decide), if_neg (by decide), if_neg (by decide), if_neg (by decide), if_neg (by decide), if_neg (by decide), if_neg (by decide), bd1e (images_eq (g := fun i => decide (gI N 14 i = 1)) (fun i h3 => by
          rcases hi i h3 with ⟨y1, y2⟩ | ⟨y1, -, d', e', -, -, y2, -⟩
          · exact Or.inl ⟨y1, by rw [y2]; rfl⟩
          · exact Or.inr ⟨y2.2.2.2.2.2.2, by rw [y1]; rfl⟩))]
      · rw [F_X9_tells, bd1e hL, if_neg (by decide), if_neg (by decide), if_neg (by decide), if_neg (by decide), if_neg (by decide), if_neg (by decide)]
