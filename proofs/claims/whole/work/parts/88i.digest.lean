/-! ===== digest ===== -/
def Frl (N N' : Mem) : Prop := (∀ q k, q ≠ 11 → ¬ (q = 0 ∧ k = 23) → gI N' q k = gI N q k) ∧ ∀ q k, gJ N' q k = gJ N q k
theorem count_eq {lw : Nat → Option Nat} {M N : Mem} {t : Nat} (h : Rel t lw M N) {k : Nat} (hk : k < 10) : ∃ (x : Int32) (N' : Mem), F_X8_counted lw M (nI k) = some x ∧ F_X9_tells N (nI k) = some (x, N') ∧ Frl N N' := by
  obtain ⟨h0, q, K, h1, h2, h3, h4⟩ := h.laws
  have fr0 : Frl N N := ⟨fun _ _ _ _ => rfl, fun _ _ => rfl⟩
  have hC : ∀ x, F_X8_counted lw M (nI k) = some x → F_X8_counted lw M (nI k) = some x := fun _ hx => hx
  have hM : ∀ x N', F_X9_tells N (nI k) = some (x, N') → F_X9_tells N (nI k) = some (x, N') := fun _ _ hx => hx
  have hL := tells_loop h1 h3 (fun j hj => ⟨(h4 j hj).1, (h4 j hj).2.2⟩) hk
  obtain ⟨m, w, gd, d, e, hd, hw, he, hl, hg, hm, hi, hdd, -⟩ := h.2.2.2
  obtain ⟨l1, l2, l3, l4, -⟩ := hl
  obtain ⟨g1, g2, g3, g4, g5, g6, g7⟩ := hg
  have hk' : k = 0 ∨ k = 1 ∨ k = 2 ∨ k = 3 ∨ k = 4 ∨ k = 5 ∨ k = 6 ∨ k = 7 ∨ k = 8 ∨ k = 9 := by omega
  rcases hk' with rfl | rfl | rfl | rfl | rfl | rfl | rfl | rfl | rfl | rfl
  · exact ⟨nI m, N, hC _ (by rw [F_X8_counted, if_pos e00, l1]), hM _ _ (by rw [F_X9_tells, bd1e hL, if_pos e00, l3]), fr0⟩
  · exact ⟨nI w, N, hC _ (by rw [F_X8_counted, if_neg (by decide), if_pos e11, l2]), hM _ _ (by rw [F_X9_tells, bd1e hL, if_neg (by decide), if_pos e11, l4]), fr0⟩
  · obtain ⟨N', f1, f2, f3, f4, f5⟩ := layHoles_eq hd l3 l4 hw hm.1
    refine ⟨nI (HL m w (dg d)).length, N', hC _ ?_, hM _ _ ?_, ⟨f4, f5⟩⟩
    · rw [F_X8_counted, if_neg (by decide), if_neg (by decide), if_pos rfl, g4]
    · have e1 : F_X9_holeCount N = some (nI (HL m w (dg d)).length, N') := by rw [F_X9_holeCount, bd1e f1, f2]
      rw [F_X9_tells, bd1e hL, if_neg (by decide), if_neg (by decide), if_pos rfl, bd2e e1]
  · exact ⟨nI e, N, hC _ (by rw [F_X8_counted, if_neg (by decide), if_neg (by decide), if_neg (by decide), if_pos rfl, g6]), hM _ _ (by rw [F_X9_tells, bd1e hL, if_neg (by decide), if_neg (by decide), if_neg (by decide), if_pos rfl, hm.2]), fr0⟩
  · obtain ⟨qd, D, E, d1, d2, d3, -⟩ := hdd
    exact ⟨nI qd, N, hC _ (by rw [F_X8_counted, if_neg (by decide), if_neg (by decide), if_neg (by decide), if_neg (by decide), if_pos rfl, F_X0_size, bd1s, d2]), hM _ _ (by rw [F_X9_tells, bd1e hL, if_neg (by decide), if_neg (by decide), if_neg (by decide), if_neg (by decide), if_pos rfl, d3]), fr0⟩
  · exact ⟨nI q, N, hC _ (by rw [F_X8_counted, if_neg (by decide), if_neg (by decide), if_neg (by decide), if_neg (by decide), if_neg (by decide), if_pos rfl, h2]), hM _ _ (by rw [F_X9_tells, bd1e hL, if_neg (by decide), if_neg (by decide), if_neg (by decide), if_neg (by decide), if_neg (by decide), if_pos rfl, h3]), fr0⟩
  · have e1 : sm (fun i => b01 (tlb N q K 6 i)) 6 = sm (fun i => b01 (isa (K i) 1)) q := by
      rw [sm_ext h1 (fun i y1 _ => by unfold tlb; rw [if_pos rfl, decide_eq_false (by omega)]; rfl)]
      exact sm_congr (fun i hi => by unfold tlb; rw [if_pos rfl, decide_eq_true hi, Bool.true_and])
    rw [e1] at hL
    refine ⟨nI (sm (fun i => b01 (isa (K i) 1)) q), N, hC _ ?_, hM _ _ ?_, fr0⟩
    · rw [F_X8_counted, if_neg (by decide), if_neg (by decide), if_neg (by decide), if_neg (by decide), if_neg (by decide), if_neg (by decide), if_pos rfl, bd1e (rim_eq h0 h1 h2 (fun j hj => ⟨(h4 j hj).1, (h4 j hj).2.1⟩))]
    · rw [F_X9_tells, bd1e hL, if_neg (by decide), if_neg (by decide), if_neg (by decide), if_neg (by decide), if_neg (by decide), if_neg (by decide)]
  · have e1 : sm (fun i => b01 (tlb N q K 7 i)) 6 = sm (fun i => b01 (decide (0 ≤ gI N 2 i))) 6 := rfl
    rw [e1] at hL
    refine ⟨nI (sm (fun i => b01 (decide (0 ≤ gI N 2 i))) 6), N, hC _ ?_, hM _ _ ?_, fr0⟩
    · rw [F_X8_counted, if_neg (by decide), if_neg (by decide), if_neg (by decide), if_neg (by decide), if_neg (by decide), if_neg (by decide), if_neg (by decide), if_pos rfl, bd1e (strips_eq (n := 6) rfl (by decide) (strip_row h.2.1))]
    · rw [F_X9_tells, bd1e hL, if_neg (by decide), if_neg (by decide), if_neg (by decide), if_neg (by decide), if_neg (by decide), if_neg (by decide)]
  · have e1 : sm (fun i => b01 (tlb N q K 8 i)) 6 = sm (fun i => b01 (decide (0 ≤ gI N 5 i))) 4 := by
      rw [sm_ext (show 4 ≤ 6 by decide) (fun i y1 _ => by unfold tlb; rw [if_neg (by decide), if_neg (by decide), if_pos rfl, decide_eq_false (by omega)]; rfl)]
      exact sm_congr (fun i hi => by unfold tlb; rw [if_neg (by decide), if_neg (by decide), if_pos rfl, decide_eq_true hi, Bool.true_and])
    rw [e1] at hL
    refine ⟨nI (sm (fun i => b01 (decide (0 ≤ gI N 5 i))) 4), N, hC _ ?_, hM _ _ ?_, fr0⟩
    · rw [F_X8_counted, if_neg (by decide), if_neg (by decide), if_neg (by decide), if_neg (by decide), if_neg (by decide), if_neg (by decide), if_neg (by decide), if_neg (by decide), if_pos rfl, bd1e (strips_eq (n := 4) rfl (by decide) (strip_txt h.2.2.1))]
    · rw [F_X9_tells, bd1e hL, if_neg (by decide), if_neg (by decide), if_neg (by decide), if_neg (by decide), if_neg (by decide), if_neg (by decide)]
  · have e1 : sm (fun i => b01 (tlb N q K 9 i)) 6 = sm (fun i => b01 (decide (gI N 14 i = 1))) 3 := by
      rw [sm_ext (show 3 ≤ 6 by decide) (fun i y1 _ => by unfold tlb; rw [if_neg (by decide), if_neg (by decide), if_neg (by decide), if_pos rfl, decide_eq_false (by omega)]; rfl)]
      exact sm_congr (fun i hi => by unfold tlb; rw [if_neg (by decide), if_neg (by decide), if_neg (by decide), if_pos rfl, decide_eq_true hi, Bool.true_and])
    rw [e1] at hL
    refine ⟨nI (sm (fun i => b01 (decide (gI N 14 i = 1))) 3), N, hC _ ?_, hM _ _ ?_, fr0⟩
    · rw [F_X8_counted, if_neg (by decide), if_neg (by decide), if_neg (by decide), if_neg (by decide), if_neg (by decide), if_neg (by decide), if_neg (by decide), if_neg (by decide), if_neg (by decide), bd1e (images_eq (g := fun i => decide (gI N 14 i = 1)) (fun i h3 => by
        rcases hi i h3 with ⟨y1, y2⟩ | ⟨y1, -, d', e', -, -, y2, -⟩
        · exact Or.inl ⟨y1, by rw [y2]; rfl⟩
        · exact Or.inr ⟨y2.2.2.2.2.2.2, by rw [y1]; rfl⟩))]
    · rw [F_X9_tells, bd1e hL, if_neg (by decide), if_neg (by decide), if_neg (by decide), if_neg (by decide), if_neg (by decide), if_neg (by decide)]
theorem cell_eq {lw : Nat → Option Nat} {M N : Mem} {t m w : Nat} {gd d : Nat → Nat} {e : Nat} (h : CoreG t lw M N m w gd d e) {j k : Nat} (hj : j < m) (hk : k < 3) : ∃ (x : Int32) (N' : Mem), F_X8_cellTold M (nI j) (nI k) = some x ∧ F_X9_cellOf N (nI j) (nI k) = some (x, N') ∧ Frl N N' := by
  obtain ⟨hd, hw, he, hl, hg, hm, -⟩ := h
  have hle := hd.le
  have hl' := hl
  obtain ⟨l1, l2, l3, l4, l5, l6, l7, l8, l9⟩ := hl'
  obtain ⟨g1, g2, g3, g4, g5, g6, g7⟩ := hg
  have hT := dg_lt hd hw
  have fr0 : Frl N N := ⟨fun _ _ _ _ => rfl, fun _ _ => rfl⟩
  have hC : ∀ x, F_X8_cellTold M (nI j) (nI k) = some x → F_X8_cellTold M (nI j) (nI k) = some x := fun _ hx => hx
  have hM : ∀ x N', F_X9_cellOf N (nI j) (nI k) = some (x, N') → F_X9_cellOf N (nI j) (nI k) = some (x, N') := fun _ _ hx => hx
  have hk3 : k = 0 ∨ k = 1 ∨ k = 2 := by omega
  rcases hk3 with rfl | rfl | rfl
  · refine ⟨nI (d j), N, hC _ ?_, hM _ _ ?_, fr0⟩
    · rw [F_X8_cellTold, if_pos e00, bd1e (depthAt_in (by omega)), g1 j (by omega)]
    · rw [F_X9_cellOf, if_neg (by decide), if_pos e00, chk_pos (inb_nI (by omega) (by decide)), clN (by omega), hm.1 j (by omega)]
  · have hw0 : w ≠ 0 := by
      intro y; subst y
      rcases hd with y | y <;> omega
    have hlt := Nat.mod_lt j (show 0 < w by omega)
    refine ⟨nI (gd (j % w)), N, hC _ ?_, hM _ _ ?_, fr0⟩
    · rw [F_X8_cellTold, if_neg (by decide), if_pos e11, F_X2_gardenerAt, bd1e (lhas_in l1 (by omega) hj), if_neg n10, nx_one (by omega), bd1e (owner_same hd hl (Nat.pow_lt_pow_right (by decide) hj) (show (2 ^ j).testBit j = true by rw [tb_two]; exact decide_eq_true rfl)).1, am_one hle.1 l7 hj]
      rfl
    · rw [F_X9_cellOf, if_neg (by decide), if_neg (by decide), l4, chk_pos (show ¬ nI w = 0 from fun z => hw0 ((nI_eq (a := w) (b := 0) (by omega) (by decide)).mp z)), irm_c j (by omega) w (by omega) hw0, chk_pos (inb_nI (by omega) (by decide)), clN (by omega), l8 _ (by omega)]
  · have hb : ∀ i, i < (HL m w (dg d)).length → (HL m w (dg d)).getD i 0 < 2 ^ 16 := fun i hi => lt16 hd (HL_lt hd hT hi)
    obtain ⟨r, e1, e2⟩ := holeAt_eq (c := j) g4 (HL_len hd hT) g5 hb (by omega)
    obtain ⟨N', f1, f2, f3, f4, f5⟩ := layHoles_eq hd l3 l4 hw hm.1
    obtain ⟨r', e3, e4⟩ := mholeAt_eq (c := j) f2 (HL_len hd hT) f3 hb (by omega)
    have er := hix_one hd hT e2 e4
    subst er
    refine ⟨r, N', hC _ ?_, hM _ _ ?_, ⟨f4, f5⟩⟩
    · rw [F_X8_cellTold, if_neg (by decide), if_neg (by decide), bd1e e1]
    · rw [F_X9_cellOf, if_pos (by decide), bd1e f1, e3]
/-- the model's memory but for its scratch and its digest -/
def Frd (N N' : Mem) : Prop := (∀ q k, q ≠ 11 → ¬ (q = 0 ∧ k = 23) → gI N' q k = gI N q k) ∧ ∀ q k, ¬ (q = 0 ∧ k = 33) → gJ N' q k = gJ N q k
theorem Frd.rf {N : Mem} : Frd N N := ⟨fun _ _ _ _ => rfl, fun _ _ _ => rfl⟩
theorem Frd.mix {N N' : Mem} (h : Frd N N') (v : Int64) : Frd N (sJ N' 0 33 v) := ⟨h.1, fun q k hq => by rw [gJ_sJ, if_neg hq]; exact h.2 q k hq⟩
theorem Frd.lay {N N' N'' : Mem} (h : Frd N N') (h' : Frl N' N'') : Frd N N'' := ⟨fun q k h1 h2 => (h'.1 q k h1 h2).trans (h.1 q k h1 h2), fun q k hq => (h'.2 q k).trans (h.2 q k hq)⟩
theorem Frd.rel {t : Nat} {lw : Nat → Option Nat} {M N N' : Mem} (hf : Frd N N') (h : Rel t lw M N) : Rel t lw M N' := by
  refine h.frm agr.rf (fun p k hp => hf.1 p k ?_ ?_) (fun _ => rfl) ⟨hf.2 _ _ (by decide), hf.2 _ _ (by decide)⟩
  · rintro rfl
    simp [sRelM, sAllM, sRwM, sTxM, sGM, sToM] at hp
  · rintro ⟨rfl, rfl⟩
    simp [sRelM, sAllM, sRwM, sTxM, sGM, sToM] at hp
theorem mix_eq {N : Mem} {v : Int32} : F_X9_mix N v = some (sJ N 0 33 (31 * gJ N 0 33 + v.toInt64)) := rfl
theorem gJ33 (N : Mem) (v : Int64) : gJ (sJ N 0 33 v) 0 33 = v := by rw [gJ_sJ, if_pos ⟨rfl, rfl⟩]
def fcD (f : Nat → Int64 → Int64) : Nat → Int64 → Int64
  | 0, y => y
  | n + 1, y => f n (fcD f n y)
theorem chC {Lc : Int64 × Int32 → Option ((Int64 × Int32) ⊕ Int64)} {ec : Int64 → Int64} {f : Nat → Int64 → Int64} {n : Nat} (hn : n < 1000) (h1 : ∀ i, i < n → ∀ y, Lc (y, nI i) = some (.inl (f i y, nI (i + 1)))) (h2 : ∀ y, Lc (y, nI n) = some (.inr (ec y))) (y : Int64) : loop Lc FU (y, 0) = some (ec (fcD f n y)) := loop_fn' (fun i => (fcD f i y, nI i)) n rfl (fun i hi => h1 i hi _) (h2 _) (by show n < 200000; omega)
theorem chM {ρ : Type} {Lm : Int32 × Mem → Option ((Int32 × Mem) ⊕ ρ)} {e : Mem → ρ} {f : Nat → Int64 → Int64} {n : Nat} {N N0 : Mem} (hn : n < 1000) (h1 : ∀ i, i < n → ∀ N', Frd N N' → ∃ N'', Lm (nI i, N') = some (.inl (nI (i + 1), N'')) ∧ Frd N N'' ∧ gJ N'' 0 33 = f i (gJ N' 0 33)) (h2 : ∀ N', Frd N N' → Lm (nI n, N') = some (.inr (e N'))) (h0 : Frd N N0) : ∃ N', loop Lm FU (0, N0) = some (e N') ∧ Frd N N' ∧ gJ N' 0 33 = fcD f n (gJ N0 0 33) := by
  obtain ⟨r, a1, N', a2, a3, a4⟩ := loop_inv (f := Lm) (fun i st => st.1 = nI i ∧ Frd N st.2 ∧ gJ st.2 0 33 = fcD f i (gJ N0 0 33)) (fun r => ∃ N', r = e N' ∧ Frd N N' ∧ gJ N' 0 33 = fcD f n (gJ N0 0 33)) n (fun i st hi hst => by
    obtain ⟨a, N1⟩ := st
    obtain ⟨e1, e2, e3⟩ := hst
    have e1 : a = nI i := e1
    subst e1
    have e2 : Frd N N1 := e2
    have e3 : gJ N1 0 33 = fcD f i (gJ N0 0 33) := e3
    by_cases e : i = n
    · subst e
      exact Or.inr ⟨_, h2 N1 e2, N1, rfl, e2, e3⟩
    · obtain ⟨N2, b1, b2, b3⟩ := h1 i (by omega) N1 e2
      exact Or.inl ⟨by omega, _, b1, rfl, b2, by rw [b3, e3]; rfl⟩) (k := FU) (by show n < 200000; omega) (s := (0, N0)) ⟨rfl, h0, rfl⟩
  rw [a2] at a1
  exact ⟨N', a1, a3, a4⟩
/-- steps of both that do the same -/
def DgStp (N : Mem) (i : Nat) (Lc : Int64 × Int32 → Option ((Int64 × Int32) ⊕ Int64)) {ρ : Type} (Lm : Int32 × Mem → Option ((Int32 × Mem) ⊕ ρ)) (f : Int64 → Int64) : Prop := (∀ y, Lc (y, nI i) = some (.inl (f y, nI (i + 1)))) ∧ ∀ N', Frd N N' → ∃ N'', Lm (nI i, N') = some (.inl (nI (i + 1), N'')) ∧ Frd N N'' ∧ gJ N'' 0 33 = f (gJ N' 0 33)
theorem chB {ρ : Type} {Lc : Int64 × Int32 → Option ((Int64 × Int32) ⊕ Int64)} {Lm : Int32 × Mem → Option ((Int32 × Mem) ⊕ ρ)} {e : Mem → ρ} {ec : Int64 → Int64} {n : Nat} {N : Mem} (hn : n < 1000) (h1 : ∀ i, i < n → ∃ f, DgStp N i Lc Lm f) (h2 : ∀ y, Lc (y, nI n) = some (.inr (ec y))) (h3 : ∀ N', Frd N N' → Lm (nI n, N') = some (.inr (e N'))) : ∃ g : Int64 → Int64, (∀ y, loop Lc FU (y, 0) = some (ec (g y))) ∧ ∀ N0, Frd N N0 → ∃ N', loop Lm FU (0, N0) = some (e N') ∧ Frd N N' ∧ gJ N' 0 33 = g (gJ N0 0 33) := by
  obtain ⟨f, hf⟩ : ∃ f : Nat → Int64 → Int64, ∀ i, i < n → DgStp N i Lc Lm (f i) := by
    have key : ∀ i, ∃ f : Int64 → Int64, i < n → DgStp N i Lc Lm f := by
      intro i
      by_cases hi : i < n
      · obtain ⟨f, hf⟩ := h1 i hi
        exact ⟨f, fun _ => hf⟩
      · exact ⟨id, fun h => absurd h hi⟩
    exact ⟨fun i => (key i).choose, fun i => (key i).choose_spec⟩
  exact ⟨fcD f n, fun y => chC hn (fun i hi => (hf i hi).1) h2 y, fun N0 h0 => chM hn (fun i hi => (hf i hi).2) h3 h0⟩
theorem opt_eq {α : Type} {o : Option α} {x y : α} (h1 : o = some x) (h2 : o = some y) : x = y := Option.some.inj (h1.symm.trans h2)
theorem dg1 {lw : Nat → Option Nat} {M N : Mem} {t : Nat} (h : Rel t lw M N) : ∀ i, i < 10 → ∃ f, DgStp N i (X8_digest_L6 lw M) X9_digest_L9 f := by
  intro i hi
  obtain ⟨x, _, a1, _, _⟩ := count_eq h hi
  refine ⟨fun y => 31 * y + x.toInt64, fun y => ?_, fun N' hf => ?_⟩
  · rw [X8_digest_L6, if_neg (nI_nleN hi (by decide)), bd1e a1]
    simp only [lets]
    rw [nI_1]
  · obtain ⟨x', N2, b1, b2, b3⟩ := count_eq (hf.rel h) hi
    have ex := opt_eq a1 b1
    subst ex
    rw [X9_digest_L9, if_neg (nI_nlt (by omega) (by decide)), bd2e b2, bd1e mix_eq, lets, nI_1]
    exact ⟨_, rfl, (hf.lay b3).mix _, by rw [gJ33, b3.2]⟩
theorem Frd.core {t : Nat} {lw : Nat → Option Nat} {M N N' : Mem} {m w : Nat} {gd d : Nat → Nat} {e : Nat} (hf : Frd N N') (h : CoreG t lw M N m w gd d e) : CoreG t lw M N' m w gd d e := by
  refine h.fr agr.rf (fun p k hp => hf.1 p k ?_ ?_)
  · rintro rfl
    simp [sGM] at hp
  · rintro ⟨rfl, rfl⟩
    simp [sGM] at hp
theorem dg2 {lw : Nat → Option Nat} {M N : Mem} {t m w : Nat} {gd d : Nat → Nat} {e : Nat} (h : CoreG t lw M N m w gd d e) : ∀ c, c < m → ∃ f, DgStp N c (X8_digest_L33 lw M) X9_mixGround_L2 f := by
  intro c hc
  have hle := h.1.le
  obtain ⟨g, b1, b2⟩ := chB (N := N) (n := 3) (Lc := X8_digest_L47 lw M (nI c)) (Lm := X9_mixGround_L12 (nI c)) (e := fun N' => N') (ec := fun y => y) (by decide) (fun k hk => by
    obtain ⟨x, _, a1, _, _⟩ := cell_eq h hc hk
    refine ⟨fun y => 31 * y + x.toInt64, fun y => ?_, fun N' hf => ?_⟩
    · rw [X8_digest_L47, if_neg (nI_nleN hk (by decide)), bd1e a1]
      simp only [lets]
      rw [nI_1]
    · obtain ⟨x', N2, b1, b2, b3⟩ := cell_eq (hf.core h) hc hk
      have ex := opt_eq a1 b1
      subst ex
      rw [X9_mixGround_L12, if_neg (nI_nlt (by omega) (by decide)), bd2e b2, bd1e mix_eq, lets, nI_1]
      exact ⟨_, rfl, (hf.lay b3).mix _, by rw [gJ33, b3.2]⟩) (fun y => by rw [X8_digest_L47, if_pos (nI_le (Nat.le_refl _) (by decide))]) (fun N' _ => by rw [X9_mixGround_L12, if_pos (nI_lt (by decide) (by decide))])
  refine ⟨g, fun y => ?_, fun N' hf => ?_⟩
  · rw [X8_digest_L33, h.2.2.2.1.1, if_neg (nI_nleN hc (by omega)), bd1e (b1 y), lets, nI_1]
  · obtain ⟨N2, c1, c2, c3⟩ := b2 N' hf
    rw [X9_mixGround_L2, hf.1 0 11 (by decide) (by decide), h.2.2.2.1.2.2.1, if_neg (nI_nleN hc (by omega)), bd1e c1, lets, nI_1]
    exact ⟨_, rfl, c2, c3⟩
theorem dg3 {lw : Nat → Option Nat} {M N : Mem} {q : Nat} {K : Nat → Nat} (h0 : ∀ k, k < 6 → gI M (55 + k) 0 = nI k) (h1 : q ≤ 6) (h2 : gI M 0 8 = nI q) (h3 : gI N 0 12 = nI q) (h4 : ∀ j, j < q → K j < 6 ∧ lw j = some (55 + K j) ∧ gI N 9 j = nI (K j)) : ∀ j, j < q → ∃ f, DgStp N j (X8_digest_L82 lw M) X9_mixGround_L41 f := by
  intro j hj
  obtain ⟨k1, k2, k3⟩ := h4 j hj
  have a1 : F_X8_law lw M (nI j) = some (nI (K j)) := by rw [F_X8_law, bd1e (lawOf_in h2 h1 hj), k2, oc_s, chk_pos (isX3_law _ k1), h0 _ k1]
  refine ⟨fun y => 31 * y + (nI (K j)).toInt64, fun y => ?_, fun N' hf => ?_⟩
  · rw [X8_digest_L82, h2, if_neg (nI_nleN hj (by omega)), bd1e a1]
    simp only [lets]
    rw [nI_1]
  · rw [X9_mixGround_L41, hf.1 0 12 (by decide) (by decide), h3, if_neg (nI_nleN hj (by omega)), chk_pos (inb_nI (by omega) (by decide)), clN (by omega), hf.1 9 j (by decide) (by omega), k3, bd1e mix_eq, lets, nI_1]
    exact ⟨_, rfl, hf.mix _, gJ33 _ _⟩
theorem dg4 {lw : Nat → Option Nat} {M N : Mem} {t m w : Nat} (hm : m ≤ 16) (l1 : gI M 7 0 = nI m) (l3 : gI N 0 11 = nI m) (hI : Imgs t M N m w) : ∀ k, k < 3 → ∃ f, DgStp N k (X8_digest_L111 lw M) X9_mixGround_L67 f := by
  intro k hk
  have k1 : finC 12 k = some (46 + 3 * k) ∧ isX1 (46 + 3 * k) = true := by
    have : k = 0 ∨ k = 1 ∨ k = 2 := by omega
    rcases this with rfl | rfl | rfl <;> exact ⟨rfl, rfl⟩
  rcases hI k hk with ⟨z1, z2⟩ | ⟨z1, mp, d, e, he, hw, hg, hmm⟩
  · refine ⟨fun y => 31 * y + (-1 : Int32).toInt64, fun y => ?_, fun N' hf => ?_⟩
    · rw [X8_digest_L111, if_neg (nI_nleN hk (by decide)), chk_pos (inb_nI hk (by decide)), clN (by omega), k1.1, lets, oc_s, chk_pos k1.2, bd1e (show F_X1_digestOnto M (46 + 3 * k) y = some (31 * y + (-1 : Int32).toInt64) by rw [F_X1_digestOnto, z1, if_pos rfl]; rfl), lets, nI_1]
    · have e14 : gI N' 14 k = 0 := by rw [hf.1 14 k (by decide) (by omega)]; exact z2
      have hL : loop (X9_mixGround_L74 (nI k)) FU (0, N') = some N' := by
        apply loop_en (n := 199999)
        rw [X9_mixGround_L74, hf.1 0 11 (by decide) (by decide), l3, chk_pos (inb_nI hk (by decide)), clN (by omega), e14, if_neg (show ¬ (0 : Int32) = 1 by decide)]
        split <;> rfl
      rw [X9_mixGround_L67, if_neg (nI_nleN hk (by decide)), bd1e hL, chk_pos (inb_nI hk (by decide)), clN (by omega), e14, if_neg (show ¬ (0 : Int32) = 1 by decide), X9_mixGround_J140, bd1e mix_eq, lets, nI_1]
      exact ⟨_, rfl, hf.mix _, gJ33 _ _⟩
  · have hal : alM 15 = 51 := rfl
    obtain ⟨g, b1, b2⟩ := chB (N := N) (n := m) (Lc := X1_digestOnto_L22 M (46 + 3 * k)) (Lm := X9_mixGround_L74 (nI k)) (e := fun N' => N') (ec := fun y => 31 * y + (nI e).toInt64) (by omega) (fun c hc => by
      refine ⟨fun y => 31 * y + (nI (d c)).toInt64, fun y => ?_, fun N' hf => ?_⟩
      · rw [X1_digestOnto_L22, l1, if_neg (nI_nleN hc (by omega)), bd1e (depthAt_in (by omega)), hg.1 c (by omega)]
        simp only [lets]
        rw [nI_1]
      · rw [X9_mixGround_L74, hf.1 0 11 (by decide) (by decide), l3, if_neg (nI_nleN hc (by omega)), chk_pos (inb_nI hk (by decide)), clN (by omega), hf.1 14 k (by decide) (by omega), z1, if_pos rfl, n17, nI_add, chk_pos (inb_nI (by omega) (by decide)), clN (by omega), hf.1 15 _ (by decide) (by omega), hmm.1 c (by omega), bd1e mix_eq, lets, nI_1]
        exact ⟨_, rfl, hf.mix _, gJ33 _ _⟩) (fun y => by rw [X1_digestOnto_L22, l1, if_pos (nI_le (Nat.le_refl _) (by omega)), hg.2.2.2.2.2.1]) (fun N' hf => by rw [X9_mixGround_L74, hf.1 0 11 (by decide) (by decide), l3, if_pos (nI_le (Nat.le_refl _) (by omega))])
    refine ⟨fun y => 31 * g y + (nI e).toInt64, fun y => ?_, fun N' hf => ?_⟩
    · rw [X8_digest_L111, if_neg (nI_nleN hk (by decide)), chk_pos (inb_nI hk (by decide)), clN (by omega), k1.1, lets, oc_s, chk_pos k1.2, bd1e (show F_X1_digestOnto M (46 + 3 * k) y = some (31 * g y + (nI e).toInt64) by rw [F_X1_digestOnto, hg.2.2.2.2.2.2, if_neg n10, b1 y]), lets, nI_1]
    · obtain ⟨N2, c1, c2, c3⟩ := b2 N' hf
      rw [X9_mixGround_L67, if_neg (nI_nleN hk (by decide)), bd1e c1, chk_pos (inb_nI hk (by decide)), clN (by omega), c2.1 14 k (by decide) (by omega), z1, if_pos rfl, n17, nI_add, chk_pos (inb_nI (by omega) (by decide)), clN (by omega), c2.1 15 _ (by decide) (by omega), hmm.2, X9_mixGround_J140, bd1e mix_eq, lets, nI_1]
      exact ⟨_, rfl, c2.mix _, by rw [gJ33, c3]⟩
/- rows and texts -/
theorem dgS {M : Mem} {p n : Nat} {y : Int64} {g : Int64 → Int64} (h : gI M p 1 = nI n) (hb : ∀ y, loop (X5_digestOnto_L15 M p) FU (y, 0) = some (g y)) : F_X5_digestOnto M p y = some (g (31 * y + (nI n).toInt64)) := by
  rw [F_X5_digestOnto, h, lets, hb]
theorem dgS0 {M : Mem} {p : Nat} {y : Int64} (h : gI M p 1 = -1) : F_X5_digestOnto M p y = some (31 * y + (-1 : Int32).toInt64) := by
  rw [F_X5_digestOnto, h, lets]
  apply loop_en (n := 199999)
  rw [X5_digestOnto_L15, h, if_pos (by decide)]
theorem dgC {M : Mem} {p n i : Nat} {V : Nat → Int32} {y : Int64} (h : gI M p 1 = nI n) (hn : n ≤ slen p) (hV : ∀ j, j < n → gI M (p + 1) j = V j) (hi : i < n) : X5_digestOnto_L15 M p (y, nI i) = some (.inl (31 * y + (V i).toInt64, nI (i + 1))) := by
  have hs : slen p ≤ 60 := by unfold slen; split <;> omega
  rw [X5_digestOnto_L15, h, if_neg (nI_nleN hi (by omega)), if_neg (nI_nleN (by omega) (by omega)), chk_pos (inb_nI (by omega) (by omega)), clN (by omega), hV i hi]
  simp only [lets]
  rw [nI_1]
theorem dgCe {M : Mem} {p n : Nat} {y : Int64} (h : gI M p 1 = nI n) (hn : n ≤ 60) : X5_digestOnto_L15 M p (y, nI n) = some (.inr y) := by
  rw [X5_digestOnto_L15, h, if_pos (nI_le (Nat.le_refl _) (by omega))]
theorem dg5 {lw : Nat → Option Nat} {M N : Mem} (hro : Rows M N) : ∀ r, r < 6 → ∃ f, DgStp N r (X8_digest_L139 lw M) X9_digest_L36 f := by
  intro r hr
  have k1 := strip_row hro r hr
  have hs := slen_row hr
  rcases hro r hr with ⟨e1, e2⟩ | ⟨n, en, e1, e2, e3⟩
  · refine ⟨fun y => 31 * y + (-1 : Int32).toInt64, fun y => ?_, fun N' hf => ?_⟩
    · rw [X8_digest_L139, if_neg (nI_nleN hr (by decide)), chk_pos (inb_nI hr (by decide)), clN (by omega), k1.1, lets, oc_s, chk_pos k1.2.1, bd1e (dgS0 e1), lets, nI_1]
    · have e2' : gI N' 2 r = -9 := by rw [hf.1 2 r (by decide) (by omega)]; exact e2
      have hL : loop (X9_digest_L67 (nI r)) FU (0, sJ N' 0 33 (31 * gJ N' 0 33 + (-1 : Int32).toInt64)) = some (sJ N' 0 33 (31 * gJ N' 0 33 + (-1 : Int32).toInt64)) := by
        apply loop_en (n := 199999)
        rw [X9_digest_L67, chk_pos (inb_nI hr (by decide)), clN (by omega), gI_sJ, e2', if_pos (by decide)]
      rw [X9_digest_L36, if_neg (nI_nleN hr (by decide)), chk_pos (inb_nI hr (by decide)), clN (by omega), e2', if_neg (by decide), X9_digest_J62, bd1e mix_eq, bd1e hL, lets, nI_1]
      exact ⟨_, rfl, hf.mix _, gJ33 _ _⟩
  · obtain ⟨g, b1, b2⟩ := chB (N := N) (n := n) (Lc := X5_digestOnto_L15 M (26 + 2 * r)) (Lm := X9_digest_L67 (nI r)) (e := fun N' => N') (ec := fun y => y) (by omega) (fun c hc => by
      refine ⟨fun y => 31 * y + (gI N 3 (40 * r + c)).toInt64, fun y => dgC (V := fun j => gI N 3 (40 * r + j)) e1 (by omega) e3 hc, fun N' hf => ?_⟩
      rw [X9_digest_L67, chk_pos (inb_nI hr (by decide)), clN (by omega), hf.1 2 r (by decide) (by omega), e2, if_neg (nI_nleN hc (by omega)), bd1e (rowAt_eq hr (by omega)), hf.1 3 _ (by decide) (by omega), bd1e mix_eq, lets, nI_1]
      exact ⟨_, rfl, hf.mix _, gJ33 _ _⟩) (fun y => dgCe e1 (by omega)) (fun N' hf => by rw [X9_digest_L67, chk_pos (inb_nI hr (by decide)), clN (by omega), hf.1 2 r (by decide) (by omega), e2, if_pos (nI_le (Nat.le_refl _) (by omega))])
    refine ⟨fun y => g (31 * y + (nI n).toInt64), fun y => ?_, fun N' hf => ?_⟩
    · rw [X8_digest_L139, if_neg (nI_nleN hr (by decide)), chk_pos (inb_nI hr (by decide)), clN (by omega), k1.1, lets, oc_s, chk_pos k1.2.1, bd1e (dgS e1 b1), lets, nI_1]
    · obtain ⟨N2, c1, c2, c3⟩ := b2 _ (hf.mix (31 * gJ N' 0 33 + (nI n).toInt64))
      rw [X9_digest_L36, if_neg (nI_nleN hr (by decide)), chk_pos (inb_nI hr (by decide)), clN (by omega), hf.1 2 r (by decide) (by omega), e2, if_pos (nI_pos' (by omega)), chk_pos (inb_nI hr (by decide)), X9_digest_J62, bd1e mix_eq, bd1e c1, lets, nI_1]
      exact ⟨_, rfl, c2, by rw [c3, gJ33]⟩
theorem dg6 {lw : Nat → Option Nat} {M N : Mem} (hro : Txts M N) : ∀ r, r < 4 → ∃ f, DgStp N r (X8_digest_L167 lw M) X9_digest_L101 f := by
  intro r hr
  have k1 := strip_txt hro r hr
  have hs := slen_txt (j := r)
  rcases hro r hr with ⟨e1, e2⟩ | ⟨n, en, e1, e2, e3⟩
  · refine ⟨fun y => 31 * y + (-1 : Int32).toInt64, fun y => ?_, fun N' hf => ?_⟩
    · rw [X8_digest_L167, if_neg (nI_nleN hr (by decide)), chk_pos (inb_nI hr (by decide)), clN (by omega), k1.1, lets, oc_s, chk_pos k1.2.1, bd1e (dgS0 e1), lets, nI_1]
    · have e2' : gI N' 5 r = -9 := by rw [hf.1 5 r (by decide) (by omega)]; exact e2
      have hL : loop (X9_digest_L131 (nI r)) FU (0, sJ N' 0 33 (31 * gJ N' 0 33 + (-1 : Int32).toInt64)) = some (sJ N' 0 33 (31 * gJ N' 0 33 + (-1 : Int32).toInt64)) := by
        apply loop_en (n := 199999)
        rw [X9_digest_L131, chk_pos (inb_nI hr (by decide)), clN (by omega), gI_sJ, e2', if_pos (by decide)]
      rw [X9_digest_L101, if_neg (nI_nleN hr (by decide)), chk_pos (inb_nI hr (by decide)), clN (by omega), e2', if_neg (by decide), X9_digest_J126, bd1e mix_eq, bd1e hL, lets, nI_1]
      exact ⟨_, rfl, hf.mix _, gJ33 _ _⟩
  · obtain ⟨g, b1, b2⟩ := chB (N := N) (n := n) (Lc := X5_digestOnto_L15 M (38 + 2 * r)) (Lm := X9_digest_L131 (nI r)) (e := fun N' => N') (ec := fun y => y) (by omega) (fun c hc => by
      refine ⟨fun y => 31 * y + (gI N 6 (60 * r + c)).toInt64, fun y => dgC (V := fun j => gI N 6 (60 * r + j)) e1 (by omega) e3 hc, fun N' hf => ?_⟩
      rw [X9_digest_L131, chk_pos (inb_nI hr (by decide)), clN (by omega), hf.1 5 r (by decide) (by omega), e2, if_neg (nI_nleN hc (by omega)), ix60, chk_pos (inb_nI (by omega) (by decide)), clN (by omega), hf.1 6 _ (by decide) (by omega), bd1e mix_eq, lets, nI_1]
      exact ⟨_, rfl, hf.mix _, gJ33 _ _⟩) (fun y => dgCe e1 (by omega)) (fun N' hf => by rw [X9_digest_L131, chk_pos (inb_nI hr (by decide)), clN (by omega), hf.1 5 r (by decide) (by omega), e2, if_pos (nI_le (Nat.le_refl _) (by omega))])
    refine ⟨fun y => g (31 * y + (nI n).toInt64), fun y => ?_, fun N' hf => ?_⟩
    · rw [X8_digest_L167, if_neg (nI_nleN hr (by decide)), chk_pos (inb_nI hr (by decide)), clN (by omega), k1.1, lets, oc_s, chk_pos k1.2.1, bd1e (dgS e1 b1), lets, nI_1]
    · obtain ⟨N2, c1, c2, c3⟩ := b2 _ (hf.mix (31 * gJ N' 0 33 + (nI n).toInt64))
      rw [X9_digest_L101, if_neg (nI_nleN hr (by decide)), chk_pos (inb_nI hr (by decide)), clN (by omega), hf.1 5 r (by decide) (by omega), e2, if_pos (nI_pos' (by omega)), chk_pos (inb_nI hr (by decide)), X9_digest_J126, bd1e mix_eq, bd1e c1, lets, nI_1]
      exact ⟨_, rfl, c2, by rw [c3, gJ33]⟩
theorem op_digest {lw : Nat → Option Nat} (tl tt : Option Nat) {M N : Mem} {t : Nat} (ht : t ≤ 3100) (h : Rel t lw M N) : ∃ (r : Int64) (N' : Mem), F_X8_digest lw M = some r ∧ F_X9_digest N = some (r, N') ∧ Rel (t + 1) lw M N' := by
  obtain ⟨h0, q, K, h1, h2, h3, h4⟩ := h.laws
  obtain ⟨m, w, gd, d, e, hc⟩ := h.core
  have hle := hc.1.le
  have l1 := hc.2.2.2.1.1
  have l3 := hc.2.2.2.1.2.2.1
  obtain ⟨g1, a1, b1⟩ := chB (N := N) (n := 10) (e := fun N' => N') (ec := fun y => y) (by decide) (dg1 h) (fun y => by rw [X8_digest_L6, if_pos (nI_le (Nat.le_refl _) (by decide))]) (fun N' _ => by rw [X9_digest_L9, if_pos (nI_lt (by decide) (by decide))])
  obtain ⟨g2, a2, b2⟩ := chB (N := N) (n := m) (e := fun N' => N') (ec := fun y => y) (by omega) (dg2 hc) (fun y => by rw [X8_digest_L33, l1, if_pos (nI_le (Nat.le_refl _) (by omega))]) (fun N' hf => by rw [X9_mixGround_L2, hf.1 0 11 (by decide) (by decide), l3, if_pos (nI_le (Nat.le_refl _) (by omega))])
  obtain ⟨g3, a3, b3⟩ := chB (N := N) (n := q) (e := fun N' => N') (ec := fun y => y) (by omega) (dg3 h0 h1 h2 h3 h4) (fun y => by rw [X8_digest_L82, h2, if_pos (nI_le (Nat.le_refl _) (by omega))]) (fun N' hf => by rw [X9_mixGround_L41, hf.1 0 12 (by decide) (by decide), h3, if_pos (nI_le (Nat.le_refl _) (by omega))])
  obtain ⟨g4, a4, b4⟩ := chB (N := N) (n := 3) (e := fun N' => N') (ec := fun y => y) (by decide) (dg4 (lw := lw) hle.1 l1 l3 hc.2.2.2.2.2.2.1) (fun y => by rw [X8_digest_L111, if_pos (nI_le (Nat.le_refl _) (by decide))]) (fun N' hf => by rw [X9_mixGround_L67, if_pos (nI_le (Nat.le_refl _) (by decide))])
  obtain ⟨g5, a5, b5⟩ := chB (N := N) (n := 6) (e := fun N' => N') (ec := fun y => y) (by decide) (dg5 (lw := lw) h.2.1) (fun y => by rw [X8_digest_L139, if_pos (nI_le (Nat.le_refl _) (by decide))]) (fun N' hf => by rw [X9_digest_L36, if_pos (nI_le (Nat.le_refl _) (by decide))])
  obtain ⟨g6, a6, b6⟩ := chB (N := N) (n := 4) (e := fun N' => (gJ N' 0 33, N')) (ec := fun y => y) (by decide) (dg6 (lw := lw) h.2.2.1) (fun y => by rw [X8_digest_L167, if_pos (nI_le (Nat.le_refl _) (by decide))]) (fun N' hf => by rw [X9_digest_L101, if_pos (nI_le (Nat.le_refl _) (by decide))])
  obtain ⟨N1, c1, d1, e1⟩ := b1 (sJ N 0 33 17) (Frd.rf.mix _)
  obtain ⟨N2, c2, d2, e2⟩ := b2 N1 d1
  obtain ⟨N3, c3, d3, e3⟩ := b3 N2 d2
  obtain ⟨N4, c4, d4, e4⟩ := b4 N3 d3
  obtain ⟨N5, c5, d5, e5⟩ := b5 N4 d4
  obtain ⟨N6, c6, d6, e6⟩ := b6 N5 d5
  refine ⟨g6 (g5 (g4 (g3 (g2 (g1 17))))), N6, ?_, ?_, (d6.rel h).up⟩
  · rw [F_X8_digest, bd1e (a1 _), bd1e (a2 _), bd1e (a3 _), bd1e (a4 _), bd1e (a5 _), a6 _]
  · rw [F_X9_digest, lets, bd1e c1, bd1e (show F_X9_mixGround N1 = some N4 by rw [F_X9_mixGround, bd1e c2, bd1e c3, c4]), bd1e c5, c6, e6, e5, e4, e3, e2, e1, gJ33]
