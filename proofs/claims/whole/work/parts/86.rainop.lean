theorem ti1 : (1 : Int32).toInt = 1 := by decide
theorem tiM : (2147483647 : Int32).toInt = 2147483647 := by decide
theorem tiN : (2147483646 : Int32).toInt = 2147483646 := by decide
theorem nI_a0 (a : Nat) : nI a = nI a + 0 := (nI_add0 a).symm
theorem op_rain {lw : Nat → Option Nat} (tl tt : Option Nat) {M N : Mem} {t : Nat} (ht : t ≤ 3100) (h : Rel t lw M N) (a1 : Int32) (a2 : Int32) : ∃ (r : Int32) (M' : Mem) (N' : Mem), F_X8_rain M a1 a2 = some (r, M') ∧ F_X9_rain N a1 a2 = some (r, N') ∧ Rel (t + 1) lw M' N' := by
  have hR := h.up
  by_cases z1 : a1 < 0 ∨ nI 12 < a1
  · refine ⟨-1, M, N, ?_, by rw [F_X9_rain, bd1e (in_no z1), if_pos rfl], hR⟩
    rw [F_X8_rain]
    by_cases y : a1 < 0
    · rw [if_pos y]
    · rw [if_neg y, if_pos (z1.resolve_left y)]
  · have z1a : ¬ a1 < 0 := fun y => z1 (Or.inl y)
    have z1b : ¬ nI 12 < a1 := fun y => z1 (Or.inr y)
    by_cases z2 : a2 < 1 ∨ 2147483646 < a2
    · refine ⟨-1, M, N, ?_, by rw [F_X9_rain, bd1e (in_yes z1a z1b), if_neg n10, bd1e (in_no z2), if_pos rfl], hR⟩
      rw [F_X8_rain, if_neg z1a, if_neg z1b]
      by_cases y : a2 < 1
      · rw [if_pos y]
      · have := z2.resolve_left y
        rw [if_neg y, if_neg (by
          rw [Int32.lt_iff_toInt_lt] at this ⊢
          rw [tiN] at this
          rw [tiM]
          omega)]
    · have z2a : ¬ a2 < 1 := fun y => z2 (Or.inl y)
      have z2b : ¬ 2147483646 < a2 := fun y => z2 (Or.inr y)
      have z2c : a2 < 2147483647 := by
        rw [Int32.lt_iff_toInt_lt] at z2b ⊢
        rw [tiN] at z2b
        rw [tiM]
        omega
      obtain ⟨hto, hro, htx, m, w, gd, d, e, hd, hw, he, hl, hg, hm, hi, hdd, hla⟩ := h
      have hle := hd.le
      have l1 := hl.1
      have l3 := hl.2.2.1
      have l4 := hl.2.2.2.1
      have g7 := hg.2.2.2.2.2.2
      by_cases m0 : m = 0
      · rw [if_pos m0] at g7
        exact ⟨-4, M, N, by rw [F_X8_rain, if_neg z1a, if_neg z1b, if_neg z2a, if_pos z2c, g7, if_pos rfl], by rw [F_X9_rain, bd1e (in_yes z1a z1b), if_neg n10, bd1e (in_yes z2a z2b), if_neg n10, l3, m0, if_pos e00], hR⟩
      · rw [if_neg m0] at g7
        have nm : ¬ nI m = 0 := fun y => m0 ((nI_eq (a := m) (b := 0) (by omega) (by decide)).mp y)
        obtain ⟨q, D, E, d1, d2, d3, d4, d5, d6, d7⟩ := hdd
        by_cases eq : q = 40
        · subst eq
          exact ⟨-2, M, N, by rw [F_X8_rain, if_neg z1a, if_neg z1b, if_neg z2a, if_pos z2c, g7, if_neg n10, bd1e (full_yes d2), if_neg n10], by rw [F_X9_rain, bd1e (in_yes z1a z1b), if_neg n10, bd1e (in_yes z2a z2b), if_neg n10, l3, if_neg nm, d3, if_pos rfl], hR⟩
        · have hq : q < 40 := by omega
          have hra := rained_eq (x1 := a1) (x2 := a2) hle.1 l1 hg.1 hw.1
          have hB := rn_lt (d := d) (x1 := a1) (s0 := a2.toInt64) hle.1
          have hbt := rn_bits d a1 a2.toInt64 m
          have hw' : DW m (rdm d (rn d a1 a2.toInt64 m).2) := ⟨fun c => by
            unfold rdm
            have := hw.1 c
            split <;> omega, fun c hc => by
            unfold rdm
            rw [hw.2 c hc]
            split <;> rfl⟩
          have hs : ∀ c, c < 16 → nI (rdm d (rn d a1 a2.toInt64 m).2 c) = if (rn d a1 a2.toInt64 m).2.testBit c then nI (d c) + (-1) else nI (d c) := fun c hc => by
            unfold rdm
            cases y : (rn d a1 a2.toInt64 m).2.testBit c
            · rfl
            · have := (hbt c y).2
              rw [if_pos rfl, if_pos rfl, nI_m1 (by omega)]
          obtain ⟨M', b0, b1, b2, b3, b4, b5, b6, b7⟩ := perform_eq (x2 := -1) (x3 := 0) hd hl.c hw hw' hB hg hs (nI_a0 e) hq d2
          obtain ⟨N1, c0, c1, c2, c3, c4, c5⟩ := note_eq hq d3 hm.1 hm.2
          obtain ⟨N', f1, f2, f3, f4⟩ := mrain_eq (N := N1) (x1 := a1) (s0 := a2.toInt64) hd (by rw [c4 0 11 (by decide) (by omega)]; exact l3) (by rw [c4 0 10 (by decide) (by omega)]; exact l4) hw (fun c hc => by rw [c4 7 c (by decide) (by omega)]; exact hm.1 c hc) hw'
          refine ⟨nI (HL m w (dg (rdm d (rn d a1 a2.toInt64 m).2))).length, M', N', ?_, ?_, ?_⟩
          · rw [F_X8_rain, if_neg z1a, if_neg z1b, if_neg z2a, if_pos z2c, g7, if_neg n10, bd1e (full_no d2 hq), if_pos rfl, bd1e hra, bd1e b0, b1.2.2.2.1]
          · rw [F_X9_rain, bd1e (in_yes z1a z1b), if_neg n10, bd1e (in_yes z2a z2b), if_neg n10, l3, if_neg nm, d3, if_neg (fun y => eq ((nI_eq (by omega) (by decide)).mp y)), bd1e c0, lets, f1]
          · refine Rel.deed (x2 := -1) (x3 := 0) hto hro htx hd hw hw' he (by omega) hl hi hla hq d4 d5 d6 d7 hB hs (nI_a0 e) b1 b2 b3 b4 b5 b6 b7 ?_ ?_ ?_ f2 ?_ ?_ ?_
            · rw [f3 0 26 (by decide) (by decide) (by omega)]; exact c1
            · exact c2.fr (fun x => f3 13 x (by decide) (by decide) (by omega))
            · intro x hx; rw [f3 13 x (by decide) (by decide) (by omega)]; exact c3 x hx
            · rw [f3 0 16 (by decide) (by decide) (by omega), c4 0 16 (by decide) (by omega)]; exact hm.2
            · intro r x h1 h2 h3 h4
              rw [f3 r x h2 h3 (by omega), c4 r x h1 (by omega)]
            · intro r x
              rw [f4, c5]
