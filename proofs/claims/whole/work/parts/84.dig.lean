/-! ===== dig, fill ===== -/
theorem nI_m1 {a : Nat} (h : 1 ≤ a) : nI a + (-1) = nI (a - 1) := by
  have e : nI a = nI (a - 1) + 1 := by rw [nI_1, Nat.sub_add_cancel h]
  rw [e, Int32.add_assoc, show (1 : Int32) + (-1) = 0 by decide, Int32.add_zero]
theorem nI_s1 {a : Nat} (h : 1 ≤ a) : nI a - 1 = nI (a - 1) := nI_subN (b := 1) h
theorem bears_up {M : Mem} {p c v : Nat} (hc : c < 16) (h : gI M (p + 1) c = nI v) (hv : v ≤ 5) : F_X1_bears M p (nI c) 1 = some (if v = 5 then 0 else 1) := by
  rw [F_X1_bears, bd1e (depthAt_in hc), h, lets, nI_1, if_neg (nneg _ (by omega))]
  by_cases e : v = 5
  · rw [if_pos e, if_pos (nI_lt (by omega) (by omega))]
  · rw [if_neg e, if_neg (by rw [nI_ltI (by decide) (by omega)]; omega)]
theorem bears_dn {M : Mem} {p c v : Nat} (hc : c < 16) (h : gI M (p + 1) c = nI v) (hv : v ≤ 5) : F_X1_bears M p (nI c) (-1) = some (if v = 0 then 0 else 1) := by
  rw [F_X1_bears, bd1e (depthAt_in hc), h, lets]
  by_cases e : v = 0
  · rw [e, if_pos (by decide), if_pos rfl]
  · rw [nI_m1 (by omega), if_neg (nneg _ (by omega)), if_neg (by rw [nI_ltI (by decide) (by omega)]; omega), if_neg e]
theorem op_dig {lw : Nat → Option Nat} (tl tt : Option Nat) {M N : Mem} {t : Nat} (ht : t ≤ 3100) (h : Rel t lw M N) (a1 : Int32) : ∃ (r : Int32) (M' : Mem) (N' : Mem), F_X8_dig M a1 = some (r, M') ∧ F_X9_dig N a1 = some (r, N') ∧ Rel (t + 1) lw M' N' := by
  have hR := h.up
  obtain ⟨hto, hro, htx, m, w, gd, d, e, hd, hw, he, hl, hg, hm, hi, hdd, hla⟩ := h
  have hle := hd.le
  have l1 := hl.1
  have l3 := hl.2.2.1
  rcases cut m (by omega) a1 with z | ⟨c, hc, rfl⟩
  · exact ⟨-1, M, N, by rw [F_X8_dig, bd1e (lhas_no l1 z), if_pos rfl], by rw [F_X9_dig, bd1e (isCell_no l3 (by omega) z), if_pos rfl], hR⟩
  · have hc16 : c < 16 := by omega
    have hv := hw.1 c
    have hb := bears_up hc16 (hg.1 c hc16) hv
    by_cases ev : d c = 5
    · rw [if_pos ev] at hb
      exact ⟨-4, M, N, by rw [F_X8_dig, bd1e (lhas_in l1 (by omega) hc), if_neg n10, bd1e hb, if_pos rfl], by rw [F_X9_dig, bd1e (isCell_in l3 (by omega) hc), if_neg n10, chk_pos (inb_nI hc16 (by decide)), clN (by omega), hm.1 c hc16, ev, if_pos rfl], hR⟩
    · rw [if_neg ev] at hb
      obtain ⟨q, D, E, d1, d2, d3, d4, d5, d6, d7⟩ := hdd
      have n5 : ¬ nI (d c) = nI 5 := fun y => ev ((nI_eq (by omega) (by decide)).mp y)
      by_cases eq : q = 40
      · subst eq
        exact ⟨-2, M, N, by rw [F_X8_dig, bd1e (lhas_in l1 (by omega) hc), if_neg n10, bd1e hb, if_neg n10, bd1e (full_yes d2), if_neg n10], by rw [F_X9_dig, bd1e (isCell_in l3 (by omega) hc), if_neg n10, chk_pos (inb_nI hc16 (by decide)), clN (by omega), hm.1 c hc16, if_neg n5, d3, if_pos rfl], hR⟩
      · have hq : q < 40 := by omega
        have hw' : DW m (fun k => if k = c then d c + 1 else d k) := ⟨fun k => by
          show (if k = c then d c + 1 else d k) ≤ 5
          have := hw.1 k
          split <;> omega, fun k hk => by
          show (if k = c then d c + 1 else d k) = 0
          rw [if_neg (by omega)]; exact hw.2 k hk⟩
        have hB : 2 ^ c < 2 ^ 16 := Nat.pow_lt_pow_right (by decide) hc16
        have hs : ∀ k, k < 16 → nI ((fun k => if k = c then d c + 1 else d k) k) = if (2 ^ c).testBit k then nI (d k) + 1 else nI (d k) := fun k hk => by
          show nI (if k = c then d c + 1 else d k) = _
          rw [tb_two]
          by_cases ek : k = c
          · subst ek; rw [if_pos rfl, decide_eq_true rfl, if_pos rfl, nI_1]
          · rw [if_neg ek, decide_eq_false (show ¬ c = k from fun y => ek y.symm), if_neg (by decide)]
        have hee : nI (e + 1) = nI e + 1 := (nI_1 e).symm
        obtain ⟨M', b0, b1, b2, b3, b4, b5, b6, b7⟩ := perform_eq (x2 := 1) (x3 := 1) hd hl.c hw hw' hB hg hs hee hq d2
        obtain ⟨N1, c0, c1, c2, c3, c4, c5⟩ := note_eq hq d3 hm.1 hm.2
        have n7 : gI N1 7 c = nI (d c) := by rw [c4 7 c (by decide) (by omega)]; exact hm.1 c hc16
        have n16 : ∀ v, gI (sI N1 7 c v) 0 16 = nI e := fun v => by rw [gI_p (by decide), c4 0 16 (by decide) (by omega)]; exact hm.2
        refine ⟨nI (d c + 1), M', sI (sI N1 7 c (nI (d c + 1))) 0 16 (nI (e + 1)), ?_, ?_, ?_⟩
        · rw [F_X8_dig, bd1e (lhas_in l1 (by omega) hc), if_neg n10, bd1e hb, if_neg n10, bd1e (full_no d2 hq), if_pos rfl, nx_one (by omega), bd1e b0, bd1e (depthAt_in hc16), b1.1 c hc16]
          show some (nI (if c = c then d c + 1 else d c), M') = _
          rw [if_pos rfl]
        · rw [F_X9_dig, bd1e (isCell_in l3 (by omega) hc), if_neg n10, chk_pos (inb_nI hc16 (by decide)), clN (by omega), hm.1 c hc16, if_neg n5, d3, if_neg (fun y => eq ((nI_eq (by omega) (by decide)).mp y)), bd1e c0, chk_pos (inb_nI hc16 (by decide)), chk_pos (inb_nI hc16 (by decide)), n7, nI_1, lets, n16, nI_1, lets, chk_pos (inb_nI hc16 (by decide)), gI_p (by decide), gI_same]
        · refine Rel.deed (B := 2 ^ c) (x2 := 1) (x3 := 1) hto hro htx hd hw hw' he (by omega) hl hi hla hq d4 d5 d6 d7 hB hs hee b1 b2 b3 b4 b5 b6 b7 ?_ ?_ ?_ ?_ (gI_same _ _ _ _) ?_ ?_
          · rw [gI_k (by decide), gI_p (by decide)]; exact c1
          · exact c2.fr (fun x => by rw [gI_p (by decide), gI_p (by decide)])
          · intro x hx; rw [gI_p (by decide), gI_p (by decide)]; exact c3 x hx
          · intro k hk
            show _ = nI (if k = c then d c + 1 else d k)
            rw [gI_p (by decide), gI_sI]
            by_cases ek : k = c
            · rw [if_pos ⟨rfl, ek⟩, if_pos ek]
            · rw [if_neg (fun y => ek y.2), if_neg ek, c4 7 k (by decide) (by omega)]
              exact hm.1 k hk
          · intro r x h1 h2 h3 h4
            rw [gI_sI, if_neg (by omega), gI_p h2, c4 r x h1 (by omega)]
          · intro r x
            rw [gJ_sI, gJ_sI, c5]
theorem op_fill {lw : Nat → Option Nat} (tl tt : Option Nat) {M N : Mem} {t : Nat} (ht : t ≤ 3100) (h : Rel t lw M N) (a1 : Int32) : ∃ (r : Int32) (M' : Mem) (N' : Mem), F_X8_fill M a1 = some (r, M') ∧ F_X9_fill N a1 = some (r, N') ∧ Rel (t + 1) lw M' N' := by
  have hR := h.up
  obtain ⟨hto, hro, htx, m, w, gd, d, e, hd, hw, he, hl, hg, hm, hi, hdd, hla⟩ := h
  have hle := hd.le
  have l1 := hl.1
  have l3 := hl.2.2.1
  have g6 := hg.2.2.2.2.2.1
  rcases cut m (by omega) a1 with z | ⟨c, hc, rfl⟩
  · exact ⟨-1, M, N, by rw [F_X8_fill, bd1e (lhas_no l1 z), if_pos rfl], by rw [F_X9_fill, bd1e (isCell_no l3 (by omega) z), if_pos rfl], hR⟩
  · have hc16 : c < 16 := by omega
    have hv := hw.1 c
    have hb := bears_dn hc16 (hg.1 c hc16) hv
    by_cases ev : d c = 0
    · rw [if_pos ev] at hb
      exact ⟨-4, M, N, by rw [F_X8_fill, bd1e (lhas_in l1 (by omega) hc), if_neg n10, bd1e hb, if_pos rfl], by rw [F_X9_fill, bd1e (isCell_in l3 (by omega) hc), if_neg n10, chk_pos (inb_nI hc16 (by decide)), clN (by omega), hm.1 c hc16, ev, if_pos e00], hR⟩
    · rw [if_neg ev] at hb
      have n5 : ¬ nI (d c) = 0 := fun y => ev ((nI_eq (a := d c) (b := 0) (by omega) (by decide)).mp y)
      by_cases ee : e = 0
      · exact ⟨-4, M, N, by rw [F_X8_fill, bd1e (lhas_in l1 (by omega) hc), if_neg n10, bd1e hb, if_neg n10, g6, ee, if_neg (by decide)], by rw [F_X9_fill, bd1e (isCell_in l3 (by omega) hc), if_neg n10, chk_pos (inb_nI hc16 (by decide)), clN (by omega), hm.1 c hc16, if_neg n5, hm.2, ee, if_pos e00], hR⟩
      · have e0 : ¬ nI e = 0 := fun y => ee ((nI_eq (a := e) (b := 0) (by omega) (by decide)).mp y)
        have ep : (0 : Int32) < nI e := nI_0lt (by omega) (by omega)
        obtain ⟨q, D, E, d1, d2, d3, d4, d5, d6, d7⟩ := hdd
        by_cases eq : q = 40
        · subst eq
          exact ⟨-2, M, N, by rw [F_X8_fill, bd1e (lhas_in l1 (by omega) hc), if_neg n10, bd1e hb, if_neg n10, g6, if_pos ep, bd1e (full_yes d2), if_neg n10], by rw [F_X9_fill, bd1e (isCell_in l3 (by omega) hc), if_neg n10, chk_pos (inb_nI hc16 (by decide)), clN (by omega), hm.1 c hc16, if_neg n5, hm.2, if_neg e0, d3, if_pos rfl], hR⟩
        · have hq : q < 40 := by omega
          have hw' : DW m (fun k => if k = c then d c - 1 else d k) := ⟨fun k => by
            show (if k = c then d c - 1 else d k) ≤ 5
            have := hw.1 k
            split <;> omega, fun k hk => by
            show (if k = c then d c - 1 else d k) = 0
            rw [if_neg (by omega)]; exact hw.2 k hk⟩
          have hB : 2 ^ c < 2 ^ 16 := Nat.pow_lt_pow_right (by decide) hc16
          have hs : ∀ k, k < 16 → nI ((fun k => if k = c then d c - 1 else d k) k) = if (2 ^ c).testBit k then nI (d k) + (-1) else nI (d k) := fun k hk => by
            show nI (if k = c then d c - 1 else d k) = _
            rw [tb_two]
            by_cases ek : k = c
            · subst ek; rw [if_pos rfl, decide_eq_true rfl, if_pos rfl, nI_m1 (by omega)]
            · rw [if_neg ek, decide_eq_false (show ¬ c = k from fun y => ek y.symm), if_neg (by decide)]
          have hee : nI (e - 1) = nI e + (-1) := (nI_m1 (by omega)).symm
          obtain ⟨M', b0, b1, b2, b3, b4, b5, b6, b7⟩ := perform_eq (x2 := -1) (x3 := -1) hd hl.c hw hw' hB hg hs hee hq d2
          obtain ⟨N1, c0, c1, c2, c3, c4, c5⟩ := note_eq hq d3 hm.1 hm.2
          have n7 : gI N1 7 c = nI (d c) := by rw [c4 7 c (by decide) (by omega)]; exact hm.1 c hc16
          have n16 : ∀ v, gI (sI N1 7 c v) 0 16 = nI e := fun v => by rw [gI_p (by decide), c4 0 16 (by decide) (by omega)]; exact hm.2
          refine ⟨nI (d c - 1), M', sI (sI N1 7 c (nI (d c - 1))) 0 16 (nI (e - 1)), ?_, ?_, ?_⟩
          · rw [F_X8_fill, bd1e (lhas_in l1 (by omega) hc), if_neg n10, bd1e hb, if_neg n10, g6, if_pos ep, bd1e (full_no d2 hq), if_pos rfl, nx_one (by omega), bd1e b0, bd1e (depthAt_in hc16), b1.1 c hc16]
            show some (nI (if c = c then d c - 1 else d c), M') = _
            rw [if_pos rfl]
          · rw [F_X9_fill, bd1e (isCell_in l3 (by omega) hc), if_neg n10, chk_pos (inb_nI hc16 (by decide)), clN (by omega), hm.1 c hc16, if_neg n5, hm.2, if_neg e0, d3, if_neg (fun y => eq ((nI_eq (by omega) (by decide)).mp y)), bd1e c0, chk_pos (inb_nI hc16 (by decide)), chk_pos (inb_nI hc16 (by decide)), n7, nI_s1 (by omega), lets, n16, nI_s1 (by omega), lets, chk_pos (inb_nI hc16 (by decide)), gI_p (by decide), gI_same]
          · refine Rel.deed (B := 2 ^ c) (x2 := -1) (x3 := -1) hto hro htx hd hw hw' he (by omega) hl hi hla hq d4 d5 d6 d7 hB hs hee b1 b2 b3 b4 b5 b6 b7 ?_ ?_ ?_ ?_ (gI_same _ _ _ _) ?_ ?_
            · rw [gI_k (by decide), gI_p (by decide)]; exact c1
            · exact c2.fr (fun x => by rw [gI_p (by decide), gI_p (by decide)])
            · intro x hx; rw [gI_p (by decide), gI_p (by decide)]; exact c3 x hx
            · intro k hk
              show _ = nI (if k = c then d c - 1 else d k)
              rw [gI_p (by decide), gI_sI]
              by_cases ek : k = c
              · rw [if_pos ⟨rfl, ek⟩, if_pos ek]
              · rw [if_neg (fun y => ek y.2), if_neg ek, c4 7 k (by decide) (by omega)]
                exact hm.1 k hk
            · intro r x h1 h2 h3 h4
              rw [gI_sI, if_neg (by omega), gI_p h2, c4 r x h1 (by omega)]
            · intro r x
              rw [gJ_sI, gJ_sI, c5]
