/-! ===== same, which, doubt, fair ===== -/
def SB (m w K : Nat) (d d0 : Nat → Nat) (i j : Nat) : Bool := smB m w K d d0 ((HL m w (dg d)).getD i 0) ((HL m w (dg d0)).getD j 0)
def SS (m w K : Nat) (d d0 : Nat → Nat) (i : Nat) : Nat := bs (SB m w K d d0 i) (HL m w (dg d0)).length
theorem allM_eq {M : Mem} {m w K p q i : Nat} {d d' : Nat → Nat} {e e' : Nat} {th th' : Int32} (hd : Dm m w) (hl : LandC M m w) (hK : K < 6) (h0 : gI M (55 + K) 0 = nI K) (hw : DW m d) (hw' : DW m d') (hg : GrC M p m w d e th) (hg' : GrC M q m w d' e' th') (hi : i < (HL m w (dg d)).length) : F_X3_allMatching M (55 + K) p (nI i) q = some (nI (SS m w K d d' i)) := by
  have hlen := HL_len hd (dg_lt hd hw')
  unfold F_X3_allMatching
  refine loop_fn' (fun j => (nI (bs (SB m w K d d' i) j), nI j)) (HL m w (dg d')).length rfl (fun j hj => ?_) ?_ (by show _ < 200000; omega)
  · show X3_allMatching_L6 M _ _ _ _ (_, _) = _
    rw [X3_allMatching_L6, hg'.2.2.2.1, if_neg (nI_nleN hj (by omega)), bd1e (matches_eq hd hl hK h0 hw hw' hg hg' hi hj), bs, show SB m w K d d' i j = smB m w K d d' ((HL m w (dg d)).getD i 0) ((HL m w (dg d')).getD j 0) from rfl]
    cases smB m w K d d' ((HL m w (dg d)).getD i 0) ((HL m w (dg d')).getD j 0)
    · rw [if_pos n0f, lets, nI_1, if_neg (by decide), Nat.or_zero]
    · rw [if_neg n0t, nx_one (by omega), nx_or, if_pos rfl]
      simp only [lets]
      rw [nI_1]
  · show X3_allMatching_L6 M _ _ _ _ (_, _) = _
    rw [X3_allMatching_L6, hg'.2.2.2.1, if_pos (nI_le (Nat.le_refl _) (by omega))]
    rfl
/-- the model's memory with the holes of then and of now laid -/
def LaidM (N : Mem) (m w k : Nat) (d d0 : Nat → Nat) : Prop := gI N 0 11 = nI m ∧ gI N 0 10 = nI w ∧ (∀ c, c < 16 → gI N 7 c = nI (d0 c)) ∧ (∀ c, c < 16 → gI N 15 (17 * k + c) = nI (d c)) ∧ gI N 0 25 = nI (HL m w (dg d)).length ∧ HolesIn N 12 (HL m w (dg d)) ∧ gI N 0 23 = nI (HL m w (dg d0)).length ∧ HolesIn N 11 (HL m w (dg d0))
theorem isSame_eq {N : Mem} {m w K k l i j : Nat} {d d0 : Nat → Nat} (hd : Dm m w) (h : LaidM N m w k d d0) (hk : k < 3) (hl : l < 6) (h9 : gI N 9 l = nI K) (hK : K < 6) (hw : DW m d) (hw0 : DW m d0) (hi : i < (HL m w (dg d)).length) (hj : j < (HL m w (dg d0)).length) : F_X9_isSame N (nI l) (nI k) (nI i) (nI j) = some (nI (b01 (SB m w K d d0 i j))) := by
  obtain ⟨a1, a2, a3, a4, a5, a6, a7, a8⟩ := h
  have hT := dg_lt hd hw
  have hT0 := dg_lt hd hw0
  have n1 := HL_len hd hT
  have n2 := HL_len hd hT0
  have hal : alM 15 = 51 := rfl
  rw [F_X9_isSame, chk_pos (inb_nI hl (by decide)), chk_pos (inb_nI (by omega) (by decide)), chk_pos (inb_nI (by omega) (by decide)), clN (by omega), clN (by omega), clN (by omega), h9, a6 i hi, a8 j hj, n17, bd1e (areSame_eq hd a1 a2 hK hw hw0 (by omega) (by decide) a4 a3 (HL_lt hd hT hi) (HL_lt hd hT0 hj)), chk_pos (b01_01 _)]
  rfl
theorem sameSet_eq {N : Mem} {m w K k l i : Nat} {d d0 : Nat → Nat} (hd : Dm m w) (h : LaidM N m w k d d0) (hk : k < 3) (hl : l < 6) (h9 : gI N 9 l = nI K) (hK : K < 6) (hw : DW m d) (hw0 : DW m d0) (hi : i < (HL m w (dg d)).length) : F_X9_sameSet N (nI l) (nI k) (nI i) = some (nI (SS m w K d d0 i)) := by
  have hlen := HL_len hd (dg_lt hd hw0)
  have h23 := h.2.2.2.2.2.2.1
  unfold F_X9_sameSet
  refine loop_fn' (fun j => (nI (bs (SB m w K d d0 i) j), nI j)) (HL m w (dg d0)).length rfl (fun j hj => ?_) ?_ (by show _ < 200000; omega)
  · show X9_sameSet_L6 N _ _ _ (_, _) = _
    rw [X9_sameSet_L6, h23, if_neg (nI_nleN hj (by omega)), bd1e (isSame_eq hd h hk hl h9 hK hw hw0 hi hj), bs]
    cases SB m w K d d0 i j
    · rw [if_pos n0f, nx_or0, if_neg (by decide), Nat.or_zero]
      simp only [lets]
      rw [nI_1]
    · rw [if_neg n0t, nx_one (by omega), nx_or, if_pos rfl]
      simp only [lets]
      rw [nI_1]
  · show X9_sameSet_L6 N _ _ _ (_, _) = _
    rw [X9_sameSet_L6, h23, if_pos (nI_le (Nat.le_refl _) (by omega))]
    rfl
theorem SS_lt {m w K : Nat} {d d0 : Nat → Nat} (hd : Dm m w) (hw0 : DW m d0) (i : Nat) : SS m w K d d0 i < 2 ^ 8 := Nat.lt_of_lt_of_le (bs_lt _ _) (Nat.pow_le_pow_right (by decide) (HL_len hd (dg_lt hd hw0)))
/-- all that the calls about an image begin with -/
theorem img_go {t : Nat} {lw : Nat → Option Nat} {M N : Mem} (h : Rel t lw M N) {k : Nat} (hk : k < 3) : (gI M (46 + 3 * k) 7 = 0 ∧ F_X9_needImage N (nI k) = some (-3, fndM N 1)) ∨ (gI M (46 + 3 * k) 7 = 1 ∧ ∃ m w gd d d0 e e0 th N', Dm m w ∧ DW m d ∧ DW m d0 ∧ LandR M N m w gd ∧ GrC M (46 + 3 * k) m w d e 1 ∧ GrC M 9 m w d0 e0 th ∧ F_X9_needImage N (nI k) = some (0, N') ∧ LaidM N' m w k d d0 ∧ Rel t lw M N' ∧ (∀ q x, q ≠ 11 → q ≠ 12 → ¬ (q = 0 ∧ (x = 23 ∨ x = 25)) → gI N' q x = gI N q x)) := by
  have hh := h
  obtain ⟨hto, hro, htx, m, w, gd, d0, e0, hd, hw0, he0, hl, hg0, hm0, hi, hdd, hla⟩ := h
  rcases hi k hk with ⟨z1, z2⟩ | ⟨z1, mp, d, e, he, hw, hg, hm⟩
  · exact Or.inl ⟨z1, needImage_no hk z2⟩
  · obtain ⟨N', c1, c2, c3, c4, c5, c6, c7⟩ := needImage_eq hd hl.2.2.1 hl.2.2.2.1 hw0 hm0.1 hk z1 hw hm
    refine Or.inr ⟨hg.2.2.2.2.2.2, m, w, gd, d, d0, e, e0, _, N', hd, hw, hw0, hl, hg, hg0, c1, ⟨?_, ?_, fun c hc => ?_, fun c hc => ?_, c2, c3, c4, c5⟩, hh.lay2 c6 c7, c6⟩
    · rw [c6 0 11 (by decide) (by decide) (by omega)]; exact hl.2.2.1
    · rw [c6 0 10 (by decide) (by decide) (by omega)]; exact hl.2.2.2.1
    · rw [c6 7 c (by decide) (by decide) (by omega)]; exact hm0.1 c hc
    · rw [c6 15 _ (by decide) (by decide) (by omega)]; exact hm.1 c hc
theorem imageOf_tot (x : Int32) : ∃ o, F_X8_imageOf x = some o := by
  rcases cut 3 (by decide) x with z | ⟨k, hk, rfl⟩
  · exact ⟨_, imageOf_no z⟩
  · exact ⟨_, (imageOf_in hk).1⟩
theorem op_same {lw : Nat → Option Nat} (tl tt : Option Nat) {M N : Mem} {t : Nat} (ht : t ≤ 3100) (h : Rel t lw M N) (a1 : Int32) (a2 : Int32) (a3 : Int32) (a4 : Int32) : ∃ (r : Int32) (M' : Mem) (N' : Mem), F_X8_same lw M a1 a2 a3 a4 = some (r, M') ∧ F_X9_same N a1 a2 a3 a4 = some (r, N') ∧ Rel (t + 1) lw M' N' := by
  obtain ⟨h0, q, K, h1, h2, h3, h4⟩ := h.laws
  rcases cut q (by omega) a1 with z | ⟨l, hl, rfl⟩
  · obtain ⟨o, ho⟩ := imageOf_tot a2
    exact ⟨-1, M, N, by rw [F_X8_same, bd1e (lawOf_no h2 z), bd1e ho, oc_n], by rw [F_X9_same, bd1e (isLaw_no h3 h1 z), if_pos rfl, X9_same_J15, X9_same_J24, if_neg (by decide)], h.up⟩
  · obtain ⟨k1, k2, k3⟩ := h4 l hl
    have cl := lawOf_in (lw := lw) h2 h1 hl
    have ml := isLaw_in h3 h1 hl
    rcases cut 3 (by decide) a2 with z | ⟨k, hk, rfl⟩
    · exact ⟨-1, M, N, by rw [F_X8_same, bd1e cl, bd1e (imageOf_no z), k2, oc_s, oc_n], by rw [F_X9_same, bd1e ml, if_neg n10, bd1e (isImage_no z), if_pos rfl, X9_same_J15, X9_same_J24, if_neg (by decide)], h.up⟩
    · obtain ⟨o1, o2⟩ := imageOf_in hk
      rcases img_go h hk with ⟨z1, z2⟩ | ⟨z1, m, w, gd, d, d0, e, e0, th, N', hd, hw, hw0, hla, hg, hg0, c1, hL, hR, c6⟩
      · exact ⟨-3, fndC M 1, fndM N 1, by rw [F_X8_same, bd1e cl, bd1e o1, k2, oc_s, oc_s, chk_pos o2, z1, if_pos rfl, bd2e found1], by rw [F_X9_same, bd1e ml, if_neg n10, bd1e (isImage_in hk), if_neg n10, bd2e z2, X9_same_J24, if_neg (by decide)], h.found (by decide)⟩
      · have n1 := HL_len hd (dg_lt hd hw)
        have n2 := HL_len hd (dg_lt hd hw0)
        have p25 := hL.2.2.2.2.1
        have p23 := hL.2.2.2.2.2.2.1
        have k3' : gI N' 9 l = nI (K l) := by rw [c6 9 l (by decide) (by decide) (by omega)]; exact k3
        have hC : F_X8_same lw M (nI l) (nI k) a3 a4 = (bd1 (F_X1_has M (46 + 3 * k) a3) fun r_8 => if r_8 = 0 then some ((-1), M) else bd1 (F_X1_has M 9 a4) fun r_10 => if r_10 = 0 then some ((-1), M) else chk (isX3 (55 + K l) = true) (bd1 (F_X3_matches M (55 + K l) (46 + 3 * k) a3 9 a4) fun r_13 => if r_13 = 0 then some (0, M) else some (1, M))) := by
          rw [F_X8_same, bd1e cl, bd1e o1, k2, oc_s, oc_s, chk_pos o2, z1, if_neg n10]
        have hM : F_X9_same N (nI l) (nI k) a3 a4 = X9_same_J24 N' (nI l) (nI k) a3 a4 0 := by
          rw [F_X9_same, bd1e ml, if_neg n10, bd1e (isImage_in hk), if_neg n10, bd2e c1]
        rw [hC, hM, X9_same_J24, if_pos (by decide), p25, p23]
        rcases cut (HL m w (dg d)).length (by omega) a3 with z | ⟨i, hi, rfl⟩
        · exact ⟨-1, M, N', by rw [bd1e (ghas_no hg.2.2.2.1 z), if_pos rfl], by rw [bd1e (in_size (by omega) z), if_pos rfl], hR.up⟩
        · rw [bd1e (ghas_in hg.2.2.2.1 (by omega) hi), if_neg n10, bd1e (in_sizeI (by omega) hi), if_neg n10]
          rcases cut (HL m w (dg d0)).length (by omega) a4 with z | ⟨j, hj, rfl⟩
          · exact ⟨-1, M, N', by rw [bd1e (ghas_no hg0.2.2.2.1 z), if_pos rfl], by rw [bd1e (in_size (by omega) z), if_pos rfl], hR.up⟩
          · rw [bd1e (ghas_in hg0.2.2.2.1 (by omega) hj), if_neg n10, bd1e (in_sizeI (by omega) hj), if_neg n10, chk_pos (isX3_law _ k1), bd1e (show _ = some (nI (b01 (SB m w (K l) d d0 i j))) from matches_eq hd hla.c k1 (h0 _ k1) hw hw0 hg hg0 hi hj), bd1e (isSame_eq hd hL hk (by omega) k3' k1 hw hw0 hi hj)]
            cases SB m w (K l) d d0 i j
            · exact ⟨0, M, N', by rw [if_pos n0f], by rw [if_pos n0f], hR.up⟩
            · exact ⟨1, M, N', by rw [if_neg n0t], by rw [if_neg n0t], hR.up⟩
theorem op_which {lw : Nat → Option Nat} (tl tt : Option Nat) {M N : Mem} {t : Nat} (ht : t ≤ 3100) (h : Rel t lw M N) (a1 : Int32) (a2 : Int32) (a3 : Int32) : ∃ (r : Int32) (M' : Mem) (N' : Mem), F_X8_which lw M a1 a2 a3 = some (r, M') ∧ F_X9_which N a1 a2 a3 = some (r, N') ∧ Rel (t + 1) lw M' N' := by
  obtain ⟨h0, q, K, h1, h2, h3, h4⟩ := h.laws
  rcases cut q (by omega) a1 with z | ⟨l, hl, rfl⟩
  · obtain ⟨o, ho⟩ := imageOf_tot a2
    exact ⟨-1, M, N, by rw [F_X8_which, bd1e (lawOf_no h2 z), bd1e ho, oc_n], by rw [F_X9_which, bd1e (isLaw_no h3 h1 z), if_pos rfl, X9_which_J15, X9_which_J24, if_neg (by decide)], h.up⟩
  · obtain ⟨k1, k2, k3⟩ := h4 l hl
    have cl := lawOf_in (lw := lw) h2 h1 hl
    have ml := isLaw_in h3 h1 hl
    rcases cut 3 (by decide) a2 with z | ⟨k, hk, rfl⟩
    · exact ⟨-1, M, N, by rw [F_X8_which, bd1e cl, bd1e (imageOf_no z), k2, oc_s, oc_n], by rw [F_X9_which, bd1e ml, if_neg n10, bd1e (isImage_no z), if_pos rfl, X9_which_J15, X9_which_J24, if_neg (by decide)], h.up⟩
    · obtain ⟨o1, o2⟩ := imageOf_in hk
      rcases img_go h hk with ⟨z1, z2⟩ | ⟨z1, m, w, gd, d, d0, e, e0, th, N', hd, hw, hw0, hla, hg, hg0, c1, hL, hR, c6⟩
      · exact ⟨-3, fndC M 1, fndM N 1, by rw [F_X8_which, bd1e cl, bd1e o1, k2, oc_s, oc_s, chk_pos o2, z1, if_pos rfl, bd2e found1], by rw [F_X9_which, bd1e ml, if_neg n10, bd1e (isImage_in hk), if_neg n10, bd2e z2, X9_which_J24, if_neg (by decide)], h.found (by decide)⟩
      · have n1 := HL_len hd (dg_lt hd hw)
        have p25 := hL.2.2.2.2.1
        have k3' : gI N' 9 l = nI (K l) := by rw [c6 9 l (by decide) (by decide) (by omega)]; exact k3
        rcases cut (HL m w (dg d)).length (by omega) a3 with z | ⟨i, hi, rfl⟩
        · exact ⟨-1, M, N', by rw [F_X8_which, bd1e cl, bd1e o1, k2, oc_s, oc_s, chk_pos o2, z1, if_neg n10, bd1e (ghas_no hg.2.2.2.1 z), if_pos rfl], by rw [F_X9_which, bd1e ml, if_neg n10, bd1e (isImage_in hk), if_neg n10, bd2e c1, X9_which_J24, if_pos (by decide), p25, bd1e (in_size (by omega) z), if_pos rfl], hR.up⟩
        · exact ⟨nI (SS m w (K l) d d0 i), M, N', by rw [F_X8_which, bd1e cl, bd1e o1, k2, oc_s, oc_s, chk_pos o2, z1, if_neg n10, bd1e (ghas_in hg.2.2.2.1 (by omega) hi), if_neg n10, chk_pos (isX3_law _ k1), bd1e (allM_eq hd hla.c k1 (h0 _ k1) hw hw0 hg hg0 hi)], by rw [F_X9_which, bd1e ml, if_neg n10, bd1e (isImage_in hk), if_neg n10, bd2e c1, X9_which_J24, if_pos (by decide), p25, bd1e (in_sizeI (by omega) hi), if_neg n10, bd1e (sameSet_eq hd hL hk (by omega) k3' k1 hw hw0 hi)], hR.up⟩
theorem op_doubt {lw : Nat → Option Nat} (tl tt : Option Nat) {M N : Mem} {t : Nat} (ht : t ≤ 3100) (h : Rel t lw M N) (a1 : Int32) (a2 : Int32) : ∃ (r : Int32) (M' : Mem) (N' : Mem), F_X8_doubt lw M a1 a2 = some (r, M') ∧ F_X9_doubt N a1 a2 = some (r, N') ∧ Rel (t + 1) lw M' N' := by
  obtain ⟨h0, q, K, h1, h2, h3, h4⟩ := h.laws
  rcases cut q (by omega) a1 with z | ⟨l, hl, rfl⟩
  · obtain ⟨o, ho⟩ := imageOf_tot a2
    exact ⟨-1, M, N, by rw [F_X8_doubt, bd1e (lawOf_no h2 z), bd1e ho, oc_n], by rw [F_X9_doubt, bd1e (isLaw_no h3 h1 z), if_pos rfl, X9_doubt_J15, X9_doubt_J24, if_neg (by decide)], h.up⟩
  · obtain ⟨k1, k2, k3⟩ := h4 l hl
    have cl := lawOf_in (lw := lw) h2 h1 hl
    have ml := isLaw_in h3 h1 hl
    rcases cut 3 (by decide) a2 with z | ⟨k, hk, rfl⟩
    · exact ⟨-1, M, N, by rw [F_X8_doubt, bd1e cl, bd1e (imageOf_no z), k2, oc_s, oc_n], by rw [F_X9_doubt, bd1e ml, if_neg n10, bd1e (isImage_no z), if_pos rfl, X9_doubt_J15, X9_doubt_J24, if_neg (by decide)], h.up⟩
    · obtain ⟨o1, o2⟩ := imageOf_in hk
      rcases img_go h hk with ⟨z1, z2⟩ | ⟨z1, m, w, gd, d, d0, e, e0, th, N', hd, hw, hw0, hla, hg, hg0, c1, hL, hR, c6⟩
      · exact ⟨-3, fndC M 1, fndM N 1, by rw [F_X8_doubt, bd1e cl, bd1e o1, k2, oc_s, oc_s, chk_pos o2, z1, if_pos rfl, bd2e found1], by rw [F_X9_doubt, bd1e ml, if_neg n10, bd1e (isImage_in hk), if_neg n10, bd2e z2, X9_doubt_J24, if_neg (by decide)], h.found (by decide)⟩
      · have n1 := HL_len hd (dg_lt hd hw)
        have p25 := hL.2.2.2.2.1
        have k3' : gI N' 9 l = nI (K l) := by rw [c6 9 l (by decide) (by decide) (by omega)]; exact k3
        have hCL : loop (X8_doubt_L47 lw M (55 + K l) (46 + 3 * k)) FU (0, 0, 0) = some (nI (sm (fun i => b01 (decide (1 < pc (SS m w (K l) d d0 i)))) (HL m w (dg d)).length), sI M 0 12 (nI (sm (fun i => b01 (decide (pc (SS m w (K l) d d0 i) = 0))) (HL m w (dg d)).length))) := by
          refine loop_fn' (fun i => (nI (sm (fun i => b01 (decide (1 < pc (SS m w (K l) d d0 i)))) i), nI (sm (fun i => b01 (decide (pc (SS m w (K l) d d0 i) = 0))) i), nI i)) (HL m w (dg d)).length rfl (fun i hi => ?_) ?_ (by show _ < 200000; omega)
          · show X8_doubt_L47 lw M _ _ (_, _, _) = _
            have hs := SS_lt (K := K l) (d := d) hd hw0 i
            have hp := pc_le (SS m w (K l) d d0 i)
            rw [X8_doubt_L47, hg.2.2.2.1, if_neg (nI_nleN hi (by omega)), bd1e (allM_eq hd hla.c k1 (h0 _ k1) hw hw0 hg hg0 hi), bd1e (cbits (by omega)), sm, sm]
            by_cases y : pc (SS m w (K l) d d0 i) ≤ 1
            · rw [if_pos (show nI (pc (SS m w (K l) d d0 i)) ≤ 1 from nI_le (b := 1) y (by decide)), decide_eq_false (show ¬ 1 < pc (SS m w (K l) d d0 i) by omega)]
              by_cases y0 : pc (SS m w (K l) d d0 i) = 0
              · rw [if_pos (show nI (pc (SS m w (K l) d d0 i)) = 0 by rw [y0]; rfl), decide_eq_true y0]
                simp only [lets]
                rw [nI_1, nI_1]
                rfl
              · rw [if_neg (nI_ne0 (by omega) (by omega)), decide_eq_false y0, lets, nI_1]
                rfl
            · rw [if_neg (show ¬ nI (pc (SS m w (K l) d d0 i)) ≤ 1 from nI_nleN (a := 1) (by omega) (by omega)), decide_eq_true (show 1 < pc (SS m w (K l) d d0 i) by omega), decide_eq_false (show ¬ pc (SS m w (K l) d d0 i) = 0 by omega)]
              simp only [lets]
              rw [nI_1, nI_1]
              rfl
          · show X8_doubt_L47 lw M _ _ (_, _, _) = _
            rw [X8_doubt_L47, hg.2.2.2.1, if_pos (nI_le (Nat.le_refl _) (by omega)), lets]
        have hML : loop (X9_doubt_L40 N' (nI l) (nI k)) FU (0, 0, 0) = some (nI (sm (fun i => b01 (decide (1 < pc (SS m w (K l) d d0 i)))) (HL m w (dg d)).length), sI N' 0 2 (nI (sm (fun i => b01 (decide (pc (SS m w (K l) d d0 i) = 0))) (HL m w (dg d)).length))) := by
          refine loop_fn' (fun i => (nI (sm (fun i => b01 (decide (1 < pc (SS m w (K l) d d0 i)))) i), nI (sm (fun i => b01 (decide (pc (SS m w (K l) d d0 i) = 0))) i), nI i)) (HL m w (dg d)).length rfl (fun i hi => ?_) ?_ (by show _ < 200000; omega)
          · show X9_doubt_L40 N' _ _ (_, _, _) = _
            have hs := SS_lt (K := K l) (d := d) hd hw0 i
            have hp := pc_le (SS m w (K l) d d0 i)
            rw [X9_doubt_L40, p25, if_neg (nI_nleN hi (by omega)), bd1e (sameSet_eq hd hL hk (by omega) k3' k1 hw hw0 hi), bd1e (msize (by omega)), sm, sm]
            by_cases y : pc (SS m w (K l) d d0 i) ≤ 1
            · rw [if_pos (show nI (pc (SS m w (K l) d d0 i)) ≤ 1 from nI_le (b := 1) y (by decide)), decide_eq_false (show ¬ 1 < pc (SS m w (K l) d d0 i) by omega), X9_doubt_J75, nI_add0, lets]
              by_cases y0 : pc (SS m w (K l) d d0 i) = 0
              · rw [if_pos (show nI (pc (SS m w (K l) d d0 i)) = 0 by rw [y0]; rfl), decide_eq_true y0]
                simp only [lets]
                rw [nI_1, nI_1]
                rfl
              · rw [if_neg (nI_ne0 (by omega) (by omega)), decide_eq_false y0]
                simp only [lets]
                rw [nI_add0, nI_1]
                rfl
            · rw [if_neg (show ¬ nI (pc (SS m w (K l) d d0 i)) ≤ 1 from nI_nleN (a := 1) (by omega) (by omega)), decide_eq_true (show 1 < pc (SS m w (K l) d d0 i) by omega), decide_eq_false (show ¬ pc (SS m w (K l) d d0 i) = 0 by omega), X9_doubt_J75, nI_1, lets, if_neg (nI_ne0 (by omega) (by omega))]
              simp only [lets]
              rw [nI_add0, nI_1]
              rfl
          · show X9_doubt_L40 N' _ _ (_, _, _) = _
            rw [X9_doubt_L40, p25, if_pos (nI_le (Nat.le_refl _) (by omega)), bd2e ask_eq]
        exact ⟨_, _, _, by rw [F_X8_doubt, bd1e cl, bd1e o1, k2, oc_s, oc_s, chk_pos o2, z1, if_neg n10, chk_pos (isX3_law _ k1), hCL], by rw [F_X9_doubt, bd1e ml, if_neg n10, bd1e (isImage_in hk), if_neg n10, bd2e c1, X9_doubt_J24, if_pos (by decide), hML], hR.ask _⟩
