/-! ===== cell, hole ===== -/
theorem e00 : nI 0 = (0 : Int32) := rfl
theorem e11 : nI 1 = (1 : Int32) := rfl
def sRelC (p k : Nat) : Bool := sAllC p k || sToC p k
def sRelM (p k : Nat) : Bool := sAllM p k || sToM p k
theorem Rel.frm {t : Nat} {lw : Nat → Option Nat} {M M' N N' : Mem} (h : Rel t lw M N) (hM : agr sRelC M M') (hN : agr sRelM N N') (jM : ∀ k, gJ M' 0 k = gJ M 0 k) (jN : gJ N' 0 3 = gJ N 0 3 ∧ gJ N' 0 4 = gJ N 0 4) : Rel t lw M' N' := by
  have a0 : agr sAllC M M' := hM.mono (fun p k h => by simp [sRelC, h])
  have b0 : agr sAllM N N' := hN.mono (fun p k h => by simp [sRelM, h])
  have a1 : agr sRwC M M' := a0.mono (fun p k h => by simp [sAllC, h])
  have a2 : agr sTxC M M' := a0.mono (fun p k h => by simp [sAllC, h])
  have a3 : agr sGC M M' := a0.mono (fun p k h => by simp [sAllC, h])
  have b1 : agr sRwM N N' := b0.mono (fun p k h => by simp [sAllM, h])
  have b2 : agr sTxM N N' := b0.mono (fun p k h => by simp [sAllM, h])
  have b3 : agr sGM N N' := b0.mono (fun p k h => by simp [sAllM, h])
  exact ⟨h.1.fr (hM.mono (fun p k h => by simp [sRelC, h])) (hN.mono (fun p k h => by simp [sRelM, h])) (jM _) (jM _) jN.1 jN.2, h.2.1.fr a1 b1, h.2.2.1.fr a2 b2, h.2.2.2.fr a3 b3⟩
/-- the model's scratch: holes, thens, and so on -/
theorem Rel.lay {t : Nat} {lw : Nat → Option Nat} {M N N' : Mem} (h : Rel t lw M N) (h1 : ∀ q k, q ≠ 11 → ¬ (q = 0 ∧ k = 23) → gI N' q k = gI N q k) (h2 : ∀ q k, gJ N' q k = gJ N q k) : Rel t lw M N' := by
  refine h.frm agr.rf (fun p k hp => h1 p k ?_ ?_) (fun _ => rfl) ⟨h2 _ _, h2 _ _⟩
  · rintro rfl
    simp [sRelM, sAllM, sRwM, sTxM, sGM, sToM] at hp
  · rintro ⟨rfl, rfl⟩
    simp [sRelM, sAllM, sRwM, sTxM, sGM, sToM] at hp
theorem cut (n : Nat) (hn : n < 2 ^ 31) (x : Int32) : (x < 0 ∨ nI n ≤ x) ∨ ∃ j, j < n ∧ x = nI j := by
  by_cases h : x < 0
  · exact Or.inl (Or.inl h)
  · obtain ⟨j, h1, h2⟩ := nI_of h
    by_cases hj : j < n
    · exact Or.inr ⟨j, hj, h2⟩
    · exact Or.inl (Or.inr (by rw [h2]; exact nI_le (by omega) h1))
theorem nneg (n : Nat) : n < 2 ^ 31 → ¬ nI n < 0 := fun h z => by
  have := (nI_ltI (a := n) (b := 0) h (by decide)).mp z
  omega
theorem not_lt_of {x : Int32} {n : Nat} (h : nI n ≤ x) (hn : n < 2 ^ 31) : ¬ x < nI n := by
  rw [Int32.le_iff_toInt_le] at h
  rw [Int32.lt_iff_toInt_lt]
  omega
theorem lhas_no {M : Mem} {m : Nat} {x : Int32} (h0 : gI M 7 0 = nI m) (hx : x < 0 ∨ nI m ≤ x) : F_X2_has M x = some 0 := by
  unfold F_X2_has
  rw [h0]
  by_cases z : x < 0
  · rw [if_pos z]
  · rw [if_neg z, if_pos (hx.resolve_left z)]
theorem lhas_in {M : Mem} {m j : Nat} (h0 : gI M 7 0 = nI m) (hm : m < 2 ^ 31) (hj : j < m) : F_X2_has M (nI j) = some 1 := by
  unfold F_X2_has
  rw [h0, if_neg (nneg j (by omega)), if_neg (nI_nleN hj hm)]
theorem isCell_no {N : Mem} {m : Nat} {x : Int32} (h0 : gI N 0 11 = nI m) (hm : m ≤ 60) (hx : x < 0 ∨ nI m ≤ x) : F_X9_isCell N x = some 0 := by
  unfold F_X9_isCell
  rw [h0, bd1e (in_size hm hx), chk_pos (Or.inl rfl)]
theorem isCell_in {N : Mem} {m j : Nat} (h0 : gI N 0 11 = nI m) (hm : m ≤ 60) (hj : j < m) : F_X9_isCell N (nI j) = some 1 := by
  unfold F_X9_isCell
  rw [h0, bd1e (in_sizeI hm hj), chk_pos (Or.inr rfl)]
theorem ghas_no {M : Mem} {p n : Nat} {x : Int32} (h0 : gI M p 3 = nI n) (hx : x < 0 ∨ nI n ≤ x) : F_X1_has M p x = some 0 := by
  unfold F_X1_has
  rw [h0]
  by_cases z : x < 0
  · rw [if_pos z]
  · rw [if_neg z, if_pos (hx.resolve_left z)]
theorem ghas_in {M : Mem} {p n j : Nat} (h0 : gI M p 3 = nI n) (hm : n < 2 ^ 31) (hj : j < n) : F_X1_has M p (nI j) = some 1 := by
  unfold F_X1_has
  rw [h0, if_neg (nneg j (by omega)), if_neg (nI_nleN hj hm)]
theorem bitsOf_in {M : Mem} {p j : Nat} {l : List Nat} (h0 : gI M p 3 = nI l.length) (hn : l.length ≤ 8) (hh : ∀ i, i < l.length → gI M (p + 2) i = nI (l.getD i 0)) (hj : j < l.length) : F_X1_bitsOf M p (nI j) = some (nI (l.getD j 0)) := by
  unfold F_X1_bitsOf
  rw [h0, if_neg (nneg j (by omega)), if_neg (nI_nleN hj (by omega)), if_neg (nI_nleN (show j < 8 by omega) (by decide)), chk_pos (inb_nI (by omega) (by decide)), clN (by omega), hh j hj]
theorem depthAt_in {M : Mem} {p j : Nat} (hj : j < 16) : F_X1_depthAt M p (nI j) = some (gI M (p + 1) j) := by
  unfold F_X1_depthAt
  rw [if_neg (nneg j (by omega)), if_neg (nI_nleN hj (by decide)), chk_pos (inb_nI hj (by decide)), clN (by omega)]
theorem pc_pos {s : Nat} (h : 0 < pc s) : ∃ k, k < 16 ∧ s.testBit k = true := by
  by_cases e : ∃ k, k < 16 ∧ s.testBit k = true
  · exact e
  · exfalso
    have : pc s = 0 := sm_zero (fun i hi => by
      cases z : s.testBit i
      · rfl
      · exact absurd ⟨i, hi, z⟩ e)
    omega
theorem am_one {m w j : Nat} {gd : Nat → Nat} (hm : m ≤ 16) (hg : ∀ x, gd x < 4) (hj : j < m) : am (own m w gd (2 ^ j)) 4 = gd (j % w) := by
  have h1 := own_pos (w := w) hm hg (Nat.pow_lt_pow_right (by decide) hj) (show (2 ^ j).testBit j = true by rw [tb_two]; exact decide_eq_true rfl)
  obtain ⟨k, h2, h3⟩ := pc_pos h1
  rw [Nat.testBit_and, Bool.and_eq_true, tb_two, decide_eq_true_iff] at h3
  obtain ⟨h4, h5⟩ := h3
  subst h4
  unfold gset at h5
  rw [bs_tb, Bool.and_eq_true, Bool.and_eq_true, decide_eq_true_iff, decide_eq_true_iff, decide_eq_true_iff] at h5
  exact h5.2.2.symm
/-- the hole over a cell -/
def hix (l : List Nat) (c : Nat) (r : Int32) : Prop := (∃ i, i < l.length ∧ (l.getD i 0).testBit c = true ∧ r = nI i) ∨ ((∀ i, i < l.length → (l.getD i 0).testBit c = false) ∧ r = -9)
theorem holeAt_eq {M : Mem} {p c : Nat} {l : List Nat} (h0 : gI M p 3 = nI l.length) (hn : l.length ≤ 8) (hh : ∀ i, i < l.length → gI M (p + 2) i = nI (l.getD i 0)) (hb : ∀ i, i < l.length → l.getD i 0 < 2 ^ 16) (hc : c < 16) : ∃ r, F_X1_holeAt M p (nI c) = some r ∧ hix l c r := by
  unfold F_X1_holeAt
  refine loop_inv (f := X1_holeAt_L2 M p (nI c)) (fun k st => st = nI k ∧ ∀ i, i < k → (l.getD i 0).testBit c = false) (hix l c) l.length (fun k st hk hst => ?_) (by show l.length < 200000; omega) ⟨rfl, fun i hi => absurd hi (Nat.not_lt_zero _)⟩
  obtain ⟨e1, e2⟩ := hst
  subst e1
  rw [X1_holeAt_L2, h0]
  by_cases e : k = l.length
  · subst e
    rw [if_pos (nI_le (Nat.le_refl _) (by omega))]
    exact Or.inr ⟨_, rfl, Or.inr ⟨e2, rfl⟩⟩
  · have hb' := hb k (by omega)
    rw [if_neg (nI_nleN (by omega) (by omega)), bd1e (bitsOf_in h0 hn hh (by omega))]
    cases z : (l.getD k 0).testBit c
    · rw [if_pos ((nx_u0 (by omega) (by omega)).mpr z), lets, nI_1]
      refine Or.inl ⟨by omega, _, rfl, rfl, fun i hi => ?_⟩
      by_cases ei : i = k
      · subst ei; exact z
      · exact e2 i (by omega)
    · rw [if_neg (fun y => by rw [(nx_u0 (by omega) (by omega)).mp y] at z; cases z)]
      exact Or.inr ⟨_, rfl, Or.inl ⟨k, by omega, z, rfl⟩⟩
theorem mholeAt_eq {N : Mem} {c : Nat} {l : List Nat} (h0 : gI N 0 23 = nI l.length) (hn : l.length ≤ 8) (hh : HolesIn N 11 l) (hb : ∀ i, i < l.length → l.getD i 0 < 2 ^ 16) (hc : c < 16) : ∃ r, loop (X9_cellOf_L40 N (nI c)) FU ((-9), 0) = some (r, N) ∧ hix l c r := by
  obtain ⟨r, e1, e2, e3⟩ := loop_inv (f := X9_cellOf_L40 N (nI c)) (fun k st => st.2 = nI k ∧ ((∃ i, i < k ∧ (l.getD i 0).testBit c = true ∧ st.1 = nI i) ∨ ((∀ i, i < k → (l.getD i 0).testBit c = false) ∧ st.1 = -9))) (fun r => r.2 = N ∧ hix l c r.1) l.length (fun k st hk hst => by
    obtain ⟨x, y⟩ := st
    obtain ⟨e1, e2⟩ := hst
    have e1 : y = nI k := e1
    subst e1
    rw [X9_cellOf_L40, h0]
    by_cases e : k = l.length
    · subst e
      rw [if_pos (nI_le (Nat.le_refl _) (by omega))]
      exact Or.inr ⟨_, rfl, rfl, e2⟩
    · have hb' := hb k (by omega)
      rw [if_neg (nI_nleN (by omega) (by omega)), chk_pos (inb_nI (by omega) (by decide)), clN (by omega), hh k (by omega)]
      refine Or.inl ⟨by omega, ?_⟩
      cases z : (l.getD k 0).testBit c
      · rw [bd1e (mhas_f (by omega) (by omega) z), if_pos rfl, lets, nI_1]
        refine ⟨_, rfl, rfl, ?_⟩
        rcases e2 with ⟨i, f1, f2, f3⟩ | ⟨f1, f2⟩
        · exact Or.inl ⟨i, by omega, f2, f3⟩
        · refine Or.inr ⟨fun i hi => ?_, f2⟩
          by_cases ei : i = k
          · subst ei; exact z
          · exact f1 i (by omega)
      · rw [bd1e (mhas_t (by omega) (by omega) z), if_neg (by decide), lets, nI_1]
        exact ⟨_, rfl, rfl, Or.inl ⟨k, by omega, z, rfl⟩⟩) (k := FU) (by show l.length < 200000; omega) (s := ((-9), 0)) ⟨rfl, Or.inr ⟨fun i hi => absurd hi (Nat.not_lt_zero _), rfl⟩⟩
  obtain ⟨x, y⟩ := r
  have e2 : y = N := e2
  subst e2
  exact ⟨x, e1, e3⟩
theorem hix_one {m w T c : Nat} {r r' : Int32} (hd : Dm m w) (hT : T < 2 ^ m) (h : hix (HL m w T) c r) (h' : hix (HL m w T) c r') : r = r' := by
  rcases h with ⟨i, a1, a2, a3⟩ | ⟨a1, a2⟩ <;> rcases h' with ⟨i', b1, b2, b3⟩ | ⟨b1, b2⟩
  · rw [a3, b3, HL_dis hd hT a1 b1 a2 b2]
  · rw [b1 i a1] at a2; cases a2
  · rw [a1 i' b1] at b2; cases b2
  · rw [a2, b2]
theorem op_cell {lw : Nat → Option Nat} (tl tt : Option Nat) {M N : Mem} {t : Nat} (ht : t ≤ 3100) (h : Rel t lw M N) (a1 : Int32) (a2 : Int32) : ∃ (r : Int32) (M' : Mem) (N' : Mem), F_X8_cell M a1 a2 = some (r, M') ∧ F_X9_cell N a1 a2 = some (r, N') ∧ Rel (t + 1) lw M' N' := by
  obtain ⟨m, w, gd, d, e, hd, hw, he, hl, hg, hm, -⟩ := h.2.2.2
  have hle := hd.le
  have hl' := hl
  obtain ⟨l1, l2, l3, l4, l5, l6, l7, l8, l9⟩ := hl'
  obtain ⟨g1, g2, g3, g4, g5, g6, g7⟩ := hg
  have hT := dg_lt hd hw
  rcases cut m (by omega) a1 with z | ⟨j, hj, rfl⟩
  · exact ⟨-1, M, N, by rw [F_X8_cell, bd1e (lhas_no l1 z), if_pos rfl], by rw [F_X9_cell, bd1e (isCell_no l3 (by omega) z), if_pos rfl], h.up⟩
  · rcases cut 3 (by decide) a2 with z | ⟨k, hk, rfl⟩
    · refine ⟨-1, M, N, ?_, ?_, h.up⟩
      · rw [F_X8_cell, bd1e (lhas_in l1 (by omega) hj), if_neg n10]
        by_cases y : a2 < 0
        · rw [if_pos y]
        · rw [if_neg y, if_neg (not_lt_of (z.resolve_left y) (by decide))]
      · rw [F_X9_cell, bd1e (isCell_in l3 (by omega) hj), if_neg n10, bd1e (in_no (z.imp_right (fun y => lt_of_le y (by decide)))), if_pos rfl]
    · have hC : ∀ x, F_X8_cellTold M (nI j) (nI k) = some x → F_X8_cell M (nI j) (nI k) = some (1, sI M 0 12 x) := fun x hx => by
        rw [F_X8_cell, bd1e (lhas_in l1 (by omega) hj), if_neg n10, if_neg (nneg k (by omega)), if_pos (nI_lt hk (by decide)), bd1e hx, tell_eq]
        rfl
      have hM : ∀ x N', F_X9_cellOf N (nI j) (nI k) = some (x, N') → F_X9_cell N (nI j) (nI k) = some (1, sI N' 0 2 x) := fun x N' hx => by
        rw [F_X9_cell, bd1e (isCell_in l3 (by omega) hj), if_neg n10, bd1e (in_yes (nneg k (by omega)) (by rw [nI_ltI (by decide) (by omega)]; omega)), if_neg n10, bd2e hx, ask_eq]
        rfl
      have hk3 : k = 0 ∨ k = 1 ∨ k = 2 := by omega
      rcases hk3 with rfl | rfl | rfl
      · refine ⟨1, _, _, hC (nI (d j)) ?_, hM (nI (d j)) N ?_, h.ask _⟩
        · rw [F_X8_cellTold, if_pos e00, bd1e (depthAt_in (by omega)), g1 j (by omega)]
        · rw [F_X9_cellOf, if_neg (by decide), if_pos e00, chk_pos (inb_nI (by omega) (by decide)), clN (by omega), hm.1 j (by omega)]
      · have hw0 : w ≠ 0 := by
          intro y; subst y
          rcases hd with y | y <;> omega
        have hlt := Nat.mod_lt j (show 0 < w by omega)
        refine ⟨1, _, _, hC (nI (gd (j % w))) ?_, hM (nI (gd (j % w))) N ?_, h.ask _⟩
        · rw [F_X8_cellTold, if_neg (by decide), if_pos e11, F_X2_gardenerAt, bd1e (lhas_in l1 (by omega) hj), if_neg n10, nx_one (by omega), bd1e (owner_same hd hl (Nat.pow_lt_pow_right (by decide) hj) (show (2 ^ j).testBit j = true by rw [tb_two]; exact decide_eq_true rfl)).1, am_one hle.1 l7 hj]
          rfl
        · rw [F_X9_cellOf, if_neg (by decide), if_neg (by decide), l4, chk_pos (show ¬ nI w = 0 from fun z => hw0 ((nI_eq (a := w) (b := 0) (by omega) (by decide)).mp z)), irm_c j (by omega) w (by omega) hw0, chk_pos (inb_nI (by omega) (by decide)), clN (by omega), l8 _ (by omega)]
      · have hb : ∀ i, i < (HL m w (dg d)).length → (HL m w (dg d)).getD i 0 < 2 ^ 16 := fun i hi => lt16 hd (HL_lt hd hT hi)
        obtain ⟨r, e1, e2⟩ := holeAt_eq (c := j) g4 (HL_len hd hT) g5 hb (by omega)
        obtain ⟨N', f1, f2, f3, f4, f5⟩ := layHoles_eq hd l3 l4 hw hm.1
        obtain ⟨r', e3, e4⟩ := mholeAt_eq (c := j) f2 (HL_len hd hT) f3 hb (by omega)
        have er := hix_one hd hT e2 e4
        subst er
        refine ⟨1, _, _, hC r ?_, hM r N' ?_, (h.lay f4 f5).ask _⟩
        · rw [F_X8_cellTold, if_neg (by decide), if_neg (by decide), bd1e e1]
        · rw [F_X9_cellOf, if_pos (by decide), bd1e f1, e3]
theorem op_hole {lw : Nat → Option Nat} (tl tt : Option Nat) {M N : Mem} {t : Nat} (ht : t ≤ 3100) (h : Rel t lw M N) (a1 : Int32) (a2 : Int32) : ∃ (r : Int32) (M' : Mem) (N' : Mem), F_X8_hole M a1 a2 = some (r, M') ∧ F_X9_hole N a1 a2 = some (r, N') ∧ Rel (t + 1) lw M' N' := by
  obtain ⟨m, w, gd, d, e, hd, hw, he, hl, hg, hm, -⟩ := h.2.2.2
  have hle := hd.le
  have hl' := hl
  obtain ⟨l1, l2, l3, l4, l5, l6, l7, l8, l9⟩ := hl'
  obtain ⟨g1, g2, g3, g4, g5, g6, g7⟩ := hg
  have hT := dg_lt hd hw
  have hlen := HL_len hd hT
  obtain ⟨N', f1, f2, f3, f4, f5⟩ := layHoles_eq hd l3 l4 hw hm.1
  have hR := h.lay f4 f5
  rcases cut (HL m w (dg d)).length (by omega) a1 with z | ⟨j, hj, rfl⟩
  · have e1 : F_X9_isHole N a1 = some (0, N') := by rw [F_X9_isHole, bd1e f1, f2, bd1e (in_size (by omega) z), chk_pos (Or.inl rfl)]
    exact ⟨-1, M, N', by rw [F_X8_hole, bd1e (ghas_no g4 z), if_pos rfl], by rw [F_X9_hole, bd2e e1, if_pos rfl], hR.up⟩
  · have e1 : F_X9_isHole N (nI j) = some (1, N') := by rw [F_X9_isHole, bd1e f1, f2, bd1e (in_sizeI (by omega) hj), chk_pos (Or.inr rfl)]
    rcases cut 5 (by decide) a2 with z | ⟨k, hk, rfl⟩
    · refine ⟨-1, M, N', ?_, ?_, hR.up⟩
      · rw [F_X8_hole, bd1e (ghas_in g4 (by omega) hj), if_neg n10]
        by_cases y : a2 < 0
        · rw [if_pos y]
        · rw [if_neg y, if_neg (not_lt_of (z.resolve_left y) (by decide))]
      · rw [F_X9_hole, bd2e e1, if_neg n10, bd1e (in_no (z.imp_right (fun y => lt_of_le y (by decide)))), if_pos rfl]
    · have hs := HL_lt hd hT hj
      have hs16 := lt16 hd hs
      obtain ⟨c, hc⟩ : ∃ c, ((HL m w (dg d)).getD j 0).testBit c = true := ((hl_inv hd hT m (Nat.le_refl _)).2.2.2.1 j hj).2.1
      have hfn : ∀ q k, q ≠ 11 → ¬ (q = 0 ∧ k = 23) → gI N' q k = gI N q k := f4
      have hC : ∀ x, F_X1_holeTold M 9 (nI j) (nI k) = some x → F_X8_hole M (nI j) (nI k) = some (1, sI M 0 12 x) := fun x hx => by
        rw [F_X8_hole, bd1e (ghas_in g4 (by omega) hj), if_neg n10, if_neg (nneg k (by omega)), if_pos (nI_lt hk (by decide)), bd1e hx, tell_eq]
        rfl
      have hM : ∀ x, F_X9_holeOf N' 7 0 (nI ((HL m w (dg d)).getD j 0)) (nI k) = some x → F_X9_hole N (nI j) (nI k) = some (1, sI N' 0 2 x) := fun x hx => by
        rw [F_X9_hole, bd2e e1, if_neg n10, bd1e (in_yes (nneg k (by omega)) (by rw [nI_ltI (by decide) (by omega)]; omega)), if_neg n10, chk_pos (inb_nI (by omega) (by decide)), clN (by omega), f3 j hj, bd1e hx, ask_eq]
        rfl
      have h0' : gI N' 0 11 = nI m := by rw [f4 0 11 (by decide) (by decide)]; exact l3
      have h1' : gI N' 0 10 = nI w := by rw [f4 0 10 (by decide) (by decide)]; exact l4
      have h7' : ∀ c, c < 16 → gI N' 7 (0 + c) = nI (d c) := fun c hc => by rw [f4 7 _ (by decide) (by omega), Nat.zero_add]; exact hm.1 c hc
      have hb := bitsOf_in (p := 9) g4 hlen g5 hj
      generalize hS : (HL m w (dg d)).getD j 0 = s at hs hs16 hc hM hb
      have hk5 : k = 0 ∨ k = 1 ∨ k = 2 ∨ k = 3 ∨ k = 4 := by omega
      rcases hk5 with rfl | rfl | rfl | rfl | rfl
      · refine ⟨1, _, _, hC (nI s) ?_, hM (nI s) ?_, hR.ask _⟩
        · rw [F_X1_holeTold, bd1e hb, if_pos e00]
        · rw [F_X9_holeOf, if_pos e00]
      · refine ⟨1, _, _, hC (nI (pc s)) ?_, hM (nI (pc s)) ?_, hR.ask _⟩
        · rw [F_X1_holeTold, bd1e hb, if_neg (by decide), if_pos e11, bd1e (cbits hs16)]
        · rw [F_X9_holeOf, if_neg (by decide), if_pos e11, bd1e (msize hs16)]
      · refine ⟨1, _, _, hC (nI (volN d s 16)) ?_, hM (nI (volN d s 16)) ?_, hR.ask _⟩
        · rw [F_X1_holeTold, bd1e hb, if_neg (by decide), if_neg (by decide), if_pos rfl, bd1e (cvol_eq g1 hs16)]
        · rw [F_X9_holeOf, if_neg (by decide), if_neg (by decide), if_pos rfl, bd1e (show F_X9_volume N' 7 0 (nI s) = _ from mvol_eq (b := 0) hle.1 h0' (by decide) (by decide) h7' hs)]
      · refine ⟨1, _, _, hC (nI (botN d s 16)) ?_, hM (nI (botN d s 16)) ?_, hR.ask _⟩
        · rw [F_X1_holeTold, bd1e hb, if_neg (by decide), if_neg (by decide), if_neg (by decide), if_pos rfl, bd1e (cbot_eq g1 hw.1 hs16)]
        · rw [F_X9_holeOf, if_neg (by decide), if_neg (by decide), if_neg (by decide), if_pos rfl, bd1e (show F_X9_bottom N' 7 0 (nI s) = _ from mbot_eq (b := 0) hle.1 h0' (by decide) (by decide) h7' hw.1 hs)]
      · refine ⟨1, _, _, hC (nI (am (own m w gd s) 4)) ?_, hM (nI (am (own m w gd s) 4)) ?_, hR.ask _⟩
        · rw [F_X1_holeTold, bd1e hb, if_neg (by decide), if_neg (by decide), if_neg (by decide), if_neg (by decide), bd1e (owner_same hd hl hs hc).1]
        · rw [F_X9_holeOf, if_neg (by decide), if_neg (by decide), if_neg (by decide), if_neg (by decide), bd1e (mwhose_eq hd h0' h1' (fun x hx => by rw [f4 8 _ (by decide) (by omega)]; exact l8 x hx) l7 hs)]
