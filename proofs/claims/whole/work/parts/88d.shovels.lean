/-! ===== shovels, suspect ===== -/
def svd (d0 d : Nat → Nat) (c : Nat) : Int32 := nI (d0 c) - nI (d c)
def svA (f : Nat → Int32) : Nat → Int32
  | 0 => 0
  | i + 1 => svA f i + (if 0 ≤ f i then f i else -(f i))
def svB (f : Nat → Int32) : Nat → Int32
  | 0 => 0
  | i + 1 => svB f i + f i
theorem abs_eq (x : Int32) : F_J9_abs_0f7a4 x = some (if 0 ≤ x then x else -x) := by
  unfold F_J9_abs_0f7a4
  by_cases h : 0 ≤ x
  · rw [if_pos h, if_pos h]
  · rw [if_neg h, if_neg h]
theorem op_shovels {lw : Nat → Option Nat} (tl tt : Option Nat) {M N : Mem} {t : Nat} (ht : t ≤ 3100) (h : Rel t lw M N) (a1 : Int32) : ∃ (r : Int32) (M' : Mem) (N' : Mem), F_X8_shovels M a1 = some (r, M') ∧ F_X9_shovels N a1 = some (r, N') ∧ Rel (t + 1) lw M' N' := by
  rcases cut 3 (by decide) a1 with z | ⟨k, hk, rfl⟩
  · exact ⟨-1, M, N, by rw [F_X8_shovels, bd1e (imageOf_no z), oc_n], by rw [F_X9_shovels, bd1e (isImage_no z), if_pos rfl, X9_shovels_J16, if_neg (by decide)], h.up⟩
  · obtain ⟨o1, o2⟩ := imageOf_in hk
    have hf := h.found (k := 1) (by decide)
    have hh := h
    obtain ⟨hto, hro, htx, m, w, gd, d0, e0, hd, hw0, he0, hl, hg0, hm0, hi, hdd, hla⟩ := h
    rcases hi k hk with ⟨z1, z2⟩ | ⟨z1, mp, d, e, he, hw, hg, hm⟩
    · refine ⟨-3, fndC M 1, fndM N 1, ?_, ?_, hf⟩
      · rw [F_X8_shovels, bd1e o1, oc_s, chk_pos o2, z1, if_pos rfl, bd2e found1]
      · rw [F_X9_shovels, bd1e (isImage_in hk), if_neg n10, bd2e (needImage_no hk z2), X9_shovels_J16, if_neg (by decide)]
    · have hle := hd.le
      have l1 := hl.1
      have l3 := hl.2.2.1
      have l4 := hl.2.2.2.1
      have g7 := hg.2.2.2.2.2.2
      obtain ⟨N', c1, c2, c3, c4, c5, c6, c7⟩ := needImage_eq hd l3 l4 hw0 hm0.1 hk z1 hw hm
      have hR := hh.lay2 c6 c7
      have q0 : gI N' 0 11 = nI m := by rw [c6 0 11 (by decide) (by decide) (by omega)]; exact l3
      have q7 : ∀ c, c < 16 → gI N' 7 c = nI (d0 c) := fun c hc => by rw [c6 7 c (by decide) (by decide) (by omega)]; exact hm0.1 c hc
      have q15 : ∀ c, c < 16 → gI N' 15 (17 * k + c) = nI (d c) := fun c hc => by rw [c6 15 _ (by decide) (by decide) (by omega)]; exact hm.1 c hc
      refine ⟨svA (svd d0 d) m, sI M 0 12 (svB (svd d0 d) m), sI N' 0 2 (svB (svd d0 d) m), ?_, ?_, hR.ask _⟩
      · rw [F_X8_shovels, bd1e o1, oc_s, chk_pos o2, g7, if_neg n10]
        refine loop_fn' (fun i => (svA (svd d0 d) i, svB (svd d0 d) i, nI i)) m rfl (fun i hi => ?_) ?_ (by show m < 200000; omega)
        · show X8_shovels_L33 M _ (_, _, _) = _
          rw [X8_shovels_L33, l1, if_neg (nI_nleN hi (by omega)), bd1e (depthAt_in (by omega)), bd1e (depthAt_in (by omega)), hg0.1 i (by omega), hg.1 i (by omega), lets, bd1e (abs_eq _)]
          simp only [lets]
          rw [nI_1]
          rfl
        · show X8_shovels_L33 M _ (_, _, _) = _
          rw [X8_shovels_L33, l1, if_pos (nI_le (Nat.le_refl _) (by omega)), lets]
      · rw [F_X9_shovels, bd1e (isImage_in hk), if_neg n10, bd2e c1, X9_shovels_J16, if_pos (by decide)]
        refine loop_fn' (fun i => (svA (svd d0 d) i, svB (svd d0 d) i, nI i)) m rfl (fun i hi => ?_) ?_ (by show m < 200000; omega)
        · show X9_shovels_L31 N' _ (_, _, _) = _
          rw [X9_shovels_L31, q0, if_neg (nI_nleN hi (by omega)), chk_pos (inb_nI (by omega) (by decide)), n17, nI_add, chk_pos (inb_nI (by omega) (by decide)), clN (by omega), clN (by omega), q7 i (by omega), q15 i (by omega), lets]
          show (if 0 ≤ svd d0 d i then _ else _) = _
          simp only [svA, svB]
          by_cases z : 0 ≤ svd d0 d i
          · rw [if_pos z, if_pos z]
            simp only [lets]
            rw [nI_1]
            rfl
          · rw [if_neg z, if_neg z]
            simp only [lets]
            rw [nI_1]
            rfl
        · show X9_shovels_L31 N' _ (_, _, _) = _
          rw [X9_shovels_L31, q0, if_pos (nI_le (Nat.le_refl _) (by omega)), bd2e ask_eq]
def spM (f : Nat → Int32) : Nat → Int32 × Int32
  | 0 => (0, -9)
  | i + 1 => if f i ≤ (spM f i).1 then spM f i else (f i, nI i)
theorem spM_y {f : Nat → Int32} {i : Nat} (h : f i ≤ (spM f i).1) : spM f (i + 1) = spM f i := by rw [spM, if_pos h]
theorem spM_n {f : Nat → Int32} {i : Nat} (h : ¬ f i ≤ (spM f i).1) : spM f (i + 1) = (f i, nI i) := by rw [spM, if_neg h]
theorem grt_y {a b : Int32} (h : b ≤ a) : F_X9_greater a b = some a := by
  unfold F_X9_greater
  by_cases z : a ≤ b
  · rw [if_pos z, Int32.le_antisymm z h]
  · rw [if_neg z]
theorem grt_n {a b : Int32} (h : ¬ b ≤ a) : F_X9_greater a b = some b := by
  unfold F_X9_greater
  rw [if_pos (Int32.le_of_lt (Int32.not_le.mp h))]
theorem op_suspect {lw : Nat → Option Nat} (tl tt : Option Nat) {M N : Mem} {t : Nat} (ht : t ≤ 3100) (h : Rel t lw M N) (a1 : Int32) : ∃ (r : Int32) (M' : Mem) (N' : Mem), F_X8_suspect M a1 = some (r, M') ∧ F_X9_suspect N a1 = some (r, N') ∧ Rel (t + 1) lw M' N' := by
  rcases cut 3 (by decide) a1 with z | ⟨k, hk, rfl⟩
  · exact ⟨-1, M, N, by rw [F_X8_suspect, bd1e (imageOf_no z), oc_n], by rw [F_X9_suspect, bd1e (isImage_no z), if_pos rfl, X9_suspect_J16, if_neg (by decide)], h.up⟩
  · obtain ⟨o1, o2⟩ := imageOf_in hk
    have hf := h.found (k := 1) (by decide)
    have hh := h
    obtain ⟨hto, hro, htx, m, w, gd, d0, e0, hd, hw0, he0, hl, hg0, hm0, hi, hdd, hla⟩ := h
    rcases hi k hk with ⟨z1, z2⟩ | ⟨z1, mp, d, e, he, hw, hg, hm⟩
    · refine ⟨-3, fndC M 1, fndM N 1, ?_, ?_, hf⟩
      · rw [F_X8_suspect, bd1e o1, oc_s, chk_pos o2, z1, if_pos rfl, bd2e found1]
      · rw [F_X9_suspect, bd1e (isImage_in hk), if_neg n10, bd2e (needImage_no hk z2), X9_suspect_J16, if_neg (by decide)]
    · have hle := hd.le
      have l1 := hl.1
      have l3 := hl.2.2.1
      have l4 := hl.2.2.2.1
      have g7 := hg.2.2.2.2.2.2
      obtain ⟨N', c1, c2, c3, c4, c5, c6, c7⟩ := needImage_eq hd l3 l4 hw0 hm0.1 hk z1 hw hm
      have hR := hh.lay2 c6 c7
      have q0 : gI N' 0 11 = nI m := by rw [c6 0 11 (by decide) (by decide) (by omega)]; exact l3
      have q7 : ∀ c, c < 16 → gI N' 7 c = nI (d0 c) := fun c hc => by rw [c6 7 c (by decide) (by decide) (by omega)]; exact hm0.1 c hc
      have q15 : ∀ c, c < 16 → gI N' 15 (17 * k + c) = nI (d c) := fun c hc => by rw [c6 15 _ (by decide) (by decide) (by omega)]; exact hm.1 c hc
      have hC : loop (X8_suspect_L34 M (46 + 3 * k)) FU (0, (-9), 0) = some ((spM (svd d0 d) m).1, (spM (svd d0 d) m).2) := by
        refine loop_fn' (fun i => ((spM (svd d0 d) i).1, (spM (svd d0 d) i).2, nI i)) m rfl (fun i hi => ?_) ?_ (by show m < 200000; omega)
        · show X8_suspect_L34 M _ (_, _, _) = _
          rw [X8_suspect_L34, l1, if_neg (nI_nleN hi (by omega)), bd1e (depthAt_in (by omega)), bd1e (depthAt_in (by omega)), hg0.1 i (by omega), hg.1 i (by omega), lets]
          show (if svd d0 d i ≤ _ then _ else _) = _
          by_cases z : svd d0 d i ≤ (spM (svd d0 d) i).1
          · rw [if_pos z, lets, nI_1, spM_y z]
          · rw [if_neg z, lets, nI_1, spM_n z]
            rfl
        · show X8_suspect_L34 M _ (_, _, _) = _
          rw [X8_suspect_L34, l1, if_pos (nI_le (Nat.le_refl _) (by omega))]
      have hM : loop (X9_suspect_L32 N' (nI k)) FU ((-9), 0, 0) = some ((spM (svd d0 d) m).2, (spM (svd d0 d) m).1) := by
        refine loop_fn' (fun i => ((spM (svd d0 d) i).2, (spM (svd d0 d) i).1, nI i)) m rfl (fun i hi => ?_) ?_ (by show m < 200000; omega)
        · show X9_suspect_L32 N' _ (_, _, _) = _
          rw [X9_suspect_L32, q0, if_neg (nI_nleN hi (by omega)), chk_pos (inb_nI (by omega) (by decide)), n17, nI_add, chk_pos (inb_nI (by omega) (by decide)), clN (by omega), clN (by omega), q7 i (by omega), q15 i (by omega), lets]
          show (if svd d0 d i ≤ _ then X9_suspect_J76 N' (nI k) _ _ (svd d0 d i) _ else X9_suspect_J76 N' (nI k) _ _ (svd d0 d i) _) = _
          by_cases z : svd d0 d i ≤ (spM (svd d0 d) i).1
          · rw [if_pos z, X9_suspect_J76, bd1e (grt_y z), lets, nI_1, spM_y z]
          · rw [if_neg z, X9_suspect_J76, bd1e (grt_n z), lets, nI_1, spM_n z]
        · show X9_suspect_L32 N' _ (_, _, _) = _
          rw [X9_suspect_L32, q0, if_pos (nI_le (Nat.le_refl _) (by omega))]
      by_cases e9 : (spM (svd d0 d) m).2 = -9
      · refine ⟨-9, M, N', ?_, ?_, hR.up⟩
        · rw [F_X8_suspect, bd1e o1, oc_s, chk_pos o2, g7, if_neg n10, bd2e hC, if_pos e9, e9]
        · rw [F_X9_suspect, bd1e (isImage_in hk), if_neg n10, bd2e c1, X9_suspect_J16, if_pos (by decide), bd2e hM, if_pos e9]
      · refine ⟨(spM (svd d0 d) m).2, _, _, ?_, ?_, hR.ask (spM (svd d0 d) m).1⟩
        · rw [F_X8_suspect, bd1e o1, oc_s, chk_pos o2, g7, if_neg n10, bd2e hC, if_neg e9, lets]
        · rw [F_X9_suspect, bd1e (isImage_in hk), if_neg n10, bd2e c1, X9_suspect_J16, if_pos (by decide), bd2e hM, if_neg e9, bd2e ask_eq]
