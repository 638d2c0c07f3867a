/-! ===== law, count ===== -/
def isa (k x : Nat) : Bool := decide (k = x) || decide (x = 0) || (decide (x = 1) && (decide (k = 2) || decide (k = 4))) || (decide (x = 2) && decide (k = 4)) || (decide (x = 3) && decide (k = 5))
def b01 (b : Bool) : Nat := if b then 1 else 0
theorem is_loop (M : Mem) : ∀ k, k < 6 → ∀ x, x < 6 → loop (X3_is_L7 M (nI x)) FU (nI k, 0) = some (nI (b01 (isa k x))) := by
  have h : X3_is_L7 M = X3_is_L7 (fun _ _ => 0, fun _ _ => 0) := rfl
  rw [h]
  have e : ∀ k, k < 6 → ∀ x, x < 6 → (loop (X3_is_L7 (fun _ _ => 0, fun _ _ => 0) (nI x)) 10 (nI k, 0)) = some (nI (b01 (isa k x))) := by decide +kernel
  intro k hk x hx
  have mono : ∀ {σ ρ : Type} (f : σ → Option (σ ⊕ ρ)) (n j : Nat) (s : σ) (r : ρ), loop f n s = some r → loop f (n + j) s = some r := by
    intro σ ρ f n
    induction n with
    | zero => intro j s r h; cases h
    | succ n ih =>
      intro j s r h
      rw [show n + 1 + j = (n + j) + 1 by omega, loop]
      rw [loop] at h
      cases hf : f s with
      | none => rw [hf] at h; cases h
      | some y =>
        rw [hf] at h
        cases y with
        | inl s' => exact ih j s' r h
        | inr r' => exact h
  exact mono _ 10 199990 _ _ (e k hk x hx)
theorem law_is {M : Mem} {k x : Nat} (h : gI M (55 + k) 0 = nI k) (hk : k < 6) (hx : x < 6) : F_X3_is M (55 + k) (nI x) = some (nI (b01 (isa k x))) := by
  unfold F_X3_is
  rw [lets, h]
  exact is_loop M k hk x hx
theorem isX3_law : ∀ k, k < 6 → isX3 (55 + k) = true := by decide
theorem isA_eq {N : Mem} {j k x : Nat} (hj : j < 6) (h : gI N 9 j = nI k) (hk : k < 6) (hx : x < 6) (h1 : 1 ≤ x) : F_X9_isA N (nI j) (nI x) = some (nI (b01 (isa k x))) := by
  unfold F_X9_isA X9_isA_J27 X9_isA_J37
  rw [chk_pos (inb_nI hj (by decide)), clN (by omega), h, lets]
  have hx' : x = 1 ∨ x = 2 ∨ x = 3 ∨ x = 4 ∨ x = 5 := by omega
  have hk' : k = 0 ∨ k = 1 ∨ k = 2 ∨ k = 3 ∨ k = 4 ∨ k = 5 := by omega
  rcases hx' with rfl | rfl | rfl | rfl | rfl <;> rcases hk' with rfl | rfl | rfl | rfl | rfl | rfl <;> rfl
theorem lawOf_no {lw : Nat → Option Nat} {M : Mem} {q : Nat} {x : Int32} (h : gI M 0 8 = nI q) (hx : x < 0 ∨ nI q ≤ x) : F_X8_lawOf lw M x = some none := by
  unfold F_X8_lawOf
  rw [h]
  by_cases z : x < 0
  · rw [if_pos z]
  · rw [if_neg z, if_pos (hx.resolve_left z)]
theorem lawOf_in {lw : Nat → Option Nat} {M : Mem} {q j : Nat} (h : gI M 0 8 = nI q) (hq : q ≤ 6) (hj : j < q) : F_X8_lawOf lw M (nI j) = some (lw j) := by
  unfold F_X8_lawOf
  rw [h, if_neg (nneg j (by omega)), if_neg (nI_nleN hj (by omega)), if_neg (nI_nleN (show j < 6 by omega) (by decide)), chk_pos (inb_nI (by omega) (by decide)), clN (by omega), lets]
theorem isLaw_no {N : Mem} {q : Nat} {x : Int32} (h : gI N 0 12 = nI q) (hq : q ≤ 6) (hx : x < 0 ∨ nI q ≤ x) : F_X9_isLaw N x = some 0 := by
  unfold F_X9_isLaw
  rw [h, bd1e (in_size (by omega) hx), chk_pos (Or.inl rfl)]
theorem isLaw_in {N : Mem} {q j : Nat} (h : gI N 0 12 = nI q) (hq : q ≤ 6) (hj : j < q) : F_X9_isLaw N (nI j) = some 1 := by
  unfold F_X9_isLaw
  rw [h, bd1e (in_sizeI (by omega) hj), chk_pos (Or.inr rfl)]
theorem Rel.laws {t : Nat} {lw : Nat → Option Nat} {M N : Mem} (h : Rel t lw M N) : LawsR lw M N := by
  obtain ⟨m, w, gd, d, e, h⟩ := h.2.2.2
  exact h.2.2.2.2.2.2.2.2
theorem op_law {lw : Nat → Option Nat} (tl tt : Option Nat) {M N : Mem} {t : Nat} (ht : t ≤ 3100) (h : Rel t lw M N) (a1 : Int32) : ∃ (r : Int32), F_X8_law lw M a1 = some r ∧ F_X9_law N a1 = some r ∧ Rel (t + 1) lw M N := by
  obtain ⟨h0, q, K, h1, h2, h3, h4⟩ := h.laws
  rcases cut q (by omega) a1 with z | ⟨j, hj, rfl⟩
  · exact ⟨-1, by rw [F_X8_law, bd1e (lawOf_no h2 z), oc_n], by rw [F_X9_law, bd1e (isLaw_no h3 h1 z), if_pos rfl], h.up⟩
  · obtain ⟨k1, k2, k3⟩ := h4 j hj
    refine ⟨nI (K j), ?_, ?_, h.up⟩
    · rw [F_X8_law, bd1e (lawOf_in h2 h1 hj), k2, oc_s, chk_pos (isX3_law _ k1), h0 _ k1]
    · rw [F_X9_law, bd1e (isLaw_in h3 h1 hj), if_neg n10, chk_pos (inb_nI (by omega) (by decide)), clN (by omega), k3]
theorem nI_add0 (a : Nat) : nI a + 0 = nI a := nI_add a 0
theorem rim_eq {lw : Nat → Option Nat} {M : Mem} {q : Nat} {K : Nat → Nat} (h0 : ∀ k, k < 6 → gI M (55 + k) 0 = nI k) (h1 : q ≤ 6) (h2 : gI M 0 8 = nI q) (h4 : ∀ j, j < q → K j < 6 ∧ lw j = some (55 + K j)) : F_X8_rimLaws lw M = some (nI (sm (fun i => b01 (isa (K i) 1)) q)) := by
  unfold F_X8_rimLaws
  refine loop_fn' (fun i => (nI (sm (fun i => b01 (isa (K i) 1)) i), nI i)) q rfl (fun i hi => ?_) ?_ (by show q < 200000; omega)
  · show X8_rimLaws_L4 lw M (_, _) = _
    obtain ⟨k1, k2⟩ := h4 i hi
    have e1 : F_X3_is M (55 + K i) 1 = some (nI (b01 (isa (K i) 1))) := law_is (h0 _ k1) k1 (by decide)
    rw [X8_rimLaws_L4, h2, if_neg (nI_nleN hi (by omega)), bd1e (lawOf_in h2 h1 hi), k2, oc_s, chk_pos (isX3_law _ k1), bd1e e1, sm]
    cases isa (K i) 1
    · rw [if_pos (show nI (b01 false) = 0 from rfl), lets, nI_1]
      rfl
    · rw [if_neg (show ¬ nI (b01 true) = 0 by decide)]
      simp only [lets]
      rw [nI_1, nI_1]
      rfl
  · show X8_rimLaws_L4 lw M (_, _) = _
    rw [X8_rimLaws_L4, h2, if_pos (nI_le (Nat.le_refl _) (by omega))]
theorem strips_eq {M : Mem} {p n : Nat} {f : Nat → Nat} {g : Nat → Bool} (hs : saln p = n) (hn : n ≤ 6) (hf : ∀ i, i < n → finC p i = some (f i) ∧ isX5 (f i) = true ∧ F_X5_isMissing M (f i) = some (if g i then 0 else 1)) : F_X8_stripsThere M p = some (nI (sm (fun i => b01 (g i)) n)) := by
  unfold F_X8_stripsThere
  refine loop_fn' (fun i => (nI (sm (fun i => b01 (g i)) i), nI i)) n rfl (fun i hi => ?_) ?_ (by show n < 200000; omega)
  · show X8_stripsThere_L4 M p (_, _) = _
    obtain ⟨k1, k2, k3⟩ := hf i hi
    rw [X8_stripsThere_L4, hs, if_neg (nI_nleN hi (by omega)), chk_pos (inb_nI hi (by omega)), clN (by omega), k1, lets, oc_s, chk_pos k2, bd1e k3, sm]
    cases g i
    · rw [if_neg (by decide), lets, nI_1]
      rfl
    · rw [if_pos (by decide)]
      simp only [lets]
      rw [nI_1, nI_1]
      rfl
  · show X8_stripsThere_L4 M p (_, _) = _
    rw [X8_stripsThere_L4, hs, if_pos (nI_le (Nat.le_refl _) (by omega))]
theorem images_eq {M : Mem} {g : Nat → Bool} (hf : ∀ i, i < 3 → (gI M (46 + 3 * i) 7 = 0 ∧ g i = false) ∨ (gI M (46 + 3 * i) 7 = 1 ∧ g i = true)) : F_X8_imagesThere M = some (nI (sm (fun i => b01 (g i)) 3)) := by
  unfold F_X8_imagesThere
  refine loop_fn' (fun i => (nI (sm (fun i => b01 (g i)) i), nI i)) 3 rfl (fun i hi => ?_) ?_ (by decide)
  · show X8_imagesThere_L4 M (_, _) = _
    have k1 : finC 12 i = some (46 + 3 * i) ∧ isX1 (46 + 3 * i) = true := by
      have : i = 0 ∨ i = 1 ∨ i = 2 := by omega
      rcases this with rfl | rfl | rfl <;> exact ⟨rfl, rfl⟩
    rw [X8_imagesThere_L4, if_neg (nI_nleN hi (by decide)), chk_pos (inb_nI hi (by decide)), clN (by omega), k1.1, lets, oc_s, chk_pos k1.2, sm]
    rcases hf i hi with ⟨z, e⟩ | ⟨z, e⟩
    · rw [z, e, if_pos rfl, lets, nI_1]
      rfl
    · rw [z, e, if_neg n10]
      simp only [lets]
      rw [nI_1, nI_1]
      rfl
  · show X8_imagesThere_L4 M (_, _) = _
    rw [X8_imagesThere_L4, if_pos (nI_le (Nat.le_refl _) (by decide))]
