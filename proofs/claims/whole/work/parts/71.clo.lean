/-! ===== counting, neighbours, the closure ===== -/
theorem nI_subN {a b : Nat} (h : b ≤ a) : nI a - nI b = nI (a - b) := by
  have e : nI a = nI (a - b) + nI b := by rw [nI_add, Nat.sub_add_cancel h]
  rw [e, Int32.add_sub_cancel]
theorem nI_nleN {a b : Nat} (h : a < b) (hb : b < 2 ^ 31) : ¬ nI b ≤ nI a := by
  rw [nI_leI hb (by omega)]
  omega
theorem and_lt_l {a b n : Nat} (h : a < n) : a &&& b < n := Nat.lt_of_le_of_lt Nat.and_le_left h
theorem cbits {s : Nat} (h : s < 2 ^ 16) : F_J6_bitCount_0f7a4 (nI s) = some (nI (pc s)) := by
  unfold F_J6_bitCount_0f7a4
  simp only [lets]
  have e1 : (1431655765 : Int32) = nI 1431655765 := by decide
  have e2 : (858993459 : Int32) = nI 858993459 := by decide
  have e3 : (252645135 : Int32) = nI 252645135 := by decide
  have h1 : (s / 2) &&& 1431655765 ≤ s := Nat.le_trans Nat.and_le_left (Nat.div_le_self _ _)
  have a1 : nI s - (ius (nI s) 1 &&& 1431655765) = nI (pcA s) := by
    rw [e1, show (1 : Int32) = nI 1 from rfl, nx_ushr (by omega) (by decide), nx_and, nI_subN h1]
    rfl
  have b1 : pcA s < 2 ^ 16 := by unfold pcA; omega
  have a2 : (nI (pcA s) &&& 858993459) + (ius (nI (pcA s)) (nI 2) &&& 858993459) = nI (pcB (pcA s)) := by
    rw [e2, nx_ushr (by omega) (by decide), nx_and, nx_and, nI_add]
    rfl
  have b2 : pcB (pcA s) < 2 ^ 17 := by
    unfold pcB
    have c1 : pcA s &&& 858993459 ≤ pcA s := Nat.and_le_left
    have c2 : (pcA s / 4) &&& 858993459 ≤ pcA s / 4 := Nat.and_le_left
    omega
  have a3 : ((nI (pcB (pcA s))) + (ius (nI (pcB (pcA s))) (nI 4))) &&& 252645135 = nI (pcC (pcB (pcA s))) := by
    rw [e3, nx_ushr (by omega) (by decide), nI_add, nx_and]
    rfl
  have b3 : pcC (pcB (pcA s)) < 2 ^ 18 := by
    unfold pcC
    exact and_lt_l (by omega)
  have a4 : (nI (pcC (pcB (pcA s)))) + (ius (nI (pcC (pcB (pcA s)))) (nI 8)) = nI (pcD (pcC (pcB (pcA s)))) := by
    rw [nx_ushr (by omega) (by decide), nI_add]
    rfl
  have b4 : pcD (pcC (pcB (pcA s))) < 2 ^ 19 := by
    unfold pcD
    omega
  have a5 : ((nI (pcD (pcC (pcB (pcA s))))) + (ius (nI (pcD (pcC (pcB (pcA s))))) (nI 16))) &&& (nI 63) = nI (pcE (pcD (pcC (pcB (pcA s))))) := by
    rw [nx_ushr (by omega) (by decide), nI_add, nx_and]
    rfl
  rw [a1, a2, a3, a4, a5, pcE_eq h]
theorem msize {s : Nat} (h : s < 2 ^ 16) : F_X9_sizeOf (nI s) = some (nI (pc s)) := by
  unfold F_X9_sizeOf
  refine loop_fn' (fun i => (nI (sm (fun i => if s.testBit i then 1 else 0) i), nI i)) 16 rfl (fun i hi => ?_) ?_ (by decide)
  · show X9_sizeOf_L4 (nI s) (_, _) = _
    rw [X9_sizeOf_L4, if_neg (nI_nleN hi (by decide))]
    simp only [lets]
    rw [nx_tb (by omega) (by omega), nI_1]
    congr 3
    rw [sm]
    cases s.testBit i
    · simp
    · show _ + nI 1 = _
      rw [nI_add]
      rfl
  · show X9_sizeOf_L4 (nI s) (_, _) = _
    rw [X9_sizeOf_L4, if_pos (nI_le (Nat.le_refl _) (by decide))]
    rfl
/- neighbours -/
theorem adj_iff (m w c k : Nat) : adj m w c k = true ↔ (k + 1 = c ∧ 0 < c % w) ∨ (k = c + 1 ∧ c % w + 1 < w) ∨ k + w = c ∨ (k = c + w ∧ c + w < m) := by
  unfold adj
  simp [or_assoc]
theorem adj_lt {m w c k : Nat} (h : Dm m w) (hc : c < m) (ha : adj m w c k = true) : k < m := by
  rw [adj_iff] at ha
  rcases h.cases with ⟨h1, h2⟩ | ⟨h1, h2⟩ | ⟨h1, h2⟩ | ⟨h1, h2⟩ | ⟨h1, h2⟩ | ⟨h1, h2⟩ | ⟨h1, h2⟩ | ⟨h1, h2⟩ | ⟨h1, h2⟩ | ⟨h1, h2⟩ | ⟨h1, h2⟩ | ⟨h1, h2⟩ | ⟨h1, h2⟩ <;> subst h1 <;> subst h2 <;> omega
theorem adj_sym {m w c k : Nat} (h : Dm m w) (hc : c < m) (ha : adj m w c k = true) : adj m w k c = true := by
  have hk := adj_lt h hc ha
  rw [adj_iff] at ha ⊢
  rcases h.cases with ⟨h1, h2⟩ | ⟨h1, h2⟩ | ⟨h1, h2⟩ | ⟨h1, h2⟩ | ⟨h1, h2⟩ | ⟨h1, h2⟩ | ⟨h1, h2⟩ | ⟨h1, h2⟩ | ⟨h1, h2⟩ | ⟨h1, h2⟩ | ⟨h1, h2⟩ | ⟨h1, h2⟩ | ⟨h1, h2⟩ <;> subst h1 <;> subst h2 <;> omega
theorem nbr_tb {m w s k : Nat} (h : Dm m w) : (nbr m w s).testBit k = true ↔ ∃ c, c < m ∧ s.testBit c = true ∧ adj m w c k = true := by
  unfold nbr
  rw [bs_tb, Bool.and_eq_true, decide_eq_true_iff, anyB_iff]
  constructor
  · rintro ⟨-, c, h1, h2⟩
    rw [Bool.and_eq_true] at h2
    exact ⟨c, h1, h2.1, h2.2⟩
  · rintro ⟨c, h1, h2, h3⟩
    have := adj_lt h h1 h3
    have := h.le
    exact ⟨by omega, c, h1, by rw [h2, h3]; rfl⟩
theorem nbr_lt (m w s : Nat) : nbr m w s < 2 ^ 16 := bs_lt _ _
theorem gs_tb {m w T s k : Nat} (h : Dm m w) : (gs m w T s).testBit k = true ↔ s.testBit k = true ∨ (T.testBit k = true ∧ ∃ c, c < m ∧ s.testBit c = true ∧ adj m w c k = true) := by
  unfold gs
  rw [Nat.testBit_or, Nat.testBit_and, Bool.or_eq_true, Bool.and_eq_true, nbr_tb h]
  constructor
  · rintro (h | ⟨h1, h2⟩)
    · exact Or.inl h
    · exact Or.inr ⟨h2, h1⟩
  · rintro (h | ⟨h1, h2⟩)
    · exact Or.inl h
    · exact Or.inr ⟨h2, h1⟩
theorem or_lt' {a b n : Nat} (ha : a < 2 ^ n) (hb : b < 2 ^ n) : a ||| b < 2 ^ n := Nat.or_lt_two_pow ha hb
theorem gs_lt {m w T s n : Nat} (hs : s < 2 ^ n) (hT : T < 2 ^ n) : gs m w T s < 2 ^ n := or_lt' hs (Nat.lt_of_le_of_lt Nat.and_le_right hT)
theorem itr_s (f : Nat → Nat) (n s : Nat) : itr f (n + 1) s = f (itr f n s) := by
  induction n generalizing s with
  | zero => rfl
  | succ n ih => rw [itr, ih, itr]
theorem itr_lt {m w T s n : Nat} (hs : s < 2 ^ n) (hT : T < 2 ^ n) (k : Nat) : itr (gs m w T) k s < 2 ^ n := by
  induction k with
  | zero => exact hs
  | succ k ih => rw [itr_s]; exact gs_lt ih hT
theorem clo_lt {m w T s n : Nat} (hs : s < 2 ^ n) (hT : T < 2 ^ n) : clo m w T s < 2 ^ n := itr_lt hs hT 17
theorem itr_fix {f : Nat → Nat} {k s : Nat} (h : f (itr f k s) = itr f k s) (j : Nat) : itr f (k + j) s = itr f k s := by
  induction j with
  | zero => rfl
  | succ j ih => rw [← Nat.add_assoc, itr_s, ih, h]
theorem gs_grow {m w T s : Nat} (hs : s < 2 ^ 16) (hT : T < 2 ^ 16) (h : gs m w T s ≠ s) : pc s < pc (gs m w T s) := by
  have hsub : ∀ i, s.testBit i = true → (gs m w T s).testBit i = true := fun i hi => by
    unfold gs
    rw [Nat.testBit_or, hi]; rfl
  by_cases he : ∃ j, j < 16 ∧ s.testBit j = false ∧ (gs m w T s).testBit j = true
  · obtain ⟨j, h1, h2, h3⟩ := he
    exact pc_lt hsub h1 h2 h3
  · exfalso
    apply h
    refine bs_ext (gs_lt hs hT) hs (fun i hi => ?_)
    cases e : s.testBit i
    · cases e2 : (gs m w T s).testBit i
      · rfl
      · exact absurd ⟨i, hi, e, e2⟩ he
    · exact hsub i e
theorem fix_ex {m w T s : Nat} (hs : s < 2 ^ 16) (hT : T < 2 ^ 16) : ∃ k, k ≤ 16 ∧ gs m w T (itr (gs m w T) k s) = itr (gs m w T) k s := by
  by_cases he : ∃ k, k ≤ 16 ∧ gs m w T (itr (gs m w T) k s) = itr (gs m w T) k s
  · exact he
  · exfalso
    have hg : ∀ k, k ≤ 17 → k ≤ pc (itr (gs m w T) k s) := by
      intro k
      induction k with
      | zero => intro _; omega
      | succ k ih =>
        intro hk
        have h1 := ih (by omega)
        have h2 := gs_grow (m := m) (w := w) (itr_lt (m := m) (w := w) hs hT k) hT (fun e => he ⟨k, by omega, e⟩)
        rw [itr_s]
        omega
    have h1 := hg 17 (by omega)
    have h2 := pc_le (itr (gs m w T) 17 s)
    omega
theorem clo_of {m w T s k : Nat} (hk : k ≤ 17) (h : gs m w T (itr (gs m w T) k s) = itr (gs m w T) k s) : itr (gs m w T) k s = clo m w T s := by
  have := itr_fix h (17 - k)
  rw [show k + (17 - k) = 17 by omega] at this
  exact this.symm
theorem clo_16 {m w T s : Nat} (hs : s < 2 ^ 16) (hT : T < 2 ^ 16) : itr (gs m w T) 16 s = clo m w T s := by
  obtain ⟨k, h1, h2⟩ := fix_ex (m := m) (w := w) hs hT
  have := itr_fix h2 (16 - k)
  rw [show k + (16 - k) = 16 by omega] at this
  rw [this, clo_of (by omega) h2]
theorem clo_fix {m w T s : Nat} (hs : s < 2 ^ 16) (hT : T < 2 ^ 16) : gs m w T (clo m w T s) = clo m w T s := by
  obtain ⟨k, h1, h2⟩ := fix_ex (m := m) (w := w) hs hT
  rw [← clo_of (by omega) h2, h2]
theorem itr_sub {m w T s i : Nat} (k : Nat) (h : s.testBit i = true) : (itr (gs m w T) k s).testBit i = true := by
  induction k with
  | zero => exact h
  | succ k ih => rw [itr_s, gs, Nat.testBit_or, ih]; rfl
theorem clo_sub {m w T s i : Nat} (h : s.testBit i = true) : (clo m w T s).testBit i = true := itr_sub 17 h
theorem clo_in {m w T s : Nat} (hd : Dm m w) (h : ∀ i, s.testBit i = true → T.testBit i = true) : ∀ i, (clo m w T s).testBit i = true → T.testBit i = true := by
  have : ∀ k i, (itr (gs m w T) k s).testBit i = true → T.testBit i = true := by
    intro k
    induction k with
    | zero => exact h
    | succ k ih =>
      intro i hi
      rw [itr_s, gs_tb hd] at hi
      rcases hi with hi | hi
      · exact ih i hi
      · exact hi.1
  exact this 17
/-- what is closed: with a cell, all its neighbours of T -/
theorem clo_cl {m w T s : Nat} (hd : Dm m w) (hs : s < 2 ^ 16) (hT : T < 2 ^ 16) {c k : Nat} (hc : (clo m w T s).testBit c = true) (hm : c < m) (hk : T.testBit k = true) (ha : adj m w c k = true) : (clo m w T s).testBit k = true := by
  rw [← clo_fix hs hT, gs_tb hd]
  exact Or.inr ⟨hk, c, hm, hc, ha⟩
/-- the least closed set -/
theorem clo_min {m w T s K : Nat} (hd : Dm m w) (h : ∀ i, s.testBit i = true → K.testBit i = true) (hK : ∀ c k, c < m → K.testBit c = true → T.testBit k = true → adj m w c k = true → K.testBit k = true) : ∀ i, (clo m w T s).testBit i = true → K.testBit i = true := by
  have : ∀ k i, (itr (gs m w T) k s).testBit i = true → K.testBit i = true := by
    intro k
    induction k with
    | zero => exact h
    | succ k ih =>
      intro i hi
      rw [itr_s, gs_tb hd] at hi
      rcases hi with hi | ⟨h1, c, h2, h3, h4⟩
      · exact ih i hi
      · exact hK c i h2 (ih c h3) h1 h4
  exact this 17
