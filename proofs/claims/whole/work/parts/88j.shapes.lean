/-! ===== shapes ===== -/
def ob (P : Nat → Bool) (g : Nat → Nat) : Nat → Nat
  | 0 => 0
  | k + 1 => ob P g k ||| (if P k then 2 ^ g k else 0)
theorem ob_tb (P : Nat → Bool) (g : Nat → Nat) (n i : Nat) : (ob P g n).testBit i = true ↔ ∃ k, k < n ∧ P k = true ∧ g k = i := by
  induction n with
  | zero => simp [ob]
  | succ n ih =>
    rw [ob, Nat.testBit_or, Bool.or_eq_true, ih]
    constructor
    · rintro (⟨k, h1, h2⟩ | h)
      · exact ⟨k, by omega, h2⟩
      · cases e : P n
        · rw [e, if_neg (by decide), Nat.zero_testBit] at h; cases h
        · rw [e, if_pos rfl, tb_two, decide_eq_true_iff] at h
          exact ⟨n, by omega, e, h⟩
    · rintro ⟨k, h1, h2, h3⟩
      by_cases e : k = n
      · subst e
        right
        rw [h2, if_pos rfl, tb_two, h3]
        exact decide_eq_true rfl
      · exact Or.inl ⟨k, by omega, h2, h3⟩
theorem ob_lt {P : Nat → Bool} {g : Nat → Nat} {n b : Nat} (h : ∀ k, k < n → P k = true → g k < b) : ob P g n < 2 ^ b := by
  apply Nat.lt_pow_two_of_testBit
  intro i hi
  cases e : (ob P g n).testBit i
  · rfl
  · obtain ⟨k, h1, h2, h3⟩ := (ob_tb P g n i).mp e
    have := h k h1 h2
    omega
theorem tb_div (f n i : Nat) : (f / 2 ^ n).testBit i = f.testBit (n + i) := by rw [← Nat.shiftRight_eq_div_pow, Nat.testBit_shiftRight]
theorem and_0 {a b : Nat} (h : ∀ i, a.testBit i = true → b.testBit i = true → False) : a &&& b = 0 := by
  apply Nat.eq_of_testBit_eq
  intro i
  rw [Nat.testBit_and, Nat.zero_testBit]
  cases e1 : a.testBit i
  · rfl
  · cases e2 : b.testBit i
    · rfl
    · exact absurd (h i e1 e2) id
theorem and_p {a b i : Nat} (h1 : a.testBit i = true) (h2 : b.testBit i = true) : 0 < a &&& b := by
  rcases Nat.eq_zero_or_pos (a &&& b) with z | z
  · have : (a &&& b).testBit i = true := by rw [Nat.testBit_and, h1, h2]; rfl
    rw [z, Nat.zero_testBit] at this
    cases this
  · exact z
theorem t15 {j : Nat} (h : (15 : Nat).testBit j = true) : j < 4 := by
  rcases Nat.lt_or_ge j 4 with z | z
  · exact z
  · rw [tb_lt (n := 4) (by decide) z] at h; cases h
theorem t15' : ∀ j, j < 4 → (15 : Nat).testBit j = true := by decide
theorem t43a : ∀ j, j < 16 → (4369 : Nat).testBit j = true → j % 4 = 0 := by decide
theorem t43 {j : Nat} (h : (4369 : Nat).testBit j = true) : j < 16 ∧ j % 4 = 0 := by
  rcases Nat.lt_or_ge j 16 with z | z
  · exact ⟨z, t43a j z h⟩
  · rw [tb_lt (n := 16) (by decide) z] at h; cases h
theorem t43' : ∀ j, j < 4 → (4369 : Nat).testBit (4 * j) = true := by decide
/-- the first line and the first column with a cell -/
def Mn (f t l : Nat) : Prop := (∀ k, f.testBit k = true → t ≤ k / 4 ∧ l ≤ k % 4) ∧ (∃ k, k < 16 ∧ f.testBit k = true ∧ k / 4 = t) ∧ ∃ k, k < 16 ∧ f.testBit k = true ∧ k % 4 = l
theorem crn_eq {f t l : Nat} (hf : f < 2 ^ 16) (h : Mn f t l) : F_X2_cornered (nI f) = some (nI (f / 2 ^ (4 * t + l))) := by
  obtain ⟨h1, ⟨k, k1, k2, k3⟩, ⟨c, c1, c2, c3⟩⟩ := h
  have hb : ∀ n, f / 2 ^ n < 2 ^ 16 := fun n => Nat.lt_of_le_of_lt (Nat.div_le_self _ _) hf
  have L1 : loop X2_cornered_L4 FU (nI f, 0) = some (nI (f / 2 ^ (4 * t))) := by
    refine loop_fn' (fun i => (nI (f / 2 ^ (4 * i)), nI i)) t (by rw [Nat.mul_zero, Nat.pow_zero, Nat.div_one]; rfl) (fun i hi => ?_) ?_ (by show t < 200000; omega)
    · show X2_cornered_L4 (_, _) = _
      have hz : f / 2 ^ (4 * i) &&& 15 = 0 := and_0 (fun j a b => by
        rw [tb_div] at a
        have := t15 b
        have := (h1 _ a).1
        omega)
      have hbi := hb (4 * i)
      rw [X2_cornered_L4, if_neg (nI_nleN (by omega) (by decide)), nx_and, hz, if_pos e00, nx_ushr (by omega) (by decide), Nat.div_div_eq_div_mul, ← Nat.pow_add]
      simp only [lets]
      rw [nI_1]
      rfl
    · show X2_cornered_L4 (_, _) = _
      have hbi := hb (4 * t)
      have hp : 0 < f / 2 ^ (4 * t) &&& 15 := and_p (i := k % 4) (by rw [tb_div, show 4 * t + k % 4 = k by omega]; exact k2) (t15' _ (Nat.mod_lt _ (by decide)))
      have hlt : f / 2 ^ (4 * t) &&& 15 < 2 ^ 16 := and_lt_l hbi
      rw [X2_cornered_L4, if_neg (nI_nleN (by omega) (by decide)), nx_and, if_neg (nI_ne0 hp (by omega))]
  have L2 : loop X2_cornered_L28 FU (nI (f / 2 ^ (4 * t)), 0) = some (nI (f / 2 ^ (4 * t + l))) := by
    refine loop_fn' (fun i => (nI (f / 2 ^ (4 * t + i)), nI i)) l (by rw [Nat.add_zero]; rfl) (fun i hi => ?_) ?_ (by show l < 200000; omega)
    · show X2_cornered_L28 (_, _) = _
      have hz : f / 2 ^ (4 * t + i) &&& 4369 = 0 := and_0 (fun j a b => by
        rw [tb_div] at a
        have := t43 b
        have := (h1 _ a).2
        omega)
      have hbi := hb (4 * t + i)
      rw [X2_cornered_L28, if_neg (nI_nleN (by omega) (by decide)), nx_and, hz, if_pos e00, show (1 : Int32) = nI 1 from rfl, nx_ushr (by omega) (by decide), Nat.div_div_eq_div_mul, ← Nat.pow_add]
      simp only [lets]
      rw [nI_add]
      rfl
    · show X2_cornered_L28 (_, _) = _
      have hbi := hb (4 * t + l)
      have htc := (h1 c c2).1
      have hp : 0 < f / 2 ^ (4 * t + l) &&& 4369 := and_p (i := 4 * (c / 4 - t)) (by rw [tb_div, show 4 * t + l + 4 * (c / 4 - t) = c by omega]; exact c2) (t43' _ (by omega))
      have hlt : f / 2 ^ (4 * t + l) &&& 4369 < 2 ^ 16 := and_lt_l hbi
      rw [X2_cornered_L28, if_neg (nI_nleN (by omega) (by decide)), nx_and, if_neg (nI_ne0 hp (by omega))]
  rw [F_X2_cornered, bd1e L1, L2]
theorem crn_0 : F_X2_cornered (nI 0) = some (nI 0) := by
  have L1 : loop X2_cornered_L4 FU (nI 0, 0) = some (nI 0) := by
    refine loop_fn' (fun i => (nI 0, nI i)) 4 rfl (fun i hi => ?_) ?_ (by decide)
    · show X2_cornered_L4 (_, _) = _
      rw [X2_cornered_L4, if_neg (nI_nleN (by omega) (by decide)), if_pos (by decide)]
      simp only [lets]
      rw [nI_1]
      rfl
    · show X2_cornered_L4 (_, _) = _
      rw [X2_cornered_L4, if_pos (nI_le (by omega) (by decide))]
  have L2 : loop X2_cornered_L28 FU (nI 0, 0) = some (nI 0) := by
    refine loop_fn' (fun i => (nI 0, nI i)) 4 rfl (fun i hi => ?_) ?_ (by decide)
    · show X2_cornered_L28 (_, _) = _
      rw [X2_cornered_L28, if_neg (nI_nleN (by omega) (by decide)), if_pos (by decide)]
      simp only [lets]
      rw [nI_1]
      rfl
    · show X2_cornered_L28 (_, _) = _
      rw [X2_cornered_L28, if_pos (nI_le (by omega) (by decide))]
  rw [F_X2_cornered, bd1e L1, L2]
/- the model's corner -/
def lfN (f : Nat) : Nat → Nat
  | 0 => 4
  | k + 1 => if f.testBit k then (if lfN f k ≤ k % 4 then lfN f k else k % 4) else lfN f k
def tpN (f : Nat) : Nat → Nat
  | 0 => 4
  | k + 1 => if f.testBit k then (if tpN f k ≤ k / 4 then tpN f k else k / 4) else tpN f k
theorem lf_le (f : Nat) : ∀ n, lfN f n ≤ 4 ∧ ∀ k, k < n → f.testBit k = true → lfN f n ≤ k % 4 := by
  intro n
  induction n with
  | zero => exact ⟨Nat.le_refl _, fun k hk => absurd hk (Nat.not_lt_zero _)⟩
  | succ n ih =>
    obtain ⟨i1, i2⟩ := ih
    have hm := Nat.mod_lt n (show 0 < 4 by decide)
    rw [lfN]
    cases e : f.testBit n
    · rw [if_neg (by decide)]
      refine ⟨i1, fun k hk hb => ?_⟩
      by_cases ek : k = n
      · subst ek; rw [e] at hb; cases hb
      · exact i2 k (by omega) hb
    · rw [if_pos rfl]
      split
      · refine ⟨i1, fun k hk hb => ?_⟩
        by_cases ek : k = n
        · subst ek; assumption
        · exact i2 k (by omega) hb
      · refine ⟨by omega, fun k hk hb => ?_⟩
        by_cases ek : k = n
        · subst ek; exact Nat.le_refl _
        · have := i2 k (by omega) hb
          omega
theorem tp_le (f : Nat) : ∀ n, n ≤ 16 → tpN f n ≤ 4 ∧ ∀ k, k < n → f.testBit k = true → tpN f n ≤ k / 4 := by
  intro n
  induction n with
  | zero => intro _; exact ⟨Nat.le_refl _, fun k hk => absurd hk (Nat.not_lt_zero _)⟩
  | succ n ih =>
    intro hn
    obtain ⟨i1, i2⟩ := ih (by omega)
    rw [tpN]
    cases e : f.testBit n
    · rw [if_neg (by decide)]
      refine ⟨i1, fun k hk hb => ?_⟩
      by_cases ek : k = n
      · subst ek; rw [e] at hb; cases hb
      · exact i2 k (by omega) hb
    · rw [if_pos rfl]
      split
      · refine ⟨i1, fun k hk hb => ?_⟩
        by_cases ek : k = n
        · subst ek; assumption
        · exact i2 k (by omega) hb
      · refine ⟨by omega, fun k hk hb => ?_⟩
        by_cases ek : k = n
        · subst ek; exact Nat.le_refl _
        · have := i2 k (by omega) hb
          omega
theorem lf_ex (f : Nat) : ∀ n, lfN f n = 4 ∨ ∃ k, k < n ∧ f.testBit k = true ∧ k % 4 = lfN f n := by
  intro n
  induction n with
  | zero => exact Or.inl rfl
  | succ n ih =>
    rw [lfN]
    have hk : (lfN f n = 4 ∨ ∃ k, k < n ∧ f.testBit k = true ∧ k % 4 = lfN f n) → (lfN f n = 4 ∨ ∃ k, k < n + 1 ∧ f.testBit k = true ∧ k % 4 = lfN f n) := fun h => h.imp_right (fun ⟨k, h1, h2⟩ => ⟨k, by omega, h2⟩)
    cases e : f.testBit n
    · rw [if_neg (by decide)]; exact hk ih
    · rw [if_pos rfl]
      split
      · exact hk ih
      · exact Or.inr ⟨n, by omega, e, rfl⟩
theorem tp_ex (f : Nat) : ∀ n, tpN f n = 4 ∨ ∃ k, k < n ∧ f.testBit k = true ∧ k / 4 = tpN f n := by
  intro n
  induction n with
  | zero => exact Or.inl rfl
  | succ n ih =>
    rw [tpN]
    have hk : (tpN f n = 4 ∨ ∃ k, k < n ∧ f.testBit k = true ∧ k / 4 = tpN f n) → (tpN f n = 4 ∨ ∃ k, k < n + 1 ∧ f.testBit k = true ∧ k / 4 = tpN f n) := fun h => h.imp_right (fun ⟨k, h1, h2⟩ => ⟨k, by omega, h2⟩)
    cases e : f.testBit n
    · rw [if_neg (by decide)]; exact hk ih
    · rw [if_pos rfl]
      split
      · exact hk ih
      · exact Or.inr ⟨n, by omega, e, rfl⟩
theorem ex_bit {f : Nat} (hf : f < 2 ^ 16) (h0 : f ≠ 0) : ∃ k, k < 16 ∧ f.testBit k = true := by
  by_cases e : ∃ k, k < 16 ∧ f.testBit k = true
  · exact e
  · exfalso
    apply h0
    refine bs_ext hf (by decide) (fun i hi => ?_)
    rw [Nat.zero_testBit]
    cases z : f.testBit i
    · rfl
    · exact absurd ⟨i, hi, z⟩ e
theorem Mn_of {f : Nat} (hf : f < 2 ^ 16) (h0 : f ≠ 0) : Mn f (tpN f 16) (lfN f 16) := by
  obtain ⟨k, k1, k2⟩ := ex_bit hf h0
  have a1 := (tp_le f 16 (Nat.le_refl _)).2
  have a2 := (lf_le f 16).2
  have b1 := a1 k k1 k2
  have b2 := a2 k k1 k2
  refine ⟨fun k hk => ?_, ?_, ?_⟩
  · have h16 := tb_m hf hk
    exact ⟨a1 k h16 hk, a2 k h16 hk⟩
  · rcases tp_ex f 16 with z | z
    · omega
    · exact z
  · rcases lf_ex f 16 with z | z
    · omega
    · exact z
def psh (f : Nat) : Nat := f / 2 ^ (4 * tpN f 16 + lfN f 16)
theorem psh_le (f : Nat) : psh f ≤ f := Nat.div_le_self _ _
theorem psh_lt {f : Nat} (h : f < 2 ^ 16) : psh f < 2 ^ 16 := Nat.lt_of_le_of_lt (psh_le f) h
theorem psh_0 : psh 0 = 0 := Nat.zero_div _
theorem cornered_eq {f : Nat} (hf : f < 2 ^ 16) : F_X2_cornered (nI f) = some (nI (psh f)) := by
  by_cases h0 : f = 0
  · subst h0
    rw [psh_0]
    exact crn_0
  · exact crn_eq hf (Mn_of hf h0)
theorem pu_J39 {f i : Nat} {s : Int32} (hf : f < 2 ^ 16) (hi : i < 16) : X9_pushed_J39 (nI f) (nI (tpN f i)) (nI i) s = some (.inl (s, nI (tpN f (i + 1)), nI (i + 1))) := by
  have ht := (tp_le f i (by omega)).1
  rw [X9_pushed_J39, tpN]
  cases e : f.testBit i
  · rw [bd1e (mhas_f (by omega) (by omega) e), if_pos rfl, lets, nI_1, if_neg (by decide)]
  · rw [bd1e (mhas_t (by omega) (by omega) e), if_neg n10, pk_div (by omega) (by decide) (by decide), if_pos rfl]
    by_cases z : tpN f i ≤ i / 4
    · rw [if_pos (nI_le z (by omega)), lets, nI_1, if_pos z]
    · rw [if_neg (nI_nleN (by omega) (by omega)), if_neg z]
      simp only [lets]
      rw [nI_1]
theorem pushed_eq {f : Nat} (hf : f < 2 ^ 16) : F_X9_pushed (nI f) = some (nI (psh f)) := by
  have L1 : loop (X9_pushed_L7 (nI f)) FU (nI 4, nI 4, 0) = some (nI (lfN f 16), nI (tpN f 16)) := by
    refine loop_fn' (fun i => (nI (lfN f i), nI (tpN f i), nI i)) 16 rfl (fun i hi => ?_) ?_ (by decide)
    · show X9_pushed_L7 _ (_, _, _) = _
      have hl := (lf_le f i).1
      rw [X9_pushed_L7, if_neg (nI_nleN hi (by decide)), lfN]
      cases e : f.testBit i
      · rw [bd1e (mhas_f (by omega) (by omega) e), if_pos rfl, X9_pushed_J38, pu_J39 hf hi, if_neg (by decide)]
      · rw [bd1e (mhas_t (by omega) (by omega) e), if_neg n10, irm_c i hi 4 (by decide) (by decide), if_pos rfl]
        by_cases z : lfN f i ≤ i % 4
        · rw [if_pos (nI_le z (by omega)), X9_pushed_J38, pu_J39 hf hi, if_pos z]
        · rw [if_neg (nI_nleN (by omega) (by omega)), pu_J39 hf hi, if_neg z]
    · show X9_pushed_L7 _ (_, _, _) = _
      rw [X9_pushed_L7, if_pos (nI_le (Nat.le_refl _) (by decide))]
  have hmin : ∀ k, k < 16 → f.testBit k = true → lfN f 16 + 4 * tpN f 16 ≤ k := fun k hk hb => by
    have a1 := (tp_le f 16 (Nat.le_refl _)).2 k hk hb
    have a2 := (lf_le f 16).2 k hk hb
    omega
  have hl4 := (lf_le f 16).1
  have ht4 := (tp_le f 16 (Nat.le_refl _)).1
  generalize hl : lfN f 16 = l at L1 hmin hl4
  generalize htt : tpN f 16 = t at L1 hmin ht4
  have L2 : loop (X9_pushed_L78 (nI f) (nI l) (nI t)) FU (0, 0) = some (nI (ob f.testBit (fun k => k - l - 4 * t) 16)) := by
    refine loop_fn' (fun i => (nI (ob f.testBit (fun k => k - l - 4 * t) i), nI i)) 16 rfl (fun i hi => ?_) ?_ (by decide)
    · show X9_pushed_L78 _ _ _ (_, _) = _
      rw [X9_pushed_L78, if_neg (nI_nleN hi (by decide)), ob]
      cases e : f.testBit i
      · rw [bd1e (mhas_f (by omega) (by omega) e), if_pos rfl, nx_or0, if_neg (by decide), Nat.or_zero]
        simp only [lets]
        rw [nI_1]
      · have hm := hmin i hi e
        rw [bd1e (mhas_t (by omega) (by omega) e), if_neg n10, if_pos rfl, pk_mul, nI_subN (by omega), nI_subN (by omega), nx_one (by omega), nx_or]
        simp only [lets]
        rw [nI_1]
    · show X9_pushed_L78 _ _ _ (_, _) = _
      rw [X9_pushed_L78, if_pos (nI_le (Nat.le_refl _) (by decide))]
  rw [F_X9_pushed, bd2e L1, L2]
  congr 2
  unfold psh
  rw [hl, htt]
  apply Nat.eq_of_testBit_eq
  intro i
  rw [Bool.eq_iff_iff, ob_tb, tb_div]
  constructor
  · rintro ⟨k, h1, h2, h3⟩
    have := hmin k h1 h2
    rw [show 4 * t + l + i = k by omega]
    exact h2
  · intro h
    have := tb_m hf h
    exact ⟨4 * t + l + i, this, h, by omega⟩
/- on a board of four by four -/
def onB (w s : Nat) : Nat → Nat
  | 0 => 0
  | i + 1 => onB w s i ||| ((s / 2 ^ (i * w) &&& (2 ^ w - 1)) * 2 ^ (i * 4))
theorem onB_tb (w s n k : Nat) : (onB w s n).testBit k = true ↔ ∃ i, i < n ∧ i * 4 ≤ k ∧ k - i * 4 < w ∧ s.testBit (i * w + (k - i * 4)) = true := by
  induction n with
  | zero => simp [onB]
  | succ n ih =>
    rw [onB, Nat.testBit_or, Bool.or_eq_true, ih, ← Nat.shiftLeft_eq, Nat.testBit_shiftLeft, Nat.testBit_and, tb_div, Nat.testBit_two_pow_sub_one, Bool.and_eq_true, Bool.and_eq_true, decide_eq_true_iff, decide_eq_true_iff]
    constructor
    · rintro (⟨i, h1, h2⟩ | ⟨h1, h2, h3⟩)
      · exact ⟨i, by omega, h2⟩
      · exact ⟨n, by omega, h1, h3, h2⟩
    · rintro ⟨i, h1, h2, h3, h4⟩
      by_cases e : i = n
      · subst e; exact Or.inr ⟨h2, h4, h3⟩
      · exact Or.inl ⟨i, by omega, h2, h3, h4⟩
def brd (w s m : Nat) : Nat := ob s.testBit (fun c => 4 * (c / w) + c % w) m
theorem board_same {m w s : Nat} (hd : Dm m w) (hs : s < 2 ^ m) : onB w s 4 = brd w s m := by
  apply Nat.eq_of_testBit_eq
  intro k
  rw [Bool.eq_iff_iff, onB_tb, brd, ob_tb]
  constructor
  · rintro ⟨i, h1, h2, h3, h4⟩
    have hc := tb_m hs h4
    refine ⟨_, hc, h4, ?_⟩
    rcases hd.cases with ⟨e1, e2⟩ | ⟨e1, e2⟩ | ⟨e1, e2⟩ | ⟨e1, e2⟩ | ⟨e1, e2⟩ | ⟨e1, e2⟩ | ⟨e1, e2⟩ | ⟨e1, e2⟩ | ⟨e1, e2⟩ | ⟨e1, e2⟩ | ⟨e1, e2⟩ | ⟨e1, e2⟩ | ⟨e1, e2⟩ <;> subst e1 <;> subst e2 <;> omega
  · rintro ⟨c, h1, h2, h3⟩
    have e : 4 * (c / w) ≤ k ∧ k - c / w * 4 < w ∧ c / w < 4 ∧ c / w * w + (k - c / w * 4) = c := by
      rcases hd.cases with ⟨e1, e2⟩ | ⟨e1, e2⟩ | ⟨e1, e2⟩ | ⟨e1, e2⟩ | ⟨e1, e2⟩ | ⟨e1, e2⟩ | ⟨e1, e2⟩ | ⟨e1, e2⟩ | ⟨e1, e2⟩ | ⟨e1, e2⟩ | ⟨e1, e2⟩ | ⟨e1, e2⟩ | ⟨e1, e2⟩ <;> subst e1 <;> subst e2 <;> omega
    exact ⟨c / w, e.2.2.1, by omega, e.2.1, by rw [e.2.2.2]; exact h2⟩
theorem brd_lt {m w s : Nat} (hd : Dm m w) : brd w s m < 2 ^ 16 := ob_lt (fun c hc _ => by
  rcases hd.cases with ⟨e1, e2⟩ | ⟨e1, e2⟩ | ⟨e1, e2⟩ | ⟨e1, e2⟩ | ⟨e1, e2⟩ | ⟨e1, e2⟩ | ⟨e1, e2⟩ | ⟨e1, e2⟩ | ⟨e1, e2⟩ | ⟨e1, e2⟩ | ⟨e1, e2⟩ | ⟨e1, e2⟩ | ⟨e1, e2⟩ <;> subst e1 <;> subst e2 <;> omega)
theorem onBoard_eq {M : Mem} {m w s : Nat} (hd : Dm m w) (h1 : gI M 7 1 = nI w) (hs : s < 2 ^ m) : F_X2_onBoard M (nI s) = some (nI (brd w s m)) := by
  have hle := hd.le
  have hs16 := lt16 hd hs
  have hw3 : ∀ i, i < 4 → i * w < 32 := fun i hi => by
    have := Nat.mul_le_mul (show i ≤ 3 by omega) hle.2
    omega
  rw [F_X2_onBoard, h1, nx_one (by omega), show (1 : Int32) = nI 1 from rfl, nI_subN (Nat.two_pow_pos w), lets, ← board_same hd hs]
  refine loop_fn' (fun i => (nI (onB w s i), nI i)) 4 rfl (fun i hi => ?_) ?_ (by decide)
  · show X2_onBoard_L14 M _ _ (_, _) = _
    rw [X2_onBoard_L14, if_neg (nI_nleN hi (by decide)), h1, pk_mul, pk_mul, nx_ushr (by omega) (hw3 i hi), nx_and, nx_shl _ (by omega), nx_or]
    simp only [lets]
    rw [nI_1]
    rfl
  · show X2_onBoard_L14 M _ _ (_, _) = _
    rw [X2_onBoard_L14, if_pos (nI_le (Nat.le_refl _) (by decide))]
theorem shape_eq {N : Mem} {m w s : Nat} (hd : Dm m w) (h0 : gI N 0 11 = nI m) (h1 : gI N 0 10 = nI w) (hs : s < 2 ^ m) : F_X9_shape N (nI s) = some (nI (psh (brd w s m))) := by
  have hle := hd.le
  have hs16 := lt16 hd hs
  unfold F_X9_shape
  refine loop_fn' (fun i => (nI (ob s.testBit (fun c => 4 * (c / w) + c % w) i), nI i)) m rfl (fun i hi => ?_) ?_ (by show m < 200000; omega)
  · show X9_shape_L4 N (nI s) (_, _) = _
    have hw : w ≠ 0 := by
      intro z; subst z
      rcases hd with z | z <;> omega
    have hb : 4 * (i / w) + i % w < 32 := by
      rcases hd.cases with ⟨e1, e2⟩ | ⟨e1, e2⟩ | ⟨e1, e2⟩ | ⟨e1, e2⟩ | ⟨e1, e2⟩ | ⟨e1, e2⟩ | ⟨e1, e2⟩ | ⟨e1, e2⟩ | ⟨e1, e2⟩ | ⟨e1, e2⟩ | ⟨e1, e2⟩ | ⟨e1, e2⟩ | ⟨e1, e2⟩ <;> subst e1 <;> subst e2 <;> omega
    rw [X9_shape_L4, h0, if_neg (nI_nleN hi (by omega)), ob]
    cases e : s.testBit i
    · rw [bd1e (mhas_f (by omega) (by omega) e), if_pos rfl, nx_or0, if_neg (by decide), Nat.or_zero]
      simp only [lets]
      rw [nI_1]
    · rw [bd1e (mhas_t (by omega) (by omega) e), if_neg n10, h1, chk_pos (show ¬ nI w = 0 from fun z => hw ((nI_eq (a := w) (b := 0) (by omega) (by decide)).mp z)), chk_pos (show ¬ nI w = 0 from fun z => hw ((nI_eq (a := w) (b := 0) (by omega) (by decide)).mp z)), irm_c i (by omega) w (by omega) hw, pk_div (by omega) (by omega) (by omega), pk_mul, nI_add, nx_one hb, nx_or, if_pos rfl]
      simp only [lets]
      rw [nI_1]
  · show X9_shape_L4 N (nI s) (_, _) = _
    rw [X9_shape_L4, h0, if_pos (nI_le (Nat.le_refl _) (by omega)), bd1e (show F_X9_pushed (nI (ob s.testBit (fun c => 4 * (c / w) + c % w) m)) = some (nI (psh (brd w s m))) from pushed_eq (brd_lt (s := s) hd))]
/- turned by a quarter -/
def trO (f n : Nat) : Nat := ob f.testBit (fun k => 4 * (k % 4) + 3 - k / 4) n
def trN (f : Nat) : Nat := trO f 16
theorem trN_lt (f : Nat) : trN f < 2 ^ 16 := ob_lt (fun k hk _ => by omega)
theorem trO_s (f k : Nat) : trO f (k + 1) = trO f k ||| (if f.testBit k then 2 ^ (4 * (k % 4) + 3 - k / 4) else 0) := rfl
theorem turned_eq {f : Nat} (hf : f < 2 ^ 16) : F_X2_turned (nI f) = some (nI (trN f)) := by
  unfold F_X2_turned
  refine loop_fn' (fun i => (nI (trO f (4 * i)), nI i)) 4 rfl (fun i hi => ?_) ?_ (by decide)
  · show X2_turned_L4 _ (_, _) = _
    have hin : loop (X2_turned_L11 (nI f) (nI i)) FU (nI (trO f (4 * i)), 0) = some (nI (trO f (4 * (i + 1)))) := by
      refine loop_fn' (fun j => (nI (trO f (4 * i + j)), nI j)) 4 rfl (fun j hj => ?_) ?_ (by decide)
      · show X2_turned_L11 _ _ (_, _) = _
        rw [X2_turned_L11, if_neg (nI_nleN hj (by decide)), pk_mul, nI_add, show i * 4 + j = 4 * i + j by omega, ← Nat.add_assoc, trO_s]
        cases e : f.testBit (4 * i + j)
        · rw [if_pos ((nx_u0 (by omega) (by omega)).mpr e), lets, nI_1, if_neg (by decide), Nat.or_zero]
        · rw [if_neg (fun z => by rw [(nx_u0 (by omega) (by omega)).mp z] at e; cases e), if_pos rfl, pk_mul, nI_add, show (1 : Int32) = nI 1 from rfl, nI_subN (by omega), nI_subN (by omega), show ish (nI 1) _ = _ from nx_one (k := j * 4 + 4 - 1 - i) (by omega), nx_or]
          simp only [lets]
          rw [nI_add, show j * 4 + 4 - 1 - i = 4 * ((4 * i + j) % 4) + 3 - (4 * i + j) / 4 by omega]
      · show X2_turned_L11 _ _ (_, _) = _
        rw [X2_turned_L11, if_pos (nI_le (Nat.le_refl _) (by decide))]
        rfl
    rw [X2_turned_L4, if_neg (nI_nleN hi (by decide)), bd1e hin, lets, nI_1]
  · show X2_turned_L4 _ (_, _) = _
    rw [X2_turned_L4, if_pos (nI_le (Nat.le_refl _) (by decide))]
    rfl
theorem quarter_eq {f : Nat} (hf : f < 2 ^ 16) : F_X9_quarter (nI f) = some (nI (psh (trN f))) := by
  unfold F_X9_quarter
  refine loop_fn' (fun i => (nI (trO f i), nI i)) 16 rfl (fun i hi => ?_) ?_ (by decide)
  · show X9_quarter_L4 _ (_, _) = _
    rw [X9_quarter_L4, if_neg (nI_nleN hi (by decide)), trO_s]
    cases e : f.testBit i
    · rw [bd1e (mhas_f (by omega) (by omega) e), if_pos rfl, nx_or0, if_neg (by decide), Nat.or_zero]
      simp only [lets]
      rw [nI_1]
    · rw [bd1e (mhas_t (by omega) (by omega) e), if_neg n10, irm_c i hi 4 (by decide) (by decide), pk_div (by omega) (by decide) (by decide), pk_mul, nI_add, nI_subN (by omega), nx_one (by omega), nx_or, if_pos rfl]
      simp only [lets]
      rw [nI_1]
  · show X9_quarter_L4 _ (_, _) = _
    rw [X9_quarter_L4, if_pos (nI_le (Nat.le_refl _) (by decide)), bd1e (show F_X9_pushed (nI (trO f 16)) = _ from pushed_eq (trN_lt f))]
    rfl
/- as many cells -/
theorem sm_sh (g : Nat → Nat) (n m : Nat) : sm (fun i => g (n + i)) m + sm g n = sm g (n + m) := by
  induction m with
  | zero => rw [sm, Nat.add_zero]; omega
  | succ m ih => rw [sm, ← Nat.add_assoc, sm]; omega
theorem pc_psh {f : Nat} (hf : f < 2 ^ 16) : pc (psh f) = pc f := by
  by_cases h0 : f = 0
  · subst h0; rw [psh_0]
  · have h := Mn_of hf h0
    have e1 := sm_sh (fun i => if f.testBit i then 1 else 0) (4 * tpN f 16 + lfN f 16) 16
    have e2 : sm (fun i => if f.testBit i then 1 else 0) (4 * tpN f 16 + lfN f 16) = 0 := sm_zero (fun i hi => by
      cases e : f.testBit i
      · rfl
      · have := h.1 i e
        omega)
    have e3 : sm (fun i => if f.testBit i then 1 else 0) (4 * tpN f 16 + lfN f 16 + 16) = pc f := sm_ext (by omega) (fun i h1 _ => by rw [tb_lt hf h1]; rfl)
    have e4 : pc (psh f) = sm (fun i => if f.testBit (4 * tpN f 16 + lfN f 16 + i) then 1 else 0) 16 := sm_congr (fun i _ => by unfold psh; rw [tb_div])
    rw [e4]
    omega
theorem trN_tb {f i : Nat} (hi : i < 16) : (trN f).testBit i = f.testBit (4 * (3 - i % 4) + i / 4) := by
  rw [Bool.eq_iff_iff, trN, trO, ob_tb]
  constructor
  · rintro ⟨k, h1, h2, h3⟩
    rw [show 4 * (3 - i % 4) + i / 4 = k by omega]
    exact h2
  · intro h
    exact ⟨_, by omega, h, by omega⟩
theorem pc_trN (f : Nat) : pc (trN f) = pc f := by
  have e : pc (trN f) = sm (fun i => if f.testBit (4 * (3 - i % 4) + i / 4) then 1 else 0) 16 := sm_congr (fun i hi => by rw [trN_tb hi])
  rw [e]
  unfold pc
  have key : ∀ g : Nat → Nat, sm (fun i => g (4 * (3 - i % 4) + i / 4)) 16 = sm g 16 := by
    intro g
    show ((((((((((((((((0 + g 12) + g 8) + g 4) + g 0) + g 13) + g 9) + g 5) + g 1) + g 14) + g 10) + g 6) + g 2) + g 15) + g 11) + g 7) + g 3) = ((((((((((((((((0 + g 0) + g 1) + g 2) + g 3) + g 4) + g 5) + g 6) + g 7) + g 8) + g 9) + g 10) + g 11) + g 12) + g 13) + g 14) + g 15)
    omega
  exact key (fun k => if f.testBit k then 1 else 0)
theorem brd_tb {m w s k : Nat} (hd : Dm m w) (hs : s < 2 ^ m) (hk : k < 16) : (brd w s m).testBit k = (decide (k % 4 < w) && s.testBit (k / 4 * w + k % 4)) := by
  rw [Bool.eq_iff_iff, ← board_same hd hs, onB_tb, Bool.and_eq_true, decide_eq_true_iff]
  have hle := hd.le
  constructor
  · rintro ⟨i, h1, h2, h3, h4⟩
    have e1 : i = k / 4 := by omega
    have e2 : k - i * 4 = k % 4 := by omega
    rw [e2] at h3 h4
    rw [e1] at h4
    exact ⟨h3, h4⟩
  · rintro ⟨h1, h2⟩
    exact ⟨k / 4, by omega, by omega, by omega, by rw [show k - k / 4 * 4 = k % 4 by omega]; exact h2⟩
theorem pc_brd {m w s : Nat} (hd : Dm m w) (hs : s < 2 ^ m) : pc (brd w s m) = pc s := by
  have e : pc (brd w s m) = sm (fun k => if k % 4 < w then (if s.testBit (k / 4 * w + k % 4) then 1 else 0) else 0) 16 := sm_congr (fun k hk => by
    rw [brd_tb hd hs hk]
    by_cases z : k % 4 < w
    · rw [decide_eq_true z, Bool.true_and, if_pos z]
    · rw [decide_eq_false z, Bool.false_and, if_neg z, if_neg (by decide)])
  rw [e]
  unfold pc
  have hz : ∀ i, m ≤ i → (fun k => if s.testBit k then 1 else 0) i = 0 := fun i hi => by
    show (if s.testBit i then 1 else 0) = 0
    rw [tb_lt hs hi]; rfl
  have key : ∀ g : Nat → Nat, (∀ i, m ≤ i → g i = 0) → sm (fun k => if k % 4 < w then g (k / 4 * w + k % 4) else 0) 16 = sm g 16 := by
    intro g hg
    have hw : (w = 0 ∧ m = 0) ∨ (w = 2 ∧ m ≤ 8) ∨ (w = 3 ∧ m ≤ 12) ∨ w = 4 := by
      rcases hd.cases with h | h | h | h | h | h | h | h | h | h | h | h | h <;> omega
    rcases hw with ⟨rfl, h⟩ | ⟨rfl, h⟩ | ⟨rfl, h⟩ | rfl
    · rw [sm_zero (f := g) (fun i _ => hg i (by omega))]
      exact sm_zero (fun i _ => if_neg (by omega))
    · have z8 := hg 8 (by omega)
      have z9 := hg 9 (by omega)
      have z10 := hg 10 (by omega)
      have z11 := hg 11 (by omega)
      have z12 := hg 12 (by omega)
      have z13 := hg 13 (by omega)
      have z14 := hg 14 (by omega)
      have z15 := hg 15 (by omega)
      show ((((((((((((((((0 + g 0) + g 1) + 0) + 0) + g 2) + g 3) + 0) + 0) + g 4) + g 5) + 0) + 0) + g 6) + g 7) + 0) + 0) = ((((((((((((((((0 + g 0) + g 1) + g 2) + g 3) + g 4) + g 5) + g 6) + g 7) + g 8) + g 9) + g 10) + g 11) + g 12) + g 13) + g 14) + g 15)
      omega
    · have z12 := hg 12 (by omega)
      have z13 := hg 13 (by omega)
      have z14 := hg 14 (by omega)
      have z15 := hg 15 (by omega)
      show ((((((((((((((((0 + g 0) + g 1) + g 2) + 0) + g 3) + g 4) + g 5) + 0) + g 6) + g 7) + g 8) + 0) + g 9) + g 10) + g 11) + 0) = ((((((((((((((((0 + g 0) + g 1) + g 2) + g 3) + g 4) + g 5) + g 6) + g 7) + g 8) + g 9) + g 10) + g 11) + g 12) + g 13) + g 14) + g 15)
      omega
    · show ((((((((((((((((0 + g 0) + g 1) + g 2) + g 3) + g 4) + g 5) + g 6) + g 7) + g 8) + g 9) + g 10) + g 11) + g 12) + g 13) + g 14) + g 15) = ((((((((((((((((0 + g 0) + g 1) + g 2) + g 3) + g 4) + g 5) + g 6) + g 7) + g 8) + g 9) + g 10) + g 11) + g 12) + g 13) + g 14) + g 15)
      omega
  exact key (fun k => if s.testBit k then 1 else 0) hz
