/-! ===== the two programs' growth is the closure ===== -/
theorem tb_m {s m c : Nat} (hs : s < 2 ^ m) (h : s.testBit c = true) : c < m := by
  rcases Nat.lt_or_ge c m with z | z
  · exact z
  · rw [tb_lt hs z] at h; cases h
def LandC (M : Mem) (m w : Nat) : Prop := gI M 7 0 = nI m ∧ gI M 7 1 = nI w ∧ gI M 7 2 = nI (bs (fun c => decide (c < m) && decide (c % w = 0)) 16) ∧ gI M 7 3 = nI (bs (fun c => decide (c < m) && decide (c % w + 1 = w)) 16)
theorem LandR.c {M N : Mem} {m w : Nat} {gd : Nat → Nat} (h : LandR M N m w gd) : LandC M m w := ⟨h.1, h.2.1, h.2.2.2.2.1, h.2.2.2.2.2.1⟩
theorem spread_eq {M : Mem} {m w s : Nat} (hd : Dm m w) (hl : LandC M m w) (hs : s < 2 ^ m) : F_X2_spread M (nI s) = some (nI (s ||| nbr m w s)) := by
  obtain ⟨h0, h1, h2, h3⟩ := hl
  have hle := hd.le
  have hp : 2 ^ m ≤ 2 ^ 16 := Nat.pow_le_pow_right (by decide) hle.1
  have hs16 : s < 2 ^ 16 := by omega
  unfold F_X2_spread
  simp only [lets]
  rw [h0, h1, h2, h3, nx_dif, nx_dif, show (1 : Int32) = nI 1 from rfl, nx_shl _ (by decide), nx_ushr (Nat.lt_trans (dif_lt hs16) (by decide)) (by decide), nx_shl _ (by omega), nx_ushr (by omega) (by omega), nx_shl _ (by omega), nx_or, nx_or, nx_or, nx_or, Nat.one_mul, nI_subN (Nat.two_pow_pos m), nx_and]
  congr 2
  apply Nat.eq_of_testBit_eq
  intro i
  rw [Bool.eq_iff_iff]
  simp only [Nat.testBit_and, Nat.testBit_or, Nat.testBit_two_pow_sub_one, ← Nat.shiftLeft_eq, ← Nat.shiftRight_eq_div_pow, Nat.testBit_shiftLeft, Nat.testBit_shiftRight, dif_tb, bs_tb, Bool.and_eq_true, Bool.or_eq_true, decide_eq_true_iff, nbr_tb hd, adj_iff, Bool.not_eq_true', Bool.and_eq_false_iff, decide_eq_false_iff_not]
  constructor
  · rintro ⟨((h | ⟨h4, h5, h6⟩ | ⟨h5, h6⟩) | ⟨h4, h5⟩ | h5), hi⟩
    · exact Or.inl h
    · have h7 := tb_m hs h5
      have hw : w ≠ 0 := by
        intro e; subst e
        rcases hd with h | h <;> omega
      have h8 := Nat.mod_lt (i - 1) (show 0 < w by omega)
      exact Or.inr ⟨i - 1, h7, h5, Or.inr (Or.inl ⟨by omega, by omega⟩)⟩
    · have h7 := tb_m hs h5
      exact Or.inr ⟨1 + i, h7, h5, Or.inl ⟨by omega, by omega⟩⟩
    · exact Or.inr ⟨i - w, tb_m hs h5, h5, Or.inr (Or.inr (Or.inr ⟨by omega, by omega⟩))⟩
    · exact Or.inr ⟨w + i, tb_m hs h5, h5, Or.inr (Or.inr (Or.inl (by omega)))⟩
  · rintro (h | ⟨c, h4, h5, h6⟩)
    · exact ⟨Or.inl (Or.inl h), tb_m hs h⟩
    · have hi := adj_lt hd h4 ((adj_iff m w c i).mpr h6)
      refine ⟨?_, hi⟩
      rcases h6 with ⟨e1, e2⟩ | ⟨e1, e2⟩ | e1 | ⟨e1, e2⟩
      · subst e1
        exact Or.inl (Or.inr (Or.inr ⟨by rw [Nat.add_comm]; exact h5, by rw [Nat.add_comm]; omega⟩))
      · subst e1
        exact Or.inl (Or.inr (Or.inl ⟨by omega, h5, by rw [Nat.add_sub_cancel]; omega⟩))
      · subst e1
        exact Or.inr (Or.inr (by rw [Nat.add_comm]; exact h5))
      · subst e1
        exact Or.inr (Or.inl ⟨by omega, by rw [Nat.add_sub_cancel]; exact h5⟩)
theorem gs_of {m w T s : Nat} (h : s &&& T = s) : (s ||| nbr m w s) &&& T = gs m w T s := by
  unfold gs
  rw [Nat.and_or_distrib_right, h]
theorem sub_and {s T : Nat} (h : ∀ i, s.testBit i = true → T.testBit i = true) : s &&& T = s := by
  apply Nat.eq_of_testBit_eq
  intro i
  rw [Nat.testBit_and]
  cases e : s.testBit i
  · rfl
  · rw [h i e]; rfl
theorem itr_in {m w T s : Nat} (hd : Dm m w) (h : ∀ i, s.testBit i = true → T.testBit i = true) (k : Nat) : ∀ i, (itr (gs m w T) k s).testBit i = true → T.testBit i = true := by
  induction k with
  | zero => exact h
  | succ k ih =>
    intro i hi
    rw [itr_s, gs_tb hd] at hi
    rcases hi with hi | hi
    · exact ih i hi
    · exact hi.1
theorem lt16 {m w s : Nat} (hd : Dm m w) (hs : s < 2 ^ m) : s < 2 ^ 16 := Nat.lt_of_lt_of_le hs (Nat.pow_le_pow_right (by decide) hd.le.1)
theorem hang_eq {M : Mem} {m w a T : Nat} (hd : Dm m w) (hl : LandC M m w) (hT : T < 2 ^ m) : F_X2_hangingWith M (nI a) (nI T) = some (nI (clo m w T (a &&& T))) := by
  have hs : a &&& T < 2 ^ m := Nat.lt_of_le_of_lt Nat.and_le_right hT
  have hsub : ∀ i, (a &&& T).testBit i = true → T.testBit i = true := fun i hi => by
    rw [Nat.testBit_and, Bool.and_eq_true] at hi; exact hi.2
  have hs16 := lt16 hd hs
  have hT16 := lt16 hd hT
  unfold F_X2_hangingWith
  rw [lets, nx_and]
  generalize a &&& T = s at hs hsub hs16
  obtain ⟨r, h1, h2⟩ := loop_inv (f := X2_hangingWith_L7 M (nI T)) (fun k st => st = (nI (itr (gs m w T) k s), nI k)) (fun r => r = nI (clo m w T s)) 16 (fun k st hk hst => by
    subst hst
    have b1 := itr_lt (m := m) (w := w) hs hT k
    have b2 := itr_lt (m := m) (w := w) hs16 hT16 k
    have b3 := gs_lt (m := m) (w := w) b2 hT16
    rw [X2_hangingWith_L7]
    by_cases e : k = 16
    · subst e
      rw [if_pos (nI_le (Nat.le_refl _) (by decide))]
      exact Or.inr ⟨_, rfl, by rw [clo_16 hs16 hT16]⟩
    · rw [if_neg (nI_nleN (by omega) (by decide)), bd1e (spread_eq hd hl b1), lets, nx_and, gs_of (sub_and (itr_in hd hsub k))]
      by_cases ef : gs m w T (itr (gs m w T) k s) = itr (gs m w T) k s
      · rw [if_pos (by rw [ef])]
        exact Or.inr ⟨_, rfl, by rw [clo_of (by omega) ef]⟩
      · rw [if_neg (fun h => ef ((nI_eq (by omega) (by omega)).mp h)), lets, nI_1]
        exact Or.inl ⟨by omega, _, rfl, by rw [itr_s]⟩) (k := FU) (by decide) (s := (nI s, 0)) rfl
  rw [h1, h2]
theorem parted_eq {M : Mem} {m w s c : Nat} (hd : Dm m w) (hl : LandC M m w) (hs : s < 2 ^ m) (h1 : s.testBit c = true) (h0 : ∀ i, i < c → s.testBit i = false) : F_X2_isParted M (nI s) = some (if clo m w s (2 ^ c) = s then 0 else 1) := by
  have hc := tb_m hs h1
  have hle := hd.le
  have e : 2 ^ c &&& s = 2 ^ c := sub_and (fun i hi => by rw [tb_two, decide_eq_true_iff] at hi; subst hi; exact h1)
  have b1 := clo_lt (m := m) (w := w) (T := s) (s := 2 ^ c) (n := m) (Nat.pow_lt_pow_right (by decide) hc) hs
  have b2 := lt16 hd b1
  have b3 := lt16 hd hs
  unfold F_X2_isParted
  rw [nx_low (by omega) h1 h0, bd1e (hang_eq hd hl hs), e]
  by_cases ef : clo m w s (2 ^ c) = s
  · rw [if_pos (by rw [ef]), if_pos ef]
  · rw [if_neg (fun h => ef ((nI_eq (by omega) (by omega)).mp h)), if_neg ef]
theorem parted_0 {M : Mem} {m w : Nat} (hd : Dm m w) (hl : LandC M m w) : F_X2_isParted M 0 = some 0 := by
  unfold F_X2_isParted
  rw [nx_low0]
  have := hang_eq (a := 0) (T := 0) hd hl (Nat.two_pow_pos m)
  have e : clo m w 0 (0 &&& 0) = 0 := by
    apply Nat.eq_of_testBit_eq
    intro i
    rw [Nat.zero_testBit]
    cases h : (clo m w 0 (0 &&& 0)).testBit i
    · rfl
    · have := clo_in hd (fun i hi => by rw [Nat.zero_and] at hi; exact hi) i h
      rw [Nat.zero_testBit] at this
      cases this
  rw [e] at this
  have h2 : F_X2_hangingWith M 0 0 = some 0 := this
  rw [bd1e h2, if_pos rfl]
/- the model -/
def bsdV (w m x1 : Int32) : Int32 := ((((if irm x1 w ≤ 0 then (0 : Int32) else ish 1 (x1 - 1)) ||| (if w - 1 ≤ irm x1 w then 0 else ish 1 (x1 + 1))) ||| (if x1 < w then 0 else ish 1 (x1 - w)))) ||| (if m ≤ x1 + w then 0 else ish 1 (x1 + w))
def bsdT (m w c : Nat) : Bool := decide (bsdV (nI w) (nI m) (nI c) = nI (bs (adj m w c) 16))
theorem bsd_all : ∀ m, m < 17 → ∀ w, w < 5 → ∀ c, c < m → (2 ≤ w ∧ w ≤ m ∧ m % w = 0) → bsdT m w c = true := by decide +kernel
theorem bsdE_eq (M : Mem) (x : Int32) (h0 : ¬ gI M 0 10 = 0) : F_X9_besides M x = some (bsdV (gI M 0 10) (gI M 0 11) x) := by
  unfold F_X9_besides X9_besides_J20 X9_besides_J39 X9_besides_J60 bsdV chk
  simp only [lets]
  rw [if_pos h0]
  split <;> split <;> split <;> split <;> rfl
theorem besides_eq {N : Mem} {m w c : Nat} (hd : Dm m w) (h0 : gI N 0 11 = nI m) (h1 : gI N 0 10 = nI w) (hc : c < m) : F_X9_besides N (nI c) = some (nI (bs (adj m w c) 16)) := by
  have hle := hd.le
  have hw : 2 ≤ w ∧ w ≤ m ∧ m % w = 0 := by
    rcases hd.cases with h | h | h | h | h | h | h | h | h | h | h | h | h <;> rw [h.1, h.2] <;> omega
  rw [bsdE_eq _ _ (by rw [h1]; exact fun e => by have := (nI_eq (a := w) (b := 0) (by omega) (by decide)).mp e; omega), h0, h1]
  congr 1
  exact of_decide_eq_true (bsd_all m (by omega) w (by omega) c hc hw)
def acc (m w T s i : Nat) : Nat := bs (fun k => anyB (fun c => s.testBit c && adj m w c k) i) 16 &&& T
theorem acc_0 (m w T s : Nat) : acc m w T s 0 = 0 := by
  apply Nat.eq_of_testBit_eq
  intro i
  rw [acc, Nat.testBit_and, bs_tb, Nat.zero_testBit]
  simp [anyB]
theorem acc_s (m w T s i : Nat) : acc m w T s (i + 1) = acc m w T s i ||| (if s.testBit i then bs (adj m w i) 16 &&& T else 0) := by
  apply Nat.eq_of_testBit_eq
  intro k
  rw [Nat.testBit_or, acc, acc, Nat.testBit_and, Nat.testBit_and, bs_tb, bs_tb, anyB]
  cases s.testBit i
  · simp
  · rw [if_pos rfl, Nat.testBit_and, bs_tb]
    cases decide (k < 16) <;> cases T.testBit k <;> simp
theorem acc_m (m w T s : Nat) : s ||| acc m w T s m = gs m w T s := rfl
theorem mhas_t {s c : Nat} (hs : s < 2 ^ 31) (hc : c < 32) (h : s.testBit c = true) : F_X9_has (nI s) (nI c) = some 1 := by rw [mhas hs hc, h]; rfl
theorem mhas_f {s c : Nat} (hs : s < 2 ^ 31) (hc : c < 32) (h : s.testBit c = false) : F_X9_has (nI s) (nI c) = some 0 := by rw [mhas hs hc, h]; rfl
theorem grow_in {N : Mem} {m w T s : Nat} (hd : Dm m w) (h0 : gI N 0 11 = nI m) (h1 : gI N 0 10 = nI w) (hs : s < 2 ^ 16) : loop (X9_grown_L19 N (nI T) (nI s)) FU (nI s, 0) = some (nI (gs m w T s)) := by
  have hle := hd.le
  refine loop_fn' (fun i => (nI (s ||| acc m w T s i), nI i)) m (by rw [acc_0, Nat.or_zero]; rfl) (fun i hi => ?_) ?_ (by show m < 200000; omega)
  · show X9_grown_L19 N (nI T) (nI s) (_, _) = _
    rw [X9_grown_L19, h0, if_neg (nI_nleN hi (by omega))]
    cases e : s.testBit i
    · rw [bd1e (mhas_f (by omega) (by omega) e), if_pos rfl]
      simp only [lets]
      rw [nx_or0, nI_1, acc_s, e]
      simp
    · rw [bd1e (mhas_t (by omega) (by omega) e), if_neg (by decide), bd1e (besides_eq hd h0 h1 hi)]
      simp only [lets]
      rw [nI_1, nx_and, nx_or, acc_s, e, if_pos rfl, Nat.or_assoc]
  · show X9_grown_L19 N (nI T) (nI s) (_, _) = _
    rw [X9_grown_L19, h0, if_pos (nI_le (Nat.le_refl _) (by omega)), acc_m]
theorem grown_eq {N : Mem} {m w T c : Nat} (hd : Dm m w) (h0 : gI N 0 11 = nI m) (h1 : gI N 0 10 = nI w) (hT : T < 2 ^ 16) (hc : c < 16) : F_X9_grown N (nI T) (nI c) = some (nI (clo m w T (2 ^ c))) := by
  unfold F_X9_grown
  rw [lets, nx_one (by omega)]
  have hs : 2 ^ c < 2 ^ 16 := Nat.pow_lt_pow_right (by decide) hc
  have hp : 0 < 2 ^ c := Nat.two_pow_pos c
  generalize 2 ^ c = s at hs hp
  obtain ⟨r, e1, e2⟩ := loop_inv (f := X9_grown_L7 N (nI T)) (fun k st => st = (nI (itr (gs m w T) k s), nI (if k = 0 then 0 else itr (gs m w T) (k - 1) s))) (fun r => r = nI (clo m w T s)) 17 (fun k st hk hst => by
    subst hst
    have b1 := itr_lt (m := m) (w := w) hs hT k
    have b2 := itr_lt (m := m) (w := w) hs hT (k - 1)
    rw [X9_grown_L7]
    by_cases e : k = 0
    · subst e
      rw [if_pos rfl, if_neg (fun h => by have := (nI_eq (a := itr (gs m w T) 0 s) (b := 0) (by omega) (by decide)).mp h; rw [itr] at this; omega), bd1e (grow_in hd h0 h1 b1)]
      exact Or.inl ⟨by omega, _, rfl, rfl⟩
    · rw [if_neg e]
      have ek : itr (gs m w T) k s = gs m w T (itr (gs m w T) (k - 1) s) := by rw [← itr_s (gs m w T), Nat.sub_add_cancel (by omega)]
      by_cases ef : itr (gs m w T) k s = itr (gs m w T) (k - 1) s
      · rw [if_pos (by rw [ef])]
        refine Or.inr ⟨_, rfl, ?_⟩
        rw [ef, clo_of (by omega) (by rw [← ek]; exact ef)]
      · rw [if_neg (fun h => ef ((nI_eq (by omega) (by omega)).mp h)), bd1e (grow_in hd h0 h1 b1)]
        by_cases e17 : k = 17
        · exfalso
          subst e17
          exact ef (clo_16 hs hT).symm
        · refine Or.inl ⟨by omega, _, rfl, ?_⟩
          rw [if_neg (by omega), itr_s, Nat.add_sub_cancel]) (k := FU) (by decide) (s := (nI s, 0)) rfl
  rw [e1, e2]
/-- the dug cells of a row of depths -/
theorem dugIn_eq {N : Mem} {p b : Nat} {d : Nat → Nat} (hb : b + 16 ≤ alM p) (hp : alM p < 2 ^ 31) (h : ∀ c, c < 16 → gI N p (b + c) = nI (d c)) (hd : ∀ c, d c ≤ 5) : F_X9_dugIn N p (nI b) = some (nI (dg d)) := by
  unfold F_X9_dugIn
  refine loop_fn' (fun i => (nI (bs (fun c => decide (0 < d c)) i), nI i)) 16 rfl (fun i hi => ?_) ?_ (by decide)
  · show X9_dugIn_L4 N p (nI b) (_, _) = _
    have h5 := hd i
    rw [X9_dugIn_L4, if_neg (nI_nleN hi (by decide)), nI_add, chk_pos (inb_nI (by omega) hp), clN (by omega), h i hi, bs]
    by_cases e : d i = 0
    · rw [e, if_pos (by decide)]
      simp only [lets]
      rw [nx_or0, nI_1]
      simp
    · rw [if_neg (nI_nle (by omega) (by omega))]
      simp only [lets]
      rw [nx_one (by omega), nx_or, nI_1]
      simp [show 0 < d i by omega]
  · show X9_dugIn_L4 N p (nI b) (_, _) = _
    rw [X9_dugIn_L4, if_pos (nI_le (Nat.le_refl _) (by decide))]
    rfl
