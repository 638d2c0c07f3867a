/-! ===== the holes ===== -/
theorem app_l {l : List Nat} {x i : Nat} (h : i < l.length) : (l ++ [x]).getD i 0 = l.getD i 0 := by
  rw [List.getD_eq_getElem?_getD, List.getD_eq_getElem?_getD, List.getElem?_append_left h]
theorem app_r (l : List Nat) (x : Nat) : (l ++ [x]).getD l.length 0 = x := by
  rw [List.getD_eq_getElem?_getD, List.getElem?_append_right (Nat.le_refl _)]
  simp
theorem app_n (l : List Nat) (x : Nat) : (l ++ [x]).length = l.length + 1 := by simp
def dlt (w c : Nat) : Nat := if w = 3 then (c / 6) * 3 + c % 3 else c / 2
theorem dlt_lt {m w c : Nat} (hd : Dm m w) (hc : c < m) : dlt w c < 8 := by
  unfold dlt
  rcases hd.cases with ⟨h1, h2⟩ | ⟨h1, h2⟩ | ⟨h1, h2⟩ | ⟨h1, h2⟩ | ⟨h1, h2⟩ | ⟨h1, h2⟩ | ⟨h1, h2⟩ | ⟨h1, h2⟩ | ⟨h1, h2⟩ | ⟨h1, h2⟩ | ⟨h1, h2⟩ | ⟨h1, h2⟩ | ⟨h1, h2⟩ <;> subst h1 <;> subst h2 <;> split <;> omega
theorem dlt_adj {m w c k : Nat} (hd : Dm m w) (hc : c < m) (hk : k < m) (he : dlt w c = dlt w k) (hn : c ≠ k) : adj m w c k = true := by
  rw [adj_iff]
  unfold dlt at he
  rcases hd.cases with ⟨h1, h2⟩ | ⟨h1, h2⟩ | ⟨h1, h2⟩ | ⟨h1, h2⟩ | ⟨h1, h2⟩ | ⟨h1, h2⟩ | ⟨h1, h2⟩ | ⟨h1, h2⟩ | ⟨h1, h2⟩ | ⟨h1, h2⟩ | ⟨h1, h2⟩ | ⟨h1, h2⟩ | ⟨h1, h2⟩ <;> subst h1 <;> subst h2 <;> simp at he <;> omega
def DN (w R : Nat) : Nat := sm (fun j => if anyB (fun c => R.testBit c && decide (dlt w c = j)) 16 then 1 else 0) 8
theorem DN_le (w R : Nat) : DN w R ≤ 8 := sm_le (b := 1) (fun i _ => by split <;> omega)
theorem DN_lt {m w R R' c : Nat} (hd : Dm m w) (hc : c < m) (hR : R.testBit c = true) (hs : ∀ i, R'.testBit i = true → R.testBit i = true) (hn : ∀ i, i < 16 → dlt w i = dlt w c → R'.testBit i = false) : DN w R' < DN w R := by
  have hle := hd.le
  refine sm_lt (j := dlt w c) (fun j hj => ?_) (dlt_lt hd hc) ?_
  · by_cases h : anyB (fun c => R'.testBit c && decide (dlt w c = j)) 16 = true
    · rw [if_pos h, if_pos]
      · exact Nat.le_refl _
      · rw [anyB_iff] at h ⊢
        obtain ⟨i, h1, h2⟩ := h
        rw [Bool.and_eq_true] at h2
        exact ⟨i, h1, by rw [hs i h2.1, h2.2]; rfl⟩
    · rw [if_neg h]; omega
  · have h1 : ¬ anyB (fun k => R'.testBit k && decide (dlt w k = dlt w c)) 16 = true := by
      rw [anyB_iff]
      rintro ⟨i, h1, h2⟩
      rw [Bool.and_eq_true, decide_eq_true_iff] at h2
      rw [hn i h1 h2.2] at h2
      cases h2.1
    have h2 : anyB (fun k => R.testBit k && decide (dlt w k = dlt w c)) 16 = true := by
      rw [anyB_iff]
      exact ⟨c, by omega, by rw [hR, decide_eq_true rfl]; rfl⟩
    show (if _ then 1 else 0) < (if _ then 1 else 0)
    rw [if_neg h1, if_pos h2]
    omega
/-- a part of T that keeps its neighbours of T -/
def clsd (m w T R : Nat) : Prop := (∀ i, R.testBit i = true → T.testBit i = true) ∧ ∀ a b, a < m → R.testBit a = true → T.testBit b = true → adj m w a b = true → R.testBit b = true
theorem clsd.cl {m w T R s : Nat} (hd : Dm m w) (h : clsd m w T R) (hs : ∀ i, s.testBit i = true → R.testBit i = true) : clo m w R s = clo m w T s := by
  have key : ∀ k, itr (gs m w R) k s = itr (gs m w T) k s := by
    intro k
    induction k with
    | zero => rfl
    | succ k ih =>
      rw [itr_s, itr_s, ← ih]
      apply Nat.eq_of_testBit_eq
      intro i
      rw [Bool.eq_iff_iff, gs_tb hd, gs_tb hd]
      constructor
      · rintro (h1 | ⟨h1, h2⟩)
        · exact Or.inl h1
        · exact Or.inr ⟨h.1 i h1, h2⟩
      · rintro (h1 | ⟨h1, c, h2, h3, h4⟩)
        · exact Or.inl h1
        · exact Or.inr ⟨h.2 c i h2 (itr_in hd hs k c h3) h1 h4, c, h2, h3, h4⟩
  exact key 17
theorem two_sub {R c : Nat} (h : R.testBit c = true) : ∀ i, (2 ^ c).testBit i = true → R.testBit i = true := fun i hi => by
  rw [tb_two, decide_eq_true_iff] at hi; subst hi; exact h
theorem clsd.df {m w T R c : Nat} (hd : Dm m w) (hT : T < 2 ^ m) (h : clsd m w T R) (hc : R.testBit c = true) : clsd m w T (dif R (clo m w T (2 ^ c))) := by
  have hcm := tb_m hT (h.1 c hc)
  have hle := hd.le
  have h2 : 2 ^ c < 2 ^ 16 := Nat.pow_lt_pow_right (by decide) (by omega)
  refine ⟨fun i hi => ?_, fun a b ha h1 hb hab => ?_⟩
  · rw [dif_tb, Bool.and_eq_true] at hi
    exact h.1 i hi.1
  · rw [dif_tb, Bool.and_eq_true] at h1 ⊢
    have hb' := h.2 a b ha h1.1 hb hab
    refine ⟨hb', ?_⟩
    cases e : (clo m w T (2 ^ c)).testBit b
    · rfl
    · have hbm := adj_lt hd ha hab
      have := clo_cl hd h2 (lt16 hd hT) e hbm (h.1 a h1.1) (adj_sym hd ha hab)
      rw [this] at h1
      cases h1.2
/-- what holds after c cells -/
def HI (m w T c R : Nat) (l : List Nat) : Prop :=
  clsd m w T R ∧ (∀ i, i < c → R.testBit i = false) ∧ l.length + DN w R ≤ 8 ∧ (∀ i, i < l.length → l.getD i 0 < 2 ^ m ∧ (∃ k, (l.getD i 0).testBit k = true) ∧ ∀ k, (l.getD i 0).testBit k = true → T.testBit k = true ∧ R.testBit k = false) ∧ (∀ i j, i < j → j < l.length → ∀ k, (l.getD i 0).testBit k = true → (l.getD j 0).testBit k = true → False) ∧ ∀ k, T.testBit k = true → R.testBit k = true ∨ ∃ i, i < l.length ∧ (l.getD i 0).testBit k = true
theorem hl_inv {m w T : Nat} (hd : Dm m w) (hT : T < 2 ^ m) : ∀ c, c ≤ m → HI m w T c (hlS m w T c).1 (hlS m w T c).2 := by
  have hle := hd.le
  have hT16 := lt16 hd hT
  intro c
  induction c with
  | zero =>
    intro _
    refine ⟨⟨fun i h => h, fun a b _ _ h _ => h⟩, fun i hi => by omega, ?_, fun i hi => absurd hi (Nat.not_lt_zero _), fun i j _ hj => absurd hj (Nat.not_lt_zero _), fun k hk => Or.inl hk⟩
    have := DN_le w T
    show 0 + DN w T ≤ 8
    omega
  | succ c ih =>
    intro hc
    have hI := ih (by omega)
    rw [hlS]
    generalize hR : (hlS m w T c).1 = R at hI
    generalize hL : (hlS m w T c).2 = l at hI
    obtain ⟨a1, a2, a3, a4, a5, a6⟩ := hI
    cases e : R.testBit c
    · rw [if_neg (by rw [Bool.false_eq_true]; exact id), hR, hL]
      refine ⟨a1, fun i hi => ?_, a3, a4, a5, a6⟩
      by_cases ei : i = c
      · subst ei; exact e
      · exact a2 i (by omega)
    · rw [if_pos rfl]
      have h2 : 2 ^ c < 2 ^ m := Nat.pow_lt_pow_right (by decide) (by omega)
      have hK : clo m w T (2 ^ c) < 2 ^ m := clo_lt h2 hT
      have hcT : T.testBit c = true := a1.1 c e
      have hKc : (clo m w T (2 ^ c)).testBit c = true := clo_sub (by rw [tb_two]; exact decide_eq_true rfl)
      have hKT := clo_in hd (two_sub hcT)
      have hKR : ∀ i, (clo m w T (2 ^ c)).testBit i = true → R.testBit i = true := by
        rw [← a1.cl hd (two_sub e)]
        exact clo_in hd (two_sub e)
      have hcl := fun a k => clo_cl (c := a) (k := k) hd (lt16 hd h2) hT16 (s := 2 ^ c)
      generalize hKe : clo m w T (2 ^ c) = K at hK hKc hKT hKR hcl
      show HI m w T (c + 1) (dif R K) (l ++ [K])
      refine ⟨by rw [← hKe]; exact a1.df hd hT e, fun i hi => ?_, ?_, fun i hi => ?_, fun i j hij hj k => ?_, fun k hk => ?_⟩
      · rw [dif_tb]
        by_cases ei : i = c
        · subst ei; rw [hKc]; simp
        · rw [a2 i (by omega)]; rfl
      · have := DN_lt (R' := dif R K) hd (show c < m by omega) e (fun i hi => by rw [dif_tb, Bool.and_eq_true] at hi; exact hi.1) (fun i hi hdl => by
          rw [dif_tb]
          cases ei : R.testBit i
          · rfl
          · by_cases ec : c = i
            · subst ec; rw [hKc]; rfl
            · have him := tb_m hT (a1.1 i ei)
              rw [hcl c i hKc (by omega) (a1.1 i ei) (dlt_adj hd (by omega) him hdl.symm ec)]; rfl)
        rw [app_n]
        omega
      · rw [app_n] at hi
        by_cases ei : i < l.length
        · rw [app_l ei]
          obtain ⟨b1, b2, b3⟩ := a4 i ei
          exact ⟨b1, b2, fun k hk => ⟨(b3 k hk).1, by rw [dif_tb, (b3 k hk).2]; rfl⟩⟩
        · have : i = l.length := by omega
          subst this
          rw [app_r]
          exact ⟨hK, ⟨c, hKc⟩, fun k hk => ⟨hKT k hk, by rw [dif_tb, hk]; simp⟩⟩
      · rw [app_n] at hj
        intro h1 h3
        rw [app_l (show i < l.length by omega)] at h1
        by_cases ej : j < l.length
        · rw [app_l ej] at h3
          exact a5 i j hij ej k h1 h3
        · have : j = l.length := by omega
          subst this
          rw [app_r] at h3
          have := ((a4 i (by omega)).2.2 k h1).2
          rw [hKR k h3] at this
          cases this
      · rcases a6 k hk with h | ⟨i, h1, h3⟩
        · cases eK : K.testBit k
          · exact Or.inl (by rw [dif_tb, h, eK]; rfl)
          · exact Or.inr ⟨l.length, by rw [app_n]; omega, by rw [app_r]; exact eK⟩
        · exact Or.inr ⟨i, by rw [app_n]; omega, by rw [app_l h1]; exact h3⟩
theorem hl_end {m w T : Nat} (hd : Dm m w) (hT : T < 2 ^ m) : (hlS m w T m).1 = 0 := by
  have h := hl_inv hd hT m (Nat.le_refl _)
  apply Nat.eq_of_testBit_eq
  intro i
  rw [Nat.zero_testBit]
  cases e : (hlS m w T m).1.testBit i
  · rfl
  · have h1 := tb_m hT (h.1.1 i e)
    rw [h.2.1 i h1] at e
    cases e
theorem HL_len {m w T : Nat} (hd : Dm m w) (hT : T < 2 ^ m) : (HL m w T).length ≤ 8 := by
  have := (hl_inv hd hT m (Nat.le_refl _)).2.2.1
  unfold HL
  omega
theorem HL_lt {m w T i : Nat} (hd : Dm m w) (hT : T < 2 ^ m) (hi : i < (HL m w T).length) : (HL m w T).getD i 0 < 2 ^ m := ((hl_inv hd hT m (Nat.le_refl _)).2.2.2.1 i hi).1
theorem HL_sub {m w T i k : Nat} (hd : Dm m w) (hT : T < 2 ^ m) (hi : i < (HL m w T).length) (h : ((HL m w T).getD i 0).testBit k = true) : T.testBit k = true := (((hl_inv hd hT m (Nat.le_refl _)).2.2.2.1 i hi).2.2 k h).1
theorem HL_dis {m w T i j k : Nat} (hd : Dm m w) (hT : T < 2 ^ m) (hi : i < (HL m w T).length) (hj : j < (HL m w T).length) (h1 : ((HL m w T).getD i 0).testBit k = true) (h2 : ((HL m w T).getD j 0).testBit k = true) : i = j := by
  have h := (hl_inv hd hT m (Nat.le_refl _)).2.2.2.2.1
  rcases Nat.lt_trichotomy i j with z | z | z
  · exact absurd (h i j z hj k h1 h2) id
  · exact z
  · exact absurd (h j i z hi k h2 h1) id
theorem HL_cov {m w T k : Nat} (hd : Dm m w) (hT : T < 2 ^ m) (h : T.testBit k = true) : ∃ i, i < (HL m w T).length ∧ ((HL m w T).getD i 0).testBit k = true := by
  rcases (hl_inv hd hT m (Nat.le_refl _)).2.2.2.2.2 k h with h | h
  · rw [hl_end hd hT, Nat.zero_testBit] at h; cases h
  · exact h
