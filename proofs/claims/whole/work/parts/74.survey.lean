/-! ===== both programs find the holes ===== -/
theorem hlS_t {m w T c : Nat} (h : (hlS m w T c).1.testBit c = true) : hlS m w T (c + 1) = (dif (hlS m w T c).1 (clo m w T (2 ^ c)), (hlS m w T c).2 ++ [clo m w T (2 ^ c)]) := by
  rw [hlS, if_pos h]
theorem hlS_f {m w T c : Nat} (h : (hlS m w T c).1.testBit c = false) : hlS m w T (c + 1) = hlS m w T c := by
  rw [hlS, if_neg (by rw [h]; exact Bool.false_ne_true)]
theorem hlS_lt {m w T c : Nat} (hd : Dm m w) (hT : T < 2 ^ m) (hc : c ≤ m) : (hlS m w T c).1 < 2 ^ m := by
  apply Nat.lt_pow_two_of_testBit
  intro i hi
  cases e : (hlS m w T c).1.testBit i
  · rfl
  · have := (hl_inv hd hT c hc).1.1 i e
    rw [tb_lt hT hi] at this
    cases this
def HolesIn (M : Mem) (p : Nat) (l : List Nat) : Prop := ∀ i, i < l.length → gI M p i = nI (l.getD i 0)
theorem HolesIn.app {M : Mem} {p x : Nat} {l : List Nat} (h : HolesIn M p l) : HolesIn (sI M p l.length (nI x)) p (l ++ [x]) := by
  intro i hi
  rw [app_n] at hi
  rw [gI_sI]
  by_cases e : i = l.length
  · subst e
    rw [if_pos ⟨rfl, rfl⟩, app_r]
  · rw [if_neg (fun z => e z.2), app_l (by omega), h i (by omega)]
theorem findHoles_eq {N : Mem} {m w T p : Nat} (hd : Dm m w) (h0 : gI N 0 11 = nI m) (h1 : gI N 0 10 = nI w) (hT : T < 2 ^ m) (hp : 0 ≠ p) (ha : alM p = 8) : ∃ N', F_X9_findHoles N (nI T) p = some (nI (HL m w T).length, N') ∧ HolesIn N' p (HL m w T) ∧ (∀ q k, q ≠ p → gI N' q k = gI N q k) ∧ ∀ q k, gJ N' q k = gJ N q k := by
  have hle := hd.le
  have hT16 := lt16 hd hT
  obtain ⟨r, e1, N', e2, e3⟩ := loop_inv (f := X9_findHoles_L8 (nI T) p) (fun c st => ∃ N', st = (nI (hlS m w T c).1, nI (hlS m w T c).2.length, nI c, N') ∧ HolesIn N' p (hlS m w T c).2 ∧ (∀ q k, q ≠ p → gI N' q k = gI N q k) ∧ ∀ q k, gJ N' q k = gJ N q k) (fun r => ∃ N', r = (nI (HL m w T).length, N') ∧ HolesIn N' p (HL m w T) ∧ (∀ q k, q ≠ p → gI N' q k = gI N q k) ∧ ∀ q k, gJ N' q k = gJ N q k) m (fun c st hc hst => by
    obtain ⟨N', e, f1, f2, f3⟩ := hst
    subst e
    rw [X9_findHoles_L8, f2 0 11 hp, h0]
    by_cases ec : c = m
    · subst ec
      rw [if_pos (nI_le (Nat.le_refl _) (by omega))]
      exact Or.inr ⟨_, rfl, N', rfl, f1, f2, f3⟩
    · have hb := lt16 hd (hlS_lt hd hT hc)
      rw [if_neg (nI_nleN (by omega) (by omega))]
      refine Or.inl ⟨by omega, ?_⟩
      cases e : (hlS m w T c).1.testBit c
      · rw [bd1e (mhas_f (by omega) (by omega) e), if_pos rfl, lets, nI_1]
        exact ⟨_, rfl, N', by rw [hlS_f e], by rw [hlS_f e]; exact f1, f2, f3⟩
      · have hn := (hl_inv hd hT (c + 1) (by omega)).2.2.1
        rw [hlS_t e] at hn
        have hn : ((hlS m w T c).2 ++ [clo m w T (2 ^ c)]).length + _ ≤ 8 := hn
        rw [app_n] at hn
        rw [bd1e (mhas_t (by omega) (by omega) e), if_neg (by decide), bd1e (grown_eq hd ((f2 0 11 hp).trans h0) ((f2 0 10 hp).trans h1) hT16 (by omega)), ha, chk_pos (inb_nI (by omega) (by decide)), lets, chk_pos (inb_nI (by omega) (by decide)), clN (by omega), gI_same]
        simp only [lets]
        rw [nI_1, nI_1, nx_dif]
        refine ⟨_, rfl, sI N' p (hlS m w T c).2.length (nI (clo m w T (2 ^ c))), ?_, ?_, fun q k hq => ?_, fun q k => ?_⟩
        · rw [hlS_t e, app_n]
        · rw [hlS_t e]
          exact f1.app
        · rw [gI_p hq, f2 q k hq]
        · rw [gJ_sI, f3]) (k := FU) (by show m < 200000; omega) (s := (nI T, 0, 0, N)) ⟨N, rfl, fun i hi => absurd hi (Nat.not_lt_zero _), fun _ _ _ => rfl, fun _ _ => rfl⟩
  rw [e2] at e1
  exact ⟨N', e1, e3⟩
theorem LandC.fr {M M' : Mem} {m w : Nat} (h : LandC M m w) (h1 : ∀ k, gI M' 7 k = gI M 7 k) : LandC M' m w := ⟨by rw [h1]; exact h.1, by rw [h1]; exact h.2.1, by rw [h1]; exact h.2.2.1, by rw [h1]; exact h.2.2.2⟩
theorem surv_loop {m w T p : Nat} (hd : Dm m w) (hT : T < 2 ^ m) (hp : 7 ≠ p) (hp2 : 7 ≠ p + 2) : ∀ j c, c + j = m → ∀ k, j < k → ∀ M, LandC M m w → HolesIn M (p + 2) (hlS m w T c).2 → gI M p 3 = nI (hlS m w T c).2.length → ∃ M', loop (X1_survey_L32 p) k (nI (hlS m w T c).1, nI (hlS m w T c).2.length, M) = some M' ∧ gI M' p 3 = nI (HL m w T).length ∧ HolesIn M' (p + 2) (HL m w T) ∧ (∀ q x, q ≠ p + 2 → ¬ (q = p ∧ x = 3) → gI M' q x = gI M q x) ∧ ∀ q x, gJ M' q x = gJ M q x := by
  have hle := hd.le
  intro j
  induction j with
  | zero =>
    intro c hc k hk M hl hh h3
    have : c = m := by omega
    subst this
    obtain ⟨k', rfl⟩ : ∃ k', k = k' + 1 := ⟨k - 1, by omega⟩
    refine ⟨M, ?_, h3, hh, fun _ _ _ _ => rfl, fun _ _ => rfl⟩
    apply loop_en
    rw [hl_end hd hT, X1_survey_L32]
    split
    · rfl
    · rw [if_pos (show nI 0 = 0 from rfl)]
  | succ j ih =>
    intro c hc k hk M hl hh h3
    cases e : (hlS m w T c).1.testBit c
    · have := ih (c + 1) (by omega) k (by omega) M hl
      rw [hlS_f e] at this
      exact this hh h3
    · obtain ⟨k', rfl⟩ : ∃ k', k = k' + 1 := ⟨k - 1, by omega⟩
      have hI := hl_inv hd hT c (by omega)
      have hR := hlS_lt hd hT (show c ≤ m by omega)
      have hR16 := lt16 hd hR
      have hn := (hl_inv hd hT (c + 1) (by omega)).2.2.1
      rw [hlS_t e] at hn
      have hn : ((hlS m w T c).2 ++ [clo m w T (2 ^ c)]).length + _ ≤ 8 := hn
      rw [app_n] at hn
      have hne : ¬ nI (hlS m w T c).1 = 0 := fun z => by
        have := (nI_eq (a := (hlS m w T c).1) (b := 0) (by omega) (by decide)).mp z
        rw [this, Nat.zero_testBit] at e
        cases e
      have hK : F_X2_hangingWith M (nI (hlS m w T c).1 &&& (-(nI (hlS m w T c).1))) (nI (hlS m w T c).1) = some (nI (clo m w T (2 ^ c))) := by
        rw [nx_low (by omega) e hI.2.1, hang_eq hd hl hR, sub_and (two_sub e), hI.1.cl hd (two_sub e)]
      have hst : X1_survey_L32 p (nI (hlS m w T c).1, nI (hlS m w T c).2.length, M) = some (.inl (nI (hlS m w T (c + 1)).1, nI (hlS m w T (c + 1)).2.length, sI (sI M (p + 2) (hlS m w T c).2.length (nI (clo m w T (2 ^ c)))) p 3 (nI (hlS m w T (c + 1)).2.length))) := by
        rw [X1_survey_L32, if_neg (nI_nleN (by omega) (by decide)), if_neg hne, bd1e hK, chk_pos (inb_nI (by omega) (by decide)), lets, chk_pos (inb_nI (by omega) (by decide)), clN (by omega), gI_same]
        simp only [lets]
        rw [nI_1, nx_dif, hlS_t e, app_n]
      rw [loop_st hst]
      obtain ⟨M', g1, g2, g3, g4, g5⟩ := ih (c + 1) (by omega) k' (by omega) (sI (sI M (p + 2) (hlS m w T c).2.length (nI (clo m w T (2 ^ c)))) p 3 (nI (hlS m w T (c + 1)).2.length)) (hl.fr (fun x => by rw [gI_p hp, gI_p hp2])) (by
        intro i hi
        rw [gI_p (by omega)]
        rw [hlS_t e] at hi ⊢
        exact hh.app i hi) (gI_same _ _ _ _)
      refine ⟨M', g1, g2, g3, fun q x hq hx => ?_, fun q x => ?_⟩
      · rw [g4 q x hq hx, gI_sI, if_neg hx, gI_p hq]
      · rw [g5, gJ_sI, gJ_sI]
theorem survey_eq {M : Mem} {m w T T0 p : Nat} (hd : Dm m w) (hl : LandC M m w) (hT : T < 2 ^ m) (hT0 : T0 < 2 ^ 31) (hp : 7 ≠ p) (hp2 : 7 ≠ p + 2) (h4 : gI M p 4 = nI T) (h5 : gI M p 5 = nI T0) (h3 : T = T0 → gI M p 3 = nI (HL m w T).length) (hh : T = T0 → HolesIn M (p + 2) (HL m w T)) : ∃ M', F_X1_survey M p = some M' ∧ gI M' p 3 = nI (HL m w T).length ∧ gI M' p 5 = nI T ∧ HolesIn M' (p + 2) (HL m w T) ∧ (∀ q x, q ≠ p + 2 → ¬ (q = p ∧ (x = 3 ∨ x = 5)) → gI M' q x = gI M q x) ∧ ∀ q x, gJ M' q x = gJ M q x := by
  have hle := hd.le
  have hT16 := lt16 hd hT
  unfold F_X1_survey
  rw [h4, h5]
  by_cases e : T = T0
  · rw [if_pos (by rw [e])]
    exact ⟨M, rfl, h3 e, by rw [h5, e], hh e, fun _ _ _ _ => rfl, fun _ _ => rfl⟩
  · rw [if_neg (fun z => e ((nI_eq (by omega) (by omega)).mp z))]
    simp only [lets]
    rw [gI_k (show (4 : Nat) ≠ 3 by decide), gI_k (show (4 : Nat) ≠ 5 by decide), h4]
    obtain ⟨M', g1, g2, g3, g4, g5⟩ := surv_loop hd hT hp hp2 m 0 (by omega) FU (by show m < 200000; omega) (sI (sI M p 5 (nI T)) p 3 0) (hl.fr (fun x => by rw [gI_p hp, gI_p hp])) (fun i hi => absurd hi (Nat.not_lt_zero _)) (gI_same _ _ _ _)
    refine ⟨M', g1, g2, ?_, g3, fun q x hq hx => ?_, fun q x => ?_⟩
    · rw [g4 p 5 (by omega) (by omega), gI_k (by decide), gI_same]
    · rw [g4 q x hq (fun z => hx ⟨z.1, Or.inl z.2⟩), gI_sI, if_neg (fun z => hx ⟨z.1, Or.inl z.2⟩), gI_sI, if_neg (fun z => hx ⟨z.1, Or.inr z.2⟩)]
    · rw [g5, gJ_sI, gJ_sI]
