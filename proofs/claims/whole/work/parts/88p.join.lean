/-! ===== join ===== -/
def QJ (m w T c o x : Nat) : Bool := decide (¬ clo m w (T ||| x) (2 ^ c) &&& o = 0)
/-- the best of those that join: fewest cells, then the least number -/
def Cnd (m : Nat) (Q : Nat → Bool) (y : Nat) : Prop := y < 2 ^ m ∧ 1 ≤ pc y ∧ pc y ≤ 4 ∧ Q y = true
def Bst (m : Nat) (Q : Nat → Bool) (x : Nat) : Prop := Cnd m Q x ∧ ∀ y, Cnd m Q y → pc x < pc y ∨ (pc x = pc y ∧ x ≤ y)
theorem Bst_one {m : Nat} {Q : Nat → Bool} {x x' : Nat} (h : Bst m Q x) (h' : Bst m Q x') : x = x' := by
  have h1 := h.2 x' h'.1
  have h2 := h'.2 x h.1
  omega
theorem joinC_in {M : Mem} {m w T c o n : Nat} (hd : Dm m w) (hl : LandC M m w) (h4 : gI M 9 4 = nI T) (hT : T < 2 ^ m) (hc : T.testBit c = true) (ho : o < 2 ^ m) (n1 : 1 ≤ n) (n4 : n ≤ 4) : ∃ r, loop (X8_join_L68 M (nI (clo m w T (2 ^ c))) (nI o) (nI n)) FU (nI (2 ^ n - 1), 0) = some r ∧ ((r = .inl () ∧ ∀ y, y < 2 ^ m → pc y = n → QJ m w T c o y = false) ∨ ∃ x, x < 2 ^ m ∧ pc x = n ∧ QJ m w T c o x = true ∧ (∀ y, y < x → pc y = n → QJ m w T c o y = false) ∧ r = .inr (nI n, sI M 0 12 (nI x))) := by
  have hle := hd.le
  have hp16 : 2 ^ m ≤ 2 ^ 16 := Nat.pow_le_pow_right (by decide) hle.1
  refine gsp (f := X8_join_L68 M (nI (clo m w T (2 ^ c))) (nI o) (nI n)) n1 n4 hle.1 (fun x i st => st = (nI x, nI i) ∧ ∀ y, y < x → y < 2 ^ m → pc y = n → QJ m w T c o y = false) (fun r => (r = .inl () ∧ ∀ y, y < 2 ^ m → pc y = n → QJ m w T c o y = false) ∨ ∃ x, x < 2 ^ m ∧ pc x = n ∧ QJ m w T c o x = true ∧ (∀ y, y < x → pc y = n → QJ m w T c o y = false) ∧ r = .inr (nI n, sI M 0 12 (nI x))) (fun x i st hx hpc hi hlow hst => ?_) (fun x i st hx hx17 hi hst => ?_) ⟨rfl, fun y hy _ hpc => absurd hpc (pc_min hy n4)⟩ (ls_hd n1 n4)
  · obtain ⟨e1, e2⟩ := hst
    subst e1
    have hU : T ||| x < 2 ^ m := or_lt' hT hx
    have hsub : ∀ i, T.testBit i = true → (T ||| x).testBit i = true := fun i h => by rw [Nat.testBit_or, h]; rfl
    have hone : ∀ i, (clo m w T (2 ^ c)).testBit i = true → (T ||| x).testBit i = true := fun i h => hsub i (clo_in hd (two_sub hc) i h)
    have h2m : 2 ^ c < 2 ^ m := Nat.pow_lt_pow_right (by decide) (tb_m hT hc)
    have hclt := clo_lt (m := m) (w := w) h2m hU
    have hF : F_X2_hangingWith M (nI (clo m w T (2 ^ c))) (gI M 9 4 ||| nI x) = some (nI (clo m w (T ||| x) (2 ^ c))) := by
      rw [h4, nx_or, hang_eq hd hl hU, sub_and hone, clo_one hd hT hU hsub hc]
    have hlt : clo m w (T ||| x) (2 ^ c) &&& o < 2 ^ m := and_lt_l hclt
    rw [X8_join_L68, if_neg (nI_nleN hi (by decide)), hl.1, nx_one (by omega), if_neg (nI_nleN hx (by omega)), bd1e hF, nx_and]
    by_cases z : clo m w (T ||| x) (2 ^ c) &&& o = 0
    · have hQ : QJ m w T c o x = false := decide_eq_false (fun y => y z)
      rw [z, if_pos e00, bd1e (nextSet_eq (by omega) hlow), lets, nI_1]
      refine Or.inl ⟨_, rfl, fun hgap => ⟨rfl, fun y hy hym hpy => ?_⟩⟩
      have := hgap y (by omega) hpy hy
      by_cases ey : y = x
      · subst ey; exact hQ
      · exact e2 y (by omega) hym hpy
    · rw [if_neg (nI_ne0 (by omega) (by omega)), lets]
      exact Or.inr ⟨_, rfl, Or.inr ⟨x, hx, hpc, decide_eq_true z, fun y hy hpy => e2 y hy (by omega) hpy, rfl⟩⟩
  · obtain ⟨e1, e2⟩ := hst
    subst e1
    rw [X8_join_L68, hl.1, nx_one (by omega)]
    refine ⟨_, ?_, Or.inl ⟨rfl, fun y hy hpy => e2 y (by omega) hy hpy⟩⟩
    by_cases ei : 1820 ≤ i
    · rw [if_pos (nI_le ei (by omega))]
    · rw [if_neg (nI_nleN (by omega) (by decide)), if_pos (nI_le hx (by omega))]
theorem joinC {M : Mem} {m w T c o : Nat} (hd : Dm m w) (hl : LandC M m w) (h4 : gI M 9 4 = nI T) (hT : T < 2 ^ m) (hc : T.testBit c = true) (ho : o < 2 ^ m) : ∃ r, loop (X8_join_L51 M (nI (clo m w T (2 ^ c))) (nI o)) FU 1 = some r ∧ ((r = (-9, M) ∧ ∀ y, ¬ Cnd m (QJ m w T c o) y) ∨ ∃ x, Bst m (QJ m w T c o) x ∧ r = (nI (pc x), sI M 0 12 (nI x))) := by
  refine loop_inv (f := X8_join_L51 M (nI (clo m w T (2 ^ c))) (nI o)) (fun i st => st = nI (i + 1) ∧ ∀ y, y < 2 ^ m → 1 ≤ pc y → pc y ≤ i → QJ m w T c o y = false) (fun r => (r = (-9, M) ∧ ∀ y, ¬ Cnd m (QJ m w T c o) y) ∨ ∃ x, Bst m (QJ m w T c o) x ∧ r = (nI (pc x), sI M 0 12 (nI x))) 4 (fun i st hi hst => ?_) (by decide) ⟨rfl, fun y _ h1 h2 => by omega⟩
  obtain ⟨e1, e2⟩ := hst
  subst e1
  by_cases ei : i = 4
  · subst ei
    rw [X8_join_L51, if_pos (nI_lt (by decide) (by decide))]
    refine Or.inr ⟨_, rfl, Or.inl ⟨rfl, fun y hy => ?_⟩⟩
    have := e2 y hy.1 hy.2.1 hy.2.2.1
    rw [hy.2.2.2] at this
    cases this
  · have hn : 2 ^ (i + 1) ≤ 2 ^ 4 := Nat.pow_le_pow_right (by decide) (by omega)
    have hp := Nat.two_pow_pos (i + 1)
    obtain ⟨r, a1, a2⟩ := joinC_in hd hl h4 hT hc ho (show 1 ≤ i + 1 by omega) (show i + 1 ≤ 4 by omega)
    rw [X8_join_L51, if_neg (nI_nlt (by omega) (by decide)), nx_one (by omega), show (1 : Int32) = nI 1 from rfl, nI_subN hp, lets, bd1e a1]
    rcases a2 with ⟨rfl, a2⟩ | ⟨x, b1, b2, b3, b4, rfl⟩
    · rw [se_l, un0_e, lets, nI_add]
      refine Or.inl ⟨by omega, _, rfl, rfl, fun y hy h1 h2 => ?_⟩
      by_cases ey : pc y = i + 1
      · exact a2 y hy ey
      · exact e2 y hy h1 (by omega)
    · rw [se_r, un2_e]
      refine Or.inr ⟨_, rfl, Or.inr ⟨x, ⟨⟨b1, by omega, by omega, b3⟩, fun y hy => ?_⟩, by rw [b2]⟩⟩
      rcases Nat.lt_trichotomy (pc x) (pc y) with z | z | z
      · exact Or.inl z
      · refine Or.inr ⟨z, ?_⟩
        rcases Nat.lt_or_ge y x with z2 | z2
        · have := b4 y z2 (by omega)
          rw [hy.2.2.2] at this
          cases this
        · exact z2
      · have := e2 y hy.1 hy.2.1 (by omega)
        rw [hy.2.2.2] at this
        cases this
/- the model: only flat cells are dug -/
def CndF (F : Nat) (Q : Nat → Bool) (y : Nat) : Prop := (∀ i, y.testBit i = true → F.testBit i = true) ∧ pc y ≤ 4 ∧ Q y = true
theorem dif_le (a b : Nat) : dif a b ≤ a := by
  have h := sub_and (s := dif a b) (T := a) (fun i hi => by rw [dif_tb, Bool.and_eq_true] at hi; exact hi.1)
  rw [← h]
  exact Nat.and_le_right
theorem pc_mono {s t : Nat} (h : ∀ i, s.testBit i = true → t.testBit i = true) : pc s ≤ pc t := sm_mono (fun i _ => by
  cases e : s.testBit i
  · simp
  · simp [h i e])
theorem sub_le {s t : Nat} (h : ∀ i, s.testBit i = true → t.testBit i = true) : s ≤ t := by
  rw [← sub_and h]
  exact Nat.and_le_right
theorem dif_0 {y F : Nat} : dif y F = 0 ↔ ∀ i, y.testBit i = true → F.testBit i = true := by
  constructor
  · intro h i hi
    have : (dif y F).testBit i = false := by rw [h, Nat.zero_testBit]
    rw [dif_tb, hi] at this
    cases e : F.testBit i
    · rw [e] at this; cases this
    · rfl
  · intro h
    apply Nat.eq_of_testBit_eq
    intro i
    rw [dif_tb, Nat.zero_testBit]
    cases e : y.testBit i
    · rfl
    · rw [h i e]; rfl
theorem BstF_Bst {m w T c o x : Nat} (hd : Dm m w) (hT : T < 2 ^ m) (h0 : QJ m w T c o 0 = false) (hx : CndF (dif (2 ^ m - 1) T) (QJ m w T c o) x) (hmin : ∀ y, CndF (dif (2 ^ m - 1) T) (QJ m w T c o) y → pc x < pc y ∨ (pc x = pc y ∧ x ≤ y)) : Bst m (QJ m w T c o) x := by
  have hle := hd.le
  have hF : ∀ i, (dif (2 ^ m - 1) T).testBit i = true ↔ i < m ∧ T.testBit i = false := fun i => by
    rw [dif_tb, Nat.testBit_two_pow_sub_one, Bool.and_eq_true, decide_eq_true_iff]
    cases T.testBit i <;> simp
  have hx2 : x < 2 ^ m := by
    apply Nat.lt_pow_two_of_testBit
    intro i hi
    cases e : x.testBit i
    · rfl
    · have := (hF i).mp (hx.1 i e)
      omega
  refine ⟨⟨hx2, ?_, hx.2.1, hx.2.2⟩, fun y hy => ?_⟩
  · rcases Nat.eq_zero_or_pos (pc x) with z | z
    · have := pc_0 (lt16 hd hx2) z
      have h3 := hx.2.2
      rw [this, h0] at h3
      cases h3
    · exact z
  · have hU : T ||| dif y T = T ||| y := by
      apply Nat.eq_of_testBit_eq
      intro i
      rw [Nat.testBit_or, Nat.testBit_or, dif_tb]
      cases T.testBit i <;> cases y.testBit i <;> rfl
    have hsub : ∀ i, (dif y T).testBit i = true → y.testBit i = true := fun i hi => by rw [dif_tb, Bool.and_eq_true] at hi; exact hi.1
    have hpc := pc_mono hsub
    have hle2 := dif_le y T
    have := hmin (dif y T) ⟨fun i hi => (hF i).mpr ⟨tb_m hy.1 (hsub i hi), by
      rw [dif_tb, Bool.and_eq_true] at hi
      cases e : T.testBit i
      · rfl
      · rw [e] at hi; cases hi.2⟩, by have := hy.2.2.1; omega, by
      have := hy.2.2.2
      unfold QJ at this ⊢
      rw [hU]
      exact this⟩
    omega
theorem nI_dn (k : Nat) : nI (k + 1) - 1 + (-1) = nI k - 1 := by
  rw [nI_pred]
  rw [Int32.sub_eq_add_neg]
theorem joinM {N : Mem} {m w T c o j : Nat} (hd : Dm m w) (h0 : gI N 0 11 = nI m) (h1 : gI N 0 10 = nI w) (hT : T < 2 ^ m) (hc : c < 16) (hj : j < 8) (h11 : gI N 11 j = nI o) (ho : o < 2 ^ m) : ∃ r, loop (X9_join_L71 N (nI j) (nI T) (nI (dif (2 ^ m - 1) T)) (nI c)) FU (-9, nI (dif (2 ^ m - 1) T)) = some r ∧ ((r = -9 ∧ ∀ y, ¬ CndF (dif (2 ^ m - 1) T) (QJ m w T c o) y) ∨ ∃ x, r = nI x ∧ CndF (dif (2 ^ m - 1) T) (QJ m w T c o) x ∧ ∀ y, CndF (dif (2 ^ m - 1) T) (QJ m w T c o) y → pc x < pc y ∨ (pc x = pc y ∧ x ≤ y)) := by
  have hle := hd.le
  have hp16 : 2 ^ m ≤ 2 ^ 16 := Nat.pow_le_pow_right (by decide) hle.1
  have hFm : dif (2 ^ m - 1) T < 2 ^ m := dif_lt (by have := Nat.two_pow_pos m; omega)
  generalize hFe : dif (2 ^ m - 1) T = F at hFm
  have hQ0 : ∀ x, x ≤ F → F_X9_grown N (nI T ||| nI x) (nI c) = some (nI (clo m w (T ||| x) (2 ^ c))) := fun x hx => by
    rw [nx_or, grown_eq hd h0 h1 (lt16 hd (or_lt' hT (by omega))) hc]
  refine loop_inv (f := X9_join_L71 N (nI j) (nI T) (nI F) (nI c)) (fun i st => st.2 = nI (F + 1 - i) - 1 ∧ ((st.1 = -9 ∧ ∀ y, F < y + i → ¬ CndF F (QJ m w T c o) y) ∨ ∃ x, st.1 = nI x ∧ x ≤ F ∧ CndF F (QJ m w T c o) x ∧ ∀ y, F < y + i → CndF F (QJ m w T c o) y → pc x < pc y ∨ (pc x = pc y ∧ x ≤ y))) (fun r => (r = -9 ∧ ∀ y, ¬ CndF F (QJ m w T c o) y) ∨ ∃ x, r = nI x ∧ CndF F (QJ m w T c o) x ∧ ∀ y, CndF F (QJ m w T c o) y → pc x < pc y ∨ (pc x = pc y ∧ x ≤ y)) (F + 1) (fun i st hi hst => ?_) (by show F + 1 < 200000; omega) ⟨by rw [Nat.sub_zero, nI_pred], Or.inl ⟨rfl, fun y hy hC => by have := sub_le hC.1; omega⟩⟩
  obtain ⟨b, v⟩ := st
  obtain ⟨e1, e2⟩ := hst
  have e1 : v = nI (F + 1 - i) - 1 := e1
  subst e1
  have e2 : (b = -9 ∧ ∀ y, F < y + i → ¬ CndF F (QJ m w T c o) y) ∨ ∃ x, b = nI x ∧ x ≤ F ∧ CndF F (QJ m w T c o) x ∧ ∀ y, F < y + i → CndF F (QJ m w T c o) y → pc x < pc y ∨ (pc x = pc y ∧ x ≤ y) := e2
  by_cases ei : i = F + 1
  · subst ei
    rw [X9_join_L71, Nat.sub_self, if_pos (show nI 0 - 1 < 0 by decide)]
    refine Or.inr ⟨_, rfl, ?_⟩
    rcases e2 with ⟨z1, z2⟩ | ⟨x, z1, z2, z3, z4⟩
    · exact Or.inl ⟨z1, fun y => z2 y (by omega)⟩
    · exact Or.inr ⟨x, z1, z3, fun y => z4 y (by omega)⟩
  · obtain ⟨k, hk⟩ : ∃ k, F + 1 - i = k + 1 := ⟨F - i, by omega⟩
    have hk2 : F + 1 - (i + 1) = k := by omega
    have hkF : k ≤ F := by omega
    refine Or.inl ⟨by omega, ?_⟩
    -- skipping: k is no candidate that is taken
    have skip : (∀ x, b = nI x → x ≤ F → CndF F (QJ m w T c o) k → pc x < pc k) → (b = -9 → ¬ CndF F (QJ m w T c o) k) → ∃ s', (some (.inl (b, nI k - 1)) : Option ((Int32 × Int32) ⊕ Int32)) = some (.inl s') ∧ (fun (i : Nat) (st : Int32 × Int32) => st.2 = nI (F + 1 - i) - 1 ∧ ((st.1 = -9 ∧ ∀ y, F < y + i → ¬ CndF F (QJ m w T c o) y) ∨ ∃ x, st.1 = nI x ∧ x ≤ F ∧ CndF F (QJ m w T c o) x ∧ ∀ y, F < y + i → CndF F (QJ m w T c o) y → pc x < pc y ∨ (pc x = pc y ∧ x ≤ y))) (i + 1) s' := by
      intro s1 s2
      refine ⟨_, rfl, by rw [hk2], ?_⟩
      rcases e2 with ⟨z1, z2⟩ | ⟨x, z1, z2, z3, z4⟩
      · refine Or.inl ⟨z1, fun y hy hC => ?_⟩
        by_cases ey : y = k
        · subst ey; exact s2 z1 hC
        · exact z2 y (by omega) hC
      · refine Or.inr ⟨x, z1, z2, z3, fun y hy hC => ?_⟩
        by_cases ey : y = k
        · subst ey; exact Or.inl (s1 x z1 z2 hC)
        · exact z4 y (by omega) hC
    have take : CndF F (QJ m w T c o) k → (∀ x, b = nI x → x ≤ F → CndF F (QJ m w T c o) x → pc k ≤ pc x) → ∃ s', (some (.inl (nI k, nI k - 1)) : Option ((Int32 × Int32) ⊕ Int32)) = some (.inl s') ∧ (fun (i : Nat) (st : Int32 × Int32) => st.2 = nI (F + 1 - i) - 1 ∧ ((st.1 = -9 ∧ ∀ y, F < y + i → ¬ CndF F (QJ m w T c o) y) ∨ ∃ x, st.1 = nI x ∧ x ≤ F ∧ CndF F (QJ m w T c o) x ∧ ∀ y, F < y + i → CndF F (QJ m w T c o) y → pc x < pc y ∨ (pc x = pc y ∧ x ≤ y))) (i + 1) s' := by
      intro hC s1
      refine ⟨_, rfl, by rw [hk2], Or.inr ⟨k, rfl, hkF, hC, fun y hy hCy => ?_⟩⟩
      by_cases ey : y = k
      · subst ey; exact Or.inr ⟨rfl, Nat.le_refl _⟩
      · rcases e2 with ⟨z1, z2⟩ | ⟨x, z1, z2, z3, z4⟩
        · exact absurd hCy (z2 y (by omega))
        · have h2 := s1 x z1 z2 z3
          have h3 := z4 y (by omega) hCy
          omega
    have hx7 : nI (k + 1) - 1 + (-1) = nI k - 1 := nI_dn k
    rw [nI_pred] at hx7
    rw [hk, nI_pred, X9_join_L71, if_neg (nneg k (by omega)), nx_dif]
    have hdl : dif k F < 2 ^ 16 := dif_lt (by omega)
    have hk16 : k < 2 ^ 16 := by omega
    have hpk := pc_le k
    by_cases hd0 : dif k F = 0
    · rw [hd0, if_pos e00, bd1e (msize hk16), X9_join_J97]
      have hsub := dif_0.mp hd0
      by_cases h4 : pc k ≤ 4
      · rw [if_neg (nI_nlt h4 (by decide))]
        have hclt := clo_lt (m := m) (w := w) (T := T ||| k) (s := 2 ^ c) (n := 16) (Nat.pow_lt_pow_right (by decide) hc) (lt16 hd (or_lt' hT (by omega)))
        have hlt : clo m w (T ||| k) (2 ^ c) &&& o < 2 ^ 16 := and_lt_l hclt
        have hJ : X9_join_J122 N (nI j) (nI T) (nI F) (nI c) b (nI k) = if QJ m w T c o k then some (.inl (nI k, nI k - 1)) else some (.inl (b, nI k - 1)) := by
          rw [X9_join_J122, bd1e (hQ0 k hkF), chk_pos (inb_nI hj (by decide)), clN (by omega), h11, nx_and, hx7]
          unfold QJ
          by_cases z : clo m w (T ||| k) (2 ^ c) &&& o = 0
          · rw [z, if_pos e00, decide_eq_false (fun y => y rfl), if_neg (by decide), lets]
          · rw [if_neg (nI_ne0 (by omega) (by omega)), decide_eq_true z, if_pos rfl, lets]
        rcases e2 with ⟨z1, z2⟩ | ⟨x, z1, z2, z3, z4⟩
        · rw [if_pos z1, hJ]
          cases hq : QJ m w T c o k
          · rw [if_neg (by decide)]
            exact skip (fun x hx _ hC => by rw [hC.2.2] at hq; cases hq) (fun _ hC => by rw [hC.2.2] at hq; cases hq)
          · rw [if_pos rfl]
            exact take ⟨hsub, h4, hq⟩ (fun x hx h2 _ => by
              exfalso
              rw [z1] at hx
              have := nneg x (by omega)
              rw [← hx] at this
              exact this (by decide))
        · have hb9 : ¬ b = -9 := fun y => by
            rw [z1] at y
            have := nneg x (by omega)
            rw [y] at this
            exact this (by decide)
          have hx16 : x < 2 ^ 16 := by omega
          have hpx := pc_le x
          rw [if_neg hb9, z1, bd1e (msize hx16), ← z1]
          by_cases h5 : pc x < pc k
          · rw [if_pos (nI_lt h5 (by omega)), hx7, lets]
            refine skip (fun x' hx' hl' _ => ?_) (fun y => absurd y hb9)
            have : x' = x := by
              rw [z1] at hx'
              exact ((nI_eq (by omega) (by omega)).mp hx').symm
            rw [this]
            exact h5
          · rw [if_neg (nI_nlt (by omega) (by omega)), hJ]
            cases hq : QJ m w T c o k
            · rw [if_neg (by decide)]
              exact skip (fun x hx _ hC => by rw [hC.2.2] at hq; cases hq) (fun y => absurd y hb9)
            · rw [if_pos rfl]
              refine take ⟨hsub, h4, hq⟩ (fun x' hx' hl' _ => ?_)
              have : x' = x := by
                rw [z1] at hx'
                exact ((nI_eq (by omega) (by omega)).mp hx').symm
              rw [this]
              omega
      · rw [if_pos (nI_lt (by omega) (by omega)), hx7, lets]
        exact skip (fun x hx _ hC => absurd hC.2.1 h4) (fun _ hC => h4 hC.2.1)
    · rw [if_neg (nI_ne0 (by omega) (by omega)), X9_join_J97, if_pos (by decide), hx7, lets]
      exact skip (fun x hx _ hC => absurd (dif_0.mpr hC.1) hd0) (fun _ hC => hd0 (dif_0.mpr hC.1))
theorem op_join {lw : Nat → Option Nat} (tl tt : Option Nat) {M N : Mem} {t : Nat} (ht : t ≤ 3100) (h : Rel t lw M N) (a1 : Int32) (a2 : Int32) : ∃ (r : Int32) (M' : Mem) (N' : Mem), F_X8_join M a1 a2 = some (r, M') ∧ F_X9_join N a1 a2 = some (r, N') ∧ Rel (t + 1) lw M' N' := by
  obtain ⟨m, w, gd, d, e, hd, hw, he, hl, hg, hm, -⟩ := h.core
  have hle := hd.le
  have hlc := hl.c
  obtain ⟨l1, l2, l3, l4, l5, l6, l7, l8, l9⟩ := hl
  obtain ⟨g1, g2, g3, g4, g5, g6, g7⟩ := hg
  have hT := dg_lt hd hw
  have hT16 := lt16 hd hT
  have hlen := HL_len hd hT
  obtain ⟨N', f1, f2, f3, f4, f5⟩ := layHoles_eq hd l3 l4 hw hm.1
  have hR := h.lay f4 f5
  rcases cut (HL m w (dg d)).length (by omega) a1 with z | ⟨i, hi, rfl⟩
  · have e1 : F_X9_isHole N a1 = some (0, N') := by rw [F_X9_isHole, bd1e f1, f2, bd1e (in_size (by omega) z), chk_pos (Or.inl rfl)]
    exact ⟨-1, M, N', by rw [F_X8_join, bd1e (ghas_no g4 z), if_pos rfl], by rw [F_X9_join, bd2e e1, if_pos rfl], hR.up⟩
  · have e1 : F_X9_isHole N (nI i) = some (1, N') := by rw [F_X9_isHole, bd1e f1, f2, bd1e (in_sizeI (by omega) hi), chk_pos (Or.inr rfl)]
    rcases cut (HL m w (dg d)).length (by omega) a2 with z | ⟨j, hj, rfl⟩
    · exact ⟨-1, M, N', by rw [F_X8_join, bd1e (ghas_in g4 (by omega) hi), if_neg n10, bd1e (ghas_no g4 z), if_pos rfl], by rw [F_X9_join, bd2e e1, if_neg n10, f2, bd1e (in_size (by omega) z), if_pos rfl], hR.up⟩
    · by_cases eij : i = j
      · subst eij
        exact ⟨-1, M, N', by rw [F_X8_join, bd1e (ghas_in g4 (by omega) hi), if_neg n10, bd1e (ghas_in g4 (by omega) hi), if_neg n10, if_pos rfl], by rw [F_X9_join, bd2e e1, if_neg n10, f2, bd1e (in_sizeI (by omega) hi), if_neg n10, if_pos rfl], hR.up⟩
      · obtain ⟨c, c1, c2, c3, c4⟩ := HL_low hd hT hi
        have hs := HL_lt hd hT hi
        have ho := HL_lt hd hT hj
        have hdis : ((HL m w (dg d)).getD i 0) &&& ((HL m w (dg d)).getD j 0) = 0 := and_0 (fun k h1 h2 => eij (HL_dis hd hT hi hj h1 h2))
        have hb1 := bitsOf_in (p := 9) g4 hlen g5 hi
        have hb2 := bitsOf_in (p := 9) g4 hlen g5 hj
        have h11 := f3 i hi
        have h11' := f3 j hj
        rw [c2] at hs hdis hb1 h11 c4
        have hcb : (clo m w (dg d) (2 ^ c)).testBit c = true := clo_sub (by rw [tb_two]; exact decide_eq_true rfl)
        generalize (HL m w (dg d)).getD j 0 = o at ho hdis hb2 h11'
        have q0 : gI N' 0 11 = nI m := by rw [f4 0 11 (by decide) (by decide)]; exact l3
        have q1 : gI N' 0 10 = nI w := by rw [f4 0 10 (by decide) (by decide)]; exact l4
        have q7 : ∀ c, c < 16 → gI N' 7 c = nI (d c) := fun c hc => by rw [f4 7 _ (by decide) (by omega)]; exact hm.1 c hc
        have hdug : F_X9_dugIn N' 7 0 = some (nI (dg d)) := dugIn_eq (p := 7) (b := 0) (by decide) (by decide) (fun c hc => by rw [Nat.zero_add]; exact q7 c hc) hw.1
        have hQ0 : QJ m w (dg d) c o 0 = false := by
          unfold QJ
          rw [Nat.or_zero, hdis]
          rfl
        obtain ⟨r, x1, x2⟩ := joinC hd hlc g2 hT c3 ho
        obtain ⟨r', y1, y2⟩ := joinM (N := N') (c := c) (o := o) (j := j) hd q0 q1 hT (by omega) (by omega) h11' ho
        have hp2 := Nat.two_pow_pos m
        have hC : F_X8_join M (nI i) (nI j) = some r := by
          rw [F_X8_join, bd1e (ghas_in g4 (by omega) hi), if_neg n10, bd1e (ghas_in g4 (by omega) hj), if_neg n10, if_neg (fun y => eij ((nI_eq (by omega) (by omega)).mp y)), bd1e hb1, bd1e hb2, x1]
        have hM : F_X9_join N (nI i) (nI j) = (if r' = (-9) then some ((-9), N') else bd1 (F_X9_sizeOf r') fun r_29 => bd2 (F_X9_ask N' r' r_29) fun r_31 M_32 => some (r_31, M_32)) := by
          rw [F_X9_join, bd2e e1, if_neg n10, f2, bd1e (in_sizeI (by omega) hj), if_neg n10, if_neg (fun y => eij ((nI_eq (by omega) (by omega)).mp y)), bd1e hdug, q0, nx_one (by omega), show nI (2 ^ m) - 1 = nI (2 ^ m - 1) from nI_subN (b := 1) hp2, nx_dif, lets, chk_pos (inb_nI (by omega) (by decide)), clN (by omega), h11, bd1e (lowest_eq (lt16 hd hs) hcb c4), bd1e y1]
        rw [hC, hM]
        rcases y2 with ⟨rfl, y2⟩ | ⟨x, rfl, y2, y3⟩
        · rcases x2 with ⟨rfl, x2⟩ | ⟨x, x2, rfl⟩
          · exact ⟨-9, M, N', rfl, by rw [if_pos rfl], hR.up⟩
          · exfalso
            have hU : dg d ||| dif x (dg d) = dg d ||| x := by
              apply Nat.eq_of_testBit_eq
              intro i
              rw [Nat.testBit_or, Nat.testBit_or, dif_tb]
              cases (dg d).testBit i <;> cases x.testBit i <;> rfl
            have hsub : ∀ i, (dif x (dg d)).testBit i = true → x.testBit i = true := fun i hi => by rw [dif_tb, Bool.and_eq_true] at hi; exact hi.1
            refine y2 (dif x (dg d)) ⟨fun i hi => ?_, Nat.le_trans (pc_mono hsub) x2.1.2.2.1, ?_⟩
            · rw [dif_tb, Nat.testBit_two_pow_sub_one, decide_eq_true (tb_m x2.1.1 (hsub i hi)), Bool.true_and]
              rw [dif_tb, Bool.and_eq_true] at hi
              exact hi.2
            · have := x2.1.2.2.2
              unfold QJ at this ⊢
              rw [hU]
              exact this
        · have hB := BstF_Bst hd hT hQ0 y2 y3
          have hx16 := lt16 hd hB.1.1
          rcases x2 with ⟨rfl, x2⟩ | ⟨x', x2, rfl⟩
          · exact absurd hB.1 (x2 x)
          · have := Bst_one hB x2
            subst this
            refine ⟨nI (pc x), _, _, rfl, ?_, hR.ask (nI x)⟩
            rw [if_neg (fun y => by
              have := nneg x (by omega)
              rw [y] at this
              exact this (by decide)), bd1e (msize hx16), bd2e ask_eq]
