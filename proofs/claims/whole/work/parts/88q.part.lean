/-! ===== part ===== -/
theorem bd2p {α β γ : Type} {o : Option (α × β)} {p : α × β} {f : α → β → Option γ} (h : o = some p) : bd2 o f = f p.1 p.2 := by rw [h]; rfl
def PR (m w L : Nat) : Prop := ∃ c, L.testBit c = true ∧ (∀ i, i < c → L.testBit i = false) ∧ clo m w L (2 ^ c) ≠ L
theorem low_ex {L : Nat} (hL : L < 2 ^ 16) (h0 : L ≠ 0) : ∃ c, c < 16 ∧ L.testBit c = true ∧ ∀ i, i < c → L.testBit i = false := by
  have key : ∀ n, (∀ i, i < n → L.testBit i = false) ∨ ∃ c, c < n ∧ L.testBit c = true ∧ ∀ i, i < c → L.testBit i = false := by
    intro n
    induction n with
    | zero => exact Or.inl (fun i hi => absurd hi (Nat.not_lt_zero _))
    | succ n ih =>
      rcases ih with h | ⟨c, h1, h2⟩
      · cases e : L.testBit n
        · refine Or.inl (fun i hi => ?_)
          by_cases ei : i = n
          · subst ei; exact e
          · exact h i (by omega)
        · exact Or.inr ⟨n, by omega, e, h⟩
      · exact Or.inr ⟨c, by omega, h2⟩
  rcases key 16 with h | h
  · obtain ⟨k, h1, h2⟩ := ex_bit hL h0
    rw [h k h1] at h2
    cases h2
  · exact h
theorem low_un {L c c' : Nat} (h1 : L.testBit c = true) (h0 : ∀ i, i < c → L.testBit i = false) (h1' : L.testBit c' = true) (h0' : ∀ i, i < c' → L.testBit i = false) : c = c' := by
  rcases Nat.lt_trichotomy c c' with z | z | z
  · rw [h0' c z] at h1; cases h1
  · exact z
  · rw [h0 c' z] at h1'; cases h1'
theorem partedC {M : Mem} {m w L : Nat} (hd : Dm m w) (hl : LandC M m w) (hL : L < 2 ^ m) : (F_X2_isParted M (nI L) = some 0 ∧ ¬ PR m w L) ∨ (F_X2_isParted M (nI L) = some 1 ∧ PR m w L) := by
  by_cases h0 : L = 0
  · subst h0
    refine Or.inl ⟨parted_0 hd hl, fun ⟨c, h1, _⟩ => ?_⟩
    rw [Nat.zero_testBit] at h1
    cases h1
  · obtain ⟨c, hc, h1, h2⟩ := low_ex (lt16 hd hL) h0
    have h3 := parted_eq hd hl hL h1 h2
    by_cases e : clo m w L (2 ^ c) = L
    · rw [if_pos e] at h3
      refine Or.inl ⟨h3, fun ⟨c', a1, a2, a3⟩ => ?_⟩
      have := low_un h1 h2 a1 a2
      subst this
      exact a3 e
    · rw [if_neg e] at h3
      exact Or.inr ⟨h3, c, h1, h2, e⟩
def CP (m w A y : Nat) : Prop := (∀ i, y.testBit i = true → A.testBit i = true) ∧ 1 ≤ pc y ∧ pc y ≤ 3 ∧ PR m w (dif A y)
/-- the best of some: the least volume, then the least number -/
def Inv (v : Nat → Nat) (S : Nat → Prop) : Option Nat → Prop
  | none => ∀ y, ¬ S y
  | some b => S b ∧ ∀ y, S y → v b < v y ∨ (v b = v y ∧ b ≤ y)
theorem Inv_one {v : Nat → Nat} {S : Nat → Prop} {o o' : Option Nat} (h : Inv v S o) (h' : Inv v S o') : o = o' := by
  cases o with
  | none =>
    cases o' with
    | none => rfl
    | some b => exact absurd h'.1 (h b)
  | some b =>
    cases o' with
    | none => exact absurd h.1 (h' b)
    | some b' =>
      have h1 := h.2 b' h'.1
      have h2 := h'.2 b h.1
      have : b = b' := by omega
      rw [this]
theorem Inv_iff {v : Nat → Nat} {S S' : Nat → Prop} {o : Option Nat} (h : Inv v S o) (hS : ∀ y, S y ↔ S' y) : Inv v S' o := by
  cases o with
  | none => exact fun y hy => h y ((hS y).mpr hy)
  | some b => exact ⟨(hS b).mp h.1, fun y hy => h.2 y ((hS y).mpr hy)⟩
theorem Inv_add {v : Nat → Nat} {S S' : Nat → Prop} {o : Option Nat} {x : Nat} (h : Inv v S o) (hx : S' x) (hS : ∀ y, S' y ↔ S y ∨ y = x) (htake : ∀ b, o = some b → v x < v b ∨ (v x = v b ∧ x ≤ b)) : Inv v S' (some x) := by
  refine ⟨hx, fun y hy => ?_⟩
  rcases (hS y).mp hy with h1 | h1
  · cases o with
    | none => exact absurd h1 (h y)
    | some b =>
      have h2 := htake b rfl
      have h3 := h.2 y h1
      omega
  · subst h1; exact Or.inr ⟨rfl, Nat.le_refl _⟩
theorem Inv_skip {v : Nat → Nat} {S S' : Nat → Prop} {b x : Nat} (h : Inv v S (some b)) (hS : ∀ y, S' y ↔ S y ∨ y = x) (hskip : v b < v x ∨ (v b = v x ∧ b ≤ x)) : Inv v S' (some b) := by
  refine ⟨(hS b).mpr (Or.inl h.1), fun y hy => ?_⟩
  rcases (hS y).mp hy with h1 | h1
  · exact h.2 y h1
  · subst h1; exact hskip
def enC (v : Nat → Nat) : Option Nat → Int32 × Int32
  | none => (-9, 0)
  | some b => (nI (v b), nI b)
def enM (v : Nat → Nat) : Option Nat → Int32 × Int32
  | none => (-9, 1048576)
  | some b => (nI b, nI (v b))
theorem nI_n9 {k : Nat} (h : k < 2 ^ 31) : ¬ nI k = -9 := fun y => by
  have := nneg k h
  rw [y] at this
  exact this (by decide)
theorem partC_in {M : Mem} {m w A n : Nat} {d : Nat → Nat} {o0 : Option Nat} (hd : Dm m w) (hl : LandC M m w) (g1 : ∀ c, c < 16 → gI M 10 c = nI (d c)) (h5 : ∀ c, d c ≤ 5) (hA : A < 2 ^ m) (n1 : 1 ≤ n) (n3 : n ≤ 3) (h0 : Inv (fun y => volN d y 16) (fun y => CP m w A y ∧ pc y < n) o0) : ∃ r, loop (X8_part_L48 M (nI A) (nI n)) FU ((enC (fun y => volN d y 16) o0).1, (enC (fun y => volN d y 16) o0).2, nI (2 ^ n - 1), 0) = some r ∧ ∃ o, r = enC (fun y => volN d y 16) o ∧ Inv (fun y => volN d y 16) (fun y => CP m w A y ∧ pc y < n + 1) o := by
  have hle := hd.le
  have hp16 : 2 ^ m ≤ 2 ^ 16 := Nat.pow_le_pow_right (by decide) hle.1
  have hv : ∀ y, volN d y 16 ≤ 80 := fun y => volN_le h5 16
  have hCA : ∀ y, CP m w A y → y < 2 ^ m := fun y hy => by have := sub_le hy.1; omega
  generalize hve : (fun y => volN d y 16) = v at h0
  have hv' : ∀ y, v y = volN d y 16 := fun y => by rw [← hve]
  refine gsp (f := X8_part_L48 M (nI A) (nI n)) n1 (by omega) hle.1 (fun x i st => ∃ o, st = ((enC v o).1, (enC v o).2, nI x, nI i) ∧ Inv v (fun y => CP m w A y ∧ (pc y < n ∨ (pc y = n ∧ y < x))) o) (fun r => ∃ o, r = enC v o ∧ Inv v (fun y => CP m w A y ∧ pc y < n + 1) o) (fun x i st hx hpc hi hlow hst => ?_) (fun x i st hx hx17 hi hst => ?_) ⟨o0, rfl, Inv_iff h0 (fun y => ⟨fun h => ⟨h.1, Or.inl h.2⟩, fun h => ⟨h.1, h.2.resolve_right (fun z => pc_min z.2 (by omega) z.1)⟩⟩)⟩ (ls_hd n1 (by omega))
  · obtain ⟨o, e1, e2⟩ := hst
    subst e1
    have hx16 : x < 2 ^ 16 := by omega
    have hns := nextSet_eq hx16 hlow
    have hdx : dif x A < 2 ^ 16 := dif_lt hx16
    have hdA : dif A x < 2 ^ m := dif_lt hA
    -- what comes to be looked at when the next set is due
    have hnext : (∀ y, y < 2 ^ 16 → pc y = n → y < nsN x → y ≤ x) → (x < nsN x ∨ ¬ CP m w A x) → ∀ y, (CP m w A y ∧ (pc y < n ∨ (pc y = n ∧ y < nsN x))) ↔ ((CP m w A y ∧ (pc y < n ∨ (pc y = n ∧ y < x))) ∨ (y = x ∧ CP m w A y)) := by
      intro hgap hor y
      constructor
      · rintro ⟨h1, h2 | ⟨h2, h3⟩⟩
        · exact Or.inl ⟨h1, Or.inl h2⟩
        · have h16 := hCA y h1
          have := hgap y (by omega) h2 h3
          by_cases ey : y = x
          · exact Or.inr ⟨ey, h1⟩
          · exact Or.inl ⟨h1, Or.inr ⟨h2, by omega⟩⟩
      · have hmono : x < nsN x := by
          unfold nsN
          have h1 : x + lowN x ≤ (x + lowN x) ||| (((x + lowN x) ^^^ x) / 2 ^ 2 / 2 ^ pcF (lowN x - 1)) := Nat.left_le_or
          omega
        rintro (⟨h1, h2 | ⟨h2, h3⟩⟩ | ⟨rfl, h1⟩)
        · exact ⟨h1, Or.inl h2⟩
        · exact ⟨h1, Or.inr ⟨h2, by omega⟩⟩
        · exact ⟨h1, Or.inr ⟨hpc, hmono⟩⟩
    have hmono : x < nsN x := by
      unfold nsN
      have h1 : x + lowN x ≤ (x + lowN x) ||| (((x + lowN x) ^^^ x) / 2 ^ 2 / 2 ^ pcF (lowN x - 1)) := Nat.left_le_or
      omega
    have hJ : ∀ y1 y2 : Int32, X8_part_J138 M (nI A) y1 y2 (nI n) (nI x) (nI i) = some (.inl (y1, y2, nI (nsN x), nI (i + 1))) := fun y1 y2 => by
      rw [X8_part_J138, bd1e hns, lets, nI_1]
    have hskip : ¬ CP m w A x → ∃ st', (some (.inl ((enC v o).1, (enC v o).2, nI (nsN x), nI (i + 1))) : Option ((Int32 × Int32 × Int32 × Int32) ⊕ (Int32 × Int32))) = some (.inl st') ∧ ((∀ y, y < 2 ^ 16 → pc y = n → y < nsN x → y ≤ x) → ∃ o, st' = ((enC v o).1, (enC v o).2, nI (nsN x), nI (i + 1)) ∧ Inv v (fun y => CP m w A y ∧ (pc y < n ∨ (pc y = n ∧ y < nsN x))) o) := by
      intro hn
      refine ⟨_, rfl, fun hgap => ⟨o, rfl, Inv_iff e2 (fun y => ?_)⟩⟩
      rw [hnext hgap (Or.inl hmono) y]
      constructor
      · intro h; exact Or.inl h
      · rintro (h | ⟨rfl, h⟩)
        · exact h
        · exact absurd h hn
    have hadd : CP m w A x → (∀ y, y < 2 ^ 16 → pc y = n → y < nsN x → y ≤ x) → ∀ y, (CP m w A y ∧ (pc y < n ∨ (pc y = n ∧ y < nsN x))) ↔ ((CP m w A y ∧ (pc y < n ∨ (pc y = n ∧ y < x))) ∨ y = x) := fun hC hgap y => by
      rw [hnext hgap (Or.inl hmono) y]
      constructor
      · rintro (h | ⟨h, _⟩)
        · exact Or.inl h
        · exact Or.inr h
      · rintro (h | h)
        · exact Or.inl h
        · exact Or.inr ⟨h, by rw [h]; exact hC⟩
    have htake : CP m w A x → (∀ b, o = some b → v x < v b ∨ (v x = v b ∧ x ≤ b)) → ∃ st', (some (.inl (nI (v x), nI x, nI (nsN x), nI (i + 1))) : Option ((Int32 × Int32 × Int32 × Int32) ⊕ (Int32 × Int32))) = some (.inl st') ∧ ((∀ y, y < 2 ^ 16 → pc y = n → y < nsN x → y ≤ x) → ∃ o, st' = ((enC v o).1, (enC v o).2, nI (nsN x), nI (i + 1)) ∧ Inv v (fun y => CP m w A y ∧ (pc y < n ∨ (pc y = n ∧ y < nsN x))) o) := fun hC hb => ⟨_, rfl, fun hgap => ⟨some x, rfl, Inv_add e2 ⟨hC, Or.inr ⟨hpc, hmono⟩⟩ (hadd hC hgap) hb⟩⟩
    have hleave : CP m w A x → ∀ b, o = some b → (v b < v x ∨ (v b = v x ∧ b ≤ x)) → ∃ st', (some (.inl ((enC v o).1, (enC v o).2, nI (nsN x), nI (i + 1))) : Option ((Int32 × Int32 × Int32 × Int32) ⊕ (Int32 × Int32))) = some (.inl st') ∧ ((∀ y, y < 2 ^ 16 → pc y = n → y < nsN x → y ≤ x) → ∃ o, st' = ((enC v o).1, (enC v o).2, nI (nsN x), nI (i + 1)) ∧ Inv v (fun y => CP m w A y ∧ (pc y < n ∨ (pc y = n ∧ y < nsN x))) o) := fun hC b hb hlt => ⟨_, rfl, fun hgap => ⟨o, rfl, by
      subst hb
      exact Inv_skip e2 (hadd hC hgap) hlt⟩⟩
    rw [X8_part_L48, if_neg (nI_nleN hi (by decide)), hl.1, nx_one (by omega), if_neg (nI_nleN hx (by omega)), nx_dif]
    left
    by_cases z0 : dif x A = 0
    · rw [z0, if_pos e00, nx_dif]
      rcases partedC hd hl hdA with ⟨p1, p2⟩ | ⟨p1, p2⟩
      · rw [bd1e p1, if_pos rfl, hJ]
        exact hskip (fun h => p2 h.2.2.2)
      · have hC : CP m w A x := ⟨dif_0.mp z0, by omega, by omega, p2⟩
        rw [bd1e p1, if_neg n10, bd1e (show F_X1_volumeOf M 9 (nI x) = some (nI (v x)) by rw [hv']; exact cvol_eq g1 hx16)]
        have hvx : v x ≤ 80 := by rw [hv']; exact hv x
        cases ho : o with
        | none =>
          rw [if_pos (show (enC v none).1 = -9 from rfl), X8_part_J131, hJ]
          have := htake hC (fun b hb => by rw [ho] at hb; cases hb)
          exact this
        | some b =>
          have hvb : v b ≤ 80 := by rw [hv']; exact hv b
          have hb16 : b < 2 ^ 16 := by
            rw [ho] at e2
            have := hCA b e2.1.1
            omega
          rw [if_neg (show ¬ (enC v (some b)).1 = -9 from nI_n9 (by omega))]
          by_cases c1 : v x < v b
          · rw [if_pos (show nI (v x) < (enC v (some b)).1 from nI_lt c1 (by omega)), X8_part_J131, hJ]
            exact htake hC (fun b' hb' => by rw [ho] at hb'; cases hb'; exact Or.inl c1)
          · rw [if_neg (show ¬ nI (v x) < (enC v (some b)).1 from nI_nlt (by omega) (by omega))]
            by_cases c2 : v x = v b
            · rw [if_pos (show nI (v x) = (enC v (some b)).1 by rw [c2]; rfl)]
              by_cases c3 : b ≤ x
              · rw [if_pos (show (enC v (some b)).2 ≤ nI x from nI_le c3 (by omega)), hJ]
                have := hleave hC b ho (Or.inr ⟨c2.symm, c3⟩)
                rw [ho] at this
                exact this
              · rw [if_neg (show ¬ (enC v (some b)).2 ≤ nI x from nI_nleN (by omega) (by omega)), X8_part_J131, hJ]
                exact htake hC (fun b' hb' => by rw [ho] at hb'; cases hb'; exact Or.inr ⟨c2, by omega⟩)
            · rw [if_neg (show ¬ nI (v x) = (enC v (some b)).1 from fun y => c2 ((nI_eq (by omega) (by omega)).mp y)), hJ]
              have := hleave hC b ho (Or.inl (by omega))
              rw [ho] at this
              exact this
    · rw [if_neg (nI_ne0 (by omega) (by omega)), hJ]
      exact hskip (fun h => z0 (dif_0.mpr h.1))
  · obtain ⟨o, e1, e2⟩ := hst
    subst e1
    rw [X8_part_L48, hl.1, nx_one (by omega)]
    refine ⟨_, ?_, o, rfl, Inv_iff e2 (fun y => ?_)⟩
    · by_cases ei : 1820 ≤ i
      · rw [if_pos (nI_le ei (by omega))]
      · rw [if_neg (nI_nleN (by omega) (by decide)), if_pos (nI_le hx (by omega))]
    · constructor
      · rintro ⟨h1, h2 | ⟨h2, _⟩⟩
        · exact ⟨h1, by omega⟩
        · exact ⟨h1, by omega⟩
      · rintro ⟨h1, h2⟩
        have := hCA y h1
        exact ⟨h1, by omega⟩
theorem partC {M : Mem} {m w A : Nat} {d : Nat → Nat} (hd : Dm m w) (hl : LandC M m w) (g1 : ∀ c, c < 16 → gI M 10 c = nI (d c)) (h5 : ∀ c, d c ≤ 5) (hA : A < 2 ^ m) : ∃ o, loop (X8_part_L31 M (nI A)) FU ((-9), 0, 1) = some (enC (fun y => volN d y 16) o) ∧ Inv (fun y => volN d y 16) (CP m w A) o := by
  obtain ⟨r, a1, o, a2, a3⟩ := loop_inv (f := X8_part_L31 M (nI A)) (fun i st => ∃ o, st = ((enC (fun y => volN d y 16) o).1, (enC (fun y => volN d y 16) o).2, nI (i + 1)) ∧ Inv (fun y => volN d y 16) (fun y => CP m w A y ∧ pc y < i + 1) o) (fun r => ∃ o, r = enC (fun y => volN d y 16) o ∧ Inv (fun y => volN d y 16) (CP m w A) o) 3 (fun i st hi hst => by
    obtain ⟨o, e1, e2⟩ := hst
    subst e1
    by_cases ei : i = 3
    · subst ei
      rw [X8_part_L31, if_pos (nI_lt (by decide) (by decide))]
      exact Or.inr ⟨_, rfl, o, rfl, Inv_iff e2 (fun y => ⟨fun h => h.1, fun h => ⟨h, by have := h.2.2.1; omega⟩⟩)⟩
    · have hp := Nat.two_pow_pos (i + 1)
      obtain ⟨r, b1, o', b2, b3⟩ := partC_in (n := i + 1) hd hl g1 h5 hA (by omega) (by omega) e2
      subst b2
      rw [X8_part_L31, if_neg (nI_nlt (by omega) (by decide)), nx_one (by omega), show nI (2 ^ (i + 1)) - 1 = nI (2 ^ (i + 1) - 1) from nI_subN (b := 1) hp, lets, bd2e b1, lets, nI_1]
      exact Or.inl ⟨by omega, _, rfl, o', rfl, b3⟩) (k := FU) (by decide) (s := ((-9), 0, 1)) ⟨none, rfl, fun y hy => by have := hy.1.2.1; have := hy.2; omega⟩
  subst a2
  exact ⟨o, a1, a3⟩
/- the model -/
theorem partM {N : Mem} {m w A : Nat} {d : Nat → Nat} (hd : Dm m w) (h0 : gI N 0 11 = nI m) (h1 : gI N 0 10 = nI w) (h7 : ∀ c, c < 16 → gI N 7 c = nI (d c)) (h5 : ∀ c, d c ≤ 5) (hA : A < 2 ^ m) : ∃ o, loop (X9_part__L28 N (nI A)) FU ((-9), 1048576, nI A) = some (enM (fun y => volN d y 16) o) ∧ Inv (fun y => volN d y 16) (CP m w A) o := by
  have hle := hd.le
  have hp16 : 2 ^ m ≤ 2 ^ 16 := Nat.pow_le_pow_right (by decide) hle.1
  have hv : ∀ y, volN d y 16 ≤ 80 := fun y => volN_le h5 16
  have hCA : ∀ y, CP m w A y → 1 ≤ y ∧ y ≤ A := fun y hy => by
    have h1 := sub_le hy.1
    rcases Nat.eq_zero_or_pos y with z | z
    · subst z
      have := hy.2.1
      have : pc 0 = 0 := by decide
      omega
    · omega
  have hvol : ∀ y, y < 2 ^ m → F_X9_volume N 7 0 (nI y) = some (nI (volN d y 16)) := fun y hy => mvol_eq (b := 0) hle.1 h0 (by decide) (by decide) (fun c hc => by rw [Nat.zero_add]; exact h7 c hc) hy
  generalize hve : (fun y => volN d y 16) = v
  have hv' : ∀ y, v y = volN d y 16 := fun y => by rw [← hve]
  obtain ⟨r, a1, o, a2, a3⟩ := loop_inv (f := X9_part__L28 N (nI A)) (fun i st => ∃ o, st = ((enM v o).1, (enM v o).2, nI (A - i)) ∧ Inv v (fun y => CP m w A y ∧ A < y + i) o) (fun r => ∃ o, r = enM v o ∧ Inv v (CP m w A) o) A (fun i st hi hst => by
    obtain ⟨o, e1, e2⟩ := hst
    subst e1
    by_cases ei : i = A
    · rw [ei, Nat.sub_self, X9_part__L28, if_pos (show nI 0 ≤ 0 by decide)]
      refine Or.inr ⟨_, rfl, o, rfl, Inv_iff e2 (fun y => ⟨fun h => h.1, fun h => ⟨h, by have := hCA y h; omega⟩⟩)⟩
    · obtain ⟨k, hk⟩ : ∃ k, A - i = k := ⟨_, rfl⟩
      have hk1 : 1 ≤ k := by omega
      have hk16 : k < 2 ^ 16 := by omega
      have hk2 : A - (i + 1) = k - 1 := by omega
      have hdn : nI k + (-1) = nI (k - 1) := by
        have := pk_m1 (k - 1)
        rwa [Nat.sub_add_cancel hk1] at this
      have hpk := pc_le k
      refine Or.inl ⟨by omega, ?_⟩
      have hsame : ¬ CP m w A k → ∃ s', (some (.inl ((enM v o).1, (enM v o).2, nI (k - 1))) : Option ((Int32 × Int32 × Int32) ⊕ (Int32 × Int32))) = some (.inl s') ∧ ∃ o, s' = ((enM v o).1, (enM v o).2, nI (A - (i + 1))) ∧ Inv v (fun y => CP m w A y ∧ A < y + (i + 1)) o := by
        intro hn
        refine ⟨_, rfl, o, by rw [hk2], Inv_iff e2 (fun y => ⟨fun h => ⟨h.1, by have := h.2; omega⟩, fun h => ⟨h.1, ?_⟩⟩)⟩
        by_cases ey : y = k
        · subst ey; exact absurd h.1 hn
        · have := h.2
          omega
      have hS : CP m w A k → ∀ y, (CP m w A y ∧ A < y + (i + 1)) ↔ ((CP m w A y ∧ A < y + i) ∨ y = k) := fun hC y => by
        constructor
        · rintro ⟨h1, h2⟩
          by_cases ey : y = k
          · exact Or.inr ey
          · exact Or.inl ⟨h1, by omega⟩
        · rintro (⟨h1, h2⟩ | h)
          · exact ⟨h1, by omega⟩
          · exact ⟨by rw [h]; exact hC, by omega⟩
      have hdA : dif A k < 2 ^ m := dif_lt hA
      have hdA16 := lt16 hd hdA
      have hdk : dif k A < 2 ^ 16 := dif_lt hk16
      rw [hk, X9_part__L28, if_neg (nI_nle (by omega) (by omega)), nx_dif, lets, nx_dif, hdn]
      by_cases z0 : dif k A = 0
      · have hsub := dif_0.mp z0
        rw [z0, if_pos e00, bd1e (msize hk16)]
        by_cases z1 : pc k ≤ 3
        · rw [if_neg (nI_nlt z1 (by decide))]
          by_cases z2 : dif A k = 0
          · rw [z2, if_pos e00, lets]
            refine hsame (fun h => ?_)
            obtain ⟨c, h1, _⟩ := h.2.2.2
            rw [z2, Nat.zero_testBit] at h1
            cases h1
          · obtain ⟨c, hc, l1, l2⟩ := low_ex hdA16 z2
            have hclt := clo_lt (m := m) (w := w) (T := dif A k) (s := 2 ^ c) (n := 16) (Nat.pow_lt_pow_right (by decide) hc) hdA16
            rw [if_neg (nI_ne0 (by omega) (by omega)), bd1e (lowest_eq hdA16 l1 l2), bd1e (grown_eq hd h0 h1 hdA16 hc)]
            by_cases z3 : clo m w (dif A k) (2 ^ c) = dif A k
            · rw [if_pos (by rw [z3]), lets]
              refine hsame (fun h => ?_)
              obtain ⟨c', h1, h2, h3⟩ := h.2.2.2
              have := low_un l1 l2 h1 h2
              subst this
              exact h3 z3
            · have hpc1 : 1 ≤ pc k := by
                rcases Nat.eq_zero_or_pos (pc k) with z | z
                · have := pc_0 hk16 z
                  omega
                · exact z
              have hC : CP m w A k := ⟨hsub, hpc1, z1, c, l1, l2, z3⟩
              have hvk : v k ≤ 80 := by rw [hv']; exact hv k
              rw [if_neg (fun y => z3 ((nI_eq (by omega) (by omega)).mp y)), bd1e (hvol k (by omega)), ← hv' k]
              have e20 : (1048576 : Int32) = nI 1048576 := rfl
              cases ho : o with
              | none =>
                have hlt : ¬ (enM v none).2 < nI (v k) := by
                  show ¬ (1048576 : Int32) < nI (v k)
                  rw [e20]
                  exact nI_nlt (by omega) (by decide)
                have hlt2 : ¬ (enM v none).2 ≤ nI (v k) := by
                  show ¬ (1048576 : Int32) ≤ nI (v k)
                  rw [e20]
                  exact nI_nleN (by omega) (by decide)
                rw [if_neg hlt, X9_part__J106, if_neg hlt2, hdn, lets]
                rw [ho] at e2
                exact ⟨_, rfl, some k, by rw [hk2]; rfl, Inv_add e2 ⟨hC, by omega⟩ (hS hC) (fun b hb => by cases hb)⟩
              | some b =>
                rw [ho] at e2
                have hvb : v b ≤ 80 := by rw [hv']; exact hv b
                by_cases c1 : v b < v k
                · have q1 : (enM v (some b)).2 < nI (v k) := nI_lt c1 (by omega)
                  have q2 : (enM v (some b)).2 ≤ nI (v k) := nI_le (by omega) (by omega)
                  rw [if_pos q1, X9_part__J106, if_pos q2, hdn, lets]
                  exact ⟨_, rfl, some b, by rw [hk2], Inv_skip e2 (hS hC) (Or.inl c1)⟩
                · have q1 : ¬ (enM v (some b)).2 < nI (v k) := nI_nlt (by omega) (by omega)
                  have hkb : k ≤ b := by
                    have := e2.1.2
                    omega
                  have hI : Inv v (fun y => CP m w A y ∧ A < y + (i + 1)) (some k) := Inv_add e2 ⟨hC, by omega⟩ (hS hC) (fun b' hb' => by cases hb'; omega)
                  rw [if_neg q1, X9_part__J106]
                  by_cases c2 : v b ≤ v k
                  · have hvv : v b = v k := by omega
                    rw [if_pos (show (enM v (some b)).2 ≤ nI (v k) from nI_le c2 (by omega)), hdn, lets]
                    exact ⟨_, rfl, some k, by rw [hk2, show (enM v (some b)).2 = nI (v b) from rfl, hvv]; rfl, hI⟩
                  · rw [if_neg (show ¬ (enM v (some b)).2 ≤ nI (v k) from nI_nleN (by omega) (by omega)), hdn, lets]
                    exact ⟨_, rfl, some k, by rw [hk2]; rfl, hI⟩
        · rw [if_pos (nI_lt (by omega) (by omega)), lets]
          exact hsame (fun h => z1 h.2.2.1)
      · rw [if_neg (nI_ne0 (by omega) (by omega)), lets]
        exact hsame (fun h => z0 (dif_0.mpr h.1))) (k := FU) (by show A < 200000; omega) (s := ((-9), 1048576, nI A)) ⟨none, rfl, fun y hy => by have := hCA y hy.1; have := hy.2; omega⟩
  subst a2
  exact ⟨o, a1, a3⟩
theorem op_part {lw : Nat → Option Nat} (tl tt : Option Nat) {M N : Mem} {t : Nat} (ht : t ≤ 3100) (h : Rel t lw M N) (a1 : Int32) : ∃ (r : Int32) (M' : Mem) (N' : Mem), F_X8_part M a1 = some (r, M') ∧ F_X9_part_ N a1 = some (r, N') ∧ Rel (t + 1) lw M' N' := by
  obtain ⟨m, w, gd, d, e, hd, hw, he, hl, hg, hm, -⟩ := h.core
  have hle := hd.le
  have hlc := hl.c
  obtain ⟨l1, l2, l3, l4, l5, l6, l7, l8, l9⟩ := hl
  obtain ⟨g1, g2, g3, g4, g5, g6, g7⟩ := hg
  have hT := dg_lt hd hw
  have hlen := HL_len hd hT
  obtain ⟨N', f1, f2, f3, f4, f5⟩ := layHoles_eq hd l3 l4 hw hm.1
  have hR := h.lay f4 f5
  rcases cut (HL m w (dg d)).length (by omega) a1 with z | ⟨j, hj, rfl⟩
  · have e1 : F_X9_isHole N a1 = some (0, N') := by rw [F_X9_isHole, bd1e f1, f2, bd1e (in_size (by omega) z), chk_pos (Or.inl rfl)]
    exact ⟨-1, M, N', by rw [F_X8_part, bd1e (ghas_no g4 z), if_pos rfl], by rw [F_X9_part_, bd2e e1, if_pos rfl], hR.up⟩
  · have e1 : F_X9_isHole N (nI j) = some (1, N') := by rw [F_X9_isHole, bd1e f1, f2, bd1e (in_sizeI (by omega) hj), chk_pos (Or.inr rfl)]
    have hs := HL_lt hd hT hj
    have hb := bitsOf_in (p := 9) g4 hlen g5 hj
    have h11 := f3 j hj
    generalize (HL m w (dg d)).getD j 0 = s at hs hb h11
    have q0 : gI N' 0 11 = nI m := by rw [f4 0 11 (by decide) (by decide)]; exact l3
    have q1 : gI N' 0 10 = nI w := by rw [f4 0 10 (by decide) (by decide)]; exact l4
    have q7 : ∀ c, c < 16 → gI N' 7 c = nI (d c) := fun c hc => by rw [f4 7 _ (by decide) (by omega)]; exact hm.1 c hc
    obtain ⟨o, x1, x2⟩ := partC hd hlc g1 hw.1 hs
    obtain ⟨o', y1, y2⟩ := partM hd q0 q1 q7 hw.1 hs
    have ho := Inv_one x2 y2
    subst ho
    have hC : F_X8_part M (nI j) = (if (enC (fun y => volN d y 16) o).1 = (-9) then some ((enC (fun y => volN d y 16) o).1, M) else lett (sI M 0 12 (enC (fun y => volN d y 16) o).2) fun M_21 => some ((enC (fun y => volN d y 16) o).1, M_21)) := by
      rw [F_X8_part, bd1e (ghas_in g4 (by omega) hj), if_neg n10, bd1e hb, bd2p x1]
    have hM : F_X9_part_ N (nI j) = (if (enM (fun y => volN d y 16) o).1 = (-9) then some ((-9), N') else bd2 (F_X9_ask N' (enM (fun y => volN d y 16) o).1 (enM (fun y => volN d y 16) o).2) fun r_31 M_32 => some (r_31, M_32)) := by
      rw [F_X9_part_, bd2e e1, if_neg n10, chk_pos (inb_nI (by omega) (by decide)), clN (by omega), h11, lets, bd2p y1]
    rw [hC, hM]
    cases o with
    | none => exact ⟨-9, M, N', by rw [if_pos (show (enC (fun y => volN d y 16) none).1 = -9 from rfl)]; rfl, by rw [if_pos (show (enM (fun y => volN d y 16) none).1 = -9 from rfl)], hR.up⟩
    | some b =>
      have hv := volN_le (s := b) hw.1 16
      have hb16 : b < 2 ^ 16 := by
        have := sub_le x2.1.1
        have := lt16 hd hs
        omega
      refine ⟨nI (volN d b 16), _, _, ?_, ?_, hR.ask (nI b)⟩
      · rw [if_neg (show ¬ (enC (fun y => volN d y 16) (some b)).1 = -9 from nI_n9 (show volN d b 16 < 2 ^ 31 by omega)), lets]
        rfl
      · rw [if_neg (show ¬ (enM (fun y => volN d y 16) (some b)).1 = -9 from nI_n9 (show b < 2 ^ 31 by omega)), bd2e ask_eq]
        rfl
