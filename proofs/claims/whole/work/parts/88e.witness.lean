/-! ===== witnesses: lies, day ===== -/
def okv (m : Nat) (a b c : Int32) : Prop := ∃ i j k, i < m ∧ j < 6 ∧ k < 3 ∧ a = nI i ∧ b = nI j ∧ c = nI k
def okW (m : Nat) (V : Nat → Int32) (i : Nat) : Prop := okv m (V (3 * i)) (V (3 * i + 1)) (V (3 * i + 2))
theorem out_ne {m j : Nat} {x : Int32} (hm : m < 2 ^ 31) (h : x < 0 ∨ nI m ≤ x) (hj : j < m) : x ≠ nI j := by
  rintro rfl
  rcases h with h | h
  · exact nneg j (by omega) h
  · exact nI_nleN hj hm h
/-- a row as the class reads it, and as the model does -/
def rwC (M : Mem) (p n : Nat) (V : Nat → Int32) : Prop := F_X5_size M p = some (nI n) ∧ ∀ j, j < n → F_X5_get M p (nI j) = some (V j)
def rwM (N : Mem) (r n : Nat) (V : Nat → Int32) : Prop := r < 6 ∧ gI N 2 r = nI n ∧ ∀ j, j < n → F_X9_rowAt N (nI r) (nI j) = some (V j)
theorem rwC_of {M : Mem} {p n : Nat} {V : Nat → Int32} (h1 : gI M p 1 = nI n) (hn : n ≤ slen p) (h2 : ∀ j, j < n → gI M (p + 1) j = V j) : rwC M p n V := ⟨by rw [F_X5_size, h1], fun j hj => by rw [get_in h1 hj hn, h2 j hj]⟩
theorem rwM_of {N : Mem} {r n : Nat} {V : Nat → Int32} (hr : r < 6) (hn : n ≤ 40) (h1 : gI N 2 r = nI n) (h2 : ∀ j, j < n → gI N 3 (40 * r + j) = V j) : rwM N r n V := ⟨hr, h1, fun j hj => by rw [rowAt_eq hr (by omega), h2 j hj]⟩
theorem wrC_st {M : Mem} {p n m i : Nat} {V : Nat → Int32} (l1 : gI M 7 0 = nI m) (hm : m ≤ 16) (h : rwC M p n V) (hn : n ≤ 40) (hi : 3 * i + 2 < n) : (okW m V i ∧ X7_wrongIn_L22 M p (nI (3 * i)) = some (.inl (nI (3 * (i + 1))))) ∨ (¬ okW m V i ∧ X7_wrongIn_L22 M p (nI (3 * i)) = some (.inr (nI 3))) := by
  rw [X7_wrongIn_L22, bd1e h.1, if_neg (nI_nleN (by omega) (by omega)), nI_1, nI_add, bd1e (h.2 _ (by omega)), bd1e (h.2 _ (by omega)), bd1e (h.2 _ (by omega))]
  rcases cut m (by omega) (V (3 * i)) with z | ⟨a, ha, ea⟩
  · refine Or.inr ⟨fun ⟨a, b, c, h1, _, _, h4, _⟩ => out_ne (by omega) z h1 h4, ?_⟩
    rw [bd1e (lhas_no l1 z), if_pos rfl]
  · rw [ea, bd1e (lhas_in l1 (by omega) ha), if_neg n10]
    rcases cut 6 (by decide) (V (3 * i + 1)) with z | ⟨b, hb, eb⟩
    · refine Or.inr ⟨fun ⟨_, b, c, _, h1, _, _, h4, _⟩ => out_ne (by decide) z h1 h4, ?_⟩
      by_cases y : V (3 * i + 1) < 0
      · rw [if_pos y]
      · rw [if_neg y, if_pos (lt_of_le (z.resolve_left y) (by decide))]
    · rw [eb, if_neg (nneg b (by omega)), if_neg (nI_nlt (by omega) (by decide))]
      rcases cut 3 (by decide) (V (3 * i + 2)) with z | ⟨c, hc, ec⟩
      · refine Or.inr ⟨fun ⟨_, b, c, _, _, h1, _, _, h4⟩ => out_ne (by decide) z h1 h4, ?_⟩
        by_cases y : V (3 * i + 2) < 0
        · rw [if_pos y]
        · rw [if_neg y, if_neg (nle_of_le (z.resolve_left y) (by decide))]
      · refine Or.inl ⟨⟨a, b, c, ha, hb, hc, ea, eb, ec⟩, ?_⟩
        rw [ec, if_neg (nneg c (by omega)), if_pos (nI_le (by omega) (by decide)), lets, nI_add]
        rfl
theorem wrM_st {N : Mem} {r n m i : Nat} {V : Nat → Int32} (l3 : gI N 0 11 = nI m) (hm : m ≤ 16) (h : rwM N r n V) (hn : n ≤ 40) (hi : 3 * i + 2 < n) : (okW m V i ∧ X9_askedWitnesses_L31 N (nI r) (nI (3 * i)) = some (.inl (nI (3 * (i + 1))))) ∨ (¬ okW m V i ∧ X9_askedWitnesses_L31 N (nI r) (nI (3 * i)) = some (.inr (-3, fndM N 3))) := by
  have hr := h.1
  rw [X9_askedWitnesses_L31, chk_pos (inb_nI hr (by decide)), clN (by omega), h.2.1, if_neg (nI_nleN (by omega) (by omega)), bd1e (h.2.2 _ (by omega)), nI_1, nI_add, bd1e (h.2.2 _ (by omega)), bd1e (h.2.2 _ (by omega))]
  rcases cut m (by omega) (V (3 * i)) with z | ⟨a, ha, ea⟩
  · refine Or.inr ⟨fun ⟨a, b, c, h1, _, _, h4, _⟩ => out_ne (by omega) z h1 h4, ?_⟩
    rw [bd1e (isCell_no l3 (by omega) z), if_pos rfl, bd2e (meetk 3 (by decide) (by decide))]
  · rw [ea, bd1e (isCell_in l3 (by omega) ha), if_neg n10]
    rcases cut 6 (by decide) (V (3 * i + 1)) with z | ⟨b, hb, eb⟩
    · refine Or.inr ⟨fun ⟨_, b, c, _, h1, _, _, h4, _⟩ => out_ne (by decide) z h1 h4, ?_⟩
      rw [bd1e (in_no (z.imp_right (fun y => lt_of_le y (by decide)))), if_pos rfl, bd2e (meetk 3 (by decide) (by decide))]
    · rw [eb, bd1e (in_yes (nneg b (by omega)) (nI_nlt (by omega) (by decide))), if_neg n10]
      rcases cut 3 (by decide) (V (3 * i + 2)) with z | ⟨c, hc, ec⟩
      · refine Or.inr ⟨fun ⟨_, b, c, _, _, h1, _, _, h4⟩ => out_ne (by decide) z h1 h4, ?_⟩
        rw [bd1e (in_no (z.imp_right (fun y => lt_of_le y (by decide)))), if_pos rfl, bd2e (meetk 3 (by decide) (by decide))]
      · refine Or.inl ⟨⟨a, b, c, ha, hb, hc, ea, eb, ec⟩, ?_⟩
        rw [ec, bd1e (in_yes (nneg c (by omega)) (nI_nlt (by omega) (by decide))), if_neg n10, lets, nI_add]
        rfl
theorem wrC_lp {M : Mem} {p u m : Nat} {V : Nat → Int32} (l1 : gI M 7 0 = nI m) (hm : m ≤ 16) (h : rwC M p (3 * u) V) (hn : 3 * u ≤ 40) : ∃ r, loop (X7_wrongIn_L22 M p) FU 0 = some r ∧ ((r = 0 ∧ ∀ i, i < u → okW m V i) ∨ (r = nI 3 ∧ ∃ i, i < u ∧ ¬ okW m V i)) := by
  refine loop_inv (fun i st => st = nI (3 * i) ∧ ∀ j, j < i → okW m V j) (fun r => (r = 0 ∧ ∀ i, i < u → okW m V i) ∨ (r = nI 3 ∧ ∃ i, i < u ∧ ¬ okW m V i)) u (fun i st hi hst => ?_) (by show u < 200000; omega) ⟨rfl, fun j hj => absurd hj (Nat.not_lt_zero _)⟩
  obtain ⟨e1, e2⟩ := hst
  subst e1
  by_cases e : i = u
  · subst e
    right
    rw [X7_wrongIn_L22, bd1e h.1, if_pos (nI_le (Nat.le_refl _) (by omega))]
    exact ⟨_, rfl, Or.inl ⟨rfl, e2⟩⟩
  · rcases wrC_st l1 hm h hn (i := i) (by omega) with ⟨z1, z2⟩ | ⟨z1, z2⟩
    · refine Or.inl ⟨by omega, _, z2, rfl, fun j hj => ?_⟩
      by_cases ej : j = i
      · subst ej; exact z1
      · exact e2 j (by omega)
    · exact Or.inr ⟨_, z2, Or.inr ⟨rfl, i, by omega, z1⟩⟩
theorem wrM_lp {N : Mem} {r u m : Nat} {V : Nat → Int32} (l3 : gI N 0 11 = nI m) (hm : m ≤ 16) (h : rwM N r (3 * u) V) (hn : 3 * u ≤ 40) : ∃ x, loop (X9_askedWitnesses_L31 N (nI r)) FU 0 = some x ∧ ((x = (0, N) ∧ ∀ i, i < u → okW m V i) ∨ (x = (-3, fndM N 3) ∧ ∃ i, i < u ∧ ¬ okW m V i)) := by
  have hr := h.1
  refine loop_inv (fun i st => st = nI (3 * i) ∧ ∀ j, j < i → okW m V j) (fun x => (x = (0, N) ∧ ∀ i, i < u → okW m V i) ∨ (x = (-3, fndM N 3) ∧ ∃ i, i < u ∧ ¬ okW m V i)) u (fun i st hi hst => ?_) (by show u < 200000; omega) ⟨rfl, fun j hj => absurd hj (Nat.not_lt_zero _)⟩
  obtain ⟨e1, e2⟩ := hst
  subst e1
  by_cases e : i = u
  · subst e
    right
    rw [X9_askedWitnesses_L31, chk_pos (inb_nI hr (by decide)), clN (by omega), h.2.1, if_pos (nI_le (Nat.le_refl _) (by omega))]
    exact ⟨_, rfl, Or.inl ⟨rfl, e2⟩⟩
  · rcases wrM_st l3 hm h hn (i := i) (by omega) with ⟨z1, z2⟩ | ⟨z1, z2⟩
    · refine Or.inl ⟨by omega, _, z2, rfl, fun j hj => ?_⟩
      by_cases ej : j = i
      · subst ej; exact z1
      · exact e2 j (by omega)
    · exact Or.inr ⟨_, z2, Or.inr ⟨rfl, i, by omega, z1⟩⟩
theorem irm3 : ∀ n, n < 41 → irm (nI n) (nI 3) = nI (n % 3) := by decide +kernel
def WitOK (M N : Mem) (r m u : Nat) (V : Nat → Int32) : Prop := 3 * u ≤ 40 ∧ gI M (26 + 2 * r) 1 = nI (3 * u) ∧ gI N 2 r = nI (3 * u) ∧ (∀ j, j < 3 * u → gI M (26 + 2 * r + 1) j = V j) ∧ (∀ j, j < 3 * u → gI N 3 (40 * r + j) = V j) ∧ ∀ i, i < u → okW m V i
theorem wit {M N : Mem} {m r : Nat} (hro : Rows M N) (l1 : gI M 7 0 = nI m) (l3 : gI N 0 11 = nI m) (hm : m ≤ 16) (hr : r < 6) : (∃ k, (k = 1 ∨ k = 3 ∨ k = 5) ∧ F_X7_wrongIn M (26 + 2 * r) = some (nI k) ∧ F_X9_askedWitnesses N (nI r) = some (-3, fndM N k)) ∨ (F_X7_wrongIn M (26 + 2 * r) = some 0 ∧ F_X9_askedWitnesses N (nI r) = some (0, N) ∧ ∃ u V, WitOK M N r m u V) := by
  have hs := slen_row hr
  rcases hro r hr with ⟨e1, e2⟩ | ⟨n, en, e1, e2, e3⟩
  · exact Or.inl ⟨1, Or.inl rfl, by rw [F_X7_wrongIn, bd1e (missing_yes e1), if_neg (by decide)]; rfl, by rw [F_X9_askedWitnesses, bd2e (askedRow_ms hr e2), if_neg (by decide)]⟩
  · have hc : rwC M (26 + 2 * r) n (fun j => gI N 3 (40 * r + j)) := rwC_of e1 (by omega) e3
    have hmm : rwM N r n (fun j => gI N 3 (40 * r + j)) := rwM_of hr en e2 (fun _ _ => rfl)
    by_cases h3 : n % 3 = 0
    · obtain ⟨u, rfl⟩ : ∃ u, n = 3 * u := ⟨n / 3, by omega⟩
      obtain ⟨x, a1, a2⟩ := wrC_lp l1 hm hc en
      obtain ⟨y, b1, b2⟩ := wrM_lp l3 hm hmm en
      have c1 : F_X7_wrongIn M (26 + 2 * r) = some x := by
        rw [F_X7_wrongIn, bd1e (missing_no e1 (by omega)), if_pos rfl, bd1e hc.1, irm3 _ (by omega), h3, if_pos e00, a1]
      have c2 : F_X9_askedWitnesses N (nI r) = some y := by
        rw [F_X9_askedWitnesses, bd2e (askedRow_in hr e2 en), if_pos (by decide), chk_pos (inb_nI hr (by decide)), clN (by omega), e2, irm3 _ (by omega), h3, if_pos e00, b1]
      rcases a2 with ⟨a2, a3⟩ | ⟨a2, i, a3, a4⟩ <;> rcases b2 with ⟨b2, b3⟩ | ⟨b2, i', b3, b4⟩
      · subst a2; subst b2
        exact Or.inr ⟨c1, c2, u, _, en, e1, e2, e3, fun _ _ => rfl, a3⟩
      · exact absurd (a3 i' b3) b4
      · exact absurd (b3 i a3) a4
      · subst a2; subst b2
        exact Or.inl ⟨3, Or.inr (Or.inl rfl), c1, c2⟩
    · refine Or.inl ⟨5, Or.inr (Or.inr rfl), ?_, ?_⟩
      · rw [F_X7_wrongIn, bd1e (missing_no e1 (by omega)), if_pos rfl, bd1e hc.1, irm3 _ (by omega), if_neg (nI_ne0 (by omega) (by omega))]
      · rw [F_X9_askedWitnesses, bd2e (askedRow_in hr e2 en), if_pos (by decide), chk_pos (inb_nI hr (by decide)), clN (by omega), e2, irm3 _ (by omega), if_neg (nI_ne0 (by omega) (by omega)), bd2e (meetk 5 (by decide) (by decide))]
/- a lie -/
def lv (b c x : Int32) : Bool := if c = 0 then decide (¬ x = b) else if c = 1 then decide (¬ b ≤ x) else decide (¬ x ≤ b)
theorem lv_if (b c x : Int32) : (if c = 0 then if x = b then some (0 : Int32) else some 1 else if c = 1 then if b ≤ x then some 0 else some 1 else if x ≤ b then some 0 else some 1) = some (nI (b01 (lv b c x))) := by
  unfold lv
  by_cases c0 : c = 0
  · rw [if_pos c0, if_pos c0]
    by_cases z : x = b
    · rw [if_pos z, decide_eq_false (fun y => y z)]; rfl
    · rw [if_neg z, decide_eq_true z]; rfl
  · rw [if_neg c0, if_neg c0]
    by_cases c1 : c = 1
    · rw [if_pos c1, if_pos c1]
      by_cases z : b ≤ x
      · rw [if_pos z, decide_eq_false (fun y => y z)]; rfl
      · rw [if_neg z, decide_eq_true z]; rfl
    · rw [if_neg c1, if_neg c1]
      by_cases z : x ≤ b
      · rw [if_pos z, decide_eq_false (fun y => y z)]; rfl
      · rw [if_neg z, decide_eq_true z]; rfl
theorem lieC {M : Mem} {p n i : Nat} {V : Nat → Int32} (h : rwC M p n V) (hi : 3 * i + 2 < n) (x : Int32) : F_X7_isLie M p (nI (3 * i)) x = some (nI (b01 (lv (V (3 * i + 1)) (V (3 * i + 2)) x))) := by
  rw [F_X7_isLie, nI_1, nI_add, bd1e (h.2 _ (by omega)), bd1e (h.2 _ (by omega)), lv_if]
theorem lieM {N : Mem} {r n i : Nat} {V : Nat → Int32} (h : rwM N r n V) (hi : 3 * i + 2 < n) (x : Int32) : F_X9_doesLie N (nI r) (nI (3 * i)) x = some (nI (b01 (lv (V (3 * i + 1)) (V (3 * i + 2)) x))) := by
  rw [F_X9_doesLie, nI_1, nI_add, bd1e (h.2.2 _ (by omega)), bd1e (h.2.2 _ (by omega)), lv_if]
def lW (V : Nat → Int32) (d : Nat → Nat) (i : Nat) : Bool := lv (V (3 * i + 1)) (V (3 * i + 2)) (nI (d (V (3 * i)).toNatClampNeg))
def lC (V : Nat → Int32) (d : Nat → Nat) (u : Nat) : Nat := sm (fun i => b01 (lW V d i)) u
theorem b01_le (b : Bool) : b01 b ≤ 1 := by cases b <;> decide
theorem lC_le (V : Nat → Int32) (d : Nat → Nat) (u : Nat) : lC V d u ≤ u := by
  have := sm_le (f := fun i => b01 (lW V d i)) (n := u) (b := 1) (fun i _ => b01_le _)
  unfold lC
  omega
theorem okW_cell {m i : Nat} {V : Nat → Int32} (h : okW m V i) (hm : m ≤ 16) : ∃ a, a < m ∧ V (3 * i) = nI a ∧ (V (3 * i)).toNatClampNeg = a := by
  obtain ⟨a, b, c, h1, h2, h3, h4, h5, h6⟩ := h
  exact ⟨a, h1, h4, by rw [h4, clN (by omega)]⟩
theorem liarsC {M : Mem} {p q u m : Nat} {V : Nat → Int32} {d : Nat → Nat} (h : rwC M p (3 * u) V) (hn : 3 * u ≤ 40) (hm : m ≤ 16) (hd : ∀ c, c < 16 → gI M (q + 1) c = nI (d c)) (ho : ∀ i, i < u → okW m V i) : F_X7_liarsOf M p q = some (nI (lC V d u)) := by
  unfold F_X7_liarsOf
  refine loop_fn' (fun i => (nI (lC V d i), nI (3 * i))) u rfl (fun i hi => ?_) ?_ (by show u < 200000; omega)
  · show X7_liarsOf_L4 M p q (_, _) = _
    obtain ⟨a, a1, a2, a3⟩ := okW_cell (ho i hi) hm
    have el : lW V d i = lv (V (3 * i + 1)) (V (3 * i + 2)) (nI (d a)) := by unfold lW; rw [a3]
    rw [X7_liarsOf_L4, bd1e h.1, if_neg (nI_nleN (by omega) (by omega)), bd1e (h.2 _ (by omega)), a2, bd1e (depthAt_in (by omega)), hd a (by omega), bd1e (lieC h (by omega) _), ← el, show lC V d (i + 1) = lC V d i + b01 (lW V d i) from rfl]
    cases lW V d i
    · rw [if_pos (show nI (b01 false) = 0 from rfl), lets, nI_add]
      rfl
    · rw [if_neg (show ¬ nI (b01 true) = 0 by decide)]
      simp only [lets]
      rw [nI_1, nI_add]
      rfl
  · show X7_liarsOf_L4 M p q (_, _) = _
    rw [X7_liarsOf_L4, bd1e h.1, if_pos (nI_le (Nat.le_refl _) (by omega))]
theorem liesM {N : Mem} {r q b u m : Nat} {V : Nat → Int32} {d : Nat → Nat} (h : rwM N r (3 * u) V) (hn : 3 * u ≤ 40) (hm : m ≤ 16) (hb : b + 16 ≤ alM q) (ha : alM q < 2 ^ 31) (hd : ∀ c, c < 16 → gI N q (b + c) = nI (d c)) (ho : ∀ i, i < u → okW m V i) : F_X9_liesBy N (nI r) q (nI b) = some (nI (lC V d u)) := by
  have hr := h.1
  unfold F_X9_liesBy
  refine loop_fn' (fun i => (nI (lC V d i), nI (3 * i))) u rfl (fun i hi => ?_) ?_ (by show u < 200000; omega)
  · show X9_liesBy_L6 N (nI r) q (nI b) (_, _) = _
    obtain ⟨a, a1, a2, a3⟩ := okW_cell (ho i hi) hm
    have el : lW V d i = lv (V (3 * i + 1)) (V (3 * i + 2)) (nI (d a)) := by unfold lW; rw [a3]
    rw [X9_liesBy_L6, chk_pos (inb_nI hr (by decide)), clN (by omega), h.2.1, if_neg (nI_nleN (by omega) (by omega)), bd1e (h.2.2 _ (by omega)), a2, nI_add, chk_pos (inb_nI (by omega) ha), clN (by omega), hd a (by omega), bd1e (lieM h (by omega) _), ← el, show lC V d (i + 1) = lC V d i + b01 (lW V d i) from rfl]
    cases lW V d i
    · rw [if_pos (show nI (b01 false) = 0 from rfl)]
      simp only [lets]
      rw [nI_add0, nI_add]
      rfl
    · rw [if_neg (show ¬ nI (b01 true) = 0 by decide)]
      simp only [lets]
      rw [nI_1, nI_add]
      rfl
  · show X9_liesBy_L6 N (nI r) q (nI b) (_, _) = _
    rw [X9_liesBy_L6, chk_pos (inb_nI hr (by decide)), clN (by omega), h.2.1, if_pos (nI_le (Nat.le_refl _) (by omega))]
/- the first that lies -/
def fst1 (f : Nat → Bool) (lo u : Nat) (r : Int32) : Prop := (∃ i, lo ≤ i ∧ i < u ∧ f i = true ∧ (∀ j, lo ≤ j → j < i → f j = false) ∧ r = nI i) ∨ ((∀ j, lo ≤ j → j < u → f j = false) ∧ r = -9)
theorem fst1_one {f : Nat → Bool} {lo u : Nat} {r r' : Int32} (h : fst1 f lo u r) (h' : fst1 f lo u r') : r = r' := by
  rcases h with ⟨i, a0, a1, a2, a3, a4⟩ | ⟨a1, a2⟩ <;> rcases h' with ⟨i', b0, b1, b2, b3, b4⟩ | ⟨b1, b2⟩
  · rcases Nat.lt_trichotomy i i' with z | z | z
    · rw [b3 i a0 z] at a2; cases a2
    · rw [a4, b4, z]
    · rw [a3 i' b0 z] at b2; cases b2
  · rw [b1 i a0 a1] at a2; cases a2
  · rw [a1 i' b0 b1] at b2; cases b2
  · rw [a2, b2]
theorem div3 : ∀ i, i < 14 → nI (3 * i) / nI 3 = nI i := by decide +kernel
theorem firstC {M : Mem} {p q u m : Nat} {V : Nat → Int32} {d : Nat → Nat} (h : rwC M p (3 * u) V) (hn : 3 * u ≤ 40) (hm : m ≤ 16) (hd : ∀ c, c < 16 → gI M (q + 1) c = nI (d c)) (ho : ∀ i, i < u → okW m V i) : ∃ r, F_X7_firstLiar M p q = some r ∧ fst1 (lW V d) 0 u r := by
  unfold F_X7_firstLiar
  refine loop_inv (f := X7_firstLiar_L2 M p q) (fun i st => st = nI (3 * i) ∧ ∀ j, j < i → lW V d j = false) (fst1 (lW V d) 0 u) u (fun i st hi hst => ?_) (by show u < 200000; omega) ⟨rfl, fun j hj => absurd hj (Nat.not_lt_zero _)⟩
  obtain ⟨e1, e2⟩ := hst
  subst e1
  by_cases e : i = u
  · subst e
    right
    rw [X7_firstLiar_L2, bd1e h.1, if_pos (nI_le (Nat.le_refl _) (by omega))]
    exact ⟨_, rfl, Or.inr ⟨fun j _ hj => e2 j hj, rfl⟩⟩
  · obtain ⟨a, a1, a2, a3⟩ := okW_cell (ho i (by omega)) hm
    have el : lW V d i = lv (V (3 * i + 1)) (V (3 * i + 2)) (nI (d a)) := by unfold lW; rw [a3]
    rw [X7_firstLiar_L2, bd1e h.1, if_neg (nI_nleN (by omega) (by omega)), bd1e (h.2 _ (by omega)), a2, bd1e (depthAt_in (by omega)), hd a (by omega), bd1e (lieC h (by omega) _), ← el]
    cases z : lW V d i
    · rw [if_pos (show nI (b01 false) = 0 from rfl), lets, nI_add]
      refine Or.inl ⟨by omega, _, rfl, rfl, fun j hj => ?_⟩
      by_cases ej : j = i
      · subst ej; exact z
      · exact e2 j (by omega)
    · rw [if_neg (show ¬ nI (b01 true) = 0 by decide), div3 i (by omega)]
      exact Or.inr ⟨_, rfl, Or.inl ⟨i, by omega, by omega, z, fun j _ hj => e2 j hj, rfl⟩⟩
def x3k (k : Nat) : Int32 := if k = 0 then -3 else nI (3 * (k - 1))
theorem x3k_s : ∀ k, k < 14 → x3k (k + 1) + (-3) = x3k k := by decide +kernel
theorem x3k_0 : ∀ u, u < 14 → nI (3 * u) - nI 3 = x3k u := by decide +kernel
theorem firstM {N : Mem} {r u m : Nat} {V : Nat → Int32} {d : Nat → Nat} (h : rwM N r (3 * u) V) (hn : 3 * u ≤ 40) (hm : m ≤ 16) (hd : ∀ c, c < 16 → gI N 7 c = nI (d c)) (ho : ∀ i, i < u → okW m V i) : ∃ x, loop (X9_lies_L25 N (nI r)) FU (-9, x3k u) = some x ∧ fst1 (lW V d) 0 u x := by
  have hr := h.1
  refine loop_inv (f := X9_lies_L25 N (nI r)) (fun i st => st.2 = x3k (u - i) ∧ fst1 (lW V d) (u - i) u st.1) (fst1 (lW V d) 0 u) u (fun i st hi hst => ?_) (by show u < 200000; omega) ⟨rfl, Or.inr ⟨fun j h1 h2 => by omega, rfl⟩⟩
  obtain ⟨x, y⟩ := st
  obtain ⟨e1, e2⟩ := hst
  have e1 : y = x3k (u - i) := e1
  have e2 : fst1 (lW V d) (u - i) u x := e2
  subst e1
  by_cases e : i = u
  · subst e
    right
    rw [Nat.sub_self] at e2 ⊢
    rw [X9_lies_L25, if_pos (show x3k 0 < 0 by decide)]
    exact ⟨_, rfl, e2⟩
  · obtain ⟨k, hk⟩ : ∃ k, u - i = k + 1 := ⟨u - i - 1, by omega⟩
    have hk2 : u - (i + 1) = k := by omega
    rw [hk] at e2 ⊢
    rw [hk2]
    obtain ⟨a, a1, a2, a3⟩ := okW_cell (ho k (by omega)) hm
    have el : lW V d k = lv (V (3 * k + 1)) (V (3 * k + 2)) (nI (d a)) := by unfold lW; rw [a3]
    have e5 := x3k_s k (by omega)
    have e6 : x3k (k + 1) = nI (3 * k) := rfl
    refine Or.inl ⟨by omega, ?_⟩
    rw [X9_lies_L25, e5, e6, if_neg (nneg _ (by omega)), bd1e (h.2.2 _ (by omega)), a2, chk_pos (inb_nI (by omega) (by decide)), clN (by omega), hd a (by omega), bd1e (lieM h (by omega) _), ← el]
    cases z : lW V d k
    · rw [if_pos (show nI (b01 false) = 0 from rfl), lets]
      refine ⟨_, rfl, rfl, ?_⟩
      rcases e2 with ⟨i', b0, b1, b2, b3, b4⟩ | ⟨b1, b2⟩
      · refine Or.inl ⟨i', by omega, b1, b2, fun j hj1 hj2 => ?_, b4⟩
        by_cases ej : j = k
        · subst ej; exact z
        · exact b3 j (by omega) hj2
      · refine Or.inr ⟨fun j hj1 hj2 => ?_, b2⟩
        by_cases ej : j = k
        · subst ej; exact z
        · exact b1 j (by omega) hj2
    · rw [if_neg (show ¬ nI (b01 true) = 0 by decide), div3 k (by omega)]
      simp only [lets]
      exact ⟨_, rfl, rfl, Or.inl ⟨k, Nat.le_refl _, by omega, z, fun j h1 h2 => by omega, rfl⟩⟩
theorem Rel.core {t : Nat} {lw : Nat → Option Nat} {M N : Mem} (h : Rel t lw M N) : ∃ m w gd d e, CoreG t lw M N m w gd d e := h.2.2.2
theorem op_lies {lw : Nat → Option Nat} (tl tt : Option Nat) {M N : Mem} {t : Nat} (ht : t ≤ 3100) (h : Rel t lw M N) (a1 : Int32) : ∃ (r : Int32) (M' : Mem) (N' : Mem), F_X8_lies M a1 = some (r, M') ∧ F_X9_lies N a1 = some (r, N') ∧ Rel (t + 1) lw M' N' := by
  rcases cut 6 (by decide) a1 with z | ⟨r, hr, rfl⟩
  · exact ⟨-1, M, N, by rw [F_X8_lies, bd1e (rowOf_no z), oc_n], by rw [F_X9_lies, F_X9_askedWitnesses, bd2e (askedRow_no z), if_neg (by decide), bd2s, if_neg (by decide)], h.up⟩
  · obtain ⟨m, w, gd, d, e, hd, hw, he, hl, hg, hm, -⟩ := h.core
    have hle := hd.le
    rcases wit h.2.1 hl.1 hl.2.2.1 hle.1 hr with ⟨k, hk, w1, w2⟩ | ⟨w1, w2, u, V, v1, v2, v3, v4, v5, v6⟩
    · refine ⟨-3, fndC M k, fndM N k, ?_, ?_, h.found (by omega)⟩
      · rw [F_X8_lies, bd1e (rowOf_in hr), oc_s, chk_pos (isX5_row hr), bd1e w1, if_neg (nI_ne0 (by omega) (by omega)), bd2e (foundk k (by omega) (by omega))]
      · rw [F_X9_lies, bd2e w2, if_neg (by decide)]
    · have hs := slen_row hr
      have hc := rwC_of v2 (by omega) v4
      have hmm := rwM_of hr v1 v3 v5
      obtain ⟨x, a1, a2⟩ := firstC (q := 9) hc v1 hle.1 hg.1 v6
      obtain ⟨y, b1, b2⟩ := firstM hmm v1 hle.1 hm.1 v6
      have exy := fst1_one a2 b2
      subst exy
      have hc' : rwC (sI M 0 12 x) (26 + 2 * r) (3 * u) V := rwC_of (by rw [gI_p (by omega)]; exact v2) (by omega) (fun j hj => by rw [gI_p (by omega)]; exact v4 j hj)
      have hL := liarsC (q := 9) hc' v1 hle.1 (fun c hc => by rw [gI_p (by omega)]; exact hg.1 c hc) v6
      have hM : F_X9_liesBy N (nI r) 7 0 = some (nI (lC V d u)) := liesM (q := 7) (b := 0) hmm v1 hle.1 (by decide) (by decide) (fun c hc => by rw [Nat.zero_add]; exact hm.1 c hc) v6
      refine ⟨nI (lC V d u), _, _, ?_, ?_, h.ask x⟩
      · rw [F_X8_lies, bd1e (rowOf_in hr), oc_s, chk_pos (isX5_row hr), bd1e w1, if_pos rfl, bd1e a1, lets, bd1e hL]
      · rw [F_X9_lies, bd2e w2, if_pos (by decide), chk_pos (inb_nI hr (by decide)), clN (by omega), v3, lets, x3k_0 u (by omega), bd1e b1, bd1e hM, bd2e ask_eq]
/- day -/
def dyS (g : Nat → Option Nat) : Nat → Option (Nat × Nat)
  | 0 => none
  | k + 1 => match g k with
    | none => dyS g k
    | some l => match dyS g k with
      | none => some (l, k)
      | some (l0, k0) => if l0 ≤ l then some (l0, k0) else some (l, k)
def dyC : Option (Nat × Nat) → Int32 × Int32
  | none => (0, -9)
  | some (l, k) => (nI l, nI k)
def dyM : Option (Nat × Nat) → Int32 × Int32
  | none => (-9, 1048576)
  | some (l, k) => (nI k, nI l)
theorem dyS_le {g : Nat → Option Nat} (h : ∀ k l, g k = some l → l ≤ 13) : ∀ n l k, dyS g n = some (l, k) → l ≤ 13 ∧ k < n := by
  intro n
  induction n with
  | zero => intro l k e; cases e
  | succ n ih =>
    intro l k e
    rw [dyS] at e
    cases hg : g n with
    | none =>
      rw [hg] at e
      have := ih l k e
      omega
    | some l1 =>
      rw [hg] at e
      have h1 := h n l1 hg
      cases hs : dyS g n with
      | none =>
        rw [hs] at e
        have e : some (l1, n) = some (l, k) := e
        cases e
        omega
      | some z =>
        obtain ⟨l0, k0⟩ := z
        rw [hs] at e
        have e : (if l0 ≤ l1 then some (l0, k0) else some (l1, n)) = some (l, k) := e
        have h2 := ih l0 k0 hs
        split at e
        · cases e; omega
        · cases e; omega
theorem op_day {lw : Nat → Option Nat} (tl tt : Option Nat) {M N : Mem} {t : Nat} (ht : t ≤ 3100) (h : Rel t lw M N) (a1 : Int32) : ∃ (r : Int32) (M' : Mem) (N' : Mem), F_X8_day M a1 = some (r, M') ∧ F_X9_day N a1 = some (r, N') ∧ Rel (t + 1) lw M' N' := by
  rcases cut 6 (by decide) a1 with z | ⟨r, hr, rfl⟩
  · exact ⟨-1, M, N, by rw [F_X8_day, bd1e (rowOf_no z), oc_n], by rw [F_X9_day, F_X9_askedWitnesses, bd2e (askedRow_no z), if_neg (by decide), bd2s, if_neg (by decide)], h.up⟩
  · obtain ⟨m, w, gd, d, e, hd, hw, he, hl, hg, hm, hi, -⟩ := h.core
    have hle := hd.le
    rcases wit h.2.1 hl.1 hl.2.2.1 hle.1 hr with ⟨k, hk, w1, w2⟩ | ⟨w1, w2, u, V, v1, v2, v3, v4, v5, v6⟩
    · refine ⟨-3, fndC M k, fndM N k, ?_, ?_, h.found (by omega)⟩
      · rw [F_X8_day, bd1e (rowOf_in hr), oc_s, chk_pos (isX5_row hr), bd1e w1, if_neg (nI_ne0 (by omega) (by omega)), bd2e (foundk k (by omega) (by omega))]
      · rw [F_X9_day, bd2e w2, if_neg (by decide)]
    · have hs := slen_row hr
      have hc := rwC_of v2 (by omega) v4
      have hmm := rwM_of hr v1 v3 v5
      obtain ⟨g, hg1, hg2⟩ : ∃ g : Nat → Option Nat, (∀ k l, g k = some l → l ≤ 13) ∧ ∀ k, k < 3 → (g k = none ∧ gI M (46 + 3 * k) 7 = 0 ∧ gI N 14 k = 0) ∨ ∃ l, g k = some l ∧ gI M (46 + 3 * k) 7 = 1 ∧ gI N 14 k = 1 ∧ F_X7_liarsOf M (26 + 2 * r) (46 + 3 * k) = some (nI l) ∧ F_X9_liesBy N (nI r) 15 (nI (17 * k)) = some (nI l) := by
        have key : ∀ k, ∃ o : Option Nat, (∀ l, o = some l → l ≤ 13) ∧ (k < 3 → (o = none ∧ gI M (46 + 3 * k) 7 = 0 ∧ gI N 14 k = 0) ∨ ∃ l, o = some l ∧ gI M (46 + 3 * k) 7 = 1 ∧ gI N 14 k = 1 ∧ F_X7_liarsOf M (26 + 2 * r) (46 + 3 * k) = some (nI l) ∧ F_X9_liesBy N (nI r) 15 (nI (17 * k)) = some (nI l)) := by
          intro k
          by_cases hk : k < 3
          · rcases hi k hk with ⟨z1, z2⟩ | ⟨z1, mp, d', e', he', hw', hg', hm'⟩
            · exact ⟨none, (fun l e => by cases e), fun _ => Or.inl ⟨rfl, z1, z2⟩⟩
            · have hal : alM 15 = 51 := rfl
              refine ⟨some (lC V d' u), fun l e => by cases e; have := lC_le V d' u; omega, fun _ => Or.inr ⟨_, rfl, hg'.2.2.2.2.2.2, z1, liarsC hc v1 hle.1 hg'.1 v6, liesM hmm v1 hle.1 (by omega) (by decide) hm'.1 v6⟩⟩
          · exact ⟨none, (fun l e => by cases e), fun h => absurd h hk⟩
        exact ⟨fun k => (key k).choose, fun k => (key k).choose_spec.1, fun k => (key k).choose_spec.2⟩
      have hb := dyS_le hg1
      have hC : loop (X8_day_L41 M (26 + 2 * r)) FU (0, (-9), 0) = some (dyC (dyS g 3)) := by
        refine loop_fn' (fun i => ((dyC (dyS g i)).1, (dyC (dyS g i)).2, nI i)) 3 rfl (fun i hi3 => ?_) ?_ (by decide)
        · show X8_day_L41 M _ (_, _, _) = _
          have k1 : finC 12 i = some (46 + 3 * i) ∧ isX1 (46 + 3 * i) = true := by
            have : i = 0 ∨ i = 1 ∨ i = 2 := by omega
            rcases this with rfl | rfl | rfl <;> exact ⟨rfl, rfl⟩
          rw [X8_day_L41, if_neg (nI_nleN hi3 (by decide)), chk_pos (inb_nI hi3 (by decide)), clN (by omega), k1.1, lets, oc_s, chk_pos k1.2]
          rcases hg2 i hi3 with ⟨z1, z2, z3⟩ | ⟨l, z1, z2, z3, z4, z5⟩
          · rw [z2, if_pos rfl, lets, nI_1, show dyS g (i + 1) = dyS g i by rw [dyS, z1]]
          · rw [z2, if_neg n10, chk_pos (inb_nI hi3 (by decide)), lets, oc_s, chk_pos k1.2, bd1e z4]
            have hl13 := hg1 i l z1
            cases hs : dyS g i with
            | none =>
              rw [show (dyC none).2 = -9 from rfl, if_pos rfl, lets, nI_1, show dyS g (i + 1) = some (l, i) by rw [dyS, z1, hs]]
              rfl
            | some z =>
              obtain ⟨l0, k0⟩ := z
              have hb0 := hb i l0 k0 hs
              have ne9 : ¬ (dyC (some (l0, k0))).2 = -9 := fun y => by
                have y : nI k0 = -9 := y
                exact absurd y (by
                  have : k0 = 0 ∨ k0 = 1 ∨ k0 = 2 := by omega
                  rcases this with rfl | rfl | rfl <;> decide)
              rw [if_neg ne9]
              by_cases hle2 : l0 ≤ l
              · rw [if_pos (show (dyC (some (l0, k0))).1 ≤ nI l from nI_le hle2 (by omega)), lets, nI_1, show dyS g (i + 1) = some (l0, k0) by rw [dyS, z1, hs]; exact if_pos hle2]
              · rw [if_neg (show ¬ (dyC (some (l0, k0))).1 ≤ nI l from nI_nleN (by omega) (by omega)), lets, nI_1, show dyS g (i + 1) = some (l, i) by rw [dyS, z1, hs]; exact if_neg hle2]
                rfl
        · show X8_day_L41 M _ (_, _, _) = _
          rw [X8_day_L41, if_pos (nI_le (Nat.le_refl _) (by decide))]
      have hMM : loop (X9_day_L23 N (nI r)) FU ((-9), 1048576, 0) = some (dyM (dyS g 3)) := by
        refine loop_fn' (fun i => ((dyM (dyS g i)).1, (dyM (dyS g i)).2, nI i)) 3 rfl (fun i hi3 => ?_) ?_ (by decide)
        · show X9_day_L23 N _ (_, _, _) = _
          rw [X9_day_L23, if_neg (nI_nleN hi3 (by decide)), chk_pos (inb_nI hi3 (by decide)), clN (by omega)]
          have e20 : (1048576 : Int32) = nI 1048576 := rfl
          rcases hg2 i hi3 with ⟨z1, z2, z3⟩ | ⟨l, z1, z2, z3, z4, z5⟩
          · have hle2 : (dyM (dyS g i)).2 ≤ 1048576 := by
              cases hs : dyS g i with
              | none => exact Int32.le_refl _
              | some z =>
                obtain ⟨l0, k0⟩ := z
                have hb0 := hb i l0 k0 hs
                rw [e20]
                exact nI_le (a := l0) (by omega) (by decide)
            rw [z3, if_neg (by decide), X9_day_J60, if_pos hle2, X9_day_J75, if_pos hle2, lets, nI_1, show dyS g (i + 1) = dyS g i by rw [dyS, z1]]
          · have hl13 := hg1 i l z1
            rw [z3, if_pos rfl, n17, bd1e z5, X9_day_J60]
            cases hs : dyS g i with
            | none =>
              have nl : ¬ (dyM none).2 ≤ nI l := by
                show ¬ (1048576 : Int32) ≤ nI l
                rw [e20]
                exact nI_nleN (by omega) (by decide)
              rw [if_neg nl, X9_day_J75, if_neg nl, lets, nI_1, show dyS g (i + 1) = some (l, i) by rw [dyS, z1, hs]]
              rfl
            | some z =>
              obtain ⟨l0, k0⟩ := z
              have hb0 := hb i l0 k0 hs
              by_cases hle2 : l0 ≤ l
              · have nl : (dyM (some (l0, k0))).2 ≤ nI l := nI_le hle2 (by omega)
                rw [if_pos nl, X9_day_J75, if_pos nl, lets, nI_1, show dyS g (i + 1) = some (l0, k0) by rw [dyS, z1, hs]; exact if_pos hle2]
              · have nl : ¬ (dyM (some (l0, k0))).2 ≤ nI l := nI_nleN (by omega) (by omega)
                rw [if_neg nl, X9_day_J75, if_neg nl, lets, nI_1, show dyS g (i + 1) = some (l, i) by rw [dyS, z1, hs]; exact if_neg hle2]
                rfl
        · show X9_day_L23 N _ (_, _, _) = _
          rw [X9_day_L23, if_pos (nI_le (Nat.le_refl _) (by decide))]
      cases hs : dyS g 3 with
      | none =>
        rw [hs] at hC hMM
        refine ⟨-9, M, N, ?_, ?_, h.up⟩
        · rw [F_X8_day, bd1e (rowOf_in hr), oc_s, chk_pos (isX5_row hr), bd1e w1, if_pos rfl, bd2e (show _ = some ((0 : Int32), (-9 : Int32)) from hC), if_pos rfl]
        · rw [F_X9_day, bd2e w2, if_pos (by decide), bd2e (show _ = some ((-9 : Int32), (1048576 : Int32)) from hMM), if_pos rfl]
      | some z =>
        obtain ⟨l0, k0⟩ := z
        have hb0 := hb 3 l0 k0 hs
        rw [hs] at hC hMM
        have ne9 : ¬ nI k0 = -9 := by
          have : k0 = 0 ∨ k0 = 1 ∨ k0 = 2 := by omega
          rcases this with rfl | rfl | rfl <;> decide
        refine ⟨nI k0, _, _, ?_, ?_, h.ask (nI l0)⟩
        · rw [F_X8_day, bd1e (rowOf_in hr), oc_s, chk_pos (isX5_row hr), bd1e w1, if_pos rfl, bd2e (show _ = some (nI l0, nI k0) from hC), if_neg ne9, lets]
        · rw [F_X9_day, bd2e w2, if_pos (by decide), bd2e (show _ = some (nI k0, nI l0) from hMM), if_neg ne9, bd2e ask_eq]
