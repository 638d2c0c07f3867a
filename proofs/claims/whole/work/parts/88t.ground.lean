/-! ===== ground ===== -/
def colN (m w x : Nat) : Nat := bs (fun c => decide (c < m) && decide (c % w = x)) 16
theorem colN_ob {m w x : Nat} (hd : Dm m w) (hx : x < w) : ob (fun i => decide (i * w + x < m)) (fun i => i * w + x) 4 = colN m w x := by
  apply Nat.eq_of_testBit_eq
  intro k
  rw [Bool.eq_iff_iff, ob_tb, colN, bs_tb, Bool.and_eq_true, Bool.and_eq_true, decide_eq_true_iff, decide_eq_true_iff, decide_eq_true_iff]
  constructor
  · rintro ⟨i, h1, h2, h3⟩
    rw [decide_eq_true_iff] at h2
    rcases hd.cases with ⟨e1, e2⟩ | ⟨e1, e2⟩ | ⟨e1, e2⟩ | ⟨e1, e2⟩ | ⟨e1, e2⟩ | ⟨e1, e2⟩ | ⟨e1, e2⟩ | ⟨e1, e2⟩ | ⟨e1, e2⟩ | ⟨e1, e2⟩ | ⟨e1, e2⟩ | ⟨e1, e2⟩ | ⟨e1, e2⟩ <;> subst e1 <;> subst e2 <;> omega
  · rintro ⟨h1, h2, h3⟩
    have e : k / w < 4 ∧ k / w * w + x = k := by
      rcases hd.cases with ⟨e1, e2⟩ | ⟨e1, e2⟩ | ⟨e1, e2⟩ | ⟨e1, e2⟩ | ⟨e1, e2⟩ | ⟨e1, e2⟩ | ⟨e1, e2⟩ | ⟨e1, e2⟩ | ⟨e1, e2⟩ | ⟨e1, e2⟩ | ⟨e1, e2⟩ | ⟨e1, e2⟩ | ⟨e1, e2⟩ <;> subst e1 <;> subst e2 <;> omega
    exact ⟨k / w, e.1, by rw [decide_eq_true_iff]; omega, e.2⟩
theorem colBits_eq {M : Mem} {m w x : Nat} (hd : Dm m w) (hx : x < w) (h0 : gI M 7 0 = nI m) (h1 : gI M 7 1 = nI w) : F_X2_columnBits M (nI x) = some (nI (colN m w x)) := by
  have hle := hd.le
  rw [← colN_ob hd hx]
  unfold F_X2_columnBits
  refine loop_fn' (fun i => (nI (ob (fun i => decide (i * w + x < m)) (fun i => i * w + x) i), nI i)) 4 rfl (fun i hi => ?_) ?_ (by decide)
  · show X2_columnBits_L4 M _ (_, _) = _
    have hiw : i * w ≤ 12 := by
      have := Nat.mul_le_mul (show i ≤ 3 by omega) hle.2
      omega
    rw [X2_columnBits_L4, if_neg (nI_nleN hi (by decide)), h1, h0, pk_mul, nI_add, lets, if_neg (nneg _ (by omega)), ob]
    by_cases z : i * w + x < m
    · rw [if_neg (nI_nleN z (by omega)), nx_one (by omega), nx_or, decide_eq_true z, if_pos rfl]
      simp only [lets]
      rw [nI_1]
    · rw [if_pos (nI_le (by omega) (by omega)), decide_eq_false z, if_neg (by decide), Nat.or_zero, lets, nI_1]
  · show X2_columnBits_L4 M _ (_, _) = _
    rw [X2_columnBits_L4, if_pos (nI_le (Nat.le_refl _) (by decide))]
def gacc (m w : Nat) (gd : Nat → Nat) (pr i : Nat) : Nat := bs (fun c => decide (c < m) && (decide (c % w < i) && decide (gd (c % w) = pr))) 16
theorem gacc_0 (m w : Nat) (gd : Nat → Nat) (pr : Nat) : gacc m w gd pr 0 = 0 := by
  apply Nat.eq_of_testBit_eq
  intro k
  rw [gacc, bs_tb, Nat.zero_testBit, decide_eq_false (Nat.not_lt_zero _)]
  simp
theorem gacc_y {m w : Nat} {gd : Nat → Nat} {pr i : Nat} (h : gd i = pr) : gacc m w gd pr (i + 1) = gacc m w gd pr i ||| colN m w i := by
  apply Nat.eq_of_testBit_eq
  intro k
  rw [Nat.testBit_or, gacc, gacc, colN, bs_tb, bs_tb, bs_tb]
  by_cases e1 : k % w < i
  · rw [decide_eq_true e1, decide_eq_true (show k % w < i + 1 by omega), decide_eq_false (show ¬ k % w = i by omega)]
    simp
  · by_cases e2 : k % w = i
    · rw [decide_eq_false e1, decide_eq_true (show k % w < i + 1 by omega), decide_eq_true e2, e2, decide_eq_true h]
      simp
    · rw [decide_eq_false e1, decide_eq_false (show ¬ k % w < i + 1 by omega), decide_eq_false e2]
      simp
theorem gacc_n {m w : Nat} {gd : Nat → Nat} {pr i : Nat} (h : ¬ gd i = pr) : gacc m w gd pr (i + 1) = gacc m w gd pr i := by
  apply Nat.eq_of_testBit_eq
  intro k
  rw [gacc, gacc, bs_tb, bs_tb]
  by_cases e1 : k % w < i
  · rw [decide_eq_true e1, decide_eq_true (show k % w < i + 1 by omega)]
  · by_cases e2 : k % w = i
    · rw [decide_eq_false e1, decide_eq_true (show k % w < i + 1 by omega), e2, decide_eq_false h]
      rfl
    · rw [decide_eq_false e1, decide_eq_false (show ¬ k % w < i + 1 by omega)]
theorem gacc_w {m w : Nat} {gd : Nat → Nat} {pr : Nat} (hw : 0 < w) : gacc m w gd pr w = gset m w gd pr := by
  unfold gacc gset
  apply bs_congr
  intro i _
  rw [decide_eq_true (Nat.mod_lt i hw), Bool.true_and]
theorem layIn {M0 : Mem} {m w pr : Nat} {gd : Nat → Nat} (hd : Dm m w) (hw : 2 ≤ w) (hpr : pr < 4) (hg : ∀ x, gd x < 4) : ∀ {M : Mem}, gI M 7 0 = nI m → gI M 7 1 = nI w → (∀ x, x < w → gI M 5 x = nI (gd x)) → gI M 8 pr = nI 0 → (∀ q x, ¬ (q = 8 ∧ x = pr) → gI M q x = gI M0 q x) → (∀ q x, gJ M q x = gJ M0 q x) → ∃ M', loop (X2_layOut_L64 (nI pr)) FU (0, M) = some M' ∧ gI M' 8 pr = nI (gset m w gd pr) ∧ (∀ q x, ¬ (q = 8 ∧ x = pr) → gI M' q x = gI M0 q x) ∧ ∀ q x, gJ M' q x = gJ M0 q x := by
  intro M h70 h71 h5 h8 hf hj
  have hle := hd.le
  have b70 : gI M0 7 0 = nI m := by rw [← hf 7 0 (by omega)]; exact h70
  have b71 : gI M0 7 1 = nI w := by rw [← hf 7 1 (by omega)]; exact h71
  have b5 : ∀ x, x < w → gI M0 5 x = nI (gd x) := fun x hx => by rw [← hf 5 x (by omega)]; exact h5 x hx
  refine loop_inv (f := X2_layOut_L64 (nI pr)) (fun i st => st.1 = nI i ∧ gI st.2 8 pr = nI (gacc m w gd pr i) ∧ (∀ q x, ¬ (q = 8 ∧ x = pr) → gI st.2 q x = gI M0 q x) ∧ ∀ q x, gJ st.2 q x = gJ M0 q x) (fun M' => gI M' 8 pr = nI (gset m w gd pr) ∧ (∀ q x, ¬ (q = 8 ∧ x = pr) → gI M' q x = gI M0 q x) ∧ ∀ q x, gJ M' q x = gJ M0 q x) w (fun i st hi hst => ?_) (by show w < 200000; omega) ⟨rfl, by rw [gacc_0]; exact h8, hf, hj⟩
  obtain ⟨a, M1⟩ := st
  obtain ⟨e1, e2, e3, e4⟩ := hst
  have e1 : a = nI i := e1
  subst e1
  have e2 : gI M1 8 pr = nI (gacc m w gd pr i) := e2
  have e3 : ∀ q x, ¬ (q = 8 ∧ x = pr) → gI M1 q x = gI M0 q x := e3
  have e4 : ∀ q x, gJ M1 q x = gJ M0 q x := e4
  have f71 := (e3 7 1 (by omega)).trans b71
  have f70 := (e3 7 0 (by omega)).trans b70
  rw [X2_layOut_L64, f71]
  by_cases e : i = w
  · subst e
    rw [if_pos (Int32.le_refl _)]
    exact Or.inr ⟨_, rfl, by rw [← gacc_w (show 0 < i by omega)]; exact e2, e3, e4⟩
  · have hgi := hg i
    have hga : F_X4_gardenerAt M1 (nI i) = some (nI (gd i)) := by
      rw [F_X4_gardenerAt, if_neg (nneg i (by omega)), if_neg (nI_nleN (show i < 4 by omega) (by decide)), chk_pos (inb_nI (by omega) (by decide)), clN (by omega), e3 5 i (by omega), b5 i (by omega)]
    rw [if_neg (nI_nleN (by omega) (by omega)), bd1e hga]
    refine Or.inl ⟨by omega, ?_⟩
    by_cases z : gd i = pr
    · rw [if_pos (by rw [z]), chk_pos (inb_nI hpr (by decide)), bd1e (colBits_eq hd (show i < w by omega) f70 f71), chk_pos (inb_nI hpr (by decide)), clN (by omega), e2, nx_or]
      simp only [lets]
      rw [nI_1]
      exact ⟨_, rfl, rfl, by rw [gacc_y z]; exact gI_same _ _ _ _, fun q x hq => by show gI (sI M1 8 pr _) q x = _; rw [gI_sI, if_neg hq]; exact e3 q x hq, e4⟩
    · rw [if_neg (fun y => z ((nI_eq (by omega) (by omega)).mp y)), lets, nI_1]
      exact ⟨_, rfl, rfl, by rw [gacc_n z]; exact e2, e3, e4⟩
theorem layOut_eq {M : Mem} {q m w : Nat} {gd : Nat → Nat} (hd : Dm m w) (hm : m = q * w) (hw : 2 ≤ w) (h34 : gI M 3 4 = nI q) (h35 : gI M 3 5 = nI w) (h5 : ∀ x, x < w → gI M 5 x = nI (gd x)) (hg : ∀ x, gd x < 4) : ∃ M', F_X2_layOut M = some M' ∧ gI M' 7 0 = nI m ∧ gI M' 7 1 = nI w ∧ gI M' 7 2 = nI (colN m w 0) ∧ gI M' 7 3 = nI (colN m w (w - 1)) ∧ (∀ pr, pr < 4 → gI M' 8 pr = nI (gset m w gd pr)) ∧ (∀ q x, q ≠ 7 → q ≠ 8 → gI M' q x = gI M q x) ∧ ∀ q x, gJ M' q x = gJ M q x := by
  have hle := hd.le
  rw [F_X2_layOut, h35, lets, gI_p (show (3 : Nat) ≠ 7 by decide), h34, gI_same, pk_mul, ← hm, lets]
  have a70 : gI (sI (sI M 7 1 (nI w)) 7 0 (nI m)) 7 0 = nI m := gI_same _ _ _ _
  have a71 : gI (sI (sI M 7 1 (nI w)) 7 0 (nI m)) 7 1 = nI w := by rw [gI_k (by decide), gI_same]
  rw [bd1e (show F_X2_columnBits _ 0 = some (nI (colN m w 0)) from colBits_eq (x := 0) hd (by omega) a70 a71), lets]
  have c70 : gI (sI (sI (sI M 7 1 (nI w)) 7 0 (nI m)) 7 2 (nI (colN m w 0))) 7 0 = nI m := by rw [gI_k (by decide)]; exact a70
  have c71 : gI (sI (sI (sI M 7 1 (nI w)) 7 0 (nI m)) 7 2 (nI (colN m w 0))) 7 1 = nI w := by rw [gI_k (by decide)]; exact a71
  rw [c71, show nI w - 1 = nI (w - 1) from nI_subN (b := 1) (by omega), bd1e (colBits_eq hd (show w - 1 < w by omega) c70 c71), lets]
  have d70 : gI (sI (sI (sI (sI M 7 1 (nI w)) 7 0 (nI m)) 7 2 (nI (colN m w 0))) 7 3 (nI (colN m w (w - 1)))) 7 0 = nI m := by rw [gI_k (by decide)]; exact c70
  have d71 : gI (sI (sI (sI (sI M 7 1 (nI w)) 7 0 (nI m)) 7 2 (nI (colN m w 0))) 7 3 (nI (colN m w (w - 1)))) 7 1 = nI w := by rw [gI_k (by decide)]; exact c71
  have d72 : gI (sI (sI (sI (sI M 7 1 (nI w)) 7 0 (nI m)) 7 2 (nI (colN m w 0))) 7 3 (nI (colN m w (w - 1)))) 7 2 = nI (colN m w 0) := by rw [gI_k (by decide), gI_same]
  have d73 : gI (sI (sI (sI (sI M 7 1 (nI w)) 7 0 (nI m)) 7 2 (nI (colN m w 0))) 7 3 (nI (colN m w (w - 1)))) 7 3 = nI (colN m w (w - 1)) := gI_same _ _ _ _
  have df : ∀ q x, q ≠ 7 → gI (sI (sI (sI (sI M 7 1 (nI w)) 7 0 (nI m)) 7 2 (nI (colN m w 0))) 7 3 (nI (colN m w (w - 1)))) q x = gI M q x := fun q x hq => by rw [gI_p hq, gI_p hq, gI_p hq, gI_p hq]
  have dj : ∀ q x, gJ (sI (sI (sI (sI M 7 1 (nI w)) 7 0 (nI m)) 7 2 (nI (colN m w 0))) 7 3 (nI (colN m w (w - 1)))) q x = gJ M q x := fun q x => rfl
  generalize sI (sI (sI (sI M 7 1 (nI w)) 7 0 (nI m)) 7 2 (nI (colN m w 0))) 7 3 (nI (colN m w (w - 1))) = D at d70 d71 d72 d73 df dj
  obtain ⟨M', e1, e2, e3, e4⟩ := loop_inv (f := X2_layOut_L46) (fun i st => st.1 = nI i ∧ (∀ r, r < i → gI st.2 8 r = nI (gset m w gd r)) ∧ (∀ q x, q ≠ 8 → gI st.2 q x = gI D q x) ∧ ∀ q x, gJ st.2 q x = gJ D q x) (fun M' => (∀ r, r < 4 → gI M' 8 r = nI (gset m w gd r)) ∧ (∀ q x, q ≠ 8 → gI M' q x = gI D q x) ∧ ∀ q x, gJ M' q x = gJ D q x) 4 (fun i st hi hst => by
    obtain ⟨a, M1⟩ := st
    obtain ⟨e1, e2, e3, e4⟩ := hst
    have e1 : a = nI i := e1
    subst e1
    have e2 : ∀ r, r < i → gI M1 8 r = nI (gset m w gd r) := e2
    have e3 : ∀ q x, q ≠ 8 → gI M1 q x = gI D q x := e3
    have e4 : ∀ q x, gJ M1 q x = gJ D q x := e4
    rw [X2_layOut_L46]
    by_cases e : i = 4
    · subst e
      rw [if_pos (Int32.le_refl _)]
      exact Or.inr ⟨_, rfl, e2, e3, e4⟩
    · obtain ⟨M2, f1, f2, f3, f4⟩ := layIn (M0 := sI M1 8 i 0) (pr := i) hd hw (by omega) hg (M := sI M1 8 i 0) (by rw [gI_p (by decide), e3 7 0 (by decide)]; exact d70) (by rw [gI_p (by decide), e3 7 1 (by decide)]; exact d71) (fun x hx => by rw [gI_p (by decide), e3 5 x (by decide), df 5 x (by decide)]; exact h5 x hx) (gI_same _ _ _ _) (fun _ _ _ => rfl) (fun _ _ => rfl)
      rw [if_neg (nI_nleN (by omega) (by decide)), chk_pos (inb_nI (by omega) (by decide)), clN (by omega), lets, bd1e f1, lets, nI_1]
      refine Or.inl ⟨by omega, _, rfl, rfl, fun r hr => ?_, fun q x hq => ?_, fun q x => ?_⟩
      · show gI M2 8 r = _
        by_cases er : r = i
        · subst er; exact f2
        · rw [f3 8 r (by omega), gI_k er]
          exact e2 r (by omega)
      · show gI M2 q x = _
        rw [f3 q x (by omega), gI_p hq, e3 q x hq]
      · show gJ M2 q x = _
        rw [f4, gJ_sI, e4]) (k := FU) (by decide) (s := (0, D)) ⟨rfl, fun r hr => absurd hr (Nat.not_lt_zero _), fun _ _ _ => rfl, fun _ _ => rfl⟩
  exact ⟨M', e1, by rw [e3 7 0 (by decide)]; exact d70, by rw [e3 7 1 (by decide)]; exact d71, by rw [e3 7 2 (by decide)]; exact d72, by rw [e3 7 3 (by decide)]; exact d73, e2, fun q x h1 h2 => by rw [e3 q x h2, df q x h1], fun q x => by rw [e4, dj]⟩
theorem survey_new {M : Mem} {m w T p : Nat} (hd : Dm m w) (hl : LandC M m w) (hT : T < 2 ^ m) (hp : 7 ≠ p) (hp2 : 7 ≠ p + 2) (h4 : gI M p 4 = nI T) (h5 : gI M p 5 = -1) : ∃ M', F_X1_survey M p = some M' ∧ gI M' p 3 = nI (HL m w T).length ∧ gI M' p 5 = nI T ∧ HolesIn M' (p + 2) (HL m w T) ∧ (∀ q x, q ≠ p + 2 → ¬ (q = p ∧ (x = 3 ∨ x = 5)) → gI M' q x = gI M q x) ∧ ∀ q x, gJ M' q x = gJ M q x := by
  have hle := hd.le
  have hT16 := lt16 hd hT
  unfold F_X1_survey
  rw [h4, h5]
  rw [if_neg (fun z => by
    have := nneg T (by omega)
    rw [z] at this
    exact this (by decide))]
  simp only [lets]
  rw [gI_k (show (4 : Nat) ≠ 3 by decide), gI_k (show (4 : Nat) ≠ 5 by decide), h4]
  obtain ⟨M', g1, g2, g3, g4, g5⟩ := surv_loop hd hT hp hp2 m 0 (by omega) FU (by show m < 200000; omega) (sI (sI M p 5 (nI T)) p 3 0) (hl.fr (fun x => by rw [gI_p hp, gI_p hp])) (fun i hi => absurd hi (Nat.not_lt_zero _)) (gI_same _ _ _ _)
  refine ⟨M', g1, g2, ?_, g3, fun q x hq hx => ?_, fun q x => ?_⟩
  · rw [g4 p 5 (by omega) (by omega), gI_k (by decide), gI_same]
  · rw [g4 q x hq (fun z => hx ⟨z.1, Or.inl z.2⟩), gI_sI, if_neg (fun z => hx ⟨z.1, Or.inl z.2⟩), gI_sI, if_neg (fun z => hx ⟨z.1, Or.inr z.2⟩)]
  · rw [g5, gJ_sI, gJ_sI]
theorem begin_eq {M : Mem} {m w : Nat} {d : Nat → Nat} (hd : Dm m w) (hl : LandC M m w) (hw : DW m d) (h4 : ∀ c, c < m → gI M 4 c = nI (d c)) : ∃ M', F_X1_begin M 9 = some M' ∧ GrC M' 9 m w d 0 1 ∧ (∀ q x, q ≠ 9 → q ≠ 10 → q ≠ 11 → gI M' q x = gI M q x) ∧ ∀ q x, gJ M' q x = gJ M q x := by
  have hle := hd.le
  have hT := dg_lt hd hw
  obtain ⟨M1, a1, a2, a3, a4, a5⟩ := loop_inv (f := X1_begin_L7 9) (fun i st => st.1 = nI i ∧ (∀ c, c < i → gI st.2 10 c = nI (d c)) ∧ gI st.2 9 4 = nI (bs (fun c => decide (0 < d c)) i) ∧ (∀ q x, q ≠ 9 → q ≠ 10 → gI st.2 q x = gI M q x) ∧ ∀ q x, gJ st.2 q x = gJ M q x) (fun M' => (∀ c, c < 16 → gI M' 10 c = nI (d c)) ∧ gI M' 9 4 = nI (dg d) ∧ (∀ q x, q ≠ 9 → q ≠ 10 → gI M' q x = gI M q x) ∧ ∀ q x, gJ M' q x = gJ M q x) 16 (fun i st hi hst => by
    obtain ⟨a, M1⟩ := st
    obtain ⟨e1, e2, e3, e4, e5⟩ := hst
    have e1 : a = nI i := e1
    subst e1
    have e2 : ∀ c, c < i → gI M1 10 c = nI (d c) := e2
    have e3 : gI M1 9 4 = nI (bs (fun c => decide (0 < d c)) i) := e3
    have e4 : ∀ q x, q ≠ 9 → q ≠ 10 → gI M1 q x = gI M q x := e4
    have e5 : ∀ q x, gJ M1 q x = gJ M q x := e5
    rw [X1_begin_L7]
    by_cases e : i = 16
    · subst e
      rw [if_pos (Int32.le_refl _)]
      exact Or.inr ⟨_, rfl, e2, e3, e4, e5⟩
    · have h5 := hw.1 i
      have hJ : ∃ s', X1_begin_J41 M1 9 (nI i) (nI (d i)) (nI i) = some (.inl s') ∧ s'.1 = nI (i + 1) ∧ (∀ c, c < i + 1 → gI s'.2 10 c = nI (d c)) ∧ gI s'.2 9 4 = nI (bs (fun c => decide (0 < d c)) (i + 1)) ∧ (∀ q x, q ≠ 9 → q ≠ 10 → gI s'.2 q x = gI M q x) ∧ ∀ q x, gJ s'.2 q x = gJ M q x := by
        rw [X1_begin_J41, chk_pos (inb_nI (by omega) (by decide)), clN (by omega), lets, chk_pos (inb_nI (by omega) (by decide)), gI_same, bs]
        by_cases z : d i = 0
        · rw [z, if_pos (by decide), lets, nI_1, decide_eq_false (by omega), if_neg (by decide), Nat.or_zero]
          refine ⟨_, rfl, rfl, fun c hc => ?_, ?_, fun q x h1 h2 => ?_, e5⟩
          · show gI (sI M1 10 i (nI 0)) 10 c = _
            by_cases ec : c = i
            · subst ec; rw [gI_same, z]
            · rw [gI_k ec]; exact e2 c (by omega)
          · show gI (sI M1 10 i (nI 0)) 9 4 = _
            rw [gI_p (by decide)]; exact e3
          · show gI (sI M1 10 i (nI 0)) q x = _
            rw [gI_p h2]; exact e4 q x h1 h2
        · rw [if_neg (nI_nle (by omega) (by omega)), gI_p (show (9 : Nat) ≠ 9 + 1 by decide), e3, nx_one (by omega), nx_or, decide_eq_true (show 0 < d i by omega), if_pos rfl]
          simp only [lets]
          rw [nI_1]
          refine ⟨_, rfl, rfl, fun c hc => ?_, ?_, fun q x h1 h2 => ?_, e5⟩
          · show gI (sI (sI M1 10 i (nI (d i))) 9 4 _) 10 c = _
            rw [gI_p (by decide)]
            by_cases ec : c = i
            · subst ec; rw [gI_same]
            · rw [gI_k ec]; exact e2 c (by omega)
          · show gI (sI (sI M1 10 i (nI (d i))) 9 4 _) 9 4 = _
            rw [gI_same]
          · show gI (sI (sI M1 10 i (nI (d i))) 9 4 _) q x = _
            rw [gI_p h1, gI_p h2]; exact e4 q x h1 h2
      rw [if_neg (nI_nleN (by omega) (by decide)), e4 7 0 (by decide) (by decide), hl.1]
      refine Or.inl ⟨by omega, ?_⟩
      by_cases z : m ≤ i
      · rw [if_pos (nI_le z (by omega))]
        have := hw.2 i z
        rw [this] at hJ
        exact hJ
      · rw [if_neg (nI_nleN (by omega) (by omega)), bd1e (show F_X4_depthAt M1 (nI i) = some (nI (d i)) by rw [F_X4_depthAt, if_neg (nneg i (by omega)), if_neg (nI_nleN (show i < 16 by omega) (by decide)), chk_pos (inb_nI (by omega) (by decide)), clN (by omega), e4 4 i (by decide) (by decide), h4 i (by omega)])]
        exact hJ) (k := FU) (by decide) (s := (0, sI M 9 4 0)) ⟨rfl, fun c hc => absurd hc (Nat.not_lt_zero _), gI_same _ _ _ _, fun q x h1 _ => gI_p h1, fun _ _ => rfl⟩
  have hf : ∀ q x, q ≠ 9 → gI (sI (sI (sI M1 9 6 0) 9 7 1) 9 5 (-1)) q x = gI M1 q x := fun q x hq => by rw [gI_p hq, gI_p hq, gI_p hq]
  obtain ⟨M', b1, b2, b3, b4, b5, b6⟩ := survey_new (M := sI (sI (sI M1 9 6 0) 9 7 1) 9 5 (-1)) (p := 9) hd (hl.fr (fun x => by rw [hf 7 x (by decide), a4 7 x (by decide) (by decide)])) hT (by decide) (by decide) (by rw [gI_k (by decide), gI_k (by decide), gI_k (by decide)]; exact a3) (gI_same _ _ _ _)
  refine ⟨M', ?_, ⟨fun c hc => ?_, ?_, b3, b2, b4, ?_, ?_⟩, fun q x h1 h2 h3 => ?_, fun q x => ?_⟩
  · rw [F_X1_begin, lets, bd1e a1]
    simp only [lets]
    rw [bd1e b1]
  · rw [b5 10 c (by decide) (by omega), hf 10 c (by decide)]
    exact a2 c hc
  · rw [b5 9 4 (by decide) (by omega), gI_k (by decide), gI_k (by decide), gI_k (by decide)]
    exact a3
  · rw [b5 9 6 (by decide) (by omega), gI_k (by decide), gI_k (by decide), gI_same]
    rfl
  · rw [b5 9 7 (by decide) (by omega), gI_k (by decide), gI_same]
  · rw [b5 q x h3 (by omega), hf q x h1, a4 q x h1 h2]
  · rw [b6, gJ_sI, gJ_sI, gJ_sI, a5]
theorem takeLaws_eq {lw : Nat → Option Nat} {M : Mem} {l : Nat} {K : Nat → Nat} (hl : l ≤ 6) (h36 : gI M 3 6 = nI l) (h6 : ∀ k, k < l → K k < 6 ∧ gI M 6 k = nI (K k)) : ∃ lw', F_X8_takeLaws lw M = some (lw', sI M 0 8 (nI l)) ∧ ∀ k, k < l → lw' k = some (55 + K k) := by
  have hmin : F_J9_min_7cf53 (nI l) (nI 6) = some (nI l) := by
    unfold F_J9_min_7cf53
    rw [if_neg (nI_nlt hl (by decide))]
  rw [F_X8_takeLaws, h36, bd1e hmin, lets]
  obtain ⟨r, e1, lw', e2, e3⟩ := loop_inv (f := X8_takeLaws_L21 (sI M 0 8 (nI l))) (fun i st => st.1 = nI i ∧ ∀ k, k < i → st.2 k = some (55 + K k)) (fun r => ∃ lw', r = (lw', sI M 0 8 (nI l)) ∧ ∀ k, k < l → lw' k = some (55 + K k)) l (fun i st hi hst => by
    obtain ⟨a, f⟩ := st
    obtain ⟨e1, e2⟩ := hst
    have e1 : a = nI i := e1
    subst e1
    have e2 : ∀ k, k < i → f k = some (55 + K k) := e2
    rw [X8_takeLaws_L21, gI_same]
    by_cases e : i = l
    · subst e
      rw [if_pos (Int32.le_refl _)]
      exact Or.inr ⟨_, rfl, f, rfl, e2⟩
    · obtain ⟨k1, k2⟩ := h6 i (by omega)
      have hk : F_X4_kindAt (sI M 0 8 (nI l)) (nI i) = some (nI (K i)) := by
        rw [F_X4_kindAt, if_neg (nneg i (by omega)), if_neg (nI_nleN (show i < 6 by omega) (by decide)), chk_pos (inb_nI (by omega) (by decide)), clN (by omega), gI_p (by decide), k2]
      have hfin : finC 13 (K i) = some (55 + K i) := by
        have : K i = 0 ∨ K i = 1 ∨ K i = 2 ∨ K i = 3 ∨ K i = 4 ∨ K i = 5 := by omega
        rcases this with z | z | z | z | z | z <;> rw [z] <;> rfl
      rw [if_neg (nI_nleN (by omega) (by omega)), bd1e hk, if_neg (nneg _ (by omega)), if_neg (nI_nleN k1 (by decide)), chk_pos (inb_nI k1 (by decide)), clN (by omega), hfin, lets, oc_s, chk_pos (isX3_law _ k1), chk_pos (inb_nI (by omega) (by decide)), clN (by omega)]
      simp only [lets]
      rw [nI_1]
      refine Or.inl ⟨by omega, _, rfl, rfl, fun k hk => ?_⟩
      show va_up f i (some (55 + K i)) k = _
      unfold va_up
      by_cases ek : k = i
      · rw [if_pos ek, ek]
      · rw [if_neg ek]
        exact e2 k (by omega)) (k := FU) (by show l < 200000; omega) (s := (0, lw)) ⟨rfl, fun k hk => absurd hk (Nat.not_lt_zero _)⟩
  subst e2
  exact ⟨lw', e1, e3⟩
theorem goImgs {lw : Nat → Option Nat} {M : Mem} : ∃ M', loop (X8_ground_L76 lw) FU (0, M) = some (gI M' 7 0, lw, M') ∧ (∀ k, k < 3 → gI M' (46 + 3 * k) 7 = 0) ∧ (∀ q x, (q < 46 ∨ 55 ≤ q) → gI M' q x = gI M q x) ∧ ∀ q x, gJ M' q x = gJ M q x := by
  obtain ⟨r, e1, M', e2, e3, e4, e5⟩ := loop_inv (f := X8_ground_L76 lw) (fun i st => st.1 = nI i ∧ (∀ k, k < i → gI st.2 (46 + 3 * k) 7 = 0) ∧ (∀ q x, (q < 46 ∨ 55 ≤ q) → gI st.2 q x = gI M q x) ∧ ∀ q x, gJ st.2 q x = gJ M q x) (fun r => ∃ M', r = (gI M' 7 0, lw, M') ∧ (∀ k, k < 3 → gI M' (46 + 3 * k) 7 = 0) ∧ (∀ q x, (q < 46 ∨ 55 ≤ q) → gI M' q x = gI M q x) ∧ ∀ q x, gJ M' q x = gJ M q x) 3 (fun i st hi hst => by
    obtain ⟨a, M1⟩ := st
    obtain ⟨e1, e2, e3, e4⟩ := hst
    have e1 : a = nI i := e1
    subst e1
    have e2 : ∀ k, k < i → gI M1 (46 + 3 * k) 7 = 0 := e2
    have e3 : ∀ q x, (q < 46 ∨ 55 ≤ q) → gI M1 q x = gI M q x := e3
    have e4 : ∀ q x, gJ M1 q x = gJ M q x := e4
    rw [X8_ground_L76]
    by_cases e : i = 3
    · subst e
      rw [if_pos (Int32.le_refl _)]
      exact Or.inr ⟨_, rfl, M1, rfl, e2, e3, e4⟩
    · have k1 : finC 12 i = some (46 + 3 * i) ∧ isX1 (46 + 3 * i) = true := by
        have : i = 0 ∨ i = 1 ∨ i = 2 := by omega
        rcases this with rfl | rfl | rfl <;> exact ⟨rfl, rfl⟩
      rw [if_neg (nI_nleN (by omega) (by decide)), chk_pos (inb_nI (by omega) (by decide)), clN (by omega), k1.1, lets, oc_s, chk_pos k1.2, F_X1_go, lets, bd1s, lets, nI_1]
      refine Or.inl ⟨by omega, _, rfl, rfl, fun k hk => ?_, fun q x hq => ?_, e4⟩
      · show gI (sI M1 (46 + 3 * i) 7 0) (46 + 3 * k) 7 = 0
        by_cases ek : k = i
        · subst ek; exact gI_same _ _ _ _
        · rw [gI_p (by omega)]; exact e2 k (by omega)
      · show gI (sI M1 (46 + 3 * i) 7 0) q x = _
        rw [gI_p (by omega)]; exact e3 q x hq) (k := FU) (by decide) (s := (0, M)) ⟨rfl, fun k hk => absurd hk (Nat.not_lt_zero _), fun _ _ _ => rfl, fun _ _ => rfl⟩
  subst e2
  exact ⟨M', e1, e3, e4, e5⟩
theorem pickV {b n : Nat} {f g : Nat → Int32} (h : ∀ i, i < n → okV b (f i) (g i)) : ∃ d : Nat → Nat, (∀ i, d i ≤ b) ∧ (∀ i, n ≤ i → d i = 0) ∧ ∀ i, i < n → f i = nI (d i) ∧ g i = nI (d i) := by
  have key : ∀ i, ∃ v, v ≤ b ∧ (n ≤ i → v = 0) ∧ (i < n → f i = nI v ∧ g i = nI v) := by
    intro i
    by_cases hi : i < n
    · obtain ⟨v, h1, h2, h3⟩ := h i hi
      exact ⟨v, h1, fun z => by omega, fun _ => ⟨h2, h3⟩⟩
    · exact ⟨0, Nat.zero_le _, fun _ => rfl, fun z => absurd z hi⟩
  exact ⟨fun i => (key i).choose, fun i => (key i).choose_spec.1, fun i => (key i).choose_spec.2.1, fun i => (key i).choose_spec.2.2⟩
theorem op_ground {lw : Nat → Option Nat} (tl tt : Option Nat) {M N : Mem} {t : Nat} (ht : t ≤ 3100) (h : Rel t lw M N) (a1 : Int32) : ∃ (r : Int32) (lw' : Nat → Option Nat) (M' : Mem) (N' : Mem), F_X8_ground lw M a1 = some (r, lw', M') ∧ F_X9_ground N a1 = some (r, N') ∧ Rel (t + 1) lw' M' N' := by
  rcases cut 4 (by decide) a1 with z | ⟨j, hj, rfl⟩
  · exact ⟨-1, lw, M, N, by rw [F_X8_ground, bd1e (textOf_no z), oc_n], by rw [F_X9_ground, bd2e (askedText_no z), if_neg (by decide)], h.up⟩
  · rcases h.2.2.1 j hj with ⟨e1, e2⟩ | ⟨n, en, e1, e2, e3⟩
    · exact ⟨-3, lw, fndC M 1, fndM N 1, by rw [F_X8_ground, bd1e (textOf_in hj), oc_s, chk_pos (isX5_txt hj), bd1e (missing_yes e1), if_neg n10, bd2e found1], by rw [F_X9_ground, bd2e (askedText_ms hj e2), if_neg (by decide)], h.found (by decide)⟩
    · obtain ⟨r, M1, N1, a1, a2, a3, a4, a5, a6, a7⟩ := parse_eq (h.tx hj en e1 e2 e3)
      rcases a7 with hr | ⟨rfl, p, q, w, l, w2, w4, q1, q4, l6, hpc, hpm, hdt⟩
      · exact ⟨-4, lw, M1, N1, by rw [F_X8_ground, bd1e (textOf_in hj), oc_s, chk_pos (isX5_txt hj), bd1e (missing_no e1 (by omega)), if_pos rfl, bd2e a1, if_neg hr], by rw [F_X9_ground, bd2e (askedText_in hj e2 en), if_pos (by decide), bd2e a2, if_neg hr], (h.rd a3 a4 a5 a6).up⟩
      · obtain ⟨m, hm⟩ : ∃ m, m = q * w := ⟨_, rfl⟩
        have hd : Dm m w := Or.inr ⟨w2, w4, q, q1, q4, hm⟩
        have hle := hd.le
        rw [← hm] at hpm hdt
        obtain ⟨b1, b2, b3, b4, b5, b6⟩ := hpc
        obtain ⟨c1, c2, c3, c4, c5, c6⟩ := hpm
        obtain ⟨t1, t2, t3⟩ := hdt
        obtain ⟨d, d1, d2, d3⟩ := pickV t1
        obtain ⟨gd, g1, g2, g3⟩ := pickV t2
        obtain ⟨K, K1, K2, K3⟩ := pickV t3
        have hDW : DW m d := ⟨d1, d2⟩
        have hg4 : ∀ x, gd x < 4 := fun x => by have := g1 x; omega
        have m0 : m ≠ 0 := by
          intro y
          rcases hd with ⟨_, y2⟩ | ⟨_, _, l', y3, _, y5⟩
          · omega
          · have := Nat.mul_le_mul y3 w2
            omega
        -- the class
        obtain ⟨M2, A1, A2, A3, A4, A5, A6, A7, A8⟩ := layOut_eq (gd := gd) hd hm w2 b2 b3 (fun x hx => (g3 x hx).1) hg4
        have hlc : LandC M2 m w := ⟨A2, A3, A4, by
          rw [A5]
          congr 1
          apply bs_congr
          intro i _
          have hmw := Nat.mod_lt i (show 0 < w by omega)
          by_cases z : i % w = w - 1
          · rw [decide_eq_true z, decide_eq_true (show i % w + 1 = w by omega)]
          · rw [decide_eq_false z, decide_eq_false (show ¬ i % w + 1 = w by omega)]⟩
        obtain ⟨M3, B1, B2, B3, B4⟩ := begin_eq (d := d) hd hlc hDW (fun c hc => by rw [A7 4 c (by decide) (by decide)]; exact (d3 c hc).1)
        obtain ⟨lw', C1, C2⟩ := takeLaws_eq (lw := lw) (M := M3) (K := K) l6 (by rw [B3 3 6 (by decide) (by decide) (by decide), A7 3 6 (by decide) (by decide)]; exact b4) (fun k hk => ⟨by have := K1 k; omega, by rw [B3 6 k (by decide) (by decide) (by decide), A7 6 k (by decide) (by decide)]; exact (K3 k hk).1⟩)
        obtain ⟨M5, D1, D2, D3, D4⟩ := goImgs (lw := lw') (M := sI (sI M3 0 8 (nI l)) 15 3 0)
        -- all that stays in the class
        have frC : ∀ q x, ¬ (3 ≤ q ∧ q ≤ 11) → ¬ (q = 0 ∧ x = 8) → ¬ (q = 15 ∧ x = 3) → (q < 46 ∨ 55 ≤ q) → gI M5 q x = gI M q x := fun q x h1 h2 h3 h4 => by
          rw [D3 q x h4, gI_sI, if_neg h3, gI_sI, if_neg h2, B3 q x (by omega) (by omega) (by omega), A7 q x (by omega) (by omega), b5 q x (by omega)]
        have frC2 : ∀ q x, 7 ≤ q → q ≤ 11 → gI M5 q x = gI M3 q x := fun q x h1 h2 => by
          rw [D3 q x (by omega), gI_p (by omega), gI_p (by omega)]
        have jC : ∀ q x, gJ M5 q x = gJ M q x := fun q x => by rw [D4, gJ_sI, gJ_sI, B4, A8, b6]
        have r70 : gI M5 7 0 = nI m := by rw [frC2 7 0 (by decide) (by decide), B3 7 0 (by decide) (by decide) (by decide)]; exact A2
        -- the model
        have N2a : gI (sI (sI (sI N1 0 11 (nI m)) 0 10 (nI w)) 0 12 (nI l)) 0 11 = nI m := by rw [gI_k (by decide), gI_k (by decide), gI_same]
        have N2b : gI (sI (sI (sI N1 0 11 (nI m)) 0 10 (nI w)) 0 12 (nI l)) 0 10 = nI w := by rw [gI_k (by decide), gI_same]
        have N2c : gI (sI (sI (sI N1 0 11 (nI m)) 0 10 (nI w)) 0 12 (nI l)) 0 12 = nI l := gI_same _ _ _ _
        have N2f : ∀ q x, ¬ (q = 0 ∧ 10 ≤ x ∧ x ≤ 12) → gI (sI (sI (sI N1 0 11 (nI m)) 0 10 (nI w)) 0 12 (nI l)) q x = gI N1 q x := fun q x hx => by
          rw [gI_sI, if_neg (by omega), gI_sI, if_neg (by omega), gI_sI, if_neg (by omega)]
        have N2j : ∀ q x, gJ (sI (sI (sI N1 0 11 (nI m)) 0 10 (nI w)) 0 12 (nI l)) q x = gJ N1 q x := fun _ _ => rfl
        have hMg : F_X9_ground N (nI j) = (bd1 (loop X9_ground_L51 FU (0, sI (sI (sI N1 0 11 (nI m)) 0 10 (nI w)) 0 12 (nI l))) fun M_24 => bd1 (loop (X9_ground_L89) FU (0, M_24)) fun M_36 => bd1 (loop (X9_ground_L129) FU (0, M_36)) fun M_43 => lett (sI M_43 0 16 0) fun M_44 => lett (sI M_44 0 26 0) fun M_46 => loop (X9_ground_L170) FU (0, M_46)) := by
          rw [F_X9_ground, bd2e (askedText_in hj e2 en), if_pos (by decide), bd2e a2, if_pos rfl, c3, lets, gI_k (show (18 : Nat) ≠ 11 by decide), c2, lets, gI_k (show (20 : Nat) ≠ 10 by decide), gI_k (show (20 : Nat) ≠ 11 by decide), c4, lets]
        generalize sI (sI (sI N1 0 11 (nI m)) 0 10 (nI w)) 0 12 (nI l) = N2 at N2a N2b N2c N2f N2j hMg
        have wf7 : ∀ i q x, q ≠ 7 → gI (wrs N2 7 0 (fun c => nI (d c)) i) q x = gI N2 q x := fun i q x hq => by rw [gI_wrs, if_neg (fun z => hq z.1)]
        have E1 : loop X9_ground_L51 FU (0, N2) = some (wrs N2 7 0 (fun c => nI (d c)) 16) := by
          refine loop_fn' (fun i => (nI i, wrs N2 7 0 (fun c => nI (d c)) i)) 16 rfl (fun i hi => ?_) ?_ (by decide)
          · show X9_ground_L51 (_, _) = _
            rw [X9_ground_L51, if_neg (nI_nleN hi (by decide)), wf7 i 0 11 (by decide), N2a, wf7 i 10 _ (by decide)]
            by_cases z : m ≤ i
            · rw [if_pos (nI_le z (by omega)), chk_pos (inb_nI hi (by decide)), clN (by omega)]
              simp only [lets]
              rw [nI_1, wrs, Nat.zero_add, d2 i z]
              rfl
            · rw [if_neg (nI_nleN (by omega) (by omega)), chk_pos (inb_nI (by omega) (by decide)), chk_pos (inb_nI hi (by decide)), clN (by omega), N2f 10 i (by omega), (d3 i (by omega)).2]
              simp only [lets]
              rw [nI_1, wrs, Nat.zero_add]
          · show X9_ground_L51 (_, _) = _
            rw [X9_ground_L51, if_pos (nI_le (Nat.le_refl _) (by decide))]
        have F3 : ∀ q x, q ≠ 7 → gI (wrs N2 7 0 (fun c => nI (d c)) 16) q x = gI N2 q x := fun q x hq => by rw [gI_wrs, if_neg (fun z => hq z.1)]
        have F3d : ∀ c, c < 16 → gI (wrs N2 7 0 (fun c => nI (d c)) 16) 7 c = nI (d c) := fun c hc => by rw [gI_wrs, if_pos (by omega), Nat.sub_zero]
        have F3j : ∀ q x, gJ (wrs N2 7 0 (fun c => nI (d c)) 16) q x = gJ N2 q x := fun q x => gJ_wrs _ _ _ _ _ _ _
        rw [bd1e E1] at hMg
        generalize wrs N2 7 0 (fun c => nI (d c)) 16 = N3 at F3 F3d F3j hMg
        have wf8 : ∀ i q x, q ≠ 8 → gI (wrs N3 8 0 (fun c => nI (gd c)) i) q x = gI N3 q x := fun i q x hq => by rw [gI_wrs, if_neg (fun z => hq z.1)]
        have E2 : loop X9_ground_L89 FU (0, N3) = some (wrs N3 8 0 (fun c => nI (gd c)) 4) := by
          refine loop_fn' (fun i => (nI i, wrs N3 8 0 (fun c => nI (gd c)) i)) 4 rfl (fun i hi => ?_) ?_ (by decide)
          · show X9_ground_L89 (_, _) = _
            rw [X9_ground_L89, if_neg (nI_nleN hi (by decide)), wf8 i 0 10 (by decide), F3 0 10 (by decide), N2b, nI_add, wf8 i 10 _ (by decide)]
            by_cases z : w ≤ i
            · rw [if_pos (nI_le z (by omega)), chk_pos (inb_nI hi (by decide)), clN (by omega)]
              simp only [lets]
              rw [nI_1, wrs, Nat.zero_add, g2 i z]
              rfl
            · rw [if_neg (nI_nleN (by omega) (by omega)), chk_pos (inb_nI (by omega) (by decide)), chk_pos (inb_nI hi (by decide)), clN (by omega), clN (by omega), F3 10 _ (by decide), N2f 10 _ (by omega), (g3 i (by omega)).2]
              simp only [lets]
              rw [nI_1, wrs, Nat.zero_add]
          · show X9_ground_L89 (_, _) = _
            rw [X9_ground_L89, if_pos (nI_le (Nat.le_refl _) (by decide))]
        have F4 : ∀ q x, q ≠ 8 → gI (wrs N3 8 0 (fun c => nI (gd c)) 4) q x = gI N3 q x := fun q x hq => by rw [gI_wrs, if_neg (fun z => hq z.1)]
        have F4d : ∀ c, c < 4 → gI (wrs N3 8 0 (fun c => nI (gd c)) 4) 8 c = nI (gd c) := fun c hc => by rw [gI_wrs, if_pos (by omega), Nat.sub_zero]
        have F4j : ∀ q x, gJ (wrs N3 8 0 (fun c => nI (gd c)) 4) q x = gJ N3 q x := fun q x => gJ_wrs _ _ _ _ _ _ _
        rw [bd1e E2] at hMg
        generalize wrs N3 8 0 (fun c => nI (gd c)) 4 = N4 at F4 F4d F4j hMg
        have n412 : gI N4 0 12 = nI l := by rw [F4 0 12 (by decide), F3 0 12 (by decide)]; exact N2c
        have wf9 : ∀ i q x, q ≠ 9 → gI (wrs N4 9 0 (fun c => nI (K c)) i) q x = gI N4 q x := fun i q x hq => by rw [gI_wrs, if_neg (fun z => hq z.1)]
        have E3 : loop X9_ground_L129 FU (0, N4) = some (wrs N4 9 0 (fun c => nI (K c)) l) := by
          refine loop_fn' (fun i => (nI i, wrs N4 9 0 (fun c => nI (K c)) i)) l rfl (fun i hi => ?_) ?_ (by show l < 200000; omega)
          · show X9_ground_L129 (_, _) = _
            rw [X9_ground_L129, wf9 i 0 12 (by decide), n412, if_neg (nI_nleN hi (by omega)), nI_add, chk_pos (inb_nI (by omega) (by decide)), chk_pos (inb_nI (by omega) (by decide)), clN (by omega), clN (by omega), wf9 i 10 _ (by decide), F4 10 _ (by decide), F3 10 _ (by decide), N2f 10 _ (by omega), (K3 i hi).2]
            simp only [lets]
            rw [nI_1, wrs, Nat.zero_add]
          · show X9_ground_L129 (_, _) = _
            rw [X9_ground_L129, wf9 l 0 12 (by decide), n412, if_pos (nI_le (Nat.le_refl _) (by omega))]
        have F5 : ∀ q x, q ≠ 9 → gI (wrs N4 9 0 (fun c => nI (K c)) l) q x = gI N4 q x := fun q x hq => by rw [gI_wrs, if_neg (fun z => hq z.1)]
        have F5d : ∀ c, c < l → gI (wrs N4 9 0 (fun c => nI (K c)) l) 9 c = nI (K c) := fun c hc => by rw [gI_wrs, if_pos (by omega), Nat.sub_zero]
        have F5j : ∀ q x, gJ (wrs N4 9 0 (fun c => nI (K c)) l) q x = gJ N4 q x := fun q x => gJ_wrs _ _ _ _ _ _ _
        rw [bd1e E3] at hMg
        generalize wrs N4 9 0 (fun c => nI (K c)) l = N5 at F5 F5d F5j hMg
        have F6 : ∀ q x, ¬ (q = 0 ∧ (x = 16 ∨ x = 26)) → gI (sI (sI N5 0 16 0) 0 26 0) q x = gI N5 q x := fun q x hx => by rw [gI_sI, if_neg (by omega), gI_sI, if_neg (by omega)]
        have F6a : gI (sI (sI N5 0 16 0) 0 26 0) 0 16 = nI 0 := by rw [gI_k (by decide), gI_same]; rfl
        have F6b : gI (sI (sI N5 0 16 0) 0 26 0) 0 26 = nI 0 := by rw [gI_same]; rfl
        have F6j : ∀ q x, gJ (sI (sI N5 0 16 0) 0 26 0) q x = gJ N5 q x := fun _ _ => rfl
        rw [lets, lets] at hMg
        generalize sI (sI N5 0 16 0) 0 26 0 = N6 at F6 F6a F6b F6j hMg
        have n611 : gI N6 0 11 = nI m := by rw [F6 0 11 (by omega), F5 0 11 (by decide), F4 0 11 (by decide), F3 0 11 (by decide)]; exact N2a
        have E4 : loop X9_ground_L170 FU (0, N6) = some (nI m, wrs N6 14 0 (fun _ => 0) 3) := by
          refine loop_fn' (fun i => (nI i, wrs N6 14 0 (fun _ => 0) i)) 3 rfl (fun i hi => ?_) ?_ (by decide)
          · show X9_ground_L170 (_, _) = _
            rw [X9_ground_L170, if_neg (nI_nleN hi (by decide)), chk_pos (inb_nI hi (by decide)), clN (by omega)]
            simp only [lets]
            rw [nI_1, wrs, Nat.zero_add]
          · show X9_ground_L170 (_, _) = _
            rw [X9_ground_L170, if_pos (nI_le (Nat.le_refl _) (by decide)), show gI (wrs N6 14 0 (fun _ => 0) 3) 0 11 = gI N6 0 11 from by rw [gI_wrs, if_neg (by omega)], n611]
        have F7 : ∀ q x, q ≠ 14 → gI (wrs N6 14 0 (fun _ => 0) 3) q x = gI N6 q x := fun q x hq => by rw [gI_wrs, if_neg (fun z => hq z.1)]
        have F7d : ∀ c, c < 3 → gI (wrs N6 14 0 (fun _ => 0) 3) 14 c = 0 := fun c hc => by rw [gI_wrs, if_pos (by omega)]
        have F7j : ∀ q x, gJ (wrs N6 14 0 (fun _ => 0) 3) q x = gJ N6 q x := fun q x => gJ_wrs _ _ _ _ _ _ _
        rw [E4] at hMg
        generalize wrs N6 14 0 (fun _ => 0) 3 = N7 at F7 F7d F7j hMg
        have frM : ∀ q x, ¬ (7 ≤ q ∧ q ≤ 10) → q ≠ 14 → ¬ (q = 0 ∧ (10 ≤ x ∧ x ≤ 12 ∨ 16 ≤ x ∧ x ≤ 20 ∨ x = 26)) → gI N7 q x = gI N q x := fun q x h1 h2 h3 => by
          rw [F7 q x h2, F6 q x (by omega), F5 q x (by omega), F4 q x (by omega), F3 q x (by omega), N2f q x (by omega), c5 q x (by omega) (by omega)]
        have jM : ∀ q x, gJ N7 q x = gJ N q x := fun q x => by rw [F7j, F6j, F5j, F4j, F3j, N2j, c6]
        refine ⟨nI m, lw', M5, N7, ?_, hMg, ?_⟩
        · rw [F_X8_ground, bd1e (textOf_in hj), oc_s, chk_pos (isX5_txt hj), bd1e (missing_no e1 (by omega)), if_pos rfl, bd2e a1, if_pos rfl, bd1e A1, bd1e B1, bd2e C1, F_X0_forget, lets, bd1s, D1, r70]
        · have aC : ∀ {S : Nat → Nat → Bool}, (∀ p x, 3 ≤ p → p ≤ 11 → S p x = false) → S 0 8 = false → S 15 3 = false → (∀ p x, 46 ≤ p → p < 55 → S p x = false) → agr S M M5 := fun s1 s2 s3 s4 p x hp => by
            refine frC p x ?_ ?_ ?_ ?_
            · intro y; rw [s1 p x y.1 y.2] at hp; cases hp
            · rintro ⟨rfl, rfl⟩; rw [s2] at hp; cases hp
            · rintro ⟨rfl, rfl⟩; rw [s3] at hp; cases hp
            · by_cases y : p < 46
              · exact Or.inl y
              · by_cases y2 : p < 55
                · rw [s4 p x (by omega) y2] at hp; cases hp
                · exact Or.inr (by omega)
          have aM : ∀ {S : Nat → Nat → Bool}, (∀ p x, 7 ≤ p → p ≤ 10 → S p x = false) → (∀ x, S 14 x = false) → (∀ x, (10 ≤ x ∧ x ≤ 12 ∨ 16 ≤ x ∧ x ≤ 20 ∨ x = 26) → S 0 x = false) → agr S N N7 := fun s1 s2 s3 p x hp => by
            refine frM p x ?_ ?_ ?_
            · intro y; rw [s1 p x y.1 y.2] at hp; cases hp
            · rintro rfl; rw [s2] at hp; cases hp
            · rintro ⟨rfl, y⟩; rw [s3 x y] at hp; cases hp
          obtain ⟨hla0, -⟩ := h.laws
          refine ⟨h.1.fr (aC (fun p x _ _ => ?_) rfl rfl (fun p x _ _ => ?_)) (aM (fun p x _ _ => ?_) (fun _ => rfl) (fun x hx => ?_)) (jC _ _) (jC _ _) (jM _ _) (jM _ _), h.2.1.fr (aC (fun p x _ _ => ?_) rfl rfl (fun p x _ _ => ?_)) (aM (fun p x _ _ => ?_) (fun _ => rfl) (fun x hx => rfl)), h.2.2.1.fr (aC (fun p x _ _ => ?_) rfl rfl (fun p x _ _ => ?_)) (aM (fun p x _ _ => ?_) (fun _ => rfl) (fun x hx => rfl)), m, w, gd, d, 0, hd, hDW, Nat.zero_le _, ⟨r70, ?_, ?_, ?_, ?_, ?_, hg4, fun x hx => ?_, fun pr hpr => ?_⟩, ?_, ⟨fun c hc => ?_, ?_⟩, fun k hk => Or.inl ⟨D2 k hk, F7d k hk⟩, ⟨0, fun _ => d, fun _ => 0, by omega, ?_, ?_, rfl, rfl, fun i hi => absurd hi (Nat.not_lt_zero _), fun i hi => absurd hi (Nat.not_lt_zero _)⟩, ⟨fun k hk => ?_, l, K, l6, ?_, ?_, fun k hk => ⟨by have := K1 k; omega, C2 k hk, ?_⟩⟩⟩
          · simp [sToC]; omega
          · simp [sToC]; omega
          · simp [sToM]; omega
          · simp [sToM]; omega
          · simp [sRwC]; omega
          · simp [sRwC]; omega
          · simp [sRwM]; omega
          · simp [sTxC]; omega
          · simp [sTxC]; omega
          · simp [sTxM]; omega
          · rw [frC2 7 1 (by decide) (by decide), B3 7 1 (by decide) (by decide) (by decide)]; exact A3
          · rw [F7 0 11 (by decide)]; exact n611
          · rw [F7 0 10 (by decide), F6 0 10 (by omega), F5 0 10 (by decide), F4 0 10 (by decide), F3 0 10 (by decide)]; exact N2b
          · rw [frC2 7 2 (by decide) (by decide), B3 7 2 (by decide) (by decide) (by decide)]; exact A4
          · rw [frC2 7 3 (by decide) (by decide), B3 7 3 (by decide) (by decide) (by decide)]; exact hlc.2.2.2
          · rw [F7 8 x (by decide), F6 8 x (by omega), F5 8 x (by decide)]; exact F4d x hx
          · rw [frC2 8 pr (by decide) (by decide), B3 8 pr (by decide) (by decide) (by decide)]; exact A6 pr hpr
          · rw [if_neg m0]
            exact B2.fr (fun x => frC2 9 x (by decide) (by decide)) (fun x => frC2 10 x (by decide) (by decide)) (fun x => frC2 11 x (by decide) (by decide))
          · rw [F7 7 c (by decide), F6 7 c (by omega), F5 7 c (by decide), F4 7 c (by decide)]; exact F3d c hc
          · rw [F7 0 16 (by decide)]; exact F6a
          · rw [D3 15 3 (by omega), gI_same]; rfl
          · rw [F7 0 26 (by decide)]; exact F6b
          · rw [frC (55 + k) 0 (by omega) (by omega) (by omega) (by omega)]; exact hla0 k hk
          · rw [D3 0 8 (by omega), gI_p (by decide), gI_same]
          · rw [F7 0 12 (by decide), F6 0 12 (by omega), F5 0 12 (by decide)]; exact n412
          · rw [F7 9 k (by decide), F6 9 k (by omega)]; exact F5d k hk
