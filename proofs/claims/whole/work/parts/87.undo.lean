/-! ===== undo ===== -/
theorem i32_back {a b x : Int32} (h : a = b + x) : b = a + (-x) := by
  rw [h, Int32.add_assoc, Int32.add_right_neg, Int32.add_zero]
theorem back_eq {M : Mem} {m w q a : Nat} {D : Nat → Nat → Nat} {E : Nat → Nat} {th : Int32} (hd : Dm m w) (hl : LandC M m w) (hq : q ≤ 40) (ha : a ≤ q) (hw : ∀ i, i ≤ q → DW m (D i)) (hg : GrC M 9 m w (D q) (E q) th) (h15 : gI M 15 3 = nI q) (d7 : ∀ i, i < q → Dstep M i (D i) (D (i + 1)) (E i) (E (i + 1))) : ∃ M', F_X0_takeBack M 9 (nI a) = some (nI (q - a), M') ∧ GrC M' 9 m w (D a) (E a) th ∧ gI M' 15 3 = nI a ∧ (∀ r x, (r < 9 ∨ 12 ≤ r) → ¬ (r = 15 ∧ x = 3) → gI M' r x = gI M r x) ∧ ∀ r x, gJ M' r x = gJ M r x := by
  have hmin : F_J9_min_7cf53 (gI M 15 3) (nI 40) = some (nI q) := by
    unfold F_J9_min_7cf53
    rw [h15, if_neg (by rw [nI_ltI (by decide) (by omega)]; omega)]
  rw [F_X0_takeBack, bd1e hmin, lets]
  obtain ⟨r, e1, e2, e3, e4, e5, e6⟩ := loop_inv (f := X0_takeBack_L15 9 (nI a)) (fun i st => st.1 = nI i ∧ st.2.1 = nI (q - i) - 1 ∧ GrC st.2.2 9 m w (D (q - i)) (E (q - i)) th ∧ (∀ r x, (r < 9 ∨ 12 ≤ r) → gI st.2.2 r x = gI M r x) ∧ ∀ r x, gJ st.2.2 r x = gJ M r x) (fun r => r.1 = nI (q - a) ∧ GrC r.2 9 m w (D a) (E a) th ∧ gI r.2 15 3 = nI a ∧ (∀ p x, (p < 9 ∨ 12 ≤ p) → ¬ (p = 15 ∧ x = 3) → gI r.2 p x = gI M p x) ∧ ∀ p x, gJ r.2 p x = gJ M p x) (q - a) (fun i st hi hst => by
    obtain ⟨y, z, X⟩ := st
    obtain ⟨a1, a2, a3, a4, a5⟩ := hst
    have a1 : y = nI i := a1
    have a2 : z = nI (q - i) - 1 := a2
    have a3 : GrC X 9 m w (D (q - i)) (E (q - i)) th := a3
    have a4 : ∀ r x, (r < 9 ∨ 12 ≤ r) → gI X r x = gI M r x := a4
    have a5 : ∀ r x, gJ X r x = gJ M r x := a5
    subst a1 a2
    rw [X0_takeBack_L15]
    by_cases e : i = q - a
    · have e' : q - i = a := by omega
      rw [e'] at a3 ⊢
      have hlt : nI a - 1 < nI a := by
        by_cases a0 : a = 0
        · subst a0; decide
        · rw [nI_s1 (by omega)]; exact nI_lt (by omega) (by omega)
      rw [if_pos hlt, lets, a4 15 3 (by omega), h15, nI_subN (show i ≤ q by omega), e']
      refine Or.inr ⟨_, rfl, by rw [e], a3.fr (fun x => gI_p (by decide)) (fun x => gI_p (by decide)) (fun x => gI_p (by decide)), gI_same _ _ _ _, fun p x h1 h2 => ?_, fun p x => ?_⟩
      · show gI (sI X 15 3 _) p x = _
        rw [gI_sI, if_neg h2, a4 p x h1]
      · show gJ (sI X 15 3 _) p x = _
        rw [gJ_sI, a5]
    · refine Or.inl ⟨by omega, ?_⟩
      obtain ⟨B, y1, y2, y3, y4⟩ := d7 (q - i - 1) (by omega)
      have e' : q - i - 1 + 1 = q - i := by omega
      rw [e'] at y3 y4
      rw [nI_s1 (show 1 ≤ q - i by omega), if_neg (by rw [nI_ltI (by omega) (by omega)]; omega), if_neg (nneg _ (by omega)), chk_pos (inb_nI (by omega) (by decide)), chk_pos (inb_nI (by omega) (by decide)), chk_pos (inb_nI (by omega) (by decide)), clN (by omega), a4 16 _ (by omega), a4 17 _ (by omega), a4 18 _ (by omega), y2]
      obtain ⟨M', b0, b1, b2, b3⟩ := change_eq (M := X) (p := 9) (d' := D (q - i - 1)) (e' := E (q - i - 1)) (x2 := -(gI M 17 (q - i - 1))) (x3 := -(gI M 18 (q - i - 1))) hd (hl.fr (fun x => a4 7 x (by omega))) (hw (q - i) (by omega)) (hw (q - i - 1) (by omega)) (by decide) y1 a3 (fun c hc => by
        have := y3 c hc
        cases eb : B.testBit c
        · rw [eb] at this
          rw [if_neg (by decide)]
          rw [if_neg (by decide)] at this
          exact this.symm
        · rw [eb, if_pos rfl] at this
          rw [if_pos rfl]
          exact i32_back this) (i32_back y4)
      rw [bd1e b0]
      simp only [lets]
      rw [nI_1, show nI (q - i - 1) + (-1) = nI (q - i - 1) - 1 from (Int32.sub_eq_add_neg _ _).symm]
      refine ⟨_, rfl, rfl, by rw [show q - (i + 1) = q - i - 1 by omega], ?_, fun p x hp => ?_, fun p x => ?_⟩
      · show GrC M' 9 m w _ _ th
        rw [show q - (i + 1) = q - i - 1 by omega]
        exact b1
      · show gI M' p x = _
        rw [b2 p x (by omega) (by omega) (by omega), a4 p x hp]
      · show gJ M' p x = _
        rw [b3, a5]) (k := FU) (by show q - a < 200000; omega) (s := (0, nI q - 1, M)) ⟨rfl, rfl, hg, fun _ _ _ => rfl, fun _ _ => rfl⟩
  obtain ⟨x, M'⟩ := r
  have e2 : x = _ := e2
  subst e2
  exact ⟨M', e1, e3, e4, e5, e6⟩
theorem op_undo {lw : Nat → Option Nat} (tl tt : Option Nat) {M N : Mem} {t : Nat} (ht : t ≤ 3100) (h : Rel t lw M N) (a1 : Int32) : ∃ (r : Int32) (M' : Mem) (N' : Mem), F_X8_undo M a1 = some (r, M') ∧ F_X9_undo N a1 = some (r, N') ∧ Rel (t + 1) lw M' N' := by
  have hR := h.up
  obtain ⟨hto, hro, htx, m, w, gd, d, e, hd, hw, he, hl, hg, hm, hi, hdd, hla⟩ := h
  obtain ⟨q, D, E, d1, d2, d3, d4, d5, d6, d7⟩ := hdd
  rcases cut (q + 1) (by omega) a1 with z | ⟨a, ha, rfl⟩
  · refine ⟨-1, M, N, ?_, ?_, hR⟩
    · rw [F_X8_undo]
      by_cases y : a1 < 0
      · rw [if_pos y]
      · rw [if_neg y, F_X0_size, bd1s, d2, if_neg (nle_of_le (z.resolve_left y) (by omega))]
    · rw [F_X9_undo, d3, bd1e (in_no (z.imp_right (fun y => lt_of_le y (by omega)))), if_pos rfl]
  · have hDW : ∀ i, i ≤ q → DW m (D i) := fun i hi => by
      by_cases ei : i = q
      · subst ei; rw [d4]; exact hw
      · exact (d6 i (by omega)).1
    obtain ⟨M', b0, b1, b2, b3, b4⟩ := back_eq (a := a) hd hl.c d1 (by omega) hDW (by rw [d4, d5]; exact hg) d2 d7
    have hC : F_X8_undo M (nI a) = some (nI (q - a), M') := by
      rw [F_X8_undo, if_neg (nneg a (by omega)), F_X0_size, bd1s, d2, if_pos (nI_le (by omega) (by omega)), bd2e b0]
    have hEa : E a ≤ t := by
      by_cases ei : a = q
      · subst ei; rw [d5]; exact he
      · exact (d6 a (by omega)).2.1
    have hin : F_X9_in (nI a) 0 (gI N 0 26) = some 1 := by
      rw [d3]
      exact in_yes (nneg a (by omega)) (by rw [nI_ltI (by omega) (by omega)]; omega)
    -- what stays
    have key : ∀ N', (∀ c, c < 16 → gI N' 7 c = nI (D a c)) → gI N' 0 16 = nI (E a) → gI N' 0 26 = nI a → (∀ r x, r ≠ 7 → ¬ (r = 0 ∧ (x = 16 ∨ x = 26)) → gI N' r x = gI N r x) → (∀ r x, gJ N' r x = gJ N r x) → Rel (t + 1) lw M' N' := by
      intro N' c1 c2 c3 c4 c5
      have aM : ∀ {S : Nat → Nat → Bool}, (∀ p x, 9 ≤ p → p < 12 → S p x = false) → S 15 3 = false → agr S M M' := fun s1 s2 p x hp => b3 p x (by
        by_cases y : p < 9
        · exact Or.inl y
        · by_cases y2 : p < 12
          · rw [s1 p x (by omega) y2] at hp; cases hp
          · exact Or.inr (by omega)) (by rintro ⟨rfl, rfl⟩; rw [s2] at hp; cases hp)
      have aN : ∀ {S : Nat → Nat → Bool}, (∀ x, S 7 x = false) → S 0 16 = false → S 0 26 = false → agr S N N' := fun s1 s5 s6 p x hp => c4 p x (by rintro rfl; rw [s1] at hp; cases hp) (by
        rintro ⟨rfl, rfl | rfl⟩
        · rw [s5] at hp; cases hp
        · rw [s6] at hp; cases hp)
      refine ⟨hto.fr (aM (fun p x _ _ => ?_) rfl) (aN (fun _ => rfl) rfl rfl) (b4 _ _) (b4 _ _) (c5 _ _) (c5 _ _), hro.fr (aM (fun p x _ _ => ?_) rfl) (aN (fun _ => rfl) rfl rfl), htx.fr (aM (fun p x _ _ => ?_) rfl) (aN (fun _ => rfl) rfl rfl), m, w, gd, D a, E a, hd, hDW a (by omega), by omega, hl.fr2 (aM (fun p x _ _ => ?_) rfl) (aN (fun _ => rfl) rfl rfl), b1, ⟨c1, c2⟩, fun k hk => ((hi k hk).fr2 (fun r x h1 h2 => b3 r x (by omega) (by omega)) (c4 14 k (by decide) (by omega)) (fun x hx => c4 15 _ (by decide) (by omega))).up, ⟨a, D, E, by omega, b2, c3, rfl, rfl, fun i hi => ?_, fun i hi => ?_⟩, hla.fr2 (aM (fun p x _ _ => ?_) rfl) (aN (fun _ => rfl) rfl rfl)⟩
      · simp [sToC]; omega
      · simp [sRwC]; omega
      · simp [sTxC]; omega
      · simp [sLC]; omega
      · obtain ⟨y1, y2, y3⟩ := d6 i (by omega)
        exact ⟨y1, by omega, y3.fr (fun x => c4 13 x (by decide) (by omega))⟩
      · obtain ⟨B', y1, y2, y3, y4⟩ := d7 i (by omega)
        exact ⟨B', y1, by rw [b3 16 i (by omega) (by omega)]; exact y2, by rw [b3 17 i (by omega) (by omega)]; exact y3, by rw [b3 18 i (by omega) (by omega)]; exact y4⟩
      · simp [sLC]; omega
    by_cases eq : a = q
    · subst eq
      refine ⟨nI (a - a), M', N, hC, ?_, key N ?_ ?_ d3 (fun _ _ _ _ => rfl) (fun _ _ => rfl)⟩
      · rw [F_X9_undo, bd1e hin, if_neg n10, d3, nI_subN (Nat.le_refl _), lets, Nat.sub_self, if_pos (by decide)]
      · rw [d4]; exact hm.1
      · rw [d5]; exact hm.2
    · have hal : alM 13 = 680 := rfl
      obtain ⟨y1, y2, y3⟩ := d6 a (by omega)
      have c0 := readBack_eq (N := N) (p := 13) (b := 17 * a) (by omega) (by decide) (by decide)
      refine ⟨nI (q - a), M', _, hC, by rw [F_X9_undo, bd1e hin, if_neg n10, d3, nI_subN (by omega), lets, if_neg (nI_nle (by omega) (by omega)), n17, bd1e c0, lets], key _ (fun c hc => ?_) ?_ (gI_same _ _ _ _) (fun r x h1 h2 => ?_) (fun r x => ?_)⟩
      · rw [gI_p (by decide), gI_p (by decide), gI_wrs, if_pos (by omega), Nat.sub_zero]
        exact y3.1 c hc
      · rw [gI_k (by decide), gI_same]
        exact y3.2
      · rw [gI_sI, if_neg (by omega), gI_sI, if_neg (by omega), gI_wrs, if_neg (fun y => h1 y.1)]
      · rw [gJ_sI, gJ_sI, gJ_wrs]
