/-! ===== perform, note; dig, fill ===== -/
theorem full_no {M : Mem} {q : Nat} (h : gI M 15 3 = nI q) (hq : q < 40) : F_X0_areFull M = some 0 := by
  unfold F_X0_areFull
  rw [h, if_pos (nI_lt hq (by decide))]
theorem full_yes {M : Mem} (h : gI M 15 3 = nI 40) : F_X0_areFull M = some 1 := by
  unfold F_X0_areFull
  rw [h, if_neg (by decide)]
theorem perform_eq {M : Mem} {m w B q : Nat} {d d' : Nat → Nat} {e e' : Nat} {th x2 x3 : Int32} (hd : Dm m w) (hl : LandC M m w) (hw : DW m d) (hw' : DW m d') (hB : B < 2 ^ 16) (hg : GrC M 9 m w d e th) (hs : ∀ c, c < 16 → nI (d' c) = if B.testBit c then nI (d c) + x2 else nI (d c)) (he : nI e' = nI e + x3) (hq : q < 40) (h15 : gI M 15 3 = nI q) : ∃ M', F_X0_perform M 9 (nI B) x2 x3 = some M' ∧ GrC M' 9 m w d' e' th ∧ gI M' 15 3 = nI (q + 1) ∧ gI M' 16 q = nI B ∧ gI M' 17 q = x2 ∧ gI M' 18 q = x3 ∧ (∀ r x, (r < 9 ∨ 12 ≤ r) → ¬ (r = 15 ∧ x = 3) → ¬ ((r = 16 ∨ r = 17 ∨ r = 18) ∧ x = q) → gI M' r x = gI M r x) ∧ ∀ r x, gJ M' r x = gJ M r x := by
  have a : ∀ r x, (r < 15 ∨ 19 ≤ r) → gI (sI (sI (sI (sI M 16 q (nI B)) 17 q x2) 18 q x3) 15 3 (nI (q + 1))) r x = gI M r x := fun r x hr => by
    rw [gI_p (by omega), gI_p (by omega), gI_p (by omega), gI_p (by omega)]
  obtain ⟨M', b0, b1, b2, b3⟩ := change_eq (M := sI (sI (sI (sI M 16 q (nI B)) 17 q x2) 18 q x3) 15 3 (nI (q + 1))) (p := 9) hd (hl.fr (fun x => a 7 x (by omega))) hw hw' (by decide) hB (hg.fr (fun x => a 9 x (by omega)) (fun x => a 10 x (by omega)) (fun x => a 11 x (by omega))) hs he
  refine ⟨M', ?_, b1, ?_, ?_, ?_, ?_, fun r x h1 h2 h3 => ?_, fun r x => ?_⟩
  · have z1 : ∀ v, gI (sI M 16 q v) 15 3 = nI q := fun v => by rw [gI_p (by decide)]; exact h15
    have z2 : ∀ v v', gI (sI (sI M 16 q v) 17 q v') 15 3 = nI q := fun v v' => by rw [gI_p (by decide)]; exact z1 v
    have z3 : ∀ v v' v'', gI (sI (sI (sI M 16 q v) 17 q v') 18 q v'') 15 3 = nI q := fun v v' v'' => by rw [gI_p (by decide)]; exact z2 v v'
    rw [F_X0_perform, h15, if_neg (nneg q (by omega)), bd1e (full_no h15 hq), if_pos rfl, chk_pos (inb_nI hq (by decide)), lets, clN (by omega), z1, chk_pos (inb_nI hq (by decide)), lets, clN (by omega), z2, chk_pos (inb_nI hq (by decide)), lets, clN (by omega), z3, lets, nI_1, bd1e b0]
  · rw [b2 15 3 (by decide) (by decide) (by decide), gI_same]
  · rw [b2 16 q (by decide) (by decide) (by decide), gI_p (by decide), gI_p (by decide), gI_p (by decide), gI_same]
  · rw [b2 17 q (by decide) (by decide) (by decide), gI_p (by decide), gI_p (by decide), gI_same]
  · rw [b2 18 q (by decide) (by decide) (by decide), gI_p (by decide), gI_same]
  · rw [b2 r x (by omega) (by omega) (by omega), gI_sI, if_neg h2, gI_sI, if_neg (by omega), gI_sI, if_neg (by omega), gI_sI, if_neg (by omega)]
  · rw [b3, gJ_sI, gJ_sI, gJ_sI, gJ_sI]
theorem note_eq {N : Mem} {q : Nat} {d : Nat → Nat} {e : Nat} (hq : q < 40) (h26 : gI N 0 26 = nI q) (h7 : ∀ c, c < 16 → gI N 7 c = nI (d c)) (h16 : gI N 0 16 = nI e) : ∃ N', F_X9_note N = some N' ∧ gI N' 0 26 = nI (q + 1) ∧ GrM N' 13 (17 * q) d e ∧ (∀ x, x < 17 * q → gI N' 13 x = gI N 13 x) ∧ (∀ r x, r ≠ 13 → ¬ (r = 0 ∧ x = 26) → gI N' r x = gI N r x) ∧ ∀ r x, gJ N' r x = gJ N r x := by
  have hal : alM 13 = 680 := rfl
  have c0 := write_eq (N := N) (p := 13) (b := 17 * q) (by omega) (by decide) (by decide) (by decide)
  have c1 : ∀ r x, r ≠ 13 → gI (sI (wrs N 13 (17 * q) (fun c => gI N 7 c) 16) 13 (17 * q + 16) (gI N 0 16)) r x = gI N r x := fun r x hr => by
    rw [gI_p hr, gI_wrs, if_neg (fun z => hr z.1)]
  refine ⟨_, by rw [F_X9_note, h26, n17, bd1e c0, c1 0 26 (by decide), h26, nI_1, lets], gI_same _ _ _ _, ⟨fun c hc => ?_, ?_⟩, fun x hx => ?_, fun r x h1 h2 => ?_, fun r x => ?_⟩
  · rw [gI_p (by decide), gI_k (by omega), gI_wrs, if_pos (by omega), Nat.add_sub_cancel_left]
    exact h7 c hc
  · rw [gI_p (by decide), gI_same]
    exact h16
  · rw [gI_p (by decide), gI_k (by omega), gI_wrs, if_neg (by omega)]
  · rw [gI_sI, if_neg h2, c1 r x h1]
  · rw [gJ_sI, gJ_sI, gJ_wrs]
/-- a deed done in both programs -/
theorem Rel.deed {t : Nat} {lw : Nat → Option Nat} {M M' N N' : Mem} {m w B q : Nat} {gd d d' : Nat → Nat} {e e' : Nat} {x2 x3 : Int32} (hto : Told M N) (hro : Rows M N) (htx : Txts M N) (hd : Dm m w) (hw : DW m d) (hw' : DW m d') (he : e ≤ t) (he' : e' ≤ t + 1) (hl : LandR M N m w gd) (hi : Imgs t M N m w) (hla : LawsR lw M N) {D : Nat → Nat → Nat} {E : Nat → Nat} (hq : q < 40) (d4 : D q = d) (d5 : E q = e) (d6 : ∀ i, i < q → DW m (D i) ∧ E i ≤ t ∧ GrM N 13 (17 * i) (D i) (E i)) (d7 : ∀ i, i < q → Dstep M i (D i) (D (i + 1)) (E i) (E (i + 1)))
    (hB : B < 2 ^ 16) (hs : ∀ c, c < 16 → nI (d' c) = if B.testBit c then nI (d c) + x2 else nI (d c)) (hee : nI e' = nI e + x3)
    (b1 : GrC M' 9 m w d' e' (if m = 0 then 0 else 1)) (b2 : gI M' 15 3 = nI (q + 1)) (b3 : gI M' 16 q = nI B) (b4 : gI M' 17 q = x2) (b5 : gI M' 18 q = x3) (b6 : ∀ r x, (r < 9 ∨ 12 ≤ r) → ¬ (r = 15 ∧ x = 3) → ¬ ((r = 16 ∨ r = 17 ∨ r = 18) ∧ x = q) → gI M' r x = gI M r x) (b7 : ∀ r x, gJ M' r x = gJ M r x)
    (c1 : gI N' 0 26 = nI (q + 1)) (c2 : GrM N' 13 (17 * q) d e) (c3 : ∀ x, x < 17 * q → gI N' 13 x = gI N 13 x) (c4 : ∀ c, c < 16 → gI N' 7 c = nI (d' c)) (c5 : gI N' 0 16 = nI e') (c6 : ∀ r x, r ≠ 13 → r ≠ 7 → r ≠ 11 → ¬ (r = 0 ∧ (x = 26 ∨ x = 16 ∨ x = 23)) → gI N' r x = gI N r x) (c7 : ∀ r x, gJ N' r x = gJ N r x) : Rel (t + 1) lw M' N' := by
  have aM : ∀ {S : Nat → Nat → Bool}, (∀ p x, 9 ≤ p → p < 12 → S p x = false) → (∀ p x, 15 ≤ p → p < 19 → S p x = false) → agr S M M' := fun s1 s2 p x hp => b6 p x (by
      by_cases y : p < 9
      · exact Or.inl y
      · by_cases y2 : p < 12
        · rw [s1 p x (by omega) y2] at hp; cases hp
        · exact Or.inr (by omega)) (by rintro ⟨rfl, rfl⟩; rw [s2 _ _ (by decide) (by decide)] at hp; cases hp) (fun y => by rw [s2 _ _ (by omega) (by omega)] at hp; cases hp)
  have aN : ∀ {S : Nat → Nat → Bool}, (∀ x, S 13 x = false) → (∀ x, S 7 x = false) → (∀ x, S 11 x = false) → S 0 23 = false → S 0 16 = false → S 0 26 = false → agr S N N' := fun s0 s1 s3 s4 s5 s6 p x hp => c6 p x (by rintro rfl; rw [s0] at hp; cases hp) (by rintro rfl; rw [s1] at hp; cases hp) (by rintro rfl; rw [s3] at hp; cases hp) (by
    rintro ⟨rfl, rfl | rfl | rfl⟩
    · rw [s6] at hp; cases hp
    · rw [s5] at hp; cases hp
    · rw [s4] at hp; cases hp)
  refine ⟨hto.fr (aM (fun p x _ _ => ?_) (fun p x _ _ => ?_)) (aN (fun _ => rfl) (fun _ => rfl) (fun _ => rfl) rfl rfl rfl) (b7 _ _) (b7 _ _) (c7 _ _) (c7 _ _), hro.fr (aM (fun p x _ _ => ?_) (fun p x _ _ => ?_)) (aN (fun _ => rfl) (fun _ => rfl) (fun _ => rfl) rfl rfl rfl), htx.fr (aM (fun p x _ _ => ?_) (fun p x _ _ => ?_)) (aN (fun _ => rfl) (fun _ => rfl) (fun _ => rfl) rfl rfl rfl), m, w, gd, d', e', hd, hw', he', hl.fr2 (aM (fun p x _ _ => ?_) (fun p x _ _ => ?_)) (aN (fun _ => rfl) (fun _ => rfl) (fun _ => rfl) rfl rfl rfl), b1, ⟨c4, c5⟩, fun k hk => ((hi k hk).fr2 (fun r x h1 h2 => b6 r x (by omega) (by omega) (by omega)) (c6 14 k (by decide) (by decide) (by decide) (by omega)) (fun x hx => c6 15 _ (by decide) (by decide) (by decide) (by omega))).up, ⟨q + 1, fun i => if i ≤ q then D i else d', fun i => if i ≤ q then E i else e', by omega, b2, c1, if_neg (by omega), if_neg (by omega), fun i hi => ?_, fun i hi => ?_⟩, hla.fr2 (aM (fun p x _ _ => ?_) (fun p x _ _ => ?_)) (aN (fun _ => rfl) (fun _ => rfl) (fun _ => rfl) rfl rfl rfl)⟩
  · simp [sToC]; omega
  · simp [sToC]; omega
  · simp [sRwC]; omega
  · simp [sRwC]; omega
  · simp [sTxC]; omega
  · simp [sTxC]; omega
  · simp [sLC]; omega
  · simp [sLC]; omega
  · show DW m (if i ≤ q then D i else d') ∧ (if i ≤ q then E i else e') ≤ t + 1 ∧ GrM N' 13 (17 * i) (if i ≤ q then D i else d') (if i ≤ q then E i else e')
    rw [if_pos (by omega), if_pos (by omega)]
    by_cases ei : i = q
    · subst ei
      rw [d4, d5]
      exact ⟨hw, by omega, c2⟩
    · obtain ⟨y1, y2, y3⟩ := d6 i (by omega)
      exact ⟨y1, by omega, y3.fr2 (fun x hx => c3 _ (by omega))⟩
  · show Dstep M' i (if i ≤ q then D i else d') (if i + 1 ≤ q then D (i + 1) else d') (if i ≤ q then E i else e') (if i + 1 ≤ q then E (i + 1) else e')
    rw [if_pos (show i ≤ q by omega), if_pos (show i ≤ q by omega)]
    by_cases ei : i = q
    · subst ei
      rw [if_neg (by omega), if_neg (by omega), d4, d5]
      exact ⟨B, hB, b3, by rw [b4]; exact hs, by rw [b5]; exact hee⟩
    · rw [if_pos (by omega), if_pos (by omega)]
      obtain ⟨B', y1, y2, y3, y4⟩ := d7 i (by omega)
      exact ⟨B', y1, by rw [b6 16 i (by omega) (by omega) (by omega)]; exact y2, by rw [b6 17 i (by omega) (by omega) (by omega)]; exact y3, by rw [b6 18 i (by omega) (by omega) (by omega)]; exact y4⟩
  · simp [sLC]; omega
  · simp [sLC]; omega
