/-! ===== images ===== -/
theorem become_eq {M : Mem} {p q : Nat} (hpq : q + 3 ≤ p ∨ p + 3 ≤ q) (h7 : gI M q 7 = 0 ∨ gI M q 7 = 1) : ∃ M', F_X1_become M p q = some M' ∧ (∀ c, c < 16 → gI M' (p + 1) c = gI M (q + 1) c) ∧ (∀ c, c < 8 → gI M' (p + 2) c = gI M (q + 2) c) ∧ (∀ x, 3 ≤ x → x ≤ 7 → gI M' p x = gI M q x) ∧ (∀ r x, r ≠ p → r ≠ p + 1 → r ≠ p + 2 → gI M' r x = gI M r x) ∧ ∀ r x, gJ M' r x = gJ M r x := by
  unfold F_X1_become
  rw [chk_pos (by decide), lets, chk_pos (by decide)]
  simp only [lets]
  have z0 : (0 : Int32).toNatClampNeg = 0 := by decide
  have z16 : (nI 16).toNatClampNeg = 16 := by decide
  have z8 : (nI 8).toNatClampNeg = 8 := by decide
  rw [z0, z16, z8]
  have hq : q ≠ p ∧ q ≠ p + 1 ∧ q ≠ p + 2 := by omega
  have b : ∀ x, gI (cpI (cpI M (q + 1) 0 (p + 1) 0 16) (q + 2) 0 (p + 2) 0 8) q x = gI M q x := fun x => by
    rw [gI_cpI, if_neg (fun z => hq.2.2 z.1), gI_cpI, if_neg (fun z => hq.2.1 z.1)]
  generalize hB : cpI (cpI M (q + 1) 0 (p + 1) 0 16) (q + 2) 0 (p + 2) 0 8 = B at b
  have s : ∀ (X : Mem) k v x, gI (sI X p k v) q x = gI X q x := fun X k v x => gI_p hq.1
  simp only [s, b]
  rw [chk_pos h7]
  refine ⟨_, rfl, fun c hc => ?_, fun c hc => ?_, fun x h3 hx => ?_, fun r x h1 h2 h3 => ?_, fun r x => ?_⟩
  · rw [gI_p (by omega), gI_p (by omega), gI_p (by omega), gI_p (by omega), gI_p (by omega), ← hB, gI_cpI, if_neg (by omega), gI_cpI, if_pos (by omega)]
    congr 1
    omega
  · rw [gI_p (by omega), gI_p (by omega), gI_p (by omega), gI_p (by omega), gI_p (by omega), ← hB, gI_cpI, if_pos (by omega), gI_cpI, if_neg (by omega)]
    congr 1
    omega
  · have hx' : x = 3 ∨ x = 4 ∨ x = 5 ∨ x = 6 ∨ x = 7 := by omega
    rcases hx' with rfl | rfl | rfl | rfl | rfl <;> simp [gI_sI]
  · rw [gI_p h1, gI_p h1, gI_p h1, gI_p h1, gI_p h1, ← hB, gI_cpI, if_neg (fun z => h3 z.1), gI_cpI, if_neg (fun z => h2 z.1)]
  · rw [gJ_sI, gJ_sI, gJ_sI, gJ_sI, gJ_sI, ← hB, gJ_cpI, gJ_cpI]
theorem GrC.become {M M' : Mem} {p q m w : Nat} {d : Nat → Nat} {e : Nat} {th : Int32} (hd : Dm m w) (hw : DW m d) (h : GrC M q m w d e th) (h1 : ∀ c, c < 16 → gI M' (p + 1) c = gI M (q + 1) c) (h2 : ∀ c, c < 8 → gI M' (p + 2) c = gI M (q + 2) c) (h3 : ∀ x, 3 ≤ x → x ≤ 7 → gI M' p x = gI M q x) : GrC M' p m w d e th := by
  obtain ⟨g1, g2, g3, g4, g5, g6, g7⟩ := h
  have hlen := HL_len hd (dg_lt hd hw)
  exact ⟨fun c hc => (h1 c hc).trans (g1 c hc), (h3 4 (by decide) (by decide)).trans g2, (h3 5 (by decide) (by decide)).trans g3, (h3 3 (by decide) (by decide)).trans g4, fun i hi => (h2 i (by omega)).trans (g5 i hi), (h3 6 (by decide) (by decide)).trans g6, (h3 7 (by decide) (by decide)).trans g7⟩
theorem write_eq {N : Mem} {p b : Nat} (hb : b + 17 ≤ alM p) (ha : alM p < 2 ^ 30) (hp : 7 ≠ p) (hp0 : 0 ≠ p) : F_X9_write N p (nI b) = some (sI (wrs N p b (fun c => gI N 7 c) 16) p (b + 16) (gI N 0 16)) := by
  unfold F_X9_write
  refine loop_fn' (fun i => (nI i, wrs N p b (fun c => gI N 7 c) i)) 16 rfl (fun i hi => ?_) ?_ (by decide)
  · show X9_write_L2 p (nI b) (_, _) = _
    rw [X9_write_L2, if_neg (nI_nleN hi (by decide)), chk_pos (inb_nI hi (by decide)), nI_add, chk_pos (inb_nI (by omega) (by omega)), clN (by omega), clN (by omega), gI_wrs, if_neg (fun z => hp z.1)]
    simp only [lets]
    rw [nI_1]
    rfl
  · show X9_write_L2 p (nI b) (_, _) = _
    rw [X9_write_L2, if_pos (nI_le (Nat.le_refl _) (by decide)), nI_add, chk_pos (inb_nI (by omega) (by omega)), clN (by omega), gI_wrs, if_neg (fun z => hp0 z.1), lets]
theorem readBack_eq {N : Mem} {p b : Nat} (hb : b + 17 ≤ alM p) (ha : alM p < 2 ^ 30) (hp : p ≠ 7) : F_X9_readBack N p (nI b) = some (sI (wrs N 7 0 (fun c => gI N p (b + c)) 16) 0 16 (gI N p (b + 16))) := by
  unfold F_X9_readBack
  refine loop_fn' (fun i => (nI i, wrs N 7 0 (fun c => gI N p (b + c)) i)) 16 rfl (fun i hi => ?_) ?_ (by decide)
  · show X9_readBack_L2 p (nI b) (_, _) = _
    rw [X9_readBack_L2, if_neg (nI_nleN hi (by decide)), nI_add, chk_pos (inb_nI (by omega) (by omega)), chk_pos (inb_nI hi (by decide)), clN (by omega), clN (by omega), gI_wrs, if_neg (fun z => hp z.1)]
    simp only [lets]
    rw [nI_1]
    simp only [wrs, Nat.zero_add]
  · show X9_readBack_L2 p (nI b) (_, _) = _
    rw [X9_readBack_L2, if_pos (nI_le (Nat.le_refl _) (by decide)), nI_add, chk_pos (inb_nI (by omega) (by omega)), clN (by omega), gI_wrs, if_neg (fun z => hp z.1), lets]
/- finer frames -/
def sLC (p k : Nat) : Bool := (decide (p = 0) && decide (k = 8)) || decide (p = 7) || decide (p = 8) || decide (55 ≤ p)
def sLM (p k : Nat) : Bool := (decide (p = 0) && (decide (k = 10) || decide (k = 11) || decide (k = 12))) || decide (p = 8) || decide (p = 9)
def sDC (p _k : Nat) : Bool := decide (15 ≤ p) && decide (p < 19)
def sDM (p k : Nat) : Bool := (decide (p = 0) && decide (k = 26)) || decide (p = 13)
theorem LandR.fr2 {M M' N N' : Mem} {m w : Nat} {gd : Nat → Nat} (h : LandR M N m w gd) (hM : agr sLC M M') (hN : agr sLM N N') : LandR M' N' m w gd := by
  obtain ⟨a1, a2, a3, a4, a5, a6, a7, a8, a9⟩ := h
  exact ⟨(hM 7 0 rfl).trans a1, (hM 7 1 rfl).trans a2, (hN 0 11 rfl).trans a3, (hN 0 10 rfl).trans a4, (hM 7 2 rfl).trans a5, (hM 7 3 rfl).trans a6, a7, fun x hx => (hN 8 x rfl).trans (a8 x hx), fun x hx => (hM 8 x rfl).trans (a9 x hx)⟩
theorem LawsR.fr2 {lw : Nat → Option Nat} {M M' N N' : Mem} (h : LawsR lw M N) (hM : agr sLC M M') (hN : agr sLM N N') : LawsR lw M' N' := by
  obtain ⟨a0, q, K, a1, a2, a3, a4⟩ := h
  exact ⟨fun k hk => (hM _ _ (by simp [sLC])).trans (a0 k hk), q, K, a1, (hM 0 8 rfl).trans a2, (hN 0 12 rfl).trans a3, fun j hj => ⟨(a4 j hj).1, (a4 j hj).2.1, (hN 9 j rfl).trans (a4 j hj).2.2⟩⟩
theorem Dds.fr2 {t : Nat} {M M' N N' : Mem} {m e : Nat} {d : Nat → Nat} (h : Dds t M N m d e) (hM : agr sDC M M') (hN : agr sDM N N') : Dds t M' N' m d e := by
  obtain ⟨q, D, E, a1, a2, a3, a4, a5, a6, a7⟩ := h
  refine ⟨q, D, E, a1, (hM 15 3 rfl).trans a2, (hN 0 26 rfl).trans a3, a4, a5, fun i hi => ?_, fun i hi => ?_⟩
  · obtain ⟨b1, b2, b3⟩ := a6 i hi
    exact ⟨b1, b2, b3.fr (fun k => hN 13 k rfl)⟩
  · obtain ⟨B, b1, b2, b3, b4⟩ := a7 i hi
    exact ⟨B, b1, (hM 16 i rfl).trans b2, by rw [hM 17 i rfl]; exact b3, by rw [hM 18 i rfl]; exact b4⟩
theorem GrM.fr2 {N N' : Mem} {a b : Nat} {d : Nat → Nat} {e : Nat} (h : GrM N a b d e) (h0 : ∀ x, x < 17 → gI N' a (b + x) = gI N a (b + x)) : GrM N' a b d e := ⟨fun c hc => by rw [h0 c (by omega)]; exact h.1 c hc, by rw [h0 16 (by decide)]; exact h.2⟩
theorem Img.fr2 {t : Nat} {M M' N N' : Mem} {m w k : Nat} (h : Img t M N m w k) (hM : ∀ r x, 46 + 3 * k ≤ r → r < 49 + 3 * k → gI M' r x = gI M r x) (h14 : gI N' 14 k = gI N 14 k) (h15 : ∀ x, x < 17 → gI N' 15 (17 * k + x) = gI N 15 (17 * k + x)) : Img t M' N' m w k := by
  rcases h with ⟨e1, e2⟩ | ⟨e1, e0, d, e, e2, e3, e4, e5⟩
  · exact Or.inl ⟨(hM _ _ (by omega) (by omega)).trans e1, h14.trans e2⟩
  · exact Or.inr ⟨h14.trans e1, e0, d, e, e2, e3, e4.fr (fun x => hM _ _ (by omega) (by omega)) (fun x => hM _ _ (by omega) (by omega)) (fun x => hM _ _ (by omega) (by omega)), e5.fr2 h15⟩
theorem imageOf_no {x : Int32} (h : x < 0 ∨ nI 3 ≤ x) : F_X8_imageOf x = some none := by
  unfold F_X8_imageOf
  by_cases z : x < 0
  · rw [if_pos z]
  · rw [if_neg z, if_pos (h.resolve_left z)]
theorem imageOf_in {k : Nat} (h : k < 3) : F_X8_imageOf (nI k) = some (some (46 + 3 * k)) ∧ isX1 (46 + 3 * k) = true := by
  have : k = 0 ∨ k = 1 ∨ k = 2 := by omega
  rcases this with rfl | rfl | rfl <;> exact ⟨rfl, rfl⟩
theorem isImage_no {x : Int32} (h : x < 0 ∨ nI 3 ≤ x) : F_X9_isImage x = some 0 := by
  unfold F_X9_isImage
  rw [bd1e (in_no (h.imp_right (fun y => lt_of_le y (by decide)))), chk_pos (Or.inl rfl)]
theorem isImage_in {k : Nat} (h : k < 3) : F_X9_isImage (nI k) = some 1 := by
  unfold F_X9_isImage
  rw [bd1e (in_yes (nneg k (by omega)) (by rw [nI_ltI (by decide) (by omega)]; omega)), chk_pos (Or.inr rfl)]
theorem n17 (k : Nat) : nI 17 * nI k = nI (17 * k) := (Int32.ofNat_mul 17 k).symm
