/-! ===== found, meet, tell, ask; rows and texts ===== -/
def fndC (M : Mem) (k : Nat) : Mem := sI (sI M 0 15 (nI k)) 25 k (gI M 25 k + 1)
def fndM (N : Mem) (k : Nat) : Mem := sI (sI N 0 0 (nI k)) 1 k (gI N 1 k + 1)
theorem found_eq {M : Mem} {x : Int32} (k : Nat) (hx : x = nI k) (h1 : 1 ≤ k) (h5 : k ≤ 5) : F_X8_found M x = some (-3, fndC M k) := by
  subst hx
  have e : k = 1 ∨ k = 2 ∨ k = 3 ∨ k = 4 ∨ k = 5 := by omega
  unfold F_X8_found
  rcases e with rfl | rfl | rfl | rfl | rfl <;> (rw [if_neg (by decide), if_neg (by decide), lets, chk_pos (by decide), chk_pos (by decide), lets]; rfl)
theorem meet_eq {N : Mem} {x : Int32} (k : Nat) (hx : x = nI k) (h1 : 1 ≤ k) (h5 : k ≤ 5) : F_X9_meet N x = some (-3, fndM N k) := by
  subst hx
  have e : k = 1 ∨ k = 2 ∨ k = 3 ∨ k = 4 ∨ k = 5 := by omega
  unfold F_X9_meet
  rcases e with rfl | rfl | rfl | rfl | rfl <;> (rw [lets, chk_pos (by decide), chk_pos (by decide), lets]; rfl)
theorem meet1 {N : Mem} : F_X9_meet N 1 = some (-3, fndM N 1) := meet_eq 1 rfl (by decide) (by decide)
theorem found1 {M : Mem} : F_X8_found M 1 = some (-3, fndC M 1) := found_eq 1 rfl (by decide) (by decide)
theorem fnd_told {M N : Mem} {k : Nat} (h : Told M N) (hk : k < 6) : Told (fndC M k) (fndM N k) := by
  obtain ⟨a1, a2, a3, a4, a5⟩ := h
  refine ⟨?_, a2, a3, ?_, fun j hj => ?_⟩
  · unfold fndC fndM
    rw [gI_p (by decide), gI_k (by decide), gI_p (by decide), gI_k (by decide)]
    exact a1
  · unfold fndC fndM
    rw [gI_p (by decide), gI_same, gI_p (by decide), gI_same]
  · unfold fndC fndM
    by_cases e : j = k
    · subst e
      rw [gI_same, gI_same, a5 j hj]
    · rw [gI_k e, gI_k e, gI_p (by decide), gI_p (by decide)]
      exact a5 j hj
theorem fndC_agr {S : Nat → Nat → Bool} {M M' : Mem} {k : Nat} (h : agr S M M') (h1 : S 0 15 = false) (h2 : ∀ k, S 25 k = false) : agr S M (fndC M' k) := (h.sI h1).sI (h2 _)
theorem fndM_agr {S : Nat → Nat → Bool} {N N' : Mem} {k : Nat} (h : agr S N N') (h1 : S 0 0 = false) (h2 : ∀ k, S 1 k = false) : agr S N (fndM N' k) := (h.sI h1).sI (h2 _)
theorem Rel.found {t : Nat} {lw : Nat → Option Nat} {M N : Mem} (h : Rel t lw M N) {k : Nat} (hk : k < 6) : Rel (t + 1) lw (fndC M k) (fndM N k) := h.told (fndC_agr agr.rf rfl (fun _ => rfl)) (fndM_agr agr.rf rfl (fun _ => rfl)) (fnd_told h.1 hk)
theorem tell_eq {M : Mem} {x : Int32} : F_X8_tell M x = some (1, sI M 0 12 x) := rfl
theorem ask_eq {N : Mem} {x a : Int32} : F_X9_ask N x a = some (a, sI N 0 2 x) := rfl
theorem ask_told {M N : Mem} {x : Int32} (h : Told M N) : Told (sI M 0 12 x) (sI N 0 2 x) := by
  obtain ⟨a1, a2, a3, a4, a5⟩ := h
  refine ⟨by rw [gI_same, gI_same], a2, a3, by rw [gI_k (by decide), gI_k (by decide)]; exact a4, fun j hj => by rw [gI_p (by decide), gI_p (by decide)]; exact a5 j hj⟩
theorem Rel.ask {t : Nat} {lw : Nat → Option Nat} {M N : Mem} (h : Rel t lw M N) (x : Int32) : Rel (t + 1) lw (sI M 0 12 x) (sI N 0 2 x) := h.told (agr.rf.sI rfl) (agr.rf.sI rfl) (ask_told h.1)
/- filling -/
def fil (M : Mem) (q b : Nat) (v : Int32) : Nat → Mem
  | 0 => M
  | i + 1 => sI (fil M q b v i) q (b + i) v
theorem gI_fil (M : Mem) (q b : Nat) (v : Int32) (n x k : Nat) : gI (fil M q b v n) x k = if x = q ∧ b ≤ k ∧ k < b + n then v else gI M x k := by
  induction n with
  | zero => rw [if_neg (by omega)]; rfl
  | succ n ih =>
    rw [fil, gI_sI, ih]
    by_cases h1 : x = q ∧ k = b + n
    · rw [if_pos h1, if_pos (by omega)]
    · rw [if_neg h1]
      by_cases h2 : x = q ∧ b ≤ k ∧ k < b + n
      · rw [if_pos h2, if_pos (by omega)]
      · rw [if_neg h2, if_neg (by omega)]
theorem gJ_fil (M : Mem) (q b : Nat) (v : Int32) (n x k : Nat) : gJ (fil M q b v n) x k = gJ M x k := by
  induction n with
  | zero => rfl
  | succ n ih => rw [fil, gJ_sI, ih]
theorem agr.fil {S : Nat → Nat → Bool} {M M' : Mem} {q b n : Nat} {v : Int32} (h : agr S M M') (hS : ∀ k, S q k = false) : agr S M (fil M' q b v n) := by
  intro x j hx
  rw [gI_fil, if_neg (fun e => by rw [e.1, hS] at hx; cases hx)]
  exact h x j hx
/- which strip -/
theorem rowOf_no {x : Int32} (h : x < 0 ∨ nI 6 ≤ x) : F_X8_rowOf x = some none := by
  unfold F_X8_rowOf
  by_cases h0 : x < 0
  · rw [if_pos h0]
  · rw [if_neg h0, if_pos (h.resolve_left h0)]
theorem rowOf_in {j : Nat} (h : j < 6) : F_X8_rowOf (nI j) = some (some (26 + 2 * j)) := by
  have e : j = 0 ∨ j = 1 ∨ j = 2 ∨ j = 3 ∨ j = 4 ∨ j = 5 := by omega
  rcases e with rfl | rfl | rfl | rfl | rfl | rfl <;> decide
theorem textOf_no {x : Int32} (h : x < 0 ∨ nI 4 ≤ x) : F_X8_textOf x = some none := by
  unfold F_X8_textOf
  by_cases h0 : x < 0
  · rw [if_pos h0]
  · rw [if_neg h0, if_pos (h.resolve_left h0)]
theorem textOf_in {j : Nat} (h : j < 4) : F_X8_textOf (nI j) = some (some (38 + 2 * j)) := by
  have e : j = 0 ∨ j = 1 ∨ j = 2 ∨ j = 3 := by omega
  rcases e with rfl | rfl | rfl | rfl <;> decide
theorem isX5_row {j : Nat} (h : j < 6) : isX5 (26 + 2 * j) = true := by
  have e : j = 0 ∨ j = 1 ∨ j = 2 ∨ j = 3 ∨ j = 4 ∨ j = 5 := by omega
  rcases e with rfl | rfl | rfl | rfl | rfl | rfl <;> rfl
theorem isX5_txt {j : Nat} (h : j < 4) : isX5 (38 + 2 * j) = true := by
  have e : j = 0 ∨ j = 1 ∨ j = 2 ∨ j = 3 := by omega
  rcases e with rfl | rfl | rfl | rfl <;> rfl
theorem slen_row {j : Nat} (h : j < 6) : slen (26 + 2 * j) = 40 := by unfold slen; rw [if_pos (by omega)]
theorem slen_txt {j : Nat} : slen (38 + 2 * j) = 60 := by unfold slen; rw [if_neg (by omega)]
theorem in_no {x a b : Int32} (h : x < a ∨ b < x) : F_X9_in x a b = some 0 := by
  unfold F_X9_in
  by_cases h0 : x < a
  · rw [if_pos h0]
  · rw [if_neg h0, if_pos (h.resolve_left h0)]
theorem in_yes {x a b : Int32} (h1 : ¬ x < a) (h2 : ¬ b < x) : F_X9_in x a b = some 1 := by
  unfold F_X9_in
  rw [if_neg h1, if_neg h2]
theorem lt_of_le {x : Int32} {k : Nat} (h : nI (k + 1) ≤ x) (hk : k < 2 ^ 30) : nI k < x := by
  rw [Int32.le_iff_toInt_le, nI_toInt (by omega)] at h
  rw [Int32.lt_iff_toInt_lt, nI_toInt (by omega)]
  omega
theorem isRow_no {x : Int32} (h : x < 0 ∨ nI 6 ≤ x) : F_X9_isRow x = some 0 := by
  unfold F_X9_isRow
  rw [bd1e (in_no (h.imp id (fun h => lt_of_le (k := 5) h (by decide)))), chk_pos (Or.inl rfl)]
theorem isRow_in {j : Nat} (h : j < 6) : F_X9_isRow (nI j) = some 1 := by
  have e : j = 0 ∨ j = 1 ∨ j = 2 ∨ j = 3 ∨ j = 4 ∨ j = 5 := by omega
  rcases e with rfl | rfl | rfl | rfl | rfl | rfl <;> decide
theorem isText_no {x : Int32} (h : x < 0 ∨ nI 4 ≤ x) : F_X9_isText x = some 0 := by
  unfold F_X9_isText
  rw [bd1e (in_no (h.imp id (fun h => lt_of_le (k := 3) h (by decide)))), chk_pos (Or.inl rfl)]
theorem isText_in {j : Nat} (h : j < 4) : F_X9_isText (nI j) = some 1 := by
  have e : j = 0 ∨ j = 1 ∨ j = 2 ∨ j = 3 := by omega
  rcases e with rfl | rfl | rfl | rfl <;> decide
/- a strip -/
theorem missing_yes {M : Mem} {p : Nat} (h : gI M p 1 = -1) : F_X5_isMissing M p = some 1 := by
  unfold F_X5_isMissing
  rw [h, if_neg (by decide)]
theorem missing_no {M : Mem} {p n : Nat} (h : gI M p 1 = nI n) (hn : n < 2 ^ 31) : F_X5_isMissing M p = some 0 := by
  unfold F_X5_isMissing
  rw [h, if_pos (nI_pos' hn)]
theorem has_in {M : Mem} {p n i : Nat} (h : gI M p 1 = nI n) (hi : i < n) (hn : n ≤ slen p) : F_X5_has M p (nI i) = some 1 := by
  have hs : slen p ≤ 60 := by unfold slen; split <;> omega
  unfold F_X5_has
  rw [h, if_neg (nI_pos (by omega)), if_neg (nI_ge hi (by omega)), if_neg (nI_ge (by omega) (by omega))]
theorem has_no {M : Mem} {p n : Nat} {x : Int32} (h : gI M p 1 = nI n) (hx : x < 0 ∨ nI n ≤ x) : F_X5_has M p x = some 0 := by
  unfold F_X5_has
  by_cases h0 : x < 0
  · rw [if_pos h0]
  · rw [if_neg h0, h, if_pos (hx.resolve_left h0)]
theorem get_in {M : Mem} {p n i : Nat} (h : gI M p 1 = nI n) (hi : i < n) (hn : n ≤ slen p) : F_X5_get M p (nI i) = some (gI M (p + 1) i) := by
  have hs : slen p ≤ 60 := by unfold slen; split <;> omega
  unfold F_X5_get
  rw [bd1e (has_in h hi hn), if_neg (by decide), chk_pos (inb_nI (by omega) (by omega)), clN (by omega)]
theorem set_in {M : Mem} {p n i : Nat} {v : Int32} (h : gI M p 1 = nI n) (hi : i < n) (hn : n ≤ slen p) : F_X5_set M p (nI i) v = some (sI M (p + 1) i v) := by
  have hs : slen p ≤ 60 := by unfold slen; split <;> omega
  unfold F_X5_set
  rw [bd1e (has_in h hi hn), if_neg (by decide), chk_pos (inb_nI (by omega) (by omega)), clN (by omega), lets]
theorem wrongPlace_eq {M : Mem} {p n : Nat} {x : Int32} (h : gI M p 1 = nI n) (hn : n ≤ slen p) (hx : x < 0 ∨ nI n ≤ x) : F_X8_wrongPlace M p x = some (nI 2) := by
  have hs : slen p ≤ 60 := by unfold slen; split <;> omega
  unfold F_X8_wrongPlace
  rw [bd1e (missing_no h (by omega)), if_pos rfl, bd1e (has_no h hx), if_pos rfl]
theorem wrongPlace_ok {M : Mem} {p n i : Nat} (h : gI M p 1 = nI n) (hn : n ≤ slen p) (hi : i < n) : F_X8_wrongPlace M p (nI i) = some 0 := by
  have hs : slen p ≤ 60 := by unfold slen; split <;> omega
  unfold F_X8_wrongPlace
  rw [bd1e (missing_no h (by omega)), if_pos rfl, bd1e (has_in h hi hn), if_neg (by decide)]
theorem wrongPlace_ms {M : Mem} {p : Nat} {x : Int32} (h : gI M p 1 = -1) : F_X8_wrongPlace M p x = some 1 := by
  unfold F_X8_wrongPlace
  rw [bd1e (missing_yes h), if_neg (by decide)]
theorem renew_eq {M : Mem} {p n : Nat} {v : Int32} (hn : n ≤ slen p) : F_X5_renew M p (nI n) v = some (fil (sI M p 1 (nI n)) (p + 1) 0 v n) := by
  have hs : slen p ≤ 60 := by unfold slen; split <;> omega
  unfold F_X5_renew
  have e1 : F_J9_min_7cf53 (nI n) (nI (slen p)) = some (nI n) := by
    unfold F_J9_min_7cf53
    rw [if_neg (nI_nlt hn (by omega))]
  have e2 : F_J9_max_7cf53 0 (nI n) = some (nI n) := by
    unfold F_J9_max_7cf53
    by_cases h0 : n = 0
    · subst h0; rfl
    · rw [if_pos]
      exact nI_lt (a := 0) (by omega) (by omega)
  rw [bd1e e1, bd1e e2, lets]
  have hsz : ∀ i, gI (fil (sI M p 1 (nI n)) (p + 1) 0 v i) p 1 = nI n := fun i => by
    rw [gI_fil, if_neg (by omega), gI_same]
  refine loop_fn' (fun i => (nI i, fil (sI M p 1 (nI n)) (p + 1) 0 v i)) n rfl (fun i hi => ?_) ?_ (by unfold FU; omega)
  · simp only [X5_renew_L19]
    rw [hsz, if_neg (nI_ge hi (by omega)), if_neg (nI_ge (by omega) (by omega)), chk_pos (inb_nI (by omega) (by omega)), clN (by omega), lets, lets, nI_1, fil, Nat.zero_add]
  · simp only [X5_renew_L19]
    rw [hsz, if_pos (nI_le (Nat.le_refl _) (by omega))]
/- the model's rows -/
theorem ix40 {j i : Nat} : nI 40 * nI j + nI i = nI (40 * j + i) := by
  rw [pk_mul, nI_add]
theorem ix60 {j i : Nat} : nI 60 * nI j + nI i = nI (60 * j + i) := by
  rw [pk_mul, nI_add]
theorem rowAt_eq {N : Mem} {j i : Nat} (hj : j < 6) (hi : i < 40) : F_X9_rowAt N (nI j) (nI i) = some (gI N 3 (40 * j + i)) := by
  unfold F_X9_rowAt
  rw [ix40, chk_pos (inb_nI (by omega) (by omega)), clN (by omega)]
theorem setRow_eq {N : Mem} {j i : Nat} {v : Int32} (hj : j < 6) (hi : i < 40) : F_X9_setRow N (nI j) (nI i) v = some (sI N 3 (40 * j + i) v) := by
  unfold F_X9_setRow
  rw [ix40, chk_pos (inb_nI (by omega) (by omega)), clN (by omega), lets]
theorem askedRow_no {N : Mem} {x : Int32} (h : x < 0 ∨ nI 6 ≤ x) : F_X9_askedRow N x = some (-1, N) := by
  unfold F_X9_askedRow
  rw [bd1e (isRow_no h), if_pos rfl]
theorem askedRow_ms {N : Mem} {j : Nat} (hj : j < 6) (h : gI N 2 j = -9) : F_X9_askedRow N (nI j) = some (-3, fndM N 1) := by
  unfold F_X9_askedRow
  rw [bd1e (isRow_in hj), if_neg (by decide), chk_pos (inb_nI hj (by decide)), clN (by omega), h, if_neg (by decide), bd2e meet1]
theorem askedRow_in {N : Mem} {j n : Nat} (hj : j < 6) (h : gI N 2 j = nI n) (hn : n ≤ 40) : F_X9_askedRow N (nI j) = some (0, N) := by
  unfold F_X9_askedRow
  rw [bd1e (isRow_in hj), if_neg (by decide), chk_pos (inb_nI hj (by decide)), clN (by omega), h, if_pos (nI_pos' (by omega))]
theorem askedText_no {N : Mem} {x : Int32} (h : x < 0 ∨ nI 4 ≤ x) : F_X9_askedText N x = some (-1, N) := by
  unfold F_X9_askedText
  rw [bd1e (isText_no h), if_pos rfl]
theorem askedText_ms {N : Mem} {j : Nat} (hj : j < 4) (h : gI N 5 j = -9) : F_X9_askedText N (nI j) = some (-3, fndM N 1) := by
  unfold F_X9_askedText
  rw [bd1e (isText_in hj), if_neg (by decide), chk_pos (inb_nI hj (by decide)), clN (by omega), h, if_neg (by decide), bd2e meet1]
theorem askedText_in {N : Mem} {j n : Nat} (hj : j < 4) (h : gI N 5 j = nI n) (hn : n ≤ 60) : F_X9_askedText N (nI j) = some (0, N) := by
  unfold F_X9_askedText
  rw [bd1e (isText_in hj), if_neg (by decide), chk_pos (inb_nI hj (by decide)), clN (by omega), h, if_pos (nI_pos' (by omega))]
/- changing one strip -/
theorem Rows.put {M M' N N' : Mem} {j : Nat} (h : Rows M N) (_hj : j < 6) (hM : ∀ r, r < 6 → r ≠ j → (∀ k, gI M' (26 + 2 * r) k = gI M (26 + 2 * r) k) ∧ ∀ k, gI M' (26 + 2 * r + 1) k = gI M (26 + 2 * r + 1) k) (hN : ∀ r, r < 6 → r ≠ j → gI N' 2 r = gI N 2 r ∧ ∀ i, i < 40 → gI N' 3 (40 * r + i) = gI N 3 (40 * r + i)) (hs : StripR M' N' (26 + 2 * j) 2 3 (40 * j) 40 j) : Rows M' N' := by
  intro r hr
  by_cases e : r = j
  · subst e; exact hs
  · exact (h r hr).fr ((hM r hr e).1 1) (fun i => (hM r hr e).2 i) (hN r hr e).1 (hN r hr e).2
theorem Txts.put {M M' N N' : Mem} {j : Nat} (h : Txts M N) (_hj : j < 4) (hM : ∀ r, r < 4 → r ≠ j → (∀ k, gI M' (38 + 2 * r) k = gI M (38 + 2 * r) k) ∧ ∀ k, gI M' (38 + 2 * r + 1) k = gI M (38 + 2 * r + 1) k) (hN : ∀ r, r < 4 → r ≠ j → gI N' 5 r = gI N 5 r ∧ ∀ i, i < 60 → gI N' 6 (60 * r + i) = gI N 6 (60 * r + i)) (hs : StripR M' N' (38 + 2 * j) 5 6 (60 * j) 60 j) : Txts M' N' := by
  intro r hr
  by_cases e : r = j
  · subst e; exact hs
  · exact (h r hr).fr ((hM r hr e).1 1) (fun i => (hM r hr e).2 i) (hN r hr e).1 (hN r hr e).2
