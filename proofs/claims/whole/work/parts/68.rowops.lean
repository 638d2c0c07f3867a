theorem meetk {N : Mem} (k : Nat) (h1 : 1 ≤ k) (h5 : k ≤ 5) : F_X9_meet N (nI k) = some (-3, fndM N k) := meet_eq k rfl h1 h5
theorem foundk {M : Mem} (k : Nat) (h1 : 1 ≤ k) (h5 : k ≤ 5) : F_X8_found M (nI k) = some (-3, fndC M k) := found_eq k rfl h1 h5
theorem modelRow_eq {N : Mem} {j n : Nat} (hj : j < 6) (hn : n ≤ 40) : F_X9_row N (nI j) (nI n) = some (nI n, fil (sI N 2 j (nI n)) 3 (40 * j) 0 40) := by
  unfold F_X9_row
  rw [bd1e (isRow_in hj), if_neg (by decide), if_pos (nI_le hn (by decide)), if_pos (nI_pos' (by omega)), chk_pos (inb_nI hj (by decide)), clN (by omega), lets]
  refine loop_fn' (fun i => (nI i, fil (sI N 2 j (nI n)) 3 (40 * j) 0 i)) 40 rfl (fun i hi => ?_) ?_ (by unfold FU; omega)
  · simp only [X9_row_L34]
    rw [if_neg (nI_ge hi (by decide)), bd1e (setRow_eq hj hi), lets, nI_1, fil]
  · simp only [X9_row_L34]
    rw [if_pos (nI_le (Nat.le_refl _) (by decide))]
theorem Rel.strip {t : Nat} {lw : Nat → Option Nat} {M M' N N' : Mem} (h : Rel t lw M N) (hr : Rows M' N') (ht : Told M' N') (hM : agr sTxC M M') (hN : agr sTxM N N') (gM : agr sGC M M') (gN : agr sGM N N') : Rel (t + 1) lw M' N' := ⟨ht, hr, h.2.2.1.fr hM hN, (h.2.2.2.fr gM gN).up⟩
theorem Rel.stripT {t : Nat} {lw : Nat → Option Nat} {M M' N N' : Mem} (h : Rel t lw M N) (hr : Txts M' N') (ht : Told M' N') (hM : agr sRwC M M') (hN : agr sRwM N N') (gM : agr sGC M M') (gN : agr sGM N N') : Rel (t + 1) lw M' N' := ⟨ht, h.2.1.fr hM hN, hr, (h.2.2.2.fr gM gN).up⟩
theorem Told.fr {M M' N N' : Mem} (h : Told M N) (hM : agr sToC M M') (hN : agr sToM N N') (j1 : gJ M' 0 13 = gJ M 0 13) (j2 : gJ M' 0 14 = gJ M 0 14) (j3 : gJ N' 0 3 = gJ N 0 3) (j4 : gJ N' 0 4 = gJ N 0 4) : Told M' N' := by
  obtain ⟨a1, a2, a3, a4, a5⟩ := h
  exact ⟨by rw [hM 0 12 rfl, hN 0 2 rfl]; exact a1, by rw [j1, j3]; exact a2, by rw [j2, j4]; exact a3, by rw [hM 0 15 rfl, hN 0 0 rfl]; exact a4, fun k hk => by rw [hM 25 k rfl, hN 1 k rfl]; exact a5 k hk⟩
/-- a row is there anew -/
theorem Rel.rowNew {t : Nat} {lw : Nat → Option Nat} {M N : Mem} (h : Rel t lw M N) {j n : Nat} (hj : j < 6) (hn : n ≤ 40) : Rel (t + 1) lw (fil (sI M (26 + 2 * j) 1 (nI n)) (26 + 2 * j + 1) 0 0 n) (fil (sI N 2 j (nI n)) 3 (40 * j) 0 40) := by
  have sT : ∀ k, sTxC (26 + 2 * j) k = false ∧ sTxC (26 + 2 * j + 1) k = false := fun k => by simp [sTxC]; omega
  have sG : ∀ k, sGC (26 + 2 * j) k = false ∧ sGC (26 + 2 * j + 1) k = false := fun k => by simp [sGC]; omega
  have sO : ∀ k, sToC (26 + 2 * j) k = false ∧ sToC (26 + 2 * j + 1) k = false := fun k => by simp [sToC]; omega
  refine h.strip ?_ ?_ ((agr.rf.sI (sT _).1).fil (fun k => (sT k).2)) ((agr.rf.sI rfl).fil (fun _ => rfl)) ((agr.rf.sI (sG _).1).fil (fun k => (sG k).2)) ((agr.rf.sI rfl).fil (fun _ => rfl))
  · refine h.2.1.put hj (fun r hr e => ⟨fun k => ?_, fun k => ?_⟩) (fun r hr e => ⟨?_, fun i hi => ?_⟩) (Or.inr ⟨n, hn, ?_, ?_, fun i hi => ?_⟩)
    · rw [gI_fil, if_neg (by omega), gI_p (by omega)]
    · rw [gI_fil, if_neg (by omega), gI_p (by omega)]
    · rw [gI_fil, if_neg (by omega), gI_k e]
    · rw [gI_fil, if_neg (by omega), gI_p (by omega)]
    · rw [gI_fil, if_neg (by omega), gI_same]
    · rw [gI_fil, if_neg (by omega), gI_same]
    · rw [gI_fil, if_pos (by omega), gI_fil, if_pos (by omega)]
  · exact h.1.fr ((agr.rf.sI (sO _).1).fil (fun k => (sO k).2)) ((agr.rf.sI rfl).fil (fun _ => rfl)) (by rw [gJ_fil]; rfl) (by rw [gJ_fil]; rfl) (by rw [gJ_fil]; rfl) (by rw [gJ_fil]; rfl)
theorem Rel.txtNew {t : Nat} {lw : Nat → Option Nat} {M N : Mem} (h : Rel t lw M N) {j n : Nat} (hj : j < 4) (hn : n ≤ 60) : Rel (t + 1) lw (fil (sI M (38 + 2 * j) 1 (nI n)) (38 + 2 * j + 1) 0 (nI 32) n) (fil (sI N 5 j (nI n)) 6 (60 * j) (nI 32) 60) := by
  have sT : ∀ k, sRwC (38 + 2 * j) k = false ∧ sRwC (38 + 2 * j + 1) k = false := fun k => by simp [sRwC]; omega
  have sG : ∀ k, sGC (38 + 2 * j) k = false ∧ sGC (38 + 2 * j + 1) k = false := fun k => by simp [sGC]; omega
  have sO : ∀ k, sToC (38 + 2 * j) k = false ∧ sToC (38 + 2 * j + 1) k = false := fun k => by simp [sToC]; omega
  refine h.stripT ?_ ?_ ((agr.rf.sI (sT _).1).fil (fun k => (sT k).2)) ((agr.rf.sI rfl).fil (fun _ => rfl)) ((agr.rf.sI (sG _).1).fil (fun k => (sG k).2)) ((agr.rf.sI rfl).fil (fun _ => rfl))
  · refine h.2.2.1.put hj (fun r hr e => ⟨fun k => ?_, fun k => ?_⟩) (fun r hr e => ⟨?_, fun i hi => ?_⟩) (Or.inr ⟨n, hn, ?_, ?_, fun i hi => ?_⟩)
    · rw [gI_fil, if_neg (by omega), gI_p (by omega)]
    · rw [gI_fil, if_neg (by omega), gI_p (by omega)]
    · rw [gI_fil, if_neg (by omega), gI_k e]
    · rw [gI_fil, if_neg (by omega), gI_p (by omega)]
    · rw [gI_fil, if_neg (by omega), gI_same]
    · rw [gI_fil, if_neg (by omega), gI_same]
    · rw [gI_fil, if_pos (by omega), gI_fil, if_pos (by omega)]
  · exact h.1.fr ((agr.rf.sI (sO _).1).fil (fun k => (sO k).2)) ((agr.rf.sI rfl).fil (fun _ => rfl)) (by rw [gJ_fil]; rfl) (by rw [gJ_fil]; rfl) (by rw [gJ_fil]; rfl) (by rw [gJ_fil]; rfl)
theorem comeAnew_none {M : Mem} {x v : Int32} : F_X8_comeAnew M none x v = some (-1, M) := rfl
theorem comeAnew_eq {M : Mem} {p n : Nat} {v : Int32} (hp : isX5 p = true) (hn : n ≤ slen p) : F_X8_comeAnew M (some p) (nI n) v = some (nI n, fil (sI M p 1 (nI n)) (p + 1) 0 v n) := by
  have hs : slen p ≤ 60 := by unfold slen; split <;> omega
  unfold F_X8_comeAnew F_X5_most
  rw [oc_s, chk_pos hp, bd1s, if_pos (nI_le hn (by omega)), if_pos (nI_pos' (by omega)), bd1e (renew_eq hn)]
theorem comeAnew_big {M : Mem} {p : Nat} {x v : Int32} (hp : isX5 p = true) (hx : ¬ x ≤ nI (slen p)) : F_X8_comeAnew M (some p) x v = some (-1, M) := by
  unfold F_X8_comeAnew F_X5_most
  rw [oc_s, chk_pos hp, bd1s, if_neg hx]
theorem comeAnew_neg {M : Mem} {p : Nat} {x v : Int32} (hp : isX5 p = true) (hx : x < 0) : F_X8_comeAnew M (some p) x v = some (-3, fndC M 5) := by
  have hs : slen p ≤ 60 := by unfold slen; split <;> omega
  have h1 : x ≤ nI (slen p) := by
    rw [Int32.lt_iff_toInt_lt, Int32.toInt_zero] at hx
    rw [Int32.le_iff_toInt_le, nI_toInt (by omega)]
    omega
  have h2 : ¬ 0 ≤ x := by
    rw [Int32.lt_iff_toInt_lt, Int32.toInt_zero] at hx
    rw [Int32.le_iff_toInt_le, Int32.toInt_zero]
    omega
  unfold F_X8_comeAnew F_X5_most
  rw [oc_s, chk_pos hp, bd1s, if_pos h1, if_neg h2, bd2e (foundk 5 (by decide) (by decide))]
theorem nle_of_le {x : Int32} {k : Nat} (h : nI (k + 1) ≤ x) (hk : k < 2 ^ 30) : ¬ x ≤ nI k := by
  rw [Int32.le_iff_toInt_le, nI_toInt (by omega)] at h
  rw [Int32.le_iff_toInt_le, nI_toInt (by omega)]
  omega
theorem le_of_neg {x : Int32} (k : Nat) (h : x < 0) (hk : k < 2 ^ 30) : x ≤ nI k ∧ ¬ 0 ≤ x := by
  rw [Int32.lt_iff_toInt_lt, Int32.toInt_zero] at h
  rw [Int32.le_iff_toInt_le, nI_toInt (by omega), Int32.le_iff_toInt_le, Int32.toInt_zero]
  omega
theorem op_row {lw : Nat → Option Nat} (tl tt : Option Nat) {M N : Mem} {t : Nat} (ht : t ≤ 3100) (h : Rel t lw M N) (a1 : Int32) (a2 : Int32) : ∃ (r : Int32) (M' : Mem) (N' : Mem), F_X8_row M a1 a2 = some (r, M') ∧ F_X9_row N a1 a2 = some (r, N') ∧ Rel (t + 1) lw M' N' := by
  rcases pk_ix a1 (n := 6) (by decide) with h1 | h1 | ⟨j, hj, rfl⟩
  · exact ⟨-1, M, N, by rw [F_X8_row, bd1e (rowOf_no (Or.inl h1)), bd2e comeAnew_none], by rw [F_X9_row, bd1e (isRow_no (Or.inl h1)), if_pos rfl], h.up⟩
  · exact ⟨-1, M, N, by rw [F_X8_row, bd1e (rowOf_no (Or.inr h1)), bd2e comeAnew_none], by rw [F_X9_row, bd1e (isRow_no (Or.inr h1)), if_pos rfl], h.up⟩
  · have hs := slen_row hj
    rcases pk_ix a2 (n := 41) (by decide) with h2 | h2 | ⟨n, hn, rfl⟩
    · exact ⟨-3, fndC M 5, fndM N 5, by rw [F_X8_row, bd1e (rowOf_in hj), bd2e (comeAnew_neg (isX5_row hj) h2)], by rw [F_X9_row, bd1e (isRow_in hj), if_neg (by decide), if_pos (le_of_neg 40 h2 (by decide)).1, if_neg (le_of_neg 40 h2 (by decide)).2, bd2e (meetk 5 (by decide) (by decide))], h.found (by decide)⟩
    · exact ⟨-1, M, N, by rw [F_X8_row, bd1e (rowOf_in hj), bd2e (comeAnew_big (isX5_row hj) (by rw [hs]; exact nle_of_le h2 (by decide)))], by rw [F_X9_row, bd1e (isRow_in hj), if_neg (by decide), if_neg (nle_of_le h2 (by decide))], h.up⟩
    · exact ⟨nI n, _, _, by rw [F_X8_row, bd1e (rowOf_in hj), bd2e (comeAnew_eq (isX5_row hj) (by omega))], modelRow_eq hj (by omega), h.rowNew hj (by omega)⟩
theorem modelText_eq {N : Mem} {j n : Nat} (hj : j < 4) (hn : n ≤ 60) : F_X9_text N (nI j) (nI n) = some (nI n, fil (sI N 5 j (nI n)) 6 (60 * j) (nI 32) 60) := by
  unfold F_X9_text
  rw [bd1e (isText_in hj), if_neg (by decide), if_pos (nI_le hn (by decide)), if_pos (nI_pos' (by omega)), chk_pos (inb_nI hj (by decide)), clN (by omega), lets]
  refine loop_fn' (fun i => (nI i, fil (sI N 5 j (nI n)) 6 (60 * j) (nI 32) i)) 60 rfl (fun i hi => ?_) ?_ (by unfold FU; omega)
  · simp only [X9_text_L34]
    rw [if_neg (nI_ge hi (by decide)), ix60, chk_pos (inb_nI (by omega) (by decide)), clN (by omega), lets, lets, nI_1, fil]
  · simp only [X9_text_L34]
    rw [if_pos (nI_le (Nat.le_refl _) (by decide))]
theorem op_text {lw : Nat → Option Nat} (tl tt : Option Nat) {M N : Mem} {t : Nat} (ht : t ≤ 3100) (h : Rel t lw M N) (a1 : Int32) (a2 : Int32) : ∃ (r : Int32) (M' : Mem) (N' : Mem), F_X8_text M a1 a2 = some (r, M') ∧ F_X9_text N a1 a2 = some (r, N') ∧ Rel (t + 1) lw M' N' := by
  rcases pk_ix a1 (n := 4) (by decide) with h1 | h1 | ⟨j, hj, rfl⟩
  · exact ⟨-1, M, N, by rw [F_X8_text, bd1e (textOf_no (Or.inl h1)), bd2e comeAnew_none], by rw [F_X9_text, bd1e (isText_no (Or.inl h1)), if_pos rfl], h.up⟩
  · exact ⟨-1, M, N, by rw [F_X8_text, bd1e (textOf_no (Or.inr h1)), bd2e comeAnew_none], by rw [F_X9_text, bd1e (isText_no (Or.inr h1)), if_pos rfl], h.up⟩
  · have hs := slen_txt (j := j)
    rcases pk_ix a2 (n := 61) (by decide) with h2 | h2 | ⟨n, hn, rfl⟩
    · exact ⟨-3, fndC M 5, fndM N 5, by rw [F_X8_text, bd1e (textOf_in hj), bd2e (comeAnew_neg (isX5_txt hj) h2)], by rw [F_X9_text, bd1e (isText_in hj), if_neg (by decide), if_pos (le_of_neg 60 h2 (by decide)).1, if_neg (le_of_neg 60 h2 (by decide)).2, bd2e (meetk 5 (by decide) (by decide))], h.found (by decide)⟩
    · exact ⟨-1, M, N, by rw [F_X8_text, bd1e (textOf_in hj), bd2e (comeAnew_big (isX5_txt hj) (by rw [hs]; exact nle_of_le h2 (by decide)))], by rw [F_X9_text, bd1e (isText_in hj), if_neg (by decide), if_neg (nle_of_le h2 (by decide))], h.up⟩
    · exact ⟨nI n, _, _, by rw [F_X8_text, bd1e (textOf_in hj), bd2e (comeAnew_eq (isX5_txt hj) (by omega))], modelText_eq hj (by omega), h.txtNew hj (by omega)⟩
theorem in_size {x : Int32} {n : Nat} (hn : n ≤ 60) (h : x < 0 ∨ nI n ≤ x) : F_X9_in x 0 (nI n - 1) = some 0 := by
  refine in_no (h.imp id (fun h => ?_))
  rw [Int32.le_iff_toInt_le, nI_toInt (by omega)] at h
  rw [Int32.lt_iff_toInt_lt, show (1 : Int32) = nI 1 from rfl, pk_sub_toInt (by omega) (by decide)]
  omega
theorem in_sizeI {i n : Nat} (hn : n ≤ 60) (h : i < n) : F_X9_in (nI i) 0 (nI n - 1) = some 1 := by
  refine in_yes (nI_pos (by omega)) ?_
  rw [Int32.lt_iff_toInt_lt, show (1 : Int32) = nI 1 from rfl, pk_sub_toInt (by omega) (by decide), nI_toInt (by omega)]
  omega
theorem op_at {lw : Nat → Option Nat} (tl tt : Option Nat) {M N : Mem} {t : Nat} (ht : t ≤ 3100) (h : Rel t lw M N) (a1 : Int32) (a2 : Int32) : ∃ (r : Int32) (M' : Mem) (N' : Mem), F_X8_at M a1 a2 = some (r, M') ∧ F_X9_at N a1 a2 = some (r, N') ∧ Rel (t + 1) lw M' N' := by
  rcases pk_ix a1 (n := 6) (by decide) with h1 | h1 | ⟨j, hj, rfl⟩
  · exact ⟨-1, M, N, by rw [F_X8_at, bd1e (rowOf_no (Or.inl h1)), oc_n], by rw [F_X9_at, bd2e (askedRow_no (Or.inl h1)), if_neg (by decide)], h.up⟩
  · exact ⟨-1, M, N, by rw [F_X8_at, bd1e (rowOf_no (Or.inr h1)), oc_n], by rw [F_X9_at, bd2e (askedRow_no (Or.inr h1)), if_neg (by decide)], h.up⟩
  · have hs := slen_row hj
    rcases h.2.1 j hj with ⟨e1, e2⟩ | ⟨n, en, e1, e2, e3⟩
    · exact ⟨-3, fndC M 1, fndM N 1, by rw [F_X8_at, bd1e (rowOf_in hj), oc_s, chk_pos (isX5_row hj), bd1e (wrongPlace_ms e1), if_neg (by decide), bd2e found1], by rw [F_X9_at, bd2e (askedRow_ms hj e2), if_neg (by decide)], h.found (by decide)⟩
    · rcases pk_ix a2 (n := n) (by omega) with h2 | h2 | ⟨i, hi, rfl⟩
      · exact ⟨-3, fndC M 2, fndM N 2, by rw [F_X8_at, bd1e (rowOf_in hj), oc_s, chk_pos (isX5_row hj), bd1e (wrongPlace_eq e1 (by omega) (Or.inl h2)), if_neg (by decide), bd2e (foundk 2 (by decide) (by decide))], by rw [F_X9_at, bd2e (askedRow_in hj e2 en), if_pos (by decide), chk_pos (inb_nI hj (by decide)), clN (by omega), e2, bd1e (in_size (by omega) (Or.inl h2)), if_pos rfl, bd2e (meetk 2 (by decide) (by decide))], h.found (by decide)⟩
      · exact ⟨-3, fndC M 2, fndM N 2, by rw [F_X8_at, bd1e (rowOf_in hj), oc_s, chk_pos (isX5_row hj), bd1e (wrongPlace_eq e1 (by omega) (Or.inr h2)), if_neg (by decide), bd2e (foundk 2 (by decide) (by decide))], by rw [F_X9_at, bd2e (askedRow_in hj e2 en), if_pos (by decide), chk_pos (inb_nI hj (by decide)), clN (by omega), e2, bd1e (in_size (by omega) (Or.inr h2)), if_pos rfl, bd2e (meetk 2 (by decide) (by decide))], h.found (by decide)⟩
      · refine ⟨1, _, _, by rw [F_X8_at, bd1e (rowOf_in hj), oc_s, chk_pos (isX5_row hj), bd1e (wrongPlace_ok e1 (by omega) hi), if_pos rfl, bd1e (get_in e1 hi (by omega)), bd2e tell_eq], by rw [F_X9_at, bd2e (askedRow_in hj e2 en), if_pos (by decide), chk_pos (inb_nI hj (by decide)), clN (by omega), e2, bd1e (in_sizeI (by omega) hi), if_neg (by decide), bd1e (rowAt_eq hj (by omega)), bd2e ask_eq], ?_⟩
        rw [e3 i hi]
        exact h.ask _
theorem agr_tx_row {j : Nat} (hj : j < 6) : (∀ k, sTxC (26 + 2 * j) k = false ∧ sTxC (26 + 2 * j + 1) k = false) ∧ (∀ k, sGC (26 + 2 * j) k = false ∧ sGC (26 + 2 * j + 1) k = false) ∧ ∀ k, sToC (26 + 2 * j) k = false ∧ sToC (26 + 2 * j + 1) k = false := by
  refine ⟨fun k => ?_, fun k => ?_, fun k => ?_⟩
  · simp [sTxC]; omega
  · simp [sGC]; omega
  · simp [sToC]; omega
theorem agr_rw_txt {j : Nat} (hj : j < 4) : (∀ k, sRwC (38 + 2 * j) k = false ∧ sRwC (38 + 2 * j + 1) k = false) ∧ (∀ k, sGC (38 + 2 * j) k = false ∧ sGC (38 + 2 * j + 1) k = false) ∧ ∀ k, sToC (38 + 2 * j) k = false ∧ sToC (38 + 2 * j + 1) k = false := by
  refine ⟨fun k => ?_, fun k => ?_, fun k => ?_⟩
  · simp [sRwC]; omega
  · simp [sGC]; omega
  · simp [sToC]; omega
theorem m1_ne {n : Nat} (h : n < 2 ^ 31) : ¬ (-1 : Int32) = nI n := by
  intro q
  have := congrArg Int32.toInt q
  rw [nI_toInt h] at this
  have e : (-1 : Int32).toInt = -1 := by decide
  rw [e] at this
  omega
/-- one place of a row changes -/
theorem Rel.rowSet {t : Nat} {lw : Nat → Option Nat} {M N : Mem} (h : Rel t lw M N) {j n i : Nat} (hj : j < 6) (hn : n ≤ 40) (e1 : gI M (26 + 2 * j) 1 = nI n) (e2 : gI N 2 j = nI n) (hi : i < n) (v : Int32) : Rel (t + 1) lw (sI M (26 + 2 * j + 1) i v) (sI N 3 (40 * j + i) v) := by
  obtain ⟨sT, sG, sO⟩ := agr_tx_row hj
  have e3 : ∀ i, i < n → gI M (26 + 2 * j + 1) i = gI N 3 (40 * j + i) := by
    rcases h.2.1 j hj with ⟨f1, -⟩ | ⟨n', f0, f1, -, f3⟩
    · rw [f1] at e1
      exact absurd e1 (m1_ne (by omega))
    · rw [f1] at e1
      have : n' = n := (nI_eq (by omega) (by omega)).mp e1
      subst this
      exact f3
  refine h.strip (h.2.1.put hj (fun r hr e => ⟨fun k => gI_p (by omega), fun k => gI_p (by omega)⟩) (fun r hr e => ⟨gI_p (by decide), fun i' hi' => gI_k (by omega)⟩) (Or.inr ⟨n, hn, ?_, ?_, fun i' hi' => ?_⟩)) (h.1.fr (agr.rf.sI (sO _).2) (agr.rf.sI rfl) rfl rfl rfl rfl) (agr.rf.sI (sT _).2) (agr.rf.sI rfl) (agr.rf.sI (sG _).2) (agr.rf.sI rfl)
  · rw [gI_p (by omega)]; exact e1
  · rw [gI_p (by decide)]; exact e2
  · by_cases e : i' = i
    · subst e; rw [gI_same, gI_same]
    · rw [gI_k e, gI_k (by omega)]; exact e3 i' hi'
theorem Rel.txtSet {t : Nat} {lw : Nat → Option Nat} {M N : Mem} (h : Rel t lw M N) {j n i : Nat} (hj : j < 4) (hn : n ≤ 60) (e1 : gI M (38 + 2 * j) 1 = nI n) (e2 : gI N 5 j = nI n) (e3 : ∀ i, i < n → gI M (38 + 2 * j + 1) i = gI N 6 (60 * j + i)) (hi : i < n) (v : Int32) : Rel (t + 1) lw (sI M (38 + 2 * j + 1) i v) (sI N 6 (60 * j + i) v) := by
  obtain ⟨sT, sG, sO⟩ := agr_rw_txt hj
  refine h.stripT (h.2.2.1.put hj (fun r hr e => ⟨fun k => gI_p (by omega), fun k => gI_p (by omega)⟩) (fun r hr e => ⟨gI_p (by decide), fun i' hi' => gI_k (by omega)⟩) (Or.inr ⟨n, hn, ?_, ?_, fun i' hi' => ?_⟩)) (h.1.fr (agr.rf.sI (sO _).2) (agr.rf.sI rfl) rfl rfl rfl rfl) (agr.rf.sI (sT _).2) (agr.rf.sI rfl) (agr.rf.sI (sG _).2) (agr.rf.sI rfl)
  · rw [gI_p (by omega)]; exact e1
  · rw [gI_p (by decide)]; exact e2
  · by_cases e : i' = i
    · subst e; rw [gI_same, gI_same]
    · rw [gI_k e, gI_k (by omega)]; exact e3 i' hi'
/-- asked alone, the counter as it was -/
theorem Rel.ask0 {t : Nat} {lw : Nat → Option Nat} {M N : Mem} (h : Rel t lw M N) (x : Int32) : Rel t lw (sI M 0 12 x) (sI N 0 2 x) := ⟨ask_told h.1, h.2.1.fr (agr.rf.sI rfl) (agr.rf.sI rfl), h.2.2.1.fr (agr.rf.sI rfl) (agr.rf.sI rfl), h.2.2.2.fr (agr.rf.sI rfl) (agr.rf.sI rfl)⟩
theorem op_lay {lw : Nat → Option Nat} (tl tt : Option Nat) {M N : Mem} {t : Nat} (ht : t ≤ 3100) (h : Rel t lw M N) (a1 : Int32) (a2 : Int32) (a3 : Int32) : ∃ (r : Int32) (M' : Mem) (N' : Mem), F_X8_lay M a1 a2 a3 = some (r, M') ∧ F_X9_lay N a1 a2 a3 = some (r, N') ∧ Rel (t + 1) lw M' N' := by
  rcases pk_ix a1 (n := 6) (by decide) with h1 | h1 | ⟨j, hj, rfl⟩
  · exact ⟨-1, M, N, by rw [F_X8_lay, bd1e (rowOf_no (Or.inl h1)), oc_n], by rw [F_X9_lay, bd2e (show F_X9_at N a1 a2 = some (-1, N) by rw [F_X9_at, bd2e (askedRow_no (Or.inl h1)), if_neg (by decide)]), if_neg (by decide)], h.up⟩
  · exact ⟨-1, M, N, by rw [F_X8_lay, bd1e (rowOf_no (Or.inr h1)), oc_n], by rw [F_X9_lay, bd2e (show F_X9_at N a1 a2 = some (-1, N) by rw [F_X9_at, bd2e (askedRow_no (Or.inr h1)), if_neg (by decide)]), if_neg (by decide)], h.up⟩
  · have hs := slen_row hj
    rcases h.2.1 j hj with ⟨e1, e2⟩ | ⟨n, en, e1, e2, e3⟩
    · exact ⟨-3, fndC M 1, fndM N 1, by rw [F_X8_lay, bd1e (rowOf_in hj), oc_s, chk_pos (isX5_row hj), bd1e (wrongPlace_ms e1), if_neg (by decide), bd2e found1], by rw [F_X9_lay, bd2e (show F_X9_at N (nI j) a2 = some (-3, fndM N 1) by rw [F_X9_at, bd2e (askedRow_ms hj e2), if_neg (by decide)]), if_neg (by decide)], h.found (by decide)⟩
    · rcases pk_ix a2 (n := n) (by omega) with h2 | h2 | ⟨i, hi, rfl⟩
      · exact ⟨-3, fndC M 2, fndM N 2, by rw [F_X8_lay, bd1e (rowOf_in hj), oc_s, chk_pos (isX5_row hj), bd1e (wrongPlace_eq e1 (by omega) (Or.inl h2)), if_neg (by decide), bd2e (foundk 2 (by decide) (by decide))], by rw [F_X9_lay, bd2e (show F_X9_at N (nI j) a2 = some (-3, fndM N 2) by rw [F_X9_at, bd2e (askedRow_in hj e2 en), if_pos (by decide), chk_pos (inb_nI hj (by decide)), clN (by omega), e2, bd1e (in_size (by omega) (Or.inl h2)), if_pos rfl, bd2e (meetk 2 (by decide) (by decide))]), if_neg (by decide)], h.found (by decide)⟩
      · exact ⟨-3, fndC M 2, fndM N 2, by rw [F_X8_lay, bd1e (rowOf_in hj), oc_s, chk_pos (isX5_row hj), bd1e (wrongPlace_eq e1 (by omega) (Or.inr h2)), if_neg (by decide), bd2e (foundk 2 (by decide) (by decide))], by rw [F_X9_lay, bd2e (show F_X9_at N (nI j) a2 = some (-3, fndM N 2) by rw [F_X9_at, bd2e (askedRow_in hj e2 en), if_pos (by decide), chk_pos (inb_nI hj (by decide)), clN (by omega), e2, bd1e (in_size (by omega) (Or.inr h2)), if_pos rfl, bd2e (meetk 2 (by decide) (by decide))]), if_neg (by decide)], h.found (by decide)⟩
      · have hA := h.ask0 (gI M (26 + 2 * j + 1) i)
        have q1 : gI (sI M 0 12 (gI M (26 + 2 * j + 1) i)) (26 + 2 * j) 1 = nI n := by rw [gI_p (by omega)]; exact e1
        have q2 : gI (sI N 0 2 (gI M (26 + 2 * j + 1) i)) 2 j = nI n := by rw [gI_p (by decide)]; exact e2
        refine ⟨1, _, _, by rw [F_X8_lay, bd1e (rowOf_in hj), oc_s, chk_pos (isX5_row hj), bd1e (wrongPlace_ok e1 (by omega) hi), if_pos rfl, bd1e (get_in e1 hi (by omega)), lets, bd1e (set_in q1 hi (by omega))], by rw [F_X9_lay, bd2e (show F_X9_at N (nI j) (nI i) = some (1, sI N 0 2 (gI N 3 (40 * j + i))) by rw [F_X9_at, bd2e (askedRow_in hj e2 en), if_pos (by decide), chk_pos (inb_nI hj (by decide)), clN (by omega), e2, bd1e (in_sizeI (by omega) hi), if_neg (by decide), bd1e (rowAt_eq hj (by omega)), bd2e ask_eq]), if_pos (by decide), bd1e (setRow_eq hj (by omega))], ?_⟩
        rw [← e3 i hi]
        exact hA.rowSet hj en q1 q2 hi a3
theorem op_tear {lw : Nat → Option Nat} (tl tt : Option Nat) {M N : Mem} {t : Nat} (ht : t ≤ 3100) (h : Rel t lw M N) (a1 : Int32) : ∃ (r : Int32) (M' : Mem) (N' : Mem), F_X8_tear M a1 = some (r, M') ∧ F_X9_tear N a1 = some (r, N') ∧ Rel (t + 1) lw M' N' := by
  rcases pk_ix a1 (n := 6) (by decide) with h1 | h1 | ⟨j, hj, rfl⟩
  · exact ⟨-1, M, N, by rw [F_X8_tear, bd1e (rowOf_no (Or.inl h1)), oc_n], by rw [F_X9_tear, bd2e (askedRow_no (Or.inl h1)), if_neg (by decide)], h.up⟩
  · exact ⟨-1, M, N, by rw [F_X8_tear, bd1e (rowOf_no (Or.inr h1)), oc_n], by rw [F_X9_tear, bd2e (askedRow_no (Or.inr h1)), if_neg (by decide)], h.up⟩
  · have hs := slen_row hj
    rcases h.2.1 j hj with ⟨e1, e2⟩ | ⟨n, en, e1, e2, e3⟩
    · exact ⟨-3, fndC M 1, fndM N 1, by rw [F_X8_tear, bd1e (rowOf_in hj), oc_s, chk_pos (isX5_row hj), bd1e (missing_yes e1), if_neg (by decide), bd2e found1], by rw [F_X9_tear, bd2e (askedRow_ms hj e2), if_neg (by decide)], h.found (by decide)⟩
    · obtain ⟨sT, sG, sO⟩ := agr_tx_row hj
      refine ⟨1, sI M (26 + 2 * j) 1 (-1), sI N 2 j (-9), by rw [F_X8_tear, bd1e (rowOf_in hj), oc_s, chk_pos (isX5_row hj), bd1e (missing_no e1 (by omega)), if_pos rfl, bd1e (show F_X5_remove M (26 + 2 * j) = some (sI M (26 + 2 * j) 1 (-1)) from rfl)], by rw [F_X9_tear, bd2e (askedRow_in hj e2 en), if_pos (by decide), chk_pos (inb_nI hj (by decide)), clN (by omega), lets], ?_⟩
      exact h.strip (h.2.1.put hj (fun r hr e => ⟨fun k => gI_p (by omega), fun k => gI_p (by omega)⟩) (fun r hr e => ⟨gI_k e, fun i' hi' => gI_p (by decide)⟩) (Or.inl ⟨gI_same _ _ _ _, gI_same _ _ _ _⟩)) (h.1.fr (agr.rf.sI (sO _).1) (agr.rf.sI rfl) rfl rfl rfl rfl) (agr.rf.sI (sT _).1) (agr.rf.sI rfl) (agr.rf.sI (sG _).1) (agr.rf.sI rfl)
theorem op_put {lw : Nat → Option Nat} (tl tt : Option Nat) {M N : Mem} {t : Nat} (ht : t ≤ 3100) (h : Rel t lw M N) (a1 : Int32) (a2 : Int32) (a3 : Int32) : ∃ (r : Int32) (M' : Mem) (N' : Mem), F_X8_put M a1 a2 a3 = some (r, M') ∧ F_X9_put N a1 a2 a3 = some (r, N') ∧ Rel (t + 1) lw M' N' := by
  rcases pk_ix a1 (n := 4) (by decide) with h1 | h1 | ⟨j, hj, rfl⟩
  · exact ⟨-1, M, N, by rw [F_X8_put, bd1e (textOf_no (Or.inl h1)), oc_n], by rw [F_X9_put, bd2e (askedText_no (Or.inl h1)), if_neg (by decide)], h.up⟩
  · exact ⟨-1, M, N, by rw [F_X8_put, bd1e (textOf_no (Or.inr h1)), oc_n], by rw [F_X9_put, bd2e (askedText_no (Or.inr h1)), if_neg (by decide)], h.up⟩
  · have hs := slen_txt (j := j)
    rcases h.2.2.1 j hj with ⟨e1, e2⟩ | ⟨n, en, e1, e2, e3⟩
    · exact ⟨-3, fndC M 1, fndM N 1, by rw [F_X8_put, bd1e (textOf_in hj), oc_s, chk_pos (isX5_txt hj), bd1e (wrongPlace_ms e1), if_neg (by decide), bd2e found1], by rw [F_X9_put, bd2e (askedText_ms hj e2), if_neg (by decide)], h.found (by decide)⟩
    · rcases pk_ix a2 (n := n) (by omega) with h2 | h2 | ⟨i, hi, rfl⟩
      · exact ⟨-3, fndC M 2, fndM N 2, by rw [F_X8_put, bd1e (textOf_in hj), oc_s, chk_pos (isX5_txt hj), bd1e (wrongPlace_eq e1 (by omega) (Or.inl h2)), if_neg (by decide), bd2e (foundk 2 (by decide) (by decide))], by rw [F_X9_put, bd2e (askedText_in hj e2 en), if_pos (by decide), chk_pos (inb_nI hj (by decide)), clN (by omega), e2, bd1e (in_size (by omega) (Or.inl h2)), if_pos rfl, bd2e (meetk 2 (by decide) (by decide))], h.found (by decide)⟩
      · exact ⟨-3, fndC M 2, fndM N 2, by rw [F_X8_put, bd1e (textOf_in hj), oc_s, chk_pos (isX5_txt hj), bd1e (wrongPlace_eq e1 (by omega) (Or.inr h2)), if_neg (by decide), bd2e (foundk 2 (by decide) (by decide))], by rw [F_X9_put, bd2e (askedText_in hj e2 en), if_pos (by decide), chk_pos (inb_nI hj (by decide)), clN (by omega), e2, bd1e (in_size (by omega) (Or.inr h2)), if_pos rfl, bd2e (meetk 2 (by decide) (by decide))], h.found (by decide)⟩
      · refine ⟨gI M (38 + 2 * j + 1) i + nI 1000, _, _, by rw [F_X8_put, bd1e (textOf_in hj), oc_s, chk_pos (isX5_txt hj), bd1e (wrongPlace_ok e1 (by omega) hi), if_pos rfl, bd1e (get_in e1 hi (by omega)), bd1e (set_in e1 hi (by omega))], by rw [F_X9_put, bd2e (askedText_in hj e2 en), if_pos (by decide), chk_pos (inb_nI hj (by decide)), clN (by omega), e2, bd1e (in_sizeI (by omega) hi), if_neg (by decide), ix60, chk_pos (inb_nI (by omega) (by decide)), clN (by omega), lets, chk_pos (inb_nI (by omega) (by decide)), lets, e3 i hi], ?_⟩
        exact h.txtSet hj en e1 e2 e3 hi _
theorem op_asked {lw : Nat → Option Nat} (tl tt : Option Nat) {M N : Mem} {t : Nat} (ht : t ≤ 3100) (h : Rel t lw M N) : ∃ (r : Int32), F_X8_asked M = some r ∧ F_X9_asked N = some r ∧ Rel (t + 1) lw M N := ⟨gI M 0 12, rfl, by rw [h.1.1]; rfl, h.up⟩
theorem op_upper {lw : Nat → Option Nat} (tl tt : Option Nat) {M N : Mem} {t : Nat} (ht : t ≤ 3100) (h : Rel t lw M N) : ∃ (r : Int64), F_X8_upper M = some r ∧ F_X9_upper N = some r ∧ Rel (t + 1) lw M N := ⟨gJ M 0 13, rfl, by rw [h.1.2.1]; rfl, h.up⟩
theorem op_lower {lw : Nat → Option Nat} (tl tt : Option Nat) {M N : Mem} {t : Nat} (ht : t ≤ 3100) (h : Rel t lw M N) : ∃ (r : Int64), F_X8_lower M = some r ∧ F_X9_lower N = some r ∧ Rel (t + 1) lw M N := ⟨gJ M 0 14, rfl, by rw [h.1.2.2.1]; rfl, h.up⟩
theorem op_finding {lw : Nat → Option Nat} (tl tt : Option Nat) {M N : Mem} {t : Nat} (ht : t ≤ 3100) (h : Rel t lw M N) : ∃ (r : Int32), F_X8_finding M = some r ∧ F_X9_finding N = some r ∧ Rel (t + 1) lw M N := ⟨gI M 0 15, rfl, by rw [h.1.2.2.2.1]; rfl, h.up⟩
