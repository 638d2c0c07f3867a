theorem op_findings {lw : Nat → Option Nat} (tl tt : Option Nat) {M N : Mem} {t : Nat} (ht : t ≤ 3100) (h : Rel t lw M N) (a1 : Int32) : ∃ (r : Int32), F_X8_findings M a1 = some r ∧ F_X9_findings N a1 = some r ∧ Rel (t + 1) lw M N := by
  rcases pk_ix a1 (n := 6) (by decide) with h1 | h1 | ⟨j, hj, rfl⟩
  · have h2 : a1 < 1 := by
      rw [Int32.lt_iff_toInt_lt, Int32.toInt_zero] at h1
      rw [Int32.lt_iff_toInt_lt, show (1 : Int32) = nI 1 from rfl, nI_toInt (by decide)]
      omega
    exact ⟨-1, by rw [F_X8_findings, if_pos h2], by rw [F_X9_findings, bd1e (in_no (Or.inl h2)), if_pos rfl], h.up⟩
  · have h2 : ¬ a1 < 1 := by
      rw [Int32.le_iff_toInt_le, nI_toInt (by decide)] at h1
      rw [Int32.lt_iff_toInt_lt, show (1 : Int32) = nI 1 from rfl, nI_toInt (by decide)]
      omega
    have h3 : ¬ a1 < nI 6 := by
      rw [Int32.le_iff_toInt_le] at h1
      rw [Int32.lt_iff_toInt_lt]
      omega
    exact ⟨-1, by rw [F_X8_findings, if_neg h2, if_neg h3], by rw [F_X9_findings, bd1e (in_no (Or.inr (lt_of_le (k := 5) h1 (by decide)))), if_pos rfl], h.up⟩
  · by_cases h0 : j = 0
    · subst h0
      exact ⟨-1, by rw [F_X8_findings, if_pos (by decide)], by rw [F_X9_findings, bd1e (in_no (Or.inl (by decide))), if_pos rfl], h.up⟩
    · have h2 : ¬ nI j < 1 := nI_nlt (b := 1) (by omega) (by omega)
      exact ⟨gI M 25 j, by rw [F_X8_findings, if_neg h2, if_pos (nI_lt hj (by decide)), chk_pos (inb_nI hj (by decide)), clN (by omega)], by rw [F_X9_findings, bd1e (in_yes h2 (nI_nlt (by omega) (by decide))), if_neg (by decide), chk_pos (inb_nI hj (by decide)), clN (by omega), h.1.2.2.2.2 j hj], h.up⟩
/- writing a sequence -/
def wrs (N : Mem) (q b : Nat) (f : Nat → Int32) : Nat → Mem
  | 0 => N
  | i + 1 => sI (wrs N q b f i) q (b + i) (f i)
theorem gI_wrs (N : Mem) (q b : Nat) (f : Nat → Int32) (n x k : Nat) : gI (wrs N q b f n) x k = if x = q ∧ b ≤ k ∧ k < b + n then f (k - b) else gI N x k := by
  induction n with
  | zero => rw [if_neg (by omega)]; rfl
  | succ n ih =>
    rw [wrs, gI_sI, ih]
    by_cases h1 : x = q ∧ k = b + n
    · rw [if_pos h1, if_pos (by omega), show k - b = n by omega]
    · rw [if_neg h1]
      by_cases h2 : x = q ∧ b ≤ k ∧ k < b + n
      · rw [if_pos h2, if_pos (by omega)]
      · rw [if_neg h2, if_neg (by omega)]
theorem gJ_wrs (N : Mem) (q b : Nat) (f : Nat → Int32) (n x k : Nat) : gJ (wrs N q b f n) x k = gJ N x k := by
  induction n with
  | zero => rfl
  | succ n ih => rw [wrs, gJ_sI, ih]
theorem agr.wrs {S : Nat → Nat → Bool} {M M' : Mem} {q b n : Nat} {f : Nat → Int32} (h : agr S M M') (hS : ∀ k, S q k = false) : agr S M (wrs M' q b f n) := by
  intro x j hx
  rw [gI_wrs, if_neg (fun e => by rw [e.1, hS] at hx; cases hx)]
  exact h x j hx
/- longs -/
def smJ (f : Nat → Int64) : Nat → Int64
  | 0 => 0
  | n + 1 => smJ f n + f n
theorem smJ_congr {f g : Nat → Int64} {n : Nat} (h : ∀ i, i < n → f i = g i) : smJ f n = smJ g n := by
  induction n with
  | zero => rfl
  | succ n ih => rw [smJ, smJ, ih (fun i hi => h i (by omega)), h n (by omega)]
theorem sum_eq {M : Mem} {p n : Nat} (h : gI M p 1 = nI n) (hn : n ≤ slen p) : F_X5_sum M p = some (smJ (fun i => (gI M (p + 1) i).toInt64) n) := by
  have hs : slen p ≤ 60 := by unfold slen; split <;> omega
  unfold F_X5_sum
  refine loop_fn' (fun i => (smJ (fun i => (gI M (p + 1) i).toInt64) i, nI i)) n rfl (fun i hi => ?_) ?_ (by unfold FU; omega)
  · simp only [X5_sum_L4]
    rw [h, if_neg (nI_ge hi (by omega)), if_neg (nI_ge (by omega) (by omega)), chk_pos (inb_nI (by omega) (by omega)), clN (by omega), lets, lets, nI_1, smJ]
  · simp only [X5_sum_L4]
    rw [h, if_pos (nI_le (Nat.le_refl _) (by omega))]
theorem toInt64_ne {n : Nat} (h0 : 0 < n) (h : n < 2 ^ 31) : ¬ (nI n).toInt64 = 0 := by
  rw [nI_l h]
  intro e
  have := (lN_eq (b := 0) h (by decide)).mp e
  omega
theorem nI_0lt {n : Nat} (h0 : 0 < n) (h : n < 2 ^ 31) : (0 : Int32) < nI n := nI_lt (a := 0) h0 h
theorem op_mean {lw : Nat → Option Nat} (tl tt : Option Nat) {M N : Mem} {t : Nat} (ht : t ≤ 3100) (h : Rel t lw M N) (a1 : Int32) : ∃ (r : Int32) (M' : Mem) (N' : Mem), F_X8_mean M a1 = some (r, M') ∧ F_X9_mean N a1 = some (r, N') ∧ Rel (t + 1) lw M' N' := by
  rcases pk_ix a1 (n := 6) (by decide) with h1 | h1 | ⟨j, hj, rfl⟩
  · exact ⟨-1, M, N, by rw [F_X8_mean, bd1e (rowOf_no (Or.inl h1)), oc_n], by rw [F_X9_mean, bd2e (askedRow_no (Or.inl h1)), if_neg (by decide)], h.up⟩
  · exact ⟨-1, M, N, by rw [F_X8_mean, bd1e (rowOf_no (Or.inr h1)), oc_n], by rw [F_X9_mean, bd2e (askedRow_no (Or.inr h1)), if_neg (by decide)], h.up⟩
  · have hs := slen_row hj
    rcases h.2.1 j hj with ⟨e1, e2⟩ | ⟨n, en, e1, e2, e3⟩
    · exact ⟨-3, fndC M 1, fndM N 1, by rw [F_X8_mean, bd1e (rowOf_in hj), oc_s, chk_pos (isX5_row hj), bd1e (missing_yes e1), if_neg (by decide), bd2e found1], by rw [F_X9_mean, bd2e (askedRow_ms hj e2), if_neg (by decide)], h.found (by decide)⟩
    · have hl : loop (X9_mean_L17 N (nI j)) FU (0, 0) = some (smJ (fun i => (gI N 3 (40 * j + i)).toInt64) n) := by
        refine loop_fn' (fun i => (smJ (fun i => (gI N 3 (40 * j + i)).toInt64) i, nI i)) n rfl (fun i hi => ?_) ?_ (by unfold FU; omega)
        · simp only [X9_mean_L17]
          rw [chk_pos (inb_nI hj (by decide)), clN (by omega), e2, if_neg (nI_ge hi (by omega)), bd1e (rowAt_eq hj (by omega)), lets, lets, nI_1, smJ]
        · simp only [X9_mean_L17]
          rw [chk_pos (inb_nI hj (by decide)), clN (by omega), e2, if_pos (nI_le (Nat.le_refl _) (by omega))]
      by_cases h0 : n = 0
      · subst h0
        refine ⟨-3, fndC M 4, fndM N 4, by rw [F_X8_mean, bd1e (rowOf_in hj), oc_s, chk_pos (isX5_row hj), bd1e (missing_no e1 (by omega)), if_pos rfl, bd1e (show F_X5_size M (26 + 2 * j) = some (nI 0) by rw [F_X5_size, e1]), if_neg (by decide), bd2e (foundk 4 (by decide) (by decide))], ?_, h.found (by decide)⟩
        rw [F_X9_mean, bd2e (askedRow_in hj e2 en), if_pos (by decide), bd1e hl, chk_pos (inb_nI hj (by decide)), clN (by omega), e2, if_pos nI_0, bd2e (meetk 4 (by decide) (by decide))]
      · refine ⟨1, _, _, by rw [F_X8_mean, bd1e (rowOf_in hj), oc_s, chk_pos (isX5_row hj), bd1e (missing_no e1 (by omega)), if_pos rfl, bd1e (show F_X5_size M (26 + 2 * j) = some (nI n) by rw [F_X5_size, e1]), if_pos (nI_0lt (by omega) (by omega)), bd1e (sum_eq e1 (by omega)), chk_pos (toInt64_ne (by omega) (by omega)), bd2e tell_eq], by rw [F_X9_mean, bd2e (askedRow_in hj e2 en), if_pos (by decide), bd1e hl, chk_pos (inb_nI hj (by decide)), clN (by omega), e2, if_neg (nI_ne0 (by omega) (by omega)), chk_pos (inb_nI hj (by decide)), chk_pos (toInt64_ne (by omega) (by omega)), bd2e ask_eq], ?_⟩
        rw [smJ_congr (n := n) (g := fun i => (gI N 3 (40 * j + i)).toInt64) (fun i hi => by rw [e3 i hi])]
        exact h.ask _

theorem spans_eq {M : Mem} {p n : Nat} {x k : Int32} (h : gI M p 1 = nI n) (hn : n ≤ 60) (hk : 0 ≤ k.toInt) : F_X5_spans M p x k = some (if 0 ≤ x.toInt ∧ x.toInt + k.toInt ≤ n then 1 else 0) := by
  have hk2 : ¬ k < 0 := by rw [Int32.lt_iff_toInt_lt, Int32.toInt_zero]; omega
  have hlt := Int32.toInt_lt k
  unfold F_X5_spans
  by_cases h0 : x < 0
  · rw [if_pos h0, if_neg]
    rw [Int32.lt_iff_toInt_lt, Int32.toInt_zero] at h0
    omega
  · rw [if_neg h0, if_neg hk2, h]
    have hsub : (nI n - k).toInt = (n : Int) - k.toInt := by
      obtain ⟨j, hj, rfl⟩ := nI_of hk2
      rw [Int32.toInt_sub, nI_toInt (by omega), nI_toInt hj]
      rw [Int.bmod_eq_of_le] <;> omega
    rw [Int32.lt_iff_toInt_lt, Int32.toInt_zero] at h0
    by_cases h1 : nI n - k < x
    · rw [if_pos h1, if_neg]
      rw [Int32.lt_iff_toInt_lt, hsub] at h1
      omega
    · rw [if_neg h1, if_pos]
      rw [Int32.lt_iff_toInt_lt, hsub] at h1
      omega
theorem lgc {x y : Int64} : (0 < lg_cmp x y ↔ y < x) ∧ (lg_cmp x y ≤ 0 ↔ ¬ y < x) := by
  unfold lg_cmp
  rcases lg_tri x y with h | h | h
  · have h2 := lg_lt_not h
    have h3 := lg_lt_ne h
    simp [h2, h3]
  · subst h
    simp
  · have h2 := lg_lt_not h
    have h3 : ¬ x = y := fun e => lg_lt_ne h e.symm
    simp [h, h2]
theorem cmp_eq {x k : Int32} {n : Nat} (hn : n ≤ 60) : ((nI n).toInt64 < x.toInt64 + k.toInt64) ↔ (n : Int) < x.toInt + k.toInt := by
  rw [Int64.lt_iff_toInt_lt, lg_i2l_add, Int32.toInt_toInt64, nI_toInt (by omega)]
theorem moving_eq {N : Mem} {j i n x3 x4 : Nat} {a3 a4 : Int32} (hj : j < 6) (hi : i + n ≤ 40) : loop (X9_copy_L104 (nI j) (nI i) a3 a4 (nI n)) FU (0, N) = some (wrs N 4 0 (fun k => gI N 3 (40 * j + (i + k))) n) := by
  refine loop_fn' (fun k => (nI k, wrs N 4 0 (fun k => gI N 3 (40 * j + (i + k))) k)) n rfl (fun k hk => ?_) ?_ (by unfold FU; omega)
  · simp only [X9_copy_L104]
    rw [if_neg (nI_ge hk (by omega)), nI_add, bd1e (rowAt_eq hj (by omega)), gI_wrs, if_neg (by omega), chk_pos (inb_nI (by omega) (by decide)), clN (by omega), lets, lets, nI_1, wrs, Nat.zero_add]
  · simp only [X9_copy_L104]
    rw [if_pos (nI_le (Nat.le_refl _) (by omega))]
theorem laying_eq {N : Mem} {j i n : Nat} (hj : j < 6) (hi : i + n ≤ 40) : loop (X9_copy_L136 (nI j) (nI i) (nI n)) FU (0, N) = some (1, wrs N 3 (40 * j + i) (fun k => gI N 4 k) n) := by
  refine loop_fn' (fun k => (nI k, wrs N 3 (40 * j + i) (fun k => gI N 4 k) k)) n rfl (fun k hk => ?_) ?_ (by unfold FU; omega)
  · simp only [X9_copy_L136]
    rw [if_neg (nI_ge hk (by omega)), chk_pos (inb_nI (by omega) (by decide)), clN (by omega), nI_add, bd1e (setRow_eq hj (by omega)), gI_wrs, if_neg (by omega), lets, nI_1, wrs, Nat.add_assoc]
  · simp only [X9_copy_L136]
    rw [if_pos (nI_le (Nat.le_refl _) (by omega))]
theorem toInt_neg {x : Int32} (h : x < 0) : x.toInt < 0 := by rwa [Int32.lt_iff_toInt_lt, Int32.toInt_zero] at h
theorem toInt_nneg {x : Int32} (h : ¬ x < 0) : 0 ≤ x.toInt := by rw [Int32.lt_iff_toInt_lt, Int32.toInt_zero] at h; omega
theorem of_toInt {x : Int32} (h : 0 ≤ x.toInt) : ∃ j : Nat, j < 2 ^ 31 ∧ x = nI j ∧ x.toInt = j := by
  obtain ⟨j, hj, rfl⟩ := nI_of (x := x) (by rw [Int32.lt_iff_toInt_lt, Int32.toInt_zero]; omega)
  exact ⟨j, hj, rfl, nI_toInt hj⟩
/-- places of a row come to another one -/
theorem Rel.rowCopy {t : Nat} {lw : Nat → Option Nat} {M N : Mem} (h : Rel t lw M N) {j j' n n' i i' k : Nat} (hj : j < 6) (hj' : j' < 6) (hn' : n' ≤ 40) (e3 : ∀ i, i < n → gI M (26 + 2 * j + 1) i = gI N 3 (40 * j + i)) (e1' : gI M (26 + 2 * j') 1 = nI n') (e2' : gI N 2 j' = nI n') (e3' : ∀ i, i < n' → gI M (26 + 2 * j' + 1) i = gI N 3 (40 * j' + i)) (h1 : i + k ≤ n) (h2 : i' + k ≤ n') : Rel (t + 1) lw (cpI M (26 + 2 * j + 1) i (26 + 2 * j' + 1) i' k) (wrs (wrs N 4 0 (fun z => gI N 3 (40 * j + (i + z))) k) 3 (40 * j' + i') (fun z => gI (wrs N 4 0 (fun z => gI N 3 (40 * j + (i + z))) k) 4 z) k) := by
  obtain ⟨sT, sG, sO⟩ := agr_tx_row hj'
  refine h.strip (h.2.1.put hj' (fun r hr e => ⟨fun k => ?_, fun k => ?_⟩) (fun r hr e => ⟨?_, fun z hz => ?_⟩) (Or.inr ⟨n', hn', ?_, ?_, fun z hz => ?_⟩)) (h.1.fr (agr.rf.cp (fun k => (sO k).2)) ((agr.rf.wrs (fun _ => rfl)).wrs (fun _ => rfl)) rfl rfl (by rw [gJ_wrs, gJ_wrs]) (by rw [gJ_wrs, gJ_wrs])) (agr.rf.cp (fun k => (sT k).2)) ((agr.rf.wrs (fun _ => rfl)).wrs (fun _ => rfl)) (agr.rf.cp (fun k => (sG k).2)) ((agr.rf.wrs (fun _ => rfl)).wrs (fun _ => rfl))
  · rw [gI_cpI, if_neg (by omega)]
  · rw [gI_cpI, if_neg (by omega)]
  · rw [gI_wrs, if_neg (by omega), gI_wrs, if_neg (by omega)]
  · rw [gI_wrs, if_neg (by omega), gI_wrs, if_neg (by omega)]
  · rw [gI_cpI, if_neg (by omega)]; exact e1'
  · rw [gI_wrs, if_neg (by omega), gI_wrs, if_neg (by omega)]; exact e2'
  · by_cases hz2 : i' ≤ z ∧ z < i' + k
    · rw [gI_cpI, if_pos ⟨rfl, hz2⟩, gI_wrs, if_pos (by omega), gI_wrs, if_pos (by omega), e3 _ (by omega)]
      congr 1
      omega
    · rw [gI_cpI, if_neg (by omega), gI_wrs, if_neg (by omega), gI_wrs, if_neg (by omega)]
      exact e3' z hz
theorem take_eq {M : Mem} {p p' n n' i i' k : Nat} (e1 : gI M p 1 = nI n) (hn : n ≤ slen p) (e1' : gI M p' 1 = nI n') (hn' : n' ≤ slen p') (h1 : i + k ≤ n) (h2 : i' + k ≤ n') : F_X5_take M p' (nI i') p (nI i) (nI k) = some (cpI M (p + 1) i (p' + 1) i' k) := by
  have hs : slen p ≤ 60 := by unfold slen; split <;> omega
  have hs' : slen p' ≤ 60 := by unfold slen; split <;> omega
  unfold F_X5_take
  have t1 : (nI i).toInt = i := nI_toInt (by omega)
  have t2 : (nI i').toInt = i' := nI_toInt (by omega)
  have t3 : (nI k).toInt = k := nI_toInt (by omega)
  rw [bd1e (spans_eq e1 (by omega) (by omega)), if_pos (show 0 ≤ (nI i).toInt ∧ (nI i).toInt + (nI k).toInt ≤ (n : Int) by omega), if_neg (by decide), bd1e (spans_eq e1' (by omega) (by omega)), if_pos (show 0 ≤ (nI i').toInt ∧ (nI i').toInt + (nI k).toInt ≤ (n' : Int) by omega), if_neg (by decide), chk_pos, lets, clN (by omega), clN (by omega), clN (by omega)]
  rw [clN (by omega), clN (by omega), clN (by omega)]
  exact ⟨nI_pos (by omega), nI_pos (by omega), nI_pos (by omega), by omega, by omega⟩
theorem ifc {α : Type} {c d : Prop} [Decidable c] [Decidable d] (h : c ↔ d) {a b : α} : (if c then a else b) = if d then a else b := by
  by_cases hd : d
  · rw [if_pos hd, if_pos (h.mpr hd)]
  · rw [if_neg hd, if_neg (fun hc => hd (h.mp hc))]
theorem n10 : ¬ (1 : Int32) = 0 := by decide
theorem op_copy {lw : Nat → Option Nat} (tl tt : Option Nat) {M N : Mem} {t : Nat} (ht : t ≤ 3100) (h : Rel t lw M N) (a1 : Int32) (a2 : Int32) (a3 : Int32) (a4 : Int32) (a5 : Int32) : ∃ (r : Int32) (M' : Mem) (N' : Mem), F_X8_copy M a1 a2 a3 a4 a5 = some (r, M') ∧ F_X9_copy N a1 a2 a3 a4 a5 = some (r, N') ∧ Rel (t + 1) lw M' N' := by
  have bad : ∀ o, F_X8_rowOf a1 = some none → F_X8_rowOf a3 = some o → F_X8_copy M a1 a2 a3 a4 a5 = some (-1, M) := fun o h1 h2 => by rw [F_X8_copy, bd1e h1, bd1e h2, oc_n]
  have ex3 : ∃ o, F_X8_rowOf a3 = some o := by
    rcases pk_ix a3 (n := 6) (by decide) with h1 | h1 | ⟨j, hj, rfl⟩
    · exact ⟨_, rowOf_no (Or.inl h1)⟩
    · exact ⟨_, rowOf_no (Or.inr h1)⟩
    · exact ⟨_, rowOf_in hj⟩
  obtain ⟨o3, ho3⟩ := ex3
  rcases pk_ix a1 (n := 6) (by decide) with h1 | h1 | ⟨j, hj, rfl⟩
  · exact ⟨-1, M, N, bad o3 (rowOf_no (Or.inl h1)) ho3, by rw [F_X9_copy, bd1e (isRow_no (Or.inl h1)), if_pos rfl], h.up⟩
  · exact ⟨-1, M, N, bad o3 (rowOf_no (Or.inr h1)) ho3, by rw [F_X9_copy, bd1e (isRow_no (Or.inr h1)), if_pos rfl], h.up⟩
  · rcases pk_ix a3 (n := 6) (by decide) with h3 | h3 | ⟨j', hj', rfl⟩
    · exact ⟨-1, M, N, by rw [F_X8_copy, bd1e (rowOf_in hj), bd1e (rowOf_no (Or.inl h3)), oc_s, oc_n], by rw [F_X9_copy, bd1e (isRow_in hj), if_neg (by decide), bd1e (isRow_no (Or.inl h3)), if_pos rfl], h.up⟩
    · exact ⟨-1, M, N, by rw [F_X8_copy, bd1e (rowOf_in hj), bd1e (rowOf_no (Or.inr h3)), oc_s, oc_n], by rw [F_X9_copy, bd1e (isRow_in hj), if_neg (by decide), bd1e (isRow_no (Or.inr h3)), if_pos rfl], h.up⟩
    · clear bad ho3
      rw [F_X8_copy, bd1e (rowOf_in hj), bd1e (rowOf_in hj'), oc_s, oc_s, F_X9_copy, bd1e (isRow_in hj), if_neg n10, bd1e (isRow_in hj'), if_neg n10]
      by_cases h5 : 0 ≤ a5
      · rw [if_pos h5, if_pos h5, chk_pos (isX5_row hj), chk_pos (inb_nI hj (by decide)), clN (by omega)]
        have h5' : 0 ≤ a5.toInt := by rwa [Int32.le_iff_toInt_le, Int32.toInt_zero] at h5
        rcases h.2.1 j hj with ⟨e1, e2⟩ | ⟨n, en, e1, e2, e3⟩
        · rw [bd1e (missing_yes e1), if_neg n10, X8_copy_J53, bd2e found1, e2, if_pos (show (-9 : Int32) < 0 by decide), X9_copy_J45, bd2e meet1]
          exact ⟨-3, _, _, rfl, rfl, h.found (by decide)⟩
        · rw [bd1e (missing_no e1 (by omega)), if_pos rfl, e2, if_neg (nI_pos (by omega)), chk_pos (isX5_row hj'), chk_pos (inb_nI hj' (by decide)), clN (by omega)]
          rcases h.2.1 j' hj' with ⟨e1', e2'⟩ | ⟨n', en', e1', e2', e3'⟩
          · rw [bd1e (missing_yes e1'), if_neg n10, X8_copy_J53, bd2e found1, e2', if_neg (show ¬ (0 : Int32) ≤ -9 by decide), X9_copy_J45, bd2e meet1]
            exact ⟨-3, _, _, rfl, rfl, h.found (by decide)⟩
          · rw [bd1e (missing_no e1' (by omega)), if_pos rfl, e2', if_pos (nI_pos' (by omega)), bd1e (spans_eq e1 (by omega) h5'), bd1e (spans_eq e1' (by omega) h5')]
            have no : ∃ (r : Int32) (M' : Mem) (N' : Mem), X8_copy_J82 M = some (r, M') ∧ X9_copy_J95 N = some (r, N') ∧ Rel (t + 1) lw M' N' := ⟨-3, _, _, by rw [X8_copy_J82, bd2e (foundk 2 (by decide) (by decide))], by rw [X9_copy_J95, bd2e (meetk 2 (by decide) (by decide))], h.found (by decide)⟩
            by_cases c1 : a2 < 0
            · have := toInt_neg c1
              rw [if_pos c1, if_neg (show ¬ (0 ≤ a2.toInt ∧ _) by omega), if_pos rfl]
              exact no
            · have c1' := toInt_nneg c1
              rw [if_neg c1]
              by_cases c2 : a4 < 0
              · have := toInt_neg c2
                rw [if_pos c2, if_neg (show ¬ (0 ≤ a4.toInt ∧ _) by omega)]
                split
                · exact no
                · rw [if_pos rfl]; exact no
              · have c2' := toInt_nneg c2
                rw [if_neg c2, chk_pos (inb_nI hj (by decide)), ifc lgc.1, ifc (cmp_eq (by omega))]
                by_cases c3 : (n : Int) < a2.toInt + a5.toInt
                · rw [if_pos c3, if_neg (show ¬ (0 ≤ a2.toInt ∧ a2.toInt + a5.toInt ≤ n) by omega), if_pos rfl]
                  exact no
                · rw [if_neg c3, if_pos (show (0 ≤ a2.toInt ∧ a2.toInt + a5.toInt ≤ n) by omega), if_neg n10, chk_pos (inb_nI hj' (by decide)), ifc lgc.2, ifc (not_congr (cmp_eq (by omega)))]
                  by_cases c4 : (n' : Int) < a4.toInt + a5.toInt
                  · rw [if_neg (not_not_intro c4), if_neg (show ¬ (0 ≤ a4.toInt ∧ a4.toInt + a5.toInt ≤ n') by omega), if_pos rfl]
                    exact no
                  · rw [if_pos c4, if_pos (show (0 ≤ a4.toInt ∧ a4.toInt + a5.toInt ≤ n') by omega), if_neg n10]
                    obtain ⟨i, hi, rfl, ti⟩ := of_toInt c1'
                    obtain ⟨i', hi', rfl, ti'⟩ := of_toInt c2'
                    obtain ⟨k, hk, rfl, tk⟩ := of_toInt h5'
                    rw [ti, tk] at c3
                    rw [ti', tk] at c4
                    have s1 := slen_row hj
                    have s2 := slen_row hj'
                    rw [bd1e (take_eq e1 (by omega) e1' (by omega) (by omega) (by omega)), bd1e (moving_eq (x3 := 0) (x4 := 0) hj (by omega)), laying_eq hj' (by omega)]
                    exact ⟨1, _, _, rfl, rfl, h.rowCopy hj hj' en' e3 e1' e2' e3' (by omega) (by omega)⟩
      · rw [if_neg h5, if_neg h5, bd2e (foundk 5 (by decide) (by decide)), bd2e (meetk 5 (by decide) (by decide))]
        exact ⟨-3, _, _, rfl, rfl, h.found (by decide)⟩
