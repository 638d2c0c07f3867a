/-! ===== the two readers ===== -/
/-- two loops, step by step -/
theorem loop_rel {σ ρ σ' ρ' : Type} {f : σ → Option (σ ⊕ ρ)} {f' : σ' → Option (σ' ⊕ ρ')} (I : Nat → σ → σ' → Prop) (Q : ρ → ρ' → Prop) (N : Nat) (h : ∀ i s s', i ≤ N → I i s s' → (i < N ∧ ∃ u u', f s = some (.inl u) ∧ f' s' = some (.inl u') ∧ I (i + 1) u u') ∨ ∃ r r', f s = some (.inr r) ∧ f' s' = some (.inr r') ∧ Q r r') {k k' : Nat} (hk : N < k) (hk' : N < k') {s : σ} {s' : σ'} (h0 : I 0 s s') : ∃ r r', loop f k s = some r ∧ loop f' k' s' = some r' ∧ Q r r' := by
  have key : ∀ j i, i + j = N → ∀ k k', j < k → j < k' → ∀ s s', I i s s' → ∃ r r', loop f k s = some r ∧ loop f' k' s' = some r' ∧ Q r r' := by
    intro j
    induction j with
    | zero =>
      intro i hi k k' hk hk' s s' hs
      obtain ⟨a, rfl⟩ : ∃ a, k = a + 1 := ⟨k - 1, by omega⟩
      obtain ⟨a', rfl⟩ : ∃ a', k' = a' + 1 := ⟨k' - 1, by omega⟩
      rcases h i s s' (by omega) hs with ⟨h1, -⟩ | ⟨r, r', h1, h2, h3⟩
      · omega
      · exact ⟨r, r', loop_en h1, loop_en h2, h3⟩
    | succ j ih =>
      intro i hi k k' hk hk' s s' hs
      obtain ⟨a, rfl⟩ : ∃ a, k = a + 1 := ⟨k - 1, by omega⟩
      obtain ⟨a', rfl⟩ : ∃ a', k' = a' + 1 := ⟨k' - 1, by omega⟩
      rcases h i s s' (by omega) hs with ⟨h1, u, u', h2, h3, h4⟩ | ⟨r, r', h1, h2, h3⟩
      · rw [loop_st h2, loop_st h3]
        exact ih (i + 1) (by omega) a a' (by omega) (by omega) u u' h4
      · exact ⟨r, r', loop_en h1, loop_en h2, h3⟩
  exact key N 0 (by omega) k k' hk hk' s s' h0
def okV (b : Nat) (x y : Int32) : Prop := ∃ v, v ≤ b ∧ x = nI v ∧ y = nI v
def PC (M0 M : Mem) (p ln cw l : Nat) : Prop := gI M 3 3 = nI p ∧ gI M 3 4 = nI ln ∧ gI M 3 5 = nI cw ∧ gI M 3 6 = nI l ∧ (∀ q x, ¬ (3 ≤ q ∧ q ≤ 6) → gI M q x = gI M0 q x) ∧ ∀ q x, gJ M q x = gJ M0 q x
def PM (N0 N : Mem) (p : Nat) (x18 x19 : Int32) (l : Nat) : Prop := gI N 0 17 = nI p ∧ gI N 0 18 = x18 ∧ gI N 0 19 = x19 ∧ gI N 0 20 = nI l ∧ (∀ q x, q ≠ 10 → ¬ (q = 0 ∧ 17 ≤ x ∧ x ≤ 20) → gI N q x = gI N0 q x) ∧ ∀ q x, gJ N q x = gJ N0 q x
def DT (M N : Mem) (c g l : Nat) : Prop := (∀ i, i < c → okV 5 (gI M 4 i) (gI N 10 i)) ∧ (∀ i, i < g → okV 3 (gI M 5 i) (gI N 10 (16 + i))) ∧ ∀ i, i < l → okV 5 (gI M 6 i) (gI N 10 (20 + i))
/-- the text that is read -/
def TX (M0 N0 : Mem) (j n : Nat) (V : Nat → Int32) : Prop := j < 4 ∧ n ≤ 60 ∧ gI M0 (38 + 2 * j) 1 = nI n ∧ (∀ i, i < n → gI M0 (38 + 2 * j + 1) i = V i) ∧ gI N0 5 j = nI n ∧ ∀ i, i < n → gI N0 6 (60 * j + i) = V i
theorem PC.s3 {M0 M : Mem} {p ln cw l : Nat} (h : PC M0 M p ln cw l) (p' : Nat) : PC M0 (sI M 3 3 (nI p')) p' ln cw l := by
  obtain ⟨a1, a2, a3, a4, a5, a6⟩ := h
  exact ⟨gI_same _ _ _ _, by rw [gI_k (by decide)]; exact a2, by rw [gI_k (by decide)]; exact a3, by rw [gI_k (by decide)]; exact a4, fun q x hq => by rw [gI_p (by omega)]; exact a5 q x hq, a6⟩
theorem PC.s4 {M0 M : Mem} {p ln cw l : Nat} (h : PC M0 M p ln cw l) (v : Nat) : PC M0 (sI M 3 4 (nI v)) p v cw l := by
  obtain ⟨a1, a2, a3, a4, a5, a6⟩ := h
  exact ⟨by rw [gI_k (by decide)]; exact a1, gI_same _ _ _ _, by rw [gI_k (by decide)]; exact a3, by rw [gI_k (by decide)]; exact a4, fun q x hq => by rw [gI_p (by omega)]; exact a5 q x hq, a6⟩
theorem PC.s5 {M0 M : Mem} {p ln cw l : Nat} (h : PC M0 M p ln cw l) (v : Nat) : PC M0 (sI M 3 5 (nI v)) p ln v l := by
  obtain ⟨a1, a2, a3, a4, a5, a6⟩ := h
  exact ⟨by rw [gI_k (by decide)]; exact a1, by rw [gI_k (by decide)]; exact a2, gI_same _ _ _ _, by rw [gI_k (by decide)]; exact a4, fun q x hq => by rw [gI_p (by omega)]; exact a5 q x hq, a6⟩
theorem PC.s6 {M0 M : Mem} {p ln cw l : Nat} (h : PC M0 M p ln cw l) (v : Nat) : PC M0 (sI M 3 6 (nI v)) p ln cw v := by
  obtain ⟨a1, a2, a3, a4, a5, a6⟩ := h
  exact ⟨by rw [gI_k (by decide)]; exact a1, by rw [gI_k (by decide)]; exact a2, by rw [gI_k (by decide)]; exact a3, gI_same _ _ _ _, fun q x hq => by rw [gI_p (by omega)]; exact a5 q x hq, a6⟩
theorem PC.dt {M0 M : Mem} {p ln cw l : Nat} (h : PC M0 M p ln cw l) {q0 : Nat} (k : Nat) (v : Int32) (hq : 4 ≤ q0 ∧ q0 ≤ 6) : PC M0 (sI M q0 k v) p ln cw l := by
  obtain ⟨a1, a2, a3, a4, a5, a6⟩ := h
  exact ⟨by rw [gI_p (by omega)]; exact a1, by rw [gI_p (by omega)]; exact a2, by rw [gI_p (by omega)]; exact a3, by rw [gI_p (by omega)]; exact a4, fun q x hq => by rw [gI_p (by omega)]; exact a5 q x hq, a6⟩
theorem PM.s17 {N0 N : Mem} {p l : Nat} {x18 x19 : Int32} (h : PM N0 N p x18 x19 l) (v : Nat) : PM N0 (sI N 0 17 (nI v)) v x18 x19 l := by
  obtain ⟨a1, a2, a3, a4, a5, a6⟩ := h
  exact ⟨gI_same _ _ _ _, by rw [gI_k (by decide)]; exact a2, by rw [gI_k (by decide)]; exact a3, by rw [gI_k (by decide)]; exact a4, fun q x hq hx => by rw [gI_sI, if_neg (by omega)]; exact a5 q x hq hx, a6⟩
theorem PM.s18 {N0 N : Mem} {p l : Nat} {x18 x19 : Int32} (h : PM N0 N p x18 x19 l) (v : Int32) : PM N0 (sI N 0 18 v) p v x19 l := by
  obtain ⟨a1, a2, a3, a4, a5, a6⟩ := h
  exact ⟨by rw [gI_k (by decide)]; exact a1, gI_same _ _ _ _, by rw [gI_k (by decide)]; exact a3, by rw [gI_k (by decide)]; exact a4, fun q x hq hx => by rw [gI_sI, if_neg (by omega)]; exact a5 q x hq hx, a6⟩
theorem PM.s19 {N0 N : Mem} {p l : Nat} {x18 x19 : Int32} (h : PM N0 N p x18 x19 l) (v : Int32) : PM N0 (sI N 0 19 v) p x18 v l := by
  obtain ⟨a1, a2, a3, a4, a5, a6⟩ := h
  exact ⟨by rw [gI_k (by decide)]; exact a1, by rw [gI_k (by decide)]; exact a2, gI_same _ _ _ _, by rw [gI_k (by decide)]; exact a4, fun q x hq hx => by rw [gI_sI, if_neg (by omega)]; exact a5 q x hq hx, a6⟩
theorem PM.s20 {N0 N : Mem} {p l : Nat} {x18 x19 : Int32} (h : PM N0 N p x18 x19 l) (v : Nat) : PM N0 (sI N 0 20 (nI v)) p x18 x19 v := by
  obtain ⟨a1, a2, a3, a4, a5, a6⟩ := h
  exact ⟨by rw [gI_k (by decide)]; exact a1, by rw [gI_k (by decide)]; exact a2, by rw [gI_k (by decide)]; exact a3, gI_same _ _ _ _, fun q x hq hx => by rw [gI_sI, if_neg (by omega)]; exact a5 q x hq hx, a6⟩
theorem PM.dt {N0 N : Mem} {p l : Nat} {x18 x19 : Int32} (h : PM N0 N p x18 x19 l) (k : Nat) (v : Int32) : PM N0 (sI N 10 k v) p x18 x19 l := by
  obtain ⟨a1, a2, a3, a4, a5, a6⟩ := h
  exact ⟨by rw [gI_p (by decide)]; exact a1, by rw [gI_p (by decide)]; exact a2, by rw [gI_p (by decide)]; exact a3, by rw [gI_p (by decide)]; exact a4, fun q x hq hx => by rw [gI_p hq]; exact a5 q x hq hx, a6⟩
theorem DT.fr {M M' N N' : Mem} {c g l : Nat} (h : DT M N c g l) (hM : ∀ q x, 4 ≤ q → q ≤ 6 → gI M' q x = gI M q x) (hN : ∀ x, gI N' 10 x = gI N 10 x) : DT M' N' c g l := by
  obtain ⟨a1, a2, a3⟩ := h
  exact ⟨fun i hi => by rw [hM 4 i (by decide) (by decide), hN]; exact a1 i hi, fun i hi => by rw [hM 5 i (by decide) (by decide), hN]; exact a2 i hi, fun i hi => by rw [hM 6 i (by decide) (by decide), hN]; exact a3 i hi⟩
theorem DT.C {M N : Mem} {c g l k : Nat} {v : Int32} (h : DT M N c g l) : DT (sI M 3 k v) N c g l := h.fr (fun q x h1 h2 => gI_p (by omega)) (fun _ => rfl)
theorem DT.M {M N : Mem} {c g l k : Nat} {v : Int32} (h : DT M N c g l) : DT M (sI N 0 k v) c g l := h.fr (fun _ _ _ _ => rfl) (fun x => gI_p (by decide))
theorem DT.dep {M N : Mem} {c v : Nat} (h : DT M N c 0 0) (hv : v ≤ 5) : DT (sI M 4 c (nI v)) (sI N 10 c (nI v)) (c + 1) 0 0 := by
  obtain ⟨a1, a2, a3⟩ := h
  refine ⟨fun i hi => ?_, fun i hi => absurd hi (Nat.not_lt_zero _), fun i hi => absurd hi (Nat.not_lt_zero _)⟩
  by_cases e : i = c
  · subst e
    exact ⟨v, hv, gI_same _ _ _ _, gI_same _ _ _ _⟩
  · rw [gI_k e, gI_k e]
    exact a1 i (by omega)
theorem DT.gar {M N : Mem} {c g v : Nat} (h : DT M N c g 0) (hc : c ≤ 16) (hv : v ≤ 3) : DT (sI M 5 g (nI v)) (sI N 10 (16 + g) (nI v)) c (g + 1) 0 := by
  obtain ⟨a1, a2, a3⟩ := h
  refine ⟨fun i hi => ?_, fun i hi => ?_, fun i hi => absurd hi (Nat.not_lt_zero _)⟩
  · rw [gI_p (by decide), gI_k (by omega)]
    exact a1 i hi
  · by_cases e : i = g
    · subst e
      exact ⟨v, hv, gI_same _ _ _ _, gI_same _ _ _ _⟩
    · rw [gI_k e, gI_k (by omega)]
      exact a2 i (by omega)
theorem DT.law {M N : Mem} {c g l v : Nat} (h : DT M N c g l) (hc : c ≤ 16) (hg : g ≤ 4) (hv : v ≤ 5) : DT (sI M 6 l (nI v)) (sI N 10 (20 + l) (nI v)) c g (l + 1) := by
  obtain ⟨a1, a2, a3⟩ := h
  refine ⟨fun i hi => ?_, fun i hi => ?_, fun i hi => ?_⟩
  · rw [gI_p (by decide), gI_k (by omega)]
    exact a1 i hi
  · rw [gI_p (by decide), gI_k (by omega)]
    exact a2 i hi
  · by_cases e : i = l
    · subst e
      exact ⟨v, hv, gI_same _ _ _ _, gI_same _ _ _ _⟩
    · rw [gI_k e, gI_k (by omega)]
      exact a3 i (by omega)
/- a sign -/
def ccN (n : Nat) (V : Nat → Int32) (p : Nat) : Int32 := if p < n then V p else nI 1000
def mcN (n : Nat) (V : Nat → Int32) (p : Nat) : Int32 := if p < n then V p else -9
theorem cc_in {n p : Nat} {V : Nat → Int32} (h : p < n) : ccN n V p = V p := if_pos h
theorem mc_in {n p : Nat} {V : Nat → Int32} (h : p < n) : mcN n V p = V p := if_pos h
theorem cc_out {n p : Nat} {V : Nat → Int32} (h : ¬ p < n) : ccN n V p = nI 1000 := if_neg h
theorem mc_out {n p : Nat} {V : Nat → Int32} (h : ¬ p < n) : mcN n V p = -9 := if_neg h
theorem sign_eq {M0 N0 M : Mem} {j n p ln cw l : Nat} {V : Nat → Int32} (ht : TX M0 N0 j n V) (h : PC M0 M p ln cw l) (hp : p ≤ n) : F_X4_sign M (38 + 2 * j) = some (ccN n V p) := by
  obtain ⟨t1, t2, t3, t4, t5, t6⟩ := ht
  have hs := slen_txt (j := j)
  have e1 : gI M (38 + 2 * j) 1 = nI n := (h.2.2.2.2.1 _ _ (by omega)).trans t3
  rw [F_X4_sign, h.1]
  by_cases z : p < n
  · rw [bd1e (has_in e1 z (by omega)), if_neg n10, bd1e (get_in e1 z (by omega)), cc_in z, h.2.2.2.2.1 _ _ (by omega), t4 p z]
  · rw [bd1e (has_no e1 (Or.inr (nI_le (by omega) (by omega)))), if_pos rfl, cc_out z]
theorem here_eq {M0 N0 N : Mem} {j n p l : Nat} {V : Nat → Int32} {x18 x19 : Int32} (ht : TX M0 N0 j n V) (h : PM N0 N p x18 x19 l) (hp : p ≤ n) : F_X9_here N (nI j) = some (mcN n V p) := by
  obtain ⟨t1, t2, t3, t4, t5, t6⟩ := ht
  rw [F_X9_here, chk_pos (inb_nI t1 (by decide)), clN (by omega), h.2.2.2.2.1 5 j (by decide) (by omega), t5, h.1]
  by_cases z : p < n
  · rw [if_neg (nI_nleN z (by omega)), ix60, chk_pos (inb_nI (by omega) (by decide)), clN (by omega), h.2.2.2.2.1 6 _ (by decide) (by omega), t6 p z, mc_in z]
  · rw [if_pos (nI_le (by omega) (by omega)), mc_out z]
theorem i9_neg : (-9 : Int32) - nI 48 < 0 := by decide
theorem fig_eq {M0 N0 M N : Mem} {j n p ln cw l l' hi : Nat} {V : Nat → Int32} {x18 x19 : Int32} (ht : TX M0 N0 j n V) (hc : PC M0 M p ln cw l) (hm : PM N0 N p x18 x19 l') (hp : p ≤ n) (hh : hi ≤ 5) : (∃ v, v ≤ hi ∧ p < n ∧ F_X4_figure M (38 + 2 * j) (nI hi) = some (nI v) ∧ ∀ a, a < 26 → F_X9_figure N (nI j) (nI a) (nI hi) = some (1, sI (sI N 10 a (nI v)) 0 17 (nI (p + 1)))) ∨ (F_X4_figure M (38 + 2 * j) (nI hi) = some (-1) ∧ ∀ a, F_X9_figure N (nI j) a (nI hi) = some (0, N)) := by
  have hn := ht.2.1
  by_cases z : p < n
  · rcases cut (hi + 1) (by omega) (V p - nI 48) with y | ⟨v, hv, ev⟩
    · refine Or.inr ⟨?_, fun a => ?_⟩
      · rw [F_X4_figure, bd1e (sign_eq ht hc hp), cc_in z, lets]
        by_cases y0 : V p - nI 48 < 0
        · rw [if_pos y0]
        · rw [if_neg y0, if_pos (lt_of_le (y.resolve_left y0) (by omega))]
      · rw [F_X9_figure, bd1e (here_eq ht hm hp), mc_in z, lets, bd1e (in_no (y.imp_right (fun q => lt_of_le q (by omega)))), if_pos rfl]
    · refine Or.inl ⟨v, by omega, z, ?_, fun a ha => ?_⟩
      · rw [F_X4_figure, bd1e (sign_eq ht hc hp), cc_in z, ev, lets, if_neg (nneg v (by omega)), if_neg (nI_nlt (by omega) (by omega))]
      · rw [F_X9_figure, bd1e (here_eq ht hm hp), mc_in z, ev, lets, bd1e (in_yes (nneg v (by omega)) (nI_nlt (by omega) (by omega))), if_neg n10, chk_pos (inb_nI ha (by decide)), clN (by omega)]
        simp only [lets]
        rw [gI_p (by decide), hm.1, nI_1]
  · refine Or.inr ⟨?_, fun a => ?_⟩
    · rw [F_X4_figure, bd1e (sign_eq ht hc hp), cc_out z, lets, if_neg (show ¬ nI 1000 - nI 48 < 0 by decide), if_pos (show nI hi < nI 1000 - nI 48 by
        rw [nI_subN (by decide)]
        exact nI_lt (by omega) (by decide))]
    · rw [F_X9_figure, bd1e (here_eq ht hm hp), mc_out z, lets, bd1e (in_no (Or.inl i9_neg)), if_pos rfl]
theorem chr_eq {n p k : Nat} {V : Nat → Int32} (hk : k < 200) : (ccN n V p = nI k ∧ mcN n V p = nI k ∧ p < n) ∨ (¬ ccN n V p = nI k ∧ ¬ mcN n V p = nI k) := by
  by_cases z : p < n
  · rw [cc_in z, mc_in z]
    by_cases y : V p = nI k
    · exact Or.inl ⟨y, y, z⟩
    · exact Or.inr ⟨y, y⟩
  · rw [cc_out z, mc_out z]
    refine Or.inr ⟨fun y => ?_, fun y => ?_⟩
    · have := (nI_eq (by decide) (by omega)).mp y
      omega
    · exact nI_n9 (by omega) y.symm
/- blanks -/
theorem skip_eq {M0 N0 M N : Mem} {j n p ln cw l l' c g : Nat} {V : Nat → Int32} {x18 x19 : Int32} (ht : TX M0 N0 j n V) (hc : PC M0 M p ln cw l) (hm : PM N0 N p x18 x19 l') (hp : p ≤ n) (hD : DT M N c g l) : ∃ M' N' p', F_X4_skipBlanks M (38 + 2 * j) = some M' ∧ F_X9_skip N (nI j) = some N' ∧ p' ≤ n ∧ PC M0 M' p' ln cw l ∧ PM N0 N' p' x18 x19 l' ∧ DT M' N' c g l := by
  have hn := ht.2.1
  obtain ⟨M', N', a1, a2, p', a3, a4, a5, a6⟩ := loop_rel (f := X4_skipBlanks_L0 (38 + 2 * j)) (f' := X9_skip_L0 (nI j)) (fun i M N => ∃ p, i ≤ p ∧ p ≤ n ∧ PC M0 M p ln cw l ∧ PM N0 N p x18 x19 l' ∧ DT M N c g l) (fun M N => ∃ p, p ≤ n ∧ PC M0 M p ln cw l ∧ PM N0 N p x18 x19 l' ∧ DT M N c g l) n (fun i M N hi hI => by
    obtain ⟨p, b1, b2, b3, b4, b5⟩ := hI
    have hsz : F_X5_size M (38 + 2 * j) = some (nI n) := by rw [F_X5_size, b3.2.2.2.2.1 _ _ (by omega), ht.2.2.1]
    rw [X4_skipBlanks_L0, X9_skip_L0, bd1e hsz, b3.1, bd1e (here_eq ht b4 b2)]
    by_cases e : p = n
    · right
      have hx : ¬ mcN n V p = nI 32 := by
        rw [mc_out (by omega)]
        decide
      rw [if_pos (nI_le (by omega) (by omega)), if_neg hx]
      exact ⟨M, N, rfl, rfl, p, b2, b3, b4, b5⟩
    · rw [if_neg (nI_nleN (by omega) (by omega)), bd1e (sign_eq ht b3 b2)]
      rcases chr_eq (n := n) (p := p) (V := V) (show 32 < 200 by decide) with ⟨c1, c2, c3⟩ | ⟨c1, c2⟩
      · left
        rw [if_pos c1, if_pos c2, nI_1, b4.1, nI_1, lets, lets]
        exact ⟨by omega, _, _, rfl, rfl, p + 1, by omega, by omega, b3.s3 _, b4.s17 _, b5.C.M⟩
      · right
        rw [if_neg c1, if_neg c2]
        exact ⟨M, N, rfl, rfl, p, b2, b3, b4, b5⟩) (k := FU) (k' := FU) (by show n < 200000; omega) (by show n < 200000; omega) (s := M) (s' := N) ⟨p, Nat.zero_le _, hp, hc, hm, hD⟩
  exact ⟨M', N', p', a1, a2, a3, a4, a5, a6⟩
/- the first line -/
theorem first_eq {M0 N0 M N : Mem} {j n p : Nat} {V : Nat → Int32} {x18 x19 : Int32} (ht : TX M0 N0 j n V) (hc : PC M0 M p 0 0 0) (hm : PM N0 N p x18 x19 0) (hp : p ≤ n) : ∃ r M' N' p' w, F_X4_readLine M (38 + 2 * j) 0 = some (r, M') ∧ F_X9_readsFirst N (nI j) = some (r, N') ∧ p' ≤ n ∧ w ≤ 4 ∧ PC M0 M' p' 0 w 0 ∧ PM N0 N' p' (nI w) (nI w) 0 ∧ DT M' N' w 0 0 ∧ ((r = 1 ∧ 2 ≤ w) ∨ r = 0) := by
  have hn := ht.2.1
  obtain ⟨R, N', a1, a2, i, M', p', a0, a3, a4, a5, a6, a7⟩ := loop_rel (f := X4_readLine_L16 (38 + 2 * j) 0 (nI 4)) (f' := X9_readsFirst_L5 (nI j)) (fun i s N => ∃ M p, s = (nI i, M) ∧ p ≤ n ∧ PC M0 M p 0 0 0 ∧ PM N0 N p x18 (nI i) 0 ∧ DT M N i 0 0) (fun R N' => ∃ i M' p', R = (nI i, M') ∧ i ≤ 4 ∧ p' ≤ n ∧ PC M0 M' p' 0 0 0 ∧ PM N0 N' p' x18 (nI i) 0 ∧ DT M' N' i 0 0) 4 (fun i s N hi hI => by
    obtain ⟨M, p, b0, b2, b3, b4, b5⟩ := hI
    subst b0
    rw [X4_readLine_L16, X9_readsFirst_L5, b4.2.2.1]
    by_cases e : i = 4
    · subst e
      right
      rw [if_pos (Int32.le_refl _), if_pos (Int32.le_refl _)]
      exact ⟨_, _, rfl, rfl, 4, M, p, rfl, by omega, b2, b3, b4, b5⟩
    · rw [if_neg (nI_nleN (by omega) (by decide)), if_neg (nI_nleN (by omega) (by decide))]
      rcases fig_eq ht b3 b4 b2 (show 5 ≤ 5 by decide) with ⟨v, f1, f2, f3, f4⟩ | ⟨f3, f4⟩
      · left
        have hx3 : (0 : Int32) * gI M 3 5 + nI i = nI i := by
          rw [b3.2.2.1, show (0 : Int32) = nI 0 from rfl, pk_mul, nI_add]
          congr 1
          omega
        rw [bd1e f3, if_neg (nneg v (by omega)), hx3, lets, if_neg (nI_nleN (show i < 16 by omega) (by decide)), bd1e f3, chk_pos (inb_nI (by omega) (by decide)), clN (by omega), bd2e (f4 i (by omega)), if_neg n10]
        simp only [lets]
        rw [gI_p (show (3 : Nat) ≠ 4 by decide), b3.1, nI_1, nI_1, gI_k (show (19 : Nat) ≠ 17 by decide), gI_p (show (0 : Nat) ≠ 10 by decide), b4.2.2.1, nI_1]
        exact ⟨by omega, _, _, rfl, rfl, _, p + 1, rfl, by omega, (b3.dt i (nI v) (by decide)).s3 _, ((b4.dt i (nI v)).s17 _).s19 _, (b5.dep f1).C.M.M⟩
      · right
        rw [bd1e f3, if_pos (by decide), bd2e (f4 (nI i)), if_pos rfl]
        exact ⟨_, _, rfl, rfl, i, M, p, rfl, hi, b2, b3, b4, b5⟩) (k := FU) (k' := FU) (by decide) (by decide) (s := (0, M)) (s' := sI N 0 19 0) ⟨M, p, rfl, hp, hc, hm.s19 0, fun i hi => absurd hi (Nat.not_lt_zero _), fun i hi => absurd hi (Nat.not_lt_zero _), fun i hi => absurd hi (Nat.not_lt_zero _)⟩
  subst a0
  have hC : F_X4_readLine M (38 + 2 * j) 0 = X4_readLine_J91 (sI M' 3 5 (nI i)) (nI i) := by
    rw [F_X4_readLine, if_pos rfl, X4_readLine_J12, bd2e a1, if_pos rfl, lets]
  have hM : F_X9_readsFirst N (nI j) = if nI i ≤ 1 then some (0, sI N' 0 18 (nI i)) else some (1, sI N' 0 18 (nI i)) := by
    rw [F_X9_readsFirst, lets, bd1e a2, a6.2.2.1, lets, gI_same]
  by_cases h2 : 2 ≤ i
  · refine ⟨1, _, _, p', i, ?_, ?_, a4, a3, a5.s5 i, a6.s18 _, a7.C.M, Or.inl ⟨rfl, h2⟩⟩
    · rw [hC, X4_readLine_J91, if_neg (nI_nlt h2 (by omega)), gI_same, if_pos rfl]
    · rw [hM, if_neg (show ¬ nI i ≤ 1 from nI_nleN (a := 1) (by omega) (by omega))]
  · refine ⟨0, _, _, p', i, ?_, ?_, a4, a3, a5.s5 i, a6.s18 _, a7.C.M, Or.inr rfl⟩
    · rw [hC, X4_readLine_J91, if_pos (nI_lt (by omega) (by decide))]
    · rw [hM, if_pos (show nI i ≤ 1 from nI_le (b := 1) (by omega) (by decide))]
/- another line -/
theorem line_eq {M0 N0 M N : Mem} {j n p ln w i0 : Nat} {V : Nat → Int32} (ht : TX M0 N0 j n V) (hc : PC M0 M p ln w 0) (hm : PM N0 N p (nI w) (nI (i0 * w)) 0) (hp : p ≤ n) (hD : DT M N (i0 * w) 0 0) (h1 : 1 ≤ i0) (h3 : i0 ≤ 3) (hw : 2 ≤ w) (hw4 : w ≤ 4) : ∃ r M' N' p' c, F_X4_readLine M (38 + 2 * j) (nI i0) = some (r, M') ∧ F_X9_readsLine N (nI j) = some (r, N') ∧ p' ≤ n ∧ PC M0 M' p' ln w 0 ∧ PM N0 N' p' (nI w) (nI c) 0 ∧ DT M' N' c 0 0 ∧ ((r = 1 ∧ c = (i0 + 1) * w) ∨ r = 0) := by
  have hn := ht.2.1
  have hiw : i0 * w ≤ 12 := by
    have := Nat.mul_le_mul h3 hw4
    omega
  obtain ⟨R, R', a1, a2, i, M', N', p', r', a0, a0', a3, a4, a5, a6, a7, a8⟩ := loop_rel (f := X4_readLine_L16 (38 + 2 * j) (nI i0) (nI w)) (f' := X9_readsLine_L2 (nI j)) (fun i s s' => ∃ M N p, s = (nI i, M) ∧ s' = (nI i, N) ∧ p ≤ n ∧ PC M0 M p ln w 0 ∧ PM N0 N p (nI w) (nI (i0 * w + i)) 0 ∧ DT M N (i0 * w + i) 0 0) (fun R R' => ∃ i M' N' p', ∃ r' : Int32, R = (nI i, M') ∧ R' = (r', N') ∧ i ≤ w ∧ p' ≤ n ∧ PC M0 M' p' ln w 0 ∧ PM N0 N' p' (nI w) (nI (i0 * w + i)) 0 ∧ DT M' N' (i0 * w + i) 0 0 ∧ ((r' = 1 ∧ i = w) ∨ (r' = 0 ∧ i < w))) w (fun i s s' hi hI => by
    obtain ⟨M, N, p, b0, b1, b2, b3, b4, b5⟩ := hI
    subst b0; subst b1
    rw [X4_readLine_L16, X9_readsLine_L2, b4.2.1]
    by_cases e : i = w
    · right
      rw [if_pos (nI_le (by omega) (by omega)), if_pos (nI_le (by omega) (by omega))]
      exact ⟨_, _, rfl, rfl, i, M, N, p, 1, rfl, rfl, hi, b2, b3, b4, b5, Or.inl ⟨rfl, e⟩⟩
    · rw [if_neg (nI_nleN (by omega) (by omega)), if_neg (nI_nleN (by omega) (by omega)), b4.2.2.1]
      rcases fig_eq ht b3 b4 b2 (show 5 ≤ 5 by decide) with ⟨v, f1, f2, f3, f4⟩ | ⟨f3, f4⟩
      · left
        have hx3 : nI i0 * gI M 3 5 + nI i = nI (i0 * w + i) := by rw [b3.2.2.1, pk_mul, nI_add]
        rw [bd1e f3, if_neg (nneg v (by omega)), hx3, lets, if_neg (nI_nleN (show i0 * w + i < 16 by omega) (by decide)), bd1e f3, chk_pos (inb_nI (by omega) (by decide)), clN (by omega), bd2e (f4 (i0 * w + i) (by omega)), if_neg n10]
        simp only [lets]
        rw [gI_p (show (3 : Nat) ≠ 4 by decide), b3.1, nI_1, nI_1, gI_k (show (19 : Nat) ≠ 17 by decide), gI_p (show (0 : Nat) ≠ 10 by decide), b4.2.2.1, nI_1]
        exact ⟨by omega, _, _, rfl, rfl, _, _, p + 1, rfl, rfl, by omega, (b3.dt _ (nI v) (by decide)).s3 _, ((b4.dt _ (nI v)).s17 _).s19 _, (b5.dep f1).C.M.M⟩
      · right
        rw [bd1e f3, if_pos (by decide), bd2e (f4 _), if_pos rfl]
        exact ⟨_, _, rfl, rfl, i, M, N, p, 0, rfl, rfl, hi, b2, b3, b4, b5, Or.inr ⟨rfl, by omega⟩⟩) (k := FU) (k' := FU) (by show w < 200000; omega) (by show w < 200000; omega) (s := (0, M)) (s' := (0, N)) ⟨M, N, p, rfl, rfl, hp, hc, hm, hD⟩
  subst a0; subst a0'
  have hC : F_X4_readLine M (38 + 2 * j) (nI i0) = X4_readLine_J91 M' (nI i) := by
    rw [F_X4_readLine, if_neg (nI_ne0 (by omega) (by omega)), hc.2.2.1, X4_readLine_J12, bd2e a1, if_neg (nI_ne0 (by omega) (by omega))]
  refine ⟨r', M', N', p', i0 * w + i, ?_, by rw [F_X9_readsLine, a2], a4, a5, a6, a7, ?_⟩
  · rw [hC, X4_readLine_J91, a5.2.2.1]
    rcases a8 with ⟨rfl, e⟩ | ⟨rfl, e⟩
    · rw [if_neg (nI_nlt (by omega) (by omega)), if_pos (by rw [e])]
    · by_cases i2 : i < 2
      · rw [if_pos (nI_lt i2 (by decide))]
      · rw [if_neg (nI_nlt (by omega) (by omega)), if_neg (fun y => by have := (nI_eq (by omega) (by omega)).mp y; omega)]
  · rcases a8 with ⟨rfl, e⟩ | ⟨rfl, e⟩
    · exact Or.inl ⟨rfl, by rw [e, Nat.succ_mul]⟩
    · exact Or.inr rfl
