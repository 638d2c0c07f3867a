/-! ===== rain ===== -/
def rnN (s : Int64) : Int64 := lrm (s * 48271) 2147483647
def rn (d : Nat → Nat) (x1 : Int32) (s0 : Int64) : Nat → Int64 × Nat
  | 0 => (s0, 0)
  | i + 1 => if d i = 0 then rn d x1 s0 i else if 0 ≤ lg_cmp (lrm (rnN (rn d x1 s0 i).1) 12) x1.toInt64 then (rnN (rn d x1 s0 i).1, (rn d x1 s0 i).2) else (rnN (rn d x1 s0 i).1, (rn d x1 s0 i).2 ||| 2 ^ i)
theorem rn_bits (d : Nat → Nat) (x1 : Int32) (s0 : Int64) (i : Nat) : ∀ k, (rn d x1 s0 i).2.testBit k = true → k < i ∧ 0 < d k := by
  induction i with
  | zero => intro k hk; rw [rn, Nat.zero_testBit] at hk; cases hk
  | succ i ih =>
    intro k hk
    rw [rn] at hk
    by_cases e : d i = 0
    · rw [if_pos e] at hk
      have := ih k hk
      exact ⟨by omega, this.2⟩
    · rw [if_neg e] at hk
      by_cases z : 0 ≤ lg_cmp (lrm (rnN (rn d x1 s0 i).1) 12) x1.toInt64
      · rw [if_pos z] at hk
        have := ih k hk
        exact ⟨by omega, this.2⟩
      · rw [if_neg z] at hk
        have hk : ((rn d x1 s0 i).2 ||| 2 ^ i).testBit k = true := hk
        rw [or_tb_two, Bool.or_eq_true, decide_eq_true_iff] at hk
        rcases hk with hk | hk
        · have := ih k hk
          exact ⟨by omega, this.2⟩
        · subst hk
          exact ⟨by omega, by omega⟩
theorem rn_lt {d : Nat → Nat} {x1 : Int32} {s0 : Int64} {i : Nat} (hi : i ≤ 16) : (rn d x1 s0 i).2 < 2 ^ 16 := by
  apply Nat.lt_pow_two_of_testBit
  intro k hk
  cases e : (rn d x1 s0 i).2.testBit k
  · rfl
  · have := (rn_bits d x1 s0 i k e).1
    omega
theorem rained_eq {M : Mem} {m : Nat} {d : Nat → Nat} {x1 x2 : Int32} (hm : m ≤ 16) (l1 : gI M 7 0 = nI m) (h1 : ∀ c, c < 16 → gI M (9 + 1) c = nI (d c)) (h5 : ∀ c, d c ≤ 5) : F_X8_rainedOn M x1 x2 = some (nI (rn d x1 x2.toInt64 m).2) := by
  unfold F_X8_rainedOn
  rw [lets]
  refine loop_fn' (fun i => (nI (rn d x1 x2.toInt64 i).2, (rn d x1 x2.toInt64 i).1, nI i)) m rfl (fun i hi => ?_) ?_ (by show m < 200000; omega)
  · show X8_rainedOn_L9 M x1 (_, _, _) = _
    have hv := h5 i
    rw [X8_rainedOn_L9, l1, if_neg (nI_nleN hi (by omega)), bd1e (depthAt_in (by omega)), h1 i (by omega)]
    simp only [rn]
    by_cases e : d i = 0
    · rw [if_pos e, e, if_pos (by decide), lets, nI_1]
    · rw [if_neg e, if_neg (nI_nle (by omega) (by omega)), lets]
      show (if 0 ≤ lg_cmp (lrm (rnN _) 12) x1.toInt64 then _ else _) = _
      by_cases z : 0 ≤ lg_cmp (lrm (rnN (rn d x1 x2.toInt64 i).1) 12) x1.toInt64
      · rw [if_pos z, if_pos z, lets, nI_1]
        rfl
      · rw [if_neg z, if_neg z, nx_one (by omega), nx_or]
        simp only [lets]
        rw [nI_1]
        rfl
  · show X8_rainedOn_L9 M x1 (_, _, _) = _
    rw [X8_rainedOn_L9, l1, if_pos (nI_le (Nat.le_refl _) (by omega))]
def rdm (d : Nat → Nat) (B c : Nat) : Nat := if B.testBit c then d c - 1 else d c
theorem nI_s0 (a : Nat) : nI a - 0 = nI a := nI_subN (a := a) (b := 0) (by omega)
theorem mrain_eq {N : Mem} {m w : Nat} {d : Nat → Nat} {x1 : Int32} {s0 : Int64} (hd : Dm m w) (l3 : gI N 0 11 = nI m) (l4 : gI N 0 10 = nI w) (hw : DW m d) (h7 : ∀ c, c < 16 → gI N 7 c = nI (d c)) (hw' : DW m (rdm d (rn d x1 s0 m).2)) : ∃ N', loop (X9_rain_L55 x1) FU (s0, 0, N) = some (nI (HL m w (dg (rdm d (rn d x1 s0 m).2))).length, N') ∧ (∀ c, c < 16 → gI N' 7 c = nI (rdm d (rn d x1 s0 m).2 c)) ∧ (∀ r x, r ≠ 7 → r ≠ 11 → ¬ (r = 0 ∧ x = 23) → gI N' r x = gI N r x) ∧ ∀ r x, gJ N' r x = gJ N r x := by
  have hle := hd.le
  obtain ⟨r, e1, e2, e3, e4, e5⟩ := loop_inv (f := X9_rain_L55 x1) (fun i st => st.1 = (rn d x1 s0 i).1 ∧ st.2.1 = nI i ∧ (∀ c, c < 16 → gI st.2.2 7 c = nI (rdm d (rn d x1 s0 i).2 c)) ∧ (∀ r x, r ≠ 7 → gI st.2.2 r x = gI N r x) ∧ ∀ r x, gJ st.2.2 r x = gJ N r x) (fun r => r.1 = nI (HL m w (dg (rdm d (rn d x1 s0 m).2))).length ∧ (∀ c, c < 16 → gI r.2 7 c = nI (rdm d (rn d x1 s0 m).2 c)) ∧ (∀ q x, q ≠ 7 → q ≠ 11 → ¬ (q = 0 ∧ x = 23) → gI r.2 q x = gI N q x) ∧ ∀ q x, gJ r.2 q x = gJ N q x) m (fun i st hi hst => by
    obtain ⟨s, y, X⟩ := st
    obtain ⟨a1, a2, a3, a4, a5⟩ := hst
    have a1 : s = _ := a1
    have a2 : y = nI i := a2
    have a3 : ∀ c, c < 16 → gI X 7 c = nI (rdm d (rn d x1 s0 i).2 c) := a3
    have a4 : ∀ r x, r ≠ 7 → gI X r x = gI N r x := a4
    have a5 : ∀ r x, gJ X r x = gJ N r x := a5
    subst a1 a2
    rw [X9_rain_L55, a4 0 11 (by decide), l3]
    by_cases e : i = m
    · subst e
      rw [if_pos (nI_le (Nat.le_refl _) (by omega))]
      obtain ⟨N', f1, f2, f3, f4, f5⟩ := layHoles_eq (N := X) hd (by rw [a4 _ _ (by decide)]; exact l3) (by rw [a4 _ _ (by decide)]; exact l4) hw' a3
      have g1 : F_X9_holeCount X = some (nI (HL i w (dg (rdm d (rn d x1 s0 i).2))).length, N') := by rw [F_X9_holeCount, bd1e f1, f2]
      rw [bd2e g1]
      refine Or.inr ⟨_, rfl, rfl, fun c hc => ?_, fun q x h1 h2 h3 => ?_, fun q x => ?_⟩
      · show gI N' 7 c = _
        rw [f4 7 c (by decide) (by omega)]; exact a3 c hc
      · show gI N' q x = _
        rw [f4 q x h2 h3, a4 q x h1]
      · show gJ N' q x = _
        rw [f5, a5]
    · have hv := hw.1 i
      have hdi : rdm d (rn d x1 s0 i).2 i = d i := by
        unfold rdm
        cases z : (rn d x1 s0 i).2.testBit i
        · rfl
        · have := (rn_bits d x1 s0 i i z).1
          omega
      rw [if_neg (nI_nleN (by omega) (by omega)), chk_pos (inb_nI (by omega) (by decide)), clN (by omega), a3 i (by omega), hdi]
      refine Or.inl ⟨by omega, ?_⟩
      by_cases ed : d i = 0
      · rw [ed, if_pos (by decide), lets, nI_1]
        have er : rn d x1 s0 (i + 1) = rn d x1 s0 i := by rw [rn, if_pos ed]
        exact ⟨_, rfl, by rw [er], rfl, by rw [er]; exact a3, a4, a5⟩
      · rw [if_neg (nI_nle (by omega) (by omega)), show (48271 : Int64) * (rn d x1 s0 i).1 = (rn d x1 s0 i).1 * 48271 from Int64.mul_comm _ _, lets, chk_pos (inb_nI (by omega) (by decide))]
        show ∃ s', (if 0 ≤ lg_cmp (lrm (rnN (rn d x1 s0 i).1) 12) x1.toInt64 then _ else _) = _ ∧ _
        by_cases z : 0 ≤ lg_cmp (lrm (rnN (rn d x1 s0 i).1) 12) x1.toInt64
        · have er : rn d x1 s0 (i + 1) = (rnN (rn d x1 s0 i).1, (rn d x1 s0 i).2) := by rw [rn, if_neg ed, if_pos z]
          rw [if_pos z, chk_pos (inb_nI (by omega) (by decide)), nI_s0]
          simp only [lets]
          rw [nI_1]
          refine ⟨_, rfl, by rw [er]; rfl, rfl, fun c hc => ?_, fun r x hr => ?_, fun r x => ?_⟩
          · show gI (sI X 7 i (nI (d i))) 7 c = _
            rw [er, gI_sI]
            by_cases ec : c = i
            · subst ec
              rw [if_pos ⟨rfl, rfl⟩, hdi]
            · rw [if_neg (fun y => ec y.2), a3 c hc]
          · show gI (sI X 7 i (nI (d i))) r x = _
            rw [gI_p hr, a4 r x hr]
          · show gJ (sI X 7 i (nI (d i))) r x = _
            rw [gJ_sI, a5]
        · have er : rn d x1 s0 (i + 1) = (rnN (rn d x1 s0 i).1, (rn d x1 s0 i).2 ||| 2 ^ i) := by rw [rn, if_neg ed, if_neg z]
          rw [if_neg z, chk_pos (inb_nI (by omega) (by decide)), nI_s1 (by omega)]
          simp only [lets]
          rw [nI_1]
          refine ⟨_, rfl, by rw [er]; rfl, rfl, fun c hc => ?_, fun r x hr => ?_, fun r x => ?_⟩
          · show gI (sI X 7 i (nI (d i - 1))) 7 c = _
            rw [er, gI_sI]
            by_cases ec : c = i
            · subst ec
              rw [if_pos ⟨rfl, rfl⟩]
              unfold rdm
              rw [or_tb_two, decide_eq_true rfl, Bool.or_true, if_pos rfl]
            · rw [if_neg (fun y => ec y.2), a3 c hc]
              unfold rdm
              rw [or_tb_two, decide_eq_false (show ¬ i = c from fun y => ec y.symm), Bool.or_false]
          · show gI (sI X 7 i (nI (d i - 1))) r x = _
            rw [gI_p hr, a4 r x hr]
          · show gJ (sI X 7 i (nI (d i - 1))) r x = _
            rw [gJ_sI, a5]) (k := FU) (by show m < 200000; omega) (s := (s0, 0, N)) ⟨rfl, rfl, fun c hc => by
              show gI N 7 c = _
              unfold rdm
              rw [rn, Nat.zero_testBit]
              exact h7 c hc, fun _ _ _ => rfl, fun _ _ => rfl⟩
  obtain ⟨x, N'⟩ := r
  have e2 : x = _ := e2
  subst e2
  exact ⟨N', e1, e3, e4, e5⟩
