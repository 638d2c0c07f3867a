/-! ===== sets of as many cells, one behind the other ===== -/
def pcF (s : Nat) : Nat := pcE (pcD (pcC (pcB (pcA s))))
def lowN (x : Nat) : Nat := x &&& (2 ^ 32 - x)
def nsN (x : Nat) : Nat := (x + lowN x) ||| (((x + lowN x) ^^^ x) / 2 ^ 2 / 2 ^ pcF (lowN x - 1))
def LSm : Nat → Nat → List Nat
  | 0, 0 => [0]
  | 0, _ + 1 => []
  | m + 1, 0 => LSm m 0
  | m + 1, n + 1 => LSm m (n + 1) ++ (LSm m n).map (fun y => 2 ^ m + y)
def stpB (x y : Nat) : Bool := Nat.ble 1 (lowN x) && Nat.ble y 131071
def chB' : List Nat → Bool
  | [] => true
  | [x] => stpB x (nsN x) && Nat.ble 65536 (nsN x)
  | x :: y :: l => (stpB x (nsN x) && Nat.beq (nsN x) y) && chB' (y :: l)
theorem ch_1 : chB' (LSm 16 1) = true := by decide +kernel
theorem ch_2 : chB' (LSm 16 2) = true := by decide +kernel
theorem ch_3 : chB' (LSm 16 3) = true := by decide +kernel
theorem ch_4 : chB' (LSm 16 4) = true := by decide +kernel
theorem ln_1 : (LSm 16 1).length = 16 := by decide +kernel
theorem ln_2 : (LSm 16 2).length = 120 := by decide +kernel
theorem ln_3 : (LSm 16 3).length = 560 := by decide +kernel
theorem ln_4 : (LSm 16 4).length = 1820 := by decide +kernel
def pcm (m y : Nat) : Nat := sm (fun i => if y.testBit i then 1 else 0) m
theorem top_t {m y : Nat} (hy : y < 2 ^ (m + 1)) (h : y.testBit m = true) : y = 2 ^ m + y % 2 ^ m := by
  rw [Nat.testBit_eq_decide_div_mod_eq, decide_eq_true_iff] at h
  rw [Nat.pow_succ] at hy
  have h1 : y / 2 ^ m < 2 := (Nat.div_lt_iff_lt_mul (Nat.two_pow_pos m)).mpr (by omega)
  have h2 : y / 2 ^ m = 1 := by
    generalize y / 2 ^ m = q at h h1 ⊢
    omega
  have h3 := Nat.div_add_mod y (2 ^ m)
  rw [h2, Nat.mul_one] at h3
  exact h3.symm
theorem top_f {m y : Nat} (hy : y < 2 ^ (m + 1)) (h : y.testBit m = false) : y < 2 ^ m := by
  apply Nat.lt_pow_two_of_testBit
  intro i hi
  by_cases e : i = m
  · subst e; exact h
  · exact tb_lt hy (by omega)
theorem pcm_mod (m y : Nat) : pcm m (y % 2 ^ m) = pcm m y := sm_congr (fun i hi => by rw [Nat.testBit_mod_two_pow, decide_eq_true hi, Bool.true_and])
theorem LS_in : ∀ m n y, y < 2 ^ m → pcm m y = n → y ∈ LSm m n := by
  intro m
  induction m with
  | zero =>
    intro n y hy h
    have h0 : n = 0 := h.symm
    have hy0 : y = 0 := by omega
    subst h0; subst hy0
    exact List.mem_singleton.mpr rfl
  | succ m ih =>
    intro n y hy h
    have hs : pcm (m + 1) y = pcm m y + (if y.testBit m then 1 else 0) := rfl
    cases e : y.testBit m
    · rw [e, if_neg (by decide), Nat.add_zero] at hs
      have hy' := top_f hy e
      cases n with
      | zero => exact ih 0 y hy' (by omega)
      | succ n => exact List.mem_append.mpr (Or.inl (ih (n + 1) y hy' (by omega)))
    · rw [e, if_pos rfl] at hs
      cases n with
      | zero => omega
      | succ n =>
        refine List.mem_append.mpr (Or.inr (List.mem_map.mpr ⟨y % 2 ^ m, ih n _ (Nat.mod_lt _ (Nat.two_pow_pos m)) ?_, (top_t hy e).symm⟩))
        rw [pcm_mod]
        omega
theorem LS_of : ∀ m n y, y ∈ LSm m n → y < 2 ^ m ∧ pcm m y = n := by
  intro m
  induction m with
  | zero =>
    intro n y h
    cases n with
    | zero =>
      have : y = 0 := List.mem_singleton.mp h
      subst this
      exact ⟨by decide, rfl⟩
    | succ n => exact absurd h (List.not_mem_nil)
  | succ m ih =>
    intro n y h
    have hs : pcm (m + 1) y = pcm m y + (if y.testBit m then 1 else 0) := rfl
    have low : ∀ k, y ∈ LSm m k → y < 2 ^ (m + 1) ∧ pcm (m + 1) y = k := by
      intro k hk
      obtain ⟨h1, h2⟩ := ih k y hk
      rw [tb_lt h1 (Nat.le_refl _), if_neg (by decide)] at hs
      exact ⟨by rw [Nat.pow_succ]; omega, by omega⟩
    cases n with
    | zero => exact low 0 h
    | succ n =>
      rcases List.mem_append.mp h with h | h
      · exact low _ h
      · obtain ⟨y', h1, rfl⟩ := List.mem_map.mp h
        obtain ⟨h2, h3⟩ := ih n y' h1
        have e1 : (2 ^ m + y') % 2 ^ m = y' := by rw [Nat.add_mod_left]; exact Nat.mod_eq_of_lt h2
        have e2 : (2 ^ m + y').testBit m = true := by
          rw [Nat.testBit_eq_decide_div_mod_eq, decide_eq_true_iff, Nat.add_div_left _ (Nat.two_pow_pos m), Nat.div_eq_of_lt h2]
        have e3 := pcm_mod m (2 ^ m + y')
        rw [e1] at e3
        rw [e2, if_pos rfl, ← e3] at hs
        exact ⟨by rw [Nat.pow_succ]; omega, by omega⟩
theorem LS_pw : ∀ m n, (LSm m n).Pairwise (· < ·) := by
  intro m
  induction m with
  | zero =>
    intro n
    cases n with
    | zero => exact List.pairwise_singleton _ _
    | succ n => exact List.Pairwise.nil
  | succ m ih =>
    intro n
    cases n with
    | zero => exact ih 0
    | succ n =>
      refine List.pairwise_append.mpr ⟨ih _, List.pairwise_map.mpr ((ih n).imp (fun h => Nat.add_lt_add_left h _)), fun a ha b hb => ?_⟩
      obtain ⟨y', h1, rfl⟩ := List.mem_map.mp hb
      have := (LS_of m _ a ha).1
      omega
theorem ch_n {n : Nat} (h1 : 1 ≤ n) (h4 : n ≤ 4) : chB' (LSm 16 n) = true ∧ (LSm 16 n).length ≤ 1820 := by
  have : n = 1 ∨ n = 2 ∨ n = 3 ∨ n = 4 := by omega
  rcases this with rfl | rfl | rfl | rfl
  · exact ⟨ch_1, by rw [ln_1]; decide⟩
  · exact ⟨ch_2, by rw [ln_2]; decide⟩
  · exact ⟨ch_3, by rw [ln_3]; decide⟩
  · exact ⟨ch_4, by rw [ln_4]; decide⟩
theorem ch_suf : ∀ pre l, chB' (pre ++ l) = true → chB' l = true := by
  intro pre
  induction pre with
  | nil => intro l h; exact h
  | cons x pre ih =>
    intro l h
    apply ih
    cases e : pre ++ l with
    | nil => rfl
    | cons y r =>
      rw [List.cons_append, e, chB', Bool.and_eq_true] at h
      exact h.2
theorem ch_hd {x : Nat} {l : List Nat} (h : chB' (x :: l) = true) : 1 ≤ lowN x ∧ nsN x ≤ 131071 ∧ ((l = [] ∧ 65536 ≤ nsN x) ∨ ∃ l', l = nsN x :: l') := by
  cases l with
  | nil =>
    rw [chB', Bool.and_eq_true, stpB, Bool.and_eq_true] at h
    exact ⟨Nat.le_of_ble_eq_true h.1.1, Nat.le_of_ble_eq_true h.1.2, Or.inl ⟨rfl, Nat.le_of_ble_eq_true h.2⟩⟩
  | cons y l =>
    rw [chB', Bool.and_eq_true, Bool.and_eq_true, stpB, Bool.and_eq_true] at h
    exact ⟨Nat.le_of_ble_eq_true h.1.1.1, Nat.le_of_ble_eq_true h.1.1.2, Or.inr ⟨l, by rw [Nat.eq_of_beq_eq_true h.1.2]⟩⟩
theorem neg_nI {x : Nat} (hx : x < 2 ^ 32) : -(nI x) = nI (2 ^ 32 - x) := by
  rw [← nI_subN (show x ≤ 2 ^ 32 by omega), show nI (2 ^ 32) = (0 : Int32) by decide, Int32.zero_sub]
theorem nextSet_eq {x : Nat} (hx : x < 2 ^ 16) (hl : 1 ≤ lowN x) : F_X8_nextSet (nI x) = some (nI (nsN x)) := by
  have h1 : lowN x ≤ x := Nat.and_le_left
  have hb : (x + lowN x) ^^^ x < 2 ^ 17 := Nat.xor_lt_two_pow (by omega) (by omega)
  have hb2 : ((x + lowN x) ^^^ x) / 2 ^ 2 ≤ (x + lowN x) ^^^ x := Nat.div_le_self _ _
  have hp := pc_le (lowN x - 1)
  have e1 : nI x &&& (-(nI x)) = nI (lowN x) := by rw [neg_nI (by omega), nx_and]; rfl
  have e2 : nI (lowN x) - 1 = nI (lowN x - 1) := nI_subN (b := 1) hl
  rw [F_X8_nextSet, e1, lets, nI_add, lets, e2, bd1e (cbits (by omega)), nx_xor, nx_ushr (by omega) (by decide), nx_ushr (by omega) (by omega), nx_or]
  unfold nsN
  rw [show pcF (lowN x - 1) = pc (lowN x - 1) from pcE_eq (by omega)]
/-- a loop over the sets of n cells, in their order -/
theorem gsp {σ ρ : Type} {f : σ → Option (σ ⊕ ρ)} {n m : Nat} (h1 : 1 ≤ n) (h4 : n ≤ 4) (hm : m ≤ 16) (I : Nat → Nat → σ → Prop) (Q : ρ → Prop) (hst : ∀ x i st, x < 2 ^ m → pc x = n → i < 1820 → 1 ≤ lowN x → I x i st → (∃ st', f st = some (.inl st') ∧ ((∀ y, y < 2 ^ 16 → pc y = n → y < nsN x → y ≤ x) → I (nsN x) (i + 1) st')) ∨ ∃ r, f st = some (.inr r) ∧ Q r) (hend : ∀ x i st, 2 ^ m ≤ x → x < 2 ^ 17 → i ≤ 1820 → I x i st → ∃ r, f st = some (.inr r) ∧ Q r) {st0 : σ} (h0 : I (2 ^ n - 1) 0 st0) (hs0 : ∃ l, LSm 16 n = (2 ^ n - 1) :: l) : ∃ r, loop f FU st0 = some r ∧ Q r := by
  obtain ⟨hch, hln⟩ := ch_n h1 h4
  have hp16 : 2 ^ m ≤ 2 ^ 16 := Nat.pow_le_pow_right (by decide) hm
  refine loop_inv (f := f) (fun i st => ∃ x, I x i st ∧ x < 2 ^ 17 ∧ ((∃ pre post, LSm 16 n = pre ++ x :: post ∧ i = pre.length) ∨ 2 ^ 16 ≤ x)) Q 1820 (fun i st hi hst0 => ?_) (by decide) ?_
  · obtain ⟨x, a1, a2, a3⟩ := hst0
    by_cases ex : 2 ^ m ≤ x
    · exact Or.inr (hend x i st ex a2 hi a1)
    · rcases a3 with ⟨pre, post, b1, b2⟩ | a3
      · have hxm : x ∈ LSm 16 n := by rw [b1]; exact List.mem_append.mpr (Or.inr List.mem_cons_self)
        obtain ⟨hx16, hpc⟩ := LS_of 16 n x hxm
        have hc := ch_hd (ch_suf pre (x :: post) (by rw [← b1]; exact hch))
        have hlen : pre.length + 1 ≤ 1820 := by
          have : (LSm 16 n).length = pre.length + (post.length + 1) := by rw [b1, List.length_append, List.length_cons]
          omega
        have hpw := LS_pw 16 n
        rw [b1, List.pairwise_append] at hpw
        obtain ⟨p1, p2, p3⟩ := hpw
        rw [List.pairwise_cons] at p2
        have hgap : ∀ y, y < 2 ^ 16 → pc y = n → y < nsN x → y ≤ x := by
          intro y hy hyn hlt
          have hym := LS_in 16 n y hy hyn
          rw [b1] at hym
          rcases List.mem_append.mp hym with hq | hq
          · exact Nat.le_of_lt (p3 y hq x List.mem_cons_self)
          · rcases List.mem_cons.mp hq with hq | hq
            · omega
            · rcases hc.2.2 with ⟨d1, d2⟩ | ⟨l', d1⟩
              · rw [d1] at hq; exact absurd hq (List.not_mem_nil)
              · rw [d1] at hq p2
                rcases List.mem_cons.mp hq with hq | hq
                · omega
                · have := (List.pairwise_cons.mp p2.2).1 y hq
                  omega
        rcases hst x i st (by omega) hpc (by omega) hc.1 a1 with ⟨st', c1, c2⟩ | c
        · refine Or.inl ⟨by omega, st', c1, nsN x, c2 hgap, by omega, ?_⟩
          rcases hc.2.2 with ⟨d1, d2⟩ | ⟨l', d1⟩
          · exact Or.inr d2
          · refine Or.inl ⟨pre ++ [x], l', ?_, by rw [List.length_append, b2]; rfl⟩
            rw [b1, d1, List.append_assoc]
            rfl
        · exact Or.inr c
      · omega
  · obtain ⟨l, hl⟩ := hs0
    have hn : 2 ^ n ≤ 2 ^ 4 := Nat.pow_le_pow_right (by decide) h4
    exact ⟨_, h0, by omega, Or.inl ⟨[], l, hl, rfl⟩⟩
theorem ls_hd {n : Nat} (h1 : 1 ≤ n) (h4 : n ≤ 4) : ∃ l, LSm 16 n = (2 ^ n - 1) :: l := by
  have : n = 1 ∨ n = 2 ∨ n = 3 ∨ n = 4 := by omega
  rcases this with rfl | rfl | rfl | rfl <;> exact ⟨_, rfl⟩
theorem pc_min {n y : Nat} (h : y < 2 ^ n - 1) (hn : n ≤ 4) : pc y ≠ n := by
  have key : ∀ n, n < 5 → ∀ y, y < 16 → y < 2 ^ n - 1 → pc y ≠ n := by decide +kernel
  have : 2 ^ n ≤ 2 ^ 4 := Nat.pow_le_pow_right (by decide) hn
  exact key n (by omega) y (by omega) h
/- the least cell of a hole -/
theorem hl_low {m w T : Nat} (hd : Dm m w) (hT : T < 2 ^ m) : ∀ c, c ≤ m → ∀ i, i < (hlS m w T c).2.length → ∃ k, k < m ∧ (hlS m w T c).2.getD i 0 = clo m w T (2 ^ k) ∧ T.testBit k = true ∧ ∀ j, j < k → ((hlS m w T c).2.getD i 0).testBit j = false := by
  intro c
  induction c with
  | zero => intro _ i hi; exact absurd hi (Nat.not_lt_zero _)
  | succ c ih =>
    intro hc i hi
    cases e : (hlS m w T c).1.testBit c
    · rw [hlS_f e] at hi ⊢
      exact ih (by omega) i hi
    · have hI := hl_inv hd hT c (by omega)
      rw [hlS_t e] at hi ⊢
      have hi : i < ((hlS m w T c).2 ++ [clo m w T (2 ^ c)]).length := hi
      rw [app_n] at hi
      show ∃ k, k < m ∧ ((hlS m w T c).2 ++ [clo m w T (2 ^ c)]).getD i 0 = clo m w T (2 ^ k) ∧ T.testBit k = true ∧ ∀ j, j < k → (((hlS m w T c).2 ++ [clo m w T (2 ^ c)]).getD i 0).testBit j = false
      by_cases el : i < (hlS m w T c).2.length
      · rw [app_l el]
        exact ih (by omega) i el
      · have : i = (hlS m w T c).2.length := by omega
        subst this
        rw [app_r]
        refine ⟨c, by omega, rfl, hI.1.1 c e, fun j hj => ?_⟩
        cases ej : (clo m w T (2 ^ c)).testBit j
        · rfl
        · have hR : (hlS m w T c).1.testBit j = true := by
            rw [← hI.1.cl hd (two_sub e)] at ej
            exact clo_in hd (two_sub e) j ej
          rw [hI.2.1 j hj] at hR
          cases hR
theorem HL_low {m w T i : Nat} (hd : Dm m w) (hT : T < 2 ^ m) (hi : i < (HL m w T).length) : ∃ k, k < m ∧ (HL m w T).getD i 0 = clo m w T (2 ^ k) ∧ T.testBit k = true ∧ ∀ j, j < k → ((HL m w T).getD i 0).testBit j = false := hl_low hd hT m (Nat.le_refl _) i hi
theorem lowest_eq {s c : Nat} (hs : s < 2 ^ 16) (h1 : s.testBit c = true) (h0 : ∀ i, i < c → s.testBit i = false) : F_X9_lowest (nI s) = some (nI c) := by
  have hc := tb_m hs h1
  unfold F_X9_lowest
  obtain ⟨r, e1, e2⟩ := loop_inv (f := X9_lowest_L2 (nI s)) (fun i st => st = nI i ∧ i ≤ c) (fun r => r = nI c) 15 (fun i st hi hst => by
    obtain ⟨e1, e2⟩ := hst
    subst e1
    rw [X9_lowest_L2]
    by_cases e : i = 15
    · subst e
      rw [if_pos (Int32.le_refl _)]
      exact Or.inr ⟨_, rfl, by rw [show c = 15 by omega]⟩
    · rw [if_neg (nI_nleN (by omega) (by decide))]
      by_cases ec : i = c
      · subst ec
        rw [bd1e (mhas_t (by omega) (by omega) h1), if_neg n10]
        exact Or.inr ⟨_, rfl, rfl⟩
      · rw [bd1e (mhas_f (by omega) (by omega) (h0 i (by omega))), if_pos rfl, lets, nI_1]
        exact Or.inl ⟨by omega, _, rfl, rfl, by omega⟩) (k := FU) (by decide) (s := 0) ⟨rfl, Nat.zero_le _⟩
  rw [e1, e2]
/-- a hole grows in a larger ground as its least cell does -/
theorem clo_one {m w T U c : Nat} (hd : Dm m w) (hT : T < 2 ^ m) (hU : U < 2 ^ m) (hTU : ∀ i, T.testBit i = true → U.testBit i = true) (hc : T.testBit c = true) : clo m w U (clo m w T (2 ^ c)) = clo m w U (2 ^ c) := by
  have hcm := tb_m hT hc
  have h2 : 2 ^ c < 2 ^ m := Nat.pow_lt_pow_right (by decide) hcm
  have hK := clo_lt (m := m) (w := w) h2 hT
  have s1 : ∀ i, (clo m w T (2 ^ c)).testBit i = true → (clo m w U (2 ^ c)).testBit i = true := clo_min hd (fun i hi => clo_sub hi) (fun a k ha hKa hk hadj => clo_cl hd (lt16 hd h2) (lt16 hd hU) hKa ha (hTU k hk) hadj)
  apply Nat.eq_of_testBit_eq
  intro i
  rw [Bool.eq_iff_iff]
  constructor
  · exact clo_min hd s1 (fun a k ha hKa hk hadj => clo_cl hd (lt16 hd h2) (lt16 hd hU) hKa ha hk hadj) i
  · exact clo_min hd (fun i hi => clo_sub (clo_sub hi)) (fun a k ha hKa hk hadj => clo_cl hd (lt16 hd hK) (lt16 hd hU) hKa ha hk hadj) i
