/-! ===== the greatest common divisor ===== -/
theorem lNt {n : Nat} (h : n < 2 ^ 63) : (lN n).toInt = (n : Int) := lg_ofNat_toInt h
theorem lN_inj {a b : Nat} (ha : a < 2 ^ 63) (hb : b < 2 ^ 63) : lN a = lN b ↔ a = b := by
  constructor
  · intro h
    have := congrArg Int64.toInt h
    rw [lNt ha, lNt hb] at this
    omega
  · intro h; rw [h]
theorem lN_div {a b : Nat} (ha : a < 2 ^ 63) (hb : b < 2 ^ 63) : lN a / lN b = lN (a / b) := by
  have h1 : a / b ≤ a := Nat.div_le_self _ _
  apply Int64.toInt_inj.mp
  rw [Int64.toInt_div, lNt ha, lNt hb, lNt (by omega), Int.tdiv_eq_ediv_of_nonneg (by omega), ← Int.natCast_ediv]
  generalize a / b = z at h1
  rw [Int.bmod_eq_of_le (by omega) (by omega)]
theorem lN_mod {a b : Nat} (ha : a < 2 ^ 63) (hb : b < 2 ^ 63) : lrm (lN a) (lN b) = lN (a % b) := by
  unfold lrm
  rw [lN_div ha hb, lN_mul, lN_sub (Nat.div_mul_le_self a b)]
  congr 1
  have := Nat.div_add_mod a b
  rw [Nat.mul_comm] at this
  omega
theorem lc0 {b : Nat} (hb : b < 2 ^ 63) : (lg_cmp (lN b) 0 = 0) ↔ b = 0 := by
  have h : lg_cmp (lN b) 0 = 0 ↔ lN b = 0 := by
    unfold lg_cmp
    constructor
    · intro h
      split at h
      · cases h
      · split at h
        · assumption
        · cases h
    · intro h
      rw [h]
      decide
  rw [h]
  exact lN_inj (b := 0) hb (by decide)
theorem half_mod {b r : Nat} (h0 : 0 < r) (h : r < b) : 2 * (b % r) < b := by
  have h1 := Nat.mod_lt b h0
  have h2 := Nat.div_add_mod b r
  have h3 : 1 ≤ b / r := Nat.div_pos (by omega) h0
  have h4 : r * 1 ≤ r * (b / r) := Nat.mul_le_mul_left r h3
  omega
theorem gcd_loop : ∀ n a b k, a < 2 ^ 63 → b < 2 ^ n → n ≤ 45 → k + 2 * n < 100 → ∀ fu, 2 * n < fu → loop X8_commonDivisor_L9 fu (lN a, lN b, nI k) = some (lN (Nat.gcd a b)) := by
  intro n
  induction n with
  | zero =>
    intro a b k ha hb hn hk fu hf
    obtain ⟨f, rfl⟩ : ∃ f, fu = f + 1 := ⟨fu - 1, by omega⟩
    have b0 : b = 0 := by omega
    subst b0
    apply loop_en
    rw [X8_commonDivisor_L9, if_neg (nI_nleN (by omega) (by decide)), if_pos ((lc0 (by decide)).mpr rfl), Nat.gcd_zero_right]
  | succ n ih =>
    intro a b k ha hb hn hk fu hf
    obtain ⟨f, rfl⟩ : ∃ f, fu = f + 1 + 1 := ⟨fu - 2, by omega⟩
    have hp : 2 ^ (n + 1) ≤ 2 ^ 45 := Nat.pow_le_pow_right (by decide) hn
    by_cases b0 : b = 0
    · subst b0
      apply loop_en
      rw [X8_commonDivisor_L9, if_neg (nI_nleN (by omega) (by decide)), if_pos ((lc0 (by decide)).mpr rfl), Nat.gcd_zero_right]
    · have hr := Nat.mod_lt a (show 0 < b by omega)
      have s1 : X8_commonDivisor_L9 (lN a, lN b, nI k) = some (.inl (lN b, lN (a % b), nI (k + 1))) := by
        rw [X8_commonDivisor_L9, if_neg (nI_nleN (by omega) (by decide)), if_neg (fun y => b0 ((lc0 (by omega)).mp y)), chk_pos (show ¬ lN b = 0 from fun y => b0 ((lN_inj (b := 0) (by omega) (by decide)).mp y)), lN_mod ha (by omega)]
        simp only [lets]
        rw [nI_1]
      rw [loop_st s1]
      have hg : Nat.gcd a b = Nat.gcd b (a % b) := by rw [Nat.gcd_comm a b, Nat.gcd_rec b a, Nat.gcd_comm]
      rw [hg]
      by_cases r0 : a % b = 0
      · rw [r0]
        apply loop_en
        rw [X8_commonDivisor_L9, if_neg (nI_nleN (by omega) (by decide)), if_pos ((lc0 (by decide)).mpr rfl), Nat.gcd_zero_right]
      · generalize a % b = r at hr r0
        have hh := half_mod (show 0 < r by omega) hr
        have s2 : X8_commonDivisor_L9 (lN b, lN r, nI (k + 1)) = some (.inl (lN r, lN (b % r), nI (k + 1 + 1))) := by
          rw [X8_commonDivisor_L9, if_neg (nI_nleN (by omega) (by decide)), if_neg (fun y => r0 ((lc0 (by omega)).mp y)), chk_pos (show ¬ lN r = 0 from fun y => r0 ((lN_inj (b := 0) (by omega) (by decide)).mp y)), lN_mod (by omega) (by omega)]
          simp only [lets]
          rw [nI_1]
        rw [loop_st s2, ih r (b % r) (k + 1 + 1) (by omega) (by rw [Nat.pow_succ] at hb; omega) (by omega) (by omega) f (by omega), Nat.gcd_comm b r, Nat.gcd_rec r b, Nat.gcd_comm]
theorem gcd_eq {a b : Nat} (ha : a < 2 ^ 63) (hb : b < 2 ^ 45) : F_X8_commonDivisor (lN a) (lN b) = some (lN (Nat.gcd a b)) := gcd_loop 45 a b 0 ha hb (by decide) (by decide) FU (by decide)
