theorem part_loop {N : Mem} {A B : Int64} {u v : Nat → Int64} (hu : ∀ g, 0 < g → g < 2 ^ 63 → A / lN g = u g ∧ B / lN g = v g) : ∀ n a b, a < 2 ^ 63 → b < 2 ^ 63 → b < n → 0 < Nat.gcd a b → ∀ fu, n ≤ fu → loop (X9_part_L6 N A B) fu (lN a, lN b) = some (1, sJ (sJ N 0 3 (u (Nat.gcd a b))) 0 4 (v (Nat.gcd a b))) := by
  intro n
  induction n with
  | zero => intro a b ha hb hn; exact absurd hn (Nat.not_lt_zero _)
  | succ n ih =>
    intro a b ha hb hn hg fu hf
    obtain ⟨f, rfl⟩ : ∃ f, fu = f + 1 := ⟨fu - 1, by omega⟩
    by_cases b0 : b = 0
    · subst b0
      rw [Nat.gcd_zero_right] at hg ⊢
      have ne : ¬ lN a = 0 := fun y => by have := (lN_inj (a := a) (b := 0) ha (by decide)).mp y; omega
      apply loop_en
      rw [X9_part_L6, if_pos ((lc0 (by decide)).mpr rfl), chk_pos ne]
      simp only [lets]
      rw [chk_pos ne, (hu a hg ha).1, (hu a hg ha).2]
    · have hr := Nat.mod_lt a (show 0 < b by omega)
      have hgg : Nat.gcd a b = Nat.gcd b (a % b) := by rw [Nat.gcd_comm a b, Nat.gcd_rec b a, Nat.gcd_comm]
      have s1 : X9_part_L6 N A B (lN a, lN b) = some (.inl (lN b, lN (a % b))) := by
        rw [X9_part_L6, if_neg (fun y => b0 ((lc0 hb).mp y)), chk_pos (show ¬ lN b = 0 from fun y => b0 ((lN_inj (b := 0) hb (by decide)).mp y)), lN_mod ha hb]
        rfl
      rw [loop_st s1, hgg]
      rw [hgg] at hg
      exact ih b (a % b) hb (by omega) (by omega) hg f (by omega)
def frC (M : Mem) (u v : Int64) : Mem := sJ (sJ M 0 13 u) 0 14 v
def frM (N : Mem) (u v : Int64) : Mem := sJ (sJ N 0 3 u) 0 4 v
theorem tellFr_eq {M : Mem} {a b : Nat} (ha : a < 2 ^ 63) (hb : b < 2 ^ 45) (h0 : 0 < b) : F_X8_tellFraction M (lN a) (lN b) = some (1, frC M (lN (a / Nat.gcd a b)) (lN (b / Nat.gcd a b))) := by
  have hg : 0 < Nat.gcd a b := Nat.gcd_pos_of_pos_right a h0
  have hgl : Nat.gcd a b ≤ b := Nat.le_of_dvd h0 (Nat.gcd_dvd_right a b)
  have ne : ¬ lN (Nat.gcd a b) = 0 := fun y => by have := (lN_inj (a := Nat.gcd a b) (b := 0) (by omega) (by decide)).mp y; omega
  have pos : ¬ lg_cmp (lN (Nat.gcd a b)) 0 ≤ 0 := by
    rw [lgc.2]
    intro y
    apply y
    rw [Int64.lt_iff_toInt_lt, lNt (by omega)]
    show (0 : Int64).toInt < _
    rw [show (0 : Int64).toInt = 0 by decide]
    omega
  rw [F_X8_tellFraction, bd1e (gcd_eq ha hb), if_neg pos, chk_pos ne, X8_tellFraction_J23, lets, if_neg pos, chk_pos ne, lets, lN_div ha (by omega), lN_div (by omega) (by omega)]
  rfl
theorem told_frac {M N : Mem} {u v : Int64} (h : Told M N) : Told (frC M u v) (frM N u v) := by
  obtain ⟨h1, h2, h3, h4, h5⟩ := h
  unfold frC frM
  refine ⟨h1, ?_, ?_, h4, h5⟩
  · simp [gJ_sJ]
  · simp [gJ_sJ]
theorem Rel.frac {t : Nat} {lw : Nat → Option Nat} {M N : Mem} (h : Rel t lw M N) (u v : Int64) : Rel (t + 1) lw (frC M u v) (frM N u v) := h.told (fun _ _ _ => rfl) (fun _ _ _ => rfl) (told_frac h.1)
theorem part_eq {N : Mem} {a b : Nat} (ha : a < 2 ^ 63) (hb : b < 200000) (h0 : 0 < b) : F_X9_part N (lN a) (lN b) = some (1, frM N (lN (a / Nat.gcd a b)) (lN (b / Nat.gcd a b))) := by
  have hg : 0 < Nat.gcd a b := Nat.gcd_pos_of_pos_right a h0
  exact part_loop (u := fun g => lN (a / g)) (v := fun g => lN (b / g)) (fun g _ h2 => ⟨lN_div ha h2, lN_div (by omega) h2⟩) 200000 a b ha (by omega) hb hg FU (Nat.le_refl _)
