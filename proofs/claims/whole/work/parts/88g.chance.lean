/-! ===== odds, gone ===== -/
def stp : Nat → Nat → Nat → Bool
  | 0, _, b => Nat.beq b 0
  | n + 1, a, b => Nat.beq b 0 || stp n b (a % b)
theorem gcd_sw (a b : Nat) : Nat.gcd a b = Nat.gcd b (a % b) := by rw [Nat.gcd_comm a b, Nat.gcd_rec b a, Nat.gcd_comm]
theorem gcd_stp : ∀ n a b k, a < 2 ^ 63 → b < 2 ^ 63 → stp n a b = true → k + n < 100 → ∀ fu, n < fu → loop X8_commonDivisor_L9 fu (lN a, lN b, nI k) = some (lN (Nat.gcd a b)) := by
  intro n
  induction n with
  | zero =>
    intro a b k ha hb hs hk fu hf
    obtain ⟨f, rfl⟩ : ∃ f, fu = f + 1 := ⟨fu - 1, by omega⟩
    have b0 : b = 0 := Nat.eq_of_beq_eq_true hs
    subst b0
    apply loop_en
    rw [X8_commonDivisor_L9, if_neg (nI_nleN (by omega) (by decide)), if_pos ((lc0 (by decide)).mpr rfl), Nat.gcd_zero_right]
  | succ n ih =>
    intro a b k ha hb hs hk fu hf
    obtain ⟨f, rfl⟩ : ∃ f, fu = f + 1 := ⟨fu - 1, by omega⟩
    by_cases b0 : b = 0
    · subst b0
      apply loop_en
      rw [X8_commonDivisor_L9, if_neg (nI_nleN (by omega) (by decide)), if_pos ((lc0 (by decide)).mpr rfl), Nat.gcd_zero_right]
    · have hr := Nat.mod_lt a (show 0 < b by omega)
      have s1 : X8_commonDivisor_L9 (lN a, lN b, nI k) = some (.inl (lN b, lN (a % b), nI (k + 1))) := by
        rw [X8_commonDivisor_L9, if_neg (nI_nleN (by omega) (by decide)), if_neg (fun y => b0 ((lc0 (by omega)).mp y)), chk_pos (show ¬ lN b = 0 from fun y => b0 ((lN_inj (b := 0) (by omega) (by decide)).mp y)), lN_mod ha (by omega)]
        simp only [lets]
        rw [nI_1]
      have hs2 : stp n b (a % b) = true := by
        rw [stp, Bool.or_eq_true] at hs
        exact hs.resolve_left (fun y => b0 (Nat.eq_of_beq_eq_true y))
      rw [loop_st s1, gcd_sw]
      exact ih b (a % b) (k + 1) (by omega) (by omega) hs2 (by omega) f (by omega)
theorem tellFr_s {M : Mem} {a b : Nat} (ha : a < 2 ^ 63) (hb : b < 2 ^ 63) (h0 : 0 < b) (hs : stp 98 a b = true) : F_X8_tellFraction M (lN a) (lN b) = some (1, frC M (lN (a / Nat.gcd a b)) (lN (b / Nat.gcd a b))) := by
  have hg : 0 < Nat.gcd a b := Nat.gcd_pos_of_pos_right a h0
  have hgl : Nat.gcd a b ≤ b := Nat.le_of_dvd h0 (Nat.gcd_dvd_right a b)
  have he : F_X8_commonDivisor (lN a) (lN b) = some (lN (Nat.gcd a b)) := gcd_stp 98 a b 0 ha hb hs (by decide) FU (by decide)
  have ne : ¬ lN (Nat.gcd a b) = 0 := fun y => by have := (lN_inj (a := Nat.gcd a b) (b := 0) (by omega) (by decide)).mp y; omega
  have pos : ¬ lg_cmp (lN (Nat.gcd a b)) 0 ≤ 0 := by
    rw [lgc.2]
    intro y
    apply y
    rw [Int64.lt_iff_toInt_lt, lNt (by omega)]
    show (0 : Int64).toInt < _
    rw [show (0 : Int64).toInt = 0 by decide]
    omega
  rw [F_X8_tellFraction, bd1e he, if_neg pos, chk_pos ne, X8_tellFraction_J23, lets, if_neg pos, chk_pos ne, lets, lN_div ha (by omega), lN_div (by omega) (by omega)]
  rfl
theorem part_lp2 {N : Mem} {A B : Int64} {u v : Nat → Int64} (hu : ∀ g, 0 < g → g < 2 ^ 63 → A / lN g = u g ∧ B / lN g = v g) : ∀ n a b, a < 2 ^ 63 → b < 2 ^ 63 → b < 2 ^ n → 0 < Nat.gcd a b → ∀ fu, 2 * n < fu → loop (X9_part_L6 N A B) fu (lN a, lN b) = some (1, sJ (sJ N 0 3 (u (Nat.gcd a b))) 0 4 (v (Nat.gcd a b))) := by
  have hend : ∀ a fu, a < 2 ^ 63 → 0 < Nat.gcd a 0 → 0 < fu → loop (X9_part_L6 N A B) fu (lN a, lN 0) = some (1, sJ (sJ N 0 3 (u (Nat.gcd a 0))) 0 4 (v (Nat.gcd a 0))) := by
    intro a fu ha hg hf
    obtain ⟨f, rfl⟩ : ∃ f, fu = f + 1 := ⟨fu - 1, by omega⟩
    rw [Nat.gcd_zero_right] at hg ⊢
    have ne : ¬ lN a = 0 := fun y => by have := (lN_inj (a := a) (b := 0) ha (by decide)).mp y; omega
    apply loop_en
    rw [X9_part_L6, if_pos ((lc0 (by decide)).mpr rfl), chk_pos ne]
    simp only [lets]
    rw [chk_pos ne, (hu a hg ha).1, (hu a hg ha).2]
  have hst : ∀ a b, a < 2 ^ 63 → b < 2 ^ 63 → b ≠ 0 → X9_part_L6 N A B (lN a, lN b) = some (.inl (lN b, lN (a % b))) := by
    intro a b ha hb b0
    rw [X9_part_L6, if_neg (fun y => b0 ((lc0 hb).mp y)), chk_pos (show ¬ lN b = 0 from fun y => b0 ((lN_inj (b := 0) hb (by decide)).mp y)), lN_mod ha hb]
    rfl
  intro n
  induction n with
  | zero =>
    intro a b ha hb hn hg fu hf
    have b0 : b = 0 := by omega
    subst b0
    exact hend a fu ha hg (by omega)
  | succ n ih =>
    intro a b ha hb hn hg fu hf
    by_cases b0 : b = 0
    · subst b0
      exact hend a fu ha hg (by omega)
    · obtain ⟨f, rfl⟩ : ∃ f, fu = f + 1 + 1 := ⟨fu - 2, by omega⟩
      have hr := Nat.mod_lt a (show 0 < b by omega)
      rw [loop_st (hst a b ha hb b0), gcd_sw]
      rw [gcd_sw] at hg
      by_cases r0 : a % b = 0
      · rw [r0] at hg ⊢
        exact hend b (f + 1) hb hg (by omega)
      · generalize a % b = r at hr r0 hg
        have hh := half_mod (show 0 < r by omega) hr
        have hr2 := Nat.mod_lt b (show 0 < r by omega)
        rw [loop_st (hst b r hb (by omega) r0), gcd_sw]
        rw [gcd_sw] at hg
        exact ih r (b % r) (by omega) (by omega) (by rw [Nat.pow_succ] at hn; omega) hg f (by omega)
theorem part_big {N : Mem} {a b : Nat} (ha : a < 2 ^ 63) (hb : b < 2 ^ 63) (h0 : 0 < b) : F_X9_part N (lN a) (lN b) = some (1, frM N (lN (a / Nat.gcd a b)) (lN (b / Nat.gcd a b))) := by
  have hg : 0 < Nat.gcd a b := Nat.gcd_pos_of_pos_right a h0
  exact part_lp2 (u := fun g => lN (a / g)) (v := fun g => lN (b / g)) (fun g _ h2 => ⟨lN_div ha h2, lN_div hb h2⟩) 63 a b ha hb hb hg FU (by decide)
theorem power_eq {v n : Nat} (hn : n < 1000) : F_X9_power (lN v) (nI n) = some (lN (v ^ n)) := by
  unfold F_X9_power
  refine loop_fn' (fun i => (lN (v ^ i), nI i)) n rfl (fun i hi => ?_) ?_ (by show n < 200000; omega)
  · show X9_power_L5 (lN v) (nI n) (_, _) = _
    rw [X9_power_L5, if_neg (nI_nleN hi (by omega))]
    simp only [lets]
    rw [nI_1, lN_mul, Nat.pow_succ]
  · show X9_power_L5 (lN v) (nI n) (_, _) = _
    rw [X9_power_L5, if_pos (nI_le (Nat.le_refl _) (by omega))]
def cnF (d : Nat → Nat) (s n : Nat) : Nat := sm (fun c => if s.testBit c then (if d c = 1 then 1 else 0) else 0) n
theorem cnF_le (d : Nat → Nat) (s n : Nat) : cnF d s n ≤ n := by
  have := sm_le (f := fun c => if s.testBit c then (if d c = 1 then 1 else 0) else 0) (n := n) (b := 1) (fun i _ => by split; split; all_goals omega)
  unfold cnF
  omega
def odU (p : Nat) : Nat := (12 - p) / Nat.gcd (12 - p) 12
def odL (p : Nat) : Nat := 12 / Nat.gcd (12 - p) 12
def odT (p k : Nat) : Bool := stp 98 ((12 - p) ^ k) (12 ^ k) && Nat.ble ((12 - p) ^ k) (2 ^ 62) && Nat.ble (12 ^ k) (2 ^ 62) && Nat.ble (odU p ^ k) (2 ^ 62) && Nat.ble (odL p ^ k) (2 ^ 62) && Nat.ble 1 (odL p ^ k) && Nat.beq ((12 - p) ^ k / Nat.gcd ((12 - p) ^ k) (12 ^ k)) (odU p ^ k / Nat.gcd (odU p ^ k) (odL p ^ k)) && Nat.beq (12 ^ k / Nat.gcd ((12 - p) ^ k) (12 ^ k)) (odL p ^ k / Nat.gcd (odU p ^ k) (odL p ^ k))
theorem od_all : ∀ p, p < 13 → ∀ k, k < 17 → odT p k = true := by decide +kernel
theorem od_of {p k : Nat} (hp : p < 13) (hk : k < 17) : stp 98 ((12 - p) ^ k) (12 ^ k) = true ∧ (12 - p) ^ k < 2 ^ 63 ∧ 12 ^ k < 2 ^ 63 ∧ odU p ^ k < 2 ^ 63 ∧ odL p ^ k < 2 ^ 63 ∧ 0 < odL p ^ k ∧ (12 - p) ^ k / Nat.gcd ((12 - p) ^ k) (12 ^ k) = odU p ^ k / Nat.gcd (odU p ^ k) (odL p ^ k) ∧ 12 ^ k / Nat.gcd ((12 - p) ^ k) (12 ^ k) = odL p ^ k / Nat.gcd (odU p ^ k) (odL p ^ k) := by
  have h := od_all p hp k hk
  unfold odT at h
  simp only [Bool.and_eq_true] at h
  obtain ⟨⟨⟨⟨⟨⟨⟨h1, h2⟩, h3⟩, h4⟩, h5⟩, h6⟩, h7⟩, h8⟩ := h
  have h2 := Nat.le_of_ble_eq_true h2
  have h3 := Nat.le_of_ble_eq_true h3
  have h4 := Nat.le_of_ble_eq_true h4
  have h5 := Nat.le_of_ble_eq_true h5
  have h6 := Nat.le_of_ble_eq_true h6
  exact ⟨h1, by omega, by omega, by omega, by omega, by omega, Nat.eq_of_beq_eq_true h7, Nat.eq_of_beq_eq_true h8⟩
theorem told_frac2 {M N : Mem} {a b u v : Int64} (h : Told M N) : Told (frC M u v) (frM (frM N a b) u v) := by
  obtain ⟨h1, h2, h3, h4, h5⟩ := h
  unfold frC frM
  refine ⟨h1, ?_, ?_, h4, h5⟩
  · simp [gJ_sJ]
  · simp [gJ_sJ]
theorem op_odds {lw : Nat → Option Nat} (tl tt : Option Nat) {M N : Mem} {t : Nat} (ht : t ≤ 3100) (h : Rel t lw M N) (a1 : Int32) (a2 : Int32) : ∃ (r : Int32) (M' : Mem) (N' : Mem), F_X8_odds M a1 a2 = some (r, M') ∧ F_X9_odds N a1 a2 = some (r, N') ∧ Rel (t + 1) lw M' N' := by
  obtain ⟨m, w, gd, d, e, hd, hw, he, hl, hg, hm, -⟩ := h.core
  have hle := hd.le
  obtain ⟨l1, l2, l3, l4, l5, l6, l7, l8, l9⟩ := hl
  obtain ⟨g1, g2, g3, g4, g5, g6, g7⟩ := hg
  have hT := dg_lt hd hw
  have hlen := HL_len hd hT
  obtain ⟨N', f1, f2, f3, f4, f5⟩ := layHoles_eq hd l3 l4 hw hm.1
  have hR := h.lay f4 f5
  rcases cut (HL m w (dg d)).length (by omega) a1 with z | ⟨j, hj, rfl⟩
  · have e1 : F_X9_isHole N a1 = some (0, N') := by rw [F_X9_isHole, bd1e f1, f2, bd1e (in_size (by omega) z), chk_pos (Or.inl rfl)]
    exact ⟨-1, M, N', by rw [F_X8_odds, bd1e (ghas_no g4 z), if_pos rfl], by rw [F_X9_odds, bd2e e1, if_pos rfl], hR.up⟩
  · have e1 : F_X9_isHole N (nI j) = some (1, N') := by rw [F_X9_isHole, bd1e f1, f2, bd1e (in_sizeI (by omega) hj), chk_pos (Or.inr rfl)]
    rcases cut 13 (by decide) a2 with z | ⟨p, hp, rfl⟩
    · refine ⟨-1, M, N', ?_, ?_, hR.up⟩
      · rw [F_X8_odds, bd1e (ghas_in g4 (by omega) hj), if_neg n10]
        by_cases y : a2 < 0
        · rw [if_pos y]
        · rw [if_neg y, if_neg (nle_of_le (z.resolve_left y) (by decide))]
      · rw [F_X9_odds, bd2e e1, if_neg n10, bd1e (in_no (z.imp_right (fun y => lt_of_le y (by decide)))), if_pos rfl]
    · have hs := HL_lt hd hT hj
      have hs16 := lt16 hd hs
      have hb := bitsOf_in (p := 9) g4 hlen g5 hj
      have h11 := f3 j hj
      generalize (HL m w (dg d)).getD j 0 = s at hs hs16 hb h11
      have q0 : gI N' 0 11 = nI m := by rw [f4 0 11 (by decide) (by decide)]; exact l3
      have q7 : ∀ c, c < 16 → gI N' 7 c = nI (d c) := fun c hc => by rw [f4 7 _ (by decide) (by omega)]; exact hm.1 c hc
      have hk := cnF_le d s m
      obtain ⟨t1, t2, t3, t4, t5, t6, t7, t8⟩ := od_of hp (show cnF d s m < 17 by omega)
      have x12 : (nI 12 - nI p).toInt64 = lN (12 - p) := by rw [nI_subN (by omega), nI_l (by omega)]
      have hC : loop (X8_odds_L41 M (nI p) (nI s)) FU (1, 1, 0) = some (1, frC M (lN (odU p ^ cnF d s m / Nat.gcd (odU p ^ cnF d s m) (odL p ^ cnF d s m))) (lN (odL p ^ cnF d s m / Nat.gcd (odU p ^ cnF d s m) (odL p ^ cnF d s m)))) := by
        refine loop_fn' (fun i => (lN ((12 - p) ^ cnF d s i), lN (12 ^ cnF d s i), nI i)) m rfl (fun i hi => ?_) ?_ (by show m < 200000; omega)
        · show X8_odds_L41 M (nI p) (nI s) (_, _, _) = _
          rw [X8_odds_L41, l1, if_neg (nI_nleN hi (by omega)), show cnF d s (i + 1) = cnF d s i + (if s.testBit i then (if d i = 1 then 1 else 0) else 0) from rfl]
          cases eb : s.testBit i
          · rw [if_pos ((nx_u0 (by omega) (by omega)).mpr eb), lets, nI_1, if_neg (by decide)]
            rfl
          · rw [if_neg (fun z => by rw [(nx_u0 (by omega) (by omega)).mp z] at eb; cases eb), bd1e (depthAt_in (by omega)), g1 i (by omega), if_pos rfl]
            have h5 := hw.1 i
            by_cases ed : d i = 1
            · rw [if_pos (show nI (d i) = 1 by rw [ed]; rfl), if_pos ed, x12]
              simp only [lets]
              rw [nI_1, show (12 : Int64) = lN 12 from rfl, lN_mul, lN_mul, Nat.pow_succ, Nat.pow_succ]
            · rw [if_neg (show ¬ nI (d i) = 1 from fun y => ed ((nI_eq (a := d i) (b := 1) (by omega) (by decide)).mp y)), if_neg ed, lets, nI_1]
              rfl
        · show X8_odds_L41 M (nI p) (nI s) (_, _, _) = _
          rw [X8_odds_L41, l1, if_pos (nI_le (Nat.le_refl _) (by omega)), bd2e (tellFr_s t2 t3 (Nat.pow_pos (by decide)) t1), t7, t8]
      have hM : loop (X9_odds_L25 N' (nI j) (nI p)) FU (0, 0) = some (nI (cnF d s m)) := by
        refine loop_fn' (fun i => (nI (cnF d s i), nI i)) m rfl (fun i hi => ?_) ?_ (by show m < 200000; omega)
        · show X9_odds_L25 N' (nI j) (nI p) (_, _) = _
          rw [X9_odds_L25, q0, if_neg (nI_nleN hi (by omega)), chk_pos (inb_nI (by omega) (by decide)), clN (by omega), h11, show cnF d s (i + 1) = cnF d s i + (if s.testBit i then (if d i = 1 then 1 else 0) else 0) from rfl]
          cases eb : s.testBit i
          · rw [bd1e (mhas_f (by omega) (by omega) eb), if_pos rfl, if_neg (by decide)]
            simp only [lets]
            rw [nI_1, nI_add0]
            rfl
          · rw [bd1e (mhas_t (by omega) (by omega) eb), if_neg n10, chk_pos (inb_nI (by omega) (by decide)), clN (by omega), q7 i (by omega), if_pos rfl]
            have h5 := hw.1 i
            by_cases ed : d i = 1
            · rw [if_pos (show nI (d i) = 1 by rw [ed]; rfl), if_pos ed]
              simp only [lets]
              rw [nI_1, nI_1]
            · rw [if_neg (show ¬ nI (d i) = 1 from fun y => ed ((nI_eq (a := d i) (b := 1) (by omega) (by decide)).mp y)), if_neg ed]
              simp only [lets]
              rw [nI_1, nI_add0]
              rfl
        · show X9_odds_L25 N' (nI j) (nI p) (_, _) = _
          rw [X9_odds_L25, q0, if_pos (nI_le (Nat.le_refl _) (by omega))]
      have hp1 : F_X9_part N' (lN (12 - p)) 12 = some (1, frM N' (lN (odU p)) (lN (odL p))) := part_eq (b := 12) (by omega) (by decide) (by decide)
      have j3 : gJ (frM N' (lN (odU p)) (lN (odL p))) 0 3 = lN (odU p) := by unfold frM; simp [gJ_sJ]
      have j4 : gJ (frM N' (lN (odU p)) (lN (odL p))) 0 4 = lN (odL p) := by unfold frM; simp [gJ_sJ]
      refine ⟨1, _, _, ?_, ?_, hR.told (M' := frC M (lN (odU p ^ cnF d s m / Nat.gcd (odU p ^ cnF d s m) (odL p ^ cnF d s m))) (lN (odL p ^ cnF d s m / Nat.gcd (odU p ^ cnF d s m) (odL p ^ cnF d s m)))) (N' := frM (frM N' (lN (odU p)) (lN (odL p))) (lN (odU p ^ cnF d s m / Nat.gcd (odU p ^ cnF d s m) (odL p ^ cnF d s m))) (lN (odL p ^ cnF d s m / Nat.gcd (odU p ^ cnF d s m) (odL p ^ cnF d s m)))) (fun _ _ _ => rfl) (fun _ _ _ => rfl) (told_frac2 hR.1)⟩
      · rw [F_X8_odds, bd1e (ghas_in g4 (by omega) hj), if_neg n10, if_neg (nneg p (by omega)), if_pos (nI_le (by omega) (by decide)), bd1e hb, hC]
      · rw [F_X9_odds, bd2e e1, if_neg n10, bd1e (in_yes (nneg p (by omega)) (nI_nlt (by omega) (by decide))), if_neg n10, bd1e hM, x12, bd2e hp1, j3, bd1e (power_eq (by omega)), j4, bd1e (power_eq (by omega)), bd2e (part_big t4 t5 t6)]
/- gone -/
def wvN (p : Nat) : Nat → Nat → Nat
  | 0, d => if d = 0 then 1 else 0
  | n + 1, d => if d = 0 then 12 * wvN p n 0 else p * wvN p n (d - 1) + (12 - p) * wvN p n d
theorem wv_eq {p : Nat} (hp : p < 13) : ∀ f n d, n < f → n < 1000 → d < 1000 → F_X8_waysToVanish f (nI d) (nI n) (nI p) = some (lN (wvN p n d)) := by
  intro f
  induction f with
  | zero => intro n d h; exact absurd h (Nat.not_lt_zero _)
  | succ f ih =>
    intro n d hn h1 h2
    rw [F_X8_waysToVanish]
    cases n with
    | zero =>
      rw [if_neg (show ¬ (0 : Int32) < nI 0 by decide), wvN]
      by_cases d0 : d = 0
      · subst d0
        rw [if_neg (show ¬ (0 : Int32) < nI 0 by decide), if_pos rfl]
        rfl
      · rw [if_pos (nI_0lt (by omega) (by omega)), if_neg d0]
        rfl
    | succ n =>
      rw [if_pos (nI_0lt (by omega) (by omega)), wvN, nI_pred]
      by_cases d0 : d = 0
      · subst d0
        rw [if_neg (show ¬ (0 : Int32) < nI 0 by decide), if_pos rfl, bd1e (show F_X8_waysToVanish f 0 (nI n) (nI p) = _ from ih n 0 (by omega) (by omega) (by omega)), show (12 : Int64) = lN 12 from rfl, lN_mul]
      · obtain ⟨d', rfl⟩ : ∃ d', d = d' + 1 := ⟨d - 1, by omega⟩
        rw [if_pos (nI_0lt (by omega) (by omega)), if_neg d0, nI_pred, bd1e (ih n d' (by omega) (by omega) (by omega)), bd1e (ih n (d' + 1) (by omega) (by omega) (by omega)), nI_subN (by omega), nI_l (by omega), nI_l (by omega), lN_mul, lN_mul, lN_add, Nat.add_sub_cancel]
def dpA (p d : Nat) : Nat → Nat → Nat
  | 0, j => if j = d then 1 else 0
  | k + 1, j => if j = 0 then 12 * dpA p d k 0 + p * dpA p d k 1 else (12 - p) * dpA p d k j + (if j < 5 then p * dpA p d k (j + 1) else 0)
def goT (p n d : Nat) : Bool := Nat.beq (dpA p d n 0) (wvN p n d) && Nat.ble (wvN p n d) (2 ^ 62) && Nat.ble (12 ^ n) (2 ^ 44)
theorem go_all : ∀ p, p < 13 → ∀ n, n < 9 → ∀ d, d < 6 → goT p n d = true := by decide +kernel
def F18 (N N' : Mem) : Prop := (∀ q x, gI N' q x = gI N q x) ∧ ∀ q x, q ≠ 18 → gJ N' q x = gJ N q x
theorem F18.s {N N' : Mem} {x : Nat} {v : Int64} (h : F18 N N') : F18 N (sJ N' 18 x v) := ⟨h.1, fun q y hq => by rw [gJ_sJ, if_neg (fun z => hq z.1)]; exact h.2 q y hq⟩
theorem gJ18 (N : Mem) (x y : Nat) (v : Int64) : gJ (sJ N 18 x v) 18 y = if y = x then v else gJ N 18 y := by
  rw [gJ_sJ]
  by_cases h : y = x
  · rw [if_pos ⟨rfl, h⟩, if_pos h]
  · rw [if_neg (fun z => h z.2), if_neg h]
theorem gone_fill {N : Mem} {c dc p : Nat} {x2 x3 : Int32} (hc : c < 16) (h7 : gI N 7 c = nI dc) (hdc : dc ≤ 5) : ∃ N', loop (X9_gone_L39 (nI c) x2 x3) FU (0, N) = some N' ∧ F18 N N' ∧ ∀ x, x < 6 → gJ N' 18 x = lN (dpA p dc 0 x) := by
  refine loop_inv (f := X9_gone_L39 (nI c) x2 x3) (fun i st => st.1 = nI i ∧ F18 N st.2 ∧ ∀ x, x < i → gJ st.2 18 x = lN (dpA p dc 0 x)) (fun N' => F18 N N' ∧ ∀ x, x < 6 → gJ N' 18 x = lN (dpA p dc 0 x)) 6 (fun i st hi hst => ?_) (by decide) ⟨rfl, ⟨fun _ _ => rfl, fun _ _ _ => rfl⟩, fun x hx => absurd hx (Nat.not_lt_zero _)⟩
  obtain ⟨a, N1⟩ := st
  obtain ⟨e1, e2, e3⟩ := hst
  have e1 : a = nI i := e1
  subst e1
  have e2 : F18 N N1 := e2
  have e3 : ∀ x, x < i → gJ N1 18 x = lN (dpA p dc 0 x) := e3
  by_cases e : i = 6
  · subst e
    rw [X9_gone_L39, if_pos (nI_lt (by decide) (by decide))]
    exact Or.inr ⟨_, rfl, e2, e3⟩
  · rw [X9_gone_L39, if_neg (nI_nlt (by omega) (by decide)), chk_pos (inb_nI hc (by decide)), clN (by omega), e2.1, h7]
    refine Or.inl ⟨by omega, ?_⟩
    by_cases ed : i = dc
    · rw [if_pos (by rw [ed]), chk_pos (inb_nI (by omega) (by decide)), clN (by omega)]
      simp only [lets]
      rw [nI_1]
      refine ⟨_, rfl, rfl, e2.s, fun x hx => ?_⟩
      show gJ (sJ N1 18 i 1) 18 x = _
      rw [gJ18]
      by_cases ex : x = i
      · rw [if_pos ex, dpA, if_pos (by omega)]; rfl
      · rw [if_neg ex, e3 x (by omega)]
    · rw [if_neg (fun z => ed ((nI_eq (by omega) (by omega)).mp z)), chk_pos (inb_nI (by omega) (by decide)), clN (by omega)]
      simp only [lets]
      rw [nI_1]
      refine ⟨_, rfl, rfl, e2.s, fun x hx => ?_⟩
      show gJ (sJ N1 18 i 0) 18 x = _
      rw [gJ18]
      by_cases ex : x = i
      · rw [if_pos ex, dpA, if_neg (by omega)]; rfl
      · rw [if_neg ex, e3 x (by omega)]
theorem gone_in {N N1 : Mem} {dc p k : Nat} {x2 x5 : Int32} (hp : p < 13) (h0 : F18 N N1) (h1 : ∀ x, x < 6 → gJ N1 18 x = lN (if x < 1 then dpA p dc (k + 1) x else dpA p dc k x)) : ∃ N', loop (X9_gone_L104 x2 (nI p) x5) FU (1, N1) = some N' ∧ F18 N N' ∧ ∀ x, x < 6 → gJ N' 18 x = lN (dpA p dc (k + 1) x) := by
  refine loop_inv (f := X9_gone_L104 x2 (nI p) x5) (fun i st => st.1 = nI (i + 1) ∧ F18 N st.2 ∧ ∀ x, x < 6 → gJ st.2 18 x = lN (if x < i + 1 then dpA p dc (k + 1) x else dpA p dc k x)) (fun N' => F18 N N' ∧ ∀ x, x < 6 → gJ N' 18 x = lN (dpA p dc (k + 1) x)) 5 (fun i st hi hst => ?_) (by decide) ⟨rfl, h0, h1⟩
  obtain ⟨a, N2⟩ := st
  obtain ⟨e1, e2, e3⟩ := hst
  have e1 : a = nI (i + 1) := e1
  subst e1
  have e2 : F18 N N2 := e2
  have e3 : ∀ x, x < 6 → gJ N2 18 x = lN (if x < i + 1 then dpA p dc (k + 1) x else dpA p dc k x) := e3
  by_cases e : i = 5
  · subst e
    rw [X9_gone_L104, if_pos (nI_lt (by decide) (by decide))]
    exact Or.inr ⟨_, rfl, e2, fun x hx => by rw [e3 x hx, if_pos hx]⟩
  · have hj : gJ N2 18 (i + 1) = lN (dpA p dc k (i + 1)) := by rw [e3 _ (by omega), if_neg (by omega)]
    have x12 : (12 : Int64) - (nI p).toInt64 = lN (12 - p) := by rw [nI_l (by omega), show (12 : Int64) = lN 12 from rfl, lN_sub (by omega)]
    rw [X9_gone_L104, if_neg (nI_nlt (by omega) (by decide)), chk_pos (inb_nI (by omega) (by decide)), clN (by omega), x12, hj, lN_mul, nI_1]
    refine Or.inl ⟨by omega, ?_⟩
    by_cases e4 : i = 4
    · subst e4
      rw [if_pos (nI_le (by omega) (by decide)), chk_pos (inb_nI (by omega) (by decide))]
      simp only [lets]
      refine ⟨_, rfl, rfl, e2.s, fun x hx => ?_⟩
      show gJ (sJ N2 18 _ _) 18 x = _
      rw [gJ18]
      by_cases ex : x = 4 + 1
      · subst ex
        rw [if_pos rfl, if_pos (by omega), show (0 : Int64) = lN 0 from rfl, lN_add]
        rfl
      · rw [if_neg ex, e3 x hx]
        by_cases el : x < 4 + 1
        · rw [if_pos el, if_pos (by omega)]
        · rw [if_neg el, if_neg (by omega)]
    · have hj2 : gJ N2 18 (i + 1 + 1) = lN (dpA p dc k (i + 1 + 1)) := by rw [e3 _ (by omega), if_neg (by omega)]
      rw [if_neg (nI_nleN (by omega) (by decide)), chk_pos (inb_nI (by omega) (by decide)), chk_pos (inb_nI (by omega) (by decide)), clN (by omega), hj2, nI_l (by omega), lN_mul, lN_add]
      simp only [lets]
      refine ⟨_, rfl, rfl, e2.s, fun x hx => ?_⟩
      show gJ (sJ N2 18 _ _) 18 x = _
      rw [gJ18]
      by_cases ex : x = i + 1
      · subst ex
        rw [if_pos rfl, if_pos (by omega), dpA, if_neg (by omega), if_pos (by omega)]
      · rw [if_neg ex, e3 x hx]
        by_cases el : x < i + 1
        · rw [if_pos el, if_pos (by omega)]
        · rw [if_neg el, if_neg (by omega)]
theorem gone_lp {N N1 : Mem} {dc p n : Nat} (hp : p < 13) (hn : n < 9) (h0 : F18 N N1) (h1 : ∀ x, x < 6 → gJ N1 18 x = lN (dpA p dc 0 x)) : ∃ N', loop (X9_gone_L75 (nI n) (nI p)) FU (0, N1) = some N' ∧ F18 N N' ∧ ∀ x, x < 6 → gJ N' 18 x = lN (dpA p dc n x) := by
  refine loop_inv (f := X9_gone_L75 (nI n) (nI p)) (fun i st => st.1 = nI i ∧ F18 N st.2 ∧ ∀ x, x < 6 → gJ st.2 18 x = lN (dpA p dc i x)) (fun N' => F18 N N' ∧ ∀ x, x < 6 → gJ N' 18 x = lN (dpA p dc n x)) n (fun i st hi hst => ?_) (by show n < 200000; omega) ⟨rfl, h0, h1⟩
  obtain ⟨a, N2⟩ := st
  obtain ⟨e1, e2, e3⟩ := hst
  have e1 : a = nI i := e1
  subst e1
  have e2 : F18 N N2 := e2
  have e3 : ∀ x, x < 6 → gJ N2 18 x = lN (dpA p dc i x) := e3
  by_cases e : i = n
  · subst e
    rw [X9_gone_L75, if_pos (nI_le (Nat.le_refl _) (by omega))]
    exact Or.inr ⟨_, rfl, e2, e3⟩
  · have z0 : (0 : Int32).toNatClampNeg = 0 := by decide
    have z1 : (1 : Int32).toNatClampNeg = 1 := by decide
    rw [X9_gone_L75, if_neg (nI_nleN (by omega) (by omega)), z0, z1, e3 0 (by decide), e3 1 (by decide), nI_l (by omega), show (12 : Int64) = lN 12 from rfl, lN_mul, lN_mul, lN_add, lets]
    obtain ⟨N3, f1, f2, f3⟩ := gone_in (N := N) (N1 := sJ N2 18 0 (lN (12 * dpA p dc i 0 + p * dpA p dc i 1))) (dc := dc) (p := p) (k := i) (x2 := nI n) (x5 := nI i) hp e2.s (fun x hx => by
      rw [gJ18]
      by_cases ex : x = 0
      · subst ex
        rw [if_pos rfl, if_pos (by omega), dpA, if_pos rfl]
      · rw [if_neg ex, if_neg (by omega), e3 x hx])
    rw [bd1e f1, lets, nI_1]
    exact Or.inl ⟨by omega, _, rfl, rfl, f2, f3⟩
theorem op_gone {lw : Nat → Option Nat} (tl tt : Option Nat) {M N : Mem} {t : Nat} (ht : t ≤ 3100) (h : Rel t lw M N) (a1 : Int32) (a2 : Int32) (a3 : Int32) : ∃ (r : Int32) (M' : Mem) (N' : Mem), F_X8_gone M a1 a2 a3 = some (r, M') ∧ F_X9_gone N a1 a2 a3 = some (r, N') ∧ Rel (t + 1) lw M' N' := by
  obtain ⟨m, w, gd, d, e, hd, hw, he, hl, hg, hm, -⟩ := h.core
  have hle := hd.le
  have l1 := hl.1
  have l3 := hl.2.2.1
  rcases cut m (by omega) a1 with z | ⟨c, hc, rfl⟩
  · exact ⟨-1, M, N, by rw [F_X8_gone, bd1e (lhas_no l1 z), if_pos rfl], by rw [F_X9_gone, bd1e (isCell_no l3 (by omega) z), if_pos rfl], h.up⟩
  · rcases cut 9 (by decide) a2 with z | ⟨n, hn, rfl⟩
    · refine ⟨-1, M, N, ?_, ?_, h.up⟩
      · rw [F_X8_gone, bd1e (lhas_in l1 (by omega) hc), if_neg n10]
        by_cases y : a2 < 0
        · rw [if_pos y]
        · rw [if_neg y, if_pos (lt_of_le (z.resolve_left y) (by decide))]
      · rw [F_X9_gone, bd1e (isCell_in l3 (by omega) hc), if_neg n10, bd1e (in_no (z.imp_right (fun y => lt_of_le y (by decide)))), if_pos rfl]
    · rcases cut 13 (by decide) a3 with z | ⟨p, hp, rfl⟩
      · refine ⟨-1, M, N, ?_, ?_, h.up⟩
        · rw [F_X8_gone, bd1e (lhas_in l1 (by omega) hc), if_neg n10, if_neg (nneg n (by omega)), if_neg (nI_nlt (by omega) (by decide))]
          by_cases y : a3 < 0
          · rw [if_pos y]
          · rw [if_neg y, if_neg (nle_of_le (z.resolve_left y) (by decide))]
        · rw [F_X9_gone, bd1e (isCell_in l3 (by omega) hc), if_neg n10, bd1e (in_yes (nneg n (by omega)) (nI_nlt (by omega) (by decide))), if_neg n10, bd1e (in_no (z.imp_right (fun y => lt_of_le y (by decide)))), if_pos rfl]
      · have h5 := hw.1 c
        have hgt := go_all p hp n hn (d c) (by omega)
        unfold goT at hgt
        simp only [Bool.and_eq_true] at hgt
        obtain ⟨⟨t1, t2⟩, t3⟩ := hgt
        have t1 := Nat.eq_of_beq_eq_true t1
        have t2 := Nat.le_of_ble_eq_true t2
        have t3 := Nat.le_of_ble_eq_true t3
        have t4 : 0 < 12 ^ n := Nat.pow_pos (by decide)
        have hL : loop (X8_gone_L39 M (nI c) (nI n) (nI p)) FU (1, 0) = some (lN (12 ^ n)) := by
          refine loop_fn' (fun i => (lN (12 ^ i), nI i)) n rfl (fun i hi => ?_) ?_ (by show n < 200000; omega)
          · show X8_gone_L39 M _ _ _ (_, _) = _
            rw [X8_gone_L39, if_neg (nI_nleN hi (by omega))]
            simp only [lets]
            rw [nI_1, show (12 : Int64) = lN 12 from rfl, lN_mul, Nat.pow_succ]
          · show X8_gone_L39 M _ _ _ (_, _) = _
            rw [X8_gone_L39, if_pos (nI_le (Nat.le_refl _) (by omega))]
        obtain ⟨N1, b1, b2, b3⟩ := gone_fill (N := N) (p := p) (x2 := nI n) (x3 := nI p) (show c < 16 by omega) (hm.1 c (by omega)) h5
        obtain ⟨N2, c1, c2, c3⟩ := gone_lp (n := n) hp hn b2 b3
        have z0 : (0 : Int32).toNatClampNeg = 0 := by decide
        have hR : Rel t lw M N2 := h.frm agr.rf (fun p k _ => c2.1 p k) (fun _ => rfl) ⟨c2.2 _ _ (by decide), c2.2 _ _ (by decide)⟩
        refine ⟨1, _, _, ?_, ?_, hR.frac (lN (wvN p n (d c) / Nat.gcd (wvN p n (d c)) (12 ^ n))) (lN (12 ^ n / Nat.gcd (wvN p n (d c)) (12 ^ n)))⟩
        · rw [F_X8_gone, bd1e (lhas_in l1 (by omega) hc), if_neg n10, if_neg (nneg n (by omega)), if_neg (nI_nlt (by omega) (by decide)), if_neg (nneg p (by omega)), if_pos (nI_le (by omega) (by decide)), bd1e hL, bd1e (depthAt_in (by omega)), hg.1 c (by omega), bd1e (wv_eq hp 12 n (d c) (by omega) (by omega) (by omega)), bd2e (tellFr_eq (by omega) (by omega) t4)]
        · rw [F_X9_gone, bd1e (isCell_in l3 (by omega) hc), if_neg n10, bd1e (in_yes (nneg n (by omega)) (nI_nlt (by omega) (by decide))), if_neg n10, bd1e (in_yes (nneg p (by omega)) (nI_nlt (by omega) (by decide))), if_neg n10, bd1e b1, bd1e c1, bd1e (show F_X9_power 12 (nI n) = some (lN (12 ^ n)) from power_eq (v := 12) (by omega)), z0, c3 0 (by decide), t1, bd2e (part_big (by omega) (by omega) t4)]
