/-! ===== carry ===== -/
theorem se_l {α β γ : Type} (f : α → γ) (g : β → γ) (x : α) : Sum.elim f g (.inl x) = f x := rfl
theorem se_r {α β γ : Type} (f : α → γ) (g : β → γ) (x : β) : Sum.elim f g (.inr x) = g x := rfl
theorem un2_e {α β γ : Type} (f : α → β → γ) (a : α) (b : β) : un2 f (a, b) = f a b := rfl
theorem un0_e {γ : Type} (f : Unit → γ) : un0 f () = f () := rfl
theorem un1_e {α γ : Type} (f : α → γ) (a : α) : un1 f a = f a := rfl
theorem lgc3 {x y : Int64} : 0 ≤ lg_cmp x y ↔ ¬ x < y := by
  unfold lg_cmp
  rcases lg_tri x y with h | h | h
  · have h2 := lg_lt_not h
    have h3 := lg_lt_ne h
    simp [h2, h3, h]
  · subst h
    have : ¬ x < x := fun y => lg_lt_ne y rfl
    simp [this]
  · have h2 := lg_lt_not h
    simp [h, h2]
def absL (x : Int64) : Int64 := if 0 ≤ lg_cmp x 0 then x else -x
theorem absL_eq (x : Int64) : F_J9_abs_067f4 x = some (absL x) := by
  unfold F_J9_abs_067f4 absL
  by_cases h : 0 ≤ lg_cmp x 0
  · rw [if_pos h, if_pos h]
  · rw [if_neg h, if_neg h]
theorem i64_0 : (0 : Int64).toInt = 0 := by decide
theorem i64_4 : (4 : Int64).toInt = 4 := by decide
theorem abs_out {x : Int32} (h : x.toInt ≤ -4 ∨ 4 ≤ x.toInt) : 0 ≤ lg_cmp (absL x.toInt64) 4 := by
  rw [lgc3, Int64.lt_iff_toInt_lt, i64_4]
  have h1 := Int32.toInt_lt x
  have h2 := Int32.le_toInt x
  unfold absL
  by_cases z : 0 ≤ lg_cmp x.toInt64 0
  · rw [if_pos z, Int32.toInt_toInt64]
    rw [lgc3, Int64.lt_iff_toInt_lt, i64_0, Int32.toInt_toInt64] at z
    omega
  · rw [if_neg z, Int64.toInt_neg, Int32.toInt_toInt64]
    rw [lgc3, Int64.lt_iff_toInt_lt, i64_0, Int32.toInt_toInt64] at z
    rw [Int.bmod_eq_of_le (by omega) (by omega)]
    omega
theorem abs_in : ∀ a, a < 9 → 1 ≤ a → a ≤ 7 → ¬ 0 ≤ lg_cmp (absL (nI a - nI 4).toInt64) 4 ∧ lg_cmp (absL (nI a - nI 4).toInt64) 4 < 0 := by decide +kernel
theorem cut9 (x : Int32) : (∃ a, a < 9 ∧ x = nI a - nI 4) ∨ (x.toInt < -4 ∨ 4 < x.toInt) := by
  by_cases h : x.toInt < -4 ∨ 4 < x.toInt
  · exact Or.inr h
  · left
    refine ⟨(x.toInt + 4).toNat, by omega, ?_⟩
    apply Int32.toInt_inj.mp
    rw [pk_sub_toInt (by omega) (by decide)]
    omega
theorem s4_toInt {a : Nat} (ha : a < 9) : (nI a - nI 4).toInt = (a : Int) - 4 := pk_sub_toInt (by omega) (by decide)
theorem im4 : (-4 : Int32).toInt = -4 := by decide
theorem in9 {a : Nat} (ha : a < 9) : F_X9_in (nI a - nI 4) (-4) (nI 4) = some 1 := by
  apply in_yes
  · rw [Int32.lt_iff_toInt_lt, s4_toInt ha, im4]
    omega
  · rw [Int32.lt_iff_toInt_lt, s4_toInt ha, nI_toInt (by decide)]
    omega
theorem in9_no {x : Int32} (h : x.toInt < -4 ∨ 4 < x.toInt) : F_X9_in x (-4) (nI 4) = some 0 := by
  apply in_no
  rw [Int32.lt_iff_toInt_lt, Int32.lt_iff_toInt_lt, nI_toInt (by decide), im4]
  omega
theorem canPush_out {M : Mem} {s x y : Int32} (h : (x.toInt ≤ -4 ∨ 4 ≤ x.toInt) ∨ (y.toInt ≤ -4 ∨ 4 ≤ y.toInt)) : F_X2_canPush M s x y = some 0 := by
  rw [F_X2_canPush, bd1e (absL_eq _)]
  by_cases z : 0 ≤ lg_cmp (absL x.toInt64) 4
  · rw [if_pos z]
  · have hy : y.toInt ≤ -4 ∨ 4 ≤ y.toInt := h.resolve_left (fun w => z (abs_out w))
    have z2 := abs_out hy
    rw [if_neg z, bd1e (absL_eq _), if_neg (Int32.not_lt.mpr z2)]
/- where a cell comes to -/
def okc (m w a b c : Nat) : Prop := 4 ≤ c % w + a ∧ c % w + a < w + 4 ∧ 4 * w + 4 ≤ c + b * w + a ∧ c + b * w + a < m + (4 * w + 4)
def tgc (w a b c : Nat) : Nat := c + b * w + a - (4 * w + 4)
theorem i_re (x y z u v : Int32) : x + (y - z) + (u - v) = (x + y + u) - (z + v) := by
  simp only [Int32.sub_eq_add_neg, Int32.neg_add]
  ac_rfl
theorem i_re2 (y z u v : Int32) : (y - z) + (u - v) = (y + u) - (z + v) := by
  simp only [Int32.sub_eq_add_neg, Int32.neg_add]
  ac_rfl
theorem i_re3 (x y z : Int32) : x - (y - z) = (x + z) - y := by
  rw [Int32.sub_eq_add_neg, Int32.neg_sub, Int32.sub_eq_add_neg, Int32.sub_eq_add_neg]
  ac_rfl
theorem i_as (x y z : Int32) : x + (y - z) = (x + y) - z := by rw [Int32.sub_eq_add_neg, Int32.sub_eq_add_neg, Int32.add_assoc]
theorem dyw : ∀ b, b < 9 → ∀ w, w < 5 → (nI b - nI 4) * nI w = nI (b * w) - nI (4 * w) := by decide +kernel
theorem neg_of {p q : Nat} (h : p < q) (hq : q < 2 ^ 30) : nI p - nI q < 0 := by
  rw [Int32.lt_iff_toInt_lt, pk_sub_toInt (by omega) hq, Int32.toInt_zero]
  omega
theorem nneg_of {p q : Nat} (h : q ≤ p) (hp : p < 2 ^ 30) : ¬ nI p - nI q < 0 := by
  rw [Int32.lt_iff_toInt_lt, pk_sub_toInt hp (by omega), Int32.toInt_zero]
  omega
theorem bw_le {b w : Nat} (hb : b < 9) (hw : w ≤ 4) : b * w ≤ 32 := by
  have := Nat.mul_le_mul (show b ≤ 8 by omega) hw
  omega
theorem cp_st {M : Mem} {m w s a b c : Nat} (hd : Dm m w) (l1 : gI M 7 0 = nI m) (l2 : gI M 7 1 = nI w) (hs : s < 2 ^ 16) (ha : a < 9) (hb : b < 9) (hc : c < m) : ((s.testBit c = true → okc m w a b c) ∧ X2_canPush_L29 M (nI s) (nI a - nI 4) (nI b - nI 4) (nI c) = some (.inl (nI (c + 1)))) ∨ ((s.testBit c = true ∧ ¬ okc m w a b c) ∧ X2_canPush_L29 M (nI s) (nI a - nI 4) (nI b - nI 4) (nI c) = some (.inr 0)) := by
  have hle := hd.le
  have hw : 2 ≤ w := by rcases hd with h | h <;> omega
  have hbw := bw_le hb hle.2
  have hw0 : ¬ nI w = 0 := nI_ne0 (by omega) (by omega)
  have hmod := Nat.mod_lt c (show 0 < w by omega)
  rw [X2_canPush_L29, l1, l2, if_neg (nI_nleN hc (by omega)), if_neg (nI_nle (by omega) (by omega)), chk_pos hw0, irm_c c (by omega) w (by omega) (by omega), dyw b hb w (by omega), i_re, nI_add, nI_add, nI_add]
  simp only [lets]
  cases e : s.testBit c
  · rw [if_pos ((nx_u0 (by omega) (by omega)).mpr e), nI_1]
    exact Or.inl ⟨fun h => (by cases h), rfl⟩
  · rw [if_neg (fun z => by rw [(nx_u0 (by omega) (by omega)).mp z] at e; cases e), i_as, nI_add]
    by_cases o1 : 4 ≤ c % w + a
    · rw [if_neg (nneg_of o1 (by omega)), nI_subN o1]
      by_cases o2 : c % w + a < w + 4
      · rw [if_neg (nI_nleN (by omega) (by omega))]
        by_cases o3 : 4 * w + 4 ≤ c + b * w + a
        · rw [nI_subN o3]
          by_cases o4 : c + b * w + a < m + (4 * w + 4)
          · rw [bd1e (lhas_in l1 (by omega) (by omega)), if_neg n10, nI_1]
            exact Or.inl ⟨fun _ => ⟨o1, o2, o3, o4⟩, rfl⟩
          · rw [bd1e (lhas_no l1 (Or.inr (nI_le (by omega) (by omega)))), if_pos rfl]
            exact Or.inr ⟨⟨rfl, fun h => o4 h.2.2.2⟩, rfl⟩
        · rw [bd1e (lhas_no l1 (Or.inl (neg_of (by omega) (by omega)))), if_pos rfl]
          exact Or.inr ⟨⟨rfl, fun h => o3 h.2.2.1⟩, rfl⟩
      · rw [if_pos (nI_le (by omega) (by omega))]
        exact Or.inr ⟨⟨rfl, fun h => o2 h.2.1⟩, rfl⟩
    · rw [if_pos (neg_of (by omega) (by decide))]
      exact Or.inr ⟨⟨rfl, fun h => o1 h.1⟩, rfl⟩
theorem okc_y {m w a b c : Nat} (hd : Dm m w) (hc : c < m) (h1 : 4 ≤ c % w + a) (h2 : c % w + a < w + 4) : (4 * w + 4 ≤ c + b * w + a ↔ 4 ≤ c / w + b) ∧ (4 ≤ c / w + b → (c + b * w + a < m + (4 * w + 4) ↔ c / w + b < m / w + 4)) ∧ (4 ≤ c / w + b → w * (c / w + b - 4) + (c % w + a - 4) = tgc w a b c) := by
  unfold tgc
  rcases hd.cases with ⟨e1, e2⟩ | ⟨e1, e2⟩ | ⟨e1, e2⟩ | ⟨e1, e2⟩ | ⟨e1, e2⟩ | ⟨e1, e2⟩ | ⟨e1, e2⟩ | ⟨e1, e2⟩ | ⟨e1, e2⟩ | ⟨e1, e2⟩ | ⟨e1, e2⟩ | ⟨e1, e2⟩ | ⟨e1, e2⟩ <;> subst e1 <;> subst e2 <;> refine ⟨?_, fun _ => ?_, fun _ => ?_⟩ <;> omega
theorem okc_ab {m w a b c : Nat} (hd : Dm m w) (hc : c < m) (h : okc m w a b c) : 1 ≤ a ∧ a ≤ 7 ∧ 1 ≤ b ∧ b ≤ 7 := by
  obtain ⟨h1, h2, h3, h4⟩ := h
  obtain ⟨y1, y2, y3⟩ := okc_y (b := b) hd hc h1 h2
  have y4 := y1.mp h3
  have y5 := (y2 y4).mp h4
  rcases hd.cases with ⟨e1, e2⟩ | ⟨e1, e2⟩ | ⟨e1, e2⟩ | ⟨e1, e2⟩ | ⟨e1, e2⟩ | ⟨e1, e2⟩ | ⟨e1, e2⟩ | ⟨e1, e2⟩ | ⟨e1, e2⟩ | ⟨e1, e2⟩ | ⟨e1, e2⟩ | ⟨e1, e2⟩ | ⟨e1, e2⟩ <;> subst e1 <;> subst e2 <;> omega
theorem canPush_eq {M : Mem} {m w s a b k : Nat} (hd : Dm m w) (l1 : gI M 7 0 = nI m) (l2 : gI M 7 1 = nI w) (hs : s < 2 ^ m) (ha : a < 9) (hb : b < 9) (hk : s.testBit k = true) : (F_X2_canPush M (nI s) (nI a - nI 4) (nI b - nI 4) = some 1 ∧ ∀ c, s.testBit c = true → okc m w a b c) ∨ (F_X2_canPush M (nI s) (nI a - nI 4) (nI b - nI 4) = some 0 ∧ ∃ c, s.testBit c = true ∧ ¬ okc m w a b c) := by
  have hle := hd.le
  have hs16 := lt16 hd hs
  have hkm := tb_m hs hk
  by_cases hr : 1 ≤ a ∧ a ≤ 7 ∧ 1 ≤ b ∧ b ≤ 7
  · obtain ⟨r, e1, e2⟩ := loop_inv (f := X2_canPush_L29 M (nI s) (nI a - nI 4) (nI b - nI 4)) (fun i st => st = nI i ∧ ∀ c, c < i → s.testBit c = true → okc m w a b c) (fun r => (r = 1 ∧ ∀ c, s.testBit c = true → okc m w a b c) ∨ (r = 0 ∧ ∃ c, s.testBit c = true ∧ ¬ okc m w a b c)) m (fun i st hi hst => by
      obtain ⟨e1, e2⟩ := hst
      subst e1
      by_cases ei : i = m
      · subst ei
        rw [X2_canPush_L29, l1, if_pos (nI_le (Nat.le_refl _) (by omega))]
        exact Or.inr ⟨_, rfl, Or.inl ⟨rfl, fun c hc => e2 c (tb_m hs hc) hc⟩⟩
      · rcases cp_st hd l1 l2 hs16 ha hb (show i < m by omega) with ⟨z1, z2⟩ | ⟨⟨z1, z3⟩, z2⟩
        · refine Or.inl ⟨by omega, _, z2, rfl, fun c hc hb2 => ?_⟩
          by_cases ec : c = i
          · subst ec; exact z1 hb2
          · exact e2 c (by omega) hb2
        · exact Or.inr ⟨_, z2, Or.inr ⟨rfl, i, z1, z3⟩⟩) (k := FU) (by show m < 200000; omega) (s := 0) ⟨rfl, fun c hc => absurd hc (Nat.not_lt_zero _)⟩
    have hF : F_X2_canPush M (nI s) (nI a - nI 4) (nI b - nI 4) = some r := by
      rw [F_X2_canPush, bd1e (absL_eq _), if_neg (abs_in a ha hr.1 hr.2.1).1, bd1e (absL_eq _), if_pos (abs_in b hb hr.2.2.1 hr.2.2.2).2, e1]
    rcases e2 with ⟨rfl, e2⟩ | ⟨rfl, e2⟩
    · exact Or.inl ⟨hF, e2⟩
    · exact Or.inr ⟨hF, e2⟩
  · refine Or.inr ⟨canPush_out ?_, k, hk, fun h => hr (okc_ab hd hkm h)⟩
    rw [s4_toInt ha, s4_toInt hb]
    omega
def Pob (m w a b s : Nat) : Nat := ob s.testBit (tgc w a b) m
theorem Pob_lt {m w a b s : Nat} (h : ∀ c, s.testBit c = true → okc m w a b c) : Pob m w a b s < 2 ^ m := ob_lt (fun c _ hc => by
  have := h c hc
  unfold tgc
  unfold okc at this
  omega)
theorem pushC {m w a b s : Nat} (hd : Dm m w) (hs : s < 2 ^ m) (ha : a < 9) (hb : b < 9) (h : ∀ c, s.testBit c = true → okc m w a b c) : (if nI (b * w + a) - nI (4 * w + 4) < 0 then ius (nI s) (-(nI (b * w + a) - nI (4 * w + 4))) else ish (nI s) (nI (b * w + a) - nI (4 * w + 4))) = nI (Pob m w a b s) := by
  have hle := hd.le
  have hs16 := lt16 hd hs
  have hbw := bw_le hb hle.2
  have hbw2 : b * w ≤ 8 * w := Nat.mul_le_mul_right w (by omega)
  by_cases z : 4 * w + 4 ≤ b * w + a
  · rw [if_neg (nneg_of z (by omega)), nI_subN z, nx_shl _ (by omega)]
    congr 1
    apply Nat.eq_of_testBit_eq
    intro i
    rw [Bool.eq_iff_iff, Pob, ob_tb, ← Nat.shiftLeft_eq, Nat.testBit_shiftLeft, Bool.and_eq_true, decide_eq_true_iff]
    constructor
    · rintro ⟨h1, h2⟩
      exact ⟨_, tb_m hs h2, h2, by unfold tgc; omega⟩
    · rintro ⟨c, h1, h2, h3⟩
      unfold tgc at h3
      exact ⟨by omega, by rw [show i - (b * w + a - (4 * w + 4)) = c by omega]; exact h2⟩
  · rw [if_pos (neg_of (by omega) (by omega)), Int32.neg_sub, nI_subN (by omega), nx_ushr (by omega) (by omega)]
    congr 1
    apply Nat.eq_of_testBit_eq
    intro i
    rw [Bool.eq_iff_iff, Pob, ob_tb, tb_div]
    constructor
    · intro h2
      exact ⟨_, tb_m hs h2, h2, by unfold tgc; omega⟩
    · rintro ⟨c, h1, h2, h3⟩
      have h4 := (h c h2).2.2.1
      unfold tgc at h3
      rw [show 4 * w + 4 - (b * w + a) + i = c by omega]
      exact h2
/- how much is moved -/
def ad (x y : Nat) : Nat := if x ≤ y then y - x else x - y
theorem ad_abs : ∀ x, x < 6 → ∀ y, y < 6 → F_J9_abs_0f7a4 (nI x - nI y) = some (nI (ad x y)) := by decide +kernel
theorem ob_sum {P : Nat → Bool} {g : Nat → Nat} {n b : Nat} (F : Nat → Nat) (h1 : ∀ c, c < n → P c = true → g c < b) (h2 : ∀ c c', c < n → c' < n → P c = true → P c' = true → g c = g c' → c = c') : sm (fun t => if (ob P g n).testBit t then F t else 0) b = sm (fun c => if P c then F (g c) else 0) n := by
  have e1 : ∀ t, (if (ob P g n).testBit t then F t else 0) = sm (fun c => if P c && decide (g c = t) then F t else 0) n := by
    intro t
    cases e : (ob P g n).testBit t
    · rw [if_neg (by decide)]
      symm
      apply sm_zero
      intro c hc
      cases ep : P c
      · rfl
      · by_cases eg : g c = t
        · rw [(ob_tb P g n t).mpr ⟨c, hc, ep, eg⟩] at e; cases e
        · rw [decide_eq_false eg]; rfl
    · obtain ⟨c, k1, k2, k3⟩ := (ob_tb P g n t).mp e
      rw [if_pos rfl]
      symm
      refine sm_one k1 (by rw [k2, decide_eq_true k3]; rfl) (fun c' hc' hne => ?_)
      cases ep : P c'
      · rfl
      · by_cases eg : g c' = t
        · exact absurd (h2 c' c hc' k1 ep k2 (eg.trans k3.symm)) hne
        · rw [decide_eq_false eg]; rfl
  rw [show (fun t => if (ob P g n).testBit t then F t else 0) = fun t => sm (fun c => if P c && decide (g c = t) then F t else 0) n from funext e1, sm_swap]
  apply sm_congr
  intro c hc
  cases ep : P c
  · exact sm_zero (fun t _ => rfl)
  · rw [if_pos rfl]
    refine sm_one (h1 c hc ep) (by rw [decide_eq_true rfl]; rfl) (fun t _ hne => ?_)
    rw [decide_eq_false (fun z => hne z.symm)]; rfl
theorem carC {M : Mem} {m w s a b : Nat} {d : Nat → Nat} (hd : Dm m w) (l1 : gI M 7 0 = nI m) (g1 : ∀ c, c < 16 → gI M 10 c = nI (d c)) (h5 : ∀ c, d c ≤ 5) (hs : s < 2 ^ m) (ha : a < 9) (hb : b < 9) (h : ∀ c, s.testBit c = true → okc m w a b c) : loop (X8_carry_L112 M (nI s) (nI (b * w + a) - nI (4 * w + 4)) (nI (Pob m w a b s))) FU (0, 0) = some (nI (sm (fun t => if (Pob m w a b s).testBit t then ad (d (t + (4 * w + 4) - (b * w + a))) (d t) else if s.testBit t then d t else 0) m)) := by
  have hle := hd.le
  have hs16 := lt16 hd hs
  have hP := Pob_lt h
  have hP16 := lt16 hd hP
  have hbw := bw_le hb hle.2
  refine loop_fn' (fun i => (nI (sm (fun t => if (Pob m w a b s).testBit t then ad (d (t + (4 * w + 4) - (b * w + a))) (d t) else if s.testBit t then d t else 0) i), nI i)) m rfl (fun i hi => ?_) ?_ (by show m < 200000; omega)
  · show X8_carry_L112 M _ _ _ (_, _) = _
    have hor : s ||| Pob m w a b s < 2 ^ 16 := or_lt' hs16 hP16
    have h5i := h5 i
    rw [X8_carry_L112, l1, if_neg (nI_nleN hi (by omega)), nx_or, sm]
    cases eP : (Pob m w a b s).testBit i
    · cases es : s.testBit i
      · rw [if_pos ((nx_u0 (by omega) (by omega)).mpr (by rw [Nat.testBit_or, es, eP]; rfl)), lets, nI_1, if_neg (by decide), if_neg (by decide)]
        rfl
      · rw [if_neg (fun z => by have := (nx_u0 (by omega) (by omega)).mp z; rw [Nat.testBit_or, es] at this; cases this), if_pos ((nx_u0 (by omega) (by omega)).mpr eP), X8_carry_J163, bd1e (depthAt_in (by omega)), g1 i (by omega), bd1e (show F_J9_abs_0f7a4 (0 - nI (d i)) = some (nI (d i)) by
          have := ad_abs 0 (by decide) (d i) (by omega)
          rw [show ad 0 (d i) = d i by unfold ad; rw [if_pos (Nat.zero_le _)]; rfl] at this
          exact this), if_neg (by decide), if_pos rfl]
        simp only [lets]
        rw [nI_add, nI_1]
    · obtain ⟨c, k1, k2, k3⟩ := (ob_tb _ _ _ _).mp eP
      have ho := h c k2
      unfold okc at ho
      unfold tgc at k3
      have e1 : nI i - (nI (b * w + a) - nI (4 * w + 4)) = nI c := by
        rw [i_re3, nI_add, nI_subN (by omega)]
        congr 1
        omega
      have e2 : i + (4 * w + 4) - (b * w + a) = c := by omega
      have h5c := h5 c
      rw [if_neg (fun z => by have := (nx_u0 (by omega) (by omega)).mp z; rw [Nat.testBit_or, eP, Bool.or_true] at this; cases this), if_neg (fun z => by rw [(nx_u0 (by omega) (by omega)).mp z] at eP; cases eP), e1, bd1e (depthAt_in (by omega)), g1 c (by omega), X8_carry_J163, bd1e (depthAt_in (by omega)), g1 i (by omega), bd1e (ad_abs _ (by omega) _ (by omega)), if_pos rfl, e2]
      simp only [lets]
      rw [nI_add, nI_1]
  · show X8_carry_L112 M _ _ _ (_, _) = _
    rw [X8_carry_L112, l1, if_pos (nI_le (Nat.le_refl _) (by omega))]
/- the model -/
def nbo (m w t O : Nat) : Prop := (2 ^ t ||| bs (adj m w t) 16) &&& O = 0
def wasN (d : Nat → Nat) (s t : Nat) : Nat := if s.testBit t then d t else 0
theorem carM_st {N : Mem} {m w s a b c O : Nat} {d : Nat → Nat} {x7 x8 : Nat} (hd : Dm m w) (l3 : gI N 0 11 = nI m) (l4 : gI N 0 10 = nI w) (h7 : ∀ c, c < 16 → gI N 7 c = nI (d c)) (h5 : ∀ c, d c ≤ 5) (hs : s < 2 ^ 16) (hO : O < 2 ^ 16) (ha : a < 9) (hb : b < 9) (hc : c < m) (hbit : s.testBit c = true) : ((okc m w a b c ∧ nbo m w (tgc w a b c) O) ∧ X9_carry_L76 N (nI a - nI 4) (nI b - nI 4) (nI s) (nI O) (nI (m / w)) (nI x7, nI x8, nI c) = some (.inl (nI (x7 ||| 2 ^ tgc w a b c), nI (x8 + ad (d c) (wasN d s (tgc w a b c))), nI (c + 1)))) ∨ (¬ (okc m w a b c ∧ nbo m w (tgc w a b c) O) ∧ X9_carry_L76 N (nI a - nI 4) (nI b - nI 4) (nI s) (nI O) (nI (m / w)) (nI x7, nI x8, nI c) = some (.inr (.inr (-9, N)))) := by
  have hle := hd.le
  have hw : 2 ≤ w := by rcases hd with h | h <;> omega
  have hw0 : ¬ nI w = 0 := nI_ne0 (by omega) (by omega)
  have hmod := Nat.mod_lt c (show 0 < w by omega)
  have hdiv : c / w ≤ c := Nat.div_le_self _ _
  have hdm : m / w ≤ m := Nat.div_le_self _ _
  rw [X9_carry_L76, l3, if_neg (nI_nleN hc (by omega)), bd1e (mhas_t (by omega) (by omega) hbit), if_neg n10, l4, chk_pos hw0, irm_c c (by omega) w (by omega) (by omega), lets, chk_pos hw0, pk_div (by omega) (by omega) (by omega), lets, i_as, nI_add, i_as, nI_add]
  by_cases o1 : 4 ≤ c % w + a
  · rw [nI_subN o1]
    by_cases o2 : c % w + a < w + 4
    · obtain ⟨y1, y2, y3⟩ := okc_y (b := b) hd hc o1 o2
      rw [bd1e (in_sizeI (by omega) (show c % w + a - 4 < w by omega)), if_neg n10]
      by_cases o3 : 4 ≤ c / w + b
      · rw [nI_subN o3]
        by_cases o4 : c / w + b < m / w + 4
        · have ok : okc m w a b c := ⟨o1, o2, y1.mpr o3, (y2 o3).mpr o4⟩
          have htm : tgc w a b c < m := by
            have := ok.2.2
            unfold tgc
            omega
          rw [bd1e (in_sizeI (by omega) (show c / w + b - 4 < m / w by omega)), if_neg n10, pk_mul, nI_add, y3 o3, lets, bd1e (besides_eq hd l3 l4 htm), nx_one (by omega), nx_or, nx_and]
          have hlt : (2 ^ tgc w a b c ||| bs (adj m w (tgc w a b c)) 16) &&& O < 2 ^ 16 := Nat.lt_of_le_of_lt Nat.and_le_right hO
          by_cases o5 : nbo m w (tgc w a b c) O
          · refine Or.inl ⟨⟨ok, o5⟩, ?_⟩
            unfold nbo at o5
            rw [o5, if_pos e00, nx_or, lets]
            have h5c := h5 c
            have hJ : ∀ v, v ≤ 5 → X9_carry_J210 N (nI a - nI 4) (nI b - nI 4) (nI s) (nI O) (nI (m / w)) (nI (x7 ||| 2 ^ tgc w a b c)) (nI x8) (nI c) (nI v) = some (.inl (nI (x7 ||| 2 ^ tgc w a b c), nI (x8 + ad (d c) v), nI (c + 1))) := by
              intro v hv
              rw [X9_carry_J210, chk_pos (inb_nI (by omega) (by decide)), clN (by omega), h7 c (by omega)]
              unfold ad
              by_cases z : d c ≤ v
              · rw [if_pos (nI_le z (by omega)), chk_pos (inb_nI (by omega) (by decide)), nI_subN z, nI_add, if_pos z]
                simp only [lets]
                rw [nI_1]
              · rw [if_neg (nI_nleN (by omega) (by omega)), chk_pos (inb_nI (by omega) (by decide)), nI_subN (by omega), nI_add, if_neg z]
                simp only [lets]
                rw [nI_1]
            unfold wasN
            cases et : s.testBit (tgc w a b c)
            · rw [bd1e (mhas_f (by omega) (by omega) et), if_pos rfl, if_neg (by decide)]
              exact hJ 0 (by decide)
            · rw [bd1e (mhas_t (by omega) (by omega) et), if_neg n10, chk_pos (inb_nI (by omega) (by decide)), clN (by omega), h7 _ (by omega), if_pos rfl]
              exact hJ _ (h5 _)
          · refine Or.inr ⟨fun z => o5 z.2, ?_⟩
            unfold nbo at o5
            rw [if_neg (nI_ne0 (by omega) (by omega))]
        · refine Or.inr ⟨fun z => o4 ((y2 o3).mp z.1.2.2.2), ?_⟩
          rw [bd1e (in_size (by omega) (Or.inr (nI_le (by omega) (by omega)))), if_pos rfl]
      · refine Or.inr ⟨fun z => o3 (y1.mp z.1.2.2.1), ?_⟩
        rw [bd1e (in_size (by omega) (Or.inl (neg_of (by omega) (by decide)))), if_pos rfl]
    · refine Or.inr ⟨fun z => o2 z.1.2.1, ?_⟩
      rw [bd1e (in_size (by omega) (Or.inr (nI_le (by omega) (by omega)))), if_pos rfl]
  · refine Or.inr ⟨fun z => o1 z.1.1, ?_⟩
    rw [bd1e (in_size (by omega) (Or.inl (neg_of (by omega) (by decide)))), if_pos rfl]
def sumM (w a b s : Nat) (d : Nat → Nat) (n : Nat) : Nat := sm (fun c => if s.testBit c then ad (d c) (wasN d s (tgc w a b c)) else 0) n
theorem carM {N : Mem} {m w s a b O : Nat} {d : Nat → Nat} (hd : Dm m w) (l3 : gI N 0 11 = nI m) (l4 : gI N 0 10 = nI w) (h7 : ∀ c, c < 16 → gI N 7 c = nI (d c)) (h5 : ∀ c, d c ≤ 5) (hs : s < 2 ^ m) (hO : O < 2 ^ 16) (ha : a < 9) (hb : b < 9) : ∃ r, loop (X9_carry_L76 N (nI a - nI 4) (nI b - nI 4) (nI s) (nI O) (nI (m / w))) FU (0, 0, 0) = some r ∧ (((∀ c, s.testBit c = true → okc m w a b c ∧ nbo m w (tgc w a b c) O) ∧ r = .inl (nI (Pob m w a b s), nI (sumM w a b s d m))) ∨ ((∃ c, s.testBit c = true ∧ ¬ (okc m w a b c ∧ nbo m w (tgc w a b c) O)) ∧ r = .inr (-9, N))) := by
  have hle := hd.le
  have hs16 := lt16 hd hs
  refine loop_inv (f := X9_carry_L76 N (nI a - nI 4) (nI b - nI 4) (nI s) (nI O) (nI (m / w))) (fun i st => st = (nI (ob s.testBit (tgc w a b) i), nI (sumM w a b s d i), nI i) ∧ ∀ c, c < i → s.testBit c = true → okc m w a b c ∧ nbo m w (tgc w a b c) O) (fun r => ((∀ c, s.testBit c = true → okc m w a b c ∧ nbo m w (tgc w a b c) O) ∧ r = .inl (nI (Pob m w a b s), nI (sumM w a b s d m))) ∨ ((∃ c, s.testBit c = true ∧ ¬ (okc m w a b c ∧ nbo m w (tgc w a b c) O)) ∧ r = .inr (-9, N))) m (fun i st hi hst => ?_) (by show m < 200000; omega) ⟨rfl, fun c hc => absurd hc (Nat.not_lt_zero _)⟩
  obtain ⟨e1, e2⟩ := hst
  subst e1
  by_cases ei : i = m
  · subst ei
    rw [X9_carry_L76, l3, if_pos (nI_le (Nat.le_refl _) (by omega))]
    exact Or.inr ⟨_, rfl, Or.inl ⟨fun c hc => e2 c (tb_m hs hc) hc, rfl⟩⟩
  · cases es : s.testBit i
    · rw [X9_carry_L76, l3, if_neg (nI_nleN (by omega) (by omega)), bd1e (mhas_f (by omega) (by omega) es), if_pos rfl, lets, nI_1]
      refine Or.inl ⟨by omega, _, rfl, ?_, fun c hc hb2 => ?_⟩
      · rw [ob, sumM, sumM, sm, es, if_neg (by decide), if_neg (by decide), Nat.or_zero]
        rfl
      · by_cases ec : c = i
        · subst ec; rw [es] at hb2; cases hb2
        · exact e2 c (by omega) hb2
    · rcases carM_st (O := O) (x7 := ob s.testBit (tgc w a b) i) (x8 := sumM w a b s d i) hd l3 l4 h7 h5 hs16 hO ha hb (show i < m by omega) es with ⟨z1, z2⟩ | ⟨z1, z2⟩
      · rw [z2]
        refine Or.inl ⟨by omega, _, rfl, ?_, fun c hc hb2 => ?_⟩
        · rw [ob, es, if_pos rfl, show sumM w a b s d (i + 1) = sumM w a b s d i + (if s.testBit i then ad (d i) (wasN d s (tgc w a b i)) else 0) from rfl, es, if_pos rfl]
        · by_cases ec : c = i
          · subst ec; exact z1
          · exact e2 c (by omega) hb2
      · rw [z2]
        exact Or.inr ⟨_, rfl, Or.inr ⟨⟨i, es, z1⟩, rfl⟩⟩
theorem nbo_spread {m w s a b O : Nat} (hd : Dm m w) (hs : s < 2 ^ m) (h : ∀ c, s.testBit c = true → okc m w a b c) : ((Pob m w a b s ||| nbr m w (Pob m w a b s)) &&& O = 0) ↔ ∀ c, s.testBit c = true → nbo m w (tgc w a b c) O := by
  have hP := Pob_lt h
  have hle := hd.le
  constructor
  · intro h0 c hc
    have hbit : (Pob m w a b s).testBit (tgc w a b c) = true := (ob_tb _ _ _ _).mpr ⟨c, tb_m hs hc, hc, rfl⟩
    have htm := tb_m hP hbit
    refine and_0 (fun i h1 h2 => ?_)
    have : ((Pob m w a b s ||| nbr m w (Pob m w a b s)) &&& O).testBit i = true := by
      rw [Nat.testBit_and, h2, Bool.and_true, Nat.testBit_or, Bool.or_eq_true]
      rw [Nat.testBit_or, Bool.or_eq_true, tb_two, decide_eq_true_iff, bs_tb, Bool.and_eq_true] at h1
      rcases h1 with h1 | ⟨_, h1⟩
      · subst h1; exact Or.inl hbit
      · exact Or.inr ((nbr_tb hd).mpr ⟨_, htm, hbit, h1⟩)
    rw [h0, Nat.zero_testBit] at this
    cases this
  · intro h0
    refine and_0 (fun i h1 h2 => ?_)
    have key : ∃ c, s.testBit c = true ∧ (2 ^ tgc w a b c ||| bs (adj m w (tgc w a b c)) 16).testBit i = true := by
      rw [Nat.testBit_or, Bool.or_eq_true] at h1
      rcases h1 with h1 | h1
      · obtain ⟨c, k1, k2, k3⟩ := (ob_tb _ _ _ _).mp h1
        refine ⟨c, k2, ?_⟩
        rw [Nat.testBit_or, k3, tb_two, decide_eq_true rfl]
        rfl
      · obtain ⟨t, t1, t2, t3⟩ := (nbr_tb hd).mp h1
        obtain ⟨c, k1, k2, k3⟩ := (ob_tb _ _ _ _).mp t2
        have him := adj_lt hd t1 t3
        refine ⟨c, k2, ?_⟩
        rw [Nat.testBit_or, k3, bs_tb, t3, decide_eq_true (show i < 16 by omega)]
        simp
    obtain ⟨c, k1, k2⟩ := key
    have := and_p k2 h2
    have h3 := h0 c k1
    unfold nbo at h3
    omega
theorem carM2 {N : Mem} {m s P s0 : Nat} {d : Nat → Nat} (hm : m ≤ 16) (l3 : gI N 0 11 = nI m) (h7 : ∀ c, c < 16 → gI N 7 c = nI (d c)) (hs : s < 2 ^ 16) : loop (X9_carry_L261 N (nI s) (nI P)) FU (nI s0, 0) = some (nI (s0 + sm (fun c => if (dif s P).testBit c then d c else 0) m), N) := by
  refine loop_fn' (fun i => (nI (s0 + sm (fun c => if (dif s P).testBit c then d c else 0) i), nI i)) m rfl (fun i hi => ?_) ?_ (by show m < 200000; omega)
  · show X9_carry_L261 N _ _ (_, _) = _
    have hlt : dif s P < 2 ^ 16 := dif_lt hs
    rw [X9_carry_L261, l3, if_neg (nI_nleN hi (by omega)), nx_dif, sm]
    cases e : (dif s P).testBit i
    · rw [bd1e (mhas_f (by omega) (by omega) e), if_pos rfl, if_neg (by decide)]
      simp only [lets]
      rw [nI_add0, nI_1]
      rfl
    · rw [bd1e (mhas_t (by omega) (by omega) e), if_neg n10, chk_pos (inb_nI (by omega) (by decide)), clN (by omega), h7 i (by omega), if_pos rfl]
      simp only [lets]
      rw [nI_add, nI_1, Nat.add_assoc]
  · show X9_carry_L261 N _ _ (_, _) = _
    rw [X9_carry_L261, l3, if_pos (nI_le (Nat.le_refl _) (by omega))]
theorem car_sum {m w s a b O : Nat} {d : Nat → Nat} (hd : Dm m w) (hs : s < 2 ^ m) (h : ∀ c, s.testBit c = true → okc m w a b c) (hw : DW m d) (hO : O = dif (dg d) s) (hn : ∀ c, s.testBit c = true → nbo m w (tgc w a b c) O) : sm (fun t => if (Pob m w a b s).testBit t then ad (d (t + (4 * w + 4) - (b * w + a))) (d t) else if s.testBit t then d t else 0) m = sumM w a b s d m + sm (fun c => if (dif s (Pob m w a b s)).testBit c then d c else 0) m := by
  have hle := hd.le
  have e1 : ∀ t, (if (Pob m w a b s).testBit t then ad (d (t + (4 * w + 4) - (b * w + a))) (d t) else if s.testBit t then d t else 0) = (if (Pob m w a b s).testBit t then ad (d (t + (4 * w + 4) - (b * w + a))) (d t) else 0) + (if (dif s (Pob m w a b s)).testBit t then d t else 0) := by
    intro t
    rw [dif_tb]
    cases (Pob m w a b s).testBit t <;> cases s.testBit t <;> simp
  rw [show (fun t => if (Pob m w a b s).testBit t then ad (d (t + (4 * w + 4) - (b * w + a))) (d t) else if s.testBit t then d t else 0) = fun t => (if (Pob m w a b s).testBit t then ad (d (t + (4 * w + 4) - (b * w + a))) (d t) else 0) + (if (dif s (Pob m w a b s)).testBit t then d t else 0) from funext e1, sm_add]
  congr 1
  have hob := ob_sum (P := s.testBit) (g := tgc w a b) (n := m) (b := m) (fun t => ad (d (t + (4 * w + 4) - (b * w + a))) (d t)) (fun c hc hb2 => by
    have := h c hb2
    unfold okc at this
    unfold tgc
    omega) (fun c c' hc hc' hb1 hb2 he => by
    have h1 := h c hb1
    have h2 := h c' hb2
    unfold okc at h1 h2
    unfold tgc at he
    omega)
  refine hob.trans ?_
  unfold sumM
  apply sm_congr
  intro c hc
  cases es : s.testBit c
  · rfl
  · rw [if_pos rfl, if_pos rfl]
    have ho := h c es
    have e2 : tgc w a b c + (4 * w + 4) - (b * w + a) = c := by
      unfold okc at ho
      unfold tgc
      omega
    have htm : tgc w a b c < m := by
      unfold okc at ho
      unfold tgc
      omega
    rw [e2]
    congr 1
    unfold wasN
    cases et : s.testBit (tgc w a b c)
    · rw [if_neg (by decide)]
      rcases Nat.eq_zero_or_pos (d (tgc w a b c)) with z | z
      · exact z
      · exfalso
        have hbO : O.testBit (tgc w a b c) = true := by
          rw [hO, dif_tb, et, dg_tb _ (by omega), decide_eq_true z]
          rfl
        have hp := and_p (a := 2 ^ tgc w a b c ||| bs (adj m w (tgc w a b c)) 16) (i := tgc w a b c) (by rw [Nat.testBit_or, tb_two, decide_eq_true rfl]; rfl) hbO
        have := hn c es
        unfold nbo at this
        omega
    · rw [if_pos rfl]
theorem op_carry {lw : Nat → Option Nat} (tl tt : Option Nat) {M N : Mem} {t : Nat} (ht : t ≤ 3100) (h : Rel t lw M N) (a1 : Int32) (a2 : Int32) (a3 : Int32) : ∃ (r : Int32) (N' : Mem), F_X8_carry M a1 a2 a3 = some r ∧ F_X9_carry N a1 a2 a3 = some (r, N') ∧ Rel (t + 1) lw M N' := by
  obtain ⟨m, w, gd, d, e, hd, hw, he, hl, hg, hm, -⟩ := h.core
  have hle := hd.le
  have hlc := hl.c
  obtain ⟨l1, l2, l3, l4, l5, l6, l7, l8, l9⟩ := hl
  obtain ⟨g1, g2, g3, g4, g5, g6, g7⟩ := hg
  have hT := dg_lt hd hw
  have hT16 := lt16 hd hT
  have hlen := HL_len hd hT
  obtain ⟨N', f1, f2, f3, f4, f5⟩ := layHoles_eq hd l3 l4 hw hm.1
  have hR := h.lay f4 f5
  rcases cut (HL m w (dg d)).length (by omega) a1 with z | ⟨j, hj, rfl⟩
  · have e1 : F_X9_isHole N a1 = some (0, N') := by rw [F_X9_isHole, bd1e f1, f2, bd1e (in_size (by omega) z), chk_pos (Or.inl rfl)]
    exact ⟨-1, N', by rw [F_X8_carry, bd1e (ghas_no g4 z), if_pos rfl], by rw [F_X9_carry, bd2e e1, if_pos rfl], hR.up⟩
  · have e1 : F_X9_isHole N (nI j) = some (1, N') := by rw [F_X9_isHole, bd1e f1, f2, bd1e (in_sizeI (by omega) hj), chk_pos (Or.inr rfl)]
    have hs := HL_lt hd hT hj
    have hs16 := lt16 hd hs
    obtain ⟨k, hk⟩ : ∃ c, ((HL m w (dg d)).getD j 0).testBit c = true := ((hl_inv hd hT m (Nat.le_refl _)).2.2.2.1 j hj).2.1
    have hb := bitsOf_in (p := 9) g4 hlen g5 hj
    have h11 := f3 j hj
    generalize (HL m w (dg d)).getD j 0 = s at hs hs16 hk hb h11
    have hkm := tb_m hs hk
    have hw2 : 2 ≤ w := by rcases hd with y | y <;> omega
    have hw0 : ¬ nI w = 0 := nI_ne0 (by omega) (by omega)
    have q0 : gI N' 0 11 = nI m := by rw [f4 0 11 (by decide) (by decide)]; exact l3
    have q1 : gI N' 0 10 = nI w := by rw [f4 0 10 (by decide) (by decide)]; exact l4
    have q7 : ∀ c, c < 16 → gI N' 7 c = nI (d c) := fun c hc => by rw [f4 7 _ (by decide) (by omega)]; exact hm.1 c hc
    have hdug : F_X9_dugIn N' 7 0 = some (nI (dg d)) := dugIn_eq (p := 7) (b := 0) (by decide) (by decide) (fun c hc => by rw [Nat.zero_add]; exact q7 c hc) hw.1
    have hM : F_X9_carry N (nI j) a2 a3 = (bd1 (F_X9_in a2 (-4) (nI 4)) fun r_14 => if r_14 = 0 then some ((-9), N') else bd1 (F_X9_in a3 (-4) (nI 4)) fun r_16 => if r_16 = 0 then some ((-9), N') else bd1 (loop (X9_carry_L76 N' a2 a3 (nI s) (nI (dif (dg d) s)) (nI (m / w))) FU (0, 0, 0)) (Sum.elim (un2 fun x_53 x_54 => loop (X9_carry_L261 N' (nI s) x_53) FU (x_54, 0)) (un2 fun r_66 r_67 => some (r_66, r_67)))) := by
      rw [F_X9_carry, bd2e e1, if_neg n10, chk_pos (inb_nI (by omega) (by decide)), clN (by omega), h11, lets, bd1e hdug, nx_dif, lets, q0, q1, chk_pos hw0, pk_div (by omega) (by omega) (by omega), lets]
    have hC : F_X8_carry M (nI j) a2 a3 = (bd1 (F_X2_canPush M (nI s) a2 a3) fun r_5 => if r_5 = 0 then some (-9) else lett ((a3 * (gI M 7 1)) + a2) fun x_7 => if x_7 < 0 then X8_carry_J72 M (nI s) x_7 (ius (nI s) (-x_7)) else X8_carry_J72 M (nI s) x_7 (ish (nI s) x_7)) := by
      rw [F_X8_carry, bd1e (ghas_in g4 (by omega) hj), if_neg n10, bd1e hb]
    rw [hC, hM]
    rcases cut9 a2 with ⟨a, ha, rfl⟩ | z
    · rcases cut9 a3 with ⟨b, hb9, rfl⟩ | z
      · rw [bd1e (in9 ha), if_neg n10, bd1e (in9 hb9), if_neg n10]
        have hO16 : dif (dg d) s < 2 ^ 16 := dif_lt hT16
        obtain ⟨r, c1, c2⟩ := carM (O := dif (dg d) s) hd q0 q1 q7 hw.1 hs hO16 ha hb9
        rw [bd1e c1]
        rcases canPush_eq hd l1 l2 hs ha hb9 hk with ⟨p1, p2⟩ | ⟨p1, p2⟩
        · have hby : (nI b - nI 4) * gI M 7 1 + (nI a - nI 4) = nI (b * w + a) - nI (4 * w + 4) := by
            rw [l2, dyw b hb9 w (by omega), i_re2, nI_add, nI_add]
          rw [bd1e p1, if_neg n10, hby, lets]
          have hpush := pushC hd hs ha hb9 p2
          have hP := Pob_lt p2
          have hP16 := lt16 hd hP
          have hJ : (if nI (b * w + a) - nI (4 * w + 4) < 0 then X8_carry_J72 M (nI s) (nI (b * w + a) - nI (4 * w + 4)) (ius (nI s) (-(nI (b * w + a) - nI (4 * w + 4)))) else X8_carry_J72 M (nI s) (nI (b * w + a) - nI (4 * w + 4)) (ish (nI s) (nI (b * w + a) - nI (4 * w + 4)))) = X8_carry_J72 M (nI s) (nI (b * w + a) - nI (4 * w + 4)) (nI (Pob m w a b s)) := by
            by_cases y : nI (b * w + a) - nI (4 * w + 4) < 0
            · rw [if_pos y] at hpush ⊢
              rw [hpush]
            · rw [if_neg y] at hpush ⊢
              rw [hpush]
          rw [hJ, X8_carry_J72, g2, nx_dif, lets, bd1e (spread_eq hd hlc hP), nx_and]
          have hlt : (Pob m w a b s ||| nbr m w (Pob m w a b s)) &&& dif (dg d) s < 2 ^ 16 := Nat.lt_of_le_of_lt Nat.and_le_right hO16
          have hsp := nbo_spread (O := dif (dg d) s) hd hs p2
          rcases c2 with ⟨c2, rfl⟩ | ⟨⟨c, c3, c4⟩, rfl⟩
          · have hn : ∀ c, s.testBit c = true → nbo m w (tgc w a b c) (dif (dg d) s) := fun c hc => (c2 c hc).2
            refine ⟨nI (sumM w a b s d m + sm (fun c => if (dif s (Pob m w a b s)).testBit c then d c else 0) m), N', ?_, ?_, hR.up⟩
            · rw [hsp.mpr hn, if_pos e00, carC hd l1 g1 hw.1 hs ha hb9 p2, car_sum hd hs p2 hw rfl hn]
            · rw [se_l, un2_e, carM2 hle.1 q0 q7 hs16]
          · refine ⟨-9, N', ?_, by rw [se_r, un2_e], hR.up⟩
            rw [if_neg (nI_ne0 (by
              rcases Nat.eq_zero_or_pos ((Pob m w a b s ||| nbr m w (Pob m w a b s)) &&& dif (dg d) s) with y | y
              · exact absurd ⟨p2 c c3, hsp.mp y c c3⟩ c4
              · exact y) (by omega))]
        · refine ⟨-9, N', by rw [bd1e p1, if_pos rfl], ?_, hR.up⟩
          rcases c2 with ⟨c2, rfl⟩ | ⟨_, rfl⟩
          · obtain ⟨c, p3, p4⟩ := p2
            exact absurd (c2 c p3).1 p4
          · rw [se_r, un2_e]
      · exact ⟨-9, N', by rw [bd1e (canPush_out (Or.inr (by omega))), if_pos rfl], by rw [bd1e (in9 ha), if_neg n10, bd1e (in9_no z), if_pos rfl], hR.up⟩
    · exact ⟨-9, N', by rw [bd1e (canPush_out (Or.inl (by omega))), if_pos rfl], by rw [bd1e (in9_no z), if_pos rfl], hR.up⟩
