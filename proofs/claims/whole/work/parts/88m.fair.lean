/-! ===== fair, mark ===== -/
theorem pc_or (a b : Nat) : pc (a ||| b) + pc (a &&& b) = pc a + pc b := by
  unfold pc
  rw [← sm_add, ← sm_add]
  apply sm_congr
  intro i _
  rw [Nat.testBit_or, Nat.testBit_and]
  cases a.testBit i <;> cases b.testBit i <;> rfl
theorem pc_0 {s : Nat} (hs : s < 2 ^ 16) (h : pc s = 0) : s = 0 := by
  rcases Nat.eq_zero_or_pos s with z | z
  · exact z
  · obtain ⟨k, h1, h2⟩ := ex_bit hs (by omega)
    have := pc_lt (s := 0) (t := s) (j := k) (fun i hi => by rw [Nat.zero_testBit] at hi; cases hi) h1 (Nat.zero_testBit _) h2
    omega
def uS (S : Nat → Nat) : Nat → Nat
  | 0 => 0
  | i + 1 => uS S i ||| S i
def aS (S : Nat → Nat) : Nat → Bool
  | 0 => true
  | i + 1 => aS S i && decide (pc (S i) = 1)
def dS (S : Nat → Nat) : Nat → Bool
  | 0 => true
  | i + 1 => dS S i && (decide (pc (S i) = 1) && decide (S i &&& uS S i = 0))
theorem uS_lt {S : Nat → Nat} {b : Nat} (h : ∀ i, S i < 2 ^ b) (n : Nat) : uS S n < 2 ^ b := by
  induction n with
  | zero => exact Nat.two_pow_pos b
  | succ n ih => exact or_lt' ih (h n)
theorem aS_iff (S : Nat → Nat) (n : Nat) : aS S n = true ↔ ∀ i, i < n → pc (S i) = 1 := by
  induction n with
  | zero => exact ⟨fun _ i hi => absurd hi (Nat.not_lt_zero _), fun _ => rfl⟩
  | succ n ih =>
    rw [aS, Bool.and_eq_true, ih, decide_eq_true_iff]
    constructor
    · rintro ⟨h1, h2⟩ i hi
      by_cases e : i = n
      · subst e; exact h2
      · exact h1 i (by omega)
    · intro h
      exact ⟨fun i hi => h i (by omega), h n (by omega)⟩
theorem dS_aS (S : Nat → Nat) (n : Nat) (h : dS S n = true) : aS S n = true := by
  induction n with
  | zero => rfl
  | succ n ih =>
    rw [dS, Bool.and_eq_true, Bool.and_eq_true] at h
    rw [aS, ih h.1, h.2.1]
    rfl
theorem dS_pc {S : Nat → Nat} (hS : ∀ i, S i < 2 ^ 8) (n : Nat) (h : aS S n = true) : pc (uS S n) ≤ n ∧ (dS S n = true ↔ pc (uS S n) = n) := by
  induction n with
  | zero => exact ⟨show pc 0 ≤ 0 by decide, fun _ => show pc 0 = 0 by decide, fun _ => rfl⟩
  | succ n ih =>
    rw [aS, Bool.and_eq_true, decide_eq_true_iff] at h
    obtain ⟨i1, i2⟩ := ih h.1
    have e := pc_or (uS S n) (S n)
    have hlt : S n &&& uS S n < 2 ^ 16 := and_lt_l (by have := hS n; omega)
    have hcomm : uS S n &&& S n = S n &&& uS S n := Nat.and_comm _ _
    rw [hcomm] at e
    rw [uS, dS, Bool.and_eq_true, Bool.and_eq_true, decide_eq_true_iff, decide_eq_true_iff, i2]
    refine ⟨by omega, ?_, ?_⟩
    · rintro ⟨h1, h2, h3⟩
      rw [h3] at e
      have : pc 0 = 0 := by decide
      omega
    · intro h1
      exact ⟨by omega, h.2, pc_0 hlt (by omega)⟩
theorem pc_full : ∀ L, L < 9 → pc (2 ^ L - 1) = L := by decide
theorem fair_same {S : Nat → Nat} (hS : ∀ i, S i < 2 ^ 8) {L1 L2 : Nat} (h2 : L2 ≤ 8) : (dS S L1 && decide (uS S L1 = 2 ^ L2 - 1)) = (decide (L1 = L2) && (aS S L1 && decide (uS S L1 = 2 ^ L2 - 1))) := by
  by_cases e : uS S L1 = 2 ^ L2 - 1
  · rw [decide_eq_true e, Bool.and_true, Bool.and_true]
    have hp := pc_full L2 (by omega)
    rw [← e] at hp
    rw [Bool.eq_iff_iff, Bool.and_eq_true, decide_eq_true_iff]
    constructor
    · intro h
      have ha := dS_aS S L1 h
      have := ((dS_pc hS L1 ha).2).mp h
      exact ⟨by omega, ha⟩
    · rintro ⟨h1, ha⟩
      exact ((dS_pc hS L1 ha).2).mpr (by omega)
  · rw [decide_eq_false e, Bool.and_false, Bool.and_false, Bool.and_false]
def fB (m w K : Nat) (d d0 : Nat → Nat) : Bool := dS (SS m w K d d0) (HL m w (dg d)).length && decide (uS (SS m w K d d0) (HL m w (dg d)).length = 2 ^ (HL m w (dg d0)).length - 1)
theorem p28 {L : Nat} (h : L ≤ 8) : 2 ^ L ≤ 2 ^ 8 := Nat.pow_le_pow_right (by decide) h
theorem isFairC {M : Mem} {m w K p q : Nat} {d d' : Nat → Nat} {e e' : Nat} {th th' : Int32} (hd : Dm m w) (hl : LandC M m w) (hK : K < 6) (h0 : gI M (55 + K) 0 = nI K) (hw : DW m d) (hw' : DW m d') (hg : GrC M p m w d e th) (hg' : GrC M q m w d' e' th') : F_X3_isFair M (55 + K) p q = some (nI (b01 (fB m w K d d'))) := by
  have n1 := HL_len hd (dg_lt hd hw)
  have n2 := HL_len hd (dg_lt hd hw')
  have hS := SS_lt (K := K) (d := d) hd hw'
  have pp := p28 n2
  have pp0 := Nat.two_pow_pos (HL m w (dg d')).length
  have hu := uS_lt hS (HL m w (dg d)).length
  unfold fB
  rw [fair_same hS n2, F_X3_isFair, hg.2.2.2.1, hg'.2.2.2.1]
  by_cases eL : (HL m w (dg d)).length = (HL m w (dg d')).length
  · rw [if_pos (by rw [eL]), decide_eq_true eL, Bool.true_and]
    obtain ⟨r, e1, e2⟩ := loop_inv (f := X3_isFair_L18 M (55 + K) p q) (fun i st => st = (nI (uS (SS m w K d d') i), nI i) ∧ aS (SS m w K d d') i = true) (fun r => (aS (SS m w K d d') (HL m w (dg d)).length = true ∧ r = .inl (nI (uS (SS m w K d d') (HL m w (dg d)).length))) ∨ (aS (SS m w K d d') (HL m w (dg d)).length = false ∧ r = .inr 0)) (HL m w (dg d)).length (fun i st hi hst => by
      obtain ⟨e1, e2⟩ := hst
      subst e1
      rw [X3_isFair_L18, hg.2.2.2.1]
      by_cases ei : i = (HL m w (dg d)).length
      · rw [if_pos (by rw [ei]; exact Int32.le_refl _)]
        rw [ei] at e2 ⊢
        exact Or.inr ⟨_, rfl, Or.inl ⟨e2, rfl⟩⟩
      · have hs := hS i
        have hpl := pc_le (SS m w K d d' i)
        rw [if_neg (nI_nleN (by omega) (by omega)), bd1e (allM_eq hd hl hK h0 hw hw' hg hg' (by omega)), bd1e (cbits (by omega))]
        by_cases y : pc (SS m w K d d' i) = 1
        · rw [if_pos (show nI (pc (SS m w K d d' i)) = 1 by rw [y]; rfl), nx_or]
          simp only [lets]
          rw [nI_1]
          exact Or.inl ⟨by omega, _, rfl, rfl, by rw [aS, e2, decide_eq_true y]; rfl⟩
        · rw [if_neg (show ¬ nI (pc (SS m w K d d' i)) = 1 from fun z => y ((nI_eq (b := 1) (by omega) (by decide)).mp z))]
          refine Or.inr ⟨_, rfl, Or.inr ⟨?_, rfl⟩⟩
          cases ea : aS (SS m w K d d') (HL m w (dg d)).length
          · rfl
          · exact absurd ((aS_iff _ _).mp ea i (by omega)) y) (k := FU) (by show _ < 200000; omega) (s := (0, 0)) ⟨rfl, rfl⟩
    rw [bd1e e1]
    rcases e2 with ⟨e2, rfl⟩ | ⟨e2, rfl⟩
    · rw [e2, Bool.true_and]
      show (if nI (uS (SS m w K d d') (HL m w (dg d)).length) = ish 1 (nI (HL m w (dg d')).length) - 1 then some (1 : Int32) else some 0) = _
      rw [nx_one (by omega), show (1 : Int32) = nI 1 from rfl, nI_subN (by omega)]
      exact nIf (by omega) (by omega)
    · rw [e2]
      rfl
  · rw [if_neg (fun y => eL ((nI_eq (by omega) (by omega)).mp y)), decide_eq_false eL]
    rfl
theorem isFairM {N : Mem} {m w K k l : Nat} {d d0 : Nat → Nat} (hd : Dm m w) (h : LaidM N m w k d d0) (hk : k < 3) (hl : l < 6) (h9 : gI N 9 l = nI K) (hK : K < 6) (hw : DW m d) (hw0 : DW m d0) : F_X9_isFair N (nI l) (nI k) = some (nI (b01 (fB m w K d d0))) := by
  have n1 := HL_len hd (dg_lt hd hw)
  have n2 := HL_len hd (dg_lt hd hw0)
  have hS := SS_lt (K := K) (d := d) hd hw0
  have pp := p28 n2
  have pp0 := Nat.two_pow_pos (HL m w (dg d0)).length
  have p25 := h.2.2.2.2.1
  have p23 := h.2.2.2.2.2.2.1
  have hu := uS_lt hS (HL m w (dg d)).length
  have hL : loop (X9_isFair_L8 N (nI l) (nI k)) FU (1, 0, 0) = some (nI (b01 (dS (SS m w K d d0) (HL m w (dg d)).length)), nI (uS (SS m w K d d0) (HL m w (dg d)).length)) := by
    refine loop_fn' (fun i => (nI (b01 (dS (SS m w K d d0) i)), nI (uS (SS m w K d d0) i), nI i)) (HL m w (dg d)).length rfl (fun i hi => ?_) ?_ (by show _ < 200000; omega)
    · show X9_isFair_L8 N _ _ (_, _, _) = _
      have hs := hS i
      have hui := uS_lt hS i
      have hpl := pc_le (SS m w K d d0 i)
      have hlt : SS m w K d d0 i &&& uS (SS m w K d d0) i < 2 ^ 8 := and_lt_l hs
      rw [X9_isFair_L8, p25, if_neg (nI_nleN hi (by omega)), bd1e (sameSet_eq hd h hk hl h9 hK hw hw0 hi), dS, uS, nx_or]
      cases dS (SS m w K d d0) i
      · rw [if_pos n0f]
        simp only [lets]
        rw [nI_1]
        rfl
      · rw [if_neg n0t, bd1e (msize (by omega)), Bool.true_and]
        by_cases y : pc (SS m w K d d0 i) = 1
        · rw [if_pos (show nI (pc (SS m w K d d0 i)) = 1 by rw [y]; rfl), decide_eq_true y, Bool.true_and, nx_and]
          by_cases y2 : SS m w K d d0 i &&& uS (SS m w K d d0) i = 0
          · rw [if_pos (show nI _ = 0 by rw [y2]; rfl), decide_eq_true y2]
            simp only [lets]
            rw [nI_1]
            rfl
          · rw [if_neg (nI_ne0 (by omega) (by omega)), decide_eq_false y2]
            simp only [lets]
            rw [nI_1]
            rfl
        · rw [if_neg (show ¬ nI (pc (SS m w K d d0 i)) = 1 from fun z => y ((nI_eq (b := 1) (by omega) (by decide)).mp z)), decide_eq_false y]
          simp only [lets]
          rw [nI_1]
          rfl
    · show X9_isFair_L8 N _ _ (_, _, _) = _
      rw [X9_isFair_L8, p25, if_pos (nI_le (Nat.le_refl _) (by omega))]
  rw [F_X9_isFair, bd2e hL, p23]
  unfold fB
  cases dS (SS m w K d d0) (HL m w (dg d)).length
  · rw [if_pos n0f]
    rfl
  · rw [if_neg n0t, Bool.true_and, nx_one (by omega), show (1 : Int32) = nI 1 from rfl, nI_subN (by omega)]
    exact nIf (by omega) (by omega)
theorem op_fair {lw : Nat → Option Nat} (tl tt : Option Nat) {M N : Mem} {t : Nat} (ht : t ≤ 3100) (h : Rel t lw M N) (a1 : Int32) : ∃ (r : Int32) (M' : Mem) (N' : Mem), F_X8_fair lw M a1 = some (r, M') ∧ F_X9_fair N a1 = some (r, N') ∧ Rel (t + 1) lw M' N' := by
  obtain ⟨h0, q, K, h1, h2, h3, h4⟩ := h.laws
  rcases cut 3 (by decide) a1 with z | ⟨k, hk, rfl⟩
  · exact ⟨-1, M, N, by rw [F_X8_fair, bd1e (imageOf_no z), oc_n], by rw [F_X9_fair, bd1e (isImage_no z), if_pos rfl, X9_fair_J16, if_neg (by decide)], h.up⟩
  · obtain ⟨o1, o2⟩ := imageOf_in hk
    rcases img_go h hk with ⟨z1, z2⟩ | ⟨z1, m, w, gd, d, d0, e, e0, th, N', hd, hw, hw0, hla, hg, hg0, c1, hL, hR, c6⟩
    · exact ⟨-3, fndC M 1, fndM N 1, by rw [F_X8_fair, bd1e o1, oc_s, chk_pos o2, z1, if_pos rfl, bd2e found1], by rw [F_X9_fair, bd1e (isImage_in hk), if_neg n10, bd2e z2, X9_fair_J16, if_neg (by decide)], h.found (by decide)⟩
    · have p12 : gI N' 0 12 = nI q := by rw [c6 0 12 (by decide) (by decide) (by omega)]; exact h3
      have hCL : loop (X8_fair_L30 lw M (46 + 3 * k)) FU (0, 0) = some (nI (bs (fun l => fB m w (K l) d d0) q), M) := by
        refine loop_fn' (fun i => (nI (bs (fun l => fB m w (K l) d d0) i), nI i)) q rfl (fun l hl => ?_) ?_ (by show q < 200000; omega)
        · show X8_fair_L30 lw M _ (_, _) = _
          obtain ⟨k1, k2, k3⟩ := h4 l hl
          rw [X8_fair_L30, h2, if_neg (nI_nleN hl (by omega)), bd1e (lawOf_in h2 h1 hl), k2, oc_s, chk_pos (isX3_law _ k1), bd1e (isFairC hd hla.c k1 (h0 _ k1) hw hw0 hg hg0), bs]
          cases fB m w (K l) d d0
          · rw [if_pos n0f, lets, nI_1, if_neg (by decide), Nat.or_zero]
          · rw [if_neg n0t, nx_one (by omega), nx_or, if_pos rfl]
            simp only [lets]
            rw [nI_1]
        · show X8_fair_L30 lw M _ (_, _) = _
          rw [X8_fair_L30, h2, if_pos (nI_le (Nat.le_refl _) (by omega))]
      have hML : loop (X9_fair_L28 N' (nI k)) FU (0, 0) = some (nI (bs (fun l => fB m w (K l) d d0) q), N') := by
        refine loop_fn' (fun i => (nI (bs (fun l => fB m w (K l) d d0) i), nI i)) q rfl (fun l hl => ?_) ?_ (by show q < 200000; omega)
        · show X9_fair_L28 N' _ (_, _) = _
          obtain ⟨k1, k2, k3⟩ := h4 l hl
          have k3' : gI N' 9 l = nI (K l) := by rw [c6 9 l (by decide) (by decide) (by omega)]; exact k3
          rw [X9_fair_L28, p12, if_neg (nI_nleN hl (by omega)), bd1e (isFairM hd hL hk (by omega) k3' k1 hw hw0), bs]
          cases fB m w (K l) d d0
          · rw [if_pos n0f, nx_or0, if_neg (by decide), Nat.or_zero]
            simp only [lets]
            rw [nI_1]
          · rw [if_neg n0t, nx_one (by omega), nx_or, if_pos rfl]
            simp only [lets]
            rw [nI_1]
        · show X9_fair_L28 N' _ (_, _) = _
          rw [X9_fair_L28, p12, if_pos (nI_le (Nat.le_refl _) (by omega))]
      exact ⟨_, M, N', by rw [F_X8_fair, bd1e o1, oc_s, chk_pos o2, z1, if_neg n10, hCL], by rw [F_X9_fair, bd1e (isImage_in hk), if_neg n10, bd2e c1, X9_fair_J16, if_pos (by decide), hML], hR.up⟩
/- mark -/
def mxP (f : Nat → Nat) : Nat → Nat
  | 0 => 0
  | i + 1 => max (mxP f i) (f i)
theorem mxP_le {f : Nat → Nat} {n b : Nat} : mxP f n ≤ b ↔ ∀ i, i < n → f i ≤ b := by
  induction n with
  | zero => exact ⟨fun _ i hi => absurd hi (Nat.not_lt_zero _), fun _ => Nat.zero_le _⟩
  | succ n ih =>
    rw [mxP, Nat.max_le, ih]
    constructor
    · rintro ⟨h1, h2⟩ i hi
      by_cases e : i = n
      · subst e; exact h2
      · exact h1 i (by omega)
    · intro h
      exact ⟨fun i hi => h i (by omega), h n (by omega)⟩
theorem botN_iff {d : Nat → Nat} {s n b : Nat} : botN d s n ≤ b ↔ ∀ c, c < n → s.testBit c = true → d c ≤ b := by
  induction n with
  | zero => exact ⟨fun _ i hi => absurd hi (Nat.not_lt_zero _), fun _ => Nat.zero_le _⟩
  | succ n ih =>
    rw [botN]
    cases e : s.testBit n
    · rw [if_neg (by decide), ih]
      constructor
      · intro h c hc hb
        by_cases ec : c = n
        · subst ec; rw [e] at hb; cases hb
        · exact h c (by omega) hb
      · intro h c hc hb
        exact h c (by omega) hb
    · rw [if_pos rfl, Nat.max_le, ih]
      constructor
      · rintro ⟨h1, h2⟩ c hc hb
        by_cases ec : c = n
        · subst ec; exact h2
        · exact h1 c (by omega) hb
      · intro h
        exact ⟨fun c hc hb => h c (by omega) hb, h n (by omega) e⟩
theorem bot_part {m w T : Nat} {d : Nat → Nat} (hd : Dm m w) (hT : T < 2 ^ m) : mxP (fun i => botN d ((HL m w T).getD i 0) 16) (HL m w T).length = botN d T 16 := by
  have hle := hd.le
  apply Nat.le_antisymm
  · rw [mxP_le]
    intro i hi
    rw [botN_iff]
    intro c hc hb
    exact (botN_iff (n := 16)).mp (Nat.le_refl _) c hc (HL_sub hd hT hi hb)
  · rw [botN_iff]
    intro c hc hb
    obtain ⟨i, hi, hb2⟩ := HL_cov hd hT hb
    have h1 := (botN_iff (d := d) (s := (HL m w T).getD i 0) (n := 16)).mp (Nat.le_refl _) c hc hb2
    have h2 := (mxP_le (f := fun i => botN d ((HL m w T).getD i 0) 16) (n := (HL m w T).length)).mp (Nat.le_refl _) i hi
    exact Nat.le_trans h1 h2
theorem sm_swap (f : Nat → Nat → Nat) (n L : Nat) : sm (fun i => sm (fun c => f i c) n) L = sm (fun c => sm (fun i => f i c) L) n := by
  induction L with
  | zero => exact (sm_zero (fun i _ => rfl)).symm
  | succ L ih =>
    rw [sm, ih, ← sm_add]
    rfl
theorem sm_one {f : Nat → Nat} {n i0 v : Nat} (h : i0 < n) (h1 : f i0 = v) (h2 : ∀ i, i < n → i ≠ i0 → f i = 0) : sm f n = v := by
  induction n with
  | zero => omega
  | succ n ih =>
    rw [sm]
    by_cases e : i0 = n
    · subst e
      rw [sm_zero (fun i hi => h2 i (by omega) (by omega)), h1]
      omega
    · rw [ih (by omega) (fun i hi hne => h2 i (by omega) hne), h2 n (by omega) (fun z => e z.symm)]
      omega
theorem vol_part {m w T : Nat} {d : Nat → Nat} (hd : Dm m w) (hT : T < 2 ^ m) : sm (fun i => volN d ((HL m w T).getD i 0) 16) (HL m w T).length = volN d T 16 := by
  unfold volN
  rw [sm_swap]
  apply sm_congr
  intro c hc
  cases e : T.testBit c
  · rw [if_neg (by decide)]
    apply sm_zero
    intro i hi
    cases e2 : ((HL m w T).getD i 0).testBit c
    · rfl
    · rw [HL_sub hd hT hi e2] at e; cases e
  · obtain ⟨i, hi, hb⟩ := HL_cov hd hT e
    refine sm_one hi (by rw [hb]) (fun j hj hne => ?_)
    cases e2 : ((HL m w T).getD j 0).testBit c
    · rfl
    · exact absurd (HL_dis hd hT hj hi e2 hb) hne
def pT (P : Nat → Nat → Bool) (L : Nat) : Nat → Nat
  | 0 => 0
  | i + 1 => pT P L i + sm (fun s => b01 (P i (i + 1 + s))) (L - (i + 1))
theorem pairsC {M : Mem} {m w K p q : Nat} {d : Nat → Nat} {e : Nat} {th : Int32} (hd : Dm m w) (hl : LandC M m w) (hw : DW m d) (hg : GrC M p m w d e th) (hq : q ≤ 3) : F_X3_alikePairs M (55 + K) p (nI q) = some (nI (pT (fun i j => alk m w q ((HL m w (dg d)).getD i 0) ((HL m w (dg d)).getD j 0)) (HL m w (dg d)).length (HL m w (dg d)).length)) := by
  have hT := dg_lt hd hw
  have n1 := HL_len hd hT
  have g4 := hg.2.2.2.1
  have g5 := hg.2.2.2.2.1
  have hlt := fun i hi => HL_lt (i := i) hd hT hi
  generalize HL m w (dg d) = H at n1 g4 g5 hlt
  unfold F_X3_alikePairs
  refine loop_fn' (fun i => (nI (pT (fun i j => alk m w q (H.getD i 0) (H.getD j 0)) H.length i), nI i)) H.length rfl (fun i hi => ?_) ?_ (by show _ < 200000; omega)
  · show X3_alikePairs_L5 M _ _ _ (_, _) = _
    have hin : loop (X3_alikePairs_L20 M (55 + K) p (nI q) (nI i)) FU (nI (pT (fun i j => alk m w q (H.getD i 0) (H.getD j 0)) H.length i), nI (i + 1)) = some (nI (pT (fun i j => alk m w q (H.getD i 0) (H.getD j 0)) H.length (i + 1))) := by
      refine loop_fn' (fun s => (nI (pT (fun i j => alk m w q (H.getD i 0) (H.getD j 0)) H.length i + sm (fun s => b01 (alk m w q (H.getD i 0) (H.getD (i + 1 + s) 0))) s), nI (i + 1 + s))) (H.length - (i + 1)) rfl (fun s hs => ?_) ?_ (by show _ < 200000; omega)
      · show X3_alikePairs_L20 M _ _ _ _ (_, _) = _
        rw [X3_alikePairs_L20, g4, if_neg (nI_nleN (by omega) (by omega)), bd1e (bitsOf_in g4 n1 g5 hi), bd1e (bitsOf_in g4 n1 g5 (show i + 1 + s < H.length by omega)), bd1e (areAlike_eq hd hl.2.1 (hlt _ hi) (hlt _ (by omega)) hq), sm]
        cases alk m w q (H.getD i 0) (H.getD (i + 1 + s) 0)
        · rw [if_pos n0f, lets, nI_1]
          rfl
        · rw [if_neg n0t]
          simp only [lets]
          rw [nI_1, nI_1]
          rfl
      · show X3_alikePairs_L20 M _ _ _ _ (_, _) = _
        rw [X3_alikePairs_L20, g4, if_pos (nI_le (by omega) (by omega))]
        rfl
    rw [X3_alikePairs_L5, g4, if_neg (nI_nleN hi (by omega)), nI_1, lets, bd1e hin, lets]
  · show X3_alikePairs_L5 M _ _ _ (_, _) = _
    rw [X3_alikePairs_L5, g4, if_pos (nI_le (Nat.le_refl _) (by omega))]
theorem pairsM {N : Mem} {m w K : Nat} {d : Nat → Nat} (hd : Dm m w) (h0 : gI N 0 11 = nI m) (h1 : gI N 0 10 = nI w) (hK : K < 6) (hw : DW m d) (h7 : ∀ c, c < 16 → gI N 7 c = nI (d c)) (h23 : gI N 0 23 = nI (HL m w (dg d)).length) (h11 : HolesIn N 11 (HL m w (dg d))) : F_X9_pairsBy N (nI K) = some (nI (pT (fun i j => smB m w K d d ((HL m w (dg d)).getD i 0) ((HL m w (dg d)).getD j 0)) (HL m w (dg d)).length (HL m w (dg d)).length)) := by
  have hT := dg_lt hd hw
  have n1 := HL_len hd hT
  have hlt := fun i hi => HL_lt (i := i) hd hT hi
  have hsm : ∀ a b, a < 2 ^ m → b < 2 ^ m → F_X9_areSame N (nI K) 7 0 (nI a) (nI b) = some (nI (b01 (smB m w K d d a b))) := fun a b ha hb => areSame_eq (p := 7) (b0 := 0) hd h0 h1 hK hw hw (by decide) (by decide) (fun c hc => by rw [Nat.zero_add]; exact h7 c hc) h7 ha hb
  generalize HL m w (dg d) = H at n1 h23 h11 hlt
  unfold F_X9_pairsBy
  refine loop_fn' (fun i => (nI (pT (fun i j => smB m w K d d (H.getD i 0) (H.getD j 0)) H.length i), nI i)) H.length rfl (fun i hi => ?_) ?_ (by show _ < 200000; omega)
  · show X9_pairsBy_L4 N _ (_, _) = _
    have hin : loop (X9_pairsBy_L17 N (nI K) (nI i)) FU (nI (pT (fun i j => smB m w K d d (H.getD i 0) (H.getD j 0)) H.length i), nI (i + 1)) = some (nI (pT (fun i j => smB m w K d d (H.getD i 0) (H.getD j 0)) H.length (i + 1))) := by
      refine loop_fn' (fun s => (nI (pT (fun i j => smB m w K d d (H.getD i 0) (H.getD j 0)) H.length i + sm (fun s => b01 (smB m w K d d (H.getD i 0) (H.getD (i + 1 + s) 0))) s), nI (i + 1 + s))) (H.length - (i + 1)) rfl (fun s hs => ?_) ?_ (by show _ < 200000; omega)
      · show X9_pairsBy_L17 N _ _ (_, _) = _
        rw [X9_pairsBy_L17, h23, if_neg (nI_nleN (by omega) (by omega)), chk_pos (inb_nI (by omega) (by decide)), chk_pos (inb_nI (by omega) (by decide)), clN (by omega), clN (by omega), h11 i hi, h11 _ (show i + 1 + s < H.length by omega), bd1e (hsm _ _ (hlt _ hi) (hlt _ (by omega))), sm]
        cases smB m w K d d (H.getD i 0) (H.getD (i + 1 + s) 0)
        · rw [if_pos n0f]
          simp only [lets]
          rw [nI_add0, nI_1]
          rfl
        · rw [if_neg n0t]
          simp only [lets]
          rw [nI_1, nI_1]
          rfl
      · show X9_pairsBy_L17 N _ _ (_, _) = _
        rw [X9_pairsBy_L17, h23, if_pos (nI_le (by omega) (by omega))]
        rfl
    rw [X9_pairsBy_L4, h23, if_neg (nI_nleN hi (by omega)), nI_1, lets, bd1e hin, lets]
  · show X9_pairsBy_L4 N _ (_, _) = _
    rw [X9_pairsBy_L4, h23, if_pos (nI_le (Nat.le_refl _) (by omega))]
theorem mxP_b {f : Nat → Nat} {b : Nat} (h : ∀ i, f i ≤ b) (n : Nat) : mxP f n ≤ b := mxP_le.mpr (fun i _ => h i)
theorem op_mark {lw : Nat → Option Nat} (tl tt : Option Nat) {M N : Mem} {t : Nat} (ht : t ≤ 3100) (h : Rel t lw M N) (a1 : Int32) (a2 : Int32) : ∃ (r : Int32) (M' : Mem) (N' : Mem), F_X8_mark lw M a1 a2 = some (r, M') ∧ F_X9_mark N a1 a2 = some (r, N') ∧ Rel (t + 1) lw M' N' := by
  obtain ⟨h0, q, K, h1, h2, h3, h4⟩ := h.laws
  rcases cut q (by omega) a1 with z | ⟨l, hl, rfl⟩
  · exact ⟨-1, M, N, by rw [F_X8_mark, bd1e (lawOf_no h2 z), oc_n], by rw [F_X9_mark, bd1e (isLaw_no h3 h1 z), if_pos rfl], h.up⟩
  · obtain ⟨k1, k2, k3⟩ := h4 l hl
    have cl := lawOf_in (lw := lw) h2 h1 hl
    have ml := isLaw_in h3 h1 hl
    have hbad : (a2 ≤ 0 ∨ (¬ a2 ≤ 0 ∧ ¬ a2 < nI 6)) → (a2 < 1 ∨ nI 5 < a2) → ∃ (r : Int32) (M' : Mem) (N' : Mem), F_X8_mark lw M (nI l) a2 = some (r, M') ∧ F_X9_mark N (nI l) a2 = some (r, N') ∧ Rel (t + 1) lw M' N' := by
      intro y1 y2
      refine ⟨-1, M, N, ?_, by rw [F_X9_mark, bd1e ml, if_neg n10, bd1e (in_no y2), if_pos rfl], h.up⟩
      rw [F_X8_mark, bd1e cl, k2, oc_s]
      rcases y1 with y | ⟨y, y'⟩
      · rw [if_pos y]
      · rw [if_neg y, if_neg y']
    rcases cut 6 (by decide) a2 with z | ⟨x, hx, rfl⟩
    · rcases z with z | z
      · refine hbad (Or.inl ?_) (Or.inl ?_)
        · exact Int32.le_of_lt z
        · rw [Int32.lt_iff_toInt_lt, Int32.toInt_zero] at z
          rw [Int32.lt_iff_toInt_lt, show (1 : Int32) = nI 1 from rfl, nI_toInt (by decide)]
          omega
      · refine hbad (Or.inr ⟨?_, not_lt_of z (by decide)⟩) (Or.inr (lt_of_le z (by decide)))
        intro y
        rw [Int32.le_iff_toInt_le, nI_toInt (by decide)] at z
        rw [Int32.le_iff_toInt_le, Int32.toInt_zero] at y
        omega
    · by_cases x0 : x = 0
      · subst x0
        exact hbad (Or.inl (by decide)) (Or.inl (by decide))
      · have ci : F_X3_is M (55 + K l) (nI x) = some (nI (b01 (isa (K l) x))) := law_is (h0 _ k1) k1 hx
        have mi := isA_eq (N := N) (j := l) (by omega) k3 k1 hx (by omega)
        have hin : F_X9_in (nI x) 1 (nI 5) = some 1 := in_yes (nI_nlt (b := 1) (by omega) (by omega)) (nI_nlt (by omega) (by decide))
        have hC : F_X8_mark lw M (nI l) (nI x) = (if nI (b01 (isa (K l) x)) = 0 then bd2 (F_X8_found M (nI 3)) fun r_7 M_8 => some (r_7, M_8) else bd1 (F_X3_tells M (55 + K l) (nI x) 9) fun r_10 => some (r_10, M)) := by
          rw [F_X8_mark, bd1e cl, k2, oc_s, if_neg (nI_nle (by omega) (by omega)), if_pos (nI_lt hx (by decide)), chk_pos (isX3_law _ k1), bd1e ci]
        have hM : F_X9_mark N (nI l) (nI x) = (if nI (b01 (isa (K l) x)) = 0 then bd2 (F_X9_meet N (nI 3)) fun r_7 M_8 => some (r_7, M_8) else bd2 (F_X9_marked N (nI l) (nI x)) fun r_10 M_11 => some (r_10, M_11)) := by
          rw [F_X9_mark, bd1e ml, if_neg n10, bd1e hin, if_neg n10, bd1e mi]
        rw [hC, hM]
        cases ea : isa (K l) x
        · exact ⟨-3, fndC M 3, fndM N 3, by rw [if_pos n0f, bd2e (foundk 3 (by decide) (by decide))], by rw [if_pos n0f, bd2e (meetk 3 (by decide) (by decide))], h.found (by decide)⟩
        · rw [if_neg n0t, if_neg n0t]
          obtain ⟨m, w, gd, d, e, hd, hw, he, hla, hg, hm, -⟩ := h.core
          have hle := hd.le
          have hlc := hla.c
          obtain ⟨l1, l2, l3, l4, l5, l6, l7, l8, l9⟩ := hla
          have hT := dg_lt hd hw
          have hT16 := lt16 hd hT
          have hlen := HL_len hd hT
          obtain ⟨N', f1, f2, f3, f4, f5⟩ := layHoles_eq hd l3 l4 hw hm.1
          have hR := h.lay f4 f5
          have q0 : gI N' 0 11 = nI m := by rw [f4 0 11 (by decide) (by decide)]; exact l3
          have q1 : gI N' 0 10 = nI w := by rw [f4 0 10 (by decide) (by decide)]; exact l4
          have q7 : ∀ c, c < 16 → gI N' 7 c = nI (d c) := fun c hc => by rw [f4 7 _ (by decide) (by omega)]; exact hm.1 c hc
          have q9 : gI N' 9 l = nI (K l) := by rw [f4 9 _ (by decide) (by omega)]; exact k3
          have q7' : ∀ c, c < 16 → gI N' 7 (0 + c) = nI (d c) := fun c hc => by rw [Nat.zero_add]; exact q7 c hc
          have pm := fun k hk => pairsM (K := k) hd q0 q1 hk hw q7 f2 f3
          have pcc := fun qq hq => pairsC (K := K l) (q := qq) hd hlc hw hg hq
          have vp := vol_part (d := d) hd hT
          have bp := bot_part (d := d) hd hT
          have hlt := fun i hi => HL_lt (i := i) hd hT hi
          obtain ⟨g1, g2, g3, g4, g5, g6, g7⟩ := hg
          have hLm : loop (X9_marked_L15 N' (nI l) (nI x)) FU (0, 0, 0, 0) = some (nI (mxP (fun i => pc ((HL m w (dg d)).getD i 0)) (HL m w (dg d)).length), nI (sm (fun i => volN d ((HL m w (dg d)).getD i 0) 16) (HL m w (dg d)).length), nI (mxP (fun i => botN d ((HL m w (dg d)).getD i 0) 16) (HL m w (dg d)).length)) := by
            refine loop_fn' (fun j => (nI (mxP (fun i => pc ((HL m w (dg d)).getD i 0)) j), nI (sm (fun i => volN d ((HL m w (dg d)).getD i 0) 16) j), nI (mxP (fun i => botN d ((HL m w (dg d)).getD i 0) 16) j), nI j)) (HL m w (dg d)).length rfl (fun j hj => ?_) ?_ (by show _ < 200000; omega)
            · show X9_marked_L15 N' _ _ (_, _, _, _) = _
              have hs := hlt j hj
              have hs16 := lt16 hd hs
              have b1 := mxP_b (f := fun i => pc ((HL m w (dg d)).getD i 0)) (b := 16) (fun i => pc_le _) j
              have b2 := pc_le ((HL m w (dg d)).getD j 0)
              have b3 := mxP_b (f := fun i => botN d ((HL m w (dg d)).getD i 0) 16) (b := 5) (fun i => botN_le hw.1 16) j
              have b4 := botN_le (d := d) (s := (HL m w (dg d)).getD j 0) hw.1 16
              have mv : F_X9_volume N' 7 0 (nI ((HL m w (dg d)).getD j 0)) = _ := mvol_eq (b := 0) hle.1 q0 (by decide) (by decide) q7' hs
              have mb : F_X9_bottom N' 7 0 (nI ((HL m w (dg d)).getD j 0)) = _ := mbot_eq (b := 0) hle.1 q0 (by decide) (by decide) q7' hw.1 hs
              rw [X9_marked_L15, f2, if_neg (nI_nleN hj (by omega)), chk_pos (inb_nI (by omega) (by decide)), clN (by omega), f3 j hj, bd1e (msize hs16), bd1e (max_nI (by omega) (by omega)), chk_pos (inb_nI (by omega) (by decide)), bd1e mv, nI_add, lets, chk_pos (inb_nI (by omega) (by decide)), bd1e mb, bd1e (max_nI (by omega) (by omega)), lets, nI_1]
              rfl
            · show X9_marked_L15 N' _ _ (_, _, _, _) = _
              rw [X9_marked_L15, f2, if_pos (nI_le (Nat.le_refl _) (by omega))]
          have hMk : ∀ y, (bd3 (loop (X9_marked_L15 N' (nI l) (nI x)) FU (0, 0, 0, 0)) fun x_20 x_21 x_22 => if nI x = 1 then some (x_20, N') else if nI x = (nI 2) then chk (inb (nI l) 6 = true) (bd1 (F_X9_pairsBy N' (gI N' 9 (nI l).toNatClampNeg)) fun r_24 => some (r_24, N')) else if nI x = (nI 3) then some (x_21, N') else if nI x = (nI 4) then bd1 (F_X9_pairsBy N' (nI 4)) fun r_26 => bd1 (F_X9_pairsBy N' (nI 2)) fun r_28 => some (r_26 - r_28, N') else some (x_22, N')) = some (y, N') → (bd2 (F_X9_marked N (nI l) (nI x)) fun r_10 M_11 => some (r_10, M_11)) = some (y, N') := fun y hy => by
            rw [bd2e (show F_X9_marked N (nI l) (nI x) = some (y, N') by rw [F_X9_marked, bd1e f1, hy])]
          have hCk : ∀ y, F_X3_tells M (55 + K l) (nI x) 9 = some y → (bd1 (F_X3_tells M (55 + K l) (nI x) 9) fun r_10 => some (r_10, M)) = some (y, M) := fun y hy => bd1e hy
          rw [bd3e hLm] at hMk
          have hx' : x = 1 ∨ x = 2 ∨ x = 3 ∨ x = 4 ∨ x = 5 := by omega
          rcases hx' with rfl | rfl | rfl | rfl | rfl
          · refine ⟨_, M, N', hCk (nI (mxP (fun i => pc ((HL m w (dg d)).getD i 0)) (HL m w (dg d)).length)) ?_, hMk _ (if_pos e11), hR.up⟩
            rw [F_X3_tells, if_pos e11]
            have hLh : F_X1_largestHole M 9 = some (nI (mxP (fun i => pc ((HL m w (dg d)).getD i 0)) (HL m w (dg d)).length)) := by
              unfold F_X1_largestHole
              refine loop_fn' (fun j => (nI (mxP (fun i => pc ((HL m w (dg d)).getD i 0)) j), nI j)) (HL m w (dg d)).length rfl (fun j hj => ?_) ?_ (by show _ < 200000; omega)
              · show X1_largestHole_L4 M 9 (_, _) = _
                have b1 := mxP_b (f := fun i => pc ((HL m w (dg d)).getD i 0)) (b := 16) (fun i => pc_le _) j
                have b2 := pc_le ((HL m w (dg d)).getD j 0)
                rw [X1_largestHole_L4, g4, if_neg (nI_nleN hj (by omega)), bd1e (bitsOf_in g4 hlen g5 hj), bd1e (cbits (lt16 hd (hlt j hj))), bd1e (cmax_nI (by omega) (by omega)), lets, nI_1]
                rfl
              · show X1_largestHole_L4 M 9 (_, _) = _
                rw [X1_largestHole_L4, g4, if_pos (nI_le (Nat.le_refl _) (by omega))]
            rw [bd1e hLh]
          · have hK2 : K l = 2 ∨ K l = 4 := by
              have hk6 : K l = 0 ∨ K l = 1 ∨ K l = 2 ∨ K l = 3 ∨ K l = 4 ∨ K l = 5 := by omega
              rcases hk6 with e | e | e | e | e | e <;> rw [e] at ea <;> first | (exact absurd ea (by decide)) | omega
            rcases hK2 with e2 | e2
            · refine ⟨_, M, N', hCk _ ?_, hMk (nI (pT (fun i j => alk m w 0 ((HL m w (dg d)).getD i 0) ((HL m w (dg d)).getD j 0)) (HL m w (dg d)).length (HL m w (dg d)).length)) ?_, hR.up⟩
              · rw [F_X3_tells, if_neg (by decide), if_pos rfl, h0 _ k1, e2, if_neg (by decide), X3_tells_J52, ← e2, bd1e (show F_X3_alikePairs M (55 + K l) 9 0 = _ from pcc 0 (by decide))]
              · show (if nI 2 = 1 then _ else _) = _
                rw [if_neg (by decide), if_pos rfl, chk_pos (inb_nI (by omega) (by decide)), clN (by omega), q9, e2, bd1e (pm 2 (by decide))]
                rfl
            · refine ⟨_, M, N', hCk _ ?_, hMk (nI (pT (fun i j => alk m w 3 ((HL m w (dg d)).getD i 0) ((HL m w (dg d)).getD j 0)) (HL m w (dg d)).length (HL m w (dg d)).length)) ?_, hR.up⟩
              · rw [F_X3_tells, if_neg (by decide), if_pos rfl, h0 _ k1, e2, if_pos rfl, X3_tells_J52, ← e2, bd1e (pcc 3 (by decide))]
              · show (if nI 2 = 1 then _ else _) = _
                rw [if_neg (by decide), if_pos rfl, chk_pos (inb_nI (by omega) (by decide)), clN (by omega), q9, e2, bd1e (pm 4 (by decide))]
                rfl
          · refine ⟨_, M, N', hCk (nI (volN d (dg d) 16)) ?_, hMk _ ?_, hR.up⟩
            · rw [F_X3_tells, if_neg (by decide), if_neg (by decide), if_pos rfl, g2, bd1e (cvol_eq g1 hT16)]
            · show (if nI 3 = 1 then _ else _) = _
              rw [if_neg (by decide), if_neg (by decide), if_pos rfl, vp]
          · refine ⟨_, M, N', hCk (nI (pT (fun i j => alk m w 3 ((HL m w (dg d)).getD i 0) ((HL m w (dg d)).getD j 0)) (HL m w (dg d)).length (HL m w (dg d)).length) - nI (pT (fun i j => alk m w 0 ((HL m w (dg d)).getD i 0) ((HL m w (dg d)).getD j 0)) (HL m w (dg d)).length (HL m w (dg d)).length)) ?_, hMk _ ?_, hR.up⟩
            · rw [F_X3_tells, if_neg (by decide), if_neg (by decide), if_neg (by decide), if_pos rfl, bd1e (pcc 3 (by decide)), bd1e (show F_X3_alikePairs M (55 + K l) 9 0 = _ from pcc 0 (by decide))]
            · show (if nI 4 = 1 then _ else _) = _
              rw [if_neg (by decide), if_neg (by decide), if_neg (by decide), if_pos rfl, bd1e (pm 4 (by decide)), bd1e (pm 2 (by decide))]
              rfl
          · refine ⟨_, M, N', hCk (nI (botN d (dg d) 16)) ?_, hMk _ ?_, hR.up⟩
            · rw [F_X3_tells, if_neg (by decide), if_neg (by decide), if_neg (by decide), if_neg (by decide), g2, bd1e (cbot_eq g1 hw.1 hT16)]
            · show (if nI 5 = 1 then _ else _) = _
              rw [if_neg (by decide), if_neg (by decide), if_neg (by decide), if_neg (by decide), bp]
