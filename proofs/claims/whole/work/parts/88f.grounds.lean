/-! ===== grounds ===== -/
def tkW (V : Nat → Int32) (c i : Nat) : Bool := decide (V (3 * i) = nI c)
def lyW (V : Nat → Int32) (c x i : Nat) : Bool := decide (V (3 * i) = nI c) && lv (V (3 * i + 1)) (V (3 * i + 2)) (nI x)
def dnW (V : Nat → Int32) (u c n : Nat) : Nat := sm (fun x => b01 (!anyB (lyW V c x) u)) n
def wyW (V : Nat → Int32) (u c : Nat) : Nat := if anyB (tkW V c) u then dnW V u c 6 else 1
def prW (V : Nat → Int32) (u : Nat) : Nat → Nat
  | 0 => 1
  | n + 1 => prW V u n * wyW V u n
theorem wyW_le (V : Nat → Int32) (u c : Nat) : wyW V u c ≤ 6 := by
  unfold wyW
  have := sm_le (f := fun x => b01 (!anyB (lyW V c x) u)) (n := 6) (b := 1) (fun i _ => b01_le _)
  unfold dnW
  split <;> omega
theorem prW_le (V : Nat → Int32) (u n : Nat) : prW V u n ≤ 6 ^ n := by
  induction n with
  | zero => exact Nat.le_refl _
  | succ n ih =>
    rw [prW, Nat.pow_succ]
    exact Nat.mul_le_mul ih (wyW_le V u n)
theorem anyB_s (f : Nat → Bool) (i : Nat) : anyB f (i + 1) = (anyB f i || f i) := rfl
theorem anyB_t {f : Nat → Bool} {i u : Nat} (h : i < u) (hf : f i = true) : anyB f u = true := (anyB_iff f u).mpr ⟨i, h, hf⟩
theorem n0f : nI (b01 false) = 0 := rfl
theorem n0t : ¬ nI (b01 true) = 0 := by decide
theorem speaks_eq {M : Mem} {p u c : Nat} {V : Nat → Int32} (h : rwC M p (3 * u) V) (hn : 3 * u ≤ 40) : F_X7_speaksOf M p (nI c) = some (nI (b01 (anyB (tkW V c) u))) := by
  unfold F_X7_speaksOf
  obtain ⟨r, e1, e2⟩ := loop_inv (f := X7_speaksOf_L2 M p (nI c)) (fun i st => st = nI (3 * i) ∧ anyB (tkW V c) i = false) (fun r => r = nI (b01 (anyB (tkW V c) u))) u (fun i st hi hst => by
    obtain ⟨e1, e2⟩ := hst
    subst e1
    by_cases e : i = u
    · subst e
      rw [X7_speaksOf_L2, bd1e h.1, if_pos (nI_le (Nat.le_refl _) (by omega)), e2]
      exact Or.inr ⟨_, rfl, rfl⟩
    · rw [X7_speaksOf_L2, bd1e h.1, if_neg (nI_nleN (by omega) (by omega)), bd1e (h.2 _ (by omega))]
      by_cases z : V (3 * i) = nI c
      · rw [if_pos z]
        refine Or.inr ⟨_, rfl, ?_⟩
        rw [anyB_t (show i < u by omega) (decide_eq_true z)]
        rfl
      · rw [if_neg z, lets, nI_add]
        exact Or.inl ⟨by omega, _, rfl, rfl, by rw [anyB_s, e2]; exact decide_eq_false z⟩) (k := FU) (by show u < 200000; omega) (s := 0) ⟨rfl, rfl⟩
  rw [e1, e2]
theorem dbyC_in {M : Mem} {p u c x : Nat} {y : Int32} {V : Nat → Int32} (h : rwC M p (3 * u) V) (hn : 3 * u ≤ 40) : loop (X7_depthsBy_L15 M p (nI c) y (nI x)) FU (0, 0) = some (nI (b01 (anyB (lyW V c x) u))) := by
  obtain ⟨r, e1, e2⟩ := loop_inv (f := X7_depthsBy_L15 M p (nI c) y (nI x)) (fun i st => st = (nI (b01 (anyB (lyW V c x) i)), nI (3 * i))) (fun r => r = nI (b01 (anyB (lyW V c x) u))) u (fun i st hi hst => by
    subst hst
    by_cases e : i = u
    · subst e
      rw [X7_depthsBy_L15, bd1e h.1, if_pos (nI_le (Nat.le_refl _) (by omega))]
      exact Or.inr ⟨_, rfl, rfl⟩
    · rw [X7_depthsBy_L15, bd1e h.1, if_neg (nI_nleN (by omega) (by omega))]
      cases ea : anyB (lyW V c x) i
      · rw [if_pos n0f, bd1e (h.2 _ (by omega))]
        refine Or.inl ⟨by omega, ?_⟩
        have hs : anyB (lyW V c x) (i + 1) = lyW V c x i := by rw [anyB_s, ea]; rfl
        by_cases z : V (3 * i) = nI c
        · have hl : lyW V c x i = lv (V (3 * i + 1)) (V (3 * i + 2)) (nI x) := by unfold lyW; rw [decide_eq_true z, Bool.true_and]
          rw [if_pos z, bd1e (lieC h (by omega) _), ← hl, hs]
          cases lyW V c x i
          · rw [if_pos n0f, lets, nI_add]
            exact ⟨_, rfl, rfl⟩
          · rw [if_neg n0t, lets, nI_add]
            exact ⟨_, rfl, rfl⟩
        · have hl : lyW V c x i = false := by unfold lyW; rw [decide_eq_false z, Bool.false_and]
          rw [if_neg z, lets, nI_add, hs, hl]
          exact ⟨_, rfl, rfl⟩
      · rw [if_neg n0t]
        obtain ⟨j, hj, hf⟩ := (anyB_iff _ _).mp ea
        rw [anyB_t (show j < u by omega) hf]
        exact Or.inr ⟨_, rfl, rfl⟩) (k := FU) (by show u < 200000; omega) (s := (0, 0)) rfl
  rw [e1, e2]
theorem dbyC {M : Mem} {p u c : Nat} {V : Nat → Int32} (h : rwC M p (3 * u) V) (hn : 3 * u ≤ 40) : F_X7_depthsBy M p (nI c) = some (nI (dnW V u c 6)) := by
  unfold F_X7_depthsBy
  refine loop_fn' (fun x => (nI (dnW V u c x), nI x)) 6 rfl (fun x hx => ?_) ?_ (by decide)
  · show X7_depthsBy_L4 M p (nI c) (_, _) = _
    rw [X7_depthsBy_L4, if_neg (nI_nlt (by omega) (by decide)), bd1e (dbyC_in h hn), show dnW V u c (x + 1) = dnW V u c x + b01 (!anyB (lyW V c x) u) from rfl]
    cases anyB (lyW V c x) u
    · rw [if_pos n0f]
      simp only [lets]
      rw [nI_1, nI_1]
      rfl
    · rw [if_neg n0t, lets, nI_1]
      rfl
  · show X7_depthsBy_L4 M p (nI c) (_, _) = _
    rw [X7_depthsBy_L4, if_pos (nI_lt (by decide) (by decide))]
theorem grbC {M : Mem} {p u m : Nat} {V : Nat → Int32} (l1 : gI M 7 0 = nI m) (hm : m ≤ 16) (h : rwC M p (3 * u) V) (hn : 3 * u ≤ 40) : F_X7_groundsBy M p = some (lN (prW V u m)) := by
  unfold F_X7_groundsBy
  refine loop_fn' (fun i => (lN (prW V u i), nI i)) m rfl (fun i hi => ?_) ?_ (by show m < 200000; omega)
  · show X7_groundsBy_L5 M p (_, _) = _
    have hw := wyW_le V u i
    have hdn : dnW V u i 6 ≤ 6 := by
      have := sm_le (f := fun x => b01 (!anyB (lyW V i x) u)) (n := 6) (b := 1) (fun i _ => b01_le _)
      unfold dnW
      omega
    rw [X7_groundsBy_L5, l1, if_neg (nI_nleN hi (by omega)), bd1e (speaks_eq h hn), prW]
    unfold wyW
    cases anyB (tkW V i) u
    · rw [if_pos n0f, lets, nI_1, if_neg (by decide), Nat.mul_one]
    · rw [if_neg n0t, bd1e (dbyC h hn), if_pos rfl]
      simp only [lets]
      rw [nI_1, nI_l (by omega), lN_mul]
  · show X7_groundsBy_L5 M p (_, _) = _
    rw [X7_groundsBy_L5, l1, if_pos (nI_le (Nat.le_refl _) (by omega))]
theorem dof_in {N : Mem} {r u c x : Nat} {y : Int64} {V : Nat → Int32} (b : Bool) (h : rwM N r (3 * u) V) (hn : 3 * u ≤ 40) : loop (X9_depthsOf_L20 N (nI r) (nI c) y (nI x)) FU (nI (b01 b), 1, 0) = some (nI (b01 (b || anyB (tkW V c) u)), nI (b01 (!anyB (lyW V c x) u))) := by
  have hr := h.1
  refine loop_fn' (fun i => (nI (b01 (b || anyB (tkW V c) i)), nI (b01 (!anyB (lyW V c x) i)), nI (3 * i))) u (by rw [anyB, anyB, Bool.or_false]; rfl) (fun i hi => ?_) ?_ (by show u < 200000; omega)
  · show X9_depthsOf_L20 N (nI r) (nI c) y (nI x) (_, _, _) = _
    have hJ : ∀ s : Bool, s = (b || anyB (tkW V c) (i + 1)) → X9_depthsOf_J51 N (nI r) (nI c) y (nI x) (nI (b01 (!anyB (lyW V c x) i))) (nI (3 * i)) (nI (b01 s)) = some (.inl (nI (b01 (b || anyB (tkW V c) (i + 1))), nI (b01 (!anyB (lyW V c x) (i + 1))), nI (3 * (i + 1)))) := by
      intro s hs
      rw [X9_depthsOf_J51, ← hs, anyB_s (lyW V c x)]
      cases ea : anyB (lyW V c x) i
      · rw [if_neg (show ¬ nI (b01 (!false)) = 0 by decide), bd1e (h.2.2 _ (by omega))]
        by_cases z : V (3 * i) = nI c
        · have hl : lyW V c x i = lv (V (3 * i + 1)) (V (3 * i + 2)) (nI x) := by unfold lyW; rw [decide_eq_true z, Bool.true_and]
          rw [if_pos z, bd1e (lieM h (by omega) _), ← hl]
          cases lyW V c x i
          · rw [if_pos n0f, lets, nI_add]
            rfl
          · rw [if_neg n0t, lets, nI_add]
            rfl
        · have hl : lyW V c x i = false := by unfold lyW; rw [decide_eq_false z, Bool.false_and]
          rw [if_neg z, lets, nI_add, hl]
          rfl
      · rw [if_pos (show nI (b01 (!true)) = 0 by decide), lets, nI_add]
        rfl
    rw [X9_depthsOf_L20, chk_pos (inb_nI hr (by decide)), clN (by omega), h.2.1, if_neg (nI_nleN (by omega) (by omega))]
    cases eb : (b || anyB (tkW V c) i)
    · rw [if_pos n0f, bd1e (h.2.2 _ (by omega))]
      rw [Bool.or_eq_false_iff] at eb
      by_cases z : V (3 * i) = nI c
      · rw [if_pos z, X9_depthsOf_J46]
        exact hJ true (by rw [anyB_s, eb.1, eb.2]; exact (decide_eq_true z).symm)
      · rw [if_neg z]
        exact hJ false (by rw [anyB_s, eb.1, eb.2]; exact (decide_eq_false z).symm)
    · rw [if_neg n0t, X9_depthsOf_J46]
      exact hJ true (by rw [anyB_s, ← Bool.or_assoc, eb]; rfl)
  · show X9_depthsOf_L20 N (nI r) (nI c) y (nI x) (_, _, _) = _
    rw [X9_depthsOf_L20, chk_pos (inb_nI hr (by decide)), clN (by omega), h.2.1, if_pos (nI_le (Nat.le_refl _) (by omega))]
theorem dofM {N : Mem} {r u c : Nat} {V : Nat → Int32} (h : rwM N r (3 * u) V) (hn : 3 * u ≤ 40) : F_X9_depthsOf N (nI r) (nI c) = some (lN (wyW V u c)) := by
  have hL : loop (X9_depthsOf_L8 N (nI r) (nI c)) FU (0, 0, 0) = some (nI (b01 (anyB (tkW V c) u)), lN (dnW V u c 6)) := by
    refine loop_fn' (fun x => (nI (b01 (decide (0 < x) && anyB (tkW V c) u)), lN (dnW V u c x), nI x)) 6 rfl (fun x hx => ?_) ?_ (by decide)
    · show X9_depthsOf_L8 N (nI r) (nI c) (_, _, _) = _
      rw [X9_depthsOf_L8, if_neg (nI_nlt (by omega) (by decide)), bd2e (dof_in _ h hn), show dnW V u c (x + 1) = dnW V u c x + b01 (!anyB (lyW V c x) u) from rfl]
      have hb : ((decide (0 < x) && anyB (tkW V c) u) || anyB (tkW V c) u) = (decide (0 < x + 1) && anyB (tkW V c) u) := by
        rw [decide_eq_true (show 0 < x + 1 by omega)]
        cases decide (0 < x) <;> cases anyB (tkW V c) u <;> rfl
      rw [hb]
      cases anyB (lyW V c x) u
      · rw [if_neg (show ¬ nI (b01 (!false)) = 0 by decide)]
        simp only [lets]
        rw [nI_1, lN_1]
        rfl
      · rw [if_pos (show nI (b01 (!true)) = 0 by decide)]
        simp only [lets]
        rw [nI_1, show (0 : Int64) = lN 0 from rfl, lN_add]
        rfl
    · show X9_depthsOf_L8 N (nI r) (nI c) (_, _, _) = _
      rw [X9_depthsOf_L8, if_pos (nI_lt (by decide) (by decide))]
      rfl
  rw [F_X9_depthsOf, bd2e hL]
  unfold wyW
  cases anyB (tkW V c) u
  · rw [if_pos n0f, if_neg (by decide)]
    rfl
  · rw [if_neg n0t, if_pos rfl]
theorem op_grounds {lw : Nat → Option Nat} (tl tt : Option Nat) {M N : Mem} {t : Nat} (ht : t ≤ 3100) (h : Rel t lw M N) (a1 : Int32) : ∃ (r : Int32) (M' : Mem) (N' : Mem), F_X8_grounds M a1 = some (r, M') ∧ F_X9_grounds N a1 = some (r, N') ∧ Rel (t + 1) lw M' N' := by
  rcases cut 6 (by decide) a1 with z | ⟨r, hr, rfl⟩
  · exact ⟨-1, M, N, by rw [F_X8_grounds, bd1e (rowOf_no z), oc_n], by rw [F_X9_grounds, F_X9_askedWitnesses, bd2e (askedRow_no z), if_neg (by decide), bd2s, if_neg (by decide)], h.up⟩
  · obtain ⟨m, w, gd, d, e, hd, hw, he, hl, hg, hm, -⟩ := h.core
    have hle := hd.le
    rcases wit h.2.1 hl.1 hl.2.2.1 hle.1 hr with ⟨k, hk, w1, w2⟩ | ⟨w1, w2, u, V, v1, v2, v3, v4, v5, v6⟩
    · refine ⟨-3, fndC M k, fndM N k, ?_, ?_, h.found (by omega)⟩
      · rw [F_X8_grounds, bd1e (rowOf_in hr), oc_s, chk_pos (isX5_row hr), bd1e w1, if_neg (nI_ne0 (by omega) (by omega)), bd2e (foundk k (by omega) (by omega))]
      · rw [F_X9_grounds, bd2e w2, if_neg (by decide)]
    · have hs := slen_row hr
      have hc := rwC_of v2 (by omega) v4
      have hmm := rwM_of hr v1 v3 v5
      have hb : prW V u m < 2 ^ 63 := by
        have h1 := prW_le V u m
        have h2 : 6 ^ m ≤ 6 ^ 16 := Nat.pow_le_pow_right (by decide) hle.1
        have h3 : 6 ^ 16 < 2 ^ 63 := by decide
        omega
      have hM : loop (X9_grounds_L17 N (nI r)) FU (1, 0) = some (1, frM N (lN (prW V u m / Nat.gcd (prW V u m) 1)) (lN (1 / Nat.gcd (prW V u m) 1))) := by
        refine loop_fn' (fun i => (lN (prW V u i), nI i)) m rfl (fun i hi => ?_) ?_ (by show m < 200000; omega)
        · show X9_grounds_L17 N (nI r) (_, _) = _
          rw [X9_grounds_L17, hl.2.2.1, if_neg (nI_nleN hi (by omega)), bd1e (dofM hmm v1)]
          simp only [lets]
          rw [nI_1, lN_mul]
          rfl
        · show X9_grounds_L17 N (nI r) (_, _) = _
          rw [X9_grounds_L17, hl.2.2.1, if_pos (nI_le (Nat.le_refl _) (by omega)), bd2e (show F_X9_part N (lN (prW V u m)) 1 = _ from part_eq (b := 1) hb (by decide) (by decide))]
      refine ⟨1, _, _, ?_, ?_, h.frac (lN (prW V u m / Nat.gcd (prW V u m) 1)) (lN (1 / Nat.gcd (prW V u m) 1))⟩
      · rw [F_X8_grounds, bd1e (rowOf_in hr), oc_s, chk_pos (isX5_row hr), bd1e w1, if_pos rfl, bd1e (grbC hl.1 hle.1 hc v1), bd2e (show F_X8_tellFraction M (lN (prW V u m)) 1 = _ from tellFr_eq (b := 1) hb (by decide) (by decide))]
      · rw [F_X9_grounds, bd2e w2, if_pos (by decide), hM]
