/-! ===== alike holes; same, which, doubt ===== -/
def itQ (f : Nat) : Nat → Nat
  | 0 => f
  | i + 1 => psh (trN (itQ f i))
theorem itQ_lt {f : Nat} (hf : f < 2 ^ 16) : ∀ i, itQ f i < 2 ^ 16 := by
  intro i
  cases i with
  | zero => exact hf
  | succ i => exact psh_lt (trN_lt _)
theorem itQ_pc {f : Nat} (hf : f < 2 ^ 16) : ∀ i, pc (itQ f i) = pc f := by
  intro i
  induction i with
  | zero => rfl
  | succ i ih => rw [itQ, pc_psh (trN_lt _), pc_trN, ih]
def fmN (m w s : Nat) : Nat := psh (brd w s m)
theorem fmN_lt {m w s : Nat} (hd : Dm m w) : fmN m w s < 2 ^ 16 := psh_lt (brd_lt hd)
theorem fmN_pc {m w s : Nat} (hd : Dm m w) (hs : s < 2 ^ m) : pc (fmN m w s) = pc s := by
  unfold fmN
  rw [pc_psh (brd_lt hd), pc_brd hd hs]
def alk (m w q a b : Nat) : Bool := anyB (fun i => decide (itQ (fmN m w a) i = fmN m w b)) (q + 1)
theorem alk_pc {m w q a b : Nat} (hd : Dm m w) (ha : a < 2 ^ m) (hb : b < 2 ^ m) (h : alk m w q a b = true) : pc a = pc b := by
  obtain ⟨i, _, h2⟩ := (anyB_iff _ _).mp h
  rw [decide_eq_true_iff] at h2
  rw [← fmN_pc hd ha, ← fmN_pc hd hb, ← h2, itQ_pc (fmN_lt hd)]
theorem anyB_f {P : Nat → Bool} {n : Nat} (h : ∀ j, j < n → P j = false) : anyB P n = false := by
  cases e : anyB P n
  · rfl
  · obtain ⟨i, h1, h2⟩ := (anyB_iff _ _).mp e
    rw [h i h1] at h2
    cases h2
theorem areAlike_eq {M : Mem} {m w p q a b : Nat} (hd : Dm m w) (h1 : gI M 7 1 = nI w) (ha : a < 2 ^ m) (hb : b < 2 ^ m) (hq : q ≤ 3) : F_X3_areAlike M p (nI a) (nI b) (nI q) = some (nI (b01 (alk m w q a b))) := by
  have ha16 := lt16 hd ha
  have hb16 := lt16 hd hb
  have f1 := fmN_lt (s := a) hd
  have f2 := fmN_lt (s := b) hd
  have pa := pc_le a
  have pb := pc_le b
  rw [F_X3_areAlike, bd1e (cbits ha16), bd1e (cbits hb16)]
  by_cases hpc : pc a = pc b
  · rw [if_pos (by rw [hpc]), bd1e (onBoard_eq hd h1 ha), bd1e (show F_X2_cornered (nI (brd w a m)) = some (nI (fmN m w a)) from cornered_eq (brd_lt hd)), bd1e (onBoard_eq hd h1 hb), bd1e (show F_X2_cornered (nI (brd w b m)) = some (nI (fmN m w b)) from cornered_eq (brd_lt hd))]
    obtain ⟨r, e1, z, e2, e3, e4⟩ := loop_inv (f := X3_areAlike_L42 M (nI q) (nI (fmN m w b))) (fun i st => st = (nI (itQ (fmN m w a) i), nI i) ∧ ∀ j, j < i → itQ (fmN m w a) j ≠ fmN m w b) (fun r => ∃ z, r = nI z ∧ z < 2 ^ 16 ∧ decide (z = fmN m w b) = alk m w q a b) q (fun i st hi hst => by
      obtain ⟨e1, e2⟩ := hst
      subst e1
      have hi16 := itQ_lt f1 i
      rw [X3_areAlike_L42]
      by_cases eq : i = q
      · subst eq
        rw [if_pos (nI_le (Nat.le_refl _) (by omega))]
        refine Or.inr ⟨_, rfl, _, rfl, hi16, ?_⟩
        unfold alk
        rw [anyB_s, anyB_f (fun j hj => decide_eq_false (e2 j hj)), Bool.false_or]
      · rw [if_neg (nI_nleN (by omega) (by omega))]
        by_cases ez : itQ (fmN m w a) i = fmN m w b
        · rw [if_pos (by rw [ez])]
          refine Or.inr ⟨_, rfl, _, rfl, hi16, ?_⟩
          rw [decide_eq_true ez]
          exact (anyB_t (show i < q + 1 by omega) (decide_eq_true ez)).symm
        · rw [if_neg (fun y => ez ((nI_eq (by omega) (by omega)).mp y)), bd1e (turned_eq hi16), bd1e (cornered_eq (trN_lt _)), lets, nI_1]
          refine Or.inl ⟨by omega, _, rfl, rfl, fun j hj => ?_⟩
          by_cases ej : j = i
          · subst ej; exact ez
          · exact e2 j (by omega)) (k := FU) (by show q < 200000; omega) (s := (nI (fmN m w a), 0)) ⟨rfl, fun j hj => absurd hj (Nat.not_lt_zero _)⟩
    subst e2
    rw [bd1e e1, ← e4]
    by_cases y : z = fmN m w b
    · rw [if_pos (by rw [y]), decide_eq_true y]; rfl
    · rw [if_neg (fun x => y ((nI_eq (by omega) (by omega)).mp x)), decide_eq_false y]; rfl
  · rw [if_neg (fun y => hpc ((nI_eq (by omega) (by omega)).mp y))]
    cases e : alk m w q a b
    · rfl
    · exact absurd (alk_pc hd ha hb e) hpc
theorem shape_same {N : Mem} {m w a b : Nat} (hd : Dm m w) (h0 : gI N 0 11 = nI m) (h1 : gI N 0 10 = nI w) (ha : a < 2 ^ m) (hb : b < 2 ^ m) : (bd1 (F_X9_shape N (nI a)) fun r_1 => bd1 (F_X9_shape N (nI b)) fun r_3 => if r_1 = r_3 then some (1 : Int32) else some 0) = some (nI (b01 (alk m w 0 a b))) := by
  have f1 := fmN_lt (s := a) hd
  have f2 := fmN_lt (s := b) hd
  rw [bd1e (show _ = some (nI (fmN m w a)) from shape_eq hd h0 h1 ha), bd1e (show _ = some (nI (fmN m w b)) from shape_eq hd h0 h1 hb)]
  have e : alk m w 0 a b = decide (fmN m w a = fmN m w b) := by
    unfold alk
    rw [anyB_s]
    rfl
  rw [e]
  by_cases y : fmN m w a = fmN m w b
  · rw [if_pos (by rw [y]), decide_eq_true y]; rfl
  · rw [if_neg (fun x => y ((nI_eq (by omega) (by omega)).mp x)), decide_eq_false y]; rfl
theorem b01_01 (b : Bool) : nI (b01 b) = 0 ∨ nI (b01 b) = 1 := by cases b; exact Or.inl rfl; exact Or.inr rfl
theorem areTurned_eq {N : Mem} {m w a b : Nat} (hd : Dm m w) (h0 : gI N 0 11 = nI m) (h1 : gI N 0 10 = nI w) (ha : a < 2 ^ m) (hb : b < 2 ^ m) : F_X9_areTurned N (nI a) (nI b) = some (nI (b01 (alk m w 3 a b))) := by
  have f1 := fmN_lt (s := a) hd
  have f2 := fmN_lt (s := b) hd
  have hL : loop (X9_areTurned_L29 N (nI (fmN m w b))) FU (nI (fmN m w a), nI (b01 (decide (fmN m w a = fmN m w b))), 0) = some (nI (b01 (alk m w 3 a b))) := by
    refine loop_fn' (fun i => (nI (itQ (fmN m w a) i), nI (b01 (anyB (fun i => decide (itQ (fmN m w a) i = fmN m w b)) (i + 1))), nI i)) 3 (by rw [anyB_s]; rfl) (fun i hi => ?_) ?_ (by decide)
    · show X9_areTurned_L29 N _ (_, _, _) = _
      have hi16 := itQ_lt f1 i
      have hi17 := itQ_lt f1 (i + 1)
      rw [X9_areTurned_L29, if_neg (nI_nleN hi (by decide)), bd1e (show _ = some (nI (itQ (fmN m w a) (i + 1))) from quarter_eq hi16), anyB_s _ (i + 1)]
      cases anyB (fun i => decide (itQ (fmN m w a) i = fmN m w b)) (i + 1)
      · rw [if_pos n0f, Bool.false_or]
        by_cases y : itQ (fmN m w a) (i + 1) = fmN m w b
        · rw [if_pos (by rw [y]), decide_eq_true y, lets, nI_1]
          rfl
        · rw [if_neg (fun x => y ((nI_eq (by omega) (by omega)).mp x)), decide_eq_false y, lets, nI_1]
          rfl
      · rw [if_neg n0t, lets, nI_1, Bool.true_or]
        rfl
    · show X9_areTurned_L29 N _ (_, _, _) = _
      rw [X9_areTurned_L29, if_pos (nI_le (Nat.le_refl _) (by decide)), chk_pos (b01_01 _)]
      rfl
  rw [F_X9_areTurned, bd1e (show _ = some (nI (fmN m w a)) from shape_eq hd h0 h1 ha), bd1e (show _ = some (nI (fmN m w b)) from shape_eq hd h0 h1 hb)]
  by_cases y : fmN m w a = fmN m w b
  · rw [decide_eq_true y] at hL
    rw [if_pos (by rw [y]), X9_areTurned_J24]
    exact hL
  · rw [decide_eq_false y] at hL
    rw [if_neg (fun x => y ((nI_eq (by omega) (by omega)).mp x)), X9_areTurned_J24]
    exact hL
/-- the same by a kind -/
def smB (m w K : Nat) (d d' : Nat → Nat) (a b : Nat) : Bool :=
  if K = 0 then decide (¬ a &&& b = 0) else if K = 1 then decide (a = b) else if K = 2 then alk m w 0 a b else if K = 3 then decide (volN d a 16 = volN d' b 16) else if K = 4 then alk m w 3 a b else decide (volN d a 16 = volN d' b 16) && decide (botN d a 16 = botN d' b 16)
theorem nIf {a b : Nat} (ha : a < 2 ^ 31) (hb : b < 2 ^ 31) : (if nI a = nI b then some (1 : Int32) else some 0) = some (nI (b01 (decide (a = b)))) := by
  by_cases y : a = b
  · rw [if_pos (by rw [y]), decide_eq_true y]; rfl
  · rw [if_neg (fun x => y ((nI_eq ha hb).mp x)), decide_eq_false y]; rfl
theorem nIz {a : Nat} (ha : a < 2 ^ 31) : (if nI a = 0 then some (0 : Int32) else some 1) = some (nI (b01 (decide (¬ a = 0)))) := by
  by_cases y : a = 0
  · subst y
    rw [if_pos e00]; rfl
  · rw [if_neg (nI_ne0 (by omega) ha), decide_eq_true y]; rfl
theorem nIvb {d d' : Nat → Nat} {a b : Nat} {o1 o2 : Option Int32} (h5 : ∀ c, d c ≤ 5) (h5' : ∀ c, d' c ≤ 5) (h1 : o1 = some (nI (botN d a 16))) (h2 : o2 = some (nI (botN d' b 16))) : (if nI (volN d a 16) = nI (volN d' b 16) then bd1 o1 fun r_19 => bd1 o2 fun r_21 => if r_19 = r_21 then some (1 : Int32) else some 0 else some 0) = some (nI (b01 (decide (volN d a 16 = volN d' b 16) && decide (botN d a 16 = botN d' b 16)))) := by
  have v1 := volN_le (s := a) h5 16
  have v2 := volN_le (s := b) h5' 16
  have b1 := botN_le (s := a) h5 16
  have b2 := botN_le (s := b) h5' 16
  by_cases y : volN d a 16 = volN d' b 16
  · rw [if_pos (by rw [y]), bd1e h1, bd1e h2, nIf (by omega) (by omega), decide_eq_true y, Bool.true_and]
  · rw [if_neg (fun x => y ((nI_eq (by omega) (by omega)).mp x)), decide_eq_false y]; rfl
theorem matches_eq {M : Mem} {m w K p q i j : Nat} {d d' : Nat → Nat} {e e' : Nat} {th th' : Int32} (hd : Dm m w) (hl : LandC M m w) (hK : K < 6) (h0 : gI M (55 + K) 0 = nI K) (hw : DW m d) (hw' : DW m d') (hg : GrC M p m w d e th) (hg' : GrC M q m w d' e' th') (hi : i < (HL m w (dg d)).length) (hj : j < (HL m w (dg d')).length) : F_X3_matches M (55 + K) p (nI i) q (nI j) = some (nI (b01 (smB m w K d d' ((HL m w (dg d)).getD i 0) ((HL m w (dg d')).getD j 0)))) := by
  have hT := dg_lt hd hw
  have hT' := dg_lt hd hw'
  have ha := HL_lt hd hT hi
  have hb := HL_lt hd hT' hj
  obtain ⟨g1, g2, g3, g4, g5, g6, g7⟩ := hg
  obtain ⟨k1, k2, k3, k4, k5, k6, k7⟩ := hg'
  have b1 := bitsOf_in (p := p) g4 (HL_len hd hT) g5 hi
  have b2 := bitsOf_in (p := q) k4 (HL_len hd hT') k5 hj
  generalize (HL m w (dg d)).getD i 0 = a at ha b1
  generalize (HL m w (dg d')).getD j 0 = b at hb b2
  have ha16 := lt16 hd ha
  have hb16 := lt16 hd hb
  have v1 := volN_le (s := a) hw.1 16
  have v2 := volN_le (s := b) hw'.1 16
  rw [F_X3_matches, bd1e b1, bd1e b2, h0]
  have hK' : K = 0 ∨ K = 1 ∨ K = 2 ∨ K = 3 ∨ K = 4 ∨ K = 5 := by omega
  rcases hK' with rfl | rfl | rfl | rfl | rfl | rfl
  · have hlt : a &&& b < 2 ^ 16 := and_lt_l ha16
    rw [if_neg (by decide), if_neg (by decide), if_neg (by decide), if_neg (by decide), if_neg (by decide), nx_and, nIz (by omega)]
    rfl
  · rw [if_pos e11, nIf (by omega) (by omega)]
    rfl
  · rw [if_neg (by decide), if_pos rfl, bd1e (show F_X3_areAlike M (55 + 2) (nI a) (nI b) 0 = _ from areAlike_eq (q := 0) hd hl.2.1 ha hb (by decide)), chk_pos (b01_01 _)]
    rfl
  · rw [if_neg (by decide), if_neg (by decide), if_pos rfl, bd1e (cvol_eq g1 ha16), bd1e (cvol_eq k1 hb16), nIf (by omega) (by omega)]
    rfl
  · rw [if_neg (by decide), if_neg (by decide), if_neg (by decide), if_pos rfl, bd1e (areAlike_eq (q := 3) hd hl.2.1 ha hb (by decide)), chk_pos (b01_01 _)]
    rfl
  · rw [if_neg (by decide), if_neg (by decide), if_neg (by decide), if_neg (by decide), if_pos rfl, bd1e (cvol_eq g1 ha16), bd1e (cvol_eq k1 hb16), nIvb hw.1 hw'.1 (cbot_eq g1 hw.1 ha16) (cbot_eq k1 hw'.1 hb16)]
    rfl
theorem areSame_eq {N : Mem} {m w K p b0 a b : Nat} {d d' : Nat → Nat} (hd : Dm m w) (h0 : gI N 0 11 = nI m) (h1 : gI N 0 10 = nI w) (hK : K < 6) (hw : DW m d) (hw' : DW m d') (hb0 : b0 + 16 ≤ alM p) (hal : alM p < 2 ^ 31) (hm : ∀ c, c < 16 → gI N p (b0 + c) = nI (d c)) (hm' : ∀ c, c < 16 → gI N 7 c = nI (d' c)) (ha : a < 2 ^ m) (hb : b < 2 ^ m) : F_X9_areSame N (nI K) p (nI b0) (nI a) (nI b) = some (nI (b01 (smB m w K d d' a b))) := by
  have hle := hd.le
  have ha16 := lt16 hd ha
  have hb16 := lt16 hd hb
  have v1 := volN_le (s := a) hw.1 16
  have v2 := volN_le (s := b) hw'.1 16
  have hm7 : ∀ c, c < 16 → gI N 7 (0 + c) = nI (d' c) := fun c hc => by rw [Nat.zero_add]; exact hm' c hc
  have mv1 := mvol_eq hle.1 h0 hb0 hal hm ha
  have mv2 : F_X9_volume N 7 0 (nI b) = some (nI (volN d' b 16)) := mvol_eq (b := 0) hle.1 h0 (by decide) (by decide) hm7 hb
  have mb1 := mbot_eq hle.1 h0 hb0 hal hm hw.1 ha
  have mb2 : F_X9_bottom N 7 0 (nI b) = some (nI (botN d' b 16)) := mbot_eq (b := 0) hle.1 h0 (by decide) (by decide) hm7 hw'.1 hb
  rw [F_X9_areSame]
  have hK' : K = 0 ∨ K = 1 ∨ K = 2 ∨ K = 3 ∨ K = 4 ∨ K = 5 := by omega
  rcases hK' with rfl | rfl | rfl | rfl | rfl | rfl
  · have hlt : a &&& b < 2 ^ 16 := and_lt_l ha16
    rw [if_pos e00, nx_and, nIz (by omega)]
    rfl
  · rw [if_neg (by decide), if_pos e11, nIf (by omega) (by omega)]
    rfl
  · rw [if_neg (by decide), if_neg (by decide), if_pos rfl, shape_same hd h0 h1 ha hb]
    rfl
  · rw [if_neg (by decide), if_neg (by decide), if_neg (by decide), if_pos rfl, bd1e mv1, bd1e mv2, nIf (by omega) (by omega)]
    rfl
  · rw [if_neg (by decide), if_neg (by decide), if_neg (by decide), if_neg (by decide), if_pos rfl, bd1e (areTurned_eq hd h0 h1 ha hb), chk_pos (b01_01 _)]
    rfl
  · rw [if_neg (by decide), if_neg (by decide), if_neg (by decide), if_neg (by decide), if_neg (by decide), bd1e mv1, bd1e mv2, nIvb hw.1 hw'.1 mb1 mb2]
    rfl
