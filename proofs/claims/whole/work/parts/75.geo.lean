/-! ===== what is told of a hole ===== -/
theorem dg_tb (d : Nat → Nat) {c : Nat} (hc : c < 16) : (dg d).testBit c = decide (0 < d c) := by
  unfold dg
  rw [bs_tb, decide_eq_true hc, Bool.true_and]
theorem dg_lt {m w : Nat} {d : Nat → Nat} (hd : Dm m w) (h : DW m d) : dg d < 2 ^ m := by
  apply Nat.lt_pow_two_of_testBit
  intro i hi
  unfold dg
  rw [bs_tb, h.2 i hi]
  simp
theorem layHoles_eq {N : Mem} {m w : Nat} {d : Nat → Nat} (hd : Dm m w) (h0 : gI N 0 11 = nI m) (h1 : gI N 0 10 = nI w) (hw : DW m d) (h7 : ∀ c, c < 16 → gI N 7 c = nI (d c)) : ∃ N', F_X9_layHoles N = some N' ∧ gI N' 0 23 = nI (HL m w (dg d)).length ∧ HolesIn N' 11 (HL m w (dg d)) ∧ (∀ q k, q ≠ 11 → ¬ (q = 0 ∧ k = 23) → gI N' q k = gI N q k) ∧ ∀ q k, gJ N' q k = gJ N q k := by
  have e : F_X9_dugIn N 7 0 = some (nI (dg d)) := dugIn_eq (p := 7) (b := 0) (by decide) (by decide) (fun c hc => by rw [Nat.zero_add]; exact h7 c hc) hw.1
  obtain ⟨N', e1, e2, e3, e4⟩ := findHoles_eq (p := 11) hd h0 h1 (dg_lt hd hw) (by decide) rfl
  unfold F_X9_layHoles
  rw [bd1e e, bd2e e1, lets]
  refine ⟨_, rfl, gI_same _ _ _ _, fun i hi => ?_, fun q k hq hk => ?_, fun q k => ?_⟩
  · rw [gI_p (by decide)]; exact e2 i hi
  · rw [gI_sI, if_neg hk, e3 q k hq]
  · rw [gJ_sI, e4]
theorem irm_c : ∀ c, c < 16 → ∀ w, w < 5 → w ≠ 0 → irm (nI c) (nI w) = nI (c % w) := by decide +kernel
def volN (d : Nat → Nat) (s n : Nat) : Nat := sm (fun c => if s.testBit c then d c else 0) n
def botN (d : Nat → Nat) (s : Nat) : Nat → Nat
  | 0 => 0
  | n + 1 => if s.testBit n then max (botN d s n) (d n) else botN d s n
theorem volN_ext {d : Nat → Nat} {s m : Nat} (hm : m ≤ 16) (hs : s < 2 ^ m) : volN d s 16 = volN d s m := by
  unfold volN
  exact sm_ext hm (fun i h1 _ => by rw [tb_lt hs h1]; rfl)
theorem botN_ext {d : Nat → Nat} {s m n : Nat} (hm : m ≤ n) (hs : s < 2 ^ m) : botN d s n = botN d s m := by
  induction n with
  | zero => have : m = 0 := by omega
            subst this; rfl
  | succ n ih =>
    by_cases e : m = n + 1
    · subst e; rfl
    · rw [botN, tb_lt hs (by omega), if_neg (by decide), ih (by omega)]
theorem botN_le {d : Nat → Nat} {s : Nat} (h : ∀ c, d c ≤ 5) (n : Nat) : botN d s n ≤ 5 := by
  induction n with
  | zero => exact Nat.zero_le _
  | succ n ih =>
    rw [botN]
    have := h n
    split <;> omega
theorem volN_le {d : Nat → Nat} {s : Nat} (h : ∀ c, d c ≤ 5) (n : Nat) : volN d s n ≤ n * 5 := sm_le (fun i _ => by have := h i; split <;> omega)
theorem cvol_eq {M : Mem} {p s : Nat} {d : Nat → Nat} (hd : ∀ c, c < 16 → gI M (p + 1) c = nI (d c)) (hs : s < 2 ^ 16) : F_X1_volumeOf M p (nI s) = some (nI (volN d s 16)) := by
  unfold F_X1_volumeOf
  refine loop_fn' (fun i => (nI (volN d s i), nI i)) 16 rfl (fun i hi => ?_) ?_ (by decide)
  · show X1_volumeOf_L4 M p (nI s) (_, _) = _
    rw [X1_volumeOf_L4, if_neg (nI_nleN hi (by decide)), volN, volN, sm]
    cases e : s.testBit i
    · rw [if_pos ((nx_u0 (by omega) (by omega)).mpr e), lets, nI_1, if_neg (by decide)]
      rfl
    · rw [if_neg (fun z => by rw [(nx_u0 (by omega) (by omega)).mp z] at e; cases e), chk_pos (inb_nI hi (by decide)), clN (by omega), hd i hi]
      simp only [lets]
      rw [nI_add, nI_1, if_pos trivial]
  · show X1_volumeOf_L4 M p (nI s) (_, _) = _
    rw [X1_volumeOf_L4, if_pos (nI_le (Nat.le_refl _) (by decide))]
theorem mvol_eq {N : Mem} {p b m s : Nat} {d : Nat → Nat} (hm : m ≤ 16) (h0 : gI N 0 11 = nI m) (hb : b + 16 ≤ alM p) (ha : alM p < 2 ^ 31) (hd : ∀ c, c < 16 → gI N p (b + c) = nI (d c)) (hs : s < 2 ^ m) : F_X9_volume N p (nI b) (nI s) = some (nI (volN d s 16)) := by
  have hs16 : s < 2 ^ 16 := Nat.lt_of_lt_of_le hs (Nat.pow_le_pow_right (by decide) hm)
  unfold F_X9_volume
  rw [volN_ext hm hs]
  refine loop_fn' (fun i => (nI (volN d s i), nI i)) m rfl (fun i hi => ?_) ?_ (by show m < 200000; omega)
  · show X9_volume_L6 N p (nI b) (nI s) (_, _) = _
    rw [X9_volume_L6, h0, if_neg (nI_nleN hi (by omega)), volN, volN, sm]
    cases e : s.testBit i
    · rw [bd1e (mhas_f (by omega) (by omega) e), if_pos rfl, if_neg (by decide)]
      simp only [lets]
      rw [nI_1, show (0 : Int32) = nI 0 from rfl, nI_add]
    · rw [bd1e (mhas_t (by omega) (by omega) e), if_neg (by decide), nI_add, chk_pos (inb_nI (by omega) ha), clN (by omega), hd i (by omega)]
      simp only [lets]
      rw [nI_add, nI_1, if_pos trivial]
  · show X9_volume_L6 N p (nI b) (nI s) (_, _) = _
    rw [X9_volume_L6, h0, if_pos (nI_le (Nat.le_refl _) (by omega))]
theorem max_nI {a b : Nat} (ha : a < 2 ^ 31) (hb : b < 2 ^ 31) : F_X9_greater (nI a) (nI b) = some (nI (max a b)) := by
  unfold F_X9_greater
  by_cases h : a ≤ b
  · rw [if_pos (nI_le h hb), Nat.max_eq_right h]
  · rw [if_neg (nI_nleN (by omega) ha), Nat.max_eq_left (by omega)]
theorem mbot_eq {N : Mem} {p b m s : Nat} {d : Nat → Nat} (hm : m ≤ 16) (h0 : gI N 0 11 = nI m) (hb : b + 16 ≤ alM p) (ha : alM p < 2 ^ 31) (hd : ∀ c, c < 16 → gI N p (b + c) = nI (d c)) (h5 : ∀ c, d c ≤ 5) (hs : s < 2 ^ m) : F_X9_bottom N p (nI b) (nI s) = some (nI (botN d s 16)) := by
  have hs16 : s < 2 ^ 16 := Nat.lt_of_lt_of_le hs (Nat.pow_le_pow_right (by decide) hm)
  unfold F_X9_bottom
  rw [botN_ext hm hs]
  refine loop_fn' (fun i => (nI (botN d s i), nI i)) m rfl (fun i hi => ?_) ?_ (by show m < 200000; omega)
  · show X9_bottom_L6 N p (nI b) (nI s) (_, _) = _
    have b1 := botN_le (s := s) h5 i
    have b2 := h5 i
    rw [X9_bottom_L6, h0, if_neg (nI_nleN hi (by omega)), botN]
    cases e : s.testBit i
    · rw [bd1e (mhas_f (by omega) (by omega) e), if_pos rfl, if_neg (by decide), lets, nI_1]
    · rw [bd1e (mhas_t (by omega) (by omega) e), if_neg (by decide), nI_add, chk_pos (inb_nI (by omega) ha), clN (by omega), hd i (by omega), bd1e (max_nI (by omega) (by omega)), lets, nI_1, if_pos rfl]
  · show X9_bottom_L6 N p (nI b) (nI s) (_, _) = _
    rw [X9_bottom_L6, h0, if_pos (nI_le (Nat.le_refl _) (by omega))]
theorem cmax_nI {a b : Nat} (ha : a < 2 ^ 31) (hb : b < 2 ^ 31) : F_J9_max_7cf53 (nI a) (nI b) = some (nI (max a b)) := by
  unfold F_J9_max_7cf53
  by_cases h : a < b
  · rw [if_pos (nI_lt h hb), Nat.max_eq_right (by omega)]
  · rw [if_neg (by rw [nI_ltI ha hb]; omega), Nat.max_eq_left (by omega)]
theorem cbot_eq {M : Mem} {p s : Nat} {d : Nat → Nat} (hd : ∀ c, c < 16 → gI M (p + 1) c = nI (d c)) (h5 : ∀ c, d c ≤ 5) (hs : s < 2 ^ 16) : F_X1_bottomOf M p (nI s) = some (nI (botN d s 16)) := by
  unfold F_X1_bottomOf
  refine loop_fn' (fun i => (nI (botN d s i), nI i)) 16 rfl (fun i hi => ?_) ?_ (by decide)
  · show X1_bottomOf_L4 M p (nI s) (_, _) = _
    have b1 := botN_le (s := s) h5 i
    have b2 := h5 i
    rw [X1_bottomOf_L4, if_neg (nI_nleN hi (by decide)), botN]
    cases e : s.testBit i
    · rw [if_pos ((nx_u0 (by omega) (by omega)).mpr e), lets, nI_1, if_neg (by decide)]
    · rw [if_neg (fun z => by rw [(nx_u0 (by omega) (by omega)).mp z] at e; cases e), chk_pos (inb_nI hi (by decide)), clN (by omega), hd i hi, bd1e (cmax_nI (by omega) (by omega)), lets, nI_1, if_pos rfl]
  · show X1_bottomOf_L4 M p (nI s) (_, _) = _
    rw [X1_bottomOf_L4, if_pos (nI_le (Nat.le_refl _) (by decide))]
/- whose hole: the gardener with most cells -/
def own (m w : Nat) (gd : Nat → Nat) (s r : Nat) : Nat := pc (s &&& gset m w gd r)
def ownB (f : Nat → Nat) : Nat → Nat
  | 0 => 0
  | n + 1 => if f n ≤ ownB f n then ownB f n else f n
def ownO (f : Nat → Nat) : Nat → Int32
  | 0 => -9
  | n + 1 => if f n ≤ ownB f n then ownO f n else nI n
def am (f : Nat → Nat) : Nat → Nat
  | 0 => 0
  | n + 1 => if f n ≤ f (am f n) then am f n else n
theorem am_lt (f : Nat → Nat) (n : Nat) : am f (n + 1) < n + 1 := by
  induction n with
  | zero => rw [am]; split <;> simp [am]
  | succ n ih => rw [am]; split <;> omega
theorem own_am (f : Nat → Nat) (n : Nat) : ownB f (n + 1) = f (am f (n + 1)) ∧ (0 < f (am f (n + 1)) → ownO f (n + 1) = nI (am f (n + 1))) := by
  induction n with
  | zero =>
    rw [ownB, ownO, am, ownB, ownO, am]
    simp only [Nat.le_refl, if_true]
    by_cases h : f 0 ≤ 0
    · rw [if_pos h, if_pos h]
      exact ⟨by omega, fun z => by omega⟩
    · rw [if_neg h, if_neg h]
      exact ⟨rfl, fun _ => rfl⟩
  | succ n ih =>
    rw [ownB, ownO, am, ih.1]
    by_cases h : f (n + 1) ≤ f (am f (n + 1))
    · rw [if_pos h, if_pos h, if_pos h]
      exact ⟨rfl, ih.2⟩
    · rw [if_neg h, if_neg h, if_neg h]
      exact ⟨rfl, fun _ => rfl⟩
theorem am_max (f : Nat → Nat) (n : Nat) : ∀ i, i < n → f i ≤ f (am f n) := by
  induction n with
  | zero => intro i hi; omega
  | succ n ih =>
    intro i hi
    rw [am]
    by_cases h : f n ≤ f (am f n)
    · rw [if_pos h]
      by_cases e : i = n
      · subst e; exact h
      · exact ih i (by omega)
    · rw [if_neg h]
      by_cases e : i = n
      · subst e; exact Nat.le_refl _
      · have := ih i (by omega)
        omega
theorem gset_lt (m w : Nat) (gd : Nat → Nat) (r : Nat) : gset m w gd r < 2 ^ 16 := bs_lt _ _
theorem cown_eq {M : Mem} {m w s : Nat} {gd : Nat → Nat} (h : ∀ r, r < 4 → gI M 8 r = nI (gset m w gd r)) (hs : s < 2 ^ 16) : F_X2_ownerOf M (nI s) = some (ownO (own m w gd s) 4) := by
  unfold F_X2_ownerOf
  refine loop_fn' (fun i => (nI (ownB (own m w gd s) i), ownO (own m w gd s) i, nI i)) 4 rfl (fun i hi => ?_) ?_ (by decide)
  · show X2_ownerOf_L8 M (nI s) (_, _, _) = _
    have b1 : own m w gd s i ≤ 16 := pc_le _
    have b2 : ownB (own m w gd s) i ≤ 16 := by
      cases i with
      | zero => exact Nat.zero_le _
      | succ i => rw [(own_am _ i).1]; exact pc_le _
    rw [X2_ownerOf_L8, if_neg (nI_nleN hi (by decide)), chk_pos (inb_nI hi (by decide)), clN (by omega), h i hi, nx_and, bd1e (cbits (and_lt_l hs)), ownB, ownO]
    show (if nI (own m w gd s i) ≤ _ then _ else _) = _
    by_cases e : own m w gd s i ≤ ownB (own m w gd s) i
    · rw [if_pos (nI_le e (by omega)), if_pos e, if_pos e, lets, nI_1]
    · rw [if_neg (nI_nleN (by omega) (by omega)), if_neg e, if_neg e, lets, nI_1]
      rfl
  · show X2_ownerOf_L8 M (nI s) (_, _, _) = _
    rw [X2_ownerOf_L8, if_pos (nI_le (Nat.le_refl _) (by decide))]
def cellN (w : Nat) (gd : Nat → Nat) (s r n : Nat) : Nat := sm (fun c => if s.testBit c then (if gd (c % w) = r then 1 else 0) else 0) n
theorem cellN_own {m w s r : Nat} {gd : Nat → Nat} (hm : m ≤ 16) (hs : s < 2 ^ m) : cellN w gd s r m = own m w gd s r := by
  unfold cellN own pc
  rw [← sm_ext hm (fun i h1 _ => by rw [tb_lt hs h1]; rfl)]
  apply sm_congr
  intro i hi
  rw [Nat.testBit_and]
  unfold gset
  rw [bs_tb]
  cases e : s.testBit i
  · rfl
  · have := tb_m hs e
    by_cases eg : gd (i % w) = r
    · simp [eg, hi, this]
    · simp [eg]
theorem mcells_eq {N : Mem} {m w s r : Nat} {gd : Nat → Nat} (hd : Dm m w) (h0 : gI N 0 11 = nI m) (h1 : gI N 0 10 = nI w) (h8 : ∀ x, x < 4 → gI N 8 x = nI (gd x)) (hg : ∀ x, gd x < 4) (hr : r < 4) (hs : s < 2 ^ m) : F_X9_cellsOf N (nI s) (nI r) = some (nI (own m w gd s r)) := by
  have hle := hd.le
  have hs16 := lt16 hd hs
  unfold F_X9_cellsOf
  rw [← cellN_own hle.1 hs]
  refine loop_fn' (fun i => (nI (cellN w gd s r i), nI i)) m rfl (fun i hi => ?_) ?_ (by show m < 200000; omega)
  · show X9_cellsOf_L5 N (nI s) (nI r) (_, _) = _
    rw [X9_cellsOf_L5, h0, if_neg (nI_nleN hi (by omega)), cellN, cellN, sm]
    cases e : s.testBit i
    · rw [bd1e (mhas_f (by omega) (by omega) e), if_pos rfl, if_neg (by decide)]
      simp only [lets]
      rw [nI_1, show (0 : Int32) = nI 0 from rfl, nI_add]
    · have hw : w ≠ 0 := by
        intro z; subst z
        rcases hd with z | z <;> omega
      have hlt := Nat.mod_lt i (show 0 < w by omega)
      have hgi := hg (i % w)
      rw [bd1e (mhas_t (by omega) (by omega) e), if_neg (by decide), h1, chk_pos (show ¬ nI w = 0 from fun z => hw ((nI_eq (a := w) (b := 0) (by omega) (by decide)).mp z)), irm_c i (by omega) w (by omega) hw, chk_pos (inb_nI (by omega) (by decide)), clN (by omega), h8 _ (by omega), if_pos rfl]
      by_cases eg : gd (i % w) = r
      · rw [if_pos (by rw [eg]), if_pos eg]
        simp only [lets]
        rw [nI_1, nI_1]
      · rw [if_neg (fun z => eg ((nI_eq (by omega) (by omega)).mp z)), if_neg eg]
        simp only [lets]
        rw [nI_1, show (0 : Int32) = nI 0 from rfl, nI_add]
  · show X9_cellsOf_L5 N (nI s) (nI r) (_, _) = _
    rw [X9_cellsOf_L5, h0, if_pos (nI_le (Nat.le_refl _) (by omega))]
theorem mwhose_eq {N : Mem} {m w s : Nat} {gd : Nat → Nat} (hd : Dm m w) (h0 : gI N 0 11 = nI m) (h1 : gI N 0 10 = nI w) (h8 : ∀ x, x < 4 → gI N 8 x = nI (gd x)) (hg : ∀ x, gd x < 4) (hs : s < 2 ^ m) : F_X9_whose N (nI s) = some (nI (am (own m w gd s) 4)) := by
  unfold F_X9_whose
  refine loop_fn' (fun i => (nI (am (own m w gd s) (i + 1)), nI (i + 1))) 3 (by rw [am]; simp [am]; exact ⟨rfl, rfl⟩) (fun i hi => ?_) ?_ (by decide)
  · show X9_whose_L4 N (nI s) (_, _) = _
    have b0 := am_lt (own m w gd s) i
    have b1 : own m w gd s (i + 1) ≤ 16 := pc_le _
    have b2 : own m w gd s (am (own m w gd s) (i + 1)) ≤ 16 := pc_le _
    rw [X9_whose_L4, if_neg (nI_nleN (by omega) (by decide)), bd1e (mcells_eq hd h0 h1 h8 hg (by omega) hs), bd1e (mcells_eq hd h0 h1 h8 hg (by omega) hs), show am (own m w gd s) (i + 1 + 1) = if own m w gd s (i + 1) ≤ own m w gd s (am (own m w gd s) (i + 1)) then am (own m w gd s) (i + 1) else i + 1 from rfl]
    by_cases e : own m w gd s (i + 1) ≤ own m w gd s (am (own m w gd s) (i + 1))
    · rw [if_pos (nI_le e (by omega)), if_pos e, lets, nI_1]
    · rw [if_neg (nI_nleN (by omega) (by omega)), if_neg e, lets, nI_1]
  · show X9_whose_L4 N (nI s) (_, _) = _
    rw [X9_whose_L4, if_pos (nI_le (Nat.le_refl _) (by decide))]
theorem own_pos {m w s k : Nat} {gd : Nat → Nat} (hm : m ≤ 16) (hg : ∀ x, gd x < 4) (hs : s < 2 ^ m) (hk : s.testBit k = true) : 0 < own m w gd s (am (own m w gd s) 4) := by
  have h1 := am_max (own m w gd s) 4 (gd (k % w)) (hg _)
  have hkm := tb_m hs hk
  have h2 : pc 0 < own m w gd s (gd (k % w)) := by
    refine pc_lt (j := k) (fun i hi => by rw [Nat.zero_testBit] at hi; cases hi) (by omega) (Nat.zero_testBit _) ?_
    rw [Nat.testBit_and, hk]
    unfold gset
    rw [bs_tb]
    simp [hkm]
    omega
  omega
theorem owner_same {M N : Mem} {m w s k : Nat} {gd : Nat → Nat} (hd : Dm m w) (hl : LandR M N m w gd) (hs : s < 2 ^ m) (hk : s.testBit k = true) : F_X2_ownerOf M (nI s) = some (nI (am (own m w gd s) 4)) ∧ F_X9_whose N (nI s) = some (nI (am (own m w gd s) 4)) := by
  obtain ⟨a1, a2, a3, a4, a5, a6, a7, a8, a9⟩ := hl
  refine ⟨?_, mwhose_eq hd a3 a4 a8 a7 hs⟩
  rw [cown_eq a9 (lt16 hd hs), (own_am _ 3).2 (own_pos hd.le.1 a7 hs hk)]
