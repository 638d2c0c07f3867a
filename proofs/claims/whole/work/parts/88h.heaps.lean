/-! ===== heaps ===== -/
theorem mem_ext {M M' : Mem} (h1 : ∀ p k, gI M p k = gI M' p k) (h2 : ∀ p k, gJ M p k = gJ M' p k) : M = M' := by
  obtain ⟨a, b⟩ := M
  obtain ⟨a', b'⟩ := M'
  have e1 : a = a' := funext (fun p => funext (fun k => h1 p k))
  have e2 : b = b' := funext (fun p => funext (fun k => h2 p k))
  rw [e1, e2]
theorem sI_back (M : Mem) (p k : Nat) (v : Int32) : sI (sI M p k v) p k (gI M p k) = M := by
  apply mem_ext
  · intro q j
    rw [gI_sI, gI_sI]
    by_cases h : q = p ∧ j = k
    · rw [if_pos h, h.1, h.2]
    · rw [if_neg h, if_neg h]
  · intro q j
    rw [gJ_sI, gJ_sI]
def updN (o : Nat → Nat) (i v : Nat) : Nat → Nat := fun j => if j = i then v else o j
def hwC (L : Nat) (s : Nat → Nat) (n : Nat) : Nat → (Nat → Nat) → Nat
  | 0, _ => 1
  | r + 1, o => sm (fun i => if s (n - (r + 1)) ≤ o i then hwC L s n r (updN o i (o i - s (n - (r + 1)))) else 0) L
def allZ (o : Nat → Nat) : Nat → Bool
  | 0 => true
  | n + 1 => allZ o n && decide (o n = 0)
def hwM (L : Nat) (s : Nat → Nat) (n : Nat) : Nat → (Nat → Nat) → Nat
  | 0, o => b01 (allZ o L)
  | r + 1, o => sm (fun i => if s (n - (r + 1)) ≤ o i then hwM L s n r (updN o i (o i - s (n - (r + 1)))) else 0) L
def rsN (s : Nat → Nat) (n : Nat) : Nat → Nat
  | 0 => 0
  | r + 1 => s (n - (r + 1)) + rsN s n r
theorem allZ_iff (o : Nat → Nat) (n : Nat) : allZ o n = true ↔ sm o n = 0 := by
  induction n with
  | zero => simp [allZ, sm]
  | succ n ih =>
    rw [allZ, sm, Bool.and_eq_true, ih, decide_eq_true_iff]
    omega
theorem sm_updN {o : Nat → Nat} {i v n : Nat} (hi : i < n) : sm (updN o i v) n + o i = sm o n + v := by
  induction n with
  | zero => omega
  | succ n ih =>
    rw [sm, sm]
    by_cases e : i = n
    · subst e
      have : sm (updN o i v) i = sm o i := sm_congr (fun j hj => by unfold updN; rw [if_neg (by omega)])
      rw [this]
      unfold updN
      rw [if_pos rfl]
      omega
    · have := ih (by omega)
      have e2 : updN o i v n = o n := by unfold updN; rw [if_neg (fun z => e z.symm)]
      rw [e2]
      omega
theorem hw_eq (L : Nat) (s : Nat → Nat) (n : Nat) : ∀ r o, (sm o L = rsN s n r → hwM L s n r o = hwC L s n r o) ∧ (sm o L ≠ rsN s n r → hwM L s n r o = 0) := by
  intro r
  induction r with
  | zero =>
    intro o
    constructor
    · intro h
      rw [hwM, hwC, (allZ_iff o L).mpr h]
      rfl
    · intro h
      rw [hwM]
      cases e : allZ o L
      · rfl
      · exact absurd ((allZ_iff o L).mp e) h
  | succ r ih =>
    intro o
    constructor
    · intro h
      rw [hwM, hwC]
      apply sm_congr
      intro i hi
      by_cases e : s (n - (r + 1)) ≤ o i
      · rw [if_pos e, if_pos e]
        apply (ih _).1
        have := sm_updN (o := o) (v := o i - s (n - (r + 1))) hi
        rw [rsN] at h
        omega
      · rw [if_neg e, if_neg e]
    · intro h
      rw [hwM]
      apply sm_zero
      intro i hi
      by_cases e : s (n - (r + 1)) ≤ o i
      · rw [if_pos e]
        apply (ih _).2
        have := sm_updN (o := o) (v := o i - s (n - (r + 1))) hi
        rw [rsN] at h
        omega
      · rw [if_neg e]
theorem hwC_le {L : Nat} (hL : L ≤ 8) (s : Nat → Nat) (n : Nat) : ∀ r o, hwC L s n r o ≤ 8 ^ r := by
  intro r
  induction r with
  | zero => intro o; exact Nat.le_refl _
  | succ r ih =>
    intro o
    rw [hwC, Nat.pow_succ, Nat.mul_comm]
    refine Nat.le_trans (sm_le (b := 8 ^ r) (fun i _ => ?_)) (Nat.mul_le_mul_right _ hL)
    split
    · exact ih _
    · exact Nat.zero_le _
theorem rs_sum (s : Nat → Nat) (n : Nat) : ∀ r, r ≤ n → rsN s n r + sm s (n - r) = sm s n := by
  intro r
  induction r with
  | zero => intro _; rw [rsN, Nat.sub_zero]; omega
  | succ r ih =>
    intro hr
    have h1 := ih (by omega)
    rw [rsN]
    have h2 : n - r = (n - (r + 1)) + 1 := by omega
    rw [h2, sm] at h1
    omega
theorem ways_eq {p n L : Nat} {s : Nat → Nat} (hp : 26 ≤ p) (hn : n ≤ 6) (hL : L ≤ 8) (hs : ∀ j, j < n → s j ≤ 80) (hsl : n ≤ slen p) : ∀ r f, r < f → r ≤ n → ∀ (M : Mem) (o : Nat → Nat), gI M 9 3 = nI L → gI M p 1 = nI n → (∀ j, j < n → gI M (p + 1) j = nI (s j)) → (∀ i, i < L → gI M 24 i = nI (o i)) → (∀ i, o i ≤ 80) → F_X8_waysFrom f M p (nI (n - r)) = some (nI (hwC L s n r o), M) := by
  intro r
  induction r with
  | zero =>
    intro f hf hr M o h9 h1 h2 h24 ho
    obtain ⟨f', rfl⟩ : ∃ f', f = f' + 1 := ⟨f - 1, by omega⟩
    rw [F_X8_waysFrom, bd1e (show F_X5_size M p = some (nI n) by rw [F_X5_size, h1]), if_pos (nI_le (by omega) (by omega))]
    rfl
  | succ r ih =>
    intro f hf hr M o h9 h1 h2 h24 ho
    obtain ⟨f', rfl⟩ : ∃ f', f = f' + 1 := ⟨f - 1, by omega⟩
    have hsz := hs (n - (r + 1)) (by omega)
    rw [F_X8_waysFrom, bd1e (show F_X5_size M p = some (nI n) by rw [F_X5_size, h1]), if_neg (nI_nleN (by omega) (by omega)), if_pos (nI_lt (by omega) (by decide)), bd1e (get_in h1 (show n - (r + 1) < n by omega) hsl), h2 _ (by omega)]
    refine loop_fn' (fun i => (nI (sm (fun i => if s (n - (r + 1)) ≤ o i then hwC L s n r (updN o i (o i - s (n - (r + 1)))) else 0) i), nI i, M)) L rfl (fun i hi => ?_) ?_ (by show L < 200000; omega)
    · show X8_waysFrom_L28 _ _ _ _ (_, _, _) = _
      have hoi := ho i
      rw [X8_waysFrom_L28, h9, if_neg (nI_nleN hi (by omega)), if_neg (nI_nleN (show i < 8 by omega) (by decide)), chk_pos (inb_nI (by omega) (by decide)), clN (by omega), h24 i hi, sm]
      by_cases e : s (n - (r + 1)) ≤ o i
      · rw [if_neg (nI_nlt e (by omega)), chk_pos (inb_nI (by omega) (by decide)), chk_pos (inb_nI (by omega) (by decide)), nI_subN e, lets, if_pos e]
        have hr1 : nI (n - (r + 1)) + 1 = nI (n - r) := by rw [nI_1]; congr 1; omega
        have hrec := ih f' (by omega) (by omega) (sI M 24 i (nI (o i - s (n - (r + 1))))) (updN o i (o i - s (n - (r + 1)))) (by rw [gI_p (by decide)]; exact h9) (by rw [gI_p (by omega)]; exact h1) (fun j hj => by rw [gI_p (by omega)]; exact h2 j hj) (fun j hj => by
          rw [gI_sI]
          unfold updN
          by_cases ej : j = i
          · rw [if_pos ⟨rfl, ej⟩, if_pos ej]
          · rw [if_neg (fun z => ej z.2), if_neg ej, h24 j hj]) (fun j => by
          unfold updN
          have := ho j
          split <;> omega)
        rw [hr1, bd2e hrec, lets, chk_pos (inb_nI (by omega) (by decide)), chk_pos (inb_nI (by omega) (by decide)), gI_same, nI_add, nI_add, Nat.sub_add_cancel e, ← h24 i hi, sI_back]
        simp only [lets]
        rw [nI_1]
      · rw [if_pos (nI_lt (by omega) (by omega)), lets, nI_1, if_neg e]
        rfl
    · show X8_waysFrom_L28 _ _ _ _ (_, _, _) = _
      rw [X8_waysFrom_L28, h9, if_pos (nI_le (Nat.le_refl _) (by omega))]
      rfl
theorem heapOn_eq {j n L : Nat} {s : Nat → Nat} (hj : j < 6) (hn : n ≤ 6) (hL : L ≤ 8) (hs : ∀ j, j < n → s j ≤ 80) : ∀ r f, r < f → r ≤ n → ∀ (N : Mem) (o : Nat → Nat), gI N 0 23 = nI L → gI N 2 j = nI n → (∀ i, i < n → gI N 3 (40 * j + i) = nI (s i)) → (∀ i, i < L → gI N 17 i = nI (o i)) → (∀ i, o i ≤ 80) → F_X9_heapOn f N (nI j) (nI (n - r)) = some (lN (hwM L s n r o), N) := by
  intro r
  induction r with
  | zero =>
    intro f hf hr N o h9 h1 h2 h24 ho
    obtain ⟨f', rfl⟩ : ∃ f', f = f' + 1 := ⟨f - 1, by omega⟩
    have hl : loop (X9_heapOn_L15 (F_X9_heapOn f') N) FU (1, 0) = some (nI (b01 (allZ o L))) := by
      refine loop_fn' (fun i => (nI (b01 (allZ o i)), nI i)) L rfl (fun i hi => ?_) ?_ (by show L < 200000; omega)
      · show X9_heapOn_L15 _ N (_, _) = _
        have hoi := ho i
        rw [X9_heapOn_L15, h9, if_neg (nI_nleN hi (by omega)), allZ]
        cases allZ o i
        · rw [if_pos n0f, lets, nI_1]
          rfl
        · rw [if_neg n0t, chk_pos (inb_nI (by omega) (by decide)), clN (by omega), h24 i hi]
          by_cases e : o i = 0
          · rw [if_pos (show nI (o i) = 0 by rw [e]; rfl), lets, nI_1, decide_eq_true e]
            rfl
          · rw [if_neg (nI_ne0 (by omega) (by omega)), lets, nI_1, decide_eq_false e]
            rfl
      · show X9_heapOn_L15 _ N (_, _) = _
        rw [X9_heapOn_L15, h9, if_pos (nI_le (Nat.le_refl _) (by omega))]
    rw [F_X9_heapOn, chk_pos (inb_nI hj (by decide)), clN (by omega), h1, Nat.sub_zero, if_pos rfl, bd1e hl, hwM]
    cases allZ o L
    · rw [if_pos n0f]; rfl
    · rw [if_neg n0t]; rfl
  | succ r ih =>
    intro f hf hr N o h9 h1 h2 h24 ho
    obtain ⟨f', rfl⟩ : ∃ f', f = f' + 1 := ⟨f - 1, by omega⟩
    have hsz := hs (n - (r + 1)) (by omega)
    rw [F_X9_heapOn, chk_pos (inb_nI hj (by decide)), clN (by omega), h1, if_neg (fun z => by have := (nI_eq (by omega) (by omega)).mp z; omega)]
    have hrow : ∀ N1 : Mem, (∀ i, i < n → gI N1 3 (40 * j + i) = nI (s i)) → F_X9_rowAt N1 (nI j) (nI (n - (r + 1))) = some (nI (s (n - (r + 1)))) := fun N1 h => by rw [rowAt_eq hj (by omega), h _ (by omega)]
    refine loop_fn' (fun i => (lN (sm (fun i => if s (n - (r + 1)) ≤ o i then hwM L s n r (updN o i (o i - s (n - (r + 1)))) else 0) i), nI i, N)) L rfl (fun i hi => ?_) ?_ (by show L < 200000; omega)
    · show X9_heapOn_L65 _ _ _ (_, _, _) = _
      have hoi := ho i
      rw [X9_heapOn_L65, h9, if_neg (nI_nleN hi (by omega)), chk_pos (inb_nI (by omega) (by decide)), clN (by omega), bd1e (hrow N h2), h24 i hi, sm]
      by_cases e : s (n - (r + 1)) ≤ o i
      · rw [if_neg (nI_nlt e (by omega)), chk_pos (inb_nI (by omega) (by decide)), bd1e (hrow N h2), chk_pos (inb_nI (by omega) (by decide)), nI_subN e, lets, if_pos e]
        have hr1 : nI (n - (r + 1)) + 1 = nI (n - r) := by rw [nI_1]; congr 1; omega
        have h2' : ∀ k, k < n → gI (sI N 17 i (nI (o i - s (n - (r + 1))))) 3 (40 * j + k) = nI (s k) := fun k hk => by rw [gI_p (by decide)]; exact h2 k hk
        have hrec := ih f' (by omega) (by omega) (sI N 17 i (nI (o i - s (n - (r + 1))))) (updN o i (o i - s (n - (r + 1)))) (by rw [gI_p (by decide)]; exact h9) (by rw [gI_p (by decide)]; exact h1) h2' (fun j hj => by
          rw [gI_sI]
          unfold updN
          by_cases ej : j = i
          · rw [if_pos ⟨rfl, ej⟩, if_pos ej]
          · rw [if_neg (fun z => ej z.2), if_neg ej, h24 j hj]) (fun j => by
          unfold updN
          have := ho j
          split <;> omega)
        rw [hr1, bd2e hrec, lets, chk_pos (inb_nI (by omega) (by decide)), bd1e (hrow _ h2'), chk_pos (inb_nI (by omega) (by decide)), gI_same, nI_add, lN_add, Nat.sub_add_cancel e, ← h24 i hi, sI_back]
        simp only [lets]
        rw [nI_1]
      · rw [if_pos (nI_lt (by omega) (by omega)), lets, nI_1, if_neg e]
        rfl
    · show X9_heapOn_L65 _ _ _ (_, _, _) = _
      rw [X9_heapOn_L65, h9, if_pos (nI_le (Nat.le_refl _) (by omega))]
      rfl
/- the row of heaps -/
def okH (x : Int32) : Prop := ∃ a, 1 ≤ a ∧ a ≤ 80 ∧ x = nI a
theorem okH_cut (x : Int32) : (okH x ∧ ¬ x < 1 ∧ x ≤ nI 80) ∨ (¬ okH x ∧ (x < 1 ∨ nI 80 < x)) := by
  rcases cut 81 (by decide) x with z | ⟨a, ha, rfl⟩
  · refine Or.inr ⟨fun ⟨a, h1, h2, h3⟩ => out_ne (by decide) z (show a < 81 by omega) h3, ?_⟩
    rcases z with z | z
    · left
      rw [Int32.lt_iff_toInt_lt, Int32.toInt_zero] at z
      rw [Int32.lt_iff_toInt_lt, show (1 : Int32) = nI 1 from rfl, nI_toInt (by decide)]
      omega
    · exact Or.inr (lt_of_le z (by decide))
  · by_cases a0 : a = 0
    · subst a0
      refine Or.inr ⟨fun ⟨b, h1, h2, h3⟩ => ?_, Or.inl (by decide)⟩
      have := (nI_eq (a := 0) (b := b) (by decide) (by omega)).mp h3
      omega
    · exact Or.inl ⟨⟨a, by omega, by omega, rfl⟩, nI_nlt (b := 1) (by omega) (by omega), nI_le (by omega) (by decide)⟩
theorem whC_lp {M : Mem} {p n : Nat} {V : Nat → Int32} (h : rwC M p n V) (hn : n ≤ 40) : ∃ r, loop (X8_wrongHeaps_L30 M p) FU 0 = some r ∧ ((r = 0 ∧ ∀ i, i < n → okH (V i)) ∨ (r = nI 3 ∧ ∃ i, i < n ∧ ¬ okH (V i))) := by
  refine loop_inv (fun i st => st = nI i ∧ ∀ j, j < i → okH (V j)) (fun r => (r = 0 ∧ ∀ i, i < n → okH (V i)) ∨ (r = nI 3 ∧ ∃ i, i < n ∧ ¬ okH (V i))) n (fun i st hi hst => ?_) (by show n < 200000; omega) ⟨rfl, fun j hj => absurd hj (Nat.not_lt_zero _)⟩
  obtain ⟨e1, e2⟩ := hst
  subst e1
  by_cases e : i = n
  · subst e
    rw [X8_wrongHeaps_L30, bd1e h.1, if_pos (nI_le (Nat.le_refl _) (by omega))]
    exact Or.inr ⟨_, rfl, Or.inl ⟨rfl, e2⟩⟩
  · rw [X8_wrongHeaps_L30, bd1e h.1, if_neg (nI_nleN (by omega) (by omega)), bd1e (h.2 _ (by omega))]
    rcases okH_cut (V i) with ⟨z1, z2, z3⟩ | ⟨z1, z2⟩
    · rw [if_neg z2, bd1e (h.2 _ (by omega)), if_pos z3, lets, nI_1]
      refine Or.inl ⟨by omega, _, rfl, rfl, fun j hj => ?_⟩
      by_cases ej : j = i
      · subst ej; exact z1
      · exact e2 j (by omega)
    · right
      by_cases y : V i < 1
      · rw [if_pos y]
        exact ⟨_, rfl, Or.inr ⟨rfl, i, by omega, z1⟩⟩
      · rw [if_neg y, bd1e (h.2 _ (by omega)), if_neg (Int32.not_le.mpr (z2.resolve_left y))]
        exact ⟨_, rfl, Or.inr ⟨rfl, i, by omega, z1⟩⟩
theorem whM_lp {N : Mem} {r n : Nat} {V : Nat → Int32} (h : rwM N r n V) (hn : n ≤ 40) : ∃ x, loop (X9_heaps_L35 N (nI r)) FU 0 = some x ∧ ((x = .inl () ∧ ∀ i, i < n → okH (V i)) ∨ (x = .inr (-3, fndM N 3) ∧ ∃ i, i < n ∧ ¬ okH (V i))) := by
  have hr := h.1
  refine loop_inv (f := X9_heaps_L35 N (nI r)) (fun i st => st = nI i ∧ ∀ j, j < i → okH (V j)) (fun x => (x = .inl () ∧ ∀ i, i < n → okH (V i)) ∨ (x = .inr (-3, fndM N 3) ∧ ∃ i, i < n ∧ ¬ okH (V i))) n (fun i st hi hst => ?_) (by show n < 200000; omega) ⟨rfl, fun j hj => absurd hj (Nat.not_lt_zero _)⟩
  obtain ⟨e1, e2⟩ := hst
  subst e1
  by_cases e : i = n
  · subst e
    rw [X9_heaps_L35, chk_pos (inb_nI hr (by decide)), clN (by omega), h.2.1, if_pos (nI_le (Nat.le_refl _) (by omega))]
    exact Or.inr ⟨_, rfl, Or.inl ⟨rfl, e2⟩⟩
  · rw [X9_heaps_L35, chk_pos (inb_nI hr (by decide)), clN (by omega), h.2.1, if_neg (nI_nleN (by omega) (by omega)), bd1e (h.2.2 _ (by omega))]
    rcases okH_cut (V i) with ⟨z1, z2, z3⟩ | ⟨z1, z2⟩
    · rw [bd1e (in_yes z2 (Int32.not_lt.mpr z3)), if_neg n10, lets, nI_1]
      refine Or.inl ⟨by omega, _, rfl, rfl, fun j hj => ?_⟩
      by_cases ej : j = i
      · subst ej; exact z1
      · exact e2 j (by omega)
    · rw [bd1e (in_no z2), if_pos rfl, bd2e (meetk 3 (by decide) (by decide))]
      exact Or.inr ⟨_, rfl, Or.inr ⟨rfl, i, by omega, z1⟩⟩
theorem lN_sm {f : Nat → Int64} {g : Nat → Nat} {n : Nat} (h : ∀ i, i < n → f i = lN (g i)) : smJ f n = lN (sm g n) := by
  induction n with
  | zero => rfl
  | succ n ih => rw [smJ, sm, ih (fun i hi => h i (by omega)), h n (by omega), lN_add]
theorem lcE {a b : Nat} (ha : a < 2 ^ 63) (hb : b < 2 ^ 63) : (lg_cmp (lN a) (lN b) = 0) ↔ a = b := by
  have h : lg_cmp (lN a) (lN b) = 0 ↔ lN a = lN b := by
    unfold lg_cmp
    constructor
    · intro h
      split at h
      · cases h
      · split at h
        · assumption
        · cases h
    · intro h
      rw [h]
      rw [if_neg (fun y => lg_lt_ne y rfl), if_pos rfl]
  rw [h]
  exact lN_inj ha hb
theorem op_heaps {lw : Nat → Option Nat} (tl tt : Option Nat) {M N : Mem} {t : Nat} (ht : t ≤ 3100) (h : Rel t lw M N) (a1 : Int32) : ∃ (r : Int32) (M' : Mem) (N' : Mem), F_X8_heaps M a1 = some (r, M') ∧ F_X9_heaps N a1 = some (r, N') ∧ Rel (t + 1) lw M' N' := by
  rcases cut 6 (by decide) a1 with z | ⟨j, hj, rfl⟩
  · exact ⟨-1, M, N, by rw [F_X8_heaps, bd1e (rowOf_no z), oc_n], by rw [F_X9_heaps, bd2e (askedRow_no z), if_neg (by decide)], h.up⟩
  · have hsl := slen_row hj
    rcases h.2.1 j hj with ⟨e1, e2⟩ | ⟨n, en, e1, e2, e3⟩
    · refine ⟨-3, fndC M 1, fndM N 1, ?_, ?_, h.found (by decide)⟩
      · rw [F_X8_heaps, bd1e (rowOf_in hj), oc_s, chk_pos (isX5_row hj), bd1e (show F_X8_wrongHeaps M (26 + 2 * j) = some 1 by rw [F_X8_wrongHeaps, bd1e (missing_yes e1), if_neg (by decide)]), if_neg n10, bd2e found1]
      · rw [F_X9_heaps, bd2e (askedRow_ms hj e2), if_neg (by decide)]
    · have hc : rwC M (26 + 2 * j) n (fun i => gI N 3 (40 * j + i)) := rwC_of e1 (by omega) e3
      have hmm : rwM N j n (fun i => gI N 3 (40 * j + i)) := rwM_of hj en e2 (fun _ _ => rfl)
      have hM0 : F_X9_askedRow N (nI j) = some (0, N) := askedRow_in hj e2 en
      by_cases hsz : 1 ≤ n ∧ n ≤ 6
      · obtain ⟨x, x1, x2⟩ := whC_lp hc en
        obtain ⟨y, y1, y2⟩ := whM_lp hmm en
        have c1 : F_X8_wrongHeaps M (26 + 2 * j) = some x := by
          rw [F_X8_wrongHeaps, bd1e (missing_no e1 (by omega)), if_pos rfl, bd1e hc.1, if_neg (show ¬ nI n < 1 from nI_nlt (b := 1) hsz.1 (by omega)), bd1e hc.1, if_pos (nI_le hsz.2 (by decide)), x1]
        have hin : F_X9_in (nI n) 1 (nI 6) = some 1 := in_yes (nI_nlt (b := 1) hsz.1 (by omega)) (nI_nlt hsz.2 (by decide))
        rcases x2 with ⟨x2, x3⟩ | ⟨x2, i, x3, x4⟩ <;> rcases y2 with ⟨y2, y3⟩ | ⟨y2, i', y3, y4⟩
        · subst x2; subst y2
          obtain ⟨s, hs1, hs2⟩ : ∃ s : Nat → Nat, (∀ i, i < n → s i ≤ 80) ∧ ∀ i, i < n → gI N 3 (40 * j + i) = nI (s i) := by
            have key : ∀ i, ∃ a, (i < n → a ≤ 80) ∧ (i < n → gI N 3 (40 * j + i) = nI a) := by
              intro i
              by_cases hi : i < n
              · obtain ⟨a, _, h2, h3⟩ := x3 i hi
                exact ⟨a, fun _ => h2, fun _ => h3⟩
              · exact ⟨0, fun z => absurd z hi, fun z => absurd z hi⟩
            exact ⟨fun i => (key i).choose, fun i => (key i).choose_spec.1, fun i => (key i).choose_spec.2⟩
          obtain ⟨m, w, gd, d, e, hd, hw, he, hl, hg, hm, -⟩ := h.core
          have hle := hd.le
          obtain ⟨l1, l2, l3, l4, l5, l6, l7, l8, l9⟩ := hl
          obtain ⟨g1, g2, g3, g4, g5, g6, g7⟩ := hg
          have hT := dg_lt hd hw
          have hlen := HL_len hd hT
          obtain ⟨N', f1, f2, f3, f4, f5⟩ := layHoles_eq hd l3 l4 hw hm.1
          have hR := h.lay f4 f5
          have hlt := fun i hi => HL_lt (i := i) hd hT hi
          generalize hH : HL m w (dg d) = H at g4 g5 f2 f3 hlen hlt
          let o : Nat → Nat := fun i => volN d (H.getD i 0) 16
          have ho : ∀ i, o i ≤ 80 := fun i => volN_le hw.1 16
          -- the class
          have cL : loop (X8_heaps_L33 (26 + 2 * j)) FU (0, 0, M) = some (nI (sm o H.length), wrs M 24 0 (fun i => nI (o i)) H.length) := by
            refine loop_fn' (fun i => (nI (sm o i), nI i, wrs M 24 0 (fun i => nI (o i)) i)) H.length rfl (fun i hi => ?_) ?_ (by show H.length < 200000; omega)
            · show X8_heaps_L33 _ (_, _, _) = _
              have fr : ∀ q k, q ≠ 24 → gI (wrs M 24 0 (fun i => nI (o i)) i) q k = gI M q k := fun q k hq => by rw [gI_wrs, if_neg (fun z => hq z.1)]
              have hb := bitsOf_in (M := wrs M 24 0 (fun i => nI (o i)) i) (p := 9) (l := H) ((fr 9 3 (by decide)).trans g4) hlen (fun k hk => (fr 11 k (by decide)).trans (g5 k hk)) hi
              have hv := cvol_eq (M := wrs M 24 0 (fun i => nI (o i)) i) (p := 9) (d := d) (fun c hc => (fr 10 c (by decide)).trans (g1 c hc)) (lt16 hd (hlt i hi))
              rw [X8_heaps_L33, fr 9 3 (by decide), g4, if_neg (nI_nleN hi (by omega)), if_neg (nI_nleN (show i < 8 by omega) (by decide)), bd1e hb, bd1e hv, chk_pos (inb_nI (by omega) (by decide)), lets, chk_pos (inb_nI (by omega) (by decide)), clN (by omega), gI_same]
              simp only [lets]
              rw [nI_1, nI_add, wrs, Nat.zero_add]
              rfl
            · show X8_heaps_L33 _ (_, _, _) = _
              rw [X8_heaps_L33, show gI (wrs M 24 0 (fun i => nI (o i)) H.length) 9 3 = nI H.length from by rw [gI_wrs, if_neg (by omega)]; exact g4, if_pos (nI_le (Nat.le_refl _) (by omega))]
          have frC' : ∀ q k, q ≠ 24 → gI (wrs M 24 0 (fun i => nI (o i)) H.length) q k = gI M q k := fun q k hq => by rw [gI_wrs, if_neg (fun z => hq z.1)]
          have jC : ∀ q k, gJ (wrs M 24 0 (fun i => nI (o i)) H.length) q k = gJ M q k := fun q k => gJ_wrs _ _ _ _ _ _ _
          have v24 : ∀ i, i < H.length → gI (wrs M 24 0 (fun i => nI (o i)) H.length) 24 i = nI (o i) := fun i hi => by rw [gI_wrs, if_pos (by omega), Nat.sub_zero]
          generalize wrs M 24 0 (fun i => nI (o i)) H.length = M2 at cL frC' jC v24
          have e1' : gI M2 (26 + 2 * j) 1 = nI n := (frC' _ _ (by omega)).trans e1
          have e3' : ∀ i, i < n → gI M2 (26 + 2 * j + 1) i = nI (s i) := fun i hi => ((frC' _ _ (by omega)).trans (e3 i hi)).trans (hs2 i hi)
          have cS : F_X5_sum M2 (26 + 2 * j) = some (lN (sm s n)) := by
            rw [sum_eq e1' (by omega), lN_sm (g := s) (fun i hi => by
              have := hs1 i hi
              rw [e3' i hi, nI_l (by omega)])]
          have hso := sm_le (f := o) (n := H.length) (b := 80) (fun i _ => ho i)
          have hss := sm_le (f := s) (n := n) (b := 80) hs1
          have cW := ways_eq (p := 26 + 2 * j) (by omega) hsz.2 hlen hs1 (by omega) n 12 (by omega) (Nat.le_refl _) M2 o ((frC' 9 3 (by decide)).trans g4) e1' e3' v24 ho
          rw [Nat.sub_self] at cW
          have cW : F_X8_waysFrom 12 M2 (26 + 2 * j) 0 = _ := cW
          -- the model
          have q23 : ∀ i, gI (wrs N' 17 0 (fun i => nI (o i)) i) 0 23 = nI H.length := fun i => by rw [gI_wrs, if_neg (by omega)]; exact f2
          have frM' : ∀ i q k, q ≠ 17 → gI (wrs N' 17 0 (fun i => nI (o i)) i) q k = gI N' q k := fun i q k hq => by rw [gI_wrs, if_neg (fun z => hq z.1)]
          have v17 : ∀ i, i < H.length → gI (wrs N' 17 0 (fun i => nI (o i)) H.length) 17 i = nI (o i) := fun i hi => by rw [gI_wrs, if_pos (by omega), Nat.sub_zero]
          have mW := heapOn_eq hj hsz.2 hlen hs1 n 12 (by omega) (Nat.le_refl _) (wrs N' 17 0 (fun i => nI (o i)) H.length) o (q23 _) (by rw [frM' _ _ _ (by decide), f4 2 j (by decide) (by omega)]; exact e2) (fun i hi => by rw [frM' _ _ _ (by decide), f4 3 _ (by decide) (by omega)]; exact hs2 i hi) v17 ho
          rw [Nat.sub_self] at mW
          have mW : F_X9_heapOn 12 _ (nI j) 0 = _ := mW
          have hrs := rs_sum s n n (Nat.le_refl _)
          rw [Nat.sub_self, sm, Nat.add_zero] at hrs
          have hwle := hwC_le hlen s n n o
          have h86 : 8 ^ n ≤ 8 ^ 6 := Nat.pow_le_pow_right (by decide) hsz.2
          have h86' : (8 : Nat) ^ 6 = 262144 := by decide
          have hWle : hwM H.length s n n o ≤ 262144 := by
            by_cases q : sm o H.length = rsN s n n
            · rw [(hw_eq H.length s n n o).1 q]; omega
            · rw [(hw_eq H.length s n n o).2 q]; omega
          have jM : ∀ i q k, gJ (wrs N' 17 0 (fun i => nI (o i)) i) q k = gJ N' q k := fun i q k => gJ_wrs _ _ _ _ _ _ _
          have mL : loop (X9_heaps_L78 (nI j)) FU (0, N') = some (1, frM (wrs N' 17 0 (fun i => nI (o i)) H.length) (lN (hwM H.length s n n o / Nat.gcd (hwM H.length s n n o) 1)) (lN (1 / Nat.gcd (hwM H.length s n n o) 1))) := by
            refine loop_fn' (fun i => (nI i, wrs N' 17 0 (fun i => nI (o i)) i)) H.length rfl (fun i hi => ?_) ?_ (by show H.length < 200000; omega)
            · show X9_heaps_L78 _ (_, _) = _
              have hv := mvol_eq (N := wrs N' 17 0 (fun i => nI (o i)) i) (p := 7) (b := 0) (d := d) hle.1 (by rw [frM' _ _ _ (by decide), f4 0 11 (by decide) (by decide)]; exact l3) (by decide) (by decide) (fun c hc => by rw [frM' _ _ _ (by decide), f4 7 _ (by decide) (by omega), Nat.zero_add]; exact hm.1 c hc) (hlt i hi)
              have hv : F_X9_volume (wrs N' 17 0 (fun i => nI (o i)) i) 7 0 (nI (H.getD i 0)) = _ := hv
              rw [X9_heaps_L78, q23, if_neg (nI_nleN hi (by omega)), chk_pos (inb_nI (by omega) (by decide)), clN (by omega), frM' _ 11 _ (by decide), f3 i hi, bd1e hv, chk_pos (inb_nI (by omega) (by decide))]
              simp only [lets]
              rw [nI_1, wrs, Nat.zero_add]
            · show X9_heaps_L78 _ (_, _) = _
              rw [X9_heaps_L78, q23, if_pos (nI_le (Nat.le_refl _) (by omega)), bd2e mW, bd2e (show F_X9_part _ (lN (hwM H.length s n n o)) 1 = _ from part_eq (b := 1) (by omega) (by decide) (by decide))]
          have hR2 : Rel t lw M2 (wrs N' 17 0 (fun i => nI (o i)) H.length) := hR.frm (fun p k hp => frC' p k (by rintro rfl; simp [sRelC, sAllC, sRwC, sTxC, sGC, sToC] at hp)) (fun p k hp => frM' _ p k (by rintro rfl; simp [sRelM, sAllM, sRwM, sTxM, sGM, sToM] at hp)) (fun k => jC 0 k) ⟨jM _ _ _, jM _ _ _⟩
          refine ⟨1, _, _, ?_, ?_, hR2.frac (lN (hwM H.length s n n o / Nat.gcd (hwM H.length s n n o) 1)) (lN (1 / Nat.gcd (hwM H.length s n n o) 1))⟩
          · have hJ : X8_heaps_J119 M2 (lN (hwM H.length s n n o)) = some (1, frC M2 (lN (hwM H.length s n n o / Nat.gcd (hwM H.length s n n o) 1)) (lN (1 / Nat.gcd (hwM H.length s n n o) 1))) := by
              rw [X8_heaps_J119, bd2e (show F_X8_tellFraction M2 (lN (hwM H.length s n n o)) 1 = _ from tellFr_eq (b := 1) (by omega) (by decide) (by decide))]
            rw [F_X8_heaps, bd1e (rowOf_in hj), oc_s, chk_pos (isX5_row hj), bd1e c1, if_pos rfl, bd2e cL, bd1e cS, nI_l (by omega)]
            by_cases q : sm o H.length = rsN s n n
            · rw [if_pos ((lcE (by omega) (by omega)).mpr (by omega)), bd2e cW, nI_l (by omega), ← (hw_eq H.length s n n o).1 q, hJ]
            · rw [if_neg (fun z => by have := (lcE (by omega) (by omega)).mp z; omega)]
              rw [(hw_eq H.length s n n o).2 q] at hJ ⊢
              exact hJ
          · rw [F_X9_heaps, bd2e hM0, if_pos (by decide), chk_pos (inb_nI hj (by decide)), clN (by omega), e2, bd1e hin, if_neg n10, bd1e y1]
            show bd1 (F_X9_layHoles N) _ = _
            rw [bd1e f1, mL]
        · exact absurd (x3 i' y3) y4
        · exact absurd (y3 i x3) x4
        · subst x2; subst y2
          refine ⟨-3, fndC M 3, fndM N 3, ?_, ?_, h.found (by decide)⟩
          · rw [F_X8_heaps, bd1e (rowOf_in hj), oc_s, chk_pos (isX5_row hj), bd1e c1, if_neg (by decide), bd2e (foundk 3 (by decide) (by decide))]
          · rw [F_X9_heaps, bd2e hM0, if_pos (by decide), chk_pos (inb_nI hj (by decide)), clN (by omega), e2, bd1e hin, if_neg n10, bd1e y1]
            rfl
      · have c1 : F_X8_wrongHeaps M (26 + 2 * j) = some (nI 5) := by
          rw [F_X8_wrongHeaps, bd1e (missing_no e1 (by omega)), if_pos rfl, bd1e hc.1]
          by_cases n0 : n = 0
          · subst n0
            rw [if_pos (show nI 0 < 1 by decide)]
          · rw [if_neg (show ¬ nI n < 1 from nI_nlt (b := 1) (by omega) (by omega)), bd1e hc.1, if_neg (nI_nleN (by omega) (by omega))]
        have hin : F_X9_in (nI n) 1 (nI 6) = some 0 := by
          apply in_no
          by_cases n0 : n = 0
          · subst n0
            exact Or.inl (by decide)
          · exact Or.inr (nI_lt (by omega) (by omega))
        refine ⟨-3, fndC M 5, fndM N 5, ?_, ?_, h.found (by decide)⟩
        · rw [F_X8_heaps, bd1e (rowOf_in hj), oc_s, chk_pos (isX5_row hj), bd1e c1, if_neg (by decide), bd2e (foundk 5 (by decide) (by decide))]
        · rw [F_X9_heaps, bd2e hM0, if_pos (by decide), chk_pos (inb_nI hj (by decide)), clN (by omega), e2, bd1e hin, if_pos rfl, bd2e (meetk 5 (by decide) (by decide))]
