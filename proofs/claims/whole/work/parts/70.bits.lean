/-! ===== bits: Int32 words that stand for sets of cells ===== -/
def bt (x : Int32) (i : Nat) : Bool := x.toBitVec.getLsbD i
theorem b_ext {x y : Int32} (h : ∀ i, i < 32 → bt x i = bt y i) : x = y := Int32.toBitVec_inj.mp (BitVec.eq_of_getLsbD_eq (fun i hi => h i hi))
theorem b_or (x y : Int32) (i : Nat) : bt (x ||| y) i = (bt x i || bt y i) := by unfold bt; rw [Int32.toBitVec_or, BitVec.getLsbD_or]
theorem b_and (x y : Int32) (i : Nat) : bt (x &&& y) i = (bt x i && bt y i) := by unfold bt; rw [Int32.toBitVec_and, BitVec.getLsbD_and]
theorem b_xor (x y : Int32) (i : Nat) : bt (x ^^^ y) i = (bt x i ^^ bt y i) := by unfold bt; rw [Int32.toBitVec_xor, BitVec.getLsbD_xor]
theorem b_big {x : Int32} {i : Nat} (h : 32 ≤ i) : bt x i = false := BitVec.getLsbD_of_ge _ _ h
theorem b_m1 : ∀ i, i < 32 → bt (-1) i = true := by decide +kernel
theorem b_0 (i : Nat) : bt 0 i = false := BitVec.getLsbD_zero
theorem s_l : ∀ n, n < 32 → ((nI n &&& 31).toBitVec.smod 32).toNat = n := by decide +kernel
theorem s_u : ∀ n, n < 32 → (((nI n).toUInt32 &&& Int32.toUInt32 31).toBitVec % 32).toNat = n := by decide +kernel
theorem b_shl (n : Nat) (hn : n < 32) (x : Int32) {i : Nat} (hi : i < 32) : bt (x <<< (nI n &&& 31)) i = (decide (n ≤ i) && bt x (i - n)) := by
  unfold bt
  rw [Int32.toBitVec_shiftLeft]
  show (x.toBitVec <<< ((nI n &&& 31).toBitVec.smod 32).toNat).getLsbD i = _
  rw [s_l n hn, BitVec.getLsbD_shiftLeft]
  rcases Nat.lt_or_ge i n with h | h
  · simp [h, Nat.not_le.mpr h]
  · simp [hi, h, Nat.not_lt.mpr h]
theorem b_ushr (n : Nat) (hn : n < 32) (x : Int32) (i : Nat) : bt ((x.toUInt32 >>> ((nI n).toUInt32 &&& Int32.toUInt32 31)).toInt32) i = bt x (n + i) := by
  show (x.toUInt32 >>> ((nI n).toUInt32 &&& Int32.toUInt32 31)).toBitVec.getLsbD i = x.toUInt32.toBitVec.getLsbD (n + i)
  rw [UInt32.toBitVec_shiftRight]
  show (x.toUInt32.toBitVec >>> (((nI n).toUInt32 &&& Int32.toUInt32 31).toBitVec % 32).toNat).getLsbD i = _
  rw [s_u n hn, BitVec.getLsbD_ushiftRight]
theorem b_sshr (n : Nat) (hn : n < 32) (x : Int32) {i : Nat} (hi : i < 32) : bt (x >>> (nI n &&& 31)) i = if n + i < 32 then bt x (n + i) else bt x 31 := by
  unfold bt
  rw [Int32.toBitVec_shiftRight]
  show (x.toBitVec.sshiftRight ((nI n &&& 31).toBitVec.smod 32).toNat).getLsbD i = _
  rw [s_l n hn, BitVec.getLsbD_sshiftRight, BitVec.msb_eq_getLsbD_last]
  simp [hi]
theorem bt_nI (n : Nat) {i : Nat} (hi : i < 32) : bt (nI n) i = n.testBit i := by
  show (BitVec.ofNat 32 n).getLsbD i = _
  rw [BitVec.getLsbD_ofNat]
  simp [hi]
theorem nx_and (a b : Nat) : nI a &&& nI b = nI (a &&& b) := b_ext (fun i hi => by rw [b_and, bt_nI _ hi, bt_nI _ hi, bt_nI _ hi, Nat.testBit_and])
theorem nx_or (a b : Nat) : nI a ||| nI b = nI (a ||| b) := b_ext (fun i hi => by rw [b_or, bt_nI _ hi, bt_nI _ hi, bt_nI _ hi, Nat.testBit_or])
theorem nx_xor (a b : Nat) : nI a ^^^ nI b = nI (a ^^^ b) := b_ext (fun i hi => by rw [b_xor, bt_nI _ hi, bt_nI _ hi, bt_nI _ hi, Nat.testBit_xor])
theorem nx_or0 (a : Int32) : a ||| 0 = a := b_ext (fun i hi => by rw [b_or, b_0, Bool.or_false])
theorem nx_shl (a : Nat) {k : Nat} (hk : k < 32) : ish (nI a) (nI k) = nI (a * 2 ^ k) := by
  unfold ish
  apply b_ext
  intro i hi
  rw [b_shl k hk _ hi, bt_nI _ hi, bt_nI _ (by omega), ← Nat.shiftLeft_eq, Nat.testBit_shiftLeft]
theorem nx_one {k : Nat} (hk : k < 32) : ish 1 (nI k) = nI (2 ^ k) := by
  have := nx_shl 1 hk
  rw [Nat.one_mul] at this
  exact this
theorem nx_ushr {a k : Nat} (ha : a < 2 ^ 32) (hk : k < 32) : ius (nI a) (nI k) = nI (a / 2 ^ k) := by
  unfold ius
  apply b_ext
  intro i hi
  rw [b_ushr k hk, bt_nI _ hi, ← Nat.shiftRight_eq_div_pow, Nat.testBit_shiftRight]
  rcases Nat.lt_or_ge (k + i) 32 with h | h
  · rw [bt_nI _ h]
  · rw [b_big h, tb_lt ha h]
theorem nx_shr {a k : Nat} (ha : a < 2 ^ 31) (hk : k < 32) : isr (nI a) (nI k) = nI (a / 2 ^ k) := by
  unfold isr
  apply b_ext
  intro i hi
  rw [b_sshr k hk _ hi, bt_nI _ hi, ← Nat.shiftRight_eq_div_pow, Nat.testBit_shiftRight]
  rcases Nat.lt_or_ge (k + i) 32 with h | h
  · rw [if_pos h, bt_nI _ h]
  · rw [if_neg (by omega), bt_nI _ (by decide), tb_lt ha (by decide), tb_lt (n := 31) ha (by omega)]
theorem dif_tb (a b i : Nat) : (dif a b).testBit i = (a.testBit i && !b.testBit i) := by
  unfold dif
  rw [Nat.testBit_xor, Nat.testBit_and]
  cases a.testBit i <;> cases b.testBit i <;> rfl
theorem dif_lt {a b n : Nat} (h : a < 2 ^ n) : dif a b < 2 ^ n := by
  apply Nat.lt_pow_two_of_testBit
  intro i hi
  rw [dif_tb, tb_lt h hi]
  rfl
theorem nx_dif (a b : Nat) : nI a &&& (nI b ^^^ (-1)) = nI (dif a b) := by
  apply b_ext
  intro i hi
  rw [b_and, b_xor, b_m1 i hi, bt_nI _ hi, bt_nI _ hi, bt_nI _ hi, dif_tb]
  cases a.testBit i <;> cases b.testBit i <;> rfl
theorem and1_tb (s c : Nat) : s / 2 ^ c &&& 1 = if s.testBit c then 1 else 0 := by
  rw [Nat.and_one_is_mod, Nat.testBit_eq_decide_div_mod_eq]
  by_cases h : s / 2 ^ c % 2 = 1
  · simp [h]
  · simp [h]; omega
theorem nx_tb {s c : Nat} (hs : s < 2 ^ 31) (hc : c < 32) : (isr (nI s) (nI c)) &&& 1 = if s.testBit c then 1 else 0 := by
  rw [nx_shr hs hc]
  show nI _ &&& nI 1 = _
  rw [nx_and, and1_tb]
  split <;> rfl
theorem nx_utb {s c : Nat} (hs : s < 2 ^ 32) (hc : c < 32) : (ius (nI s) (nI c)) &&& 1 = if s.testBit c then 1 else 0 := by
  rw [nx_ushr hs hc]
  show nI _ &&& nI 1 = _
  rw [nx_and, and1_tb]
  split <;> rfl
theorem nx_u0 {s c : Nat} (hs : s < 2 ^ 32) (hc : c < 32) : ((ius (nI s) (nI c)) &&& 1 = 0) ↔ s.testBit c = false := by
  rw [nx_utb hs hc]
  cases s.testBit c <;> decide
theorem mhas {s c : Nat} (hs : s < 2 ^ 31) (hc : c < 32) : F_X9_has (nI s) (nI c) = some (if s.testBit c then 1 else 0) := by
  unfold F_X9_has
  rw [nx_tb hs hc]
  cases s.testBit c <;> rfl
/-- the least cell -/
theorem nx_low {s c : Nat} (hc : c < 32) (h1 : s.testBit c = true) (h0 : ∀ i, i < c → s.testBit i = false) : nI s &&& (-(nI s)) = nI (2 ^ c) := by
  apply b_ext
  intro i hi
  rw [b_and, bt_nI _ hi, bt_nI _ hi, tb_two]
  have e : bt (-(nI s)) i = (s.testBit i ^^ decide (∃ j, j < i ∧ s.testBit j = true)) := by
    unfold bt
    rw [Int32.toBitVec_neg, BitVec.getLsbD_neg]
    have e1 : (nI s).toBitVec.getLsbD i = s.testBit i := bt_nI s hi
    rw [e1, decide_eq_true hi, Bool.true_and]
    congr 1
    apply decide_eq_decide.mpr
    constructor
    · rintro ⟨j, hj, h⟩
      exact ⟨j, hj, by rw [← bt_nI s (show j < 32 by omega)]; exact h⟩
    · rintro ⟨j, hj, h⟩
      exact ⟨j, hj, by rw [← bt_nI s (show j < 32 by omega)] at h; exact h⟩
  rw [e]
  rcases Nat.lt_trichotomy i c with h | h | h
  · rw [h0 i h, decide_eq_false (show ¬ c = i by omega)]; rfl
  · subst h
    rw [h1, decide_eq_true rfl, decide_eq_false]
    · rfl
    · rintro ⟨j, hj, hh⟩
      rw [h0 j hj] at hh
      cases hh
  · rw [decide_eq_false (show ¬ c = i by omega), decide_eq_true (show ∃ j, j < i ∧ s.testBit j = true from ⟨c, h, h1⟩)]
    cases s.testBit i <;> rfl
theorem nx_low0 : (0 : Int32) &&& (-0) = 0 := by decide
/- how many cells -/
def pc (s : Nat) : Nat := sm (fun i => if s.testBit i then 1 else 0) 16
theorem pc_le (s : Nat) : pc s ≤ 16 := sm_le (b := 1) (fun i _ => by split <;> omega)
theorem sm_mono {f g : Nat → Nat} {n : Nat} (h : ∀ i, i < n → f i ≤ g i) : sm f n ≤ sm g n := by
  induction n with
  | zero => exact Nat.le_refl _
  | succ n ih =>
    have h1 := ih (fun i hi => h i (by omega))
    have h2 := h n (by omega)
    rw [sm, sm]
    omega
theorem sm_lt {f g : Nat → Nat} {n j : Nat} (h : ∀ i, i < n → f i ≤ g i) (hj : j < n) (hl : f j < g j) : sm f n < sm g n := by
  induction n with
  | zero => omega
  | succ n ih =>
    rw [sm, sm]
    by_cases e : j = n
    · subst e
      have h1 := sm_mono (n := j) (fun i hi => h i (by omega))
      omega
    · have h1 := ih (fun i hi => h i (by omega)) (by omega)
      have h2 := h n (by omega)
      omega
theorem pc_lt {s t j : Nat} (h : ∀ i, s.testBit i = true → t.testBit i = true) (hj : j < 16) (h0 : s.testBit j = false) (h1 : t.testBit j = true) : pc s < pc t := by
  refine sm_lt (fun i hi => ?_) hj ?_
  · cases e : s.testBit i
    · simp
    · simp [h i e]
  · simp [h0, h1]
def allp (P : Nat → Bool) : Nat → Nat → Bool
  | 0, b => P b
  | n + 1, b => allp P n b && allp P n (b + 2 ^ n)
theorem allp_of {P : Nat → Bool} : ∀ {n b : Nat}, allp P n b = true → ∀ s, s < 2 ^ n → P (b + s) = true := by
  intro n
  induction n with
  | zero => intro b h s hs; have : s = 0 := by omega
            subst this; exact h
  | succ n ih =>
    intro b h s hs
    rw [allp, Bool.and_eq_true] at h
    by_cases e : s < 2 ^ n
    · exact ih h.1 s e
    · have := ih h.2 (s - 2 ^ n) (by rw [Nat.pow_succ] at hs; omega)
      rwa [show b + 2 ^ n + (s - 2 ^ n) = b + s by omega] at this
def pcA (s : Nat) : Nat := s - ((s / 2) &&& 1431655765)
def pcB (x : Nat) : Nat := (x &&& 858993459) + ((x / 4) &&& 858993459)
def pcC (x : Nat) : Nat := (x + x / 16) &&& 252645135
def pcD (x : Nat) : Nat := x + x / 256
def pcE (x : Nat) : Nat := (x + x / 65536) &&& 63
def pcN (s : Nat) : Nat := s % 2 + s / 2 % 2 + s / 4 % 2 + s / 8 % 2 + s / 16 % 2 + s / 32 % 2 + s / 64 % 2 + s / 128 % 2 + s / 256 % 2 + s / 512 % 2 + s / 1024 % 2 + s / 2048 % 2 + s / 4096 % 2 + s / 8192 % 2 + s / 16384 % 2 + s / 32768 % 2
def pcT (s : Nat) : Bool := Nat.beq (pcE (pcD (pcC (pcB (pcA s))))) (pcN s)
theorem pc_all : allp pcT 16 0 = true := by decide +kernel
theorem tb01 (s i : Nat) : (if s.testBit i then 1 else 0) = s / 2 ^ i % 2 := by
  rw [← and1_tb, Nat.and_one_is_mod]
theorem pcN_eq (s : Nat) : pc s = pcN s := by
  unfold pc pcN
  simp only [sm, tb01, Nat.zero_add, Nat.pow_zero, Nat.div_one]
theorem pcE_eq {s : Nat} (h : s < 2 ^ 16) : pcE (pcD (pcC (pcB (pcA s)))) = pc s := by
  have := allp_of pc_all s h
  rw [Nat.zero_add] at this
  rw [pcN_eq]
  exact Nat.eq_of_beq_eq_true this
