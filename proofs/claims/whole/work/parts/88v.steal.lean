/-! ===== steal: the moves ===== -/
def mvc (m e : Nat) : Nat := if e < m then e else e - m
def mvb (m : Nat) (d : Nat → Nat) (e : Nat) : Bool := if e < m then decide (d e < 5) else decide (0 < d (e - m))
def mva (m : Nat) (d : Nat → Nat) (e : Nat) : Nat := if e < m then d e + 1 else d (e - m) - 1
def apm (m : Nat) (d : Nat → Nat) (e : Nat) : Nat → Nat := updN d (mvc m e) (mva m d e)
def mkv (m e : Nat) : Nat := if e < m then e else e - m + 100
def rch (m : Nat) (G : (Nat → Nat) → Bool) : List Nat → (Nat → Nat) → Bool
  | [], d => G d
  | e :: l, d => (decide (e < 2 * m) && mvb m d e) && rch m G l (apm m d e)
theorem mvc_lt {m e : Nat} (h : e < 2 * m) : mvc m e < m := by
  unfold mvc
  split <;> omega
theorem mva_le {m e : Nat} {d : Nat → Nat} (h5 : ∀ c, d c ≤ 5) (h : mvb m d e = true) : mva m d e ≤ 5 := by
  unfold mvb at h
  unfold mva
  by_cases z : e < m
  · rw [if_pos z] at h ⊢
    rw [decide_eq_true_iff] at h
    omega
  · rw [if_neg z]
    have := h5 (e - m)
    omega
theorem apm_DW {m e : Nat} {d : Nat → Nat} (hw : DW m d) (he : e < 2 * m) (h : mvb m d e = true) : DW m (apm m d e) := by
  have hc := mvc_lt he
  have ha := mva_le hw.1 h
  refine ⟨fun c => ?_, fun c hcm => ?_⟩
  · unfold apm updN
    split
    · exact ha
    · exact hw.1 c
  · unfold apm updN
    rw [if_neg (by omega)]
    exact hw.2 c hcm
theorem upd_back (d : Nat → Nat) (c v : Nat) : updN (updN d c v) c (d c) = d := by
  funext k
  unfold updN
  by_cases e : k = c
  · rw [if_pos e, e]
  · rw [if_neg e, if_neg e]
theorem upd_at (d : Nat → Nat) (c v : Nat) : updN d c v c = v := if_pos rfl
theorem upd_ne {d : Nat → Nat} {c v k : Nat} (h : k ≠ c) : updN d c v k = d k := if_neg h
theorem upd_comm {d : Nat → Nat} {a b x y : Nat} (h : a ≠ b) : updN (updN d a x) b y = updN (updN d b y) a x := by
  funext k
  unfold updN
  by_cases e1 : k = a
  · by_cases e2 : k = b
    · omega
    · rw [if_neg e2, if_pos e1, if_pos e1]
  · by_cases e2 : k = b
    · rw [if_pos e2, if_neg e1, if_pos e2]
    · rw [if_neg e2, if_neg e1, if_neg e1, if_neg e2]
theorem mvb_of {m e : Nat} {d d' : Nat → Nat} (h : d' (mvc m e) = d (mvc m e)) : mvb m d' e = mvb m d e ∧ mva m d' e = mva m d e := by
  unfold mvc at h
  unfold mvb mva
  by_cases z : e < m
  · rw [if_pos z] at h
    rw [if_pos z, if_pos z, if_pos z, if_pos z, h]
    exact ⟨rfl, rfl⟩
  · rw [if_neg z] at h
    rw [if_neg z, if_neg z, if_neg z, if_neg z, h]
    exact ⟨rfl, rfl⟩
/-- two moves in the wrong order may change places, or undo each other -/
theorem rch_swap {m a b : Nat} {G : (Nat → Nat) → Bool} {l : List Nat} {d : Nat → Nat} (hab : b < a) (h : rch m G (a :: b :: l) d = true) : rch m G (b :: a :: l) d = true ∨ rch m G l d = true := by
  rw [rch, rch, Bool.and_eq_true, Bool.and_eq_true, Bool.and_eq_true, Bool.and_eq_true, decide_eq_true_iff, decide_eq_true_iff] at h
  obtain ⟨⟨h1, h2⟩, ⟨h3, h4⟩, h5⟩ := h
  by_cases hc : mvc m a = mvc m b
  · right
    have hb : b < m := by
      unfold mvc at hc
      rcases Nat.lt_or_ge b m with z | z
      · exact z
      · rw [if_neg (by omega), if_neg (by omega)] at hc
        omega
    have ha : ¬ a < m := by
      intro z
      unfold mvc at hc
      rw [if_pos z, if_pos hb] at hc
      omega
    have hcb : mvc m b = b := if_pos hb
    have hca : mvc m a = b := by rw [hc, hcb]
    have ham : a - m = b := by
      unfold mvc at hca
      rwa [if_neg ha] at hca
    unfold mvb at h2
    rw [if_neg ha, ham, decide_eq_true_iff] at h2
    have e : apm m (apm m d a) b = d := by
      unfold apm
      rw [hca, hcb]
      have e1 : mva m d a = d b - 1 := by unfold mva; rw [if_neg ha, ham]
      have e2 : mva m (updN d b (mva m d a)) b = d b := by
        rw [e1]
        unfold mva
        rw [if_pos hb, upd_at]
        omega
      rw [e2, upd_back]
    rw [e] at h5
    exact h5
  · left
    have k1 := mvb_of (m := m) (e := b) (d := d) (d' := apm m d a) (upd_ne (fun z => hc z.symm))
    have k2 := mvb_of (m := m) (e := a) (d := d) (d' := apm m d b) (upd_ne hc)
    rw [rch, rch, Bool.and_eq_true, Bool.and_eq_true, Bool.and_eq_true, Bool.and_eq_true, decide_eq_true_iff, decide_eq_true_iff]
    refine ⟨⟨h3, by rw [← k1.1]; exact h4⟩, ⟨h1, by rw [k2.1]; exact h2⟩, ?_⟩
    have e : apm m (apm m d b) a = apm m (apm m d a) b := by
      show updN (updN d (mvc m b) (mva m d b)) (mvc m a) (mva m (apm m d b) a) = updN (updN d (mvc m a) (mva m d a)) (mvc m b) (mva m (apm m d a) b)
      rw [k2.2, k1.2]
      exact upd_comm (fun z => hc z.symm)
    rw [e]
    exact h5
theorem rch_cons {m e : Nat} {G : (Nat → Nat) → Bool} {l : List Nat} {d : Nat → Nat} : rch m G (e :: l) d = true ↔ e < 2 * m ∧ mvb m d e = true ∧ rch m G l (apm m d e) = true := by
  rw [rch, Bool.and_eq_true, Bool.and_eq_true, decide_eq_true_iff, and_assoc]
/- rows of moves, the first ones first -/
def lxl : List Nat → List Nat → Prop
  | [], _ => True
  | _ :: _, [] => False
  | a :: l, b :: l' => a < b ∨ (a = b ∧ lxl l l')
theorem lxl_anti : ∀ l l', l.length = l'.length → lxl l l' → lxl l' l → l = l' := by
  intro l
  induction l with
  | nil =>
    intro l' h _ _
    cases l' with
    | nil => rfl
    | cons a l' => cases h
  | cons a l ih =>
    intro l' h h1 h2
    cases l' with
    | nil => cases h
    | cons b l' =>
      have k1 : a < b ∨ (a = b ∧ lxl l l') := h1
      have k2 : b < a ∨ (b = a ∧ lxl l' l) := h2
      have hl : l.length = l'.length := Nat.succ.inj h
      rcases k1 with k1 | ⟨e1, k1⟩
      · rcases k2 with k2 | ⟨k2, _⟩ <;> omega
      · rcases k2 with k2 | ⟨_, k2⟩
        · omega
        · rw [e1, ih l' hl k1 k2]
theorem lxl_rf : ∀ l, lxl l l := by
  intro l
  induction l with
  | nil => trivial
  | cons a l ih => exact Or.inr ⟨rfl, ih⟩
def gsr (nx : Nat → Nat) : List Nat → Nat → Prop
  | [], _ => True
  | e :: l, f => f ≤ e ∧ gsr nx l (nx e)
theorem gsr_0 : ∀ l, gsr (fun _ => 0) l 0 := by
  intro l
  induction l with
  | nil => trivial
  | cons e l ih => exact ⟨Nat.zero_le _, ih⟩
/-- what a search finds -/
def FR (m : Nat) (G : (Nat → Nat) → Bool) (nx : Nat → Nat) (r f : Nat) (d : Nat → Nat) : Option (List Nat) → Prop
  | none => ∀ l, l.length = r → gsr nx l f → rch m G l d = false
  | some l => l.length = r ∧ gsr nx l f ∧ rch m G l d = true ∧ ∀ l', l'.length = r → gsr nx l' f → rch m G l' d = true → lxl l l'
theorem FR_0 {m f : Nat} {G : (Nat → Nat) → Bool} {nx : Nat → Nat} {d : Nat → Nat} : FR m G nx 0 f d (if G d then some [] else none) := by
  cases e : G d
  · intro l hl _
    cases l with
    | nil => exact e
    | cons a l => cases hl
  · exact ⟨rfl, trivial, e, fun _ _ _ _ => trivial⟩
def dead (m : Nat) (G : (Nat → Nat) → Bool) (nx : Nat → Nat) (r : Nat) (d : Nat → Nat) (e : Nat) : Prop := ∀ l, l.length = r → gsr nx l (nx e) → rch m G (e :: l) d = false
theorem FR_none {m r f : Nat} {G : (Nat → Nat) → Bool} {nx : Nat → Nat} {d : Nat → Nat} (h : ∀ e, f ≤ e → e < 2 * m → dead m G nx r d e) : FR m G nx (r + 1) f d none := by
  intro l hl hg
  cases l with
  | nil => cases hl
  | cons e l =>
    have hg : f ≤ e ∧ gsr nx l (nx e) := hg
    cases er : rch m G (e :: l) d
    · rfl
    · have := h e hg.1 (rch_cons.mp er).1 l (Nat.succ.inj hl) hg.2
      rw [this] at er
      cases er
theorem FR_some {m r f e : Nat} {G : (Nat → Nat) → Bool} {nx : Nat → Nat} {d : Nat → Nat} {l : List Nat} (hf : f ≤ e) (he : e < 2 * m) (hv : mvb m d e = true) (h : ∀ e', f ≤ e' → e' < e → dead m G nx r d e') (hl : FR m G nx r (nx e) (apm m d e) (some l)) : FR m G nx (r + 1) f d (some (e :: l)) := by
  obtain ⟨a1, a2, a3, a4⟩ := hl
  refine ⟨by rw [List.length_cons, a1], ⟨hf, a2⟩, rch_cons.mpr ⟨he, hv, a3⟩, fun l' hl' hg' hr' => ?_⟩
  cases l' with
  | nil => cases hl'
  | cons e' l' =>
    have hg' : f ≤ e' ∧ gsr nx l' (nx e') := hg'
    have hl2 : l'.length = r := Nat.succ.inj hl'
    rcases Nat.lt_trichotomy e e' with z | z | z
    · exact Or.inl z
    · subst z
      exact Or.inr ⟨rfl, a4 l' hl2 hg'.2 (rch_cons.mp hr').2.2⟩
    · have := h e' hg'.1 z l' hl2 hg'.2
      rw [this] at hr'
      cases hr'
theorem dead_v {m r e : Nat} {G : (Nat → Nat) → Bool} {nx : Nat → Nat} {d : Nat → Nat} (h : mvb m d e = false) : dead m G nx r d e := by
  intro l _ _
  cases er : rch m G (e :: l) d
  · rfl
  · have := (rch_cons.mp er).2.1
    rw [h] at this
    cases this
theorem dead_n {m r e : Nat} {G : (Nat → Nat) → Bool} {nx : Nat → Nat} {d : Nat → Nat} (h : FR m G nx r (nx e) (apm m d e) none) : dead m G nx r d e := by
  intro l hl hg
  cases er : rch m G (e :: l) d
  · rfl
  · have := h l hl hg
    rw [(rch_cons.mp er).2.2] at this
    cases this
/-- the first row of fewest moves is in order: so both searches find the same -/
theorem steal_same {m r : Nat} {G : (Nat → Nat) → Bool} {d : Nat → Nat} {o o' : Option (List Nat)} (hr : r ≤ 3) (hmin : ∀ l, l.length < r → rch m G l d = false) (hc : FR m G (fun e => e) r 0 d o) (hm : FR m G (fun _ => 0) r 0 d o') : o = o' := by
  cases o' with
  | none =>
    cases o with
    | none => rfl
    | some l =>
      have := hm l hc.1 (gsr_0 l)
      rw [hc.2.2.1] at this
      cases this
  | some l =>
    obtain ⟨m1, m2, m3, m4⟩ := hm
    have hs : gsr (fun e => e) l 0 := by
      have hno : ∀ l0 : List Nat, l0.length < r → rch m G l0 d = true → False := fun l0 h1 h2 => by
        rw [hmin l0 h1] at h2
        cases h2
      match l, m1, m3, m4 with
      | [], _, _, _ => trivial
      | [_], _, _, _ => exact ⟨Nat.zero_le _, trivial⟩
      | [a, b], h1, h3, h4 =>
        have h1 : 2 = r := h1
        refine ⟨Nat.zero_le _, ?_, trivial⟩
        rcases Nat.lt_or_ge b a with z | z
        · exfalso
          rcases rch_swap z h3 with y | y
          · have : a < b ∨ (a = b ∧ lxl [b] [a]) := h4 [b, a] h1 (gsr_0 _) y
            omega
          · exact hno [] (by show 0 < r; omega) y
        · exact z
      | [a, b, c], h1, h3, h4 =>
        have h1 : 3 = r := h1
        have zab : a ≤ b := by
          rcases Nat.lt_or_ge b a with z | z
          · exfalso
            rcases rch_swap z h3 with y | y
            · have : a < b ∨ (a = b ∧ lxl [b, c] [a, c]) := h4 [b, a, c] h1 (gsr_0 _) y
              omega
            · exact hno [c] (by show 1 < r; omega) y
          · exact z
        have zbc : b ≤ c := by
          rcases Nat.lt_or_ge c b with z | z
          · exfalso
            have h3' := rch_cons.mp h3
            rcases rch_swap z h3'.2.2 with y | y
            · have : a < a ∨ (a = a ∧ (b < c ∨ (b = c ∧ lxl [c] [b]))) := h4 [a, c, b] h1 (gsr_0 _) (rch_cons.mpr ⟨h3'.1, h3'.2.1, y⟩)
              omega
            · exact hno [a] (by show 1 < r; omega) (rch_cons.mpr ⟨h3'.1, h3'.2.1, y⟩)
          · exact z
        exact ⟨Nat.zero_le _, zab, zbc, trivial⟩
      | _ :: _ :: _ :: _ :: l, h1, _, _ =>
        have h1 : l.length + 4 = r := h1
        omega
    cases o with
    | none =>
      have := hc l m1 hs
      rw [m3] at this
      cases this
    | some l' =>
      have h1 := hc.2.2.2 l m1 hs m3
      have h2 := m4 l' hc.1 (gsr_0 _) hc.2.2.1
      rw [lxl_anti l' l (by rw [hc.1, m1]) h1 h2]
