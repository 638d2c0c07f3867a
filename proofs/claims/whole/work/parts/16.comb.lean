/-! ===== the pure language of the decompiled functions ===== -/
def FU : Nat := 200000
def chk {α : Type} (c : Prop) [Decidable c] (k : Option α) : Option α := if c then k else none
theorem chk_some {α : Type} {c : Prop} [Decidable c] {k : Option α} {x : α} (h : chk c k = some x) : c ∧ k = some x := by
  unfold chk at h
  split at h
  · next hc => exact ⟨hc, h⟩
  · cases h
theorem chk_pos {α : Type} {c : Prop} [Decidable c] {k : Option α} (hc : c) : chk c k = k := if_pos hc
def lett {α β : Type} (a : α) (f : α → β) : β := f a
theorem lett_some {α β : Type} {a : α} {f : α → Option β} {x : β} (h : lett a f = some x) : ∃ b, b = a ∧ f b = some x := ⟨a, rfl, h⟩
def oc {β : Type} (o : Option Nat) (a : β) (f : Nat → β) : β := match o with
  | none => a
  | some p => f p
theorem oc_none {β : Type} {a x : β} {f : Nat → β} (h : oc none a f = x) : a = x := h
theorem oc_some {β : Type} {a x : β} {f : Nat → β} {q : Nat} (h : oc (some q) a f = x) : f q = x := h
theorem it_pos {α : Type} {c : Prop} [Decidable c] {a b : Option α} {x : α} (hc : c) (h : (if c then a else b) = some x) : a = some x := by rwa [if_pos hc] at h
theorem it_neg {α : Type} {c : Prop} [Decidable c] {a b : Option α} {x : α} (hc : ¬ c) (h : (if c then a else b) = some x) : b = some x := by rwa [if_neg hc] at h
def inb (i : Int32) (n : Nat) : Bool := decide (¬ (i < 0 ∨ n ≤ i.toNatClampNeg))
theorem inb_in {i : Int32} {n : Nat} (h : inb i n = true) : vp_in i n := by unfold vp_in; exact of_decide_eq_true (p := ¬ (i < 0 ∨ n ≤ i.toNatClampNeg)) h
def loop {σ ρ : Type} (f : σ → Option (σ ⊕ ρ)) : Nat → σ → Option ρ
  | 0, _ => none
  | n + 1, s => match f s with
    | none => none
    | some (.inl s') => loop f n s'
    | some (.inr r) => some r
theorem loop_succ {σ ρ : Type} {f : σ → Option (σ ⊕ ρ)} {n : Nat} {s : σ} {e : ρ} (h : loop f (n + 1) s = some e) : ∃ x, f s = some x ∧ (∀ s', x = .inl s' → loop f n s' = some e) ∧ ∀ r, x = .inr r → r = e := by
  unfold loop at h
  cases hf : f s with
  | none => rw [hf] at h; cases h
  | some x =>
    rw [hf] at h
    refine ⟨x, rfl, fun s' e1 => ?_, fun r e1 => ?_⟩
    · subst e1; exact h
    · subst e1; exact Option.some.inj h
def bd1 {α γ : Type} (o : Option α) (f : α → Option γ) : Option γ := match o with
  | none => none
  | some x => f x
theorem bd1_some {α γ : Type} {o : Option α} {f : α → Option γ} {x : γ} (h : bd1 o f = some x) : ∃ a, o = some a ∧ f a = some x := by
  cases o with
  | none => cases h
  | some a => exact ⟨a, rfl, h⟩
theorem sm1 {α : Type} {a b : α} (h : some a = some b) : b = a := (Option.some.inj h).symm
theorem sm2 {α β : Type} {a c : α} {b d : β} (h : some (a, b) = some (c, d)) : c = a ∧ d = b := by
  have h := Option.some.inj h
  exact ⟨(congrArg Prod.fst h).symm, (congrArg Prod.snd h).symm⟩
theorem sm3 {α β γ : Type} {a a' : α} {b b' : β} {c c' : γ} (h : some (a, b, c) = some (a', b', c')) : a' = a ∧ b' = b ∧ c' = c := by
  have h := Option.some.inj h
  exact ⟨(congrArg Prod.fst h).symm, (congrArg (fun x => x.2.1) h).symm, (congrArg (fun x => x.2.2) h).symm⟩
theorem sm4 {α β γ δ : Type} {a a' : α} {b b' : β} {c c' : γ} {d d' : δ} (h : some (a, b, c, d) = some (a', b', c', d')) : a' = a ∧ b' = b ∧ c' = c ∧ d' = d := by
  have h := Option.some.inj h
  exact ⟨(congrArg Prod.fst h).symm, (congrArg (fun x => x.2.1) h).symm, (congrArg (fun x => x.2.2.1) h).symm, (congrArg (fun x => x.2.2.2) h).symm⟩
def un1 {α γ : Type} (f : α → γ) : α → γ := f
def un0 {γ : Type} (f : Unit → γ) : Unit → γ := f
def bd2 {α β γ : Type} (o : Option (α × β)) (f : α → β → Option γ) : Option γ := match o with
  | none => none
  | some x => f x.1 x.2
theorem bd2_some {α β γ : Type} {o : Option (α × β)} {f : α → β → Option γ} {x : γ} (h : bd2 o f = some x) : ∃ a0 a1, o = some (a0, a1) ∧ f a0 a1 = some x := by
  cases o with
  | none => cases h
  | some a => exact ⟨a.1, a.2, rfl, h⟩
def un2 {α β γ : Type} (f : α → β → γ) : α × β → γ := fun x => f x.1 x.2
def bd3 {α β δ γ : Type} (o : Option (α × β × δ)) (f : α → β → δ → Option γ) : Option γ := match o with
  | none => none
  | some x => f x.1 x.2.1 x.2.2
theorem bd3_some {α β δ γ : Type} {o : Option (α × β × δ)} {f : α → β → δ → Option γ} {x : γ} (h : bd3 o f = some x) : ∃ a0 a1 a2, o = some (a0, a1, a2) ∧ f a0 a1 a2 = some x := by
  cases o with
  | none => cases h
  | some a => exact ⟨a.1, a.2.1, a.2.2, rfl, h⟩
def un3 {α β δ γ : Type} (f : α → β → δ → γ) : α × β × δ → γ := fun x => f x.1 x.2.1 x.2.2
def bd4 {α β δ ε γ : Type} (o : Option (α × β × δ × ε)) (f : α → β → δ → ε → Option γ) : Option γ := match o with
  | none => none
  | some x => f x.1 x.2.1 x.2.2.1 x.2.2.2
theorem bd4_some {α β δ ε γ : Type} {o : Option (α × β × δ × ε)} {f : α → β → δ → ε → Option γ} {x : γ} (h : bd4 o f = some x) : ∃ a0 a1 a2 a3, o = some (a0, a1, a2, a3) ∧ f a0 a1 a2 a3 = some x := by
  cases o with
  | none => cases h
  | some a => exact ⟨a.1, a.2.1, a.2.2.1, a.2.2.2, rfl, h⟩
def un4 {α β δ ε γ : Type} (f : α → β → δ → ε → γ) : α × β × δ × ε → γ := fun x => f x.1 x.2.1 x.2.2.1 x.2.2.2
def bd5 {α β δ ε ζ γ : Type} (o : Option (α × β × δ × ε × ζ)) (f : α → β → δ → ε → ζ → Option γ) : Option γ := match o with
  | none => none
  | some x => f x.1 x.2.1 x.2.2.1 x.2.2.2.1 x.2.2.2.2
theorem bd5_some {α β δ ε ζ γ : Type} {o : Option (α × β × δ × ε × ζ)} {f : α → β → δ → ε → ζ → Option γ} {x : γ} (h : bd5 o f = some x) : ∃ a0 a1 a2 a3 a4, o = some (a0, a1, a2, a3, a4) ∧ f a0 a1 a2 a3 a4 = some x := by
  cases o with
  | none => cases h
  | some a => exact ⟨a.1, a.2.1, a.2.2.1, a.2.2.2.1, a.2.2.2.2, rfl, h⟩
def un5 {α β δ ε ζ γ : Type} (f : α → β → δ → ε → ζ → γ) : α × β × δ × ε × ζ → γ := fun x => f x.1 x.2.1 x.2.2.1 x.2.2.2.1 x.2.2.2.2
def bd6 {α β δ ε ζ η γ : Type} (o : Option (α × β × δ × ε × ζ × η)) (f : α → β → δ → ε → ζ → η → Option γ) : Option γ := match o with
  | none => none
  | some x => f x.1 x.2.1 x.2.2.1 x.2.2.2.1 x.2.2.2.2.1 x.2.2.2.2.2
theorem bd6_some {α β δ ε ζ η γ : Type} {o : Option (α × β × δ × ε × ζ × η)} {f : α → β → δ → ε → ζ → η → Option γ} {x : γ} (h : bd6 o f = some x) : ∃ a0 a1 a2 a3 a4 a5, o = some (a0, a1, a2, a3, a4, a5) ∧ f a0 a1 a2 a3 a4 a5 = some x := by
  cases o with
  | none => cases h
  | some a => exact ⟨a.1, a.2.1, a.2.2.1, a.2.2.2.1, a.2.2.2.2.1, a.2.2.2.2.2, rfl, h⟩
def un6 {α β δ ε ζ η γ : Type} (f : α → β → δ → ε → ζ → η → γ) : α × β × δ × ε × ζ × η → γ := fun x => f x.1 x.2.1 x.2.2.1 x.2.2.2.1 x.2.2.2.2.1 x.2.2.2.2.2
def bd7 {α β δ ε ζ η θ γ : Type} (o : Option (α × β × δ × ε × ζ × η × θ)) (f : α → β → δ → ε → ζ → η → θ → Option γ) : Option γ := match o with
  | none => none
  | some x => f x.1 x.2.1 x.2.2.1 x.2.2.2.1 x.2.2.2.2.1 x.2.2.2.2.2.1 x.2.2.2.2.2.2
theorem bd7_some {α β δ ε ζ η θ γ : Type} {o : Option (α × β × δ × ε × ζ × η × θ)} {f : α → β → δ → ε → ζ → η → θ → Option γ} {x : γ} (h : bd7 o f = some x) : ∃ a0 a1 a2 a3 a4 a5 a6, o = some (a0, a1, a2, a3, a4, a5, a6) ∧ f a0 a1 a2 a3 a4 a5 a6 = some x := by
  cases o with
  | none => cases h
  | some a => exact ⟨a.1, a.2.1, a.2.2.1, a.2.2.2.1, a.2.2.2.2.1, a.2.2.2.2.2.1, a.2.2.2.2.2.2, rfl, h⟩
def un7 {α β δ ε ζ η θ γ : Type} (f : α → β → δ → ε → ζ → η → θ → γ) : α × β × δ × ε × ζ × η × θ → γ := fun x => f x.1 x.2.1 x.2.2.1 x.2.2.2.1 x.2.2.2.2.1 x.2.2.2.2.2.1 x.2.2.2.2.2.2
def bd8 {α β δ ε ζ η θ ι γ : Type} (o : Option (α × β × δ × ε × ζ × η × θ × ι)) (f : α → β → δ → ε → ζ → η → θ → ι → Option γ) : Option γ := match o with
  | none => none
  | some x => f x.1 x.2.1 x.2.2.1 x.2.2.2.1 x.2.2.2.2.1 x.2.2.2.2.2.1 x.2.2.2.2.2.2.1 x.2.2.2.2.2.2.2
theorem bd8_some {α β δ ε ζ η θ ι γ : Type} {o : Option (α × β × δ × ε × ζ × η × θ × ι)} {f : α → β → δ → ε → ζ → η → θ → ι → Option γ} {x : γ} (h : bd8 o f = some x) : ∃ a0 a1 a2 a3 a4 a5 a6 a7, o = some (a0, a1, a2, a3, a4, a5, a6, a7) ∧ f a0 a1 a2 a3 a4 a5 a6 a7 = some x := by
  cases o with
  | none => cases h
  | some a => exact ⟨a.1, a.2.1, a.2.2.1, a.2.2.2.1, a.2.2.2.2.1, a.2.2.2.2.2.1, a.2.2.2.2.2.2.1, a.2.2.2.2.2.2.2, rfl, h⟩
def un8 {α β δ ε ζ η θ ι γ : Type} (f : α → β → δ → ε → ζ → η → θ → ι → γ) : α × β × δ × ε × ζ × η × θ × ι → γ := fun x => f x.1 x.2.1 x.2.2.1 x.2.2.2.1 x.2.2.2.2.1 x.2.2.2.2.2.1 x.2.2.2.2.2.2.1 x.2.2.2.2.2.2.2
def bd9 {α β δ ε ζ η θ ι κ γ : Type} (o : Option (α × β × δ × ε × ζ × η × θ × ι × κ)) (f : α → β → δ → ε → ζ → η → θ → ι → κ → Option γ) : Option γ := match o with
  | none => none
  | some x => f x.1 x.2.1 x.2.2.1 x.2.2.2.1 x.2.2.2.2.1 x.2.2.2.2.2.1 x.2.2.2.2.2.2.1 x.2.2.2.2.2.2.2.1 x.2.2.2.2.2.2.2.2
theorem bd9_some {α β δ ε ζ η θ ι κ γ : Type} {o : Option (α × β × δ × ε × ζ × η × θ × ι × κ)} {f : α → β → δ → ε → ζ → η → θ → ι → κ → Option γ} {x : γ} (h : bd9 o f = some x) : ∃ a0 a1 a2 a3 a4 a5 a6 a7 a8, o = some (a0, a1, a2, a3, a4, a5, a6, a7, a8) ∧ f a0 a1 a2 a3 a4 a5 a6 a7 a8 = some x := by
  cases o with
  | none => cases h
  | some a => exact ⟨a.1, a.2.1, a.2.2.1, a.2.2.2.1, a.2.2.2.2.1, a.2.2.2.2.2.1, a.2.2.2.2.2.2.1, a.2.2.2.2.2.2.2.1, a.2.2.2.2.2.2.2.2, rfl, h⟩
def un9 {α β δ ε ζ η θ ι κ γ : Type} (f : α → β → δ → ε → ζ → η → θ → ι → κ → γ) : α × β × δ × ε × ζ × η × θ × ι × κ → γ := fun x => f x.1 x.2.1 x.2.2.1 x.2.2.2.1 x.2.2.2.2.1 x.2.2.2.2.2.1 x.2.2.2.2.2.2.1 x.2.2.2.2.2.2.2.1 x.2.2.2.2.2.2.2.2
def bd10 {α β δ ε ζ η θ ι κ μ γ : Type} (o : Option (α × β × δ × ε × ζ × η × θ × ι × κ × μ)) (f : α → β → δ → ε → ζ → η → θ → ι → κ → μ → Option γ) : Option γ := match o with
  | none => none
  | some x => f x.1 x.2.1 x.2.2.1 x.2.2.2.1 x.2.2.2.2.1 x.2.2.2.2.2.1 x.2.2.2.2.2.2.1 x.2.2.2.2.2.2.2.1 x.2.2.2.2.2.2.2.2.1 x.2.2.2.2.2.2.2.2.2
theorem bd10_some {α β δ ε ζ η θ ι κ μ γ : Type} {o : Option (α × β × δ × ε × ζ × η × θ × ι × κ × μ)} {f : α → β → δ → ε → ζ → η → θ → ι → κ → μ → Option γ} {x : γ} (h : bd10 o f = some x) : ∃ a0 a1 a2 a3 a4 a5 a6 a7 a8 a9, o = some (a0, a1, a2, a3, a4, a5, a6, a7, a8, a9) ∧ f a0 a1 a2 a3 a4 a5 a6 a7 a8 a9 = some x := by
  cases o with
  | none => cases h
  | some a => exact ⟨a.1, a.2.1, a.2.2.1, a.2.2.2.1, a.2.2.2.2.1, a.2.2.2.2.2.1, a.2.2.2.2.2.2.1, a.2.2.2.2.2.2.2.1, a.2.2.2.2.2.2.2.2.1, a.2.2.2.2.2.2.2.2.2, rfl, h⟩
def un10 {α β δ ε ζ η θ ι κ μ γ : Type} (f : α → β → δ → ε → ζ → η → θ → ι → κ → μ → γ) : α × β × δ × ε × ζ × η × θ × ι × κ × μ → γ := fun x => f x.1 x.2.1 x.2.2.1 x.2.2.2.1 x.2.2.2.2.1 x.2.2.2.2.2.1 x.2.2.2.2.2.2.1 x.2.2.2.2.2.2.2.1 x.2.2.2.2.2.2.2.2.1 x.2.2.2.2.2.2.2.2.2
theorem elim_l {α β γ : Type} {f : α → γ} {g : β → γ} {x : α} {y : γ} (h : Sum.elim f g (.inl x) = y) : f x = y := h
theorem elim_r {α β γ : Type} {f : α → γ} {g : β → γ} {x : β} {y : γ} (h : Sum.elim f g (.inr x) = y) : g x = y := h
theorem un0_ap {γ : Type} {f : Unit → γ} {y : γ} (h : un0 f () = y) : f () = y := h
theorem un1_ap {α γ : Type} {f : α → γ} {a : α} {y : γ} (h : un1 f a = y) : f a = y := h
theorem un2_ap {α β γ : Type} {f : α → β → γ} {a0 : α} {a1 : β} {y : γ} (h : un2 f (a0, a1) = y) : f a0 a1 = y := h
theorem un3_ap {α β δ γ : Type} {f : α → β → δ → γ} {a0 : α} {a1 : β} {a2 : δ} {y : γ} (h : un3 f (a0, a1, a2) = y) : f a0 a1 a2 = y := h
theorem un4_ap {α β δ ε γ : Type} {f : α → β → δ → ε → γ} {a0 : α} {a1 : β} {a2 : δ} {a3 : ε} {y : γ} (h : un4 f (a0, a1, a2, a3) = y) : f a0 a1 a2 a3 = y := h
theorem un5_ap {α β δ ε ζ γ : Type} {f : α → β → δ → ε → ζ → γ} {a0 : α} {a1 : β} {a2 : δ} {a3 : ε} {a4 : ζ} {y : γ} (h : un5 f (a0, a1, a2, a3, a4) = y) : f a0 a1 a2 a3 a4 = y := h
theorem un6_ap {α β δ ε ζ η γ : Type} {f : α → β → δ → ε → ζ → η → γ} {a0 : α} {a1 : β} {a2 : δ} {a3 : ε} {a4 : ζ} {a5 : η} {y : γ} (h : un6 f (a0, a1, a2, a3, a4, a5) = y) : f a0 a1 a2 a3 a4 a5 = y := h
theorem un7_ap {α β δ ε ζ η θ γ : Type} {f : α → β → δ → ε → ζ → η → θ → γ} {a0 : α} {a1 : β} {a2 : δ} {a3 : ε} {a4 : ζ} {a5 : η} {a6 : θ} {y : γ} (h : un7 f (a0, a1, a2, a3, a4, a5, a6) = y) : f a0 a1 a2 a3 a4 a5 a6 = y := h
theorem un8_ap {α β δ ε ζ η θ ι γ : Type} {f : α → β → δ → ε → ζ → η → θ → ι → γ} {a0 : α} {a1 : β} {a2 : δ} {a3 : ε} {a4 : ζ} {a5 : η} {a6 : θ} {a7 : ι} {y : γ} (h : un8 f (a0, a1, a2, a3, a4, a5, a6, a7) = y) : f a0 a1 a2 a3 a4 a5 a6 a7 = y := h
theorem un9_ap {α β δ ε ζ η θ ι κ γ : Type} {f : α → β → δ → ε → ζ → η → θ → ι → κ → γ} {a0 : α} {a1 : β} {a2 : δ} {a3 : ε} {a4 : ζ} {a5 : η} {a6 : θ} {a7 : ι} {a8 : κ} {y : γ} (h : un9 f (a0, a1, a2, a3, a4, a5, a6, a7, a8) = y) : f a0 a1 a2 a3 a4 a5 a6 a7 a8 = y := h
theorem un10_ap {α β δ ε ζ η θ ι κ μ γ : Type} {f : α → β → δ → ε → ζ → η → θ → ι → κ → μ → γ} {a0 : α} {a1 : β} {a2 : δ} {a3 : ε} {a4 : ζ} {a5 : η} {a6 : θ} {a7 : ι} {a8 : κ} {a9 : μ} {y : γ} (h : un10 f (a0, a1, a2, a3, a4, a5, a6, a7, a8, a9) = y) : f a0 a1 a2 a3 a4 a5 a6 a7 a8 a9 = y := h
def LAYC : List Sh := [(7, 0), (35, 6), (35, 4), (4, 0), (20, 16), (20, 4), (20, 6), (2, 0), (20, 4), (1, 0), (20, 16), (20, 8), (31, 3), (33, 6), (33, 6), (0, 0), (20, 40), (20, 40), (20, 40), (6, 0), (20, 3), (1, 0), (20, 16), (20, 8), (20, 8), (20, 6), (5, 0), (20, 40), (5, 0), (20, 40), (5, 0), (20, 40), (5, 0), (20, 40), (5, 0), (20, 40), (5, 0), (20, 40), (5, 0), (20, 60), (5, 0), (20, 60), (5, 0), (20, 60), (5, 0), (20, 60), (1, 0), (20, 16), (20, 8), (1, 0), (20, 16), (20, 8), (1, 0), (20, 16), (20, 8), (3, 0), (3, 0), (3, 0), (3, 0), (3, 0), (3, 0)]
def LAYM : List Sh := [(8, 0), (20, 6), (20, 6), (20, 240), (20, 40), (20, 4), (20, 240), (20, 16), (20, 4), (20, 6), (20, 26), (20, 8), (20, 8), (20, 680), (20, 3), (20, 51), (20, 3), (20, 8), (21, 6)]
theorem lyC_0 : LAYC[0]? = some (7, 0) := rfl
theorem lyC_1 : LAYC[1]? = some (35, 6) := rfl
theorem lyC_2 : LAYC[2]? = some (35, 4) := rfl
theorem lyC_3 : LAYC[3]? = some (4, 0) := rfl
theorem lyC_4 : LAYC[4]? = some (20, 16) := rfl
theorem lyC_5 : LAYC[5]? = some (20, 4) := rfl
theorem lyC_6 : LAYC[6]? = some (20, 6) := rfl
theorem lyC_7 : LAYC[7]? = some (2, 0) := rfl
theorem lyC_8 : LAYC[8]? = some (20, 4) := rfl
theorem lyC_9 : LAYC[9]? = some (1, 0) := rfl
theorem lyC_10 : LAYC[10]? = some (20, 16) := rfl
theorem lyC_11 : LAYC[11]? = some (20, 8) := rfl
theorem lyC_12 : LAYC[12]? = some (31, 3) := rfl
theorem lyC_13 : LAYC[13]? = some (33, 6) := rfl
theorem lyC_14 : LAYC[14]? = some (33, 6) := rfl
theorem lyC_15 : LAYC[15]? = some (0, 0) := rfl
theorem lyC_16 : LAYC[16]? = some (20, 40) := rfl
theorem lyC_17 : LAYC[17]? = some (20, 40) := rfl
theorem lyC_18 : LAYC[18]? = some (20, 40) := rfl
theorem lyC_19 : LAYC[19]? = some (6, 0) := rfl
theorem lyC_20 : LAYC[20]? = some (20, 3) := rfl
theorem lyC_21 : LAYC[21]? = some (1, 0) := rfl
theorem lyC_22 : LAYC[22]? = some (20, 16) := rfl
theorem lyC_23 : LAYC[23]? = some (20, 8) := rfl
theorem lyC_24 : LAYC[24]? = some (20, 8) := rfl
theorem lyC_25 : LAYC[25]? = some (20, 6) := rfl
theorem lyC_26 : LAYC[26]? = some (5, 0) := rfl
theorem lyC_27 : LAYC[27]? = some (20, 40) := rfl
theorem lyC_28 : LAYC[28]? = some (5, 0) := rfl
theorem lyC_29 : LAYC[29]? = some (20, 40) := rfl
theorem lyC_30 : LAYC[30]? = some (5, 0) := rfl
theorem lyC_31 : LAYC[31]? = some (20, 40) := rfl
theorem lyC_32 : LAYC[32]? = some (5, 0) := rfl
theorem lyC_33 : LAYC[33]? = some (20, 40) := rfl
theorem lyC_34 : LAYC[34]? = some (5, 0) := rfl
theorem lyC_35 : LAYC[35]? = some (20, 40) := rfl
theorem lyC_36 : LAYC[36]? = some (5, 0) := rfl
theorem lyC_37 : LAYC[37]? = some (20, 40) := rfl
theorem lyC_38 : LAYC[38]? = some (5, 0) := rfl
theorem lyC_39 : LAYC[39]? = some (20, 60) := rfl
theorem lyC_40 : LAYC[40]? = some (5, 0) := rfl
theorem lyC_41 : LAYC[41]? = some (20, 60) := rfl
theorem lyC_42 : LAYC[42]? = some (5, 0) := rfl
theorem lyC_43 : LAYC[43]? = some (20, 60) := rfl
theorem lyC_44 : LAYC[44]? = some (5, 0) := rfl
theorem lyC_45 : LAYC[45]? = some (20, 60) := rfl
theorem lyC_46 : LAYC[46]? = some (1, 0) := rfl
theorem lyC_47 : LAYC[47]? = some (20, 16) := rfl
theorem lyC_48 : LAYC[48]? = some (20, 8) := rfl
theorem lyC_49 : LAYC[49]? = some (1, 0) := rfl
theorem lyC_50 : LAYC[50]? = some (20, 16) := rfl
theorem lyC_51 : LAYC[51]? = some (20, 8) := rfl
theorem lyC_52 : LAYC[52]? = some (1, 0) := rfl
theorem lyC_53 : LAYC[53]? = some (20, 16) := rfl
theorem lyC_54 : LAYC[54]? = some (20, 8) := rfl
theorem lyC_55 : LAYC[55]? = some (3, 0) := rfl
theorem lyC_56 : LAYC[56]? = some (3, 0) := rfl
theorem lyC_57 : LAYC[57]? = some (3, 0) := rfl
theorem lyC_58 : LAYC[58]? = some (3, 0) := rfl
theorem lyC_59 : LAYC[59]? = some (3, 0) := rfl
theorem lyC_60 : LAYC[60]? = some (3, 0) := rfl
theorem lyM_0 : LAYM[0]? = some (8, 0) := rfl
theorem lyM_1 : LAYM[1]? = some (20, 6) := rfl
theorem lyM_2 : LAYM[2]? = some (20, 6) := rfl
theorem lyM_3 : LAYM[3]? = some (20, 240) := rfl
theorem lyM_4 : LAYM[4]? = some (20, 40) := rfl
theorem lyM_5 : LAYM[5]? = some (20, 4) := rfl
theorem lyM_6 : LAYM[6]? = some (20, 240) := rfl
theorem lyM_7 : LAYM[7]? = some (20, 16) := rfl
theorem lyM_8 : LAYM[8]? = some (20, 4) := rfl
theorem lyM_9 : LAYM[9]? = some (20, 6) := rfl
theorem lyM_10 : LAYM[10]? = some (20, 26) := rfl
theorem lyM_11 : LAYM[11]? = some (20, 8) := rfl
theorem lyM_12 : LAYM[12]? = some (20, 8) := rfl
theorem lyM_13 : LAYM[13]? = some (20, 680) := rfl
theorem lyM_14 : LAYM[14]? = some (20, 3) := rfl
theorem lyM_15 : LAYM[15]? = some (20, 51) := rfl
theorem lyM_16 : LAYM[16]? = some (20, 3) := rfl
theorem lyM_17 : LAYM[17]? = some (20, 8) := rfl
theorem lyM_18 : LAYM[18]? = some (21, 6) := rfl
def finC (p k : Nat) : Option Nat := match p with
  | 0 => (match k with | 0 => some 1 | 1 => some 2 | 2 => some 3 | 3 => some 7 | 4 => some 9 | 5 => some 12 | 6 => some 13 | 7 => some 14 | 9 => some 15 | 10 => some 19 | 11 => some 24 | 16 => some 25 | _ => none)
  | 1 => (match k with | 0 => some 26 | 1 => some 28 | 2 => some 30 | 3 => some 32 | 4 => some 34 | 5 => some 36 | _ => none)
  | 2 => (match k with | 0 => some 38 | 1 => some 40 | 2 => some 42 | 3 => some 44 | _ => none)
  | 3 => (match k with | 0 => some 4 | 1 => some 5 | 2 => some 6 | _ => none)
  | 7 => (match k with | 4 => some 8 | _ => none)
  | 9 => (match k with | 0 => some 7 | 1 => some 10 | 2 => some 11 | _ => none)
  | 12 => (match k with | 0 => some 46 | 1 => some 49 | 2 => some 52 | _ => none)
  | 13 => (match k with | 0 => some 55 | 1 => some 56 | 2 => some 57 | 3 => some 58 | 4 => some 59 | 5 => some 60 | _ => none)
  | 15 => (match k with | 0 => some 16 | 1 => some 17 | 2 => some 18 | _ => none)
  | 19 => (match k with | 0 => some 7 | 1 => some 21 | 2 => some 20 | _ => none)
  | 21 => (match k with | 0 => some 7 | 1 => some 22 | 2 => some 23 | _ => none)
  | 26 => (match k with | 0 => some 27 | _ => none)
  | 28 => (match k with | 0 => some 29 | _ => none)
  | 30 => (match k with | 0 => some 31 | _ => none)
  | 32 => (match k with | 0 => some 33 | _ => none)
  | 34 => (match k with | 0 => some 35 | _ => none)
  | 36 => (match k with | 0 => some 37 | _ => none)
  | 38 => (match k with | 0 => some 39 | _ => none)
  | 40 => (match k with | 0 => some 41 | _ => none)
  | 42 => (match k with | 0 => some 43 | _ => none)
  | 44 => (match k with | 0 => some 45 | _ => none)
  | 46 => (match k with | 0 => some 7 | 1 => some 47 | 2 => some 48 | _ => none)
  | 49 => (match k with | 0 => some 7 | 1 => some 50 | 2 => some 51 | _ => none)
  | 52 => (match k with | 0 => some 7 | 1 => some 53 | 2 => some 54 | _ => none)
  | 55 => (match k with | 1 => some 7 | _ => none)
  | 56 => (match k with | 1 => some 7 | _ => none)
  | 57 => (match k with | 1 => some 7 | _ => none)
  | 58 => (match k with | 1 => some 7 | _ => none)
  | 59 => (match k with | 1 => some 7 | _ => none)
  | 60 => (match k with | 1 => some 7 | _ => none)
  | _ => none
def rfm : Rf := fun p k => match p with
  | 0 => (match k with | 1 => some 1 | 5 => some 2 | 6 => some 3 | 7 => some 4 | 8 => some 5 | 9 => some 6 | 13 => some 7 | 14 => some 8 | 15 => some 9 | 21 => some 10 | 22 => some 11 | 24 => some 12 | 27 => some 13 | 28 => some 14 | 29 => some 15 | 30 => some 16 | 31 => some 17 | 32 => some 18 | _ => none)
  | _ => none
def rfs (lw : Nat → Option Nat) (tl tt : Option Nat) : Rf := fun p k => match p with
  | 14 => lw k
  | 19 => (match k with | 3 => tl | 4 => tt | _ => finC 19 k)
  | _ => finC p k
def isX5 (p : Nat) : Bool := ([26, 28, 30, 32, 34, 36, 38, 40, 42, 44] : List Nat).contains p
def isX1 (p : Nat) : Bool := ([9, 21, 46, 49, 52] : List Nat).contains p
def isX3 (p : Nat) : Bool := ([55, 56, 57, 58, 59, 60] : List Nat).contains p
def isSA (p : Nat) : Bool := ([1, 2] : List Nat).contains p
def slen (p : Nat) : Nat := if p < 38 then 40 else 60
def saln (p : Nat) : Nat := if p = 1 then 6 else 4
def isAM (p : Nat) : Bool := match LAYM[p]? with
  | some (20, _) => true
  | _ => false
def alM (p : Nat) : Nat := match LAYM[p]? with
  | some (_, n) => n
  | _ => 0
theorem lyAM {p : Nat} (h : isAM p = true) : LAYM[p]? = some (20, alM p) := by
  unfold isAM at h
  unfold alM
  split at h
  · next n hn => rw [hn]
  · cases h
theorem mem5 {p : Nat} (h : isX5 p = true) : p = 26 ∨ p = 28 ∨ p = 30 ∨ p = 32 ∨ p = 34 ∨ p = 36 ∨ p = 38 ∨ p = 40 ∨ p = 42 ∨ p = 44 := by
  simpa [isX5, List.contains_eq_mem] using h
theorem mem1 {p : Nat} (h : isX1 p = true) : p = 9 ∨ p = 21 ∨ p = 46 ∨ p = 49 ∨ p = 52 := by
  simpa [isX1, List.contains_eq_mem] using h
theorem mem3 {p : Nat} (h : isX3 p = true) : p = 55 ∨ p = 56 ∨ p = 57 ∨ p = 58 ∨ p = 59 ∨ p = 60 := by
  simpa [isX3, List.contains_eq_mem] using h
theorem memS {p : Nat} (h : isSA p = true) : p = 1 ∨ p = 2 := by
  simpa [isSA, List.contains_eq_mem] using h
theorem lyX5 {p : Nat} (h : isX5 p = true) : LAYC[p]? = some (5, 0) := by rcases mem5 h with rfl | rfl | rfl | rfl | rfl | rfl | rfl | rfl | rfl | rfl <;> rfl
theorem lyX5a {p : Nat} (h : isX5 p = true) : LAYC[p + 1]? = some (20, slen p) := by rcases mem5 h with rfl | rfl | rfl | rfl | rfl | rfl | rfl | rfl | rfl | rfl <;> rfl
theorem rfX5_0 {lw : Nat → Option Nat} {tl tt : Option Nat} {p : Nat} (h : isX5 p = true) : rfs lw tl tt p 0 = some (p + 1) := by rcases mem5 h with rfl | rfl | rfl | rfl | rfl | rfl | rfl | rfl | rfl | rfl <;> rfl
theorem lyX1 {p : Nat} (h : isX1 p = true) : LAYC[p]? = some (1, 0) := by rcases mem1 h with rfl | rfl | rfl | rfl | rfl <;> rfl
theorem lyX1a {p : Nat} (h : isX1 p = true) : LAYC[p + 1]? = some (20, 16) := by rcases mem1 h with rfl | rfl | rfl | rfl | rfl <;> rfl
theorem lyX1b {p : Nat} (h : isX1 p = true) : LAYC[p + 2]? = some (20, 8) := by rcases mem1 h with rfl | rfl | rfl | rfl | rfl <;> rfl
theorem rfX1_0 {lw : Nat → Option Nat} {tl tt : Option Nat} {p : Nat} (h : isX1 p = true) : rfs lw tl tt p 0 = some (7) := by rcases mem1 h with rfl | rfl | rfl | rfl | rfl <;> rfl
theorem rfX1_1 {lw : Nat → Option Nat} {tl tt : Option Nat} {p : Nat} (h : isX1 p = true) : rfs lw tl tt p 1 = some (p + 1) := by rcases mem1 h with rfl | rfl | rfl | rfl | rfl <;> rfl
theorem rfX1_2 {lw : Nat → Option Nat} {tl tt : Option Nat} {p : Nat} (h : isX1 p = true) : rfs lw tl tt p 2 = some (p + 2) := by rcases mem1 h with rfl | rfl | rfl | rfl | rfl <;> rfl
theorem lyX3 {p : Nat} (h : isX3 p = true) : LAYC[p]? = some (3, 0) := by rcases mem3 h with rfl | rfl | rfl | rfl | rfl | rfl <;> rfl
theorem rfX3_1 {lw : Nat → Option Nat} {tl tt : Option Nat} {p : Nat} (h : isX3 p = true) : rfs lw tl tt p 1 = some 7 := by rcases mem3 h with rfl | rfl | rfl | rfl | rfl | rfl <;> rfl
theorem lySA {p : Nat} (h : isSA p = true) : LAYC[p]? = some (35, saln p) := by rcases memS h with rfl | rfl <;> rfl
theorem rfSA {lw : Nat → Option Nat} {tl tt : Option Nat} {p k : Nat} (h : isSA p = true) : rfs lw tl tt p k = finC p k := by rcases memS h with rfl | rfl <;> rfl
theorem rfs_lw {lw lw' : Nat → Option Nat} {tl tt : Option Nat} {j : Nat} {v : Option Nat} (h : lw' = va_up lw j v) : rfs lw' tl tt = sR (rfs lw tl tt) 14 j v := by
  subst h
  funext p
  by_cases hp : p = 14
  · subst hp
    rw [sR_at]
    rfl
  · rw [sR_ne hp]
    funext k
    unfold rfs
    split
    · exact absurd rfl hp
    · rfl
    · rfl
theorem rfs_tl {lw : Nat → Option Nat} {tl tt v : Option Nat} : rfs lw v tt = sR (rfs lw tl tt) 19 3 v := by
  funext p
  by_cases hp : p = 19
  · subst hp
    rw [sR_at]
    funext k
    unfold va_up
    by_cases hk : k = 3
    · subst hk; rfl
    · rw [if_neg hk]
      simp only [rfs]
      split
      · exact absurd rfl hk
      · rfl
      · rfl
  · rw [sR_ne hp]
    funext k
    unfold rfs
    split
    · rfl
    · exact absurd rfl hp
    · rfl
theorem rfs_tt {lw : Nat → Option Nat} {tl tt v : Option Nat} : rfs lw tl v = sR (rfs lw tl tt) 19 4 v := by
  funext p
  by_cases hp : p = 19
  · subst hp
    rw [sR_at]
    funext k
    unfold va_up
    by_cases hk : k = 4
    · subst hk; rfl
    · rw [if_neg hk]
      simp only [rfs]
      split
      · rfl
      · exact absurd rfl hk
      · rfl
  · rw [sR_ne hp]
    funext k
    unfold rfs
    split
    · rfl
    · exact absurd rfl hp
    · rfl
section TX
variable {own : String} {cc : ByteArray} {nL : Nat} {ret : Option FieldType} {rk d mc ms : Nat} {gr : Bool} {Po : Po_} {pc : Nat} {L : List (Option AV)} {st : List AV} {SH : List Sh} {V : Rf} {M : Mem} {kc ks : Nat}
theorem T_topI {x y : Int32} (h : x = y) (k : T own cc nL ret rk d mc ms gr Po pc L (vI x :: st) SH V M kc ks) : T own cc nL ret rk d mc ms gr Po pc L (vI y :: st) SH V M kc ks := h ▸ k
theorem T_topJ {x y : Int64} (h : x = y) (k : T own cc nL ret rk d mc ms gr Po pc L (vJ x :: st) SH V M kc ks) : T own cc nL ret rk d mc ms gr Po pc L (vJ y :: st) SH V M kc ks := h ▸ k
theorem T_eqI {x y : Int32} (h : x = y) (k : T own cc nL ret rk d mc ms gr Po pc L (vI y :: st) SH V M kc ks) : T own cc nL ret rk d mc ms gr Po pc L (vI x :: st) SH V M kc ks := h ▸ k
end TX
theorem look2 {x : Int32} {o0 o1 df : Int} (h0 : ¬ x = 0) (h1 : ¬ x = 1) : Op.lookupswitch.offset (#[(0, o0), (1, o1)] : Array (Int × Int)).toList df x.toInt = df := by
  have n0 : ¬ x.toInt = 0 := fun e => h0 (Int32.toInt_inj.mp (e.trans (by decide)))
  have n1 : ¬ x.toInt = 1 := fun e => h1 (Int32.toInt_inj.mp (e.trans (by decide)))
  show Op.lookupswitch.offset [(0, o0), (1, o1)] df x.toInt = df
  simp only [Op.lookupswitch.offset_cons, Op.lookupswitch.offset_nil]
  rw [if_neg (fun e => n0 e.symm), if_neg (fun e => n1 e.symm)]
