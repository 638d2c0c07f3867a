/-! ===== the relation between the class's memory and the model's ===== -/
def Dm (m w : Nat) : Prop := (m = 0 ∧ w = 0) ∨ (2 ≤ w ∧ w ≤ 4 ∧ ∃ l, 1 ≤ l ∧ l ≤ 4 ∧ m = l * w)
theorem Dm.cases {m w : Nat} (h : Dm m w) : (m = 0 ∧ w = 0) ∨ (m = 2 ∧ w = 2) ∨ (m = 4 ∧ w = 2) ∨ (m = 6 ∧ w = 2) ∨ (m = 8 ∧ w = 2) ∨ (m = 3 ∧ w = 3) ∨ (m = 6 ∧ w = 3) ∨ (m = 9 ∧ w = 3) ∨ (m = 12 ∧ w = 3) ∨ (m = 4 ∧ w = 4) ∨ (m = 8 ∧ w = 4) ∨ (m = 12 ∧ w = 4) ∨ (m = 16 ∧ w = 4) := by
  rcases h with h | ⟨h1, h2, l, h3, h4, h5⟩
  · exact Or.inl h
  · have hw : w = 2 ∨ w = 3 ∨ w = 4 := by omega
    have hl : l = 1 ∨ l = 2 ∨ l = 3 ∨ l = 4 := by omega
    rcases hw with rfl | rfl | rfl <;> rcases hl with rfl | rfl | rfl | rfl <;> simp_all
theorem Dm.le {m w : Nat} (h : Dm m w) : m ≤ 16 ∧ w ≤ 4 := by
  rcases h.cases with h | h | h | h | h | h | h | h | h | h | h | h | h <;> omega
def anyB (P : Nat → Bool) : Nat → Bool
  | 0 => false
  | n + 1 => anyB P n || P n
theorem anyB_iff (P : Nat → Bool) (n : Nat) : anyB P n = true ↔ ∃ i, i < n ∧ P i = true := by
  induction n with
  | zero => simp [anyB]
  | succ n ih =>
    rw [anyB, Bool.or_eq_true, ih]
    constructor
    · rintro (⟨i, h1, h2⟩ | h)
      · exact ⟨i, by omega, h2⟩
      · exact ⟨n, by omega, h⟩
    · rintro ⟨i, h1, h2⟩
      by_cases e : i = n
      · subst e; exact Or.inr h2
      · exact Or.inl ⟨i, by omega, h2⟩
/-- k is beside c -/
def adj (m w c k : Nat) : Bool := (decide (k + 1 = c) && decide (0 < c % w)) || (decide (k = c + 1) && decide (c % w + 1 < w)) || (decide (k + w = c)) || (decide (k = c + w) && decide (c + w < m))
def nbr (m w s : Nat) : Nat := bs (fun k => anyB (fun c => s.testBit c && adj m w c k) m) 16
def gs (m w T s : Nat) : Nat := s ||| (nbr m w s &&& T)
def itr (f : Nat → Nat) : Nat → Nat → Nat
  | 0, s => s
  | n + 1, s => itr f n (f s)
def clo (m w T s : Nat) : Nat := itr (gs m w T) 17 s
def dif (a b : Nat) : Nat := a ^^^ (a &&& b)
def hlS (m w T : Nat) : Nat → Nat × List Nat
  | 0 => (T, [])
  | c + 1 => if (hlS m w T c).1.testBit c then (dif (hlS m w T c).1 (clo m w T (2 ^ c)), (hlS m w T c).2 ++ [clo m w T (2 ^ c)]) else hlS m w T c
/-- the holes of a set of dug cells, by their least cells -/
def HL (m w T : Nat) : List Nat := (hlS m w T m).2
def dg (d : Nat → Nat) : Nat := bs (fun c => decide (0 < d c)) 16
def DW (m : Nat) (d : Nat → Nat) : Prop := (∀ c, d c ≤ 5) ∧ ∀ c, m ≤ c → d c = 0
def GrC (M : Mem) (p m w : Nat) (d : Nat → Nat) (e : Nat) (th : Int32) : Prop :=
  (∀ c, c < 16 → gI M (p + 1) c = nI (d c)) ∧ gI M p 4 = nI (dg d) ∧ gI M p 5 = nI (dg d) ∧ gI M p 3 = nI (HL m w (dg d)).length ∧ (∀ i, i < (HL m w (dg d)).length → gI M (p + 2) i = nI ((HL m w (dg d)).getD i 0)) ∧ gI M p 6 = nI e ∧ gI M p 7 = th
def GrM (N : Mem) (a b : Nat) (d : Nat → Nat) (e : Nat) : Prop := (∀ c, c < 16 → gI N a (b + c) = nI (d c)) ∧ gI N a (b + 16) = nI e
def Told (M N : Mem) : Prop := gI M 0 12 = gI N 0 2 ∧ gJ M 0 13 = gJ N 0 3 ∧ gJ M 0 14 = gJ N 0 4 ∧ gI M 0 15 = gI N 0 0 ∧ ∀ k, k < 6 → gI M 25 k = gI N 1 k
def StripR (M N : Mem) (p q a b cap r : Nat) : Prop := (gI M p 1 = -1 ∧ gI N q r = -9) ∨ ∃ n, n ≤ cap ∧ gI M p 1 = nI n ∧ gI N q r = nI n ∧ ∀ i, i < n → gI M (p + 1) i = gI N a (b + i)
def Rows (M N : Mem) : Prop := ∀ r, r < 6 → StripR M N (26 + 2 * r) 2 3 (40 * r) 40 r
def Txts (M N : Mem) : Prop := ∀ r, r < 4 → StripR M N (38 + 2 * r) 5 6 (60 * r) 60 r
def gset (m w : Nat) (gd : Nat → Nat) (pr : Nat) : Nat := bs (fun c => decide (c < m) && decide (gd (c % w) = pr)) 16
def LandR (M N : Mem) (m w : Nat) (gd : Nat → Nat) : Prop :=
  gI M 7 0 = nI m ∧ gI M 7 1 = nI w ∧ gI N 0 11 = nI m ∧ gI N 0 10 = nI w ∧ gI M 7 2 = nI (bs (fun c => decide (c < m) && decide (c % w = 0)) 16) ∧ gI M 7 3 = nI (bs (fun c => decide (c < m) && decide (c % w + 1 = w)) 16) ∧ (∀ x, gd x < 4) ∧ (∀ x, x < 4 → gI N 8 x = nI (gd x)) ∧ ∀ pr, pr < 4 → gI M 8 pr = nI (gset m w gd pr)
def Img (t : Nat) (M N : Mem) (m w k : Nat) : Prop := (gI M (46 + 3 * k) 7 = 0 ∧ gI N 14 k = 0) ∨ (gI N 14 k = 1 ∧ 0 < m ∧ ∃ d e, e ≤ t ∧ DW m d ∧ GrC M (46 + 3 * k) m w d e 1 ∧ GrM N 15 (17 * k) d e)
def Imgs (t : Nat) (M N : Mem) (m w : Nat) : Prop := ∀ k, k < 3 → Img t M N m w k
/-- what a deed changes -/
def Dstep (M : Mem) (i : Nat) (d d' : Nat → Nat) (e e' : Nat) : Prop := ∃ B, B < 2 ^ 16 ∧ gI M 16 i = nI B ∧ (∀ c, c < 16 → nI (d' c) = if B.testBit c then nI (d c) + gI M 17 i else nI (d c)) ∧ nI e' = nI e + gI M 18 i
def Dds (t : Nat) (M N : Mem) (m : Nat) (d : Nat → Nat) (e : Nat) : Prop :=
  ∃ (q : Nat) (D : Nat → Nat → Nat) (E : Nat → Nat), q ≤ 40 ∧ gI M 15 3 = nI q ∧ gI N 0 26 = nI q ∧ D q = d ∧ E q = e ∧ (∀ i, i < q → DW m (D i) ∧ E i ≤ t ∧ GrM N 13 (17 * i) (D i) (E i)) ∧ ∀ i, i < q → Dstep M i (D i) (D (i + 1)) (E i) (E (i + 1))
def LawsR (lw : Nat → Option Nat) (M N : Mem) : Prop := (∀ k, k < 6 → gI M (55 + k) 0 = nI k) ∧ ∃ (q : Nat) (K : Nat → Nat), q ≤ 6 ∧ gI M 0 8 = nI q ∧ gI N 0 12 = nI q ∧ ∀ j, j < q → K j < 6 ∧ lw j = some (55 + K j) ∧ gI N 9 j = nI (K j)
/-- all of the ground: land, now, images, deeds, laws -/
def CoreG (t : Nat) (lw : Nat → Option Nat) (M N : Mem) (m w : Nat) (gd d : Nat → Nat) (e : Nat) : Prop :=
  Dm m w ∧ DW m d ∧ e ≤ t ∧ LandR M N m w gd ∧ GrC M 9 m w d e (if m = 0 then 0 else 1) ∧ ((∀ c, c < 16 → gI N 7 c = nI (d c)) ∧ gI N 0 16 = nI e) ∧ Imgs t M N m w ∧ Dds t M N m d e ∧ LawsR lw M N
def Core (t : Nat) (lw : Nat → Option Nat) (M N : Mem) : Prop := ∃ m w gd d e, CoreG t lw M N m w gd d e
def Rel (t : Nat) (lw : Nat → Option Nat) (M N : Mem) : Prop := Told M N ∧ Rows M N ∧ Txts M N ∧ Core t lw M N
/- agreement on places -/
def agr (S : Nat → Nat → Bool) (M M' : Mem) : Prop := ∀ p k, S p k = true → gI M' p k = gI M p k
theorem agr.rf {S : Nat → Nat → Bool} {M : Mem} : agr S M M := fun _ _ _ => rfl
theorem agr.tr {S : Nat → Nat → Bool} {M M' M'' : Mem} (h1 : agr S M M') (h2 : agr S M' M'') : agr S M M'' := fun p k h => (h2 p k h).trans (h1 p k h)
theorem agr.sI {S : Nat → Nat → Bool} {M M' : Mem} {p k : Nat} {v : Int32} (h : agr S M M') (hS : S p k = false) : agr S M (sI M' p k v) := by
  intro q j hq
  rw [gI_sI, if_neg (fun e => by rw [e.1, e.2, hS] at hq; cases hq)]
  exact h q j hq
theorem agr.sJ {S : Nat → Nat → Bool} {M M' : Mem} {p k : Nat} {v : Int64} (h : agr S M M') : agr S M (sJ M' p k v) := fun q j hq => h q j hq
theorem agr.cp {S : Nat → Nat → Bool} {M M' : Mem} {p sp q dp n : Nat} (h : agr S M M') (hS : ∀ k, S q k = false) : agr S M (cpI M' p sp q dp n) := by
  intro x j hx
  rw [gI_cpI, if_neg (fun e => by rw [e.1, hS] at hx; cases hx)]
  exact h x j hx
/-- places of the class that rows, texts, the ground's core rest on; of the model likewise -/
def sRwC (p _k : Nat) : Bool := decide (26 ≤ p) && decide (p < 38)
def sRwM (p _k : Nat) : Bool := decide (p = 2) || decide (p = 3)
def sTxC (p _k : Nat) : Bool := decide (38 ≤ p) && decide (p < 46)
def sTxM (p _k : Nat) : Bool := decide (p = 5) || decide (p = 6)
def sGC (p k : Nat) : Bool := (decide (p = 0) && decide (k = 8)) || (decide (7 ≤ p) && decide (p < 12)) || (decide (15 ≤ p) && decide (p < 19)) || decide (46 ≤ p)
def sGM (p k : Nat) : Bool := (decide (p = 0) && (decide (k = 10) || decide (k = 11) || decide (k = 12) || decide (k = 16) || decide (k = 26))) || (decide (7 ≤ p) && decide (p < 10)) || (decide (13 ≤ p) && decide (p < 16))
def sToC (p k : Nat) : Bool := (decide (p = 0) && (decide (k = 12) || decide (k = 15))) || decide (p = 25)
def sToM (p k : Nat) : Bool := (decide (p = 0) && (decide (k = 0) || decide (k = 2))) || decide (p = 1)
theorem StripR.fr {M M' N N' : Mem} {p q a b cap r : Nat} (h : StripR M N p q a b cap r) (h1 : gI M' p 1 = gI M p 1) (h2 : ∀ i, gI M' (p + 1) i = gI M (p + 1) i) (h3 : gI N' q r = gI N q r) (h4 : ∀ i, i < cap → gI N' a (b + i) = gI N a (b + i)) : StripR M' N' p q a b cap r := by
  rcases h with ⟨e1, e2⟩ | ⟨n, e1, e2, e3, e4⟩
  · exact Or.inl ⟨h1.trans e1, h3.trans e2⟩
  · exact Or.inr ⟨n, e1, h1.trans e2, h3.trans e3, fun i hi => by rw [h2, h4 i (by omega)]; exact e4 i hi⟩
theorem Rows.fr {M M' N N' : Mem} (h : Rows M N) (hM : agr sRwC M M') (hN : agr sRwM N N') : Rows M' N' := by
  intro r hr
  refine (h r hr).fr (hM _ _ ?_) (fun i => hM _ _ ?_) (hN _ _ rfl) (fun i _ => hN _ _ rfl)
  · simp [sRwC]; omega
  · simp [sRwC]; omega
theorem Txts.fr {M M' N N' : Mem} (h : Txts M N) (hM : agr sTxC M M') (hN : agr sTxM N N') : Txts M' N' := by
  intro r hr
  refine (h r hr).fr (hM _ _ ?_) (fun i => hM _ _ ?_) (hN _ _ rfl) (fun i _ => hN _ _ rfl)
  · simp [sTxC]; omega
  · simp [sTxC]; omega
theorem GrC.fr {M M' : Mem} {p m w : Nat} {d : Nat → Nat} {e : Nat} {th : Int32} (h : GrC M p m w d e th) (h0 : ∀ k, gI M' p k = gI M p k) (h1 : ∀ k, gI M' (p + 1) k = gI M (p + 1) k) (h2 : ∀ k, gI M' (p + 2) k = gI M (p + 2) k) : GrC M' p m w d e th := by
  obtain ⟨a1, a2, a3, a4, a5, a6, a7⟩ := h
  exact ⟨fun c hc => by rw [h1]; exact a1 c hc, by rw [h0]; exact a2, by rw [h0]; exact a3, by rw [h0]; exact a4, fun i hi => by rw [h2]; exact a5 i hi, by rw [h0]; exact a6, by rw [h0]; exact a7⟩
theorem GrM.fr {N N' : Mem} {a b : Nat} {d : Nat → Nat} {e : Nat} (h : GrM N a b d e) (h0 : ∀ k, gI N' a k = gI N a k) : GrM N' a b d e := ⟨fun c hc => by rw [h0]; exact h.1 c hc, by rw [h0]; exact h.2⟩
theorem sGC_hi {p k : Nat} (h : 46 ≤ p) : sGC p k = true := by simp [sGC, h]
theorem Img.fr {t : Nat} {M M' N N' : Mem} {m w k : Nat} (h : Img t M N m w k) (hM : agr sGC M M') (hN : agr sGM N N') : Img t M' N' m w k := by
  rcases h with ⟨e1, e2⟩ | ⟨e1, e0, d, e, e2, e3, e4, e5⟩
  · exact Or.inl ⟨(hM _ _ (sGC_hi (by omega))).trans e1, (hN 14 k rfl).trans e2⟩
  · exact Or.inr ⟨(hN 14 k rfl).trans e1, e0, d, e, e2, e3, e4.fr (fun k => hM _ _ (sGC_hi (by omega))) (fun k => hM _ _ (sGC_hi (by omega))) (fun k => hM _ _ (sGC_hi (by omega))), e5.fr (fun k => hN 15 k rfl)⟩
theorem Img.up {t : Nat} {M N : Mem} {m w k : Nat} (h : Img t M N m w k) : Img (t + 1) M N m w k := by
  rcases h with h | ⟨e1, e0, d, e, e2, e3⟩
  · exact Or.inl h
  · exact Or.inr ⟨e1, e0, d, e, by omega, e3⟩
theorem Dds.fr {t : Nat} {M M' N N' : Mem} {m e : Nat} {d : Nat → Nat} (h : Dds t M N m d e) (hM : agr sGC M M') (hN : agr sGM N N') : Dds t M' N' m d e := by
  obtain ⟨q, D, E, a1, a2, a3, a4, a5, a6, a7⟩ := h
  refine ⟨q, D, E, a1, (hM 15 3 rfl).trans a2, (hN 0 26 rfl).trans a3, a4, a5, fun i hi => ?_, fun i hi => ?_⟩
  · obtain ⟨b1, b2, b3⟩ := a6 i hi
    exact ⟨b1, b2, b3.fr (fun k => hN 13 k rfl)⟩
  · obtain ⟨B, b1, b2, b3, b4⟩ := a7 i hi
    exact ⟨B, b1, (hM 16 i rfl).trans b2, by rw [hM 17 i rfl]; exact b3, by rw [hM 18 i rfl]; exact b4⟩
theorem Dds.up {t : Nat} {M N : Mem} {m e : Nat} {d : Nat → Nat} (h : Dds t M N m d e) : Dds (t + 1) M N m d e := by
  obtain ⟨q, D, E, a1, a2, a3, a4, a5, a6, a7⟩ := h
  exact ⟨q, D, E, a1, a2, a3, a4, a5, fun i hi => ⟨(a6 i hi).1, by have := (a6 i hi).2.1; omega, (a6 i hi).2.2⟩, a7⟩
theorem LawsR.fr {lw : Nat → Option Nat} {M M' N N' : Mem} (h : LawsR lw M N) (hM : agr sGC M M') (hN : agr sGM N N') : LawsR lw M' N' := by
  obtain ⟨a0, q, K, a1, a2, a3, a4⟩ := h
  exact ⟨fun k hk => (hM _ _ (sGC_hi (by omega))).trans (a0 k hk), q, K, a1, (hM 0 8 rfl).trans a2, (hN 0 12 rfl).trans a3, fun j hj => ⟨(a4 j hj).1, (a4 j hj).2.1, (hN 9 j rfl).trans (a4 j hj).2.2⟩⟩
theorem LandR.fr {M M' N N' : Mem} {m w : Nat} {gd : Nat → Nat} (h : LandR M N m w gd) (hM : agr sGC M M') (hN : agr sGM N N') : LandR M' N' m w gd := by
  obtain ⟨a1, a2, a3, a4, a5, a6, a7, a8, a9⟩ := h
  exact ⟨(hM 7 0 rfl).trans a1, (hM 7 1 rfl).trans a2, (hN 0 11 rfl).trans a3, (hN 0 10 rfl).trans a4, (hM 7 2 rfl).trans a5, (hM 7 3 rfl).trans a6, a7, fun x hx => (hN 8 x rfl).trans (a8 x hx), fun x hx => (hM 8 x rfl).trans (a9 x hx)⟩
theorem CoreG.fr {t : Nat} {lw : Nat → Option Nat} {M M' N N' : Mem} {m w : Nat} {gd d : Nat → Nat} {e : Nat} (h : CoreG t lw M N m w gd d e) (hM : agr sGC M M') (hN : agr sGM N N') : CoreG t lw M' N' m w gd d e := by
  obtain ⟨a1, a2, a3, a4, a5, a6, a7, a8, a9⟩ := h
  exact ⟨a1, a2, a3, a4.fr hM hN, a5.fr (fun k => hM 9 k rfl) (fun k => hM 10 k rfl) (fun k => hM 11 k rfl), ⟨fun c hc => (hN 7 c rfl).trans (a6.1 c hc), (hN 0 16 rfl).trans a6.2⟩, fun k hk => (a7 k hk).fr hM hN, a8.fr hM hN, a9.fr hM hN⟩
theorem CoreG.up {t : Nat} {lw : Nat → Option Nat} {M N : Mem} {m w : Nat} {gd d : Nat → Nat} {e : Nat} (h : CoreG t lw M N m w gd d e) : CoreG (t + 1) lw M N m w gd d e := by
  obtain ⟨a1, a2, a3, a4, a5, a6, a7, a8, a9⟩ := h
  exact ⟨a1, a2, by omega, a4, a5, a6, fun k hk => (a7 k hk).up, a8.up, a9⟩
theorem Core.fr {t : Nat} {lw : Nat → Option Nat} {M M' N N' : Mem} (h : Core t lw M N) (hM : agr sGC M M') (hN : agr sGM N N') : Core t lw M' N' := by
  obtain ⟨m, w, gd, d, e, h⟩ := h
  exact ⟨m, w, gd, d, e, h.fr hM hN⟩
theorem Core.up {t : Nat} {lw : Nat → Option Nat} {M N : Mem} (h : Core t lw M N) : Core (t + 1) lw M N := by
  obtain ⟨m, w, gd, d, e, h⟩ := h
  exact ⟨m, w, gd, d, e, h.up⟩
theorem Rel.up {t : Nat} {lw : Nat → Option Nat} {M N : Mem} (h : Rel t lw M N) : Rel (t + 1) lw M N := ⟨h.1, h.2.1, h.2.2.1, h.2.2.2.up⟩
/-- everything but what is told stays -/
def sAllC (p k : Nat) : Bool := sRwC p k || sTxC p k || sGC p k
def sAllM (p k : Nat) : Bool := sRwM p k || sTxM p k || sGM p k
theorem agr.mono {S S' : Nat → Nat → Bool} {M M' : Mem} (h : agr S M M') (hS : ∀ p k, S' p k = true → S p k = true) : agr S' M M' := fun p k hp => h p k (hS p k hp)
theorem Rel.told {t : Nat} {lw : Nat → Option Nat} {M M' N N' : Mem} (h : Rel t lw M N) (hM : agr sAllC M M') (hN : agr sAllM N N') (ht : Told M' N') : Rel (t + 1) lw M' N' := by
  have a1 : agr sRwC M M' := hM.mono (fun p k h => by simp [sAllC, h])
  have a2 : agr sTxC M M' := hM.mono (fun p k h => by simp [sAllC, h])
  have a3 : agr sGC M M' := hM.mono (fun p k h => by simp [sAllC, h])
  have b1 : agr sRwM N N' := hN.mono (fun p k h => by simp [sAllM, h])
  have b2 : agr sTxM N N' := hN.mono (fun p k h => by simp [sAllM, h])
  have b3 : agr sGM N N' := hN.mono (fun p k h => by simp [sAllM, h])
  exact ⟨ht, h.2.1.fr a1 b1, h.2.2.1.fr a2 b2, (h.2.2.2.fr a3 b3).up⟩
