/-- the tables' words that go on to callees -/
def lg_tbl : List Cond := lw_tbl.filter goodWord
theorem lg_in {w : Cond} (i : Nat) (h : lw_tbl[i]? = some w) (hg : goodWord w = true) : w ∈ lg_tbl := List.mem_filter.mpr ⟨List.mem_of_getElem? h, hg⟩
theorem lg_good : lg_tbl.all goodWord = true := List.all_eq_true.mpr (fun _ h => (List.mem_filter.mp h).2)
/-! ===== the pure memory: places with ints, longs and references; values; worlds ===== -/
abbrev AV : Type := Int32 ⊕ (Int64 ⊕ Option Nat)
abbrev vI (x : Int32) : AV := .inl x
abbrev vJ (x : Int64) : AV := .inr (.inl x)
abbrev vR (o : Option Nat) : AV := .inr (.inr o)
abbrev aI (x : Int32) : Option AV := some (.inl x)
abbrev aJ (x : Int64) : Option AV := some (.inr (.inl x))
abbrev aR (o : Option Nat) : Option AV := some (.inr (.inr o))
abbrev aU : Option AV := none
abbrev Mem : Type := (Nat → Nat → Int32) × (Nat → Nat → Int64)
abbrev Rf : Type := Nat → Nat → Option Nat
abbrev Sh : Type := Nat × Nat
def gI (M : Mem) (p k : Nat) : Int32 := M.1 p k
def gJ (M : Mem) (p k : Nat) : Int64 := M.2 p k
def sI (M : Mem) (p k : Nat) (v : Int32) : Mem := (fun q => if q = p then upd (M.1 q) k v else M.1 q, M.2)
def sJ (M : Mem) (p k : Nat) (v : Int64) : Mem := (M.1, fun q => if q = p then vp_updL (M.2 q) k v else M.2 q)
def sR (V : Rf) (p k : Nat) (v : Option Nat) : Rf := fun q => if q = p then va_up (V q) k v else V q
def cpI (M : Mem) (p sp q dp n : Nat) : Mem := (fun x => if x = q then va_cpy (M.1 p) (M.1 q) sp dp n else M.1 x, M.2)
/-- a new cell's contents -/
def nwM (M : Mem) (p : Nat) : Mem := (fun q => if q = p then (fun _ => 0) else M.1 q, fun q => if q = p then (fun _ => 0) else M.2 q)
def nwR (V : Rf) (p : Nat) : Rf := fun q => if q = p then (fun _ => none) else V q
def cv (ad : Nat → Nat) : AV → Value
  | .inl x => .int x
  | .inr (.inl x) => .long x
  | .inr (.inr o) => va_rf (o.map ad)
/-- the kinds of a class's fields: 0 int, 1 boolean, 2 long, 3 a reference -/
def fc : Nat → List Nat := fun c => match c with
  | 0 => [3, 3, 3, 0]
  | 1 => [3, 3, 3, 0, 0, 0, 0, 1]
  | 2 => [0, 0, 0, 0, 3]
  | 3 => [0, 3]
  | 4 => [3, 3, 3, 0, 0, 0, 0]
  | 5 => [3, 0]
  | 6 => [3, 3, 3, 3, 3, 0, 0]
  | 7 => [3, 3, 3, 3, 3, 3, 3, 3, 0, 3, 3, 3, 0, 2, 2, 0, 3]
  | 8 => [0, 3, 0, 2, 2, 3, 3, 3, 3, 3, 0, 0, 0, 3, 3, 3, 0, 0, 0, 0, 0, 3, 3, 0, 3, 0, 0, 3, 3, 3, 3, 3, 3, 2]
  | _ => []
def fv (ad : Nat → Nat) (V : Rf) (M : Mem) (p k t : Nat) : Value := if t = 2 then .long (M.2 p k) else if t = 3 then va_rf ((V p k).map ad) else .int (M.1 p k)
def fl (ad : Nat → Nat) (V : Rf) (M : Mem) (p : Nat) (ts : List Nat) : List Value := ts.mapIdx (fun k t => fv ad V M p k t)
def ce (ad : Nat → Nat) (ca : Nat → ClassId) (V : Rf) (M : Mem) (p : Nat) (sh : Sh) : va_E :=
  if sh.1 < 20 then .inr (sh.1, fl ad V M p (fc sh.1))
  else if sh.1 = 20 then .inl (ca 20, sh.2, .inl (M.1 p))
  else if sh.1 = 21 then .inl (ca 21, sh.2, .inr (.inl (M.2 p)))
  else .inl (ca sh.1, sh.2, .inr (.inr (.inr (.inr (fun j => (V p j).map ad)))))
def wd (ad : Nat → Nat) (ca : Nat → ClassId) (V : Rf) (M : Mem) (SH : List Sh) : va_W := SH.mapIdx (fun p sh => (ad p, ce ad ca V M p sh))
def tysOf (ca : Nat → ClassId) : List (ClassId × FieldType) := [(ca 20, .int), (ca 21, .long), (ca 31, .object RX1), (ca 33, .object RX3), (ca 35, .object RX5)]
def stv (k j : Nat) : Int32 := if k = 0 then ([112, 114, 115, 98, 116, 100] : List Int32).getD j 0 else ([-1, 0, 1, 0, 2, 3] : List Int32).getD j 0
def Wo (dC : Nat → ClassId) (dI : Nat → Nat → Nat) (ad : Nat → Nat) (ca : Nat → ClassId) (A : Nat → Prop) (SH : List Sh) (V : Rf) (M : Mem) (U : State) (H : Heap) : Prop :=
  va_K (dC, dI) vwCl (tysOf ca) U ∧ va_P (dC, dI) vwCl (wd ad ca V M SH) H ∧ va_D A (wd ad ca V M SH)
def isNest : Cond → Bool := fun w => match w with
  | .fieldLinkNest .. => true
  | .methodLinkNest .. => true
  | _ => false
/-- what goes on to callees beside the words: nest mates' links, arrays of references -/
def Nst (U : State) : Prop := (∀ w ∈ lw_tbl, isNest w = true → va_Nw w U) ∧ va_AO RX1 U ∧ va_AO RX3 U ∧ va_AO RX5 U
def St (ad : Nat → Nat) (A : Nat → Prop) (U : State) (H : Heap) : Prop :=
  (va_Z "HoleMoved" "LETTERS" "[I" (.ref (ad 1000)) A U H ∧ va_T .int (ad 1000) 6 (fun j => .int (stv 0 j)) A U H ∧ va_Z "HoleMoved" "WIDER_KINDS" "[I" (.ref (ad 1001)) A U H ∧ va_T .int (ad 1001) 6 (fun j => .int (stv 1 j)) A U H) ∧ Nst U
/-- a method that makes cells: places are numbered as the cells are made -/
def Gr (gr : Bool) (ad : Nat → Nat) (SH : List Sh) (sz : Nat) : Prop := gr = true → sz = ad SH.length ∧ (∀ q, q < 900 → ad (q + 1) = ad q + 1) ∧ 0 < SH.length ∧ SH.length < 800
def lh (ad : Nat → Nat) (ls : Array Slot) (nL : Nat) (L : List (Option AV)) : Prop := ls.size = nL ∧ lv_wf ls ∧ ∀ (i : Nat) (v : AV), L[i]? = some (some v) → ls[i]? = some (.val (cv ad v))
def Cx (own : String) (cc : ByteArray) (nL : Nat) (ret : Option FieldType) (d mc ms : Nat) (gr : Bool) (p : Program) (R : Room) (s : State) (m : MethodId) (args : Array Value) (meth : Method) (c : Code) : Prop :=
  p.tables.exec = Jvm.exec ∧ c.code = cc ∧ meth.sig.returnType = ret ∧ c.maxLocals = nL ∧ s.vm.findClass own = some m.cls ∧ (∀ w ∈ lg_tbl, w.before args s = true) ∧ meth.locks = false ∧ d ≤ R.frames ∧ 64 * d ≤ R.locals ∧ mc ≤ R.cells ∧ ms ≤ R.slots ∧ (gr = true → meth.name = "<init>")
abbrev Po_ : Type := AV → List Sh → Rf → Mem → Prop
def Bq (dC : Nat → ClassId) (dI : Nat → Nat → Nat) (ad : Nat → Nat) (ca : Nat → ClassId) (A : Nat → Prop) (u : List Sh × Rf × Mem) (t : State) : Prop := Wo dC dI ad ca A u.1 u.2.1 u.2.2 t t.heap
/-- what a method's end is: an int (0), a long (1), nothing (2), a reference or null (3) -/
def Qm (rk : Nat) (dC : Nat → ClassId) (dI : Nat → Nat → Nat) (ad : Nat → Nat) (ca : Nat → ClassId) (A : Nat → Prop) (Po : Po_) : Array Value → State → Outcome → State → Prop :=
  match rk with
  | 0 => va_Qi (fun r u => Po (vI r) u.1 u.2.1 u.2.2) (Bq dC dI ad ca A) A
  | 1 => va_Ql (fun r u => Po (vJ r) u.1 u.2.1 u.2.2) (Bq dC dI ad ca A) A
  | 2 => va_Qv (fun u => Po (vI 0) u.1 u.2.1 u.2.2) (Bq dC dI ad ca A) A
  | _ => va_Qq (fun r u => ∃ o : Option Nat, r = o.map ad ∧ Po (vR o) u.1 u.2.1 u.2.2) (Bq dC dI ad ca A) A
/-- THE JUDGEMENT: from pc, with these locals, this stack and this memory, the method comes to an end as Po says -/
def T (own : String) (cc : ByteArray) (nL : Nat) (ret : Option FieldType) (rk d mc ms : Nat) (gr : Bool) (Po : Po_) (pc : Nat) (L : List (Option AV)) (st : List AV) (SH : List Sh) (V : Rf) (M : Mem) (kc ks : Nat) : Prop :=
  ∀ (p : Program) (l : Launch) (e : Env) (R : Room) (s : State) (m : MethodId) (args : Array Value) (below : List Frame) (meth : Method) (c : Code) (dC : Nat → ClassId) (dI : Nat → Nat → Nat) (ad : Nat → Nat) (ca : Nat → ClassId) (A : Nat → Prop) (H : Heap) (locs : List Loc) (ls : Array Slot),
    Cx own cc nL ret d mc ms gr p R s m args meth c → Wo dC dI ad ca A SH V M s H → St ad A s s.heap → va_S A s.heap H locs → (∀ q, s.heap.size ≤ q → A q) → Gr gr ad SH (s.heap.size + kc) → lh ad ls nL L → kc ≤ mc → ks ≤ ms →
    W p l e R s m args below meth c H locs kc ks (MQ below (Qm rk dC dI ad ca A Po) args s mc ms A) (F0 m pc ls (st.map (cv ad)))

/-! lemmas about worlds -/
theorem wd_at {ad : Nat → Nat} {ca : Nat → ClassId} {V : Rf} {M : Mem} {SH : List Sh} {p : Nat} {sh : Sh} (h : SH[p]? = some sh) : (wd ad ca V M SH)[p]? = some (ad p, ce ad ca V M p sh) := by
  unfold wd
  rw [List.getElem?_mapIdx, h]
  rfl
theorem wd_of {ad : Nat → Nat} {ca : Nat → ClassId} {V : Rf} {M : Mem} {SH : List Sh} {p : Nat} {q : Nat × va_E} (h : (wd ad ca V M SH)[p]? = some q) : ∃ sh, SH[p]? = some sh ∧ q = (ad p, ce ad ca V M p sh) := by
  unfold wd at h
  rw [List.getElem?_mapIdx] at h
  cases hs : SH[p]? with
  | none => rw [hs] at h; cases h
  | some sh => rw [hs] at h; exact ⟨sh, rfl, (Option.some.inj h).symm⟩
theorem wd_set {ad : Nat → Nat} {ca : Nat → ClassId} {V V' : Rf} {M M' : Mem} {SH : List Sh} {p : Nat} {sh : Sh} {e : va_E} (h : SH[p]? = some sh) (he : ce ad ca V' M' p sh = e) (ho : ∀ (q : Nat) (sh' : Sh), q ≠ p → ce ad ca V' M' q sh' = ce ad ca V M q sh') : (wd ad ca V M SH).set p (ad p, e) = wd ad ca V' M' SH := by
  apply List.ext_getElem?
  intro i
  by_cases hi : i = p
  · subst hi
    have hl : i < (wd ad ca V M SH).length := (List.getElem?_eq_some_iff.mp (wd_at (ad := ad) (ca := ca) (V := V) (M := M) h)).1
    rw [List.getElem?_set_self hl, wd_at h, he]
  · rw [List.getElem?_set_ne (fun h => hi h.symm)]
    unfold wd
    rw [List.getElem?_mapIdx, List.getElem?_mapIdx]
    cases SH[i]? with
    | none => rfl
    | some sh' => simp only [Option.map_some]; rw [ho i sh' hi]
theorem ce_ne {ad : Nat → Nat} {ca : Nat → ClassId} {V V' : Rf} {M M' : Mem} {q : Nat} (h1 : M'.1 q = M.1 q) (h2 : M'.2 q = M.2 q) (h3 : V' q = V q) (sh : Sh) : ce ad ca V' M' q sh = ce ad ca V M q sh := by
  unfold ce fl fv
  simp only [h1, h2, h3]
theorem sI_ne {M : Mem} {p k q : Nat} {v : Int32} (h : q ≠ p) : (sI M p k v).1 q = M.1 q := if_neg h
theorem sJ_ne {M : Mem} {p k q : Nat} {v : Int64} (h : q ≠ p) : (sJ M p k v).2 q = M.2 q := if_neg h
theorem sR_ne {V : Rf} {p k q : Nat} {v : Option Nat} (h : q ≠ p) : sR V p k v q = V q := if_neg h
theorem sI_at {M : Mem} {p k : Nat} {v : Int32} : (sI M p k v).1 p = upd (M.1 p) k v := if_pos rfl
theorem sJ_at {M : Mem} {p k : Nat} {v : Int64} : (sJ M p k v).2 p = vp_updL (M.2 p) k v := if_pos rfl
theorem sR_at {V : Rf} {p k : Nat} {v : Option Nat} : sR V p k v p = va_up (V p) k v := if_pos rfl
theorem wd_push {ad : Nat → Nat} {ca : Nat → ClassId} {V : Rf} {M : Mem} {SH : List Sh} {sh : Sh} : wd ad ca V M SH ++ [(ad SH.length, ce ad ca (nwR V SH.length) (nwM M SH.length) SH.length sh)] = wd ad ca (nwR V SH.length) (nwM M SH.length) (SH ++ [sh]) := by
  have e : wd ad ca V M SH = wd ad ca (nwR V SH.length) (nwM M SH.length) SH := by
    unfold wd
    apply List.ext_getElem?
    intro i
    rw [List.getElem?_mapIdx, List.getElem?_mapIdx]
    cases hs : SH[i]? with
    | none => rfl
    | some sh' =>
      have hi : i ≠ SH.length := Nat.ne_of_lt (List.getElem?_eq_some_iff.mp hs).1
      simp only [Option.map_some]
      rw [ce_ne (V' := nwR V SH.length) (M' := nwM M SH.length) (V := V) (M := M) (if_neg hi) (if_neg hi) (if_neg hi)]
  rw [e]
  unfold wd
  rw [List.mapIdx_append]
  congr 1
  simp

