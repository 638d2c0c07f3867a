theorem ad_add {ad : Nat → Nat} (h : ∀ q, q < 900 → ad (q + 1) = ad q + 1) : ∀ (m n : Nat), n + m ≤ 900 → ad (n + m) = ad n + m
  | 0, n, _ => rfl
  | m + 1, n, hm => by
    rw [show n + (m + 1) = n + m + 1 by omega, h (n + m) (by omega), ad_add h m n (by omega)]
    omega
theorem Gr.up {gr : Bool} {ad : Nat → Nat} {SH SH' : List Sh} {n m : Nat} (g : Gr gr ad SH n) (hl : SH'.length = SH.length + m) (hm : SH'.length < 800) : Gr gr ad SH' (n + m) := by
  intro hg
  obtain ⟨e1, e2, e3, e4⟩ := g hg
  refine ⟨?_, e2, by omega, hm⟩
  rw [hl, ad_add e2 m SH.length (by omega), e1]
def clTy (ci : Nat) (ty0 : Nat → FieldType) (N : Nat) : Prop := ∀ k, k < N → defaultValue (ty0 k) = (match (fc ci)[k]? with | some 2 => Value.long 0 | some 3 => Value.null | _ => Value.int 0)
theorem fl_new {ad : Nat → Nat} {V : Rf} {M : Mem} {p ci j : Nat} : vp_V (fl ad (nwR V p) (nwM M p) p (fc ci)) j = (match (fc ci)[j]? with | some 2 => Value.long 0 | some 3 => Value.null | some _ => Value.int 0 | none => Value.null) := by
  unfold vp_V fl
  rw [List.getD_eq_getElem?_getD, List.getElem?_mapIdx]
  cases h : (fc ci)[j]? with
  | none => rfl
  | some t =>
    simp only [Option.map_some, Option.getD_some]
    unfold fv nwM nwR
    simp only [if_true]
    match t with
    | 0 => rfl
    | 1 => rfl
    | 2 => rfl
    | 3 => rfl
    | t + 4 => rfl
theorem fl_new' {ad : Nat → Nat} {V : Rf} {M : Mem} {p ci j : Nat} (h : j < (fc ci).length) : vp_V (fl ad (nwR V p) (nwM M p) p (fc ci)) j = (match (fc ci)[j]? with | some 2 => Value.long 0 | some 3 => Value.null | _ => Value.int 0) := by
  rw [fl_new]
  obtain ⟨t, ht⟩ : ∃ t, (fc ci)[j]? = some t := ⟨_, List.getElem?_eq_getElem h⟩
  rw [ht]
  match t with
  | 0 => rfl
  | 1 => rfl
  | 2 => rfl
  | 3 => rfl
  | t + 4 => rfl

section TA
variable {own : String} {cc : ByteArray} {nL : Nat} {ret : Option FieldType} {rk d mc ms : Nat} {gr : Bool} {Po : Po_} {pc : Nat} {L : List (Option AV)} {st : List AV} {SH : List Sh} {V : Rf} {M : Mem} {kc ks : Nat}
theorem T_new {i ci N : Nat} {C0 : String} {Tt : u_T} {ty0 : Nat → FieldType} {V' : Rf} {M' : Mem} {SH' : List Sh} (hd : decode cc pc = .ok (.new i, 3)) (hc : clOK ci C0 Tt N ty0) (hct : clTy ci ty0 N) (hcl : Cond.classLink own i C0 ∈ lg_tbl) (hin : Cond.instantiable C0 N ∈ lg_tbl) (hini : Cond.initialized C0 ∈ lg_tbl) (hm1 : kc + 1 ≤ mc) (hm2 : ks + N ≤ ms) (hn : SH.length < 700) (hSH : SH' = SH ++ [(ci, 0)]) (hV : V' = nwR V SH.length) (hM : M' = nwM M SH.length)
    (k : T own cc nL ret rk d mc ms true Po (pc + 3) L (vR (some SH.length) :: st) (SH') (V') (M') (kc + 1) (ks + N)) : T own cc nL ret rk d mc ms true Po pc L st SH V M kc ks := by
  subst hSH hV hM
  intro p l e R s m args below meth c dC dI ad ca A H locs ls C w t hS hA g hl h1 h2
  intro T0 hT0 X
  have hz : H.size = ad SH.length := gr_size w g (by rw [← hT0]; exact X.heapSize) rfl
  have hKn := w.1.1 ci _ hc.2.1
  have hadA : A (ad SH.length) := by rw [← hz]; exact hA _ hS.1
  refine W.newcK (g := F0 m pc ls (st.map (cv ad))) C.1 C.2.1 C.2.2.2.2.1 (C.2.2.2.2.2.1 _ hcl) (C.2.2.2.2.2.1 _ hin) (C.2.2.2.2.2.1 _ hini) rfl hd (Nat.le_trans hm1 C.2.2.2.2.2.2.2.2.2.1) (Nat.le_trans hm2 C.2.2.2.2.2.2.2.2.2.2.1) hKn.2.1 hz (fun H1 kC hkC e1 z1 o1 => ?_) T0 hT0 X
  have hk : ∀ (k : Nat) (x : Nat × va_E), (wd ad ca V M SH)[k]? = some x → H1[x.1]? = H[x.1]? := fun k x hx => o1 x.1 (hz ▸ (w.2.1 k x hx).lt)
  have hP' : va_P (dC, dI) vwCl (wd ad ca (nwR V SH.length) (nwM M SH.length) (SH ++ [(ci, 0)])) H1 := by
    rw [← wd_push, ce_obj hc.1]
    refine (w.2.1.kept hk).app (fun k x hx => ?_)
    have hz1 : k < 1 := (List.getElem?_eq_some_iff.mp hx).1
    rw [show k = 0 by omega] at hx
    cases hx
    refine ⟨_, hc.2.1, (u_born ty0 C.2.2.2.2.2.1 hc.2.2.1 hKn hkC e1 hc.2.2.2.1).to (fun j hj => ?_)⟩
    exact (hct j hj).trans (fl_new' (show j < (fc ci).length from hc.2.2.2.2.2.symm ▸ hj)).symm
  have hD' : va_D A (wd ad ca (nwR V SH.length) (nwM M SH.length) (SH ++ [(ci, 0)])) := by
    rw [← wd_push]
    exact w.2.2.push w.2.1 hz.symm hadA
  have hS' : va_S A s.heap H1 locs := ⟨Nat.le_trans hS.1 (by omega), fun x a b => (o1 x (by have := hS.1; omega)).trans (hS.2.1 x a b), hS.2.2⟩
  exact k p l e R s m args below meth c dC dI ad ca A H1 locs ls C ⟨w.1, hP', hD'⟩ t hS' hA (Gr.up (m := 1) g (by simp) (by simp; omega)) hl hm1 hm2
theorem T_newaI {n : Int32} {N : Nat} {V' : Rf} {M' : Mem} {SH' : List Sh} (hd : decode cc pc = .ok (.newarray .int, 2)) (harr : Cond.arrayClass .int ∈ lg_tbl) (hn0 : ¬ n < 0) (hN : n.toNatClampNeg = N) (hNb : N ≤ 60000) (hm1 : kc + 1 ≤ mc) (hm2 : ks + N ≤ ms) (hn : SH.length < 700) (hSH : SH' = SH ++ [(20, N)]) (hV : V' = nwR V SH.length) (hM : M' = nwM M SH.length)
    (k : T own cc nL ret rk d mc ms true Po (pc + 2) L (vR (some SH.length) :: st) (SH') (V') (M') (kc + 1) (ks + N)) : T own cc nL ret rk d mc ms true Po pc L (vI n :: st) SH V M kc ks := by
  subst hSH hV hM
  intro p l e R s m args below meth c dC dI ad ca A H locs ls C w t hS hA g hl h1 h2
  intro T0 hT0 X
  have hz : H.size = ad SH.length := gr_size w g (by rw [← hT0]; exact X.heapSize) rfl
  have hadA : A (ad SH.length) := by rw [← hz]; exact hA _ hS.1
  refine va_newaK (atype := .int) C.1 C.2.1 (C.2.2.2.2.2.1 _ harr) (g := F0 m pc ls ((vI n :: st).map (cv ad))) rfl hd rfl hn0 hN (by simp [newarray.typeOf, componentBytes]; omega) (Nat.le_trans hm1 C.2.2.2.2.2.2.2.2.2.1) (Nat.le_trans hm2 C.2.2.2.2.2.2.2.2.2.2.1) hz (fun H1 cA e1 z1 o1 hAr hNm => ?_) T0 hT0 X
  have hcA : cA = ca 20 := Option.some.inj (hNm.symm.trans (w.1.2 0 _ rfl).2)
  subst hcA
  have hk : ∀ (k : Nat) (x : Nat × va_E), (wd ad ca V M SH)[k]? = some x → H1[x.1]? = H[x.1]? := fun k x hx => o1 x.1 (hz ▸ (w.2.1 k x hx).lt)
  have hP' : va_P (dC, dI) vwCl (wd ad ca (nwR V SH.length) (nwM M SH.length) (SH ++ [(20, N)])) H1 := by
    rw [← wd_push, ce_20]
    refine (w.2.1.kept hk).app (fun k x hx => ?_)
    have hz1 : k < 1 := (List.getElem?_eq_some_iff.mp hx).1
    rw [show k = 0 by omega] at hx
    cases hx
    show H1[ad SH.length]? = some (vp_cell _ _)
    rw [e1]
    simp [nwM, vp_cell, newarray.typeOf, defaultValue]
  have hD' : va_D A (wd ad ca (nwR V SH.length) (nwM M SH.length) (SH ++ [(20, N)])) := by
    rw [← wd_push]
    exact w.2.2.push w.2.1 hz.symm hadA
  have hS' : va_S A s.heap H1 locs := ⟨Nat.le_trans hS.1 (by omega), fun x a b => (o1 x (by have := hS.1; omega)).trans (hS.2.1 x a b), hS.2.2⟩
  exact k p l e R s m args below meth c dC dI ad ca A H1 locs ls C ⟨w.1, hP', hD'⟩ t hS' hA (Gr.up (m := 1) g (by simp) (by simp; omega)) hl hm1 hm2
theorem T_newaJ {n : Int32} {N : Nat} {V' : Rf} {M' : Mem} {SH' : List Sh} (hd : decode cc pc = .ok (.newarray .long, 2)) (harr : Cond.arrayClass .long ∈ lg_tbl) (hn0 : ¬ n < 0) (hN : n.toNatClampNeg = N) (hNb : N ≤ 60000) (hm1 : kc + 1 ≤ mc) (hm2 : ks + N ≤ ms) (hn : SH.length < 700) (hSH : SH' = SH ++ [(21, N)]) (hV : V' = nwR V SH.length) (hM : M' = nwM M SH.length)
    (k : T own cc nL ret rk d mc ms true Po (pc + 2) L (vR (some SH.length) :: st) (SH') (V') (M') (kc + 1) (ks + N)) : T own cc nL ret rk d mc ms true Po pc L (vI n :: st) SH V M kc ks := by
  subst hSH hV hM
  intro p l e R s m args below meth c dC dI ad ca A H locs ls C w t hS hA g hl h1 h2
  intro T0 hT0 X
  have hz : H.size = ad SH.length := gr_size w g (by rw [← hT0]; exact X.heapSize) rfl
  have hadA : A (ad SH.length) := by rw [← hz]; exact hA _ hS.1
  refine va_newaK (atype := .long) C.1 C.2.1 (C.2.2.2.2.2.1 _ harr) (g := F0 m pc ls ((vI n :: st).map (cv ad))) rfl hd rfl hn0 hN (by simp [newarray.typeOf, componentBytes]; omega) (Nat.le_trans hm1 C.2.2.2.2.2.2.2.2.2.1) (Nat.le_trans hm2 C.2.2.2.2.2.2.2.2.2.2.1) hz (fun H1 cA e1 z1 o1 hAr hNm => ?_) T0 hT0 X
  have hcA : cA = ca 21 := Option.some.inj (hNm.symm.trans (w.1.2 1 _ rfl).2)
  subst hcA
  have hk : ∀ (k : Nat) (x : Nat × va_E), (wd ad ca V M SH)[k]? = some x → H1[x.1]? = H[x.1]? := fun k x hx => o1 x.1 (hz ▸ (w.2.1 k x hx).lt)
  have hP' : va_P (dC, dI) vwCl (wd ad ca (nwR V SH.length) (nwM M SH.length) (SH ++ [(21, N)])) H1 := by
    rw [← wd_push, ce_21]
    refine (w.2.1.kept hk).app (fun k x hx => ?_)
    have hz1 : k < 1 := (List.getElem?_eq_some_iff.mp hx).1
    rw [show k = 0 by omega] at hx
    cases hx
    show H1[ad SH.length]? = some (vp_cell _ _)
    rw [e1]
    simp [nwM, vp_cell, newarray.typeOf, defaultValue]
  have hD' : va_D A (wd ad ca (nwR V SH.length) (nwM M SH.length) (SH ++ [(21, N)])) := by
    rw [← wd_push]
    exact w.2.2.push w.2.1 hz.symm hadA
  have hS' : va_S A s.heap H1 locs := ⟨Nat.le_trans hS.1 (by omega), fun x a b => (o1 x (by have := hS.1; omega)).trans (hS.2.1 x a b), hS.2.2⟩
  exact k p l e R s m args below meth c dC dI ad ca A H1 locs ls C ⟨w.1, hP', hD'⟩ t hS' hA (Gr.up (m := 1) g (by simp) (by simp; omega)) hl hm1 hm2
theorem T_newq {n : Int32} {i N kd ti : Nat} {C0 : String} {V' : Rf} {M' : Mem} {SH' : List Sh} (hd : decode cc pc = .ok (.anewarray i, 3)) (hcl : Cond.classLink own i C0 ∈ lg_tbl) (hC0 : (C0 = RX1 ∧ kd = 31 ∧ ti = 2) ∨ (C0 = RX3 ∧ kd = 33 ∧ ti = 3) ∨ (C0 = RX5 ∧ kd = 35 ∧ ti = 4)) (hn0 : ¬ n < 0) (hN : n.toNatClampNeg = N) (hNb : N ≤ 60000) (hm1 : kc + 1 ≤ mc) (hm2 : ks + N ≤ ms) (hn : SH.length < 700) (hSH : SH' = SH ++ [(kd, N)]) (hV : V' = nwR V SH.length) (hM : M' = nwM M SH.length)
    (k : T own cc nL ret rk d mc ms true Po (pc + 3) L (vR (some SH.length) :: st) (SH') (V') (M') (kc + 1) (ks + N)) : T own cc nL ret rk d mc ms true Po pc L (vI n :: st) SH V M kc ks := by
  subst hSH hV hM hN
  intro p l e R s m args below meth c dC dI ad ca A H locs ls C w t hS hA g hl h1 h2
  intro T0 hT0 X
  have hz : H.size = ad SH.length := gr_size w g (by rw [← hT0]; exact X.heapSize) rfl
  have hadA : A (ad SH.length) := by rw [← hz]; exact hA _ hS.1
  have hkd : 22 ≤ kd := by omega
  have hover : va_AO C0 s := by
    rcases hC0 with ⟨rfl, -, -⟩ | ⟨rfl, -, -⟩ | ⟨rfl, -, -⟩
    · exact t.2.2.1
    · exact t.2.2.2.1
    · exact t.2.2.2.2
  have hname : s.vm.findClass ("[" ++ (FieldType.object C0).toString) = some (ca kd) := by
    rcases hC0 with ⟨rfl, rfl, rfl⟩ | ⟨rfl, rfl, rfl⟩ | ⟨rfl, rfl, rfl⟩
    · obtain ⟨_, _, _, _, _, h⟩ := (w.1.2 2 _ rfl).2; exact h
    · obtain ⟨_, _, _, _, _, h⟩ := (w.1.2 3 _ rfl).2; exact h
    · obtain ⟨_, _, _, _, _, h⟩ := (w.1.2 4 _ rfl).2; exact h
  refine W.anew C.1 C.2.1 C.2.2.2.2.1 (C.2.2.2.2.2.1 _ hcl) (va_AO.use hover) (g := F0 m pc ls ((vI n :: st).map (cv ad))) rfl hd rfl hn0 (by omega) (Nat.le_trans hm1 C.2.2.2.2.2.2.2.2.2.1) (Nat.le_trans hm2 C.2.2.2.2.2.2.2.2.2.2.1) (fun cA kA comp f1 f2 f3 f4 => ?_) T0 hT0 X
  have hcA : cA = ca kd := Option.some.inj (f1.symm.trans hname)
  subst hcA
  generalize hH1 : H.push ({ cls := ca kd, slots := Array.replicate n.toNatClampNeg .null, vm := .none } : Cell) = H1
  have z1 : H1.size = H.size + 1 := by rw [← hH1, Array.size_push]
  have e1 : H1[H.size]? = some (arrV (ca kd) n.toNatClampNeg (fun _ => .null)) := by rw [← hH1, Array.getElem?_push_size, ← arrV_new]
  have o1 : ∀ q : Nat, q < H.size → H1[q]? = H[q]? := fun q hq => by rw [← hH1, Array.getElem?_push, if_neg (Nat.ne_of_lt hq)]
  have hk : ∀ (k : Nat) (x : Nat × va_E), (wd ad ca V M SH)[k]? = some x → H1[x.1]? = H[x.1]? := fun k x hx => o1 x.1 (w.2.1 k x hx).lt
  have hP' : va_P (dC, dI) vwCl (wd ad ca (nwR V SH.length) (nwM M SH.length) (SH ++ [(kd, n.toNatClampNeg)])) H1 := by
    rw [← wd_push, ce_q hkd]
    refine (w.2.1.kept hk).app (fun k x hx => ?_)
    have hz1 : k < 1 := (List.getElem?_eq_some_iff.mp hx).1
    rw [show k = 0 by omega] at hx
    cases hx
    show H1[ad SH.length]? = some (vp_cell _ _)
    rw [← hz, e1]
    simp [nwR, vp_cell, va_rf]
  have hD' : va_D A (wd ad ca (nwR V SH.length) (nwM M SH.length) (SH ++ [(kd, n.toNatClampNeg)])) := by
    rw [← wd_push]
    exact w.2.2.push w.2.1 hz.symm hadA
  have hS' : va_S A s.heap H1 locs := ⟨Nat.le_trans hS.1 (by omega), fun x a b => (o1 x (by have := hS.1; omega)).trans (hS.2.1 x a b), hS.2.2⟩
  have kk := k p l e R s m args below meth c dC dI ad ca A H1 locs ls C ⟨w.1, hP', hD'⟩ t hS' hA (Gr.up (m := 1) g (by simp) (by simp; omega)) hl hm1 hm2
  have e9 : F0 m (pc + 3) ls ((vR (some SH.length) :: st).map (cv ad)) = F0 m (pc + 3) ls (.ref H.size :: st.map (cv ad)) := by rw [hz]; rfl
  rw [e9] at kk
  exact kk
theorem T_objInit {i b : Nat} (hd : decode cc pc = .ok (.invokespecial i, 3)) (hlk : Cond.methodLink own i Lib.objectInit ∈ lg_tbl) (hin : Cond.instanceMethod Lib.objectInit ∈ lg_tbl) (hco : Cond.code Lib.objectInit ⟨#[0xb1]⟩ 1 none ∈ lg_tbl) (hsum : (st.map fun v => (match v with | .inr (.inl _) => 2 | _ => 1)).sum ≤ 8) (hdep : 1 ≤ d) (k : T own cc nL ret rk d mc ms gr Po (pc + 3) L st SH V M kc ks) : T own cc nL ret rk d mc ms gr Po pc L (vR (some b) :: st) SH V M kc ks := by
  intro p l e R s m args below meth c dC dI ad ca A H locs ls C w t hS hA g hl h1 h2
  refine W.objInit C.1 C.2.1 C.2.2.2.2.1 (C.2.2.2.2.2.1 _ hlk) (C.2.2.2.2.2.1 _ hin) (C.2.2.2.2.2.1 _ hco) (g := F0 m pc ls ((vR (some b) :: st).map (cv ad))) (a := ad b) (rest := st.map (cv ad)) rfl (by rw [C.2.2.2.1]; exact hl.1) rfl hd (Nat.le_trans hdep C.2.2.2.2.2.2.2.1) ?_ (k p l e R s m args below meth c dC dI ad ca A H locs ls C w t hS hA g hl h1 h2)
  have := lv_room (m := m) (pc := pc) (ls := ls) (rest := (vR (some b) :: st).map (cv ad)) (st := st.map (cv ad)) (by rw [sum_cv]; exact hsum)
  have := C.2.2.2.2.2.2.2.2.1
  omega
theorem T_copy {i q0 q1 n0 n1 : Nat} {sp dp n : Int32} {M' : Mem} (hd : decode cc pc = .ok (.invokestatic i, 3)) (hlk : Cond.methodLink own i arraycopyName ∈ lg_tbl) (hnat : Cond.native arraycopyName ∈ lg_tbl) (hsta : Cond.static arraycopyName ∈ lg_tbl) (hini : Cond.initialized "java/lang/System" ∈ lg_tbl) (hs0 : SH[q0]? = some (20, n0)) (hs1 : SH[q1]? = some (20, n1)) (c1 : ¬ sp < 0) (c2 : ¬ dp < 0) (c3 : ¬ n < 0) (c4 : sp.toNatClampNeg + n.toNatClampNeg ≤ n0) (c5 : dp.toNatClampNeg + n.toNatClampNeg ≤ n1) (hsum : (st.map fun v => (match v with | .inr (.inl _) => 2 | _ => 1)).sum ≤ 8) (hdep : 1 ≤ d) (hM : M' = cpI M q0 sp.toNatClampNeg q1 dp.toNatClampNeg n.toNatClampNeg) (k : T own cc nL ret rk d mc ms gr Po (pc + 3) L st SH V (M') kc ks) : T own cc nL ret rk d mc ms gr Po pc L (vI n :: vI dp :: vR (some q1) :: vI sp :: vR (some q0) :: st) SH V M kc ks := by
  subst hM
  intro p l e R s m args below meth c dC dI ad ca A H locs ls C w t hS hA g hl h1 h2
  have hset : (wd ad ca V M SH).set q1 (ad q1, .inl (ca 20, n1, .inl (va_cpy (M.1 q0) (M.1 q1) sp.toNatClampNeg dp.toNatClampNeg n.toNatClampNeg))) = wd ad ca V (cpI M q0 sp.toNatClampNeg q1 dp.toNatClampNeg n.toNatClampNeg) SH := wd_set hs1 (ce_20.trans (by simp [cpI])) (fun j sh hj => ce_ne (V := V) (V' := V) (M := M) (M' := cpI M q0 sp.toNatClampNeg q1 dp.toNatClampNeg n.toNatClampNeg) (if_neg hj) rfl rfl sh)
  have hloc : ((st.map (cv ad)).map fun v => v.category).sum + (nativeFrameWords "java/lang/System" "arraycopy" 5 + 11) ≤ R.locals := by
    have e1 : nativeFrameWords "java/lang/System" "arraycopy" 5 ≤ 40 := by decide +kernel
    have e2 := C.2.2.2.2.2.2.2.2.1
    have e3 : ((st.map (cv ad)).map fun v => v.category).sum ≤ 8 := by rw [sum_cv]; exact hsum
    omega
  exact va_copyi C.1 C.2.1 (C.2.2.2.1.trans hl.1.symm) C.2.2.2.2.1 (C.2.2.2.2.2.1 _ hlk) (C.2.2.2.2.2.1 _ hnat) (C.2.2.2.2.2.1 _ hsta) (C.2.2.2.2.2.1 _ hini) w.1 w.2.1 w.2.2 hS q0 q1 0 0 ((wd_at hs0).trans (congrArg (fun z => some (ad q0, z)) ce_20)) ((wd_at hs1).trans (congrArg (fun z => some (ad q1, z)) ce_20)) rfl rfl rfl c1 c2 c3 c4 c5 (fun _ _ => rfl) (Nat.le_trans hdep C.2.2.2.2.2.2.2.1) hloc hd (fun H1 locs1 hP hD hS1 => k p l e R s m args below meth c dC dI ad ca A H1 locs1 ls C ⟨w.1, hset ▸ hP, hset ▸ hD⟩ t hS1 hA g hl h1 h2)
theorem T_ci {i ny d' mc' ms' b : Nat} {y : MethodName} {cy : ByteArray} {as rest : List AV} {SH' : List Sh} {V' : Rf} {M' : Mem} (hd : decode cc pc = .ok (.invokespecial i, 3)) (hw : CW own i y cy ny none as.length) (hlk : Cond.methodLink own i y ∈ lg_tbl) (hin : Cond.instanceMethod y ∈ lg_tbl) (hnm : y.name = "<init>") (hst : st = as.reverse ++ vR (some b) :: rest) (hsum : (rest.map fun v => (match v with | .inr (.inl _) => 2 | _ => 1)).sum ≤ 8) (hdep : d' + 1 ≤ d) (hm1 : kc + mc' ≤ mc) (hm2 : ks + ms' ≤ ms) (hlen : SH'.length = SH.length + mc') (hn : SH'.length < 800)
    (hc : Cal y cy ny none 2 d' mc' ms' true (vR (some b) :: as) SH V M (eqp (vI 0) SH' V' M')) (k : T own cc nL ret rk d mc ms true Po (pc + 3) L rest (SH') (V') (M') (kc + mc') (ks + ms')) : T own cc nL ret rk d mc ms true Po pc L st SH V M kc ks := by
  subst hst
  intro p l e R s m args below meth c dC dI ad ca A H locs ls C w t hS hA g hl h1 h2
  intro T0 hT0 X
  have hz : H.size = ad SH.length := gr_size w g (by rw [← hT0]; exact X.heapSize) rfl
  have hF := wd_free w.2.2 hS hA
  have pre : ∀ U : State, U.heap = H → s.WarmedH U.vm → (va_Pc ((vR (some b) :: as).map (cv ad)) (fun U => U.heap.size = H.size ∧ Wo dC dI ad ca (fun _ => True) SH V M U U.heap ∧ St ad (va_A (wd ad ca V M SH) H.size) U U.heap ∧ Gr true ad SH U.heap.size)) ((vR (some b) :: as).map (cv ad)).toArray U := fun U hU hW => ⟨rfl, by rw [hU], ⟨va_K.moved hW.alike w.1, by rw [hU]; exact w.2.1, w.2.2.weaken (fun _ _ _ _ => trivial)⟩, by rw [hU]; exact t.go hW.alike (t.2.warm hW) hS.2.1 hF, by rw [hU]; exact fun h => ⟨hz, (g h).2⟩⟩
  have hrun := va_runI (l := l) (e := e) (below := below) (meth := meth) (locs := locs) (cells := kc) (slots := ks) (g := F0 m pc ls ((as.map (cv ad)).reverse ++ .ref (ad b) :: rest.map (cv ad))) (As := as.map (cv ad)) (rest := rest.map (cv ad)) ⟨C.1, C.2.1, C.2.2.2.1, C.2.2.2.2.1, C.2.2.2.2.2.1⟩ (hc l dC dI ad ca H.size) ⟨(callB_of (rm := rmOf d' mc' ms') as.length C.2.2.2.2.2.1 hw.good rfl rfl rfl (C.2.2.2.2.2.1 _ hw.1) (C.2.2.2.2.2.1 _ hlk) hw.2.2.2.1 ⟨Nat.le_trans hdep C.2.2.2.2.2.2.2.1, Nat.le_trans (show 8 + (ny + 11) + 64 * d' ≤ 64 * d by have := hw.2.2.2.2; omega) C.2.2.2.2.2.2.2.2.1⟩), hnm, C.2.2.2.2.2.1 _ hin⟩ ⟨blind dC dI ad ca H.size true (vR (some b) :: as) SH V M, pre⟩ rfl (List.length_map _) hl.1 rfl (lv_room (by rw [sum_cv]; exact hsum)) hd ⟨Nat.le_trans hm1 C.2.2.2.2.2.2.2.2.2.1, Nat.le_trans hm2 C.2.2.2.2.2.2.2.2.2.2.1⟩
  have hst : F0 m pc ls (((as.reverse ++ vR (some b) :: rest : List AV)).map (cv ad)) = F0 m pc ls ((as.map (cv ad)).reverse ++ .ref (ad b) :: rest.map (cv ad)) := by
    simp only [List.map_append, List.map_reverse, List.map_cons]
    rfl
  rw [hst]
  refine va_callv (a := (Value.ref (ad b) :: as.map (cv ad)).toArray) hrun hS (fun q _ h => hF q h) hF (fun u t' H1 locs1 ht hvm hw2 hB hz2 hk hS1 => ?_) T0 hT0 X
  obtain ⟨SH1, V1, M1⟩ := u
  obtain ⟨e1, e2, e3, e4⟩ := hw2
  simp only at e2 e3 e4
  subst e2 e3 e4
  obtain ⟨b1, b2, b3⟩ := hB
  simp only at b1 b2 b3
  rw [ht] at b2
  have g' : Gr true ad SH1 (s.heap.size + (kc + mc')) := by rw [← Nat.add_assoc]; exact Gr.up g hlen hn
  exact k p l e R s m args below meth c dC dI ad ca A H1 locs1 ls C ⟨va_K.moved hvm.symm b1, b2, b3.weaken (fun _ q _ h => hF q.1 h)⟩ t hS1 hA g' hl hm1 hm2
theorem T_cin {i ny d' mc' ms' b : Nat} {y : MethodName} {cy : ByteArray} {as rest : List AV} {SH' : List Sh} {V' : Rf} {M' : Mem} (hd : decode cc pc = .ok (.invokespecial i, 3)) (hw : CW own i y cy ny none as.length) {host : String} (hlk : Cond.methodLinkNest own i y host ∈ lw_tbl) (hin : Cond.instanceMethod y ∈ lg_tbl) (hnm : y.name = "<init>") (hst : st = as.reverse ++ vR (some b) :: rest) (hsum : (rest.map fun v => (match v with | .inr (.inl _) => 2 | _ => 1)).sum ≤ 8) (hdep : d' + 1 ≤ d) (hm1 : kc + mc' ≤ mc) (hm2 : ks + ms' ≤ ms) (hlen : SH'.length = SH.length + mc') (hn : SH'.length < 800)
    (hc : Cal y cy ny none 2 d' mc' ms' true (vR (some b) :: as) SH V M (eqp (vI 0) SH' V' M')) (k : T own cc nL ret rk d mc ms true Po (pc + 3) L rest (SH') (V') (M') (kc + mc') (ks + ms')) : T own cc nL ret rk d mc ms true Po pc L st SH V M kc ks := by
  subst hst
  intro p l e R s m args below meth c dC dI ad ca A H locs ls C w t hS hA g hl h1 h2
  intro T0 hT0 X
  have hz : H.size = ad SH.length := gr_size w g (by rw [← hT0]; exact X.heapSize) rfl
  have hF := wd_free w.2.2 hS hA
  have pre : ∀ U : State, U.heap = H → s.WarmedH U.vm → (va_Pc ((vR (some b) :: as).map (cv ad)) (fun U => U.heap.size = H.size ∧ Wo dC dI ad ca (fun _ => True) SH V M U U.heap ∧ St ad (va_A (wd ad ca V M SH) H.size) U U.heap ∧ Gr true ad SH U.heap.size)) ((vR (some b) :: as).map (cv ad)).toArray U := fun U hU hW => ⟨rfl, by rw [hU], ⟨va_K.moved hW.alike w.1, by rw [hU]; exact w.2.1, w.2.2.weaken (fun _ _ _ _ => trivial)⟩, by rw [hU]; exact t.go hW.alike (t.2.warm hW) hS.2.1 hF, by rw [hU]; exact fun h => ⟨hz, (g h).2⟩⟩
  have hrun := va_runIN (l := l) (e := e) (below := below) (meth := meth) (locs := locs) (cells := kc) (slots := ks) (g := F0 m pc ls ((as.map (cv ad)).reverse ++ .ref (ad b) :: rest.map (cv ad))) (As := as.map (cv ad)) (rest := rest.map (cv ad)) ⟨C.1, C.2.1, C.2.2.2.1, C.2.2.2.2.1, C.2.2.2.2.2.1⟩ (hc l dC dI ad ca H.size) ⟨(va_cnB (rm := rmOf d' mc' ms') as.length C.2.2.2.2.2.1 hw.good rfl rfl rfl (t.2.1 _ hlk rfl) (C.2.2.2.2.2.1 _ hw.1) hw.2.2.2.1 ⟨Nat.le_trans hdep C.2.2.2.2.2.2.2.1, Nat.le_trans (show 8 + (ny + 11) + 64 * d' ≤ 64 * d by have := hw.2.2.2.2; omega) C.2.2.2.2.2.2.2.2.1⟩), hnm, C.2.2.2.2.2.1 _ hin⟩ ⟨blind dC dI ad ca H.size true (vR (some b) :: as) SH V M, pre⟩ rfl (List.length_map _) hl.1 rfl (lv_room (by rw [sum_cv]; exact hsum)) hd ⟨Nat.le_trans hm1 C.2.2.2.2.2.2.2.2.2.1, Nat.le_trans hm2 C.2.2.2.2.2.2.2.2.2.2.1⟩
  have hst : F0 m pc ls (((as.reverse ++ vR (some b) :: rest : List AV)).map (cv ad)) = F0 m pc ls ((as.map (cv ad)).reverse ++ .ref (ad b) :: rest.map (cv ad)) := by
    simp only [List.map_append, List.map_reverse, List.map_cons]
    rfl
  rw [hst]
  refine va_callv (a := (Value.ref (ad b) :: as.map (cv ad)).toArray) hrun hS (fun q _ h => hF q h) hF (fun u t' H1 locs1 ht hvm hw2 hB hz2 hk hS1 => ?_) T0 hT0 X
  obtain ⟨SH1, V1, M1⟩ := u
  obtain ⟨e1, e2, e3, e4⟩ := hw2
  simp only at e2 e3 e4
  subst e2 e3 e4
  obtain ⟨b1, b2, b3⟩ := hB
  simp only at b1 b2 b3
  rw [ht] at b2
  have g' : Gr true ad SH1 (s.heap.size + (kc + mc')) := by rw [← Nat.add_assoc]; exact Gr.up g hlen hn
  exact k p l e R s m args below meth c dC dI ad ca A H1 locs1 ls C ⟨va_K.moved hvm.symm b1, b2, b3.weaken (fun _ q _ h => hF q.1 h)⟩ t hS1 hA g' hl hm1 hm2
end TA
