/-! ===== a method's contract over the pure memory ===== -/
def rmOf (d mc ms : Nat) : Room := { frames := d, cells := mc, slots := ms, locals := 64 * d }
def Cal (y : MethodName) (cc : ByteArray) (nL : Nat) (ret : Option FieldType) (rk d mc ms : Nat) (gr : Bool) (as : List AV) (SH : List Sh) (V : Rf) (M : Mem) (Po : Po_) : Prop :=
  ∀ (l : Launch) (dC : Nat → ClassId) (dI : Nat → Nat → Nat) (ad : Nat → Nat) (ca : Nat → ClassId) (sz : Nat),
    Met l y (Cond.code y cc nL ret :: lg_tbl) (rmOf d mc ms) (va_Pc (as.map (cv ad)) (fun U => U.heap.size = sz ∧ Wo dC dI ad ca (fun _ => True) SH V M U U.heap ∧ St ad (va_A (wd ad ca V M SH) sz) U U.heap ∧ Gr gr ad SH U.heap.size)) (Qm rk dC dI ad ca (va_A (wd ad ca V M SH) sz) Po) mc ms (va_A (wd ad ca V M SH) sz)
def en1 : List AV → List (Option AV)
  | [] => []
  | .inr (.inl x) :: t => some (.inr (.inl x)) :: none :: en1 t
  | .inl x :: t => some (.inl x) :: en1 t
  | .inr (.inr o) :: t => some (.inr (.inr o)) :: en1 t
def en (as : List AV) (n : Nat) : List (Option AV) := en1 as ++ List.replicate (n - (en1 as).length) none
theorem en1_len (ad : Nat → Nat) : ∀ as : List AV, (lg_sl (as.map (cv ad))).length = (en1 as).length
  | [] => rfl
  | .inl x :: t => by
    have h := en1_len ad t
    simp only [lg_sl, List.map_cons, List.flatMap_cons, List.length_append, en1, List.length_cons] at h ⊢
    rw [h, cat_cv]
    simp
    omega
  | .inr (.inl x) :: t => by
    have h := en1_len ad t
    simp only [lg_sl, List.map_cons, List.flatMap_cons, List.length_append, en1, List.length_cons] at h ⊢
    rw [h, cat_cv]
    simp
    omega
  | .inr (.inr o) :: t => by
    have h := en1_len ad t
    simp only [lg_sl, List.map_cons, List.flatMap_cons, List.length_append, en1, List.length_cons] at h ⊢
    rw [h, cat_cv]
    simp
    omega
theorem en1_args (ad : Nat → Nat) : ∀ (as : List AV) (k i : Nat) (v : AV), (en1 as)[i]? = some (some v) → (k + i, cv ad v) ∈ lv_args k (as.map (cv ad))
  | [], _, _, _, h => by simp [en1] at h
  | .inl x :: t, k, 0, v, h => by
    simp only [en1, List.getElem?_cons_zero, Option.some.injEq] at h
    subst h
    exact List.mem_cons_self
  | .inl x :: t, k, i + 1, v, h => by
    simp only [en1, List.getElem?_cons_succ] at h
    have := en1_args ad t (k + 1) i v h
    rw [show k + (i + 1) = k + 1 + i by omega]
    exact List.mem_cons_of_mem _ this
  | .inr (.inr o) :: t, k, 0, v, h => by
    simp only [en1, List.getElem?_cons_zero, Option.some.injEq] at h
    subst h
    exact List.mem_cons_self
  | .inr (.inr o) :: t, k, i + 1, v, h => by
    simp only [en1, List.getElem?_cons_succ] at h
    have := en1_args ad t (k + 1) i v h
    rw [show k + (i + 1) = k + 1 + i by omega]
    simp only [List.map_cons, lv_args]
    rw [cat_cv]
    exact List.mem_cons_of_mem _ this
  | .inr (.inl x) :: t, k, 0, v, h => by
    simp only [en1, List.getElem?_cons_zero, Option.some.injEq] at h
    subst h
    exact List.mem_cons_self
  | .inr (.inl x) :: t, k, 1, v, h => by simp [en1] at h
  | .inr (.inl x) :: t, k, i + 2, v, h => by
    simp only [en1, List.getElem?_cons_succ] at h
    have := en1_args ad t (k + 2) i v h
    rw [show k + (i + 2) = k + 2 + i by omega]
    simp only [List.map_cons, lv_args]
    rw [cat_cv]
    exact List.mem_cons_of_mem _ this
theorem lh_en {ad : Nat → Nat} {as : List AV} {n : Nat} (h : (en1 as).length ≤ n) : lh ad ((lg_sl (as.map (cv ad)) ++ List.replicate (n - (lg_sl (as.map (cv ad))).length) Slot.unset).toArray) n (en as n) := by
  have hl := lv_entry (as.map (cv ad)) (n := n) (by rw [en1_len]; exact h)
  refine ⟨hl.1, hl.2.1, fun i v hi => ?_⟩
  have hi' : (en1 as)[i]? = some (some v) := by
    unfold en at hi
    by_cases hlt : i < (en1 as).length
    · rwa [List.getElem?_append_left hlt] at hi
    · rw [List.getElem?_append_right (by omega)] at hi
      rw [List.getElem?_replicate] at hi
      split at hi <;> cases hi
  have := en1_args ad as 0 i v hi'
  rw [Nat.zero_add] at this
  exact hl.2.2 _ this
theorem Cal.of {y : MethodName} {cc : ByteArray} {nL : Nat} {ret : Option FieldType} {rk d mc ms : Nat} {gr : Bool} {as : List AV} {SH : List Sh} {V : Rf} {M : Mem} {Po : Po_} (hy : plainFor y = true) (hn : (en1 as).length ≤ nL) (hg : gr = true → y.name = "<init>") (h : T y.cls cc nL ret rk d mc ms gr Po 0 (en as nL) [] SH V M 0 0) : Cal y cc nL ret rk d mc ms gr as SH V M Po := by
  intro l dC dI ad ca sz
  refine va_MetF (cc := cc) (maxL := nL) (ret := ret) hy rfl ?_
  intro p e s m args below meth c s₁ B hml hv
  obtain ⟨rfl, rfl, w, t, g⟩ := hv
  have hts := atoms_spec (ws := Cond.code y cc nL ret :: lg_tbl) B.pre
  rw [lg_entry_eq]
  refine h p l e _ s m _ below meth c dC dI ad ca _ s.heap [] _ ⟨B.exec, B.bytes, B.returns, hml, findClass_of_methodNamed B.named, fun z hz => hts z (List.mem_cons_of_mem _ hz), B.notSynchronized, Nat.le_refl _, Nat.le_refl _, Nat.le_refl _, Nat.le_refl _, fun hgr => (name_of_methodNamed B.named B.method).1.trans (hg hgr)⟩ ⟨w.1, w.2.1, w.2.2.self⟩ t va_S.rf (fun q hq => Or.inr hq) g (lh_en hn) (Nat.zero_le _) (Nat.zero_le _)
/-- the words of a call -/
def CW (own : String) (i : Nat) (y : MethodName) (cc : ByteArray) (nL : Nat) (ret : Option FieldType) (n : Nat) : Prop :=
  Cond.initialized y.cls ∈ lg_tbl ∧ Cond.code y cc nL ret ∈ lg_tbl ∧ goodWord (Cond.code y cc nL ret) = true ∧ (y.cls ≠ "java/lang/invoke/MethodHandle" ∧ y.cls ≠ "java/lang/invoke/VarHandle" ∧ (parseMethodDescriptor y.desc).map (fun d => d.parameters.length) = some n) ∧ nL ≤ 40
theorem CW.good {own : String} {i : Nat} {y : MethodName} {cc : ByteArray} {nL : Nat} {ret : Option FieldType} {n : Nat} (h : CW own i y cc nL ret n) : GoodIn lg_tbl (Cond.code y cc nL ret :: lg_tbl) := by
  intro z hz
  rcases List.mem_cons.mp hz with rfl | hz
  · exact ⟨h.2.1, good_of_word h.2.2.1⟩
  · exact ⟨hz, good_of_word (List.all_eq_true.mp lg_good z hz)⟩
theorem blind (dC : Nat → ClassId) (dI : Nat → Nat → Nat) (ad : Nat → Nat) (ca : Nat → ClassId) (sz : Nat) (gr : Bool) (as : List AV) (SH : List Sh) (V : Rf) (M : Mem) : FrameBlind (va_Pc (as.map (cv ad)) (fun U => U.heap.size = sz ∧ Wo dC dI ad ca (fun _ => True) SH V M U U.heap ∧ St ad (va_A (wd ad ca V M SH) sz) U U.heap ∧ Gr gr ad SH U.heap.size)) := by
  intro a U g mk q
  obtain ⟨q0, q1, qw, qt, qg⟩ := q
  have hv : U.vm.Alike (U.calling g mk a).vm := Vm.Alike.refl U.vm
  exact ⟨q0, q1, ⟨va_K.moved (u := U) (U := U.calling g mk a) hv qw.1, qw.2.1, qw.2.2⟩, qt.go (U := U.calling g mk a) hv (qt.2.same rfl) (fun _ _ _ => rfl) (fun _ h => h), qg⟩
/-- the answer and the memory are these -/
abbrev eqp (v : AV) (SH : List Sh) (V : Rf) (M : Mem) : Po_ := fun v' SH' V' M' => v' = v ∧ SH' = SH ∧ V' = V ∧ M' = M
theorem gr_size {dC : Nat → ClassId} {dI : Nat → Nat → Nat} {ad : Nat → Nat} {ca : Nat → ClassId} {A : Nat → Prop} {SH : List Sh} {V : Rf} {M : Mem} {s : State} {H : Heap} {gr : Bool} {n : Nat} (w : Wo dC dI ad ca A SH V M s H) (g : Gr gr ad SH n) (hle : H.size ≤ n) : gr = true → H.size = ad SH.length := by
  intro hg
  obtain ⟨e1, e2, e3, e4⟩ := g hg
  have hlast : ∃ sh, SH[SH.length - 1]? = some sh := by
    have hlt : SH.length - 1 < SH.length := by omega
    exact ⟨_, List.getElem?_eq_getElem hlt⟩
  obtain ⟨sh, hsh⟩ := hlast
  have hlt := (w.2.1 _ _ (wd_at (ad := ad) (ca := ca) (V := V) (M := M) hsh)).lt
  have e5 := e2 (SH.length - 1) (by omega)
  rw [show SH.length - 1 + 1 = SH.length by omega] at e5
  simp only at hlt
  omega

section TC
variable {own : String} {cc : ByteArray} {nL : Nat} {ret : Option FieldType} {rk d mc ms : Nat} {gr : Bool} {Po : Po_} {pc : Nat} {L : List (Option AV)} {st : List AV} {SH : List Sh} {V : Rf} {M : Mem} {kc ks : Nat}
theorem sum_cv (ad : Nat → Nat) (rest : List AV) : ((rest.map (cv ad)).map fun v => v.category).sum = (rest.map fun v => (match v with | .inr (.inl _) => 2 | _ => 1)).sum := by
  rw [List.map_map]
  congr 1
  apply List.map_congr_left
  intro a _
  exact cat_cv ad a
theorem T_cvi {i ny d' : Nat} {y : MethodName} {cy : ByteArray} {rety : Option FieldType} {as rest : List AV} {r : Int32} {V' : Rf} {M' : Mem} {ci n b N : Nat} {C0 : String} {Tt : u_T} (hd : decode cc pc = .ok (.invokevirtual i, 3)) (hw : CW own i y cy ny rety as.length) (hlk : Cond.methodLink own i y ∈ lg_tbl) (hin : Cond.instanceMethod y ∈ lg_tbl) (hsel : Cond.selects C0 y y ∈ lg_tbl) (hb : SH[b]? = some (ci, n)) (hcl : vwCl[ci]? = some (C0, Tt, N)) (hci : ci < 20) (hst : st = as.reverse ++ vR (some b) :: rest) (hsum : (rest.map fun v => (match v with | .inr (.inl _) => 2 | _ => 1)).sum ≤ 8) (hdep : d' + 1 ≤ d) (hc : Cal y cy ny rety 0 d' 0 0 false (vR (some b) :: as) SH V M (eqp (vI r) SH V' M')) (k : T own cc nL ret rk d mc ms gr Po (pc + 3) L (vI r :: rest) SH (V') (M') kc ks) : T own cc nL ret rk d mc ms gr Po pc L st SH V M kc ks := by
  subst hst
  intro p l e R s m args below meth c dC dI ad ca A H locs ls C w t hS hA g hl h1 h2
  have hF := wd_free w.2.2 hS hA
  have pre : ∀ (gr' : Bool) (as' : List AV), (gr' = true → Gr gr' ad SH H.size) → ∀ U : State, U.heap = H → s.WarmedH U.vm → (va_Pc (as'.map (cv ad)) (fun U => U.heap.size = H.size ∧ Wo dC dI ad ca (fun _ => True) SH V M U U.heap ∧ St ad (va_A (wd ad ca V M SH) H.size) U U.heap ∧ Gr gr' ad SH U.heap.size)) (as'.map (cv ad)).toArray U := fun gr' as' hg U hU hW => ⟨rfl, by rw [hU], ⟨va_K.moved hW.alike w.1, by rw [hU]; exact w.2.1, w.2.2.weaken (fun _ _ _ _ => trivial)⟩, by rw [hU]; exact t.go hW.alike (t.2.warm hW) hS.2.1 hF, by rw [hU]; exact fun h => hg h h⟩
  have hrun := va_runV (l := l) (e := e) (below := below) (meth := meth) (locs := locs) (cells := kc) (slots := ks) (g := F0 m pc ls ((as.map (cv ad)).reverse ++ .ref (ad b) :: rest.map (cv ad))) (As := as.map (cv ad)) (rest := rest.map (cv ad)) ⟨C.1, C.2.1, C.2.2.2.1, C.2.2.2.2.1, C.2.2.2.2.2.1⟩ (hc l dC dI ad ca H.size) ⟨(callB_of (rm := rmOf d' 0 0) as.length C.2.2.2.2.2.1 hw.good rfl rfl rfl (C.2.2.2.2.2.1 _ hw.1) (C.2.2.2.2.2.1 _ hlk) hw.2.2.2.1 ⟨Nat.le_trans hdep C.2.2.2.2.2.2.2.1, Nat.le_trans (show 8 + (ny + 11) + 64 * d' ≤ 64 * d by have := hw.2.2.2.2; omega) C.2.2.2.2.2.2.2.2.1⟩), C.2.2.2.2.2.1 _ hin, C.2.2.2.2.2.1 _ hsel⟩ ⟨blind dC dI ad ca H.size false (vR (some b) :: as) SH V M, va_recv w.1 w.2.1 hcl ((wd_at hb).trans (congrArg (fun z => some (ad b, z)) (ce_obj hci))), fun U hU hW => pre false (vR (some b) :: as) (fun h => by cases h) U hU hW⟩ rfl (List.length_map _) hl.1 rfl (lv_room (by rw [sum_cv]; exact hsum)) hd ⟨Nat.le_trans h1 C.2.2.2.2.2.2.2.2.2.1, Nat.le_trans h2 C.2.2.2.2.2.2.2.2.2.2.1⟩
  have hst : F0 m pc ls (((as.reverse ++ vR (some b) :: rest : List AV)).map (cv ad)) = F0 m pc ls ((as.map (cv ad)).reverse ++ .ref (ad b) :: rest.map (cv ad)) := by
    simp only [List.map_append, List.map_reverse, List.map_cons]
    rfl
  rw [hst]
  refine va_calli (a := ((Value.ref (ad b) :: as.map (cv ad))).toArray) hrun hS (fun q _ h => hF q h) hF ?_
  · intro r' u t' H1 locs1 ht hvm hw hB hz hk hS1
    obtain ⟨SH1, V1, M1⟩ := u
    obtain ⟨e1, e2, e3, e4⟩ := hw
    have e1 := Sum.inl.inj e1
    simp only at e2 e3 e4
    subst e1 e2 e3 e4
    obtain ⟨b1, b2, b3⟩ := hB
    simp only at b1 b2 b3
    rw [ht] at b2
    exact k p l e R s m args below meth c dC dI ad ca A H1 locs1 ls C ⟨va_K.moved hvm.symm b1, b2, b3.weaken (fun _ q _ h => hF q.1 h)⟩ t hS1 hA g hl h1 h2
theorem T_cvl {i ny d' : Nat} {y : MethodName} {cy : ByteArray} {rety : Option FieldType} {as rest : List AV} {r : Int64} {V' : Rf} {M' : Mem} {ci n b N : Nat} {C0 : String} {Tt : u_T} (hd : decode cc pc = .ok (.invokevirtual i, 3)) (hw : CW own i y cy ny rety as.length) (hlk : Cond.methodLink own i y ∈ lg_tbl) (hin : Cond.instanceMethod y ∈ lg_tbl) (hsel : Cond.selects C0 y y ∈ lg_tbl) (hb : SH[b]? = some (ci, n)) (hcl : vwCl[ci]? = some (C0, Tt, N)) (hci : ci < 20) (hst : st = as.reverse ++ vR (some b) :: rest) (hsum : (rest.map fun v => (match v with | .inr (.inl _) => 2 | _ => 1)).sum ≤ 8) (hdep : d' + 1 ≤ d) (hc : Cal y cy ny rety 1 d' 0 0 false (vR (some b) :: as) SH V M (eqp (vJ r) SH V' M')) (k : T own cc nL ret rk d mc ms gr Po (pc + 3) L (vJ r :: rest) SH (V') (M') kc ks) : T own cc nL ret rk d mc ms gr Po pc L st SH V M kc ks := by
  subst hst
  intro p l e R s m args below meth c dC dI ad ca A H locs ls C w t hS hA g hl h1 h2
  have hF := wd_free w.2.2 hS hA
  have pre : ∀ (gr' : Bool) (as' : List AV), (gr' = true → Gr gr' ad SH H.size) → ∀ U : State, U.heap = H → s.WarmedH U.vm → (va_Pc (as'.map (cv ad)) (fun U => U.heap.size = H.size ∧ Wo dC dI ad ca (fun _ => True) SH V M U U.heap ∧ St ad (va_A (wd ad ca V M SH) H.size) U U.heap ∧ Gr gr' ad SH U.heap.size)) (as'.map (cv ad)).toArray U := fun gr' as' hg U hU hW => ⟨rfl, by rw [hU], ⟨va_K.moved hW.alike w.1, by rw [hU]; exact w.2.1, w.2.2.weaken (fun _ _ _ _ => trivial)⟩, by rw [hU]; exact t.go hW.alike (t.2.warm hW) hS.2.1 hF, by rw [hU]; exact fun h => hg h h⟩
  have hrun := va_runV (l := l) (e := e) (below := below) (meth := meth) (locs := locs) (cells := kc) (slots := ks) (g := F0 m pc ls ((as.map (cv ad)).reverse ++ .ref (ad b) :: rest.map (cv ad))) (As := as.map (cv ad)) (rest := rest.map (cv ad)) ⟨C.1, C.2.1, C.2.2.2.1, C.2.2.2.2.1, C.2.2.2.2.2.1⟩ (hc l dC dI ad ca H.size) ⟨(callB_of (rm := rmOf d' 0 0) as.length C.2.2.2.2.2.1 hw.good rfl rfl rfl (C.2.2.2.2.2.1 _ hw.1) (C.2.2.2.2.2.1 _ hlk) hw.2.2.2.1 ⟨Nat.le_trans hdep C.2.2.2.2.2.2.2.1, Nat.le_trans (show 8 + (ny + 11) + 64 * d' ≤ 64 * d by have := hw.2.2.2.2; omega) C.2.2.2.2.2.2.2.2.1⟩), C.2.2.2.2.2.1 _ hin, C.2.2.2.2.2.1 _ hsel⟩ ⟨blind dC dI ad ca H.size false (vR (some b) :: as) SH V M, va_recv w.1 w.2.1 hcl ((wd_at hb).trans (congrArg (fun z => some (ad b, z)) (ce_obj hci))), fun U hU hW => pre false (vR (some b) :: as) (fun h => by cases h) U hU hW⟩ rfl (List.length_map _) hl.1 rfl (lv_room (by rw [sum_cv]; exact hsum)) hd ⟨Nat.le_trans h1 C.2.2.2.2.2.2.2.2.2.1, Nat.le_trans h2 C.2.2.2.2.2.2.2.2.2.2.1⟩
  have hst : F0 m pc ls (((as.reverse ++ vR (some b) :: rest : List AV)).map (cv ad)) = F0 m pc ls ((as.map (cv ad)).reverse ++ .ref (ad b) :: rest.map (cv ad)) := by
    simp only [List.map_append, List.map_reverse, List.map_cons]
    rfl
  rw [hst]
  refine va_calll (a := ((Value.ref (ad b) :: as.map (cv ad))).toArray) hrun hS (fun q _ h => hF q h) hF ?_
  · intro r' u t' H1 locs1 ht hvm hw hB hz hk hS1
    obtain ⟨SH1, V1, M1⟩ := u
    obtain ⟨e1, e2, e3, e4⟩ := hw
    have e1 := Sum.inl.inj (Sum.inr.inj e1)
    simp only at e2 e3 e4
    subst e1 e2 e3 e4
    obtain ⟨b1, b2, b3⟩ := hB
    simp only at b1 b2 b3
    rw [ht] at b2
    exact k p l e R s m args below meth c dC dI ad ca A H1 locs1 ls C ⟨va_K.moved hvm.symm b1, b2, b3.weaken (fun _ q _ h => hF q.1 h)⟩ t hS1 hA g hl h1 h2
theorem T_cvv {i ny d' : Nat} {y : MethodName} {cy : ByteArray} {rety : Option FieldType} {as rest : List AV}  {V' : Rf} {M' : Mem} {ci n b N : Nat} {C0 : String} {Tt : u_T} (hd : decode cc pc = .ok (.invokevirtual i, 3)) (hw : CW own i y cy ny rety as.length) (hlk : Cond.methodLink own i y ∈ lg_tbl) (hin : Cond.instanceMethod y ∈ lg_tbl) (hsel : Cond.selects C0 y y ∈ lg_tbl) (hb : SH[b]? = some (ci, n)) (hcl : vwCl[ci]? = some (C0, Tt, N)) (hci : ci < 20) (hst : st = as.reverse ++ vR (some b) :: rest) (hsum : (rest.map fun v => (match v with | .inr (.inl _) => 2 | _ => 1)).sum ≤ 8) (hdep : d' + 1 ≤ d) (hc : Cal y cy ny rety 2 d' 0 0 false (vR (some b) :: as) SH V M (eqp (vI 0) SH V' M')) (k : T own cc nL ret rk d mc ms gr Po (pc + 3) L rest SH (V') (M') kc ks) : T own cc nL ret rk d mc ms gr Po pc L st SH V M kc ks := by
  subst hst
  intro p l e R s m args below meth c dC dI ad ca A H locs ls C w t hS hA g hl h1 h2
  have hF := wd_free w.2.2 hS hA
  have pre : ∀ (gr' : Bool) (as' : List AV), (gr' = true → Gr gr' ad SH H.size) → ∀ U : State, U.heap = H → s.WarmedH U.vm → (va_Pc (as'.map (cv ad)) (fun U => U.heap.size = H.size ∧ Wo dC dI ad ca (fun _ => True) SH V M U U.heap ∧ St ad (va_A (wd ad ca V M SH) H.size) U U.heap ∧ Gr gr' ad SH U.heap.size)) (as'.map (cv ad)).toArray U := fun gr' as' hg U hU hW => ⟨rfl, by rw [hU], ⟨va_K.moved hW.alike w.1, by rw [hU]; exact w.2.1, w.2.2.weaken (fun _ _ _ _ => trivial)⟩, by rw [hU]; exact t.go hW.alike (t.2.warm hW) hS.2.1 hF, by rw [hU]; exact fun h => hg h h⟩
  have hrun := va_runV (l := l) (e := e) (below := below) (meth := meth) (locs := locs) (cells := kc) (slots := ks) (g := F0 m pc ls ((as.map (cv ad)).reverse ++ .ref (ad b) :: rest.map (cv ad))) (As := as.map (cv ad)) (rest := rest.map (cv ad)) ⟨C.1, C.2.1, C.2.2.2.1, C.2.2.2.2.1, C.2.2.2.2.2.1⟩ (hc l dC dI ad ca H.size) ⟨(callB_of (rm := rmOf d' 0 0) as.length C.2.2.2.2.2.1 hw.good rfl rfl rfl (C.2.2.2.2.2.1 _ hw.1) (C.2.2.2.2.2.1 _ hlk) hw.2.2.2.1 ⟨Nat.le_trans hdep C.2.2.2.2.2.2.2.1, Nat.le_trans (show 8 + (ny + 11) + 64 * d' ≤ 64 * d by have := hw.2.2.2.2; omega) C.2.2.2.2.2.2.2.2.1⟩), C.2.2.2.2.2.1 _ hin, C.2.2.2.2.2.1 _ hsel⟩ ⟨blind dC dI ad ca H.size false (vR (some b) :: as) SH V M, va_recv w.1 w.2.1 hcl ((wd_at hb).trans (congrArg (fun z => some (ad b, z)) (ce_obj hci))), fun U hU hW => pre false (vR (some b) :: as) (fun h => by cases h) U hU hW⟩ rfl (List.length_map _) hl.1 rfl (lv_room (by rw [sum_cv]; exact hsum)) hd ⟨Nat.le_trans h1 C.2.2.2.2.2.2.2.2.2.1, Nat.le_trans h2 C.2.2.2.2.2.2.2.2.2.2.1⟩
  have hst : F0 m pc ls (((as.reverse ++ vR (some b) :: rest : List AV)).map (cv ad)) = F0 m pc ls ((as.map (cv ad)).reverse ++ .ref (ad b) :: rest.map (cv ad)) := by
    simp only [List.map_append, List.map_reverse, List.map_cons]
    rfl
  rw [hst]
  refine va_callv (a := ((Value.ref (ad b) :: as.map (cv ad))).toArray) hrun hS (fun q _ h => hF q h) hF ?_
  · intro u t' H1 locs1 ht hvm hw hB hz hk hS1
    obtain ⟨SH1, V1, M1⟩ := u
    obtain ⟨e1, e2, e3, e4⟩ := hw
    simp only at e2 e3 e4
    subst e2 e3 e4
    obtain ⟨b1, b2, b3⟩ := hB
    simp only at b1 b2 b3
    rw [ht] at b2
    exact k p l e R s m args below meth c dC dI ad ca A H1 locs1 ls C ⟨va_K.moved hvm.symm b1, b2, b3.weaken (fun _ q _ h => hF q.1 h)⟩ t hS1 hA g hl h1 h2
theorem T_cvq {i ny d' : Nat} {y : MethodName} {cy : ByteArray} {rety : Option FieldType} {as rest : List AV} {r : Option Nat} {V' : Rf} {M' : Mem} {ci n b N : Nat} {C0 : String} {Tt : u_T} (hd : decode cc pc = .ok (.invokevirtual i, 3)) (hw : CW own i y cy ny rety as.length) (hlk : Cond.methodLink own i y ∈ lg_tbl) (hin : Cond.instanceMethod y ∈ lg_tbl) (hsel : Cond.selects C0 y y ∈ lg_tbl) (hb : SH[b]? = some (ci, n)) (hcl : vwCl[ci]? = some (C0, Tt, N)) (hci : ci < 20) (hst : st = as.reverse ++ vR (some b) :: rest) (hsum : (rest.map fun v => (match v with | .inr (.inl _) => 2 | _ => 1)).sum ≤ 8) (hdep : d' + 1 ≤ d) (hc : Cal y cy ny rety 3 d' 0 0 false (vR (some b) :: as) SH V M (eqp (vR r) SH V' M')) (k : T own cc nL ret rk d mc ms gr Po (pc + 3) L (vR r :: rest) SH (V') (M') kc ks) : T own cc nL ret rk d mc ms gr Po pc L st SH V M kc ks := by
  subst hst
  intro p l e R s m args below meth c dC dI ad ca A H locs ls C w t hS hA g hl h1 h2
  have hF := wd_free w.2.2 hS hA
  have pre : ∀ (gr' : Bool) (as' : List AV), (gr' = true → Gr gr' ad SH H.size) → ∀ U : State, U.heap = H → s.WarmedH U.vm → (va_Pc (as'.map (cv ad)) (fun U => U.heap.size = H.size ∧ Wo dC dI ad ca (fun _ => True) SH V M U U.heap ∧ St ad (va_A (wd ad ca V M SH) H.size) U U.heap ∧ Gr gr' ad SH U.heap.size)) (as'.map (cv ad)).toArray U := fun gr' as' hg U hU hW => ⟨rfl, by rw [hU], ⟨va_K.moved hW.alike w.1, by rw [hU]; exact w.2.1, w.2.2.weaken (fun _ _ _ _ => trivial)⟩, by rw [hU]; exact t.go hW.alike (t.2.warm hW) hS.2.1 hF, by rw [hU]; exact fun h => hg h h⟩
  have hrun := va_runV (l := l) (e := e) (below := below) (meth := meth) (locs := locs) (cells := kc) (slots := ks) (g := F0 m pc ls ((as.map (cv ad)).reverse ++ .ref (ad b) :: rest.map (cv ad))) (As := as.map (cv ad)) (rest := rest.map (cv ad)) ⟨C.1, C.2.1, C.2.2.2.1, C.2.2.2.2.1, C.2.2.2.2.2.1⟩ (hc l dC dI ad ca H.size) ⟨(callB_of (rm := rmOf d' 0 0) as.length C.2.2.2.2.2.1 hw.good rfl rfl rfl (C.2.2.2.2.2.1 _ hw.1) (C.2.2.2.2.2.1 _ hlk) hw.2.2.2.1 ⟨Nat.le_trans hdep C.2.2.2.2.2.2.2.1, Nat.le_trans (show 8 + (ny + 11) + 64 * d' ≤ 64 * d by have := hw.2.2.2.2; omega) C.2.2.2.2.2.2.2.2.1⟩), C.2.2.2.2.2.1 _ hin, C.2.2.2.2.2.1 _ hsel⟩ ⟨blind dC dI ad ca H.size false (vR (some b) :: as) SH V M, va_recv w.1 w.2.1 hcl ((wd_at hb).trans (congrArg (fun z => some (ad b, z)) (ce_obj hci))), fun U hU hW => pre false (vR (some b) :: as) (fun h => by cases h) U hU hW⟩ rfl (List.length_map _) hl.1 rfl (lv_room (by rw [sum_cv]; exact hsum)) hd ⟨Nat.le_trans h1 C.2.2.2.2.2.2.2.2.2.1, Nat.le_trans h2 C.2.2.2.2.2.2.2.2.2.2.1⟩
  have hst : F0 m pc ls (((as.reverse ++ vR (some b) :: rest : List AV)).map (cv ad)) = F0 m pc ls ((as.map (cv ad)).reverse ++ .ref (ad b) :: rest.map (cv ad)) := by
    simp only [List.map_append, List.map_reverse, List.map_cons]
    rfl
  rw [hst]
  refine va_callq (a := ((Value.ref (ad b) :: as.map (cv ad))).toArray) hrun hS (fun q _ h => hF q h) hF ?_
  · intro r' u t' H1 locs1 ht hvm hw hB hz hk hS1
    obtain ⟨SH1, V1, M1⟩ := u
    obtain ⟨o, e0, e1, e2, e3, e4⟩ := hw
    have e1 := Sum.inr.inj (Sum.inr.inj e1)
    simp only at e2 e3 e4
    subst e0 e1 e2 e3 e4
    obtain ⟨b1, b2, b3⟩ := hB
    simp only at b1 b2 b3
    rw [ht] at b2
    exact k p l e R s m args below meth c dC dI ad ca A H1 locs1 ls C ⟨va_K.moved hvm.symm b1, b2, b3.weaken (fun _ q _ h => hF q.1 h)⟩ t hS1 hA g hl h1 h2
theorem T_csi {i ny d' : Nat} {y : MethodName} {cy : ByteArray} {rety : Option FieldType} {as rest : List AV} {r : Int32} {V' : Rf} {M' : Mem} (hd : decode cc pc = .ok (.invokestatic i, 3)) (hw : CW own i y cy ny rety as.length) (hlk : Cond.methodLink own i y ∈ lg_tbl) (hin : Cond.static y ∈ lg_tbl) (hst : st = as.reverse ++ rest) (hsum : (rest.map fun v => (match v with | .inr (.inl _) => 2 | _ => 1)).sum ≤ 8) (hdep : d' + 1 ≤ d) (hc : Cal y cy ny rety 0 d' 0 0 false (as) SH V M (eqp (vI r) SH V' M')) (k : T own cc nL ret rk d mc ms gr Po (pc + 3) L (vI r :: rest) SH (V') (M') kc ks) : T own cc nL ret rk d mc ms gr Po pc L st SH V M kc ks := by
  subst hst
  intro p l e R s m args below meth c dC dI ad ca A H locs ls C w t hS hA g hl h1 h2
  have hF := wd_free w.2.2 hS hA
  have pre : ∀ (gr' : Bool) (as' : List AV), (gr' = true → Gr gr' ad SH H.size) → ∀ U : State, U.heap = H → s.WarmedH U.vm → (va_Pc (as'.map (cv ad)) (fun U => U.heap.size = H.size ∧ Wo dC dI ad ca (fun _ => True) SH V M U U.heap ∧ St ad (va_A (wd ad ca V M SH) H.size) U U.heap ∧ Gr gr' ad SH U.heap.size)) (as'.map (cv ad)).toArray U := fun gr' as' hg U hU hW => ⟨rfl, by rw [hU], ⟨va_K.moved hW.alike w.1, by rw [hU]; exact w.2.1, w.2.2.weaken (fun _ _ _ _ => trivial)⟩, by rw [hU]; exact t.go hW.alike (t.2.warm hW) hS.2.1 hF, by rw [hU]; exact fun h => hg h h⟩
  have hrun := va_runS (l := l) (e := e) (below := below) (meth := meth) (locs := locs) (cells := kc) (slots := ks) (g := F0 m pc ls ((as.map (cv ad)).reverse ++ rest.map (cv ad))) (As := as.map (cv ad)) (rest := rest.map (cv ad)) ⟨C.1, C.2.1, C.2.2.2.1, C.2.2.2.2.1, C.2.2.2.2.2.1⟩ (hc l dC dI ad ca H.size) ⟨(callB_of (rm := rmOf d' 0 0) as.length C.2.2.2.2.2.1 hw.good rfl rfl rfl (C.2.2.2.2.2.1 _ hw.1) (C.2.2.2.2.2.1 _ hlk) hw.2.2.2.1 ⟨Nat.le_trans hdep C.2.2.2.2.2.2.2.1, Nat.le_trans (show 8 + (ny + 11) + 64 * d' ≤ 64 * d by have := hw.2.2.2.2; omega) C.2.2.2.2.2.2.2.2.1⟩), C.2.2.2.2.2.1 _ hin⟩ ⟨blind dC dI ad ca H.size false as SH V M, fun U hU hW => pre false as (fun h => by cases h) U hU hW⟩ rfl (List.length_map _) hl.1 rfl (lv_room (by rw [sum_cv]; exact hsum)) hd ⟨Nat.le_trans h1 C.2.2.2.2.2.2.2.2.2.1, Nat.le_trans h2 C.2.2.2.2.2.2.2.2.2.2.1⟩
  have hst : F0 m pc ls (((as.reverse ++ rest : List AV)).map (cv ad)) = F0 m pc ls ((as.map (cv ad)).reverse ++ rest.map (cv ad)) := by
    simp only [List.map_append, List.map_reverse]
    
  rw [hst]
  refine va_calli (a := ((as.map (cv ad))).toArray) hrun hS (fun q _ h => hF q h) hF ?_
  · intro r' u t' H1 locs1 ht hvm hw hB hz hk hS1
    obtain ⟨SH1, V1, M1⟩ := u
    obtain ⟨e1, e2, e3, e4⟩ := hw
    have e1 := Sum.inl.inj e1
    simp only at e2 e3 e4
    subst e1 e2 e3 e4
    obtain ⟨b1, b2, b3⟩ := hB
    simp only at b1 b2 b3
    rw [ht] at b2
    exact k p l e R s m args below meth c dC dI ad ca A H1 locs1 ls C ⟨va_K.moved hvm.symm b1, b2, b3.weaken (fun _ q _ h => hF q.1 h)⟩ t hS1 hA g hl h1 h2
theorem T_csl {i ny d' : Nat} {y : MethodName} {cy : ByteArray} {rety : Option FieldType} {as rest : List AV} {r : Int64} {V' : Rf} {M' : Mem} (hd : decode cc pc = .ok (.invokestatic i, 3)) (hw : CW own i y cy ny rety as.length) (hlk : Cond.methodLink own i y ∈ lg_tbl) (hin : Cond.static y ∈ lg_tbl) (hst : st = as.reverse ++ rest) (hsum : (rest.map fun v => (match v with | .inr (.inl _) => 2 | _ => 1)).sum ≤ 8) (hdep : d' + 1 ≤ d) (hc : Cal y cy ny rety 1 d' 0 0 false (as) SH V M (eqp (vJ r) SH V' M')) (k : T own cc nL ret rk d mc ms gr Po (pc + 3) L (vJ r :: rest) SH (V') (M') kc ks) : T own cc nL ret rk d mc ms gr Po pc L st SH V M kc ks := by
  subst hst
  intro p l e R s m args below meth c dC dI ad ca A H locs ls C w t hS hA g hl h1 h2
  have hF := wd_free w.2.2 hS hA
  have pre : ∀ (gr' : Bool) (as' : List AV), (gr' = true → Gr gr' ad SH H.size) → ∀ U : State, U.heap = H → s.WarmedH U.vm → (va_Pc (as'.map (cv ad)) (fun U => U.heap.size = H.size ∧ Wo dC dI ad ca (fun _ => True) SH V M U U.heap ∧ St ad (va_A (wd ad ca V M SH) H.size) U U.heap ∧ Gr gr' ad SH U.heap.size)) (as'.map (cv ad)).toArray U := fun gr' as' hg U hU hW => ⟨rfl, by rw [hU], ⟨va_K.moved hW.alike w.1, by rw [hU]; exact w.2.1, w.2.2.weaken (fun _ _ _ _ => trivial)⟩, by rw [hU]; exact t.go hW.alike (t.2.warm hW) hS.2.1 hF, by rw [hU]; exact fun h => hg h h⟩
  have hrun := va_runS (l := l) (e := e) (below := below) (meth := meth) (locs := locs) (cells := kc) (slots := ks) (g := F0 m pc ls ((as.map (cv ad)).reverse ++ rest.map (cv ad))) (As := as.map (cv ad)) (rest := rest.map (cv ad)) ⟨C.1, C.2.1, C.2.2.2.1, C.2.2.2.2.1, C.2.2.2.2.2.1⟩ (hc l dC dI ad ca H.size) ⟨(callB_of (rm := rmOf d' 0 0) as.length C.2.2.2.2.2.1 hw.good rfl rfl rfl (C.2.2.2.2.2.1 _ hw.1) (C.2.2.2.2.2.1 _ hlk) hw.2.2.2.1 ⟨Nat.le_trans hdep C.2.2.2.2.2.2.2.1, Nat.le_trans (show 8 + (ny + 11) + 64 * d' ≤ 64 * d by have := hw.2.2.2.2; omega) C.2.2.2.2.2.2.2.2.1⟩), C.2.2.2.2.2.1 _ hin⟩ ⟨blind dC dI ad ca H.size false as SH V M, fun U hU hW => pre false as (fun h => by cases h) U hU hW⟩ rfl (List.length_map _) hl.1 rfl (lv_room (by rw [sum_cv]; exact hsum)) hd ⟨Nat.le_trans h1 C.2.2.2.2.2.2.2.2.2.1, Nat.le_trans h2 C.2.2.2.2.2.2.2.2.2.2.1⟩
  have hst : F0 m pc ls (((as.reverse ++ rest : List AV)).map (cv ad)) = F0 m pc ls ((as.map (cv ad)).reverse ++ rest.map (cv ad)) := by
    simp only [List.map_append, List.map_reverse]
    
  rw [hst]
  refine va_calll (a := ((as.map (cv ad))).toArray) hrun hS (fun q _ h => hF q h) hF ?_
  · intro r' u t' H1 locs1 ht hvm hw hB hz hk hS1
    obtain ⟨SH1, V1, M1⟩ := u
    obtain ⟨e1, e2, e3, e4⟩ := hw
    have e1 := Sum.inl.inj (Sum.inr.inj e1)
    simp only at e2 e3 e4
    subst e1 e2 e3 e4
    obtain ⟨b1, b2, b3⟩ := hB
    simp only at b1 b2 b3
    rw [ht] at b2
    exact k p l e R s m args below meth c dC dI ad ca A H1 locs1 ls C ⟨va_K.moved hvm.symm b1, b2, b3.weaken (fun _ q _ h => hF q.1 h)⟩ t hS1 hA g hl h1 h2
theorem T_csv {i ny d' : Nat} {y : MethodName} {cy : ByteArray} {rety : Option FieldType} {as rest : List AV}  {V' : Rf} {M' : Mem} (hd : decode cc pc = .ok (.invokestatic i, 3)) (hw : CW own i y cy ny rety as.length) (hlk : Cond.methodLink own i y ∈ lg_tbl) (hin : Cond.static y ∈ lg_tbl) (hst : st = as.reverse ++ rest) (hsum : (rest.map fun v => (match v with | .inr (.inl _) => 2 | _ => 1)).sum ≤ 8) (hdep : d' + 1 ≤ d) (hc : Cal y cy ny rety 2 d' 0 0 false (as) SH V M (eqp (vI 0) SH V' M')) (k : T own cc nL ret rk d mc ms gr Po (pc + 3) L rest SH (V') (M') kc ks) : T own cc nL ret rk d mc ms gr Po pc L st SH V M kc ks := by
  subst hst
  intro p l e R s m args below meth c dC dI ad ca A H locs ls C w t hS hA g hl h1 h2
  have hF := wd_free w.2.2 hS hA
  have pre : ∀ (gr' : Bool) (as' : List AV), (gr' = true → Gr gr' ad SH H.size) → ∀ U : State, U.heap = H → s.WarmedH U.vm → (va_Pc (as'.map (cv ad)) (fun U => U.heap.size = H.size ∧ Wo dC dI ad ca (fun _ => True) SH V M U U.heap ∧ St ad (va_A (wd ad ca V M SH) H.size) U U.heap ∧ Gr gr' ad SH U.heap.size)) (as'.map (cv ad)).toArray U := fun gr' as' hg U hU hW => ⟨rfl, by rw [hU], ⟨va_K.moved hW.alike w.1, by rw [hU]; exact w.2.1, w.2.2.weaken (fun _ _ _ _ => trivial)⟩, by rw [hU]; exact t.go hW.alike (t.2.warm hW) hS.2.1 hF, by rw [hU]; exact fun h => hg h h⟩
  have hrun := va_runS (l := l) (e := e) (below := below) (meth := meth) (locs := locs) (cells := kc) (slots := ks) (g := F0 m pc ls ((as.map (cv ad)).reverse ++ rest.map (cv ad))) (As := as.map (cv ad)) (rest := rest.map (cv ad)) ⟨C.1, C.2.1, C.2.2.2.1, C.2.2.2.2.1, C.2.2.2.2.2.1⟩ (hc l dC dI ad ca H.size) ⟨(callB_of (rm := rmOf d' 0 0) as.length C.2.2.2.2.2.1 hw.good rfl rfl rfl (C.2.2.2.2.2.1 _ hw.1) (C.2.2.2.2.2.1 _ hlk) hw.2.2.2.1 ⟨Nat.le_trans hdep C.2.2.2.2.2.2.2.1, Nat.le_trans (show 8 + (ny + 11) + 64 * d' ≤ 64 * d by have := hw.2.2.2.2; omega) C.2.2.2.2.2.2.2.2.1⟩), C.2.2.2.2.2.1 _ hin⟩ ⟨blind dC dI ad ca H.size false as SH V M, fun U hU hW => pre false as (fun h => by cases h) U hU hW⟩ rfl (List.length_map _) hl.1 rfl (lv_room (by rw [sum_cv]; exact hsum)) hd ⟨Nat.le_trans h1 C.2.2.2.2.2.2.2.2.2.1, Nat.le_trans h2 C.2.2.2.2.2.2.2.2.2.2.1⟩
  have hst : F0 m pc ls (((as.reverse ++ rest : List AV)).map (cv ad)) = F0 m pc ls ((as.map (cv ad)).reverse ++ rest.map (cv ad)) := by
    simp only [List.map_append, List.map_reverse]
    
  rw [hst]
  refine va_callv (a := ((as.map (cv ad))).toArray) hrun hS (fun q _ h => hF q h) hF ?_
  · intro u t' H1 locs1 ht hvm hw hB hz hk hS1
    obtain ⟨SH1, V1, M1⟩ := u
    obtain ⟨e1, e2, e3, e4⟩ := hw
    simp only at e2 e3 e4
    subst e2 e3 e4
    obtain ⟨b1, b2, b3⟩ := hB
    simp only at b1 b2 b3
    rw [ht] at b2
    exact k p l e R s m args below meth c dC dI ad ca A H1 locs1 ls C ⟨va_K.moved hvm.symm b1, b2, b3.weaken (fun _ q _ h => hF q.1 h)⟩ t hS1 hA g hl h1 h2
theorem T_csq {i ny d' : Nat} {y : MethodName} {cy : ByteArray} {rety : Option FieldType} {as rest : List AV} {r : Option Nat} {V' : Rf} {M' : Mem} (hd : decode cc pc = .ok (.invokestatic i, 3)) (hw : CW own i y cy ny rety as.length) (hlk : Cond.methodLink own i y ∈ lg_tbl) (hin : Cond.static y ∈ lg_tbl) (hst : st = as.reverse ++ rest) (hsum : (rest.map fun v => (match v with | .inr (.inl _) => 2 | _ => 1)).sum ≤ 8) (hdep : d' + 1 ≤ d) (hc : Cal y cy ny rety 3 d' 0 0 false (as) SH V M (eqp (vR r) SH V' M')) (k : T own cc nL ret rk d mc ms gr Po (pc + 3) L (vR r :: rest) SH (V') (M') kc ks) : T own cc nL ret rk d mc ms gr Po pc L st SH V M kc ks := by
  subst hst
  intro p l e R s m args below meth c dC dI ad ca A H locs ls C w t hS hA g hl h1 h2
  have hF := wd_free w.2.2 hS hA
  have pre : ∀ (gr' : Bool) (as' : List AV), (gr' = true → Gr gr' ad SH H.size) → ∀ U : State, U.heap = H → s.WarmedH U.vm → (va_Pc (as'.map (cv ad)) (fun U => U.heap.size = H.size ∧ Wo dC dI ad ca (fun _ => True) SH V M U U.heap ∧ St ad (va_A (wd ad ca V M SH) H.size) U U.heap ∧ Gr gr' ad SH U.heap.size)) (as'.map (cv ad)).toArray U := fun gr' as' hg U hU hW => ⟨rfl, by rw [hU], ⟨va_K.moved hW.alike w.1, by rw [hU]; exact w.2.1, w.2.2.weaken (fun _ _ _ _ => trivial)⟩, by rw [hU]; exact t.go hW.alike (t.2.warm hW) hS.2.1 hF, by rw [hU]; exact fun h => hg h h⟩
  have hrun := va_runS (l := l) (e := e) (below := below) (meth := meth) (locs := locs) (cells := kc) (slots := ks) (g := F0 m pc ls ((as.map (cv ad)).reverse ++ rest.map (cv ad))) (As := as.map (cv ad)) (rest := rest.map (cv ad)) ⟨C.1, C.2.1, C.2.2.2.1, C.2.2.2.2.1, C.2.2.2.2.2.1⟩ (hc l dC dI ad ca H.size) ⟨(callB_of (rm := rmOf d' 0 0) as.length C.2.2.2.2.2.1 hw.good rfl rfl rfl (C.2.2.2.2.2.1 _ hw.1) (C.2.2.2.2.2.1 _ hlk) hw.2.2.2.1 ⟨Nat.le_trans hdep C.2.2.2.2.2.2.2.1, Nat.le_trans (show 8 + (ny + 11) + 64 * d' ≤ 64 * d by have := hw.2.2.2.2; omega) C.2.2.2.2.2.2.2.2.1⟩), C.2.2.2.2.2.1 _ hin⟩ ⟨blind dC dI ad ca H.size false as SH V M, fun U hU hW => pre false as (fun h => by cases h) U hU hW⟩ rfl (List.length_map _) hl.1 rfl (lv_room (by rw [sum_cv]; exact hsum)) hd ⟨Nat.le_trans h1 C.2.2.2.2.2.2.2.2.2.1, Nat.le_trans h2 C.2.2.2.2.2.2.2.2.2.2.1⟩
  have hst : F0 m pc ls (((as.reverse ++ rest : List AV)).map (cv ad)) = F0 m pc ls ((as.map (cv ad)).reverse ++ rest.map (cv ad)) := by
    simp only [List.map_append, List.map_reverse]
    
  rw [hst]
  refine va_callq (a := ((as.map (cv ad))).toArray) hrun hS (fun q _ h => hF q h) hF ?_
  · intro r' u t' H1 locs1 ht hvm hw hB hz hk hS1
    obtain ⟨SH1, V1, M1⟩ := u
    obtain ⟨o, e0, e1, e2, e3, e4⟩ := hw
    have e1 := Sum.inr.inj (Sum.inr.inj e1)
    simp only at e2 e3 e4
    subst e0 e1 e2 e3 e4
    obtain ⟨b1, b2, b3⟩ := hB
    simp only at b1 b2 b3
    rw [ht] at b2
    exact k p l e R s m args below meth c dC dI ad ca A H1 locs1 ls C ⟨va_K.moved hvm.symm b1, b2, b3.weaken (fun _ q _ h => hF q.1 h)⟩ t hS1 hA g hl h1 h2
end TC
