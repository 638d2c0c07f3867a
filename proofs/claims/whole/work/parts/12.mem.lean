def clOK (ci : Nat) (C : String) (Tt : u_T) (N : Nat) (ty0 : Nat → FieldType) : Prop := ci < 20 ∧ vwCl[ci]? = some (C, Tt, N) ∧ (∀ w ∈ u_ws C Tt N, w ∈ lg_tbl) ∧ (∀ k, k < N → parseFieldDescriptor (Tt k).2.2.1 = some (ty0 k)) ∧ (∀ a, a < N → ∀ b, b < N → a ≠ b → (Tt a).2.1 ≠ (Tt b).2.1) ∧ (fc ci).length = N
def FL (own : String) (i : Nat) (Tt : u_T) (k : Nat) : Prop := Cond.fieldLink own i (Tt k).1 (Tt k).2.1 (Tt k).2.2.1 ∈ lg_tbl ∨ ∃ host : String, Cond.fieldLinkNest own i (Tt k).1 (Tt k).2.1 (Tt k).2.2.1 host ∈ lw_tbl
def FLs (own : String) (i : Nat) (nm : String) : Prop := Cond.fieldLink own i "HoleMoved" nm "[I" ∈ lg_tbl ∨ ∃ host : String, Cond.fieldLinkNest own i "HoleMoved" nm "[I" host ∈ lw_tbl
theorem ce_obj {ad : Nat → Nat} {ca : Nat → ClassId} {V : Rf} {M : Mem} {p ci n : Nat} (h : ci < 20) : ce ad ca V M p (ci, n) = .inr (ci, fl ad V M p (fc ci)) := if_pos h
theorem ce_20 {ad : Nat → Nat} {ca : Nat → ClassId} {V : Rf} {M : Mem} {p n : Nat} : ce ad ca V M p (20, n) = .inl (ca 20, n, .inl (M.1 p)) := by simp [ce]
theorem ce_21 {ad : Nat → Nat} {ca : Nat → ClassId} {V : Rf} {M : Mem} {p n : Nat} : ce ad ca V M p (21, n) = .inl (ca 21, n, .inr (.inl (M.2 p))) := by simp [ce]
theorem ce_q {ad : Nat → Nat} {ca : Nat → ClassId} {V : Rf} {M : Mem} {p kd n : Nat} (h : 22 ≤ kd) : ce ad ca V M p (kd, n) = .inl (ca kd, n, .inr (.inr (.inr (.inr (fun j => (V p j).map ad))))) := by
  unfold ce
  rw [if_neg (by simp; omega), if_neg (by simp; omega), if_neg (by simp; omega)]
theorem fl_at {ad : Nat → Nat} {V : Rf} {M : Mem} {p k t : Nat} {ts : List Nat} (h : ts[k]? = some t) : (fl ad V M p ts)[k]? = some (fv ad V M p k t) := by
  unfold fl
  rw [List.getElem?_mapIdx, h]
  rfl
theorem fl_set {ad : Nat → Nat} {V V' : Rf} {M M' : Mem} {p k t : Nat} {ts : List Nat} {v : Value} (h : ts[k]? = some t) (hv : fv ad V' M' p k t = v) (ho : ∀ j t', j ≠ k → fv ad V' M' p j t' = fv ad V M p j t') : (fl ad V M p ts).set k v = fl ad V' M' p ts := by
  apply List.ext_getElem?
  intro j
  by_cases e : j = k
  · subst e
    have hlt : j < (fl ad V M p ts).length := (List.getElem?_eq_some_iff.mp (fl_at (ad := ad) (V := V) (M := M) (p := p) h)).1
    rw [List.getElem?_set_self hlt, fl_at h, hv]
  · rw [List.getElem?_set_ne (fun q => e q.symm)]
    unfold fl
    rw [List.getElem?_mapIdx, List.getElem?_mapIdx]
    cases ts[j]? with
    | none => rfl
    | some t' => simp only [Option.map_some]; rw [ho j t' e]
theorem wd_free {ad : Nat → Nat} {ca : Nat → ClassId} {V : Rf} {M : Mem} {SH : List Sh} {A : Nat → Prop} {H0 H : Heap} {locs : List Loc} (hD : va_D A (wd ad ca V M SH)) (hS : va_S A H0 H locs) (hA : ∀ q, H0.size ≤ q → A q) : ∀ q, va_A (wd ad ca V M SH) H.size q → A q := by
  intro q h
  rcases h with ⟨k, e, h⟩ | h
  · exact hD.2 k _ h
  · exact hA q (Nat.le_trans hS.1 h)
theorem nest_onT {w : Cond} (h : isNest w = true) : w.onTables = true := by
  cases w <;> first | rfl | (simp [isNest] at h)
theorem Nst.warm {s U : State} (h : Nst s) (hW : s.WarmedH U.vm) : Nst U := by
  refine ⟨fun w hw hn => ?_, h.2.1.moved hW.alike, h.2.2.1.moved hW.alike, h.2.2.2.moved hW.alike⟩
  have h1 := h.1 w hw hn
  cases w <;> first | exact va_Nw.warmF hW h1 | exact va_Nw.warmM hW h1 | (simp [isNest] at hn)
theorem Nst.same {s U : State} (h : Nst s) (hv : s.vm = U.vm) : Nst U :=
  ⟨fun w hw hn => va_Nw.same (nest_onT hn) hv (h.1 w hw hn), h.2.1.moved (hv ▸ Vm.Alike.refl s.vm), h.2.2.1.moved (hv ▸ Vm.Alike.refl s.vm), h.2.2.2.moved (hv ▸ Vm.Alike.refl s.vm)⟩
theorem St.go {ad : Nat → Nat} {A B : Nat → Prop} {s U : State} {H H1 : Heap} (h : St ad A s H) (hvm : s.vm.Alike U.vm) (hN : Nst U) (hq : ∀ a : Nat, a < H.size → ¬ A a → H1[a]? = H[a]?) (hAB : ∀ q, B q → A q) : St ad B U H1 :=
  ⟨⟨((h.1.1.moved hvm).kept hq).narrow hAB, ((h.1.2.1.moved hvm).kept hq).narrow hAB, ((h.1.2.2.1.moved hvm).kept hq).narrow hAB, ((h.1.2.2.2.moved hvm).kept hq).narrow hAB⟩, hN⟩

section TM
variable {own : String} {cc : ByteArray} {nL : Nat} {ret : Option FieldType} {rk d mc ms : Nat} {gr : Bool} {Po : Po_} {pc : Nat} {L : List (Option AV)} {st : List AV} {SH : List Sh} {V : Rf} {M : Mem} {kc ks : Nat}
theorem T_getf {i ci k p n N t : Nat} {C : String} {Tt : u_T} {ty0 : Nat → FieldType} {a : AV} (hd : decode cc pc = .ok (.getfield i, 3)) (hc : clOK ci C Tt N ty0) (hf : FL own i Tt k) (hs : SH[p]? = some (ci, n)) (ht : (fc ci)[k]? = some t) (ha : ∀ ad, cv ad a = fv ad V M p k t) (kk : T own cc nL ret rk d mc ms gr Po (pc + 3) L (a :: st) SH V M kc ks) : T own cc nL ret rk d mc ms gr Po pc L (vR (some p) :: st) SH V M kc ks := by
  intro p' l e R s m args below meth c dC dI ad ca A H locs ls C' w t' hS hA g hl h1 h2
  have he := (wd_at (ad := ad) (ca := ca) (V := V) (M := M) hs).trans (congrArg (fun z => some (ad p, z)) (ce_obj hc.1))
  have hk : k < N := hc.2.2.2.2.2 ▸ (List.getElem?_eq_some_iff.mp ht).1
  have kk' := kk p' l e R s m args below meth c dC dI ad ca A H locs ls C' w t' hS hA g hl h1 h2
  have kk' : W p' l e R s m args below meth c H locs kc ks (MQ below (Qm rk dC dI ad ca A Po) args s mc ms A) (F0 m (pc + 3) ls (fv ad V M p k t :: st.map (cv ad))) := by rw [← ha ad]; exact kk'
  rcases hf with hf | ⟨host, hf⟩
  · exact va_get C'.1 C'.2.1 C'.2.2.2.2.2.1 hc.2.2.1 C'.2.2.2.2.1 w.1 w.2.1 p he hc.2.1 k hk (C'.2.2.2.2.2.1 _ hf) (fun _ h9 => h9) (fl_at ht) hd kk'
  · exact va_getN C'.1 C'.2.1 C'.2.2.2.2.2.1 hc.2.2.1 C'.2.2.2.2.1 w.1 w.2.1 p he hc.2.1 k hk (va_Nw.use rfl (t'.2.1 _ hf rfl)) (fun _ h9 => h9) (fl_at ht) hd kk'
theorem T_getI {i ci k p n N : Nat} {C : String} {Tt : u_T} {ty0 : Nat → FieldType} (hd : decode cc pc = .ok (.getfield i, 3)) (hc : clOK ci C Tt N ty0) (hf : FL own i Tt k) (hs : SH[p]? = some (ci, n)) (ht : (fc ci)[k]? = some 0) (kk : T own cc nL ret rk d mc ms gr Po (pc + 3) L (vI (gI M p k) :: st) SH V M kc ks) : T own cc nL ret rk d mc ms gr Po pc L (vR (some p) :: st) SH V M kc ks := T_getf hd hc hf hs ht (fun _ => rfl) kk
theorem T_getZ {i ci k p n N : Nat} {C : String} {Tt : u_T} {ty0 : Nat → FieldType} (hd : decode cc pc = .ok (.getfield i, 3)) (hc : clOK ci C Tt N ty0) (hf : FL own i Tt k) (hs : SH[p]? = some (ci, n)) (ht : (fc ci)[k]? = some 1) (kk : T own cc nL ret rk d mc ms gr Po (pc + 3) L (vI (gI M p k) :: st) SH V M kc ks) : T own cc nL ret rk d mc ms gr Po pc L (vR (some p) :: st) SH V M kc ks := T_getf hd hc hf hs ht (fun _ => rfl) kk
theorem T_getJ {i ci k p n N : Nat} {C : String} {Tt : u_T} {ty0 : Nat → FieldType} (hd : decode cc pc = .ok (.getfield i, 3)) (hc : clOK ci C Tt N ty0) (hf : FL own i Tt k) (hs : SH[p]? = some (ci, n)) (ht : (fc ci)[k]? = some 2) (kk : T own cc nL ret rk d mc ms gr Po (pc + 3) L (vJ (gJ M p k) :: st) SH V M kc ks) : T own cc nL ret rk d mc ms gr Po pc L (vR (some p) :: st) SH V M kc ks := T_getf hd hc hf hs ht (fun _ => rfl) kk
theorem T_getR {i ci k p n N : Nat} {C : String} {Tt : u_T} {ty0 : Nat → FieldType} {o : Option Nat} (hd : decode cc pc = .ok (.getfield i, 3)) (hc : clOK ci C Tt N ty0) (hf : FL own i Tt k) (hs : SH[p]? = some (ci, n)) (ht : (fc ci)[k]? = some 3) (hv : V p k = o) (kk : T own cc nL ret rk d mc ms gr Po (pc + 3) L (vR o :: st) SH V M kc ks) : T own cc nL ret rk d mc ms gr Po pc L (vR (some p) :: st) SH V M kc ks := T_getf hd hc hf hs ht (fun ad => by subst hv; rfl) kk
theorem T_putf {i ci k p n N t : Nat} {C : String} {Tt : u_T} {ty0 : Nat → FieldType} {a : AV} {V' : Rf} {M' : Mem} (hd : decode cc pc = .ok (.putfield i, 3)) (hc : clOK ci C Tt N ty0) (hf : FL own i Tt k) (hfin : (Tt k).2.2.2 = false ∨ (gr = true ∧ (Tt k).2.2.2 = true ∧ (Tt k).1 = own ∧ Cond.fieldLink own i (Tt k).1 (Tt k).2.1 (Tt k).2.2.1 ∈ lg_tbl)) (hs : SH[p]? = some (ci, n)) (ht : (fc ci)[k]? = some t) (hn : ∀ ad, narrow (ty0 k) (cv ad a) = cv ad a) (hfit : ∀ ad, fits (ty0 k) (cv ad a) = true)
    (hv : ∀ ad, fv ad V' M' p k t = cv ad a) (ho : ∀ ad j t', j ≠ k → fv ad V' M' p j t' = fv ad V M p j t') (hM : ∀ q, q ≠ p → M'.1 q = M.1 q ∧ M'.2 q = M.2 q ∧ V' q = V q) (kk : T own cc nL ret rk d mc ms gr Po (pc + 3) L st SH (V') (M') kc ks) : T own cc nL ret rk d mc ms gr Po pc L (a :: vR (some p) :: st) SH V M kc ks := by
  intro p' l e R s m args below meth c dC dI ad ca A H locs ls C' w t' hS hA g hl h1 h2
  have he := (wd_at (ad := ad) (ca := ca) (V := V) (M := M) hs).trans (congrArg (fun z => some (ad p, z)) (ce_obj hc.1))
  have hk : k < N := hc.2.2.2.2.2 ▸ (List.getElem?_eq_some_iff.mp ht).1
  have hset : (wd ad ca V M SH).set p (ad p, .inr (ci, (fl ad V M p (fc ci)).set k (cv ad a))) = wd ad ca V' M' SH := wd_set hs ((ce_obj hc.1).trans (by rw [fl_set ht (hv ad) (ho ad)])) (fun q sh hq => ce_ne (hM q hq).1 (hM q hq).2.1 (hM q hq).2.2 sh)
  have hlen : k < (fl ad V M p (fc ci)).length := (List.getElem?_eq_some_iff.mp (fl_at (ad := ad) (V := V) (M := M) (p := p) ht)).1
  have kk' : ∀ (H1 : Heap) (locs1 : List Loc), va_P (dC, dI) vwCl ((wd ad ca V M SH).set p (ad p, .inr (ci, (fl ad V M p (fc ci)).set k (cv ad a)))) H1 → va_D A ((wd ad ca V M SH).set p (ad p, .inr (ci, (fl ad V M p (fc ci)).set k (cv ad a)))) → va_S A s.heap H1 locs1 → W p' l e R s m args below meth c H1 locs1 kc ks (MQ below (Qm rk dC dI ad ca A Po) args s mc ms A) (F0 m (pc + 3) ls (st.map (cv ad))) := fun H1 locs1 hP hD hS1 => kk p' l e R s m args below meth c dC dI ad ca A H1 locs1 ls C' ⟨w.1, hset ▸ hP, hset ▸ hD⟩ t' hS1 hA g hl h1 h2
  rcases hfin with hfin | ⟨hg, hfin, hown, hf'⟩
  · rcases hf with hf | ⟨host, hf⟩
    · exact va_put C'.1 C'.2.1 C'.2.2.2.2.2.1 hc.2.2.1 ty0 hc.2.2.2.1 hc.2.2.2.2.1 C'.2.2.2.2.1 w.1 w.2.1 w.2.2 hS p he hc.2.1 k hk (C'.2.2.2.2.2.1 _ hf) (fun _ h9 => h9) hfin (hc.2.2.2.1 k hk) (hn ad) (hfit ad) hlen hd kk'
    · exact va_putN C'.1 C'.2.1 C'.2.2.2.2.2.1 hc.2.2.1 ty0 hc.2.2.2.1 hc.2.2.2.2.1 C'.2.2.2.2.1 w.1 w.2.1 w.2.2 hS p he hc.2.1 k hk (va_Nw.use rfl (t'.2.1 _ hf rfl)) (fun _ h9 => h9) hfin (hc.2.2.2.1 k hk) (hn ad) (hfit ad) hlen hd kk'
  · exact va_putF C'.1 C'.2.1 C'.2.2.2.2.2.1 hc.2.2.1 ty0 hc.2.2.2.1 hc.2.2.2.2.1 C'.2.2.2.2.1 w.1 w.2.1 w.2.2 hS p he hc.2.1 k hk (C'.2.2.2.2.2.1 _ hf') (fun _ h9 => h9) hfin (C'.2.2.2.2.2.2.2.2.2.2.2 hg) hown (hc.2.2.2.1 k hk) (hn ad) (hfit ad) hlen hd kk'
theorem fv_sI {ad : Nat → Nat} {V : Rf} {M : Mem} {p k t : Nat} {x : Int32} (h2 : t ≠ 2) (h3 : t ≠ 3) : fv ad V (sI M p k x) p k t = .int x := by
  unfold fv
  rw [if_neg h2, if_neg h3, sI_at]
  simp [upd]
theorem fv_sIo {ad : Nat → Nat} {V : Rf} {M : Mem} {p k : Nat} {x : Int32} (j t : Nat) (h : j ≠ k) : fv ad V (sI M p k x) p j t = fv ad V M p j t := by
  unfold fv
  rw [sI_at]
  simp only [upd, if_neg h]
  rfl
theorem fv_sJ {ad : Nat → Nat} {V : Rf} {M : Mem} {p k : Nat} {x : Int64} : fv ad V (sJ M p k x) p k 2 = .long x := by
  unfold fv
  rw [if_pos rfl, sJ_at]
  simp [vp_updL]
theorem fv_sJo {ad : Nat → Nat} {V : Rf} {M : Mem} {p k : Nat} {x : Int64} (j t : Nat) (h : j ≠ k) : fv ad V (sJ M p k x) p j t = fv ad V M p j t := by
  unfold fv
  rw [sJ_at]
  simp only [vp_updL, if_neg h]
  rfl
theorem fv_sR {ad : Nat → Nat} {V : Rf} {M : Mem} {p k : Nat} {x : Option Nat} : fv ad (sR V p k x) M p k 3 = va_rf (x.map ad) := by
  unfold fv
  rw [if_neg (by decide), if_pos rfl, sR_at]
  simp [va_up]
theorem fv_sRo {ad : Nat → Nat} {V : Rf} {M : Mem} {p k : Nat} {x : Option Nat} (j t : Nat) (h : j ≠ k) : fv ad (sR V p k x) M p j t = fv ad V M p j t := by
  unfold fv
  rw [sR_at]
  simp only [va_up, if_neg h]
theorem T_putI {i ci k p n N : Nat} {C : String} {Tt : u_T} {ty0 : Nat → FieldType} {x : Int32} {M' : Mem} (hd : decode cc pc = .ok (.putfield i, 3)) (hc : clOK ci C Tt N ty0) (hf : FL own i Tt k) (hfin : (Tt k).2.2.2 = false ∨ (gr = true ∧ (Tt k).2.2.2 = true ∧ (Tt k).1 = own ∧ Cond.fieldLink own i (Tt k).1 (Tt k).2.1 (Tt k).2.2.1 ∈ lg_tbl)) (hs : SH[p]? = some (ci, n)) (ht : (fc ci)[k]? = some 0) (hty : ty0 k = .int) (hM : M' = sI M p k x) (kk : T own cc nL ret rk d mc ms gr Po (pc + 3) L st SH V (M') kc ks) : T own cc nL ret rk d mc ms gr Po pc L (vI x :: vR (some p) :: st) SH V M kc ks := by
  subst hM
  exact T_putf hd hc hf hfin hs ht (fun _ => by rw [hty]; rfl) (fun _ => by rw [hty]; rfl) (fun _ => fv_sI (by decide) (by decide)) (fun _ j t h => fv_sIo j t h) (fun q hq => ⟨sI_ne hq, rfl, rfl⟩) kk
theorem T_putZ {i ci k p n N : Nat} {C : String} {Tt : u_T} {ty0 : Nat → FieldType} {x : Int32} {M' : Mem} (hd : decode cc pc = .ok (.putfield i, 3)) (hc : clOK ci C Tt N ty0) (hf : FL own i Tt k) (hfin : (Tt k).2.2.2 = false ∨ (gr = true ∧ (Tt k).2.2.2 = true ∧ (Tt k).1 = own ∧ Cond.fieldLink own i (Tt k).1 (Tt k).2.1 (Tt k).2.2.1 ∈ lg_tbl)) (hs : SH[p]? = some (ci, n)) (ht : (fc ci)[k]? = some 1) (hty : ty0 k = .boolean) (hx : x = 0 ∨ x = 1) (hM : M' = sI M p k x) (kk : T own cc nL ret rk d mc ms gr Po (pc + 3) L st SH V (M') kc ks) : T own cc nL ret rk d mc ms gr Po pc L (vI x :: vR (some p) :: st) SH V M kc ks := by
  subst hM
  exact T_putf hd hc hf hfin hs ht (fun _ => by rw [hty]; exact nb01 hx) (fun _ => by rw [hty]; rcases hx with rfl | rfl <;> rfl) (fun _ => fv_sI (by decide) (by decide)) (fun _ j t h => fv_sIo j t h) (fun q hq => ⟨sI_ne hq, rfl, rfl⟩) kk
theorem T_putJ {i ci k p n N : Nat} {C : String} {Tt : u_T} {ty0 : Nat → FieldType} {x : Int64} {M' : Mem} (hd : decode cc pc = .ok (.putfield i, 3)) (hc : clOK ci C Tt N ty0) (hf : FL own i Tt k) (hfin : (Tt k).2.2.2 = false ∨ (gr = true ∧ (Tt k).2.2.2 = true ∧ (Tt k).1 = own ∧ Cond.fieldLink own i (Tt k).1 (Tt k).2.1 (Tt k).2.2.1 ∈ lg_tbl)) (hs : SH[p]? = some (ci, n)) (ht : (fc ci)[k]? = some 2) (hty : ty0 k = .long) (hM : M' = sJ M p k x) (kk : T own cc nL ret rk d mc ms gr Po (pc + 3) L st SH V (M') kc ks) : T own cc nL ret rk d mc ms gr Po pc L (vJ x :: vR (some p) :: st) SH V M kc ks := by
  subst hM
  exact T_putf hd hc hf hfin hs ht (fun _ => by rw [hty]; rfl) (fun _ => by rw [hty]; rfl) (fun _ => fv_sJ) (fun _ j t h => fv_sJo j t h) (fun q hq => ⟨rfl, sJ_ne hq, rfl⟩) kk
theorem T_putR {i ci k p n N : Nat} {C : String} {Tt : u_T} {ty0 : Nat → FieldType} {x : Option Nat} {V' : Rf} (hd : decode cc pc = .ok (.putfield i, 3)) (hc : clOK ci C Tt N ty0) (hf : FL own i Tt k) (hfin : (Tt k).2.2.2 = false ∨ (gr = true ∧ (Tt k).2.2.2 = true ∧ (Tt k).1 = own ∧ Cond.fieldLink own i (Tt k).1 (Tt k).2.1 (Tt k).2.2.1 ∈ lg_tbl)) (hs : SH[p]? = some (ci, n)) (ht : (fc ci)[k]? = some 3) (hty : (∃ z, ty0 k = .object z) ∨ ∃ z, ty0 k = .array z) (hV : V' = sR V p k x) (kk : T own cc nL ret rk d mc ms gr Po (pc + 3) L st SH (V') M kc ks) : T own cc nL ret rk d mc ms gr Po pc L (vR x :: vR (some p) :: st) SH V M kc ks := by
  subst hV
  exact T_putf hd hc hf hfin hs ht (fun _ => by rcases hty with ⟨z, hz⟩ | ⟨z, hz⟩ <;> rw [hz] <;> cases x <;> rfl) (fun _ => by rcases hty with ⟨z, hz⟩ | ⟨z, hz⟩ <;> rw [hz] <;> cases x <;> rfl) (fun _ => fv_sR) (fun _ j t h => fv_sRo j t h) (fun q hq => ⟨rfl, rfl, sR_ne hq⟩) kk
theorem T_gets0 {i : Nat} (hd : decode cc pc = .ok (.getstatic i, 3)) (hf : FLs own i "LETTERS") (k : T own cc nL ret rk d mc ms gr Po (pc + 3) L (vR (some 1000) :: st) SH V M kc ks) : T own cc nL ret rk d mc ms gr Po pc L st SH V M kc ks := by
  intro p l e R s m args below meth c dC dI ad ca A H locs ls C w t hS hA g hl h1 h2
  rcases hf with hf | ⟨host, hf⟩
  · exact va_gets C.1 C.2.1 t.1.1 hS C.2.2.2.2.1 (C.2.2.2.2.2.1 _ hf) (fun _ h => h) hd (k p l e R s m args below meth c dC dI ad ca A H locs ls C w t hS hA g hl h1 h2)
  · exact va_getsN C.1 C.2.1 t.1.1 hS C.2.2.2.2.1 (va_Nw.use rfl (t.2.1 _ hf rfl)) (fun _ h => h) hd (k p l e R s m args below meth c dC dI ad ca A H locs ls C w t hS hA g hl h1 h2)
theorem T_sald0 {i : Int32} (hd : decode cc pc = .ok (.iaload, 1)) (hin : vp_in i 6) (k : T own cc nL ret rk d mc ms gr Po (pc + 1) L (vI (stv 0 i.toNatClampNeg) :: st) SH V M kc ks) : T own cc nL ret rk d mc ms gr Po pc L (vI i :: vR (some 1000) :: st) SH V M kc ks := by
  intro p l e R s m args below meth c dC dI ad ca A H locs ls C w t hS hA g hl h1 h2
  exact va_ti C.1 C.2.1 t.1.2.1 hS hin rfl hd (k p l e R s m args below meth c dC dI ad ca A H locs ls C w t hS hA g hl h1 h2)
theorem T_slen0 (hd : decode cc pc = .ok (.arraylength, 1)) (k : T own cc nL ret rk d mc ms gr Po (pc + 1) L (vI 6 :: st) SH V M kc ks) : T own cc nL ret rk d mc ms gr Po pc L (vR (some 1000) :: st) SH V M kc ks := by
  intro p l e R s m args below meth c dC dI ad ca A H locs ls C w t hS hA g hl h1 h2
  exact va_tlen C.1 C.2.1 t.1.2.1 hS rfl hd (k p l e R s m args below meth c dC dI ad ca A H locs ls C w t hS hA g hl h1 h2)
theorem T_gets1 {i : Nat} (hd : decode cc pc = .ok (.getstatic i, 3)) (hf : FLs own i "WIDER_KINDS") (k : T own cc nL ret rk d mc ms gr Po (pc + 3) L (vR (some 1001) :: st) SH V M kc ks) : T own cc nL ret rk d mc ms gr Po pc L st SH V M kc ks := by
  intro p l e R s m args below meth c dC dI ad ca A H locs ls C w t hS hA g hl h1 h2
  rcases hf with hf | ⟨host, hf⟩
  · exact va_gets C.1 C.2.1 t.1.2.2.1 hS C.2.2.2.2.1 (C.2.2.2.2.2.1 _ hf) (fun _ h => h) hd (k p l e R s m args below meth c dC dI ad ca A H locs ls C w t hS hA g hl h1 h2)
  · exact va_getsN C.1 C.2.1 t.1.2.2.1 hS C.2.2.2.2.1 (va_Nw.use rfl (t.2.1 _ hf rfl)) (fun _ h => h) hd (k p l e R s m args below meth c dC dI ad ca A H locs ls C w t hS hA g hl h1 h2)
theorem T_sald1 {i : Int32} (hd : decode cc pc = .ok (.iaload, 1)) (hin : vp_in i 6) (k : T own cc nL ret rk d mc ms gr Po (pc + 1) L (vI (stv 1 i.toNatClampNeg) :: st) SH V M kc ks) : T own cc nL ret rk d mc ms gr Po pc L (vI i :: vR (some 1001) :: st) SH V M kc ks := by
  intro p l e R s m args below meth c dC dI ad ca A H locs ls C w t hS hA g hl h1 h2
  exact va_ti C.1 C.2.1 t.1.2.2.2 hS hin rfl hd (k p l e R s m args below meth c dC dI ad ca A H locs ls C w t hS hA g hl h1 h2)
theorem T_slen1 (hd : decode cc pc = .ok (.arraylength, 1)) (k : T own cc nL ret rk d mc ms gr Po (pc + 1) L (vI 6 :: st) SH V M kc ks) : T own cc nL ret rk d mc ms gr Po pc L (vR (some 1001) :: st) SH V M kc ks := by
  intro p l e R s m args below meth c dC dI ad ca A H locs ls C w t hS hA g hl h1 h2
  exact va_tlen C.1 C.2.1 t.1.2.2.2 hS rfl hd (k p l e R s m args below meth c dC dI ad ca A H locs ls C w t hS hA g hl h1 h2)
theorem T_iald {q n : Nat} {i : Int32} (hd : decode cc pc = .ok (.iaload, 1)) (hs : SH[q]? = some (20, n)) (hin : vp_in i n) (k : T own cc nL ret rk d mc ms gr Po (pc + 1) L (vI (gI M q i.toNatClampNeg) :: st) SH V M kc ks) : T own cc nL ret rk d mc ms gr Po pc L (vI i :: vR (some q) :: st) SH V M kc ks := by
  intro p l e R s m args below meth c dC dI ad ca A H locs ls C w t hS hA g hl h1 h2
  exact va_iald C.1 C.2.1 w.1 w.2.1 q 0 ((wd_at hs).trans (congrArg (fun z => some (ad q, z)) ce_20)) rfl hin hd (k p l e R s m args below meth c dC dI ad ca A H locs ls C w t hS hA g hl h1 h2)
theorem T_lald {q n : Nat} {i : Int32} (hd : decode cc pc = .ok (.laload, 1)) (hs : SH[q]? = some (21, n)) (hin : vp_in i n) (k : T own cc nL ret rk d mc ms gr Po (pc + 1) L (vJ (gJ M q i.toNatClampNeg) :: st) SH V M kc ks) : T own cc nL ret rk d mc ms gr Po pc L (vI i :: vR (some q) :: st) SH V M kc ks := by
  intro p l e R s m args below meth c dC dI ad ca A H locs ls C w t hS hA g hl h1 h2
  exact va_lald C.1 C.2.1 w.1 w.2.1 q 1 ((wd_at hs).trans (congrArg (fun z => some (ad q, z)) ce_21)) rfl hin hd (k p l e R s m args below meth c dC dI ad ca A H locs ls C w t hS hA g hl h1 h2)
theorem T_iast {q n : Nat} {i x : Int32} {M' : Mem} (hd : decode cc pc = .ok (.iastore, 1)) (hs : SH[q]? = some (20, n)) (hin : vp_in i n) (hM : M' = sI M q i.toNatClampNeg x) (k : T own cc nL ret rk d mc ms gr Po (pc + 1) L st SH V (M') kc ks) : T own cc nL ret rk d mc ms gr Po pc L (vI x :: vI i :: vR (some q) :: st) SH V M kc ks := by
  subst hM
  intro p l e R s m args below meth c dC dI ad ca A H locs ls C w t hS hA g hl h1 h2
  have hset : (wd ad ca V M SH).set q (ad q, .inl (ca 20, n, .inl (upd (M.1 q) i.toNatClampNeg x))) = wd ad ca V (sI M q i.toNatClampNeg x) SH := wd_set hs (ce_20.trans (by rw [sI_at])) (fun j sh hj => ce_ne (sI_ne hj) rfl rfl sh)
  exact va_iast C.1 C.2.1 w.1 w.2.1 w.2.2 hS q 0 ((wd_at hs).trans (congrArg (fun z => some (ad q, z)) ce_20)) rfl hin hd (fun H1 locs1 hP hD hS1 => k p l e R s m args below meth c dC dI ad ca A H1 locs1 ls C ⟨w.1, hset ▸ hP, hset ▸ hD⟩ t hS1 hA g hl h1 h2)
theorem T_last {q n : Nat} {i : Int32} {x : Int64} {M' : Mem} (hd : decode cc pc = .ok (.lastore, 1)) (hs : SH[q]? = some (21, n)) (hin : vp_in i n) (hM : M' = sJ M q i.toNatClampNeg x) (k : T own cc nL ret rk d mc ms gr Po (pc + 1) L st SH V (M') kc ks) : T own cc nL ret rk d mc ms gr Po pc L (vJ x :: vI i :: vR (some q) :: st) SH V M kc ks := by
  subst hM
  intro p l e R s m args below meth c dC dI ad ca A H locs ls C w t hS hA g hl h1 h2
  have hset : (wd ad ca V M SH).set q (ad q, .inl (ca 21, n, .inr (.inl (vp_updL (M.2 q) i.toNatClampNeg x)))) = wd ad ca V (sJ M q i.toNatClampNeg x) SH := wd_set hs (ce_21.trans (by rw [sJ_at])) (fun j sh hj => ce_ne (V := V) (V' := V) (M := M) (M' := sJ M q i.toNatClampNeg x) rfl (sJ_ne hj) rfl sh)
  exact va_last C.1 C.2.1 w.1 w.2.1 w.2.2 hS q 1 ((wd_at hs).trans (congrArg (fun z => some (ad q, z)) ce_21)) rfl hin hd (fun H1 locs1 hP hD hS1 => k p l e R s m args below meth c dC dI ad ca A H1 locs1 ls C ⟨w.1, hset ▸ hP, hset ▸ hD⟩ t hS1 hA g hl h1 h2)
theorem T_alen {q kd n : Nat} (hd : decode cc pc = .ok (.arraylength, 1)) (hs : SH[q]? = some (kd, n)) (hk : kd = 20 ∨ kd = 21 ∨ kd = 31 ∨ kd = 33 ∨ kd = 35) {v : Int32} (hv : Int32.ofNat n = v) (k : T own cc nL ret rk d mc ms gr Po (pc + 1) L (vI v :: st) SH V M kc ks) : T own cc nL ret rk d mc ms gr Po pc L (vR (some q) :: st) SH V M kc ks := by
  intro p l e R s m args below meth c dC dI ad ca A H locs ls C w t hS hA g hl h1 h2
  have he := wd_at (ad := ad) (ca := ca) (V := V) (M := M) hs
  rcases hk with rfl | rfl | rfl | rfl | rfl
  · exact va_alen C.1 C.2.1 w.1 w.2.1 q 0 (he.trans (congrArg (fun z => some (ad q, z)) ce_20)) rfl hv hd (k p l e R s m args below meth c dC dI ad ca A H locs ls C w t hS hA g hl h1 h2)
  · exact va_alen C.1 C.2.1 w.1 w.2.1 q 1 (he.trans (congrArg (fun z => some (ad q, z)) ce_21)) rfl hv hd (k p l e R s m args below meth c dC dI ad ca A H locs ls C w t hS hA g hl h1 h2)
  · exact va_alen C.1 C.2.1 w.1 w.2.1 q 2 (he.trans (congrArg (fun z => some (ad q, z)) (ce_q (by decide)))) rfl hv hd (k p l e R s m args below meth c dC dI ad ca A H locs ls C w t hS hA g hl h1 h2)
  · exact va_alen C.1 C.2.1 w.1 w.2.1 q 3 (he.trans (congrArg (fun z => some (ad q, z)) (ce_q (by decide)))) rfl hv hd (k p l e R s m args below meth c dC dI ad ca A H locs ls C w t hS hA g hl h1 h2)
  · exact va_alen C.1 C.2.1 w.1 w.2.1 q 4 (he.trans (congrArg (fun z => some (ad q, z)) (ce_q (by decide)))) rfl hv hd (k p l e R s m args below meth c dC dI ad ca A H locs ls C w t hS hA g hl h1 h2)
theorem T_aald {q kd n : Nat} {i : Int32} {o : Option Nat} (hd : decode cc pc = .ok (.aaload, 1)) (hs : SH[q]? = some (kd, n)) (hk : kd = 31 ∨ kd = 33 ∨ kd = 35) (hin : vp_in i n) (hv : V q i.toNatClampNeg = o) (k : T own cc nL ret rk d mc ms gr Po (pc + 1) L (vR o :: st) SH V M kc ks) : T own cc nL ret rk d mc ms gr Po pc L (vI i :: vR (some q) :: st) SH V M kc ks := by
  subst hv
  intro p l e R s m args below meth c dC dI ad ca A H locs ls C w t hS hA g hl h1 h2
  have he := wd_at (ad := ad) (ca := ca) (V := V) (M := M) hs
  rcases hk with rfl | rfl | rfl
  · exact va_aldq C.1 C.2.1 w.1 w.2.1 q 2 (he.trans (congrArg (fun z => some (ad q, z)) (ce_q (by decide)))) rfl hin hd (k p l e R s m args below meth c dC dI ad ca A H locs ls C w t hS hA g hl h1 h2)
  · exact va_aldq C.1 C.2.1 w.1 w.2.1 q 3 (he.trans (congrArg (fun z => some (ad q, z)) (ce_q (by decide)))) rfl hin hd (k p l e R s m args below meth c dC dI ad ca A H locs ls C w t hS hA g hl h1 h2)
  · exact va_aldq C.1 C.2.1 w.1 w.2.1 q 4 (he.trans (congrArg (fun z => some (ad q, z)) (ce_q (by decide)))) rfl hin hd (k p l e R s m args below meth c dC dI ad ca A H locs ls C w t hS hA g hl h1 h2)
theorem sR_fun {ad : Nat → Nat} {q j : Nat} {v : Option Nat} : va_up (fun z => (V q z).map ad) j (v.map ad) = fun z => (sR V q j v q z).map ad := by
  funext z
  rw [sR_at]
  unfold va_up
  by_cases h : z = j
  · rw [if_pos h, if_pos h]
  · rw [if_neg h, if_neg h]
theorem T_aastN {q kd n : Nat} {i : Int32} {V' : Rf} (hd : decode cc pc = .ok (.aastore, 1)) (hs : SH[q]? = some (kd, n)) (hk : kd = 31 ∨ kd = 33 ∨ kd = 35) (hin : vp_in i n) (hV : V' = sR V q i.toNatClampNeg none) (k : T own cc nL ret rk d mc ms gr Po (pc + 1) L st SH (V') M kc ks) : T own cc nL ret rk d mc ms gr Po pc L (vR none :: vI i :: vR (some q) :: st) SH V M kc ks := by
  subst hV
  intro p l e R s m args below meth c dC dI ad ca A H locs ls C w t hS hA g hl h1 h2
  have he := wd_at (ad := ad) (ca := ca) (V := V) (M := M) hs
  have hset : (wd ad ca V M SH).set q (ad q, .inl (ca kd, n, .inr (.inr (.inr (.inr (va_up (fun z => (V q z).map ad) i.toNatClampNeg none)))))) = wd ad ca (sR V q i.toNatClampNeg none) M SH := wd_set hs ((ce_q (by omega)).trans (by rw [← sR_fun]; rfl)) (fun j sh hj => ce_ne rfl rfl (sR_ne hj) sh)
  have kk := fun (H1 : Heap) (locs1 : List Loc) (hP : va_P (dC, dI) vwCl ((wd ad ca V M SH).set q (ad q, .inl (ca kd, n, .inr (.inr (.inr (.inr (va_up (fun z => (V q z).map ad) i.toNatClampNeg none))))))) H1) hD (hS1 : va_S A s.heap H1 locs1) => k p l e R s m args below meth c dC dI ad ca A H1 locs1 ls C ⟨w.1, hset ▸ hP, hset ▸ hD⟩ t hS1 hA g hl h1 h2
  rcases hk with rfl | rfl | rfl
  · exact va_astqN C.1 C.2.1 w.1 w.2.1 w.2.2 hS q 2 (he.trans (congrArg (fun z => some (ad q, z)) (ce_q (by decide)))) rfl hin hd kk
  · exact va_astqN C.1 C.2.1 w.1 w.2.1 w.2.2 hS q 3 (he.trans (congrArg (fun z => some (ad q, z)) (ce_q (by decide)))) rfl hin hd kk
  · exact va_astqN C.1 C.2.1 w.1 w.2.1 w.2.2 hS q 4 (he.trans (congrArg (fun z => some (ad q, z)) (ce_q (by decide)))) rfl hin hd kk
theorem T_aast {q kd n v ci n' : Nat} {i : Int32} {V' : Rf} (hd : decode cc pc = .ok (.aastore, 1)) (hs : SH[q]? = some (kd, n)) (hk : (kd = 31 ∧ ci = 1) ∨ (kd = 33 ∧ ci = 3) ∨ (kd = 35 ∧ ci = 5)) (hv : SH[v]? = some (ci, n')) (hin : vp_in i n) (hV : V' = sR V q i.toNatClampNeg (some v)) (k : T own cc nL ret rk d mc ms gr Po (pc + 1) L st SH (V') M kc ks) : T own cc nL ret rk d mc ms gr Po pc L (vR (some v) :: vI i :: vR (some q) :: st) SH V M kc ks := by
  subst hV
  intro p l e R s m args below meth c dC dI ad ca A H locs ls C w t hS hA g hl h1 h2
  have he := wd_at (ad := ad) (ca := ca) (V := V) (M := M) hs
  have hc20 : ci < 20 := by omega
  have hev := (wd_at (ad := ad) (ca := ca) (V := V) (M := M) hv).trans (congrArg (fun z => some (ad v, z)) (ce_obj hc20))
  have hset : (wd ad ca V M SH).set q (ad q, .inl (ca kd, n, .inr (.inr (.inr (.inr (va_up (fun z => (V q z).map ad) i.toNatClampNeg (some (ad v)))))))) = wd ad ca (sR V q i.toNatClampNeg (some v)) M SH := wd_set hs ((ce_q (by omega)).trans (by rw [← sR_fun]; rfl)) (fun j sh hj => ce_ne rfl rfl (sR_ne hj) sh)
  have kk := fun (H1 : Heap) (locs1 : List Loc) (hP : va_P (dC, dI) vwCl ((wd ad ca V M SH).set q (ad q, .inl (ca kd, n, .inr (.inr (.inr (.inr (va_up (fun z => (V q z).map ad) i.toNatClampNeg (some (ad v))))))))) H1) hD (hS1 : va_S A s.heap H1 locs1) => k p l e R s m args below meth c dC dI ad ca A H1 locs1 ls C ⟨w.1, hset ▸ hP, hset ▸ hD⟩ t hS1 hA g hl h1 h2
  rcases hk with ⟨rfl, rfl⟩ | ⟨rfl, rfl⟩ | ⟨rfl, rfl⟩
  · exact va_astq C.1 C.2.1 w.1 w.2.1 w.2.2 hS q 2 v 1 (r := (RX1, TX1, 8)) (he.trans (congrArg (fun z => some (ad q, z)) (ce_q (by decide)))) rfl hev rfl hin hd kk
  · exact va_astq C.1 C.2.1 w.1 w.2.1 w.2.2 hS q 3 v 3 (r := (RX3, TX3, 2)) (he.trans (congrArg (fun z => some (ad q, z)) (ce_q (by decide)))) rfl hev rfl hin hd kk
  · exact va_astq C.1 C.2.1 w.1 w.2.1 w.2.2 hS q 4 v 5 (r := (RX5, TX5, 2)) (he.trans (congrArg (fun z => some (ad q, z)) (ce_q (by decide)))) rfl hev rfl hin hd kk
end TM
