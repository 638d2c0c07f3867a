section TR
variable {own : String} {cc : ByteArray} {nL : Nat} {ret : Option FieldType} {rk d mc ms : Nat} {gr : Bool} {Po : Po_} {pc : Nat} {L : List (Option AV)} {st : List AV} {SH : List Sh} {V : Rf} {M : Mem} {kc ks : Nat}
theorem cat_cv (ad : Nat → Nat) (a : AV) : (cv ad a).category = (match a with | .inr (.inl _) => 2 | _ => 1) := by
  rcases a with x | x | o
  · rfl
  · rfl
  · cases o <;> rfl
theorem T_iconst {n : Int} {v : Int32} (hd : decode cc pc = .ok (.iconst n, 1)) (hv : Int32.ofInt n = v) (k : T own cc nL ret rk d mc ms gr Po (pc + 1) L (vI v :: st) SH V M kc ks) : T own cc nL ret rk d mc ms gr Po pc L st SH V M kc ks := by
  intro p l e R s m args below meth c dC dI ad ca A H locs ls C w t hS hA g hl h1 h2
  exact lv_iconst C.1 C.2.1 hd hv (k p l e R s m args below meth c dC dI ad ca A H locs ls C w t hS hA g hl h1 h2)
theorem T_bipush {n : Int} {v : Int32} (hd : decode cc pc = .ok (.bipush n, 2)) (hv : (Int8.ofInt n).toInt32 = v) (k : T own cc nL ret rk d mc ms gr Po (pc + 2) L (vI v :: st) SH V M kc ks) : T own cc nL ret rk d mc ms gr Po pc L st SH V M kc ks := by
  intro p l e R s m args below meth c dC dI ad ca A H locs ls C w t hS hA g hl h1 h2
  exact lv_bipush C.1 C.2.1 hd hv (k p l e R s m args below meth c dC dI ad ca A H locs ls C w t hS hA g hl h1 h2)
theorem T_sipush {n : Int} {v : Int32} (hd : decode cc pc = .ok (.sipush n, 3)) (hv : (Int16.ofInt n).toInt32 = v) (k : T own cc nL ret rk d mc ms gr Po (pc + 3) L (vI v :: st) SH V M kc ks) : T own cc nL ret rk d mc ms gr Po pc L st SH V M kc ks := by
  intro p l e R s m args below meth c dC dI ad ca A H locs ls C w t hS hA g hl h1 h2
  exact lv_sipush C.1 C.2.1 hd hv (k p l e R s m args below meth c dC dI ad ca A H locs ls C w t hS hA g hl h1 h2)
theorem T_lconst {n : Fin 2} {v : Int64} (hd : decode cc pc = .ok (.lconst n, 1)) (hv : Int64.ofNat (n : Nat) = v) (k : T own cc nL ret rk d mc ms gr Po (pc + 1) L (vJ v :: st) SH V M kc ks) : T own cc nL ret rk d mc ms gr Po pc L st SH V M kc ks := by
  intro p l e R s m args below meth c dC dI ad ca A H locs ls C w t hS hA g hl h1 h2
  exact lv_lconst C.1 C.2.1 hd hv (k p l e R s m args below meth c dC dI ad ca A H locs ls C w t hS hA g hl h1 h2)
theorem T_ldc {i : Nat} {v : Int32} (hd : decode cc pc = .ok (.ldc i, 2)) (hw : Cond.constant own i v ∈ lg_tbl) (k : T own cc nL ret rk d mc ms gr Po (pc + 2) L (vI v :: st) SH V M kc ks) : T own cc nL ret rk d mc ms gr Po pc L st SH V M kc ks := by
  intro p l e R s m args below meth c dC dI ad ca A H locs ls C w t hS hA g hl h1 h2
  exact lv_ldc C.1 C.2.1 C.2.2.2.2.1 (C.2.2.2.2.2.1 _ hw) hd (k p l e R s m args below meth c dC dI ad ca A H locs ls C w t hS hA g hl h1 h2)
theorem T_ldcw {i : Nat} {v : Int32} (hd : decode cc pc = .ok (.ldc_w i, 3)) (hw : Cond.constant own i v ∈ lg_tbl) (k : T own cc nL ret rk d mc ms gr Po (pc + 3) L (vI v :: st) SH V M kc ks) : T own cc nL ret rk d mc ms gr Po pc L st SH V M kc ks := by
  intro p l e R s m args below meth c dC dI ad ca A H locs ls C w t hS hA g hl h1 h2
  exact lv_ldcw C.1 C.2.1 C.2.2.2.2.1 (C.2.2.2.2.2.1 _ hw) hd (k p l e R s m args below meth c dC dI ad ca A H locs ls C w t hS hA g hl h1 h2)
theorem T_ldc2 {i : Nat} {v : Int64} (hd : decode cc pc = .ok (.ldc2_w i, 3)) (hw : Cond.constantLong own i v ∈ lg_tbl) (k : T own cc nL ret rk d mc ms gr Po (pc + 3) L (vJ v :: st) SH V M kc ks) : T own cc nL ret rk d mc ms gr Po pc L st SH V M kc ks := by
  intro p l e R s m args below meth c dC dI ad ca A H locs ls C w t hS hA g hl h1 h2
  exact lv_ldc2 C.1 C.2.1 C.2.2.2.2.1 (C.2.2.2.2.2.1 _ hw) hd (k p l e R s m args below meth c dC dI ad ca A H locs ls C w t hS hA g hl h1 h2)
theorem T_null  (hd : decode cc pc = .ok (.aconst_null, 1)) (k : T own cc nL ret rk d mc ms gr Po (pc + 1) L (vR none :: st) SH V M kc ks) : T own cc nL ret rk d mc ms gr Po pc L st SH V M kc ks := by
  intro p l e R s m args below meth c dC dI ad ca A H locs ls C w t hS hA g hl h1 h2
  exact lv_null C.1 C.2.1 hd (k p l e R s m args below meth c dC dI ad ca A H locs ls C w t hS hA g hl h1 h2)
theorem T_iload_n {n : Fin 4} {x : Int32} (hd : decode cc pc = .ok (.iload_n n, 1)) (hL : L[(n : Nat)]? = some (some (vI x))) (k : T own cc nL ret rk d mc ms gr Po (pc + 1) L (vI x :: st) SH V M kc ks) : T own cc nL ret rk d mc ms gr Po pc L st SH V M kc ks := by
  intro p l e R s m args below meth c dC dI ad ca A H locs ls C w t hS hA g hl h1 h2
  exact lv_iload_n C.1 C.2.1 hd rfl (hl.2.2 _ _ hL) (k p l e R s m args below meth c dC dI ad ca A H locs ls C w t hS hA g hl h1 h2)
theorem T_iload {i : Nat} {x : Int32} (hd : decode cc pc = .ok (.iload i, 2)) (hL : L[i]? = some (some (vI x))) (k : T own cc nL ret rk d mc ms gr Po (pc + 2) L (vI x :: st) SH V M kc ks) : T own cc nL ret rk d mc ms gr Po pc L st SH V M kc ks := by
  intro p l e R s m args below meth c dC dI ad ca A H locs ls C w t hS hA g hl h1 h2
  exact lv_iload C.1 C.2.1 hd (hl.2.2 _ _ hL) (k p l e R s m args below meth c dC dI ad ca A H locs ls C w t hS hA g hl h1 h2)
theorem T_lload_n {n : Fin 4} {x : Int64} (hd : decode cc pc = .ok (.lload_n n, 1)) (hL : L[(n : Nat)]? = some (some (vJ x))) (k : T own cc nL ret rk d mc ms gr Po (pc + 1) L (vJ x :: st) SH V M kc ks) : T own cc nL ret rk d mc ms gr Po pc L st SH V M kc ks := by
  intro p l e R s m args below meth c dC dI ad ca A H locs ls C w t hS hA g hl h1 h2
  exact lv_lload_n C.1 C.2.1 hd rfl (hl.2.2 _ _ hL) (k p l e R s m args below meth c dC dI ad ca A H locs ls C w t hS hA g hl h1 h2)
theorem T_lload {i : Nat} {x : Int64} (hd : decode cc pc = .ok (.lload i, 2)) (hL : L[i]? = some (some (vJ x))) (k : T own cc nL ret rk d mc ms gr Po (pc + 2) L (vJ x :: st) SH V M kc ks) : T own cc nL ret rk d mc ms gr Po pc L st SH V M kc ks := by
  intro p l e R s m args below meth c dC dI ad ca A H locs ls C w t hS hA g hl h1 h2
  exact lv_lload C.1 C.2.1 hd (hl.2.2 _ _ hL) (k p l e R s m args below meth c dC dI ad ca A H locs ls C w t hS hA g hl h1 h2)
theorem T_aload_n {n : Fin 4} {o : Option Nat} (hd : decode cc pc = .ok (.aload_n n, 1)) (hL : L[(n : Nat)]? = some (some (vR o))) (k : T own cc nL ret rk d mc ms gr Po (pc + 1) L (vR o :: st) SH V M kc ks) : T own cc nL ret rk d mc ms gr Po pc L st SH V M kc ks := by
  intro p l e R s m args below meth c dC dI ad ca A H locs ls C w t hS hA g hl h1 h2
  have hh := hl.2.2 _ _ hL
  cases o with
  | none => exact lv_aload_nN C.1 C.2.1 hd rfl hh (k p l e R s m args below meth c dC dI ad ca A H locs ls C w t hS hA g hl h1 h2)
  | some q => exact lv_aload_n C.1 C.2.1 hd rfl hh (k p l e R s m args below meth c dC dI ad ca A H locs ls C w t hS hA g hl h1 h2)
theorem T_aload {i : Nat} {o : Option Nat} (hd : decode cc pc = .ok (.aload i, 2)) (hL : L[i]? = some (some (vR o))) (k : T own cc nL ret rk d mc ms gr Po (pc + 2) L (vR o :: st) SH V M kc ks) : T own cc nL ret rk d mc ms gr Po pc L st SH V M kc ks := by
  intro p l e R s m args below meth c dC dI ad ca A H locs ls C w t hS hA g hl h1 h2
  have hh := hl.2.2 _ _ hL
  cases o with
  | none => exact lv_aloadN C.1 C.2.1 hd hh (k p l e R s m args below meth c dC dI ad ca A H locs ls C w t hS hA g hl h1 h2)
  | some q => exact lv_aload C.1 C.2.1 hd hh (k p l e R s m args below meth c dC dI ad ca A H locs ls C w t hS hA g hl h1 h2)
def clr (L : List (Option AV)) (i : Nat) : List (Option AV) := match i with
  | 0 => L
  | j + 1 => match L[j]? with
    | some (some (.inr (.inl _))) => L.set j none
    | _ => L
def st1 (L : List (Option AV)) (i : Nat) (v : AV) : List (Option AV) := (clr L i).set i (some v)
def st2 (L : List (Option AV)) (i : Nat) (v : AV) : List (Option AV) := ((clr L i).set i (some v)).set (i + 1) none
def lz (ad : Nat → Nat) (L : List (Option AV)) : List (Nat × Value) := (L.mapIdx (fun i o => o.map (fun v => (i, cv ad v)))).filterMap id
theorem lz_mem {ad : Nat → Nat} {L : List (Option AV)} {i : Nat} {v : AV} (h : L[i]? = some (some v)) : (i, cv ad v) ∈ lz ad L := by
  unfold lz
  rw [List.mem_filterMap]
  refine ⟨some (i, cv ad v), ?_, rfl⟩
  apply List.mem_of_getElem? (i := i)
  rw [List.getElem?_mapIdx, h]
  rfl
theorem lz_of {ad : Nat → Nat} {L : List (Option AV)} {q : Nat × Value} (h : q ∈ lz ad L) : ∃ v, L[q.1]? = some (some v) ∧ q.2 = cv ad v := by
  unfold lz at h
  rw [List.mem_filterMap] at h
  obtain ⟨o, ho, e⟩ := h
  obtain ⟨i, hi⟩ := List.getElem?_of_mem ho
  rw [List.getElem?_mapIdx] at hi
  cases hL : L[i]? with
  | none => rw [hL] at hi; cases hi
  | some a =>
    rw [hL] at hi
    have hi := Option.some.inj hi
    cases a with
    | none => rw [← hi] at e; cases e
    | some v =>
      rw [← hi] at e
      have e := Option.some.inj e
      subst e
      exact ⟨v, hL, rfl⟩
theorem lh_lv {ad : Nat → Nat} {ls : Array Slot} (h : lh ad ls nL L) : lv_has ls nL (lz ad L) := by
  refine ⟨h.1, h.2.1, fun q hq => ?_⟩
  obtain ⟨v, h1, h2⟩ := lz_of hq
  rw [h2]
  exact h.2.2 _ _ h1
theorem clr_sub {i j : Nat} {v : AV} (h : (clr L i)[j]? = some (some v)) (hj : j ≠ i) : L[j]? = some (some v) ∧ ¬ (j + 1 = i ∧ ∃ x, v = vJ x) := by
  unfold clr at h
  cases i with
  | zero => exact ⟨h, fun q => by omega⟩
  | succ i =>
    simp only at h
    split at h
    · next x hx =>
      by_cases e : j = i
      · subst e
        rw [List.getElem?_set_self (List.getElem?_eq_some_iff.mp hx).1] at h
        cases h
      · rw [List.getElem?_set_ne (fun q => e q.symm)] at h
        exact ⟨h, fun q => by omega⟩
    · next hx =>
      refine ⟨h, fun q => ?_⟩
      obtain ⟨q1, x, rfl⟩ := q
      have e : j = i := by omega
      subst e
      exact hx x h
theorem lh_st1 {ad : Nat → Nat} {ls : Array Slot} {i : Nat} {v : AV} (h : lv_has ls nL ((i, cv ad v) :: (lz ad L).filter (fun q => !(q.1 == i) && !(q.1 + 1 == i && q.2.category == 2)))) : lh ad ls nL (st1 L i v) := by
  refine ⟨h.1, h.2.1, fun j u hj => ?_⟩
  unfold st1 at hj
  by_cases e : j = i
  · subst e
    have hlt : j < (clr L j).length := by
      have := (List.getElem?_eq_some_iff.mp hj).1
      rwa [List.length_set] at this
    rw [List.getElem?_set_self hlt] at hj
    have := Option.some.inj (Option.some.inj hj)
    subst this
    exact h.2.2 (j, _) List.mem_cons_self
  · rw [List.getElem?_set_ne (fun q => e q.symm)] at hj
    obtain ⟨a, b⟩ := clr_sub hj e
    refine h.2.2 (j, _) (List.mem_cons_of_mem _ (List.mem_filter.mpr ⟨lz_mem a, ?_⟩))
    have e1 : (j == i) = false := by simpa using e
    simp only [e1, Bool.not_false, Bool.true_and, Bool.not_eq_true', Bool.and_eq_false_iff, beq_eq_false_iff_ne, ne_eq]
    by_cases e2 : j + 1 = i
    · right
      show ¬ (cv ad u).category = 2
      rw [cat_cv]
      rcases u with x | x | o
      · simp
      · exact absurd ⟨e2, x, rfl⟩ b
      · simp
    · left
      exact e2
theorem lh_st2 {ad : Nat → Nat} {ls : Array Slot} {i : Nat} {v : AV} (h : lv_has ls nL ((i, cv ad v) :: (lz ad L).filter (fun q => !(q.1 == i) && (!(q.1 == i + 1) && !(q.1 + 1 == i && q.2.category == 2))))) : lh ad ls nL (st2 L i v) := by
  refine ⟨h.1, h.2.1, fun j u hj => ?_⟩
  unfold st2 at hj
  by_cases e0 : j = i + 1
  · subst e0
    have hlt := (List.getElem?_eq_some_iff.mp hj).1
    rw [List.length_set] at hlt
    rw [List.getElem?_set_self hlt] at hj
    cases hj
  · rw [List.getElem?_set_ne (fun q => e0 q.symm)] at hj
    by_cases e : j = i
    · subst e
      have hlt : j < (clr L j).length := by
        have := (List.getElem?_eq_some_iff.mp hj).1
        rwa [List.length_set] at this
      rw [List.getElem?_set_self hlt] at hj
      have := Option.some.inj (Option.some.inj hj)
      subst this
      exact h.2.2 (j, _) List.mem_cons_self
    · rw [List.getElem?_set_ne (fun q => e q.symm)] at hj
      obtain ⟨a, b⟩ := clr_sub hj e
      refine h.2.2 (j, _) (List.mem_cons_of_mem _ (List.mem_filter.mpr ⟨lz_mem a, ?_⟩))
      have e1 : (j == i) = false := by simpa using e
      have e3 : (j == i + 1) = false := by simpa using e0
      simp only [e1, e3, Bool.not_false, Bool.true_and, Bool.not_eq_true', Bool.and_eq_false_iff, beq_eq_false_iff_ne, ne_eq]
      by_cases e2 : j + 1 = i
      · right
        show ¬ (cv ad u).category = 2
        rw [cat_cv]
        rcases u with x | x | o
        · simp
        · exact absurd ⟨e2, x, rfl⟩ b
        · simp
      · left
        exact e2
/-- fewer locals are known -/
def mask : List Bool → List (Option AV) → List (Option AV)
  | true :: bs, a :: t => a :: mask bs t
  | false :: bs, _ :: t => none :: mask bs t
  | _, _ => []
theorem mask_sub : ∀ (bs : List Bool) (L : List (Option AV)) (i : Nat) (v : AV), (mask bs L)[i]? = some (some v) → L[i]? = some (some v)
  | [], _, _, _, h => by simp [mask] at h
  | true :: _, [], _, _, h => by simp [mask] at h
  | false :: _, [], _, _, h => by simp [mask] at h
  | true :: bs, a :: t, 0, v, h => by simpa [mask] using h
  | true :: bs, a :: t, i + 1, v, h => by
    simp only [mask, List.getElem?_cons_succ] at h ⊢
    exact mask_sub bs t i v h
  | false :: bs, a :: t, 0, v, h => by simp [mask] at h
  | false :: bs, a :: t, i + 1, v, h => by
    simp only [mask, List.getElem?_cons_succ] at h ⊢
    exact mask_sub bs t i v h
theorem T_mask (bs : List Bool) {L' : List (Option AV)} (hm : mask bs L = L') (k : T own cc nL ret rk d mc ms gr Po pc (L' ) st SH V M kc ks) : T own cc nL ret rk d mc ms gr Po pc L st SH V M kc ks := by
  intro p l e R s m args below meth c dC dI ad ca A H locs ls C w t hS hA g hl h1 h2
  exact k p l e R s m args below meth c dC dI ad ca A H locs ls C w t hS hA g ⟨hl.1, hl.2.1, fun i v h => hl.2.2 i v (mask_sub bs L i v (hm ▸ h))⟩ h1 h2
theorem T_istore_n {n : Fin 4} {i : Nat} {x : Int32} {L' : List (Option AV)} (hd : decode cc pc = .ok (.istore_n n, 1)) (hi : (n : Nat) = i) (hn : i < nL) (hL : st1 L i (vI x) = L') (k : T own cc nL ret rk d mc ms gr Po (pc + 1) (L' ) st SH V M kc ks) : T own cc nL ret rk d mc ms gr Po pc L (vI x :: st) SH V M kc ks := by
  intro p l e R s m args below meth c dC dI ad ca A H locs ls C w t hS hA g hl h1 h2
  exact lv_istore_n C.1 C.2.1 hd hi (lh_lv hl) hn rfl (fun ls' hl' => k p l e R s m args below meth c dC dI ad ca A H locs ls' C w t hS hA g (hL ▸ lh_st1 (v := vI x) hl') h1 h2)
theorem T_istore {i : Nat} {x : Int32} {L' : List (Option AV)} (hd : decode cc pc = .ok (.istore i, 2)) (hn : i < nL) (hL : st1 L i (vI x) = L') (k : T own cc nL ret rk d mc ms gr Po (pc + 2) (L' ) st SH V M kc ks) : T own cc nL ret rk d mc ms gr Po pc L (vI x :: st) SH V M kc ks := by
  intro p l e R s m args below meth c dC dI ad ca A H locs ls C w t hS hA g hl h1 h2
  exact lv_istore C.1 C.2.1 hd (lh_lv hl) hn rfl (fun ls' hl' => k p l e R s m args below meth c dC dI ad ca A H locs ls' C w t hS hA g (hL ▸ lh_st1 (v := vI x) hl') h1 h2)
theorem T_lstore_n {n : Fin 4} {i : Nat} {x : Int64} {L' : List (Option AV)} (hd : decode cc pc = .ok (.lstore_n n, 1)) (hi : (n : Nat) = i) (hn : i + 1 < nL) (hL : st2 L i (vJ x) = L') (k : T own cc nL ret rk d mc ms gr Po (pc + 1) (L' ) st SH V M kc ks) : T own cc nL ret rk d mc ms gr Po pc L (vJ x :: st) SH V M kc ks := by
  intro p l e R s m args below meth c dC dI ad ca A H locs ls C w t hS hA g hl h1 h2
  exact lv_lstore_n C.1 C.2.1 hd hi (lh_lv hl) hn rfl (fun ls' hl' => k p l e R s m args below meth c dC dI ad ca A H locs ls' C w t hS hA g (hL ▸ lh_st2 (v := vJ x) hl') h1 h2)
theorem T_lstore {i : Nat} {x : Int64} {L' : List (Option AV)} (hd : decode cc pc = .ok (.lstore i, 2)) (hn : i + 1 < nL) (hL : st2 L i (vJ x) = L') (k : T own cc nL ret rk d mc ms gr Po (pc + 2) (L' ) st SH V M kc ks) : T own cc nL ret rk d mc ms gr Po pc L (vJ x :: st) SH V M kc ks := by
  intro p l e R s m args below meth c dC dI ad ca A H locs ls C w t hS hA g hl h1 h2
  exact lv_lstore C.1 C.2.1 hd (lh_lv hl) hn rfl (fun ls' hl' => k p l e R s m args below meth c dC dI ad ca A H locs ls' C w t hS hA g (hL ▸ lh_st2 (v := vJ x) hl') h1 h2)
theorem T_astore_n {n : Fin 4} {i : Nat} {o : Option Nat} {L' : List (Option AV)} (hd : decode cc pc = .ok (.astore_n n, 1)) (hi : (n : Nat) = i) (hn : i < nL) (hL : st1 L i (vR o) = L') (k : T own cc nL ret rk d mc ms gr Po (pc + 1) (L' ) st SH V M kc ks) : T own cc nL ret rk d mc ms gr Po pc L (vR o :: st) SH V M kc ks := by
  intro p l e R s m args below meth c dC dI ad ca A H locs ls C w t hS hA g hl h1 h2
  cases o with
  | none => exact lv_astore_nN C.1 C.2.1 hd hi (lh_lv hl) hn rfl (fun ls' hl' => k p l e R s m args below meth c dC dI ad ca A H locs ls' C w t hS hA g (hL ▸ lh_st1 (v := vR none) hl') h1 h2)
  | some q => exact lv_astore_n C.1 C.2.1 hd hi (lh_lv hl) hn rfl (fun ls' hl' => k p l e R s m args below meth c dC dI ad ca A H locs ls' C w t hS hA g (hL ▸ lh_st1 (v := vR (some q)) hl') h1 h2)
theorem T_astore {i : Nat} {o : Option Nat} {L' : List (Option AV)} (hd : decode cc pc = .ok (.astore i, 2)) (hn : i < nL) (hL : st1 L i (vR o) = L') (k : T own cc nL ret rk d mc ms gr Po (pc + 2) (L' ) st SH V M kc ks) : T own cc nL ret rk d mc ms gr Po pc L (vR o :: st) SH V M kc ks := by
  intro p l e R s m args below meth c dC dI ad ca A H locs ls C w t hS hA g hl h1 h2
  cases o with
  | none => exact lv_astoreN C.1 C.2.1 hd (lh_lv hl) hn rfl (fun ls' hl' => k p l e R s m args below meth c dC dI ad ca A H locs ls' C w t hS hA g (hL ▸ lh_st1 (v := vR none) hl') h1 h2)
  | some q => exact lv_astore C.1 C.2.1 hd (lh_lv hl) hn rfl (fun ls' hl' => k p l e R s m args below meth c dC dI ad ca A H locs ls' C w t hS hA g (hL ▸ lh_st1 (v := vR (some q)) hl') h1 h2)
theorem T_iinc {i : Nat} {n : Int} {x v : Int32} {L' : List (Option AV)} (hd : decode cc pc = .ok (.iinc i n, 3)) (hx : L[i]? = some (some (vI x))) (hv : x + Int32.ofInt n = v) (hn : i < nL) (hL : st1 L i (vI v) = L') (k : T own cc nL ret rk d mc ms gr Po (pc + 3) (L' ) st SH V M kc ks) : T own cc nL ret rk d mc ms gr Po pc L st SH V M kc ks := by
  intro p l e R s m args below meth c dC dI ad ca A H locs ls C w t hS hA g hl h1 h2
  obtain ⟨j, hj⟩ := List.getElem?_of_mem (lz_mem (ad := ad) hx)
  exact lv_iinc C.1 C.2.1 hd (lh_lv hl) hj hv hn rfl (fun ls' hl' => k p l e R s m args below meth c dC dI ad ca A H locs ls' C w t hS hA g (hL ▸ lh_st1 (v := vI v) hl') h1 h2)
theorem T_iadd {x y : Int32} (hd : decode cc pc = .ok (.iadd, 1)) (k : T own cc nL ret rk d mc ms gr Po (pc + 1) L (vI (x + y) :: st) SH V M kc ks) : T own cc nL ret rk d mc ms gr Po pc L (vI y :: vI x :: st) SH V M kc ks := by
  intro p l e R s m args below meth c dC dI ad ca A H locs ls C w t hS hA g hl h1 h2
  exact lv_iadd C.1 C.2.1 hd (k p l e R s m args below meth c dC dI ad ca A H locs ls C w t hS hA g hl h1 h2)
theorem T_isub {x y : Int32} (hd : decode cc pc = .ok (.isub, 1)) (k : T own cc nL ret rk d mc ms gr Po (pc + 1) L (vI (x - y) :: st) SH V M kc ks) : T own cc nL ret rk d mc ms gr Po pc L (vI y :: vI x :: st) SH V M kc ks := by
  intro p l e R s m args below meth c dC dI ad ca A H locs ls C w t hS hA g hl h1 h2
  exact lv_isub C.1 C.2.1 hd (k p l e R s m args below meth c dC dI ad ca A H locs ls C w t hS hA g hl h1 h2)
theorem T_imul {x y : Int32} (hd : decode cc pc = .ok (.imul, 1)) (k : T own cc nL ret rk d mc ms gr Po (pc + 1) L (vI (x * y) :: st) SH V M kc ks) : T own cc nL ret rk d mc ms gr Po pc L (vI y :: vI x :: st) SH V M kc ks := by
  intro p l e R s m args below meth c dC dI ad ca A H locs ls C w t hS hA g hl h1 h2
  exact lv_imul C.1 C.2.1 hd (k p l e R s m args below meth c dC dI ad ca A H locs ls C w t hS hA g hl h1 h2)
theorem T_iand {x y : Int32} (hd : decode cc pc = .ok (.iand, 1)) (k : T own cc nL ret rk d mc ms gr Po (pc + 1) L (vI (x &&& y) :: st) SH V M kc ks) : T own cc nL ret rk d mc ms gr Po pc L (vI y :: vI x :: st) SH V M kc ks := by
  intro p l e R s m args below meth c dC dI ad ca A H locs ls C w t hS hA g hl h1 h2
  exact lv_iand C.1 C.2.1 hd (k p l e R s m args below meth c dC dI ad ca A H locs ls C w t hS hA g hl h1 h2)
theorem T_ior {x y : Int32} (hd : decode cc pc = .ok (.ior, 1)) (k : T own cc nL ret rk d mc ms gr Po (pc + 1) L (vI (x ||| y) :: st) SH V M kc ks) : T own cc nL ret rk d mc ms gr Po pc L (vI y :: vI x :: st) SH V M kc ks := by
  intro p l e R s m args below meth c dC dI ad ca A H locs ls C w t hS hA g hl h1 h2
  exact lv_ior C.1 C.2.1 hd (k p l e R s m args below meth c dC dI ad ca A H locs ls C w t hS hA g hl h1 h2)
theorem T_ixor {x y : Int32} (hd : decode cc pc = .ok (.ixor, 1)) (k : T own cc nL ret rk d mc ms gr Po (pc + 1) L (vI (x ^^^ y) :: st) SH V M kc ks) : T own cc nL ret rk d mc ms gr Po pc L (vI y :: vI x :: st) SH V M kc ks := by
  intro p l e R s m args below meth c dC dI ad ca A H locs ls C w t hS hA g hl h1 h2
  exact lv_ixor C.1 C.2.1 hd (k p l e R s m args below meth c dC dI ad ca A H locs ls C w t hS hA g hl h1 h2)
theorem T_ladd {x y : Int64} (hd : decode cc pc = .ok (.ladd, 1)) (k : T own cc nL ret rk d mc ms gr Po (pc + 1) L (vJ (x + y) :: st) SH V M kc ks) : T own cc nL ret rk d mc ms gr Po pc L (vJ y :: vJ x :: st) SH V M kc ks := by
  intro p l e R s m args below meth c dC dI ad ca A H locs ls C w t hS hA g hl h1 h2
  exact lv_ladd C.1 C.2.1 hd (k p l e R s m args below meth c dC dI ad ca A H locs ls C w t hS hA g hl h1 h2)
theorem T_lsub {x y : Int64} (hd : decode cc pc = .ok (.lsub, 1)) (k : T own cc nL ret rk d mc ms gr Po (pc + 1) L (vJ (x - y) :: st) SH V M kc ks) : T own cc nL ret rk d mc ms gr Po pc L (vJ y :: vJ x :: st) SH V M kc ks := by
  intro p l e R s m args below meth c dC dI ad ca A H locs ls C w t hS hA g hl h1 h2
  exact lv_lsub C.1 C.2.1 hd (k p l e R s m args below meth c dC dI ad ca A H locs ls C w t hS hA g hl h1 h2)
theorem T_lmul {x y : Int64} (hd : decode cc pc = .ok (.lmul, 1)) (k : T own cc nL ret rk d mc ms gr Po (pc + 1) L (vJ (x * y) :: st) SH V M kc ks) : T own cc nL ret rk d mc ms gr Po pc L (vJ y :: vJ x :: st) SH V M kc ks := by
  intro p l e R s m args below meth c dC dI ad ca A H locs ls C w t hS hA g hl h1 h2
  exact lv_lmul C.1 C.2.1 hd (k p l e R s m args below meth c dC dI ad ca A H locs ls C w t hS hA g hl h1 h2)
def irm (x y : Int32) : Int32 := x - x / y * y
def lrm (x y : Int64) : Int64 := x - x / y * y
def ish (x y : Int32) : Int32 := x <<< (y &&& 31)
def isr (x y : Int32) : Int32 := x >>> (y &&& 31)
def ius (x y : Int32) : Int32 := (x.toUInt32 >>> (y.toUInt32 &&& Int32.toUInt32 31)).toInt32
theorem T_idiv {x y : Int32} (hd : decode cc pc = .ok (.idiv, 1)) (hy : ¬ y = 0) (k : T own cc nL ret rk d mc ms gr Po (pc + 1) L (vI (x / y) :: st) SH V M kc ks) : T own cc nL ret rk d mc ms gr Po pc L (vI y :: vI x :: st) SH V M kc ks := by
  intro p l e R s m args below meth c dC dI ad ca A H locs ls C w t hS hA g hl h1 h2
  exact lv_idiv C.1 C.2.1 hd hy (k p l e R s m args below meth c dC dI ad ca A H locs ls C w t hS hA g hl h1 h2)
theorem T_irem {x y : Int32} (hd : decode cc pc = .ok (.irem, 1)) (hy : ¬ y = 0) (k : T own cc nL ret rk d mc ms gr Po (pc + 1) L (vI (irm x y) :: st) SH V M kc ks) : T own cc nL ret rk d mc ms gr Po pc L (vI y :: vI x :: st) SH V M kc ks := by
  intro p l e R s m args below meth c dC dI ad ca A H locs ls C w t hS hA g hl h1 h2
  exact lv_irem C.1 C.2.1 hd hy (k p l e R s m args below meth c dC dI ad ca A H locs ls C w t hS hA g hl h1 h2)
theorem T_ldiv {x y : Int64} (hd : decode cc pc = .ok (.ldiv, 1)) (hy : ¬ y = 0) (k : T own cc nL ret rk d mc ms gr Po (pc + 1) L (vJ (x / y) :: st) SH V M kc ks) : T own cc nL ret rk d mc ms gr Po pc L (vJ y :: vJ x :: st) SH V M kc ks := by
  intro p l e R s m args below meth c dC dI ad ca A H locs ls C w t hS hA g hl h1 h2
  exact lv_ldiv C.1 C.2.1 hd hy (k p l e R s m args below meth c dC dI ad ca A H locs ls C w t hS hA g hl h1 h2)
theorem T_lrem {x y : Int64} (hd : decode cc pc = .ok (.lrem, 1)) (hy : ¬ y = 0) (k : T own cc nL ret rk d mc ms gr Po (pc + 1) L (vJ (lrm x y) :: st) SH V M kc ks) : T own cc nL ret rk d mc ms gr Po pc L (vJ y :: vJ x :: st) SH V M kc ks := by
  intro p l e R s m args below meth c dC dI ad ca A H locs ls C w t hS hA g hl h1 h2
  exact lv_lrem C.1 C.2.1 hd hy (k p l e R s m args below meth c dC dI ad ca A H locs ls C w t hS hA g hl h1 h2)
theorem T_ineg {x : Int32} (hd : decode cc pc = .ok (.ineg, 1)) (k : T own cc nL ret rk d mc ms gr Po (pc + 1) L (vI (-x) :: st) SH V M kc ks) : T own cc nL ret rk d mc ms gr Po pc L (vI x :: st) SH V M kc ks := by
  intro p l e R s m args below meth c dC dI ad ca A H locs ls C w t hS hA g hl h1 h2
  exact lv_ineg C.1 C.2.1 hd (k p l e R s m args below meth c dC dI ad ca A H locs ls C w t hS hA g hl h1 h2)
theorem T_ishl {x y : Int32} (hd : decode cc pc = .ok (.ishl, 1)) (k : T own cc nL ret rk d mc ms gr Po (pc + 1) L (vI (ish x y) :: st) SH V M kc ks) : T own cc nL ret rk d mc ms gr Po pc L (vI y :: vI x :: st) SH V M kc ks := by
  intro p l e R s m args below meth c dC dI ad ca A H locs ls C w t hS hA g hl h1 h2
  exact lv_ishl C.1 C.2.1 hd (k p l e R s m args below meth c dC dI ad ca A H locs ls C w t hS hA g hl h1 h2)
theorem T_ishr {x y : Int32} (hd : decode cc pc = .ok (.ishr, 1)) (k : T own cc nL ret rk d mc ms gr Po (pc + 1) L (vI (isr x y) :: st) SH V M kc ks) : T own cc nL ret rk d mc ms gr Po pc L (vI y :: vI x :: st) SH V M kc ks := by
  intro p l e R s m args below meth c dC dI ad ca A H locs ls C w t hS hA g hl h1 h2
  exact lv_ishr C.1 C.2.1 hd (k p l e R s m args below meth c dC dI ad ca A H locs ls C w t hS hA g hl h1 h2)
theorem T_iushr {x y : Int32} (hd : decode cc pc = .ok (.iushr, 1)) (k : T own cc nL ret rk d mc ms gr Po (pc + 1) L (vI (ius x y) :: st) SH V M kc ks) : T own cc nL ret rk d mc ms gr Po pc L (vI y :: vI x :: st) SH V M kc ks := by
  intro p l e R s m args below meth c dC dI ad ca A H locs ls C w t hS hA g hl h1 h2
  exact lv_iushr C.1 C.2.1 hd rfl (k p l e R s m args below meth c dC dI ad ca A H locs ls C w t hS hA g hl h1 h2)
theorem T_i2l {x : Int32} (hd : decode cc pc = .ok (.i2l, 1)) (k : T own cc nL ret rk d mc ms gr Po (pc + 1) L (vJ x.toInt64 :: st) SH V M kc ks) : T own cc nL ret rk d mc ms gr Po pc L (vI x :: st) SH V M kc ks := by
  intro p l e R s m args below meth c dC dI ad ca A H locs ls C w t hS hA g hl h1 h2
  exact lv_i2l C.1 C.2.1 hd rfl (k p l e R s m args below meth c dC dI ad ca A H locs ls C w t hS hA g hl h1 h2)
theorem T_l2i {x : Int64} (hd : decode cc pc = .ok (.l2i, 1)) (k : T own cc nL ret rk d mc ms gr Po (pc + 1) L (vI x.toInt32 :: st) SH V M kc ks) : T own cc nL ret rk d mc ms gr Po pc L (vJ x :: st) SH V M kc ks := by
  intro p l e R s m args below meth c dC dI ad ca A H locs ls C w t hS hA g hl h1 h2
  exact lv_l2i C.1 C.2.1 hd rfl (k p l e R s m args below meth c dC dI ad ca A H locs ls C w t hS hA g hl h1 h2)
theorem T_i2b {x : Int32} (hd : decode cc pc = .ok (.i2b, 1)) (k : T own cc nL ret rk d mc ms gr Po (pc + 1) L (vI x.toInt8.toInt32 :: st) SH V M kc ks) : T own cc nL ret rk d mc ms gr Po pc L (vI x :: st) SH V M kc ks := by
  intro p l e R s m args below meth c dC dI ad ca A H locs ls C w t hS hA g hl h1 h2
  exact lv_i2b C.1 C.2.1 hd rfl (k p l e R s m args below meth c dC dI ad ca A H locs ls C w t hS hA g hl h1 h2)
theorem T_lneg {x : Int64} (hd : decode cc pc = .ok (.lneg, 1)) (k : T own cc nL ret rk d mc ms gr Po (pc + 1) L (vJ (-x) :: st) SH V M kc ks) : T own cc nL ret rk d mc ms gr Po pc L (vJ x :: st) SH V M kc ks := by
  intro p l e R s m args below meth c dC dI ad ca A H locs ls C w t hS hA g hl h1 h2
  exact lv_lneg C.1 C.2.1 hd (k p l e R s m args below meth c dC dI ad ca A H locs ls C w t hS hA g hl h1 h2)
theorem T_lcmp {x y : Int64} (hd : decode cc pc = .ok (.lcmp, 1)) (k : T own cc nL ret rk d mc ms gr Po (pc + 1) L (vI (lg_cmp x y) :: st) SH V M kc ks) : T own cc nL ret rk d mc ms gr Po pc L (vJ y :: vJ x :: st) SH V M kc ks := by
  intro p l e R s m args below meth c dC dI ad ca A H locs ls C w t hS hA g hl h1 h2
  exact W.lcmp C.1 C.2.1 hd (k p l e R s m args below meth c dC dI ad ca A H locs ls C w t hS hA g hl h1 h2)
theorem T_dup {a : AV} (hd : decode cc pc = .ok (.dup, 1)) (ha : (match a with | .inr (.inl _) => 2 | _ => 1) = 1) (k : T own cc nL ret rk d mc ms gr Po (pc + 1) L (a :: a :: st) SH V M kc ks) : T own cc nL ret rk d mc ms gr Po pc L (a :: st) SH V M kc ks := by
  intro p l e R s m args below meth c dC dI ad ca A H locs ls C w t hS hA g hl h1 h2
  exact lv_dup C.1 C.2.1 hd ((cat_cv ad a).trans ha) (k p l e R s m args below meth c dC dI ad ca A H locs ls C w t hS hA g hl h1 h2)
theorem T_pop {a : AV} (hd : decode cc pc = .ok (.pop, 1)) (ha : (match a with | .inr (.inl _) => 2 | _ => 1) = 1) (k : T own cc nL ret rk d mc ms gr Po (pc + 1) L st SH V M kc ks) : T own cc nL ret rk d mc ms gr Po pc L (a :: st) SH V M kc ks := by
  intro p l e R s m args below meth c dC dI ad ca A H locs ls C w t hS hA g hl h1 h2
  exact lv_pop C.1 C.2.1 hd ((cat_cv ad a).trans ha) (k p l e R s m args below meth c dC dI ad ca A H locs ls C w t hS hA g hl h1 h2)
theorem T_dup2_11 {a b : AV} (hd : decode cc pc = .ok (.dup2, 1)) (ha : (match a with | .inr (.inl _) => 2 | _ => 1) = 1) (hb : (match b with | .inr (.inl _) => 2 | _ => 1) = 1) (k : T own cc nL ret rk d mc ms gr Po (pc + 1) L (a :: b :: a :: b :: st) SH V M kc ks) : T own cc nL ret rk d mc ms gr Po pc L (a :: b :: st) SH V M kc ks := by
  intro p l e R s m args below meth c dC dI ad ca A H locs ls C w t hS hA g hl h1 h2
  exact lv_dup2_11 C.1 C.2.1 hd ((cat_cv ad a).trans ha) ((cat_cv ad b).trans hb) (k p l e R s m args below meth c dC dI ad ca A H locs ls C w t hS hA g hl h1 h2)
theorem T_dup2_2 {x : Int64} (hd : decode cc pc = .ok (.dup2, 1)) (k : T own cc nL ret rk d mc ms gr Po (pc + 1) L (vJ x :: vJ x :: st) SH V M kc ks) : T own cc nL ret rk d mc ms gr Po pc L (vJ x :: st) SH V M kc ks := by
  intro p l e R s m args below meth c dC dI ad ca A H locs ls C w t hS hA g hl h1 h2
  exact lv_dup2_2 C.1 C.2.1 hd rfl (k p l e R s m args below meth c dC dI ad ca A H locs ls C w t hS hA g hl h1 h2)
-- branch eq
-- branch ne
-- branch lt
-- branch ge
-- branch gt
-- branch le
theorem T_if_eq {x : Int32} {off : Int} {tgt : Nat} (hd : decode cc pc = .ok (.ifCond .eq off, 3)) (ht : (pc : Int) + off = (tgt : Int)) (kt : x = 0 → T own cc nL ret rk d mc ms gr Po tgt L st SH V M kc ks) (kf : ¬ x = 0 → T own cc nL ret rk d mc ms gr Po (pc + 3) L st SH V M kc ks) : T own cc nL ret rk d mc ms gr Po pc L (vI x :: st) SH V M kc ks := by
  intro p l e R s m args below meth c dC dI ad ca A H locs ls C w t hS hA g hl h1 h2
  exact lv_if_eq C.1 C.2.1 hd ht (fun h => kt h p l e R s m args below meth c dC dI ad ca A H locs ls C w t hS hA g hl h1 h2) (fun h => kf h p l e R s m args below meth c dC dI ad ca A H locs ls C w t hS hA g hl h1 h2)
theorem T_icmp_eq {x y : Int32} {off : Int} {tgt : Nat} (hd : decode cc pc = .ok (.if_icmp .eq off, 3)) (ht : (pc : Int) + off = (tgt : Int)) (kt : x = y → T own cc nL ret rk d mc ms gr Po tgt L st SH V M kc ks) (kf : ¬ x = y → T own cc nL ret rk d mc ms gr Po (pc + 3) L st SH V M kc ks) : T own cc nL ret rk d mc ms gr Po pc L (vI y :: vI x :: st) SH V M kc ks := by
  intro p l e R s m args below meth c dC dI ad ca A H locs ls C w t hS hA g hl h1 h2
  exact lv_icmp_eq C.1 C.2.1 hd ht (fun h => kt h p l e R s m args below meth c dC dI ad ca A H locs ls C w t hS hA g hl h1 h2) (fun h => kf h p l e R s m args below meth c dC dI ad ca A H locs ls C w t hS hA g hl h1 h2)
theorem T_if_ne {x : Int32} {off : Int} {tgt : Nat} (hd : decode cc pc = .ok (.ifCond .ne off, 3)) (ht : (pc : Int) + off = (tgt : Int)) (kt : ¬ x = 0 → T own cc nL ret rk d mc ms gr Po tgt L st SH V M kc ks) (kf : x = 0 → T own cc nL ret rk d mc ms gr Po (pc + 3) L st SH V M kc ks) : T own cc nL ret rk d mc ms gr Po pc L (vI x :: st) SH V M kc ks := by
  intro p l e R s m args below meth c dC dI ad ca A H locs ls C w t hS hA g hl h1 h2
  exact lv_if_ne C.1 C.2.1 hd ht (fun h => kt h p l e R s m args below meth c dC dI ad ca A H locs ls C w t hS hA g hl h1 h2) (fun h => kf h p l e R s m args below meth c dC dI ad ca A H locs ls C w t hS hA g hl h1 h2)
theorem T_icmp_ne {x y : Int32} {off : Int} {tgt : Nat} (hd : decode cc pc = .ok (.if_icmp .ne off, 3)) (ht : (pc : Int) + off = (tgt : Int)) (kt : ¬ x = y → T own cc nL ret rk d mc ms gr Po tgt L st SH V M kc ks) (kf : x = y → T own cc nL ret rk d mc ms gr Po (pc + 3) L st SH V M kc ks) : T own cc nL ret rk d mc ms gr Po pc L (vI y :: vI x :: st) SH V M kc ks := by
  intro p l e R s m args below meth c dC dI ad ca A H locs ls C w t hS hA g hl h1 h2
  exact lv_icmp_ne C.1 C.2.1 hd ht (fun h => kt h p l e R s m args below meth c dC dI ad ca A H locs ls C w t hS hA g hl h1 h2) (fun h => kf h p l e R s m args below meth c dC dI ad ca A H locs ls C w t hS hA g hl h1 h2)
theorem T_if_lt {x : Int32} {off : Int} {tgt : Nat} (hd : decode cc pc = .ok (.ifCond .lt off, 3)) (ht : (pc : Int) + off = (tgt : Int)) (kt : x < 0 → T own cc nL ret rk d mc ms gr Po tgt L st SH V M kc ks) (kf : ¬ x < 0 → T own cc nL ret rk d mc ms gr Po (pc + 3) L st SH V M kc ks) : T own cc nL ret rk d mc ms gr Po pc L (vI x :: st) SH V M kc ks := by
  intro p l e R s m args below meth c dC dI ad ca A H locs ls C w t hS hA g hl h1 h2
  exact lv_if_lt C.1 C.2.1 hd ht (fun h => kt h p l e R s m args below meth c dC dI ad ca A H locs ls C w t hS hA g hl h1 h2) (fun h => kf h p l e R s m args below meth c dC dI ad ca A H locs ls C w t hS hA g hl h1 h2)
theorem T_icmp_lt {x y : Int32} {off : Int} {tgt : Nat} (hd : decode cc pc = .ok (.if_icmp .lt off, 3)) (ht : (pc : Int) + off = (tgt : Int)) (kt : x < y → T own cc nL ret rk d mc ms gr Po tgt L st SH V M kc ks) (kf : ¬ x < y → T own cc nL ret rk d mc ms gr Po (pc + 3) L st SH V M kc ks) : T own cc nL ret rk d mc ms gr Po pc L (vI y :: vI x :: st) SH V M kc ks := by
  intro p l e R s m args below meth c dC dI ad ca A H locs ls C w t hS hA g hl h1 h2
  exact lv_icmp_lt C.1 C.2.1 hd ht (fun h => kt h p l e R s m args below meth c dC dI ad ca A H locs ls C w t hS hA g hl h1 h2) (fun h => kf h p l e R s m args below meth c dC dI ad ca A H locs ls C w t hS hA g hl h1 h2)
theorem T_if_ge {x : Int32} {off : Int} {tgt : Nat} (hd : decode cc pc = .ok (.ifCond .ge off, 3)) (ht : (pc : Int) + off = (tgt : Int)) (kt : 0 ≤ x → T own cc nL ret rk d mc ms gr Po tgt L st SH V M kc ks) (kf : ¬ 0 ≤ x → T own cc nL ret rk d mc ms gr Po (pc + 3) L st SH V M kc ks) : T own cc nL ret rk d mc ms gr Po pc L (vI x :: st) SH V M kc ks := by
  intro p l e R s m args below meth c dC dI ad ca A H locs ls C w t hS hA g hl h1 h2
  exact lv_if_ge C.1 C.2.1 hd ht (fun h => kt h p l e R s m args below meth c dC dI ad ca A H locs ls C w t hS hA g hl h1 h2) (fun h => kf h p l e R s m args below meth c dC dI ad ca A H locs ls C w t hS hA g hl h1 h2)
theorem T_icmp_ge {x y : Int32} {off : Int} {tgt : Nat} (hd : decode cc pc = .ok (.if_icmp .ge off, 3)) (ht : (pc : Int) + off = (tgt : Int)) (kt : y ≤ x → T own cc nL ret rk d mc ms gr Po tgt L st SH V M kc ks) (kf : ¬ y ≤ x → T own cc nL ret rk d mc ms gr Po (pc + 3) L st SH V M kc ks) : T own cc nL ret rk d mc ms gr Po pc L (vI y :: vI x :: st) SH V M kc ks := by
  intro p l e R s m args below meth c dC dI ad ca A H locs ls C w t hS hA g hl h1 h2
  exact lv_icmp_ge C.1 C.2.1 hd ht (fun h => kt h p l e R s m args below meth c dC dI ad ca A H locs ls C w t hS hA g hl h1 h2) (fun h => kf h p l e R s m args below meth c dC dI ad ca A H locs ls C w t hS hA g hl h1 h2)
theorem T_if_gt {x : Int32} {off : Int} {tgt : Nat} (hd : decode cc pc = .ok (.ifCond .gt off, 3)) (ht : (pc : Int) + off = (tgt : Int)) (kt : 0 < x → T own cc nL ret rk d mc ms gr Po tgt L st SH V M kc ks) (kf : ¬ 0 < x → T own cc nL ret rk d mc ms gr Po (pc + 3) L st SH V M kc ks) : T own cc nL ret rk d mc ms gr Po pc L (vI x :: st) SH V M kc ks := by
  intro p l e R s m args below meth c dC dI ad ca A H locs ls C w t hS hA g hl h1 h2
  exact lv_if_gt C.1 C.2.1 hd ht (fun h => kt h p l e R s m args below meth c dC dI ad ca A H locs ls C w t hS hA g hl h1 h2) (fun h => kf h p l e R s m args below meth c dC dI ad ca A H locs ls C w t hS hA g hl h1 h2)
theorem T_icmp_gt {x y : Int32} {off : Int} {tgt : Nat} (hd : decode cc pc = .ok (.if_icmp .gt off, 3)) (ht : (pc : Int) + off = (tgt : Int)) (kt : y < x → T own cc nL ret rk d mc ms gr Po tgt L st SH V M kc ks) (kf : ¬ y < x → T own cc nL ret rk d mc ms gr Po (pc + 3) L st SH V M kc ks) : T own cc nL ret rk d mc ms gr Po pc L (vI y :: vI x :: st) SH V M kc ks := by
  intro p l e R s m args below meth c dC dI ad ca A H locs ls C w t hS hA g hl h1 h2
  exact lv_icmp_gt C.1 C.2.1 hd ht (fun h => kt h p l e R s m args below meth c dC dI ad ca A H locs ls C w t hS hA g hl h1 h2) (fun h => kf h p l e R s m args below meth c dC dI ad ca A H locs ls C w t hS hA g hl h1 h2)
theorem T_if_le {x : Int32} {off : Int} {tgt : Nat} (hd : decode cc pc = .ok (.ifCond .le off, 3)) (ht : (pc : Int) + off = (tgt : Int)) (kt : x ≤ 0 → T own cc nL ret rk d mc ms gr Po tgt L st SH V M kc ks) (kf : ¬ x ≤ 0 → T own cc nL ret rk d mc ms gr Po (pc + 3) L st SH V M kc ks) : T own cc nL ret rk d mc ms gr Po pc L (vI x :: st) SH V M kc ks := by
  intro p l e R s m args below meth c dC dI ad ca A H locs ls C w t hS hA g hl h1 h2
  exact lv_if_le C.1 C.2.1 hd ht (fun h => kt h p l e R s m args below meth c dC dI ad ca A H locs ls C w t hS hA g hl h1 h2) (fun h => kf h p l e R s m args below meth c dC dI ad ca A H locs ls C w t hS hA g hl h1 h2)
theorem T_icmp_le {x y : Int32} {off : Int} {tgt : Nat} (hd : decode cc pc = .ok (.if_icmp .le off, 3)) (ht : (pc : Int) + off = (tgt : Int)) (kt : x ≤ y → T own cc nL ret rk d mc ms gr Po tgt L st SH V M kc ks) (kf : ¬ x ≤ y → T own cc nL ret rk d mc ms gr Po (pc + 3) L st SH V M kc ks) : T own cc nL ret rk d mc ms gr Po pc L (vI y :: vI x :: st) SH V M kc ks := by
  intro p l e R s m args below meth c dC dI ad ca A H locs ls C w t hS hA g hl h1 h2
  exact lv_icmp_le C.1 C.2.1 hd ht (fun h => kt h p l e R s m args below meth c dC dI ad ca A H locs ls C w t hS hA g hl h1 h2) (fun h => kf h p l e R s m args below meth c dC dI ad ca A H locs ls C w t hS hA g hl h1 h2)
theorem T_goto {off : Int} {tgt : Nat} (hd : decode cc pc = .ok (.goto off, 3)) (ht : (pc : Int) + off = (tgt : Int)) (k : T own cc nL ret rk d mc ms gr Po tgt L st SH V M kc ks) : T own cc nL ret rk d mc ms gr Po pc L st SH V M kc ks := by
  intro p l e R s m args below meth c dC dI ad ca A H locs ls C w t hS hA g hl h1 h2
  exact lv_goto C.1 C.2.1 hd ht (k p l e R s m args below meth c dC dI ad ca A H locs ls C w t hS hA g hl h1 h2)
theorem T_ifnull0 {off : Int} {tgt : Nat} (hd : decode cc pc = .ok (.ifnull off, 3)) (ht : (pc : Int) + off = (tgt : Int)) (k : T own cc nL ret rk d mc ms gr Po tgt L st SH V M kc ks) : T own cc nL ret rk d mc ms gr Po pc L (vR none :: st) SH V M kc ks := by
  intro p l e R s m args below meth c dC dI ad ca A H locs ls C w t hS hA g hl h1 h2
  exact lv_ifnullN C.1 C.2.1 hd ht (k p l e R s m args below meth c dC dI ad ca A H locs ls C w t hS hA g hl h1 h2)
theorem T_ifnull1 {off : Int} {q : Nat} (hd : decode cc pc = .ok (.ifnull off, 3)) (k : T own cc nL ret rk d mc ms gr Po (pc + 3) L st SH V M kc ks) : T own cc nL ret rk d mc ms gr Po pc L (vR (some q) :: st) SH V M kc ks := by
  intro p l e R s m args below meth c dC dI ad ca A H locs ls C w t hS hA g hl h1 h2
  exact lv_ifnull C.1 C.2.1 hd (k p l e R s m args below meth c dC dI ad ca A H locs ls C w t hS hA g hl h1 h2)
theorem T_ifnonnull0 {off : Int} (hd : decode cc pc = .ok (.ifnonnull off, 3)) (k : T own cc nL ret rk d mc ms gr Po (pc + 3) L st SH V M kc ks) : T own cc nL ret rk d mc ms gr Po pc L (vR none :: st) SH V M kc ks := by
  intro p l e R s m args below meth c dC dI ad ca A H locs ls C w t hS hA g hl h1 h2
  exact lv_ifnonnullN C.1 C.2.1 hd (k p l e R s m args below meth c dC dI ad ca A H locs ls C w t hS hA g hl h1 h2)
theorem T_ifnonnull1 {off : Int} {tgt q : Nat} (hd : decode cc pc = .ok (.ifnonnull off, 3)) (ht : (pc : Int) + off = (tgt : Int)) (k : T own cc nL ret rk d mc ms gr Po tgt L st SH V M kc ks) : T own cc nL ret rk d mc ms gr Po pc L (vR (some q) :: st) SH V M kc ks := by
  intro p l e R s m args below meth c dC dI ad ca A H locs ls C w t hS hA g hl h1 h2
  exact lv_ifnonnull C.1 C.2.1 hd ht (k p l e R s m args below meth c dC dI ad ca A H locs ls C w t hS hA g hl h1 h2)
theorem T_tabIn {dflt lo hi : Int} {offs : Array Int} {len : Nat} {x : Int32} {off : Int} {tgt : Nat} (hd : decode cc pc = .ok (.tableswitch dflt lo hi offs, len)) (a1 : ¬ x.toInt < lo) (a2 : ¬ hi < x.toInt) (ho : offs[(x.toInt - lo).toNat]? = some off) (ht : (pc : Int) + off = (tgt : Int)) (k : T own cc nL ret rk d mc ms gr Po tgt L st SH V M kc ks) : T own cc nL ret rk d mc ms gr Po pc L (vI x :: st) SH V M kc ks := by
  intro p l e R s m args below meth c dC dI ad ca A H locs ls C w t hS hA g hl h1 h2
  exact lv_tableIn C.1 C.2.1 hd a1 a2 ho ht (k p l e R s m args below meth c dC dI ad ca A H locs ls C w t hS hA g hl h1 h2)
theorem T_tabOut {dflt lo hi : Int} {offs : Array Int} {len : Nat} {x : Int32} {tgt : Nat} (hd : decode cc pc = .ok (.tableswitch dflt lo hi offs, len)) (a1 : x.toInt < lo ∨ hi < x.toInt) (ht : (pc : Int) + dflt = (tgt : Int)) (k : T own cc nL ret rk d mc ms gr Po tgt L st SH V M kc ks) : T own cc nL ret rk d mc ms gr Po pc L (vI x :: st) SH V M kc ks := by
  intro p l e R s m args below meth c dC dI ad ca A H locs ls C w t hS hA g hl h1 h2
  exact lv_tableOut C.1 C.2.1 hd a1 ht (k p l e R s m args below meth c dC dI ad ca A H locs ls C w t hS hA g hl h1 h2)
theorem T_lookup {dflt : Int} {ps : Array (Int × Int)} {len : Nat} {x : Int32} {off : Int} {tgt : Nat} (hd : decode cc pc = .ok (.lookupswitch dflt ps, len)) (hp : (ps.toList.zip (ps.toList.drop 1)).all (fun (a, next) => a.1 < next.1) = true) (ho : Op.lookupswitch.offset ps.toList dflt x.toInt = off) (ht : (pc : Int) + off = (tgt : Int)) (k : T own cc nL ret rk d mc ms gr Po tgt L st SH V M kc ks) : T own cc nL ret rk d mc ms gr Po pc L (vI x :: st) SH V M kc ks := by
  intro p l e R s m args below meth c dC dI ad ca A H locs ls C w t hS hA g hl h1 h2
  exact lv_lookup C.1 C.2.1 hd hp ho ht (k p l e R s m args below meth c dC dI ad ca A H locs ls C w t hS hA g hl h1 h2)
theorem sw_out {x : Int32} {lo hi : Int} (h : ∀ k : Int, lo ≤ k → k ≤ hi → x ≠ Int32.ofInt k) : x.toInt < lo ∨ hi < x.toInt := by
  rcases Int.lt_or_le x.toInt lo with a | a
  · exact Or.inl a
  · rcases Int.lt_or_le hi x.toInt with b | b
    · exact Or.inr b
    · exact absurd (Int32.ofInt_toInt x).symm (h _ a b)
theorem T_iret {v : Int32} (hd : decode cc pc = .ok (.ireturn, 1)) (hP : Po (vI v) SH V M) : T own cc nL (some .int) 0 d mc ms gr Po pc L ([vI v]) SH V M kc ks := by
  intro p l e R s m args below meth c dC dI ad ca A H locs ls C w t hS hA g hl h1 h2
  refine W.widen h1 h2 ?_
  have hlk := C.2.2.2.2.2.2.1
  exact W.iret C.1 C.2.1 C.2.2.1 (fun t' ht hW => ⟨⟨v, (SH, V, M), rfl, hP, ⟨va_K.moved hW.alike w.1, by rw [ht]; exact w.2.1, w.2.2⟩⟩, hS.F ht⟩) hS.2.2 hd
theorem nb01 {v : Int32} (h : v = 0 ∨ v = 1) : narrow .boolean (.int v) = .int v := by
  rcases h with rfl | rfl <;> decide
theorem T_zret {v : Int32} (hd : decode cc pc = .ok (.ireturn, 1)) (hv : v = 0 ∨ v = 1) (hP : Po (vI v) SH V M) : T own cc nL (some .boolean) 0 d mc ms gr Po pc L ([vI v]) SH V M kc ks := by
  intro p l e R s m args below meth c dC dI ad ca A H locs ls C w t hS hA g hl h1 h2
  refine W.widen h1 h2 ?_
  have hlk := C.2.2.2.2.2.2.1
  exact W.zret C.1 C.2.1 C.2.2.1 (nb01 hv) (fun t' ht hW => ⟨⟨v, (SH, V, M), rfl, hP, ⟨va_K.moved hW.alike w.1, by rw [ht]; exact w.2.1, w.2.2⟩⟩, hS.F ht⟩) hS.2.2 hd
theorem T_lret {v : Int64} (hd : decode cc pc = .ok (.lreturn, 1)) (hP : Po (vJ v) SH V M) : T own cc nL (some .long) 1 d mc ms gr Po pc L ([vJ v]) SH V M kc ks := by
  intro p l e R s m args below meth c dC dI ad ca A H locs ls C w t hS hA g hl h1 h2
  refine W.widen h1 h2 ?_
  have hlk := C.2.2.2.2.2.2.1
  exact W.lret C.1 C.2.1 C.2.2.1 (fun t' ht hW => ⟨⟨v, (SH, V, M), rfl, hP, ⟨va_K.moved hW.alike w.1, by rw [ht]; exact w.2.1, w.2.2⟩⟩, hS.F ht⟩) hS.2.2 hd
theorem T_vret (hd : decode cc pc = .ok (.return_, 1)) (hP : Po (vI 0) SH V M) : T own cc nL none 2 d mc ms gr Po pc L ([]) SH V M kc ks := by
  intro p l e R s m args below meth c dC dI ad ca A H locs ls C w t hS hA g hl h1 h2
  refine W.widen h1 h2 ?_
  have hlk := C.2.2.2.2.2.2.1
  exact W.vret C.1 C.2.1 C.2.2.1 (fun t' ht hW => ⟨⟨(SH, V, M), rfl, hP, ⟨va_K.moved hW.alike w.1, by rw [ht]; exact w.2.1, w.2.2⟩⟩, hS.F ht⟩) hS.2.2 hd
theorem T_aret {o : Option Nat} {nm : String} (hd : decode cc pc = .ok (.areturn, 1)) (hP : Po (vR o) SH V M) : T own cc nL (some (.object nm)) 3 d mc ms gr Po pc L ([vR o]) SH V M kc ks := by
  intro p l e R s m args below meth c dC dI ad ca A H locs ls C w t hS hA g hl h1 h2
  refine W.widen h1 h2 ?_
  have hlk := C.2.2.2.2.2.2.1
  exact W.aret C.1 C.2.1 C.2.2.1 (Or.inl ⟨nm, rfl⟩) (by cases o with | none => exact Or.inl rfl | some q => exact Or.inr ⟨_, rfl⟩) (fun t' ht hW => ⟨⟨o.map ad, (SH, V, M), rfl, ⟨o, rfl, hP⟩, ⟨va_K.moved hW.alike w.1, by rw [ht]; exact w.2.1, w.2.2⟩⟩, hS.F ht⟩) hS.2.2 hd
end TR
