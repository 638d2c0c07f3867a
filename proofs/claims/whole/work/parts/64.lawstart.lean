theorem st_start {p : Program} {s : State} {m : MethodId} {meth : Method} {c : Code} {b L : Nat} {xs : Nat → Int32} (C0 : lw_At p s m meth c b L xs) : ∃ t0 t1 : Nat, ∀ ad : Nat → Nat, ad 1000 = t0 → ad 1001 = t1 → St ad (fun q : Nat => s.heap.size ≤ q) s s.heap := by
  obtain ⟨hx, hb, hr, hml, hown, hts0, hX, hbl, hlocks, hgv⟩ := C0
  have hs := flat_of_before _ hgv
  have hA : ∀ a : Nat, a < s.heap.size → ¬ (fun q : Nat => s.heap.size ≤ q) a := fun a h => Nat.not_le.mpr h
  obtain ⟨t0, e0, T0⟩ := va_Tof (tm := .static "HoleMoved" "LETTERS" "[I") (ty := .int) (N := 6) (f := fun j => .int (stv 0 j)) (A := (fun q : Nat => s.heap.size ≤ q)) (by decide) (hs _ (by decide +kernel)) (va_eqt (z := 6) (hs _ (by decide +kernel))) (fun j hj => by
    match j, hj with
    | 0, _ => exact va_eqt (z := 112) (hs _ (by decide +kernel))
    | 1, _ => exact va_eqt (z := 114) (hs _ (by decide +kernel))
    | 2, _ => exact va_eqt (z := 115) (hs _ (by decide +kernel))
    | 3, _ => exact va_eqt (z := 98) (hs _ (by decide +kernel))
    | 4, _ => exact va_eqt (z := 116) (hs _ (by decide +kernel))
    | 5, _ => exact va_eqt (z := 100) (hs _ (by decide +kernel))
    | n + 6, h => exact absurd h (by omega)) hA
  obtain ⟨t1, e1, T1⟩ := va_Tof (tm := .static "HoleMoved" "WIDER_KINDS" "[I") (ty := .int) (N := 6) (f := fun j => .int (stv 1 j)) (A := (fun q : Nat => s.heap.size ≤ q)) (by decide) (hs _ (by decide +kernel)) (va_eqt (z := 6) (hs _ (by decide +kernel))) (fun j hj => by
    match j, hj with
    | 0, _ => exact va_eqt (z := -1) (hs _ (by decide +kernel))
    | 1, _ => exact va_eqt (z := 0) (hs _ (by decide +kernel))
    | 2, _ => exact va_eqt (z := 1) (hs _ (by decide +kernel))
    | 3, _ => exact va_eqt (z := 0) (hs _ (by decide +kernel))
    | 4, _ => exact va_eqt (z := 2) (hs _ (by decide +kernel))
    | 5, _ => exact va_eqt (z := 3) (hs _ (by decide +kernel))
    | n + 6, h => exact absurd h (by omega)) hA
  have hini : (Cond.initialized "HoleMoved").before #[Value.ref b] s = true := hts0 _ (List.mem_of_getElem? (i := 82) (by decide +kernel))
  have Z0 := va_Zref (A := (fun q : Nat => s.heap.size ≤ q)) (hts0 (.laysStatic "HoleMoved" "LETTERS" "[I") (List.mem_of_getElem? (i := 205) (by decide +kernel))) hini e0 hA
  have Z1 := va_Zref (A := (fun q : Nat => s.heap.size ≤ q)) (hts0 (.laysStatic "HoleMoved" "WIDER_KINDS" "[I") (List.mem_of_getElem? (i := 596) (by decide +kernel))) hini e1 hA
  have hN : Nst s := ⟨fun z hz hn => va_Nw.of (nest_onT hn) (hts0 z hz), va_AO.of (hts0 (.arrayOver (.object RX1)) (List.mem_of_getElem? (i := 203) (by decide +kernel))), va_AO.of (hts0 (.arrayOver (.object RX3)) (List.mem_of_getElem? (i := 207) (by decide +kernel))), va_AO.of (hts0 (.arrayOver (.object RX5)) (List.mem_of_getElem? (i := 104) (by decide +kernel)))⟩
  refine ⟨t0, t1, fun ad a0 a1 => ⟨⟨?_, ?_, ?_, ?_⟩, hN⟩⟩
  · rw [a0]; exact Z0
  · rw [a0]; exact T0
  · rw [a1]; exact Z1
  · rw [a1]; exact T1
theorem known_start {p : Program} {s : State} {m : MethodId} {meth : Method} {c : Code} {b L : Nat} {xs : Nat → Int32} (C0 : lw_At p s m meth c b L xs) : ∃ (dC : Nat → ClassId) (dI : Nat → Nat → Nat) (ca : Nat → ClassId), va_K (dC, dI) vwCl (tysOf ca) s := by
  obtain ⟨hx, hb, hr, hml, hown, hts0, hX, hbl, hlocks, hgv⟩ := C0
  have hts : ∀ z ∈ lg_tbl, z.before #[Value.ref b] s = true := fun z hz => hts0 z (List.mem_filter.mp hz).1
  obtain ⟨c0, i0, k0⟩ := u_known (C := RX0) (T := TX0) (N := 4) (n := 4) hts clw_X0 (hts _ in_X0)
  obtain ⟨c1, i1, k1⟩ := u_known (C := RX1) (T := TX1) (N := 8) (n := 8) hts clw_X1 (hts _ in_X1)
  obtain ⟨c2, i2, k2⟩ := u_known (C := RX2) (T := TX2) (N := 5) (n := 5) hts clw_X2 (hts _ in_X2)
  obtain ⟨c3, i3, k3⟩ := u_known (C := RX3) (T := TX3) (N := 2) (n := 2) hts clw_X3 (hts _ in_X3)
  obtain ⟨c4, i4, k4⟩ := u_known (C := RX4) (T := TX4) (N := 7) (n := 7) hts clw_X4 (hts _ in_X4)
  obtain ⟨c5, i5, k5⟩ := u_known (C := RX5) (T := TX5) (N := 2) (n := 2) hts clw_X5 (hts _ in_X5)
  obtain ⟨c6, i6, k6⟩ := u_known (C := RX6) (T := TX6) (N := 7) (n := 7) hts clw_X6 (hts _ in_X6)
  obtain ⟨c7, i7, k7⟩ := u_known (C := RX8) (T := TX8) (N := 17) (n := 17) hts clw_X8 (hts _ in_X8)
  obtain ⟨c8, i8, k8⟩ := u_known (C := RX9) (T := TX9) (N := 34) (n := 34) hts clw_X9 (hts _ in_X9)
  obtain ⟨a20, kA0, comp0, f01, f02, f03⟩ := Cond.arrayClass_spec (hts0 (.arrayClass .int) (List.mem_filter.mp ar_int).1)
  obtain ⟨a21, kA1, comp1, f11, f12, f13⟩ := Cond.arrayClass_spec (hts0 (.arrayClass .long) (List.mem_filter.mp ar_long).1)
  obtain ⟨comp2, a31, kA2, f21, f22, f23, f24, f25⟩ := Cond.arrayOver_spec (hts0 (.arrayOver (.object RX1)) (List.mem_of_getElem? (i := 203) (by decide +kernel)))
  obtain ⟨comp3, a33, kA3, f31, f32, f33, f34, f35⟩ := Cond.arrayOver_spec (hts0 (.arrayOver (.object RX3)) (List.mem_of_getElem? (i := 207) (by decide +kernel)))
  obtain ⟨comp4, a35, kA4, f41, f42, f43, f44, f45⟩ := Cond.arrayOver_spec (hts0 (.arrayOver (.object RX5)) (List.mem_of_getElem? (i := 104) (by decide +kernel)))
  refine ⟨fun k => match k with | 0 => c0 | 1 => c1 | 2 => c2 | 3 => c3 | 4 => c4 | 5 => c5 | 6 => c6 | 7 => c7 | _ => c8, fun k => match k with | 0 => i0 | 1 => i1 | 2 => i2 | 3 => i3 | 4 => i4 | 5 => i5 | 6 => i6 | 7 => i7 | _ => i8, fun k => match k with | 20 => a20 | 21 => a21 | 31 => a31 | 33 => a33 | _ => a35, ?_, ?_⟩
  · intro k q hq
    match k, hq with
    | 0, hq => cases hq; exact k0
    | 1, hq => cases hq; exact k1
    | 2, hq => cases hq; exact k2
    | 3, hq => cases hq; exact k3
    | 4, hq => cases hq; exact k4
    | 5, hq => cases hq; exact k5
    | 6, hq => cases hq; exact k6
    | 7, hq => cases hq; exact k7
    | 8, hq => cases hq; exact k8
    | n + 9, hq => simp [vwCl] at hq
  · intro k q hq
    match k, hq with
    | 0, hq => cases hq; exact ⟨fun n z => ⟨fun k h => (by cases h), kA0, f02, comp0, f03⟩, f01⟩
    | 1, hq => cases hq; exact ⟨fun n z => ⟨fun k h => (by cases h), kA1, f12, comp1, f13⟩, f11⟩
    | 2, hq => cases hq; exact ⟨fun n z => ⟨fun k h => (by cases h), kA2, f23, comp2, f24⟩, kA2, comp2, f23, f24, f21, f25⟩
    | 3, hq => cases hq; exact ⟨fun n z => ⟨fun k h => (by cases h), kA3, f33, comp3, f34⟩, kA3, comp3, f33, f34, f31, f35⟩
    | 4, hq => cases hq; exact ⟨fun n z => ⟨fun k h => (by cases h), kA4, f43, comp4, f44⟩, kA4, comp4, f43, f44, f41, f45⟩
    | n + 5, hq => simp [tysOf] at hq
def szOf (sh : Sh) : Nat := if sh.1 < 20 then (fc sh.1).length else sh.2
theorem wd_same {D : va_G} {cl : List vw_C} {ad : Nat → Nat} {ca : Nat → ClassId} {V V' : Rf} {M : Mem} {SH : List Sh} {H : Heap} (h : ∀ p sh, SH[p]? = some sh → ∀ k, k < szOf sh → V p k = V' p k) (hP : va_P D cl (wd ad ca V M SH) H) : va_P D cl (wd ad ca V' M SH) H := by
  intro i q hq
  obtain ⟨sh, hsh, rfl⟩ := wd_of hq
  have h0 := hP i _ (wd_at hsh)
  have hv := h i sh hsh
  unfold szOf at hv
  by_cases c1 : sh.1 < 20
  · rw [if_pos c1] at hv
    have e1 : ce ad ca V' M i sh = ce ad ca V M i sh := by
      unfold ce
      rw [if_pos c1, if_pos c1]
      congr 2
      unfold fl
      apply List.ext_getElem?
      intro j
      rw [List.getElem?_mapIdx, List.getElem?_mapIdx]
      cases ht : (fc sh.1)[j]? with
      | none => rfl
      | some t =>
        simp only [Option.map_some]
        unfold fv
        rw [hv j (List.getElem?_eq_some_iff.mp ht).1]
    rw [e1]; exact h0
  · rw [if_neg c1] at hv
    by_cases c2 : sh.1 = 20
    · have e1 : ce ad ca V' M i sh = ce ad ca V M i sh := by unfold ce; rw [if_neg c1, if_neg c1, if_pos c2, if_pos c2]
      rw [e1]; exact h0
    · by_cases c3 : sh.1 = 21
      · have e1 : ce ad ca V' M i sh = ce ad ca V M i sh := by unfold ce; rw [if_neg c1, if_neg c1, if_neg c2, if_neg c2, if_pos c3, if_pos c3]
        rw [e1]; exact h0
      · have q1 : ∀ V0 : Rf, ce ad ca V0 M i sh = .inl (ca sh.1, sh.2, .inr (.inr (.inr (.inr (fun j => (V0 i j).map ad))))) := fun V0 => by unfold ce; rw [if_neg c1, if_neg c2, if_neg c3]
        rw [q1] at h0 ⊢
        show H[ad i]? = some (vp_cell _ _)
        have h1 : H[ad i]? = some (vp_cell _ _) := h0
        rw [h1, vp_cell_q, vp_cell_q]
        congr 1
        unfold arrV
        congr 1
        congr 1
        funext j
        show va_rf (Option.map ad (V i j.1)) = va_rf (Option.map ad (V' i j.1))
        rw [hv j.1 j.2]
theorem wd_D {ad : Nat → Nat} {ca : Nat → ClassId} {V : Rf} {M : Mem} {SH : List Sh} {A : Nat → Prop} (hi : ∀ i j, i < SH.length → j < SH.length → ad i = ad j → i = j) (hA : ∀ i, i < SH.length → A (ad i)) : va_D A (wd ad ca V M SH) := by
  refine ⟨fun i j p q hp hq e => ?_, fun k q hq => ?_⟩
  · obtain ⟨s1, h1, rfl⟩ := wd_of hp
    obtain ⟨s2, h2, rfl⟩ := wd_of hq
    exact hi i j (List.getElem?_eq_some_iff.mp h1).1 (List.getElem?_eq_some_iff.mp h2).1 e
  · obtain ⟨s1, h1, rfl⟩ := wd_of hq
    exact hA k (List.getElem?_eq_some_iff.mp h1).1
def vchk (V V' : Rf) (SH : List Sh) : Bool := (List.range SH.length).all (fun p => match SH[p]? with | some sh => (List.range (szOf sh)).all (fun k => decide (V p k = V' p k)) | none => true)
theorem vchk_ok {V V' : Rf} {SH : List Sh} (h : vchk V V' SH = true) : ∀ p sh, SH[p]? = some sh → ∀ k, k < szOf sh → V p k = V' p k := by
  intro p sh hp k hk
  have h1 := List.all_eq_true.mp h p (List.mem_range.mpr (List.getElem?_eq_some_iff.mp hp).1)
  rw [hp] at h1
  exact of_decide_eq_true (List.all_eq_true.mp h1 k (List.mem_range.mpr hk))
theorem vC_ok : vchk cv_132 (rfs (fun _ => none) none none) LAYC = true := by decide +kernel
theorem vM_ok : vchk mv_36 rfm LAYM = true := by decide +kernel
/-- a new object at the end of the heap -/
theorem born_at {dC : Nat → ClassId} {dI : Nat → Nat → Nat} {ca : Nat → ClassId} {s : State} {args : Array Value} {ad : Nat → Nat} {ci N : Nat} {C0 : String} {Tt : u_T} {ty0 : Nat → FieldType} {H1 : Heap} {kC : Class} (hK : va_K (dC, dI) vwCl (tysOf ca) s) (hts : ∀ z ∈ lg_tbl, z.before args s = true) (hc : clOK ci C0 Tt N ty0) (hct : clTy ci ty0 N) (hkC : s.vm.classes[dC ci]? = some kC) (e1 : H1[ad 0]? = some (blank (dC ci) kC)) : va_P (dC, dI) vwCl (wd ad ca (nwR (fun _ _ => none) 0) (nwM (fun _ _ => 0, fun _ _ => 0) 0) [(ci, 0)]) H1 := by
  intro k q hq
  obtain ⟨sh, hsh, rfl⟩ := wd_of hq
  have hk : k = 0 := by
    have := (List.getElem?_eq_some_iff.mp hsh).1
    simp at this
    exact this
  subst hk
  cases hsh
  rw [ce_obj hc.1]
  have hKn := hK.1 ci _ hc.2.1
  exact ⟨_, hc.2.1, (u_born ty0 hts hc.2.2.1 hKn hkC e1 hc.2.2.2.1).to (fun j hj => (hct j hj).trans (fl_new' (show j < (fc ci).length from hc.2.2.2.2.2.symm ▸ hj)).symm)⟩
