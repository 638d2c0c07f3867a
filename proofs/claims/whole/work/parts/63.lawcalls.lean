def RLaw : String := RL
def W2 (dC : Nat → ClassId) (dI : Nat → Nat → Nat) (adC adM : Nat → Nat) (ca : Nat → ClassId) (A : Nat → Prop) (lw : Nat → Option Nat) (tl tt : Option Nat) (M N : Mem) (U : State) (H : Heap) : Prop :=
  va_K (dC, dI) vwCl (tysOf ca) U ∧ (va_P (dC, dI) vwCl (wd adC ca (rfs lw tl tt) M LAYC) H ∧ va_P (dC, dI) vwCl (wd adM ca rfm N LAYM) H) ∧ (va_D A (wd adC ca (rfs lw tl tt) M LAYC) ∧ va_D A (wd adM ca rfm N LAYM)) ∧ ∀ i j, i < 61 → j < 19 → adC i ≠ adM j
theorem lg_cmp_self (x : Int64) : lg_cmp x x = 0 := by simp [lg_cmp]
theorem law_Ci {p : Program} {l : Launch} {e : Env} {s : State} {m : MethodId} {below : List Frame} {meth : Method} {c : Code} {b L : Nat} {xs : Nat → Int32} (C0 : lw_At p s m meth c b L xs) {dC : Nat → ClassId} {dI : Nat → Nat → Nat} {adC adM : Nat → Nat} {ca : Nat → ClassId} {lw : Nat → Option Nat} {tl tt : Option Nat} {M N : Mem} {lw' : Nat → Option Nat} {tl' tt' : Option Nat} {M' : Mem} (t : St adC (fun q : Nat => s.heap.size ≤ q) s s.heap) {ls : Array Slot} (hls : ls.size = 4) {pc i ny d' : Nat} {y : MethodName} {cy : ByteArray} {rety : Option FieldType} {as : List AV} {rest st : List Value} {r : Int32} {H : Heap} {locs : List Loc} (w : W2 dC dI adC adM ca (fun q : Nat => s.heap.size ≤ q) lw tl tt M N s H) (hS : va_S (fun q : Nat => s.heap.size ≤ q) s.heap H locs) (hd : decode code pc = .ok (.invokevirtual i, 3)) (hw : CW RL i y cy ny rety as.length) (hlk : Cond.methodLink RL i y ∈ lg_tbl) (hin : Cond.instanceMethod y ∈ lg_tbl) (hsel : Cond.selects RX8 y y ∈ lg_tbl) (hsum : (rest.map fun v => v.category).sum ≤ 8) (hdep : d' ≤ 1000) (hc : Cal y cy ny rety 0 d' 0 0 false (vR (some 0) :: as) LAYC (rfs lw tl tt) M (eqp (vI r) LAYC (rfs lw' tl' tt') M')) (hst : st = (as.map (cv adC)).reverse ++ .ref (adC 0) :: rest)
    (k : ∀ (H1 : Heap) (locs1 : List Loc), W2 dC dI adC adM ca (fun q : Nat => s.heap.size ≤ q) lw' tl' tt' M' N s H1 → va_S (fun q : Nat => s.heap.size ≤ q) s.heap H1 locs1 → W p l e room_1 s m #[Value.ref b] below meth c H1 locs1 80 2300 (lw_Z below #[Value.ref b] s) (F0 m (pc + 3) ls (.int r :: rest))) : W p l e room_1 s m #[Value.ref b] below meth c H locs 80 2300 (lw_Z below #[Value.ref b] s) (F0 m pc ls st) := by
  subst hst
  obtain ⟨hx, hb, hr, hml, hown, hts0, hX, hbl, hlocks, hgv⟩ := C0
  have hts : ∀ z ∈ lg_tbl, z.before #[Value.ref b] s = true := fun z hz => hts0 z (List.mem_filter.mp hz).1
  have hA : ∀ q : Nat, s.heap.size ≤ q → (fun q : Nat => s.heap.size ≤ q) q := fun _ h => h
  obtain ⟨wK, ⟨wC, wM⟩, ⟨dCC, dMM⟩, hne⟩ := w
  have wP := wC
  have wD := dCC
  have hF := wd_free wD hS hA
  have pre : ∀ U : State, U.heap = H → s.WarmedH U.vm → (va_Pc ((vR (some 0) :: as).map (cv adC)) (fun U => U.heap.size = H.size ∧ Wo dC dI adC ca (fun _ => True) LAYC (rfs lw tl tt) M U U.heap ∧ St adC (va_A (wd adC ca (rfs lw tl tt) M LAYC) H.size) U U.heap ∧ Gr false adC LAYC U.heap.size)) ((vR (some 0) :: as).map (cv adC)).toArray U := fun U hU hW => ⟨rfl, by rw [hU], ⟨va_K.moved hW.alike wK, by rw [hU]; exact wP, wD.weaken (fun _ _ _ _ => trivial)⟩, by rw [hU]; exact t.go hW.alike (t.2.warm hW) hS.2.1 hF, fun h => by cases h⟩
  have hrun := va_runV (R := room_1) (l := l) (e := e) (below := below) (meth := meth) (locs := locs) (cells := 80) (slots := 2300) (g := F0 m pc ls ((as.map (cv adC)).reverse ++ .ref (adC 0) :: rest)) (As := as.map (cv adC)) (rest := rest) ⟨hx, hb, hml, hown, hts⟩ (hc l dC dI adC ca H.size) ⟨(callB_of (rm := rmOf d' 0 0) as.length hts hw.good rfl rfl rfl (hts _ hw.1) (hts _ hlk) hw.2.2.2.1 ⟨show d' + 1 ≤ 2048 by omega, show 8 + (ny + 11) + 64 * d' ≤ 84000 by have := hw.2.2.2.2; omega⟩), hts _ hin, hts _ hsel⟩ ⟨blind dC dI adC ca H.size false (vR (some 0) :: as) LAYC (rfs lw tl tt) M, va_recv wK wP (ci := 7) (q := (RX8, TX8, 17)) rfl ((wd_at (show LAYC[0]? = some (7, 0) from rfl)).trans (congrArg (fun z => some (adC 0, z)) (ce_obj (by decide)))), pre⟩ rfl (List.length_map _) hls rfl (lv_room hsum) hd ⟨show 80 + 0 ≤ 600000 by omega, show 2300 + 0 ≤ 7302250 by omega⟩
  refine va_calli (a := (Value.ref (adC 0) :: as.map (cv adC)).toArray) hrun hS (fun q _ h => hF q h) hF ?_
  intro r' u t' H1 locs1 ht hvm hw2 hB hz hk hS1
  obtain ⟨SH1, V1, M1⟩ := u
  obtain ⟨e1, e2, e3, e4⟩ := hw2
  have e1 := Sum.inl.inj e1
  simp only at e2 e3 e4
  subst e1 e2 e3 e4
  obtain ⟨b1, b2, b3⟩ := hB
  simp only at b1 b2 b3
  rw [ht] at b2
  have hkeep : va_P (dC, dI) vwCl (wd adM ca rfm N LAYM) H1 := by
    refine va_P.kept (wM) (fun k q hq => ?_)
    have hlt := (wM k q hq).lt
    refine hk q.1 hlt (fun hAq => ?_)
    rcases hAq with ⟨k2, e9, h9⟩ | h9
    · obtain ⟨sh1, h1, rfl⟩ := wd_of hq
      obtain ⟨sh2, h2, h3⟩ := wd_of h9
      have l1 : k < 19 := (List.getElem?_eq_some_iff.mp h1).1
      have l2 : k2 < 61 := (List.getElem?_eq_some_iff.mp h2).1
      have := congrArg Prod.fst h3
      simp only at this
      exact hne k2 k l2 l1 this.symm
    · omega
  exact k H1 locs1 ⟨va_K.moved hvm.symm b1, ⟨b2, hkeep⟩, ⟨b3.weaken (fun _ q _ h => hF q.1 h), dMM⟩, hne⟩ hS1
theorem law_Cl {p : Program} {l : Launch} {e : Env} {s : State} {m : MethodId} {below : List Frame} {meth : Method} {c : Code} {b L : Nat} {xs : Nat → Int32} (C0 : lw_At p s m meth c b L xs) {dC : Nat → ClassId} {dI : Nat → Nat → Nat} {adC adM : Nat → Nat} {ca : Nat → ClassId} {lw : Nat → Option Nat} {tl tt : Option Nat} {M N : Mem} {lw' : Nat → Option Nat} {tl' tt' : Option Nat} {M' : Mem} (t : St adC (fun q : Nat => s.heap.size ≤ q) s s.heap) {ls : Array Slot} (hls : ls.size = 4) {pc i ny d' : Nat} {y : MethodName} {cy : ByteArray} {rety : Option FieldType} {as : List AV} {rest st : List Value} {r : Int64} {H : Heap} {locs : List Loc} (w : W2 dC dI adC adM ca (fun q : Nat => s.heap.size ≤ q) lw tl tt M N s H) (hS : va_S (fun q : Nat => s.heap.size ≤ q) s.heap H locs) (hd : decode code pc = .ok (.invokevirtual i, 3)) (hw : CW RL i y cy ny rety as.length) (hlk : Cond.methodLink RL i y ∈ lg_tbl) (hin : Cond.instanceMethod y ∈ lg_tbl) (hsel : Cond.selects RX8 y y ∈ lg_tbl) (hsum : (rest.map fun v => v.category).sum ≤ 8) (hdep : d' ≤ 1000) (hc : Cal y cy ny rety 1 d' 0 0 false (vR (some 0) :: as) LAYC (rfs lw tl tt) M (eqp (vJ r) LAYC (rfs lw' tl' tt') M')) (hst : st = (as.map (cv adC)).reverse ++ .ref (adC 0) :: rest)
    (k : ∀ (H1 : Heap) (locs1 : List Loc), W2 dC dI adC adM ca (fun q : Nat => s.heap.size ≤ q) lw' tl' tt' M' N s H1 → va_S (fun q : Nat => s.heap.size ≤ q) s.heap H1 locs1 → W p l e room_1 s m #[Value.ref b] below meth c H1 locs1 80 2300 (lw_Z below #[Value.ref b] s) (F0 m (pc + 3) ls (.long r :: rest))) : W p l e room_1 s m #[Value.ref b] below meth c H locs 80 2300 (lw_Z below #[Value.ref b] s) (F0 m pc ls st) := by
  subst hst
  obtain ⟨hx, hb, hr, hml, hown, hts0, hX, hbl, hlocks, hgv⟩ := C0
  have hts : ∀ z ∈ lg_tbl, z.before #[Value.ref b] s = true := fun z hz => hts0 z (List.mem_filter.mp hz).1
  have hA : ∀ q : Nat, s.heap.size ≤ q → (fun q : Nat => s.heap.size ≤ q) q := fun _ h => h
  obtain ⟨wK, ⟨wC, wM⟩, ⟨dCC, dMM⟩, hne⟩ := w
  have wP := wC
  have wD := dCC
  have hF := wd_free wD hS hA
  have pre : ∀ U : State, U.heap = H → s.WarmedH U.vm → (va_Pc ((vR (some 0) :: as).map (cv adC)) (fun U => U.heap.size = H.size ∧ Wo dC dI adC ca (fun _ => True) LAYC (rfs lw tl tt) M U U.heap ∧ St adC (va_A (wd adC ca (rfs lw tl tt) M LAYC) H.size) U U.heap ∧ Gr false adC LAYC U.heap.size)) ((vR (some 0) :: as).map (cv adC)).toArray U := fun U hU hW => ⟨rfl, by rw [hU], ⟨va_K.moved hW.alike wK, by rw [hU]; exact wP, wD.weaken (fun _ _ _ _ => trivial)⟩, by rw [hU]; exact t.go hW.alike (t.2.warm hW) hS.2.1 hF, fun h => by cases h⟩
  have hrun := va_runV (R := room_1) (l := l) (e := e) (below := below) (meth := meth) (locs := locs) (cells := 80) (slots := 2300) (g := F0 m pc ls ((as.map (cv adC)).reverse ++ .ref (adC 0) :: rest)) (As := as.map (cv adC)) (rest := rest) ⟨hx, hb, hml, hown, hts⟩ (hc l dC dI adC ca H.size) ⟨(callB_of (rm := rmOf d' 0 0) as.length hts hw.good rfl rfl rfl (hts _ hw.1) (hts _ hlk) hw.2.2.2.1 ⟨show d' + 1 ≤ 2048 by omega, show 8 + (ny + 11) + 64 * d' ≤ 84000 by have := hw.2.2.2.2; omega⟩), hts _ hin, hts _ hsel⟩ ⟨blind dC dI adC ca H.size false (vR (some 0) :: as) LAYC (rfs lw tl tt) M, va_recv wK wP (ci := 7) (q := (RX8, TX8, 17)) rfl ((wd_at (show LAYC[0]? = some (7, 0) from rfl)).trans (congrArg (fun z => some (adC 0, z)) (ce_obj (by decide)))), pre⟩ rfl (List.length_map _) hls rfl (lv_room hsum) hd ⟨show 80 + 0 ≤ 600000 by omega, show 2300 + 0 ≤ 7302250 by omega⟩
  refine va_calll (a := (Value.ref (adC 0) :: as.map (cv adC)).toArray) hrun hS (fun q _ h => hF q h) hF ?_
  intro r' u t' H1 locs1 ht hvm hw2 hB hz hk hS1
  obtain ⟨SH1, V1, M1⟩ := u
  obtain ⟨e1, e2, e3, e4⟩ := hw2
  have e1 := Sum.inl.inj (Sum.inr.inj e1)
  simp only at e2 e3 e4
  subst e1 e2 e3 e4
  obtain ⟨b1, b2, b3⟩ := hB
  simp only at b1 b2 b3
  rw [ht] at b2
  have hkeep : va_P (dC, dI) vwCl (wd adM ca rfm N LAYM) H1 := by
    refine va_P.kept (wM) (fun k q hq => ?_)
    have hlt := (wM k q hq).lt
    refine hk q.1 hlt (fun hAq => ?_)
    rcases hAq with ⟨k2, e9, h9⟩ | h9
    · obtain ⟨sh1, h1, rfl⟩ := wd_of hq
      obtain ⟨sh2, h2, h3⟩ := wd_of h9
      have l1 : k < 19 := (List.getElem?_eq_some_iff.mp h1).1
      have l2 : k2 < 61 := (List.getElem?_eq_some_iff.mp h2).1
      have := congrArg Prod.fst h3
      simp only at this
      exact hne k2 k l2 l1 this.symm
    · omega
  exact k H1 locs1 ⟨va_K.moved hvm.symm b1, ⟨b2, hkeep⟩, ⟨b3.weaken (fun _ q _ h => hF q.1 h), dMM⟩, hne⟩ hS1
theorem law_Mi {p : Program} {l : Launch} {e : Env} {s : State} {m : MethodId} {below : List Frame} {meth : Method} {c : Code} {b L : Nat} {xs : Nat → Int32} (C0 : lw_At p s m meth c b L xs) {dC : Nat → ClassId} {dI : Nat → Nat → Nat} {adC adM : Nat → Nat} {ca : Nat → ClassId} {lw : Nat → Option Nat} {tl tt : Option Nat} {M N : Mem} {N' : Mem} (t : St adM (fun q : Nat => s.heap.size ≤ q) s s.heap) {ls : Array Slot} (hls : ls.size = 4) {pc i ny d' : Nat} {y : MethodName} {cy : ByteArray} {rety : Option FieldType} {as : List AV} {rest st : List Value} {r : Int32} {H : Heap} {locs : List Loc} (w : W2 dC dI adC adM ca (fun q : Nat => s.heap.size ≤ q) lw tl tt M N s H) (hS : va_S (fun q : Nat => s.heap.size ≤ q) s.heap H locs) (hd : decode code pc = .ok (.invokevirtual i, 3)) (hw : CW RL i y cy ny rety as.length) (hlk : Cond.methodLink RL i y ∈ lg_tbl) (hin : Cond.instanceMethod y ∈ lg_tbl) (hsel : Cond.selects RX9 y y ∈ lg_tbl) (hsum : (rest.map fun v => v.category).sum ≤ 8) (hdep : d' ≤ 1000) (hc : Cal y cy ny rety 0 d' 0 0 false (vR (some 0) :: as) LAYM rfm N (eqp (vI r) LAYM rfm N')) (hst : st = (as.map (cv adM)).reverse ++ .ref (adM 0) :: rest)
    (k : ∀ (H1 : Heap) (locs1 : List Loc), W2 dC dI adC adM ca (fun q : Nat => s.heap.size ≤ q) lw tl tt M N' s H1 → va_S (fun q : Nat => s.heap.size ≤ q) s.heap H1 locs1 → W p l e room_1 s m #[Value.ref b] below meth c H1 locs1 80 2300 (lw_Z below #[Value.ref b] s) (F0 m (pc + 3) ls (.int r :: rest))) : W p l e room_1 s m #[Value.ref b] below meth c H locs 80 2300 (lw_Z below #[Value.ref b] s) (F0 m pc ls st) := by
  subst hst
  obtain ⟨hx, hb, hr, hml, hown, hts0, hX, hbl, hlocks, hgv⟩ := C0
  have hts : ∀ z ∈ lg_tbl, z.before #[Value.ref b] s = true := fun z hz => hts0 z (List.mem_filter.mp hz).1
  have hA : ∀ q : Nat, s.heap.size ≤ q → (fun q : Nat => s.heap.size ≤ q) q := fun _ h => h
  obtain ⟨wK, ⟨wC, wM⟩, ⟨dCC, dMM⟩, hne⟩ := w
  have wP := wM
  have wD := dMM
  have hF := wd_free wD hS hA
  have pre : ∀ U : State, U.heap = H → s.WarmedH U.vm → (va_Pc ((vR (some 0) :: as).map (cv adM)) (fun U => U.heap.size = H.size ∧ Wo dC dI adM ca (fun _ => True) LAYM rfm N U U.heap ∧ St adM (va_A (wd adM ca rfm N LAYM) H.size) U U.heap ∧ Gr false adM LAYM U.heap.size)) ((vR (some 0) :: as).map (cv adM)).toArray U := fun U hU hW => ⟨rfl, by rw [hU], ⟨va_K.moved hW.alike wK, by rw [hU]; exact wP, wD.weaken (fun _ _ _ _ => trivial)⟩, by rw [hU]; exact t.go hW.alike (t.2.warm hW) hS.2.1 hF, fun h => by cases h⟩
  have hrun := va_runV (R := room_1) (l := l) (e := e) (below := below) (meth := meth) (locs := locs) (cells := 80) (slots := 2300) (g := F0 m pc ls ((as.map (cv adM)).reverse ++ .ref (adM 0) :: rest)) (As := as.map (cv adM)) (rest := rest) ⟨hx, hb, hml, hown, hts⟩ (hc l dC dI adM ca H.size) ⟨(callB_of (rm := rmOf d' 0 0) as.length hts hw.good rfl rfl rfl (hts _ hw.1) (hts _ hlk) hw.2.2.2.1 ⟨show d' + 1 ≤ 2048 by omega, show 8 + (ny + 11) + 64 * d' ≤ 84000 by have := hw.2.2.2.2; omega⟩), hts _ hin, hts _ hsel⟩ ⟨blind dC dI adM ca H.size false (vR (some 0) :: as) LAYM rfm N, va_recv wK wP (ci := 8) (q := (RX9, TX9, 34)) rfl ((wd_at (show LAYM[0]? = some (8, 0) from rfl)).trans (congrArg (fun z => some (adM 0, z)) (ce_obj (by decide)))), pre⟩ rfl (List.length_map _) hls rfl (lv_room hsum) hd ⟨show 80 + 0 ≤ 600000 by omega, show 2300 + 0 ≤ 7302250 by omega⟩
  refine va_calli (a := (Value.ref (adM 0) :: as.map (cv adM)).toArray) hrun hS (fun q _ h => hF q h) hF ?_
  intro r' u t' H1 locs1 ht hvm hw2 hB hz hk hS1
  obtain ⟨SH1, V1, M1⟩ := u
  obtain ⟨e1, e2, e3, e4⟩ := hw2
  have e1 := Sum.inl.inj e1
  simp only at e2 e3 e4
  subst e1 e2 e3 e4
  obtain ⟨b1, b2, b3⟩ := hB
  simp only at b1 b2 b3
  rw [ht] at b2
  have hkeep : va_P (dC, dI) vwCl (wd adC ca (rfs lw tl tt) M LAYC) H1 := by
    refine va_P.kept (wC) (fun k q hq => ?_)
    have hlt := (wC k q hq).lt
    refine hk q.1 hlt (fun hAq => ?_)
    rcases hAq with ⟨k2, e9, h9⟩ | h9
    · obtain ⟨sh1, h1, rfl⟩ := wd_of hq
      obtain ⟨sh2, h2, h3⟩ := wd_of h9
      have l1 : k < 61 := (List.getElem?_eq_some_iff.mp h1).1
      have l2 : k2 < 19 := (List.getElem?_eq_some_iff.mp h2).1
      have := congrArg Prod.fst h3
      simp only at this
      exact hne k k2 l1 l2 this
    · omega
  exact k H1 locs1 ⟨va_K.moved hvm.symm b1, ⟨hkeep, b2⟩, ⟨dCC, b3.weaken (fun _ q _ h => hF q.1 h)⟩, hne⟩ hS1
theorem law_Ml {p : Program} {l : Launch} {e : Env} {s : State} {m : MethodId} {below : List Frame} {meth : Method} {c : Code} {b L : Nat} {xs : Nat → Int32} (C0 : lw_At p s m meth c b L xs) {dC : Nat → ClassId} {dI : Nat → Nat → Nat} {adC adM : Nat → Nat} {ca : Nat → ClassId} {lw : Nat → Option Nat} {tl tt : Option Nat} {M N : Mem} {N' : Mem} (t : St adM (fun q : Nat => s.heap.size ≤ q) s s.heap) {ls : Array Slot} (hls : ls.size = 4) {pc i ny d' : Nat} {y : MethodName} {cy : ByteArray} {rety : Option FieldType} {as : List AV} {rest st : List Value} {r : Int64} {H : Heap} {locs : List Loc} (w : W2 dC dI adC adM ca (fun q : Nat => s.heap.size ≤ q) lw tl tt M N s H) (hS : va_S (fun q : Nat => s.heap.size ≤ q) s.heap H locs) (hd : decode code pc = .ok (.invokevirtual i, 3)) (hw : CW RL i y cy ny rety as.length) (hlk : Cond.methodLink RL i y ∈ lg_tbl) (hin : Cond.instanceMethod y ∈ lg_tbl) (hsel : Cond.selects RX9 y y ∈ lg_tbl) (hsum : (rest.map fun v => v.category).sum ≤ 8) (hdep : d' ≤ 1000) (hc : Cal y cy ny rety 1 d' 0 0 false (vR (some 0) :: as) LAYM rfm N (eqp (vJ r) LAYM rfm N')) (hst : st = (as.map (cv adM)).reverse ++ .ref (adM 0) :: rest)
    (k : ∀ (H1 : Heap) (locs1 : List Loc), W2 dC dI adC adM ca (fun q : Nat => s.heap.size ≤ q) lw tl tt M N' s H1 → va_S (fun q : Nat => s.heap.size ≤ q) s.heap H1 locs1 → W p l e room_1 s m #[Value.ref b] below meth c H1 locs1 80 2300 (lw_Z below #[Value.ref b] s) (F0 m (pc + 3) ls (.long r :: rest))) : W p l e room_1 s m #[Value.ref b] below meth c H locs 80 2300 (lw_Z below #[Value.ref b] s) (F0 m pc ls st) := by
  subst hst
  obtain ⟨hx, hb, hr, hml, hown, hts0, hX, hbl, hlocks, hgv⟩ := C0
  have hts : ∀ z ∈ lg_tbl, z.before #[Value.ref b] s = true := fun z hz => hts0 z (List.mem_filter.mp hz).1
  have hA : ∀ q : Nat, s.heap.size ≤ q → (fun q : Nat => s.heap.size ≤ q) q := fun _ h => h
  obtain ⟨wK, ⟨wC, wM⟩, ⟨dCC, dMM⟩, hne⟩ := w
  have wP := wM
  have wD := dMM
  have hF := wd_free wD hS hA
  have pre : ∀ U : State, U.heap = H → s.WarmedH U.vm → (va_Pc ((vR (some 0) :: as).map (cv adM)) (fun U => U.heap.size = H.size ∧ Wo dC dI adM ca (fun _ => True) LAYM rfm N U U.heap ∧ St adM (va_A (wd adM ca rfm N LAYM) H.size) U U.heap ∧ Gr false adM LAYM U.heap.size)) ((vR (some 0) :: as).map (cv adM)).toArray U := fun U hU hW => ⟨rfl, by rw [hU], ⟨va_K.moved hW.alike wK, by rw [hU]; exact wP, wD.weaken (fun _ _ _ _ => trivial)⟩, by rw [hU]; exact t.go hW.alike (t.2.warm hW) hS.2.1 hF, fun h => by cases h⟩
  have hrun := va_runV (R := room_1) (l := l) (e := e) (below := below) (meth := meth) (locs := locs) (cells := 80) (slots := 2300) (g := F0 m pc ls ((as.map (cv adM)).reverse ++ .ref (adM 0) :: rest)) (As := as.map (cv adM)) (rest := rest) ⟨hx, hb, hml, hown, hts⟩ (hc l dC dI adM ca H.size) ⟨(callB_of (rm := rmOf d' 0 0) as.length hts hw.good rfl rfl rfl (hts _ hw.1) (hts _ hlk) hw.2.2.2.1 ⟨show d' + 1 ≤ 2048 by omega, show 8 + (ny + 11) + 64 * d' ≤ 84000 by have := hw.2.2.2.2; omega⟩), hts _ hin, hts _ hsel⟩ ⟨blind dC dI adM ca H.size false (vR (some 0) :: as) LAYM rfm N, va_recv wK wP (ci := 8) (q := (RX9, TX9, 34)) rfl ((wd_at (show LAYM[0]? = some (8, 0) from rfl)).trans (congrArg (fun z => some (adM 0, z)) (ce_obj (by decide)))), pre⟩ rfl (List.length_map _) hls rfl (lv_room hsum) hd ⟨show 80 + 0 ≤ 600000 by omega, show 2300 + 0 ≤ 7302250 by omega⟩
  refine va_calll (a := (Value.ref (adM 0) :: as.map (cv adM)).toArray) hrun hS (fun q _ h => hF q h) hF ?_
  intro r' u t' H1 locs1 ht hvm hw2 hB hz hk hS1
  obtain ⟨SH1, V1, M1⟩ := u
  obtain ⟨e1, e2, e3, e4⟩ := hw2
  have e1 := Sum.inl.inj (Sum.inr.inj e1)
  simp only at e2 e3 e4
  subst e1 e2 e3 e4
  obtain ⟨b1, b2, b3⟩ := hB
  simp only at b1 b2 b3
  rw [ht] at b2
  have hkeep : va_P (dC, dI) vwCl (wd adC ca (rfs lw tl tt) M LAYC) H1 := by
    refine va_P.kept (wC) (fun k q hq => ?_)
    have hlt := (wC k q hq).lt
    refine hk q.1 hlt (fun hAq => ?_)
    rcases hAq with ⟨k2, e9, h9⟩ | h9
    · obtain ⟨sh1, h1, rfl⟩ := wd_of hq
      obtain ⟨sh2, h2, h3⟩ := wd_of h9
      have l1 : k < 61 := (List.getElem?_eq_some_iff.mp h1).1
      have l2 : k2 < 19 := (List.getElem?_eq_some_iff.mp h2).1
      have := congrArg Prod.fst h3
      simp only at this
      exact hne k k2 l1 l2 this
    · omega
  exact k H1 locs1 ⟨va_K.moved hvm.symm b1, ⟨hkeep, b2⟩, ⟨dCC, b3.weaken (fun _ q _ h => hF q.1 h)⟩, hne⟩ hS1
