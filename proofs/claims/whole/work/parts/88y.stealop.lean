/-! ===== steal ===== -/
theorem rowOf_tot (x : Int32) : ∃ o, F_X8_rowOf x = some o := by
  rcases cut 6 (by decide) x with z | ⟨k, hk, rfl⟩
  · exact ⟨_, rowOf_no z⟩
  · exact ⟨_, rowOf_in hk⟩
theorem laid_same {M N : Mem} {p q m : Nat} : ∀ l lv, laidL M p m l lv → laidL N q m l lv → ∀ x, x < l.length → gI M p (lv + x) = gI N q (lv + x) := by
  intro l
  induction l with
  | nil => intro lv _ _ x hx; exact absurd hx (Nat.not_lt_zero _)
  | cons e l ih =>
    intro lv h1 h2 x hx
    cases x with
    | zero => rw [Nat.add_zero, h1.1, h2.1]
    | succ x =>
      have := ih (lv + 1) h1.2 h2.2 x (Nat.lt_of_succ_lt_succ hx)
      rw [show lv + (x + 1) = lv + 1 + x by omega]
      exact this
theorem Rel.thief {t : Nat} {lw : Nat → Option Nat} {M M1 N N1 : Mem} {d0 : Nat → Nat} (h : Rel t lw M N) (hM : ∀ q x, ¬ (19 ≤ q ∧ q ≤ 23) → gI M1 q x = gI M q x) (jM : ∀ q x, gJ M1 q x = gJ M q x) (hN : FMd N N1) (hD : DpM N d0) (hD1 : DpM N1 d0) : Rel t lw M1 N1 := by
  refine h.frm (fun p k hp => hM p k ?_) (fun p k hp => ?_) (fun k => jM 0 k) ⟨hN.2 _ _, hN.2 _ _⟩
  · intro hq
    have : p = 19 ∨ p = 20 ∨ p = 21 ∨ p = 22 ∨ p = 23 := by omega
    rcases this with rfl | rfl | rfl | rfl | rfl <;> simp [sRelC, sAllC, sRwC, sTxC, sGC, sToC] at hp
  · by_cases h7 : p = 7 ∧ k < 16
    · obtain ⟨rfl, h7⟩ := h7
      rw [hD1 k h7, hD k h7]
    · refine hN.1 p k h7 ?_ ?_ ?_
      · rintro rfl
        simp [sRelM, sAllM, sRwM, sTxM, sGM, sToM] at hp
      · rintro rfl
        simp [sRelM, sAllM, sRwM, sTxM, sGM, sToM] at hp
      · rintro ⟨rfl, rfl⟩
        simp [sRelM, sAllM, sRwM, sTxM, sGM, sToM] at hp
/-- a row that comes anew with given numbers -/
theorem Rel.rowLay {t : Nat} {lw : Nat → Option Nat} {M N : Mem} (h : Rel t lw M N) {j n : Nat} (hj : j < 6) (hn : n ≤ 40) {f g : Nat → Int32} (hfg : ∀ x, x < n → f x = g x) : Rel (t + 1) lw (wrs (fil (sI M (26 + 2 * j) 1 (nI n)) (26 + 2 * j + 1) 0 0 n) (26 + 2 * j + 1) 0 f n) (wrs (fil (sI N 2 j (nI n)) 3 (40 * j) 0 40) 3 (40 * j) g n) := by
  obtain ⟨sT, sG, sO⟩ := agr_tx_row hj
  refine h.strip ?_ ?_ (((agr.rf.sI (sT _).1).fil (fun k => (sT k).2)).wrs (fun k => (sT k).2)) (((agr.rf.sI rfl).fil (fun _ => rfl)).wrs (fun _ => rfl)) (((agr.rf.sI (sG _).1).fil (fun k => (sG k).2)).wrs (fun k => (sG k).2)) (((agr.rf.sI rfl).fil (fun _ => rfl)).wrs (fun _ => rfl))
  · refine h.2.1.put hj (fun r hr e => ⟨fun k => ?_, fun k => ?_⟩) (fun r hr e => ⟨?_, fun i hi => ?_⟩) (Or.inr ⟨n, hn, ?_, ?_, fun i hi => ?_⟩)
    · rw [gI_wrs, if_neg (by omega), gI_fil, if_neg (by omega), gI_p (by omega)]
    · rw [gI_wrs, if_neg (by omega), gI_fil, if_neg (by omega), gI_p (by omega)]
    · rw [gI_wrs, if_neg (by omega), gI_fil, if_neg (by omega), gI_k e]
    · rw [gI_wrs, if_neg (by omega), gI_fil, if_neg (by omega), gI_p (by omega)]
    · rw [gI_wrs, if_neg (by omega), gI_fil, if_neg (by omega), gI_same]
    · rw [gI_wrs, if_neg (by omega), gI_fil, if_neg (by omega), gI_same]
    · rw [gI_wrs, if_pos (by omega), gI_wrs, if_pos (by omega), Nat.sub_zero, Nat.add_sub_cancel_left]
      exact hfg i hi
  · exact h.1.fr (((agr.rf.sI (sO _).1).fil (fun k => (sO k).2)).wrs (fun k => (sO k).2)) (((agr.rf.sI rfl).fil (fun _ => rfl)).wrs (fun _ => rfl)) (by rw [gJ_wrs, gJ_fil]; rfl) (by rw [gJ_wrs, gJ_fil]; rfl) (by rw [gJ_wrs, gJ_fil]; rfl) (by rw [gJ_wrs, gJ_fil]; rfl)
theorem op_steal {lw : Nat → Option Nat} (tl tt : Option Nat) {M N : Mem} {t : Nat} (ht : t ≤ 3100) (h : Rel t lw M N) (a1 : Int32) (a2 : Int32) (a3 : Int32) (a4 : Int32) (a5 : Int32) : ∃ (r : Int32) (tl' : Option Nat) (tt' : Option Nat) (M' : Mem) (N' : Mem), F_X8_steal lw tl tt M a1 a2 a3 a4 a5 = some (r, tl', tt', M') ∧ F_X9_steal N a1 a2 a3 a4 a5 = some (r, N') ∧ Rel (t + 1) lw M' N' := by
  obtain ⟨h0, q, K, h1, h2, h3, h4⟩ := h.laws
  obtain ⟨oi, hoi⟩ := imageOf_tot a2
  obtain ⟨orw, hor⟩ := rowOf_tot a5
  have hJ : ∀ x1 x2 x3 x4 x5, X9_steal_J33 N x1 x2 x3 x4 x5 = some (-1, N) := fun x1 x2 x3 x4 x5 => by rw [X9_steal_J33, X9_steal_J42, if_neg (by decide)]
  rcases cut q (by omega) a1 with z | ⟨l, hl, rfl⟩
  · exact ⟨-1, tl, tt, M, N, by rw [F_X8_steal, bd1e (lawOf_no h2 z), bd1e hoi, bd1e hor, oc_n], by rw [F_X9_steal, bd1e (isLaw_no h3 h1 z), if_pos rfl, hJ], h.up⟩
  · obtain ⟨k1, k2, k3⟩ := h4 l hl
    have cl := lawOf_in (lw := lw) h2 h1 hl
    have ml := isLaw_in h3 h1 hl
    rcases cut 3 (by decide) a2 with z | ⟨k, hk, rfl⟩
    · exact ⟨-1, tl, tt, M, N, by rw [F_X8_steal, bd1e cl, bd1e (imageOf_no z), bd1e hor, k2, oc_s, oc_n], by rw [F_X9_steal, bd1e ml, if_neg n10, bd1e (isImage_no z), if_pos rfl, hJ], h.up⟩
    · obtain ⟨o1, o2⟩ := imageOf_in hk
      have mi := isImage_in hk
      rcases cut 6 (by decide) a5 with z | ⟨j, hj, rfl⟩
      · refine ⟨-1, tl, tt, M, N, by rw [F_X8_steal, bd1e cl, bd1e o1, bd1e (rowOf_no z), k2, oc_s, oc_s, oc_n], ?_, h.up⟩
        rw [F_X9_steal, bd1e ml, if_neg n10, bd1e mi, if_neg n10]
        rcases cut 4 (by decide) a4 with y | ⟨pr, hpr, rfl⟩
        · rw [bd1e (in_no (y.imp_right (fun y => lt_of_le y (by decide)))), if_pos rfl, hJ]
        · rw [bd1e (in_yes (nneg pr (by omega)) (nI_nlt (by omega) (by decide))), if_neg n10, bd1e (isRow_no z), if_pos rfl, hJ]
      · rcases cut 4 (by decide) a4 with z | ⟨pr, hpr, rfl⟩
        · refine ⟨-1, tl, tt, M, N, ?_, by rw [F_X9_steal, bd1e ml, if_neg n10, bd1e mi, if_neg n10, bd1e (in_no (z.imp_right (fun y => lt_of_le y (by decide)))), if_pos rfl, hJ], h.up⟩
          have e2 : F_X8_isPerson a4 = some 0 := by
            unfold F_X8_isPerson
            by_cases y : a4 < 0
            · rw [if_pos y]
            · rw [if_neg y, if_pos (z.resolve_left y)]
          rw [F_X8_steal, bd1e cl, bd1e o1, bd1e (rowOf_in hj), k2, oc_s, oc_s, oc_s, bd1e e2, if_pos rfl]
        · have e2 : F_X8_isPerson (nI pr) = some 1 := by
            unfold F_X8_isPerson
            rw [if_neg (nneg pr (by omega)), if_neg (nI_nleN hpr (by decide))]
          have mp : F_X9_in (nI pr) 0 (nI 3) = some 1 := in_yes (nneg pr (by omega)) (nI_nlt (by omega) (by decide))
          have hM0 : F_X9_steal N (nI l) (nI k) a3 (nI pr) (nI j) = bd2 (F_X9_needImage N (nI k)) fun r_29 M_30 => X9_steal_J42 M_30 (nI l) (nI k) a3 (nI pr) (nI j) r_29 := by
            rw [F_X9_steal, bd1e ml, if_neg n10, bd1e mi, if_neg n10, bd1e mp, if_neg n10, bd1e (isRow_in hj), if_neg n10]
          have hC0 : F_X8_steal lw tl tt M (nI l) (nI k) a3 (nI pr) (nI j) = (if (gI M (46 + 3 * k) 7) = 0 then bd2 (F_X8_found M 1) fun r_32 M_33 => some (r_32, tl, tt, M_33) else bd1 (F_X1_has M (46 + 3 * k) a3) fun r_13 => if r_13 = 0 then some ((-1), tl, tt, M) else chk (isX3 (55 + K l) = true) (bd3 (F_X6_want tl tt M (55 + K l) (46 + 3 * k) a3 (nI pr)) fun tl_16 tt_17 M_18 => bd2 (F_X6_fewestMoves tl_16 tt_17 M_18 9) fun r_20 M_21 => if r_20 = (-9) then some (r_20, tl_16, tt_17, M_21) else chk (isX5 (26 + 2 * j) = true) (bd1 (F_X5_renew M_21 (26 + 2 * j) r_20 0) fun M_24 => loop (X8_steal_L117 lw tl_16 tt_17 (26 + 2 * j) r_20) FU (0, M_24)))) := by
            rw [F_X8_steal, bd1e cl, bd1e o1, bd1e (rowOf_in hj), k2, oc_s, oc_s, oc_s, bd1e e2, if_neg n10, chk_pos o2]
          rw [hC0, hM0]
          rcases img_go h hk with ⟨z1, z2⟩ | ⟨z1, m, w, gd, d, d0, e, e0, th, N', hd, hw, hw0, hla, hg, hg0, c1, hL, hR, c6⟩
          · exact ⟨-3, tl, tt, fndC M 1, fndM N 1, by rw [z1, if_pos rfl, bd2e found1], by rw [bd2e z2, X9_steal_J42, if_neg (by decide)], h.found (by decide)⟩
          · have hle := hd.le
            have n1 := HL_len hd (dg_lt hd hw)
            rw [z1, if_neg n10, bd2e c1, X9_steal_J42, if_pos (by decide), hL.2.2.2.2.1]
            rcases cut (HL m w (dg d)).length (by omega) a3 with z | ⟨i, hi, rfl⟩
            · exact ⟨-1, tl, tt, M, N', by rw [bd1e (ghas_no hg.2.2.2.1 z), if_pos rfl], by rw [bd1e (in_size (by omega) z), if_pos rfl], hR.up⟩
            · obtain ⟨cc, hcc, -⟩ := HL_low hd (dg_lt hd hw) hi
              have m0 : 0 < m := by omega
              -- where both begin
              obtain ⟨M0, hM0e⟩ : ∃ M0, M0 = sI (sI M 19 5 (nI i)) 19 6 (nI pr) := ⟨_, rfl⟩
              have fr0 : ∀ q x, q ≠ 19 → gI M0 q x = gI M q x := fun q x hq => by rw [hM0e, gI_p hq, gI_p hq]
              have j0 : ∀ q x, gJ M0 q x = gJ M q x := fun q x => by rw [hM0e]; rfl
              have hwant : F_X6_want tl tt M (55 + K l) (46 + 3 * k) (nI i) (nI pr) = some (some (55 + K l), some (46 + 3 * k), M0) := by rw [hM0e]; rfl
              have hx : CtxC M0 N m w (K l) i pr (46 + 3 * k) gd d := ⟨hd, hla.fr2 (fun p x hp => fr0 p x (by rintro rfl; simp [sLC] at hp)) agr.rf, k1, by rw [fr0 _ _ (by omega)]; exact h0 _ k1, hw, ⟨e, hg.fr (fun x => fr0 _ x (by omega)) (fun x => fr0 _ x (by omega)) (fun x => fr0 _ x (by omega))⟩, by omega, by omega, o2, hi, hpr, by rw [hM0e, gI_k (by decide), gI_same], by rw [hM0e, gI_same]⟩
              have hxm : CtxM N' m w (K l) i pr k l gd d := ⟨hd, m0, hL.1, hL.2.1, fun x hx => by rw [c6 8 x (by decide) (by decide) (by omega)]; exact hla.2.2.2.2.2.2.2.1 x hx, hla.2.2.2.2.2.2.1, hL.2.2.2.1, hL.2.2.2.2.1, hL.2.2.2.2.2.1, by rw [c6 9 l (by decide) (by decide) (by omega)]; exact k3, by omega, hk, hw, k1, hi, hpr⟩
              have hD0 : DpM N' d0 := hL.2.2.1
              have fN0 : FMd N' N' := ⟨fun _ _ _ _ _ _ => rfl, fun _ _ => rfl⟩
              rw [bd1e (ghas_in hg.2.2.2.1 (by omega) hi), if_neg n10, bd1e (in_sizeI (by omega) hi), if_neg n10, chk_pos (isX3_law _ k1), bd3e hwant]
              have hgar : F_X2_gardenOf M0 (gI M0 19 6) = some (nI (gset m w gd pr)) := by
                rw [hx.2.2.2.2.2.2.2.2.2.2.2.2, F_X2_gardenOf, if_neg (nneg pr (by omega)), if_neg (nI_nleN hpr (by decide)), chk_pos (inb_nI hpr (by decide)), clN (by omega), fr0 8 pr (by decide), hla.2.2.2.2.2.2.2.2 pr hpr]
              have hgl := gset_lt m w gd pr
              by_cases hg0' : gset m w gd pr = 0
              · -- a person without a garden
                have hF : F_X6_fewestMoves (some (55 + K l)) (some (46 + 3 * k)) M0 9 = some (-9, M0) := by
                  rw [F_X6_fewestMoves, bd1e hgar, hg0', if_pos e00]
                have hno := rch_no (gB_no (K := K l) (i := i) (di := d) hd hla.2.2.2.2.2.2.1 hg0')
                obtain ⟨R, y1, N1, y2, y3, y4⟩ := loop_inv (f := X9_steal_L71 (nI l) (nI k) (nI i) (nI pr) (nI j)) (fun x st => ∃ N1, st = (nI x, N1) ∧ FMd N' N1 ∧ DpM N1 d0) (fun R => ∃ N1, R = .inr (-9, N1) ∧ FMd N' N1 ∧ DpM N1 d0) 4 (fun x st hx4 hst => by
                  obtain ⟨N1, b0, b1, b2⟩ := hst
                  subst b0
                  rw [X9_steal_L71]
                  by_cases e4 : x = 4
                  · subst e4
                    rw [if_pos (Int32.le_refl _)]
                    exact Or.inr ⟨_, rfl, N1, rfl, b1, b2⟩
                  · obtain ⟨o, N2, s1, s2, s3, s4, s5, s6⟩ := steal_on (times := x) hxm (by omega) x 0 8 (by omega) (by omega) N1 d0 b1 b2 hw0
                    have s1 : F_X9_stealOn 8 N1 (nI l) (nI k) (nI i) (nI pr) 0 (nI x) = _ := s1
                    have ho : o = none := by
                      cases o with
                      | none => rfl
                      | some ll =>
                        have := s2.2.2.1
                        rw [hno ll d0 hw0] at this
                        cases this
                    subst ho
                    rw [if_neg (nI_nleN (by omega) (by decide)), bd2e s1, if_pos (show nI (b01 (none : Option (List Nat)).isSome) = 0 from rfl), lets, nI_1]
                    exact Or.inl ⟨by omega, _, rfl, N2, rfl, s3, s4⟩) (k := FU) (by decide) (s := (0, N')) ⟨N', rfl, fN0, hD0⟩
                subst y2
                exact ⟨-9, some (55 + K l), some (46 + 3 * k), M0, N1, by rw [bd2e hF, if_pos rfl], by rw [bd1e y1, se_r, un2_e], (hR.thief (fun q x hq => fr0 q x (by omega)) j0 y3 hD0 y4).up⟩
              · have h97 : gI M 9 7 = 0 ∨ gI M 9 7 = 1 := by
                  obtain ⟨m', w', gd', d', e', hc⟩ := h.core
                  have := hc.2.2.2.2.1.2.2.2.2.2.2
                  rw [this]
                  split
                  · exact Or.inl rfl
                  · exact Or.inr rfl
                obtain ⟨M3, b0, b1, b2, b3, b4, b5⟩ := become_eq (M := M0) (p := 21) (q := 9) (by decide) (by rw [fr0 9 7 (by decide)]; exact h97)
                obtain ⟨G1, G2, G3, G4, G5, G6, G7⟩ := hg0
                have n2 := HL_len hd (dg_lt hd hw0)
                have hA3 : AS M3 m w d0 e0 := ⟨fun c hc => by rw [b1 c hc, fr0 10 c (by decide)]; exact G1 c hc, by rw [b3 4 (by decide) (by decide), fr0 9 4 (by decide)]; exact G2, by rw [b3 6 (by decide) (by decide), fr0 9 6 (by decide)]; exact G6, dg d0, dg_lt hd hw0, by rw [b3 5 (by decide) (by decide), fr0 9 5 (by decide)]; exact G3, by rw [b3 3 (by decide) (by decide), fr0 9 3 (by decide)]; exact G4, fun x hx => by rw [b2 x (by omega), fr0 11 x (by decide)]; exact G5 x hx⟩
                have hF3 : FA M0 M3 := ⟨fun q x hq => b4 q x (by omega) (by omega) (by omega), b5⟩
                obtain ⟨R, R', y1, y2, M1, N1, y3, y4, y5, y6⟩ := loop_rel (f := X6_fewestMoves_L27 (some (55 + K l)) (some (46 + 3 * k))) (f' := X9_steal_L71 (nI l) (nI k) (nI i) (nI pr) (nI j)) (fun x s s' => ∃ M1 N1, s = (nI x, M1) ∧ s' = (nI x, N1) ∧ FA M0 M1 ∧ AS M1 m w d0 e0 ∧ FMd N' N1 ∧ DpM N1 d0 ∧ ∀ ll, ll.length < x → rch m (gB m w (K l) gd d i pr) ll d0 = false) (fun R R' => ∃ M1 N1, FA M0 M1 ∧ FMd N' N1 ∧ DpM N1 d0 ∧ ((R = (-9, M1) ∧ R' = .inr (-9, N1)) ∨ ∃ r ll, r ≤ 3 ∧ R = (nI r, M1) ∧ R' = .inl (nI r, N1) ∧ ll.length = r ∧ laidL M1 20 m ll 0 ∧ laidL N1 16 m ll 0)) 4 (fun x s s' hx4 hI => by
                  obtain ⟨M1, N1, d1, d2, d3, d4, d5, d6, d7⟩ := hI
                  subst d1; subst d2
                  rw [X6_fewestMoves_L27, X9_steal_L71]
                  by_cases e4 : x = 4
                  · subst e4
                    right
                    rw [if_pos (nI_lt (by decide) (by decide)), if_pos (Int32.le_refl _)]
                    exact ⟨_, _, rfl, rfl, M1, N1, d3, d5, d6, Or.inl ⟨rfl, rfl⟩⟩
                  · obtain ⟨o, M2, s1, s2, s3, s4, s5, s6⟩ := succ_eq (most := x) (e0 := e0) hx (by omega) x 0 8 (by omega) (by omega) M1 d0 0 d3 d4 hw0 (by omega)
                    obtain ⟨o', N2, u1, u2, u3, u4, u5, u6⟩ := steal_on (times := x) hxm (by omega) x 0 8 (by omega) (by omega) N1 d0 d5 d6 hw0
                    have s1 : F_X6_succeeds 8 (some (55 + K l)) (some (46 + 3 * k)) M1 0 0 (nI x) = _ := s1
                    have u1 : F_X9_stealOn 8 N1 (nI l) (nI k) (nI i) (nI pr) 0 (nI x) = _ := u1
                    have hoo := steal_same (by omega) d7 s2 u2
                    subst hoo
                    rw [if_neg (nI_nlt (by omega) (by decide)), if_neg (nI_nleN (by omega) (by decide)), bd2e s1, bd2e u1]
                    cases o with
                    | none =>
                      left
                      rw [if_pos (show nI (b01 (none : Option (List Nat)).isSome) = 0 from rfl), if_pos (show nI (b01 (none : Option (List Nat)).isSome) = 0 from rfl), lets, lets, nI_1]
                      refine ⟨by omega, _, _, rfl, rfl, M2, N2, rfl, rfl, s3, s4, u3, u4, fun ll hll => ?_⟩
                      by_cases el : ll.length = x
                      · exact u2 ll el (gsr_0 ll)
                      · exact d7 ll (by omega)
                    | some ll =>
                      right
                      rw [if_neg (show ¬ nI (b01 (some ll).isSome) = 0 from n0t), if_neg (show ¬ nI (b01 (some ll).isSome) = 0 from n0t)]
                      exact ⟨_, _, rfl, rfl, M2, N2, s3, u3, u4, Or.inr ⟨x, ll, by omega, rfl, rfl, s2.1, s6 ll rfl, u6 ll rfl⟩⟩) (k := FU) (k' := FU) (by decide) (by decide) (s := (0, M3)) (s' := (0, N')) ⟨M3, N', rfl, rfl, hF3, hA3, fN0, hD0, fun ll hll => absurd hll (Nat.not_lt_zero _)⟩
                have hfew : F_X6_fewestMoves (some (55 + K l)) (some (46 + 3 * k)) M0 9 = some R := by
                  rw [F_X6_fewestMoves, bd1e hgar, if_neg (nI_ne0 (by omega) (by omega)), bd1e b0, y1]
                have hR1 : Rel t lw M1 N1 := hR.thief (fun q x hq => by rw [y3.1 q x (by omega), fr0 q x (by omega)]) (fun q x => by rw [y3.2, j0]) y4 hD0 y5
                rcases y6 with ⟨rfl, rfl⟩ | ⟨r, ll, r3, rfl, rfl, hll, la1, la2⟩
                · exact ⟨-9, some (55 + K l), some (46 + 3 * k), M1, N1, by rw [bd2e hfew, if_pos rfl], by rw [bd1e y2, se_r, un2_e], hR1.up⟩
                · have hsame : ∀ x, x < r → gI M1 20 x = gI N1 16 x := fun x hx => by
                    have := laid_same ll 0 la1 la2 x (by omega)
                    rwa [Nat.zero_add] at this
                  have hsl := slen_row hj
                  have hCl : loop (X8_steal_L117 lw (some (55 + K l)) (some (46 + 3 * k)) (26 + 2 * j) (nI r)) FU (0, fil (sI M1 (26 + 2 * j) 1 (nI r)) (26 + 2 * j + 1) 0 0 r) = some (nI r, some (55 + K l), some (46 + 3 * k), wrs (fil (sI M1 (26 + 2 * j) 1 (nI r)) (26 + 2 * j + 1) 0 0 r) (26 + 2 * j + 1) 0 (fun x => gI M1 20 x) r) := by
                    refine loop_fn' (fun x => (nI x, wrs (fil (sI M1 (26 + 2 * j) 1 (nI r)) (26 + 2 * j + 1) 0 0 r) (26 + 2 * j + 1) 0 (fun x => gI M1 20 x) x)) r rfl (fun x hx => ?_) ?_ (by show r < 200000; omega)
                    · show X8_steal_L117 _ _ _ _ _ (_, _) = _
                      have hmv : gI (wrs (fil (sI M1 (26 + 2 * j) 1 (nI r)) (26 + 2 * j + 1) 0 0 r) (26 + 2 * j + 1) 0 (fun x => gI M1 20 x) x) 20 x = gI M1 20 x := by rw [gI_wrs, if_neg (by omega), gI_fil, if_neg (by omega), gI_p (by omega)]
                      have hsz : gI (wrs (fil (sI M1 (26 + 2 * j) 1 (nI r)) (26 + 2 * j + 1) 0 0 r) (26 + 2 * j + 1) 0 (fun x => gI M1 20 x) x) (26 + 2 * j) 1 = nI r := by rw [gI_wrs, if_neg (by omega), gI_fil, if_neg (by omega), gI_same]
                      have hat : F_X6_moveAt (wrs (fil (sI M1 (26 + 2 * j) 1 (nI r)) (26 + 2 * j + 1) 0 0 r) (26 + 2 * j + 1) 0 (fun x => gI M1 20 x) x) (nI x) = some (gI M1 20 x) := by
                        rw [F_X6_moveAt, if_neg (nneg x (by omega)), if_neg (nI_nleN (show x < 3 by omega) (by decide)), chk_pos (inb_nI (by omega) (by decide)), clN (by omega), hmv]
                      rw [X8_steal_L117, if_neg (nI_nleN hx (by omega)), bd1e hat, bd1e (set_in hsz hx (by omega)), lets, nI_1, wrs, Nat.zero_add]
                    · show X8_steal_L117 _ _ _ _ _ (_, _) = _
                      rw [X8_steal_L117, if_pos (nI_le (Nat.le_refl _) (by omega))]
                  have hMl : loop (X9_steal_L104 (nI j) (nI r)) FU (0, fil (sI N1 2 j (nI r)) 3 (40 * j) 0 40) = some (nI r, wrs (fil (sI N1 2 j (nI r)) 3 (40 * j) 0 40) 3 (40 * j) (fun x => gI N1 16 x) r) := by
                    refine loop_fn' (fun x => (nI x, wrs (fil (sI N1 2 j (nI r)) 3 (40 * j) 0 40) 3 (40 * j) (fun x => gI N1 16 x) x)) r rfl (fun x hx => ?_) ?_ (by show r < 200000; omega)
                    · show X9_steal_L104 _ _ (_, _) = _
                      have hmv : gI (wrs (fil (sI N1 2 j (nI r)) 3 (40 * j) 0 40) 3 (40 * j) (fun x => gI N1 16 x) x) 16 x = gI N1 16 x := by rw [gI_wrs, if_neg (by omega), gI_fil, if_neg (by omega), gI_p (by omega)]
                      rw [X9_steal_L104, if_neg (nI_nleN hx (by omega)), chk_pos (inb_nI (by omega) (by decide)), clN (by omega), hmv, bd1e (setRow_eq hj (by omega)), lets, nI_1, wrs]
                    · show X9_steal_L104 _ _ (_, _) = _
                      rw [X9_steal_L104, if_pos (nI_le (Nat.le_refl _) (by omega))]
                  refine ⟨nI r, some (55 + K l), some (46 + 3 * k), _, _, ?_, ?_, hR1.rowLay hj (show r ≤ 40 by omega) hsame⟩
                  · rw [bd2e hfew, if_neg (nI_n9 (by omega)), chk_pos (isX5_row hj), bd1e (renew_eq (by omega)), hCl]
                  · rw [bd1e y2, se_l, un2_e, bd2e (modelRow_eq hj (by omega)), hMl]
