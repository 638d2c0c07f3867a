/-! ===== on, then ===== -/
theorem op_on {lw : Nat → Option Nat} (tl tt : Option Nat) {M N : Mem} {t : Nat} (ht : t ≤ 3100) (h : Rel t lw M N) (a1 : Int32) : ∃ (r : Int32) (M' : Mem) (N' : Mem), F_X8_on M a1 = some (r, M') ∧ F_X9_on N a1 = some (r, N') ∧ Rel (t + 1) lw M' N' := by
  rcases cut 3 (by decide) a1 with z | ⟨k, hk, rfl⟩
  · exact ⟨-1, M, N, by rw [F_X8_on, bd1e (imageOf_no z), oc_n], by rw [F_X9_on, bd1e (isImage_no z), if_pos rfl], h.up⟩
  · have hf := h.found (k := 1) (by decide)
    obtain ⟨hto, hro, htx, m, w, gd, d0, e0, hd, hw0, he0, hl, hg0, hm0, hi, hdd, hla⟩ := h
    have hle := hd.le
    have l3 := hl.2.2.1
    have l4 := hl.2.2.2.1
    obtain ⟨o1, o2⟩ := imageOf_in hk
    rcases hi k hk with ⟨z1, z2⟩ | ⟨z1, mp, d, e, he, hw, hg, hm⟩
    · exact ⟨-3, _, _, by rw [F_X8_on, bd1e o1, oc_s, chk_pos o2, z1, if_pos rfl, bd2e found1], by rw [F_X9_on, bd1e (isImage_in hk), if_neg n10, chk_pos (inb_nI hk (by decide)), clN (by omega), z2, if_pos rfl, bd2e meet1], hf⟩
    · have g7 := hg.2.2.2.2.2.2
      obtain ⟨M1, b0, b1, b2, b3, b4, b5⟩ := become_eq (M := M) (p := 9) (q := 46 + 3 * k) (by omega) (Or.inr g7)
      have hal : alM 15 = 51 := rfl
      have hg' : GrC M1 9 m w d e 1 := GrC.become hd hw hg b1 b2 b3
      have c0 := readBack_eq (N := N) (p := 15) (b := 17 * k) (by omega) (by decide) (by decide)
      have hN2 : ∀ q x, q ≠ 7 → ¬ (q = 0 ∧ x = 16) → gI (sI (wrs N 7 0 (fun c => gI N 15 (17 * k + c)) 16) 0 16 (gI N 15 (17 * k + 16))) q x = gI N q x := fun q x hq hx => by
        rw [gI_sI, if_neg hx, gI_wrs, if_neg (fun z => hq z.1)]
      have hN3 : ∀ x, x < 16 → gI (sI (wrs N 7 0 (fun c => gI N 15 (17 * k + c)) 16) 0 16 (gI N 15 (17 * k + 16))) 7 x = nI (d x) := fun x hx => by
        rw [gI_p (by decide), gI_wrs, if_pos (by omega), Nat.sub_zero]
        exact hm.1 x hx
      have hN4 : gI (sI (wrs N 7 0 (fun c => gI N 15 (17 * k + c)) 16) 0 16 (gI N 15 (17 * k + 16))) 0 16 = nI e := by
        rw [gI_same]
        exact hm.2
      have hNJ : ∀ q x, gJ (sI (wrs N 7 0 (fun c => gI N 15 (17 * k + c)) 16) 0 16 (gI N 15 (17 * k + 16))) q x = gJ N q x := fun q x => by rw [gJ_sI, gJ_wrs]
      generalize sI (wrs N 7 0 (fun c => gI N 15 (17 * k + c)) 16) 0 16 (gI N 15 (17 * k + 16)) = N2 at c0 hN2 hN3 hN4 hNJ
      have q1 : ∀ q x, q ≠ 7 → ¬ (q = 0 ∧ (x = 16 ∨ x = 26)) → gI (sI N2 0 26 0) q x = gI N q x := fun q x h1 h2 => by rw [gI_sI, if_neg (fun y => h2 ⟨y.1, Or.inr y.2⟩), hN2 q x h1 (fun y => h2 ⟨y.1, Or.inl y.2⟩)]
      obtain ⟨N', f1, f2, f3, f4, f5⟩ := layHoles_eq (N := sI N2 0 26 0) hd (by rw [q1 _ _ (by decide) (by decide)]; exact l3) (by rw [q1 _ _ (by decide) (by decide)]; exact l4) hw (fun c hc => by rw [gI_p (by decide)]; exact hN3 c hc)
      have q2 : ∀ q x, q ≠ 7 → q ≠ 11 → ¬ (q = 0 ∧ (x = 16 ∨ x = 26 ∨ x = 23)) → gI N' q x = gI N q x := fun q x h1 h2 h3 => by rw [f4 q x h2 (fun y => h3 ⟨y.1, Or.inr (Or.inr y.2)⟩), q1 q x h1 (fun y => h3 ⟨y.1, by omega⟩)]
      have e1 : F_X9_holeCount (sI N2 0 26 0) = some (nI (HL m w (dg d)).length, N') := by rw [F_X9_holeCount, bd1e f1, f2]
      refine ⟨nI (HL m w (dg d)).length, sI M1 15 3 0, N', ?_, ?_, ?_⟩
      · rw [F_X8_on, bd1e o1, oc_s, chk_pos o2, g7, if_neg n10, bd1e b0]
        show some (gI (sI M1 15 3 0) 9 3, _) = _
        rw [gI_p (by decide), hg'.2.2.2.1]
      · rw [F_X9_on, bd1e (isImage_in hk), if_neg n10, chk_pos (inb_nI hk (by decide)), clN (by omega), z1, if_neg n10, n17, bd1e c0, lets, bd2e e1]
      · have aM : ∀ p x, (p < 9 ∨ 12 ≤ p) → ¬ (p = 15 ∧ x = 3) → gI (sI M1 15 3 0) p x = gI M p x := fun p x hp hx => by rw [gI_sI, if_neg hx, b4 p x (by omega) (by omega) (by omega)]
        have aM' : ∀ {S : Nat → Nat → Bool}, (∀ p x, 9 ≤ p → p < 12 → S p x = false) → S 15 3 = false → agr S M (sI M1 15 3 0) := fun s s2 p x hp => aM p x (by
          by_cases y : p < 9
          · exact Or.inl y
          · by_cases y2 : p < 12
            · rw [s p x (by omega) y2] at hp; cases hp
            · exact Or.inr (by omega)) (by rintro ⟨rfl, rfl⟩; rw [s2] at hp; cases hp)
        have aN : ∀ {S : Nat → Nat → Bool}, (∀ x, S 7 x = false) → (∀ x, S 11 x = false) → S 0 23 = false → S 0 16 = false → S 0 26 = false → agr S N N' := fun s1 s3 s4 s5 s6 p x hp => q2 p x (by rintro rfl; rw [s1] at hp; cases hp) (by rintro rfl; rw [s3] at hp; cases hp) (by
          rintro ⟨rfl, rfl | rfl | rfl⟩
          · rw [s5] at hp; cases hp
          · rw [s6] at hp; cases hp
          · rw [s4] at hp; cases hp)
        have jN : ∀ q x, gJ N' q x = gJ N q x := fun q x => by rw [f5, gJ_sI, hNJ]
        have jM : ∀ q x, gJ (sI M1 15 3 0) q x = gJ M q x := fun q x => by rw [gJ_sI, b5]
        refine ⟨hto.fr (aM' (fun p x _ _ => ?_) rfl) (aN (fun _ => rfl) (fun _ => rfl) rfl rfl rfl) (jM _ _) (jM _ _) (jN _ _) (jN _ _), hro.fr (aM' (fun p x _ _ => ?_) rfl) (aN (fun _ => rfl) (fun _ => rfl) rfl rfl rfl), htx.fr (aM' (fun p x _ _ => ?_) rfl) (aN (fun _ => rfl) (fun _ => rfl) rfl rfl rfl), m, w, gd, d, e, hd, hw, by omega, hl.fr2 (aM' (fun p x _ _ => ?_) rfl) (aN (fun _ => rfl) (fun _ => rfl) rfl rfl rfl), ?_, ⟨fun c hc => ?_, ?_⟩, fun k' hk' => ?_, ⟨0, fun _ => d, fun _ => e, by omega, gI_same _ _ _ _, ?_, rfl, rfl, fun i hi => absurd hi (Nat.not_lt_zero _), fun i hi => absurd hi (Nat.not_lt_zero _)⟩, hla.fr2 (aM' (fun p x _ _ => ?_) rfl) (aN (fun _ => rfl) (fun _ => rfl) rfl rfl rfl)⟩
        · simp [sToC]; omega
        · simp [sRwC]; omega
        · simp [sTxC]; omega
        · simp [sLC]; omega
        · rw [if_neg (by omega)]
          exact hg'.fr (fun x => gI_p (by decide)) (fun x => gI_p (by decide)) (fun x => gI_p (by decide))
        · rw [f4 7 c (by decide) (by omega), gI_p (by decide), hN3 c hc]
        · rw [f4 0 16 (by decide) (by omega), gI_k (by decide), hN4]
        · exact ((hi k' hk').fr2 (fun r x h1 h2 => aM r x (by omega) (by omega)) (q2 14 k' (by decide) (by decide) (by omega)) (fun x hx => q2 15 _ (by decide) (by decide) (by omega))).up
        · rw [f4 0 26 (by decide) (by omega), gI_same]
          rfl
        · simp [sLC]; omega
/-- what is told of a hole, in both programs -/
theorem told_same {M N : Mem} {p a b m w j k : Nat} {gd d : Nat → Nat} {e : Nat} {th : Int32} (hd : Dm m w) (hw : DW m d) (hl : LandR M N m w gd) (hg : GrC M p m w d e th) (hb : b + 16 ≤ alM a) (ha : alM a < 2 ^ 31) (hm : ∀ c, c < 16 → gI N a (b + c) = nI (d c)) (hj : j < (HL m w (dg d)).length) (hk : k < 5) : ∃ x, F_X1_holeTold M p (nI j) (nI k) = some x ∧ F_X9_holeOf N a (nI b) (nI ((HL m w (dg d)).getD j 0)) (nI k) = some x := by
  have hle := hd.le
  obtain ⟨l1, l2, l3, l4, l5, l6, l7, l8, l9⟩ := id hl
  obtain ⟨g1, g2, g3, g4, g5, g6, g7⟩ := hg
  have hT := dg_lt hd hw
  have hlen := HL_len hd hT
  have hs := HL_lt hd hT hj
  have hs16 := lt16 hd hs
  obtain ⟨c, hc⟩ : ∃ c, ((HL m w (dg d)).getD j 0).testBit c = true := ((hl_inv hd hT m (Nat.le_refl _)).2.2.2.1 j hj).2.1
  have hbo := bitsOf_in (p := p) g4 hlen g5 hj
  generalize hS : (HL m w (dg d)).getD j 0 = s at hs hs16 hc hbo
  have hk5 : k = 0 ∨ k = 1 ∨ k = 2 ∨ k = 3 ∨ k = 4 := by omega
  rcases hk5 with rfl | rfl | rfl | rfl | rfl
  · refine ⟨nI s, ?_, ?_⟩
    · rw [F_X1_holeTold, bd1e hbo, if_pos e00]
    · rw [F_X9_holeOf, if_pos e00]
  · refine ⟨nI (pc s), ?_, ?_⟩
    · rw [F_X1_holeTold, bd1e hbo, if_neg (by decide), if_pos e11, bd1e (cbits hs16)]
    · rw [F_X9_holeOf, if_neg (by decide), if_pos e11, bd1e (msize hs16)]
  · refine ⟨nI (volN d s 16), ?_, ?_⟩
    · rw [F_X1_holeTold, bd1e hbo, if_neg (by decide), if_neg (by decide), if_pos rfl, bd1e (cvol_eq g1 hs16)]
    · rw [F_X9_holeOf, if_neg (by decide), if_neg (by decide), if_pos rfl, bd1e (mvol_eq hle.1 l3 hb ha hm hs)]
  · refine ⟨nI (botN d s 16), ?_, ?_⟩
    · rw [F_X1_holeTold, bd1e hbo, if_neg (by decide), if_neg (by decide), if_neg (by decide), if_pos rfl, bd1e (cbot_eq g1 hw.1 hs16)]
    · rw [F_X9_holeOf, if_neg (by decide), if_neg (by decide), if_neg (by decide), if_pos rfl, bd1e (mbot_eq hle.1 l3 hb ha hm hw.1 hs)]
  · refine ⟨nI (am (own m w gd s) 4), ?_, ?_⟩
    · rw [F_X1_holeTold, bd1e hbo, if_neg (by decide), if_neg (by decide), if_neg (by decide), if_neg (by decide), bd1e (owner_same hd hl hs hc).1]
    · rw [F_X9_holeOf, if_neg (by decide), if_neg (by decide), if_neg (by decide), if_neg (by decide), bd1e (mwhose_eq hd l3 l4 l8 l7 hs)]
/-- the image's holes laid into place 12, then the ground's own into 11 -/
theorem needImage_eq {N : Mem} {m w k : Nat} {d d' : Nat → Nat} {e' : Nat} (hd : Dm m w) (h0 : gI N 0 11 = nI m) (h1 : gI N 0 10 = nI w) (hw : DW m d) (h7 : ∀ c, c < 16 → gI N 7 c = nI (d c)) (hk : k < 3) (h14 : gI N 14 k = 1) (hw' : DW m d') (hm : GrM N 15 (17 * k) d' e') : ∃ N', F_X9_needImage N (nI k) = some (0, N') ∧ gI N' 0 25 = nI (HL m w (dg d')).length ∧ HolesIn N' 12 (HL m w (dg d')) ∧ gI N' 0 23 = nI (HL m w (dg d)).length ∧ HolesIn N' 11 (HL m w (dg d)) ∧ (∀ q x, q ≠ 11 → q ≠ 12 → ¬ (q = 0 ∧ (x = 23 ∨ x = 25)) → gI N' q x = gI N q x) ∧ ∀ q x, gJ N' q x = gJ N q x := by
  have hal : alM 15 = 51 := rfl
  have e1 := dugIn_eq (N := N) (p := 15) (b := 17 * k) (by omega) (by decide) hm.1 hw'.1
  obtain ⟨N1, c1, c2, c3, c4⟩ := findHoles_eq (p := 12) hd h0 h1 (dg_lt hd hw') (by decide) rfl
  have q1 : ∀ q x, q ≠ 12 → ¬ (q = 0 ∧ x = 25) → gI (sI N1 0 25 (nI (HL m w (dg d')).length)) q x = gI N q x := fun q x hq hx => by rw [gI_sI, if_neg hx, c3 q x hq]
  obtain ⟨N', f1, f2, f3, f4, f5⟩ := layHoles_eq (N := sI N1 0 25 (nI (HL m w (dg d')).length)) hd (by rw [q1 _ _ (by decide) (by decide)]; exact h0) (by rw [q1 _ _ (by decide) (by decide)]; exact h1) hw (fun c hc => by rw [q1 _ _ (by decide) (by omega)]; exact h7 c hc)
  refine ⟨N', ?_, ?_, fun i hi => ?_, f2, f3, fun q x h1 h2 h3 => ?_, fun q x => ?_⟩
  · rw [F_X9_needImage, chk_pos (inb_nI hk (by decide)), clN (by omega), h14, if_neg n10, n17, bd1e e1, bd2e c1, lets, bd1e f1]
  · rw [f4 0 25 (by decide) (by omega), gI_same]
  · rw [f4 12 i (by decide) (by omega), gI_p (by decide)]
    exact c2 i hi
  · rw [f4 q x h1 (fun y => h3 ⟨y.1, Or.inl y.2⟩), q1 q x h2 (fun y => h3 ⟨y.1, Or.inr y.2⟩)]
  · rw [f5, gJ_sI, c4]
theorem Rel.lay2 {t : Nat} {lw : Nat → Option Nat} {M N N' : Mem} (h : Rel t lw M N) (h1 : ∀ q x, q ≠ 11 → q ≠ 12 → ¬ (q = 0 ∧ (x = 23 ∨ x = 25)) → gI N' q x = gI N q x) (h2 : ∀ q k, gJ N' q k = gJ N q k) : Rel t lw M N' := by
  refine h.frm agr.rf (fun p k hp => h1 p k ?_ ?_ ?_) (fun _ => rfl) ⟨h2 _ _, h2 _ _⟩
  · rintro rfl
    simp [sRelM, sAllM, sRwM, sTxM, sGM, sToM] at hp
  · rintro rfl
    simp [sRelM, sAllM, sRwM, sTxM, sGM, sToM] at hp
  · rintro ⟨rfl, rfl | rfl⟩ <;> simp [sRelM, sAllM, sRwM, sTxM, sGM, sToM] at hp
theorem needImage_no {N : Mem} {k : Nat} (hk : k < 3) (h : gI N 14 k = 0) : F_X9_needImage N (nI k) = some (-3, fndM N 1) := by
  rw [F_X9_needImage, chk_pos (inb_nI hk (by decide)), clN (by omega), h, if_pos rfl, bd2e meet1]
theorem op_then {lw : Nat → Option Nat} (tl tt : Option Nat) {M N : Mem} {t : Nat} (ht : t ≤ 3100) (h : Rel t lw M N) (a1 : Int32) (a2 : Int32) (a3 : Int32) : ∃ (r : Int32) (M' : Mem) (N' : Mem), F_X8_then M a1 a2 a3 = some (r, M') ∧ F_X9_then N a1 a2 a3 = some (r, N') ∧ Rel (t + 1) lw M' N' := by
  rcases cut 3 (by decide) a1 with z | ⟨k, hk, rfl⟩
  · exact ⟨-1, M, N, by rw [F_X8_then, bd1e (imageOf_no z), oc_n], by rw [F_X9_then, bd1e (isImage_no z), if_pos rfl], h.up⟩
  · obtain ⟨o1, o2⟩ := imageOf_in hk
    rcases cut 5 (by decide) a3 with z | ⟨k3, hk3, rfl⟩
    · refine ⟨-1, M, N, ?_, ?_, h.up⟩
      · rw [F_X8_then, bd1e o1, oc_s]
        by_cases y : a3 < 0
        · rw [if_pos y]
        · rw [if_neg y, if_neg (not_lt_of (z.resolve_left y) (by decide))]
      · rw [F_X9_then, bd1e (isImage_in hk), if_neg n10, bd1e (in_no (z.imp_right (fun y => lt_of_le y (by decide)))), if_pos rfl]
    · have hin : F_X9_in (nI k3) 0 (nI 4) = some 1 := in_yes (nneg k3 (by omega)) (by rw [nI_ltI (by decide) (by omega)]; omega)
      have hf := h.found (k := 1) (by decide)
      have hh := h
      obtain ⟨hto, hro, htx, m, w, gd, d0, e0, hd, hw0, he0, hl, hg0, hm0, hi, hdd, hla⟩ := h
      rcases hi k hk with ⟨z1, z2⟩ | ⟨z1, mp, d, e, he, hw, hg, hm⟩
      · refine ⟨-3, fndC M 1, fndM N 1, ?_, ?_, hf⟩
        · rw [F_X8_then, bd1e o1, oc_s, if_neg (nneg k3 (by omega)), if_pos (nI_lt hk3 (by decide)), chk_pos o2, z1, if_pos rfl, bd2e found1]
        · rw [F_X9_then, bd1e (isImage_in hk), if_neg n10, bd1e hin, if_neg n10, bd2e (needImage_no hk z2), if_neg (by decide)]
      · have hle := hd.le
        have l3 := hl.2.2.1
        have l4 := hl.2.2.2.1
        have g7 := hg.2.2.2.2.2.2
        have g4 := hg.2.2.2.1
        have hlen := HL_len hd (dg_lt hd hw)
        obtain ⟨N', c1, c2, c3, c4, c5, c6, c7⟩ := needImage_eq hd l3 l4 hw0 hm0.1 hk z1 hw hm
        have hR := hh.lay2 c6 c7
        rcases cut (HL m w (dg d)).length (by omega) a2 with z | ⟨j, hj, rfl⟩
        · refine ⟨-1, M, N', ?_, ?_, hR.up⟩
          · rw [F_X8_then, bd1e o1, oc_s, if_neg (nneg k3 (by omega)), if_pos (nI_lt hk3 (by decide)), chk_pos o2, g7, if_neg n10, bd1e (ghas_no g4 z), if_pos rfl]
          · rw [F_X9_then, bd1e (isImage_in hk), if_neg n10, bd1e hin, if_neg n10, bd2e c1, if_pos (by decide), c2, bd1e (in_size (by omega) z), if_pos rfl]
        · have hl' : LandR M N' m w gd := hl.fr2 agr.rf (fun p x hp => c6 p x (by rintro rfl; simp [sLM] at hp) (by rintro rfl; simp [sLM] at hp) (by rintro ⟨rfl, rfl | rfl⟩ <;> simp [sLM] at hp))
          have hal : alM 15 = 51 := rfl
          obtain ⟨x, x1, x2⟩ := told_same (N := N') (a := 15) (b := 17 * k) (j := j) (k := k3) hd hw hl' hg (by omega) (by decide) (fun c hc => by rw [c6 15 _ (by decide) (by decide) (by omega)]; exact hm.1 c hc) hj hk3
          refine ⟨1, sI M 0 12 x, sI N' 0 2 x, ?_, ?_, hR.ask _⟩
          · rw [F_X8_then, bd1e o1, oc_s, if_neg (nneg k3 (by omega)), if_pos (nI_lt hk3 (by decide)), chk_pos o2, g7, if_neg n10, bd1e (ghas_in g4 (by omega) hj), if_neg n10, bd1e x1, bd2e tell_eq]
          · rw [F_X9_then, bd1e (isImage_in hk), if_neg n10, bd1e hin, if_neg n10, bd2e c1, if_pos (by decide), c2, bd1e (in_sizeI (by omega) hj), if_neg n10, chk_pos (inb_nI (by omega) (by decide)), clN (by omega), c3 j hj, n17, bd1e x2, bd2e ask_eq]
