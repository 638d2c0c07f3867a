/-! ===== image, on, then ===== -/
theorem op_image {lw : Nat → Option Nat} (tl tt : Option Nat) {M N : Mem} {t : Nat} (ht : t ≤ 3100) (h : Rel t lw M N) (a1 : Int32) : ∃ (r : Int32) (M' : Mem) (N' : Mem), F_X8_image M a1 = some (r, M') ∧ F_X9_image N a1 = some (r, N') ∧ Rel (t + 1) lw M' N' := by
  rcases cut 3 (by decide) a1 with z | ⟨k, hk, rfl⟩
  · exact ⟨-1, M, N, by rw [F_X8_image, bd1e (imageOf_no z), oc_n], by rw [F_X9_image, bd1e (isImage_no z), if_pos rfl], h.up⟩
  · have hR := h.up
    obtain ⟨hto, hro, htx, m, w, gd, d, e, hd, hw, he, hl, hg, hm, hi, hdd, hla⟩ := h
    have hle := hd.le
    have l1 := hl.1
    have l3 := hl.2.2.1
    have l4 := hl.2.2.2.1
    obtain ⟨o1, o2⟩ := imageOf_in hk
    have g7 := hg.2.2.2.2.2.2
    by_cases m0 : m = 0
    · subst m0
      rw [if_pos rfl] at g7
      exact ⟨-4, M, N, by rw [F_X8_image, bd1e o1, oc_s, g7, if_pos rfl], by rw [F_X9_image, bd1e (isImage_in hk), if_neg n10, l3, if_pos e00], hR⟩
    · rw [if_neg m0] at g7
      obtain ⟨M', b0, b1, b2, b3, b4, b5⟩ := become_eq (M := M) (p := 46 + 3 * k) (q := 9) (by omega) (Or.inr g7)
      have hal : alM 15 = 51 := rfl
      have hg' : GrC M' (46 + 3 * k) m w d e 1 := by
        have := GrC.become hd hw hg b1 b2 b3
        rw [if_neg m0] at this
        exact this
      -- the model
      have c0 := write_eq (N := N) (p := 15) (b := 17 * k) (by omega) (by decide) (by decide) (by decide)
      have hN2 : ∀ q x, q ≠ 15 → gI (sI (wrs N 15 (17 * k) (fun c => gI N 7 c) 16) 15 (17 * k + 16) (gI N 0 16)) q x = gI N q x := fun q x hq => by
        rw [gI_p hq, gI_wrs, if_neg (fun z => hq z.1)]
      have hN3 : ∀ x, x < 17 → gI (sI (wrs N 15 (17 * k) (fun c => gI N 7 c) 16) 15 (17 * k + 16) (gI N 0 16)) 15 (17 * k + x) = if x = 16 then gI N 0 16 else gI N 7 x := fun x hx => by
        by_cases ex : x = 16
        · subst ex; rw [gI_same, if_pos rfl]
        · rw [gI_k (by omega), gI_wrs, if_pos (by omega), if_neg ex]
          congr 1
          omega
      have hN4 : ∀ x, (x < 17 * k ∨ 17 * k + 17 ≤ x) → gI (sI (wrs N 15 (17 * k) (fun c => gI N 7 c) 16) 15 (17 * k + 16) (gI N 0 16)) 15 x = gI N 15 x := fun x hx => by
        rw [gI_k (by omega), gI_wrs, if_neg (by omega)]
      have hNJ : ∀ q x, gJ (sI (wrs N 15 (17 * k) (fun c => gI N 7 c) 16) 15 (17 * k + 16) (gI N 0 16)) q x = gJ N q x := fun q x => by rw [gJ_sI, gJ_wrs]
      generalize sI (wrs N 15 (17 * k) (fun c => gI N 7 c) 16) 15 (17 * k + 16) (gI N 0 16) = N2 at c0 hN2 hN3 hN4 hNJ
      have q1 : ∀ q x, q ≠ 15 → q ≠ 14 → gI (sI N2 14 k 1) q x = gI N q x := fun q x h1 h2 => by rw [gI_p h2, hN2 q x h1]
      obtain ⟨N', f1, f2, f3, f4, f5⟩ := layHoles_eq (N := sI N2 14 k 1) hd (by rw [q1 _ _ (by decide) (by decide)]; exact l3) (by rw [q1 _ _ (by decide) (by decide)]; exact l4) hw (fun c hc => by rw [q1 _ _ (by decide) (by decide)]; exact hm.1 c hc)
      have q2 : ∀ q x, q ≠ 15 → q ≠ 14 → q ≠ 11 → ¬ (q = 0 ∧ x = 23) → gI N' q x = gI N q x := fun q x h1 h2 h3 h4 => by rw [f4 q x h3 h4, q1 q x h1 h2]
      have q15 : ∀ x, gI N' 15 x = gI N2 15 x := fun x => by rw [f4 15 x (by decide) (by omega), gI_p (by decide)]
      have q14 : ∀ x, gI N' 14 x = if x = k then 1 else gI N 14 x := fun x => by
        rw [f4 14 x (by decide) (by omega), gI_sI, hN2 14 x (by decide)]
        by_cases ex : x = k
        · rw [if_pos ⟨rfl, ex⟩, if_pos ex]
        · rw [if_neg (fun y => ex y.2), if_neg ex]
      have e1 : F_X9_holeCount (sI N2 14 k 1) = some (nI (HL m w (dg d)).length, N') := by rw [F_X9_holeCount, bd1e f1, f2]
      refine ⟨nI (HL m w (dg d)).length, M', N', ?_, ?_, ?_⟩
      · rw [F_X8_image, bd1e o1, oc_s, g7, if_neg n10, chk_pos o2, bd1e b0, hg'.2.2.2.1]
      · rw [F_X9_image, bd1e (isImage_in hk), if_neg n10, l3, if_neg (show ¬ nI m = 0 from fun y => m0 ((nI_eq (a := m) (b := 0) (by omega) (by decide)).mp y)), n17, bd1e c0, chk_pos (inb_nI hk (by decide)), clN (by omega), lets, bd2e e1]
      · have aM : ∀ p x, (p < 46 ∨ 55 ≤ p) → gI M' p x = gI M p x := fun p x hp => b4 p x (by omega) (by omega) (by omega)
        have aN : ∀ {S : Nat → Nat → Bool}, (∀ x, S 15 x = false) → (∀ x, S 14 x = false) → (∀ x, S 11 x = false) → S 0 23 = false → agr S N N' := fun s1 s2 s3 s4 p x hp => q2 p x (by rintro rfl; rw [s1] at hp; cases hp) (by rintro rfl; rw [s2] at hp; cases hp) (by rintro rfl; rw [s3] at hp; cases hp) (by rintro ⟨rfl, rfl⟩; rw [s4] at hp; cases hp)
        have jN : ∀ q x, gJ N' q x = gJ N q x := fun q x => by rw [f5, gJ_sI, hNJ]
        have aM' : ∀ {S : Nat → Nat → Bool}, (∀ p x, 46 ≤ p → p < 55 → S p x = false) → agr S M M' := fun s p x hp => aM p x (by
          by_cases y : p < 46
          · exact Or.inl y
          · by_cases y2 : p < 55
            · rw [s p x (by omega) y2] at hp; cases hp
            · exact Or.inr (by omega))
        refine ⟨hto.fr (aM' (fun p x _ _ => ?_)) (aN (fun _ => rfl) (fun _ => rfl) (fun _ => rfl) rfl) (b5 _ _) (b5 _ _) (jN _ _) (jN _ _), hro.fr (aM' (fun p x _ _ => ?_)) (aN (fun _ => rfl) (fun _ => rfl) (fun _ => rfl) rfl), htx.fr (aM' (fun p x _ _ => ?_)) (aN (fun _ => rfl) (fun _ => rfl) (fun _ => rfl) rfl), m, w, gd, d, e, hd, hw, by omega, hl.fr2 (aM' (fun p x _ _ => ?_)) (aN (fun _ => rfl) (fun _ => rfl) (fun _ => rfl) rfl), hg.fr (fun x => aM _ _ (by omega)) (fun x => aM _ _ (by omega)) (fun x => aM _ _ (by omega)), ⟨fun c hc => ?_, ?_⟩, fun k' hk' => ?_, (hdd.fr2 (aM' (fun p x _ _ => ?_)) (aN (fun _ => rfl) (fun _ => rfl) (fun _ => rfl) rfl)).up, hla.fr2 (aM' (fun p x _ _ => ?_)) (aN (fun _ => rfl) (fun _ => rfl) (fun _ => rfl) rfl)⟩
        · simp [sToC]; omega
        · simp [sRwC]; omega
        · simp [sTxC]; omega
        · simp [sLC]; omega
        · rw [q2 7 c (by decide) (by decide) (by decide) (by omega)]; exact hm.1 c hc
        · rw [q2 0 16 (by decide) (by decide) (by decide) (by omega)]; exact hm.2
        · by_cases ek : k' = k
          · subst ek
            refine Or.inr ⟨by rw [q14, if_pos rfl], by omega, d, e, by omega, hw, hg', fun c hc => ?_, ?_⟩
            · rw [q15, hN3 c (by omega), if_neg (by omega), hm.1 c hc]
            · rw [q15, hN3 16 (by decide), if_pos rfl, hm.2]
          · refine ((hi k' hk').fr2 (fun r x h1 h2 => b4 r x (by omega) (by omega) (by omega)) (by rw [q14, if_neg ek]) (fun x hx => ?_)).up
            rw [q15, hN4 _ (by omega)]
        · simp [sDC]; omega
        · simp [sLC]; omega
