/-! ===== share ===== -/
def shN (w : Nat) (gd d : Nat → Nat) (s r n : Nat) : Nat := sm (fun c => if s.testBit c then (if gd (c % w) = r then d c else 0) else 0) n
theorem shN_vol {m w s r : Nat} {gd d : Nat → Nat} (hm : m ≤ 16) (hs : s < 2 ^ m) : shN w gd d s r m = volN d (s &&& gset m w gd r) 16 := by
  unfold shN volN
  rw [← sm_ext hm (fun i h1 _ => by rw [tb_lt hs h1]; rfl)]
  apply sm_congr
  intro i hi
  rw [Nat.testBit_and]
  unfold gset
  rw [bs_tb]
  cases e : s.testBit i
  · rfl
  · have := tb_m hs e
    by_cases eg : gd (i % w) = r
    · simp [eg, hi, this]
    · simp [eg]
theorem mshare_eq {N : Mem} {m w s r j : Nat} {gd d : Nat → Nat} (hd : Dm m w) (h0 : gI N 0 11 = nI m) (h1 : gI N 0 10 = nI w) (h8 : ∀ x, x < 4 → gI N 8 x = nI (gd x)) (hg : ∀ x, gd x < 4) (hr : r < 4) (hs : s < 2 ^ m) (hj : j < 8) (h11 : gI N 11 j = nI s) (h7 : ∀ c, c < 16 → gI N 7 c = nI (d c)) : loop (X9_share_L24 N (nI j) (nI r)) FU (0, 0) = some (nI (volN d (s &&& gset m w gd r) 16)) := by
  have hle := hd.le
  have hs16 := lt16 hd hs
  rw [← shN_vol hle.1 hs]
  refine loop_fn' (fun i => (nI (shN w gd d s r i), nI i)) m rfl (fun i hi => ?_) ?_ (by show m < 200000; omega)
  · show X9_share_L24 N (nI j) (nI r) (_, _) = _
    rw [X9_share_L24, h0, if_neg (nI_nleN hi (by omega)), chk_pos (inb_nI hj (by decide)), clN (by omega), h11, shN, shN, sm]
    cases e : s.testBit i
    · rw [bd1e (mhas_f (by omega) (by omega) e), if_pos rfl, if_neg (by decide)]
      simp only [lets]
      rw [nI_1, show (0 : Int32) = nI 0 from rfl, nI_add]
    · have hw : w ≠ 0 := by
        intro z; subst z
        rcases hd with z | z <;> omega
      have hlt := Nat.mod_lt i (show 0 < w by omega)
      have hgi := hg (i % w)
      rw [bd1e (mhas_t (by omega) (by omega) e), if_neg (by decide), h1, chk_pos (show ¬ nI w = 0 from fun z => hw ((nI_eq (a := w) (b := 0) (by omega) (by decide)).mp z)), irm_c i (by omega) w (by omega) hw, chk_pos (inb_nI (by omega) (by decide)), clN (by omega), h8 _ (by omega), if_pos rfl]
      by_cases eg : gd (i % w) = r
      · rw [if_pos (by rw [eg]), if_pos eg, chk_pos (inb_nI (by omega) (by decide)), clN (by omega), h7 i (by omega)]
        simp only [lets]
        rw [nI_add, nI_1]
      · rw [if_neg (fun z => eg ((nI_eq (by omega) (by omega)).mp z)), if_neg eg]
        simp only [lets]
        rw [nI_1, show (0 : Int32) = nI 0 from rfl, nI_add]
  · show X9_share_L24 N (nI j) (nI r) (_, _) = _
    rw [X9_share_L24, h0, if_pos (nI_le (Nat.le_refl _) (by omega))]
theorem vol_pos {d : Nat → Nat} {s k : Nat} (hk : k < 16) (h : s.testBit k = true) (hd : 0 < d k) : 0 < volN d s 16 := by
  have : sm (fun _ => 0) 16 < volN d s 16 := sm_lt (j := k) (fun i _ => Nat.zero_le _) hk (by rw [h]; exact hd)
  omega
theorem op_share {lw : Nat → Option Nat} (tl tt : Option Nat) {M N : Mem} {t : Nat} (ht : t ≤ 3100) (h : Rel t lw M N) (a1 : Int32) (a2 : Int32) : ∃ (r : Int32) (M' : Mem) (N' : Mem), F_X8_share M a1 a2 = some (r, M') ∧ F_X9_share N a1 a2 = some (r, N') ∧ Rel (t + 1) lw M' N' := by
  obtain ⟨m, w, gd, d, e, hd, hw, he, hl, hg, hm, -⟩ := h.2.2.2
  have hle := hd.le
  obtain ⟨l1, l2, l3, l4, l5, l6, l7, l8, l9⟩ := hl
  obtain ⟨g1, g2, g3, g4, g5, g6, g7⟩ := hg
  have hT := dg_lt hd hw
  have hlen := HL_len hd hT
  obtain ⟨N', f1, f2, f3, f4, f5⟩ := layHoles_eq hd l3 l4 hw hm.1
  have hR := h.lay f4 f5
  rcases cut (HL m w (dg d)).length (by omega) a1 with z | ⟨j, hj, rfl⟩
  · have e1 : F_X9_isHole N a1 = some (0, N') := by rw [F_X9_isHole, bd1e f1, f2, bd1e (in_size (by omega) z), chk_pos (Or.inl rfl)]
    exact ⟨-1, M, N', by rw [F_X8_share, bd1e (ghas_no g4 z), if_pos rfl], by rw [F_X9_share, bd2e e1, if_pos rfl], hR.up⟩
  · have e1 : F_X9_isHole N (nI j) = some (1, N') := by rw [F_X9_isHole, bd1e f1, f2, bd1e (in_sizeI (by omega) hj), chk_pos (Or.inr rfl)]
    rcases cut 4 (by decide) a2 with z | ⟨k, hk, rfl⟩
    · refine ⟨-1, M, N', ?_, ?_, hR.up⟩
      · have e2 : F_X8_isPerson a2 = some 0 := by
          unfold F_X8_isPerson
          by_cases y : a2 < 0
          · rw [if_pos y]
          · rw [if_neg y, if_pos (z.resolve_left y)]
        rw [F_X8_share, bd1e (ghas_in g4 (by omega) hj), if_neg n10, bd1e e2, if_pos rfl]
      · rw [F_X9_share, bd2e e1, if_neg n10, bd1e (in_no (z.imp_right (fun y => lt_of_le y (by decide)))), if_pos rfl]
    · have e2 : F_X8_isPerson (nI k) = some 1 := by
        unfold F_X8_isPerson
        rw [if_neg (nneg k (by omega)), if_neg (nI_nleN hk (by decide))]
      have e3 : F_X2_gardenOf M (nI k) = some (nI (gset m w gd k)) := by
        unfold F_X2_gardenOf
        rw [if_neg (nneg k (by omega)), if_neg (nI_nleN hk (by decide)), chk_pos (inb_nI hk (by decide)), clN (by omega), l9 k hk]
      have hs := HL_lt hd hT hj
      have hs16 := lt16 hd hs
      obtain ⟨c, hc⟩ : ∃ c, ((HL m w (dg d)).getD j 0).testBit c = true := ((hl_inv hd hT m (Nat.le_refl _)).2.2.2.1 j hj).2.1
      have hcm := tb_m hs hc
      have hdc : 0 < d c := by
        have := HL_sub hd hT hj hc
        rw [dg_tb _ (by omega), decide_eq_true_iff] at this
        exact this
      have hb := bitsOf_in (p := 9) g4 hlen g5 hj
      have h11 := f3 j hj
      generalize (HL m w (dg d)).getD j 0 = s at hs hs16 hc hb h11
      have v0 := vol_pos (d := d) (by omega) hc hdc
      have v1 := volN_le (s := s) hw.1 16
      have v2 := volN_le (s := s &&& gset m w gd k) hw.1 16
      have q0 : gI N' 0 11 = nI m := by rw [f4 0 11 (by decide) (by decide)]; exact l3
      have q1 : gI N' 0 10 = nI w := by rw [f4 0 10 (by decide) (by decide)]; exact l4
      have q7 : ∀ c, c < 16 → gI N' 7 c = nI (d c) := fun c hc => by rw [f4 7 _ (by decide) (by omega)]; exact hm.1 c hc
      have q8 : ∀ x, x < 4 → gI N' 8 x = nI (gd x) := fun x hx => by rw [f4 8 _ (by decide) (by omega)]; exact l8 x hx
      have e4 : F_X9_volume N' 7 0 (nI s) = some (nI (volN d s 16)) := mvol_eq (b := 0) hle.1 q0 (by decide) (by decide) (fun c hc => by rw [Nat.zero_add]; exact q7 c hc) hs
      refine ⟨1, _, _, ?_, ?_, hR.frac (lN (volN d (s &&& gset m w gd k) 16 / Nat.gcd (volN d (s &&& gset m w gd k) 16) (volN d s 16))) (lN (volN d s 16 / Nat.gcd (volN d (s &&& gset m w gd k) 16) (volN d s 16)))⟩
      · rw [F_X8_share, bd1e (ghas_in g4 (by omega) hj), if_neg n10, bd1e e2, if_neg n10, bd1e hb, bd1e e3, nx_and, bd1e (cvol_eq g1 (and_lt_l hs16)), bd1e (cvol_eq g1 hs16), nI_l (by omega), nI_l (by omega), bd2e (tellFr_eq (by omega) (by omega) v0)]
      · rw [F_X9_share, bd2e e1, if_neg n10, bd1e (in_yes (nneg k (by omega)) (by rw [nI_ltI (by decide) (by omega)]; omega)), if_neg n10, bd1e (mshare_eq hd q0 q1 q8 l7 hk hs (by omega) h11 q7), chk_pos (inb_nI (by omega) (by decide)), clN (by omega), h11, bd1e e4, nI_l (by omega), nI_l (by omega), bd2e (part_eq (by omega) (by omega) v0)]
