/-! ===== deeds ===== -/
theorem or_tb_two {T c i : Nat} : (T ||| 2 ^ c).testBit i = (T.testBit i || decide (c = i)) := by rw [Nat.testBit_or, tb_two]
theorem deepen_eq {M : Mem} {p c a' T : Nat} {x2 : Int32} (hc : c < 16) (h1 : gI M (p + 1) c + x2 = nI a') (h5 : a' ≤ 5) (h4 : gI M p 4 = nI T) : F_X1_deepen M p (nI c) x2 = some (sI (sI M (p + 1) c (nI a')) p 4 (nI (if a' = 0 then dif T (2 ^ c) else T ||| 2 ^ c))) := by
  unfold F_X1_deepen
  rw [if_neg (nneg c (by omega)), if_pos (nI_lt hc (by decide)), chk_pos (inb_nI hc (by decide)), chk_pos (inb_nI hc (by decide)), clN (by omega), h1, lets, chk_pos (inb_nI hc (by decide)), gI_same, gI_p (show p ≠ p + 1 by omega), h4, nx_one (by omega)]
  by_cases e : a' = 0
  · rw [if_pos e, e, if_pos (by decide), nx_dif, lets]
  · rw [if_neg e, if_neg (nI_nle (by omega) (by omega)), nx_or, lets]
def dmix (d d' : Nat → Nat) (B i c : Nat) : Nat := if c < i ∧ B.testBit c = true then d' c else d c
theorem dg_congr {d d' : Nat → Nat} (h : ∀ c, c < 16 → d c = d' c) : dg d = dg d' := bs_congr (fun c hc => by rw [h c hc])
theorem dg_step {d d' : Nat → Nat} {B i : Nat} (hi : i < 16) (hB : B.testBit i = true) : dg (dmix d d' B (i + 1)) = if d' i = 0 then dif (dg (dmix d d' B i)) (2 ^ i) else dg (dmix d d' B i) ||| 2 ^ i := by
  have hm : dmix d d' B (i + 1) i = d' i := by unfold dmix; rw [if_pos ⟨by omega, hB⟩]
  have ho : ∀ c, c ≠ i → dmix d d' B (i + 1) c = dmix d d' B i c := fun c hc => by
    unfold dmix
    by_cases z : c < i ∧ B.testBit c = true
    · rw [if_pos z, if_pos ⟨by omega, z.2⟩]
    · rw [if_neg z, if_neg (fun y => z ⟨by omega, y.2⟩)]
  apply Nat.eq_of_testBit_eq
  intro k
  by_cases hk : k < 16
  · by_cases ek : k = i
    · subst ek
      rw [dg_tb _ hk, hm]
      by_cases e : d' k = 0
      · rw [if_pos e, dif_tb, tb_two, e, decide_eq_true rfl]; simp
      · rw [if_neg e, or_tb_two, decide_eq_true rfl, decide_eq_true (show 0 < d' k by omega)]; simp
    · rw [dg_tb _ hk, ho k ek]
      by_cases e : d' i = 0
      · rw [if_pos e, dif_tb, tb_two, dg_tb _ hk, decide_eq_false (show ¬ i = k from fun y => ek y.symm)]; simp
      · rw [if_neg e, or_tb_two, dg_tb _ hk, decide_eq_false (show ¬ i = k from fun y => ek y.symm)]; simp
  · have b0 : ∀ d : Nat → Nat, (dg d).testBit k = false := fun d => tb_lt (bs_lt _ _) (by omega)
    rw [b0]
    by_cases e : d' i = 0
    · rw [if_pos e, dif_tb, b0]; rfl
    · rw [if_neg e, or_tb_two, b0, decide_eq_false (by omega)]; rfl
theorem dg_skip {d d' : Nat → Nat} {B i : Nat} (hB : B.testBit i = false) : dmix d d' B (i + 1) = dmix d d' B i := by
  funext c
  unfold dmix
  by_cases e : c = i
  · subst e
    rw [if_neg (fun y => by rw [hB] at y; cases y.2), if_neg (fun y => by omega)]
  · by_cases z : c < i ∧ B.testBit c = true
    · rw [if_pos z, if_pos ⟨by omega, z.2⟩]
    · rw [if_neg z, if_neg (fun y => z ⟨by omega, y.2⟩)]
theorem change_loop {M : Mem} {p B : Nat} {d d' : Nat → Nat} {x2 x3 : Int32} (hB : B < 2 ^ 16) (h1 : ∀ c, c < 16 → gI M (p + 1) c = nI (d c)) (h4 : gI M p 4 = nI (dg d)) (h5 : ∀ c, d' c ≤ 5) (hs : ∀ c, c < 16 → nI (d' c) = if B.testBit c then nI (d c) + x2 else nI (d c)) : ∃ M', loop (X0_change_L3 p (nI B) x2 x3) FU (0, M) = some M' ∧ (∀ c, c < 16 → gI M' (p + 1) c = nI (dmix d d' B 16 c)) ∧ gI M' p 4 = nI (dg (dmix d d' B 16)) ∧ (∀ q x, q ≠ p + 1 → ¬ (q = p ∧ x = 4) → gI M' q x = gI M q x) ∧ ∀ q x, gJ M' q x = gJ M q x := by
  obtain ⟨r, e1, e2⟩ := loop_inv (f := X0_change_L3 p (nI B) x2 x3) (fun i st => st.1 = nI i ∧ (∀ c, c < 16 → gI st.2 (p + 1) c = nI (dmix d d' B i c)) ∧ gI st.2 p 4 = nI (dg (dmix d d' B i)) ∧ (∀ q x, q ≠ p + 1 → ¬ (q = p ∧ x = 4) → gI st.2 q x = gI M q x) ∧ ∀ q x, gJ st.2 q x = gJ M q x) (fun M' => (∀ c, c < 16 → gI M' (p + 1) c = nI (dmix d d' B 16 c)) ∧ gI M' p 4 = nI (dg (dmix d d' B 16)) ∧ (∀ q x, q ≠ p + 1 → ¬ (q = p ∧ x = 4) → gI M' q x = gI M q x) ∧ ∀ q x, gJ M' q x = gJ M q x) 16 (fun i st hi hst => by
    obtain ⟨y, X⟩ := st
    obtain ⟨a0, a1, a2, a3, a4⟩ := hst
    have a0 : y = nI i := a0
    subst a0
    rw [X0_change_L3]
    by_cases e : i = 16
    · subst e
      rw [if_pos (nI_le (Nat.le_refl _) (by decide))]
      exact Or.inr ⟨_, rfl, a1, a2, a3, a4⟩
    · rw [if_neg (nI_nleN (by omega) (by decide))]
      refine Or.inl ⟨by omega, ?_⟩
      cases eb : B.testBit i
      · rw [if_pos ((nx_u0 (by omega) (by omega)).mpr eb), lets, nI_1]
        refine ⟨_, rfl, rfl, ?_⟩
        rw [dg_skip eb]
        exact ⟨a1, a2, a3, a4⟩
      · rw [if_neg (fun z => by rw [(nx_u0 (by omega) (by omega)).mp z] at eb; cases eb)]
        have hdi : dmix d d' B i i = d i := by unfold dmix; rw [if_neg (fun y => by omega)]
        have hv : gI X (p + 1) i + x2 = nI (d' i) := by
          have a1i := a1 i (by omega)
          have a1i : gI X (p + 1) i = nI (dmix d d' B i i) := a1i
          rw [a1i, hdi, hs i (by omega), eb, if_pos rfl]
        rw [bd1e (deepen_eq (by omega) hv (h5 i) a2), lets, nI_1]
        refine ⟨_, rfl, rfl, fun c hc => ?_, ?_, fun q x h1 h2 => ?_, fun q x => ?_⟩
        · show gI (sI (sI X (p + 1) i (nI (d' i))) p 4 _) (p + 1) c = _
          rw [gI_p (by omega), gI_sI]
          by_cases ec : c = i
          · subst ec
            rw [if_pos ⟨rfl, rfl⟩]
            unfold dmix
            rw [if_pos ⟨by omega, eb⟩]
          · rw [if_neg (fun y => ec y.2)]
            have a1c : gI X (p + 1) c = nI (dmix d d' B i c) := a1 c hc
            rw [a1c]
            unfold dmix
            by_cases z : c < i ∧ B.testBit c = true
            · rw [if_pos z, if_pos ⟨by omega, z.2⟩]
            · rw [if_neg z, if_neg (fun y => z ⟨by omega, y.2⟩)]
        · show gI (sI (sI X (p + 1) i (nI (d' i))) p 4 _) p 4 = _
          rw [gI_same, dg_step (by omega) eb]
        · show gI (sI (sI X (p + 1) i (nI (d' i))) p 4 _) q x = _
          rw [gI_sI, if_neg h2, gI_p h1]
          exact a3 q x h1 h2
        · show gJ (sI (sI X (p + 1) i (nI (d' i))) p 4 _) q x = _
          rw [gJ_sI, gJ_sI]
          exact a4 q x) (k := FU) (by decide) (s := (0, M)) ⟨rfl, fun c hc => by
            show gI M (p + 1) c = _
            unfold dmix
            rw [if_neg (fun y => by omega)]
            exact h1 c hc, by
            show gI M p 4 = _
            rw [dg_congr (d' := d) (fun c hc => by unfold dmix; rw [if_neg (fun y => by omega)])]
            exact h4, fun _ _ _ _ => rfl, fun _ _ => rfl⟩
  exact ⟨r, e1, e2⟩
theorem change_eq {M : Mem} {p m w B : Nat} {d d' : Nat → Nat} {e e' : Nat} {th x2 x3 : Int32} (hd : Dm m w) (hl : LandC M m w) (hw : DW m d) (hw' : DW m d') (hp : 7 < p) (hB : B < 2 ^ 16) (hg : GrC M p m w d e th) (hs : ∀ c, c < 16 → nI (d' c) = if B.testBit c then nI (d c) + x2 else nI (d c)) (he : nI e' = nI e + x3) : ∃ M', F_X0_change M p (nI B) x2 x3 = some M' ∧ GrC M' p m w d' e' th ∧ (∀ q x, q ≠ p → q ≠ p + 1 → q ≠ p + 2 → gI M' q x = gI M q x) ∧ ∀ q x, gJ M' q x = gJ M q x := by
  obtain ⟨g1, g2, g3, g4, g5, g6, g7⟩ := hg
  have hT := dg_lt hd hw
  have hT' := dg_lt hd hw'
  have hle := hd.le
  obtain ⟨M1, a0, a1, a2, a3, a4⟩ := change_loop (x3 := x3) hB g1 g2 hw'.1 hs
  have hmix : ∀ c, c < 16 → dmix d d' B 16 c = d' c := fun c hc => by
    unfold dmix
    by_cases z : B.testBit c = true
    · rw [if_pos ⟨hc, z⟩]
    · rw [if_neg (fun y => z y.2)]
      have h1 := hs c hc
      rw [if_neg z] at h1
      have h2 := hw.1 c
      have h3 := hw'.1 c
      exact ((nI_eq (by omega) (by omega)).mp h1).symm
  rw [dg_congr hmix] at a2
  have b6 : gI M1 p 6 + x3 = nI e' := by rw [a3 p 6 (by omega) (by omega), g6, he]
  have hsv := survey_eq (M := sI M1 p 6 (nI e')) (T := dg d') (T0 := dg d) (p := p) hd (hl.fr (fun x => by rw [gI_p (by omega), a3 7 x (by omega) (by omega)])) hT' (by have := lt16 hd hT; omega) (by omega) (by omega) (by rw [gI_k (by decide)]; exact a2) (by rw [gI_k (by decide), a3 p 5 (by omega) (by omega)]; exact g3) (fun z => by rw [gI_k (by decide), a3 p 3 (by omega) (by omega), z]; exact g4) (fun z i hi => by
    rw [z] at hi ⊢
    rw [gI_p (by omega), a3 (p + 2) i (by omega) (by omega)]
    exact g5 i hi)
  obtain ⟨M', b0, b1, b2, b3, b4, b5⟩ := hsv
  refine ⟨M', ?_, ⟨fun c hc => ?_, ?_, b2, b1, b3, ?_, ?_⟩, fun q x h1 h2 h3 => ?_, fun q x => ?_⟩
  · rw [F_X0_change, bd1e a0, b6, lets, bd1e b0]
  · rw [b4 (p + 1) c (by omega) (by omega), gI_p (by omega), a1 c hc, hmix c hc]
  · rw [b4 p 4 (by omega) (by omega), gI_k (by decide), a2]
  · rw [b4 p 6 (by omega) (by omega), gI_same]
  · rw [b4 p 7 (by omega) (by omega), gI_k (by decide), a3 p 7 (by omega) (by omega), g7]
  · rw [b4 q x h3 (by omega), gI_p h1, a3 q x h2 (by omega)]
  · rw [b5, gJ_sI, a4]
