/-! ===== the thief in the class ===== -/
def gB (m w K : Nat) (gd di : Nat → Nat) (i pr : Nat) (d : Nat → Nat) : Bool := anyB (fun j => SB m w K di d i j && decide (am (own m w gd ((HL m w (dg d)).getD j 0)) 4 = pr)) (HL m w (dg d)).length
def AS (M : Mem) (m w : Nat) (d : Nat → Nat) (e0 : Nat) : Prop := (∀ c, c < 16 → gI M 22 c = nI (d c)) ∧ gI M 21 4 = nI (dg d) ∧ gI M 21 6 = nI e0 ∧ ∃ T0, T0 < 2 ^ m ∧ gI M 21 5 = nI T0 ∧ gI M 21 3 = nI (HL m w T0).length ∧ HolesIn M 23 (HL m w T0)
def FA (M0 M : Mem) : Prop := (∀ q x, ¬ (20 ≤ q ∧ q ≤ 23) → gI M q x = gI M0 q x) ∧ ∀ q x, gJ M q x = gJ M0 q x
theorem dg_upd {d : Nat → Nat} {c a : Nat} (hc : c < 16) : dg (updN d c a) = if a = 0 then dif (dg d) (2 ^ c) else dg d ||| 2 ^ c := by
  apply Nat.eq_of_testBit_eq
  intro k
  by_cases hk : k < 16
  · by_cases ek : k = c
    · subst ek
      rw [dg_tb _ hk, upd_at]
      by_cases e : a = 0
      · rw [if_pos e, dif_tb, tb_two, e, decide_eq_true rfl]; simp
      · rw [if_neg e, or_tb_two, decide_eq_true rfl, decide_eq_true (show 0 < a by omega)]; simp
    · rw [dg_tb _ hk, upd_ne ek]
      by_cases e : a = 0
      · rw [if_pos e, dif_tb, tb_two, dg_tb _ hk, decide_eq_false (show ¬ c = k from fun y => ek y.symm)]; simp
      · rw [if_neg e, or_tb_two, dg_tb _ hk, decide_eq_false (show ¬ c = k from fun y => ek y.symm)]; simp
  · have b0 : ∀ d : Nat → Nat, (dg d).testBit k = false := fun d => tb_lt (bs_lt _ _) (by omega)
    rw [b0]
    by_cases e : a = 0
    · rw [if_pos e, dif_tb, b0]; rfl
    · rw [if_neg e, or_tb_two, b0, decide_eq_false (by omega)]; rfl
theorem AS_deep {M : Mem} {m w c a e0 : Nat} {d : Nat → Nat} {x2 : Int32} (h : AS M m w d e0) (hc : c < 16) (h1 : nI (d c) + x2 = nI a) (h5 : a ≤ 5) : ∃ M', F_X1_deepen M 21 (nI c) x2 = some M' ∧ AS M' m w (updN d c a) e0 ∧ (∀ q x, q ≠ 22 → q ≠ 21 → gI M' q x = gI M q x) ∧ ∀ q x, gJ M' q x = gJ M q x := by
  obtain ⟨a1, a2, a3, T0, a4, a5, a6, a7⟩ := h
  refine ⟨_, deepen_eq (p := 21) hc (by rw [a1 c hc]; exact h1) h5 a2, ⟨fun k hk => ?_, ?_, ?_, T0, a4, ?_, ?_, fun i hi => ?_⟩, fun q x h1 h2 => ?_, fun q x => rfl⟩
  · rw [gI_p (by decide)]
    by_cases ek : k = c
    · subst ek
      rw [gI_same, upd_at]
    · rw [gI_k ek, upd_ne ek]
      exact a1 k hk
  · rw [gI_same, dg_upd hc]
  · rw [gI_k (by decide), gI_p (by decide)]; exact a3
  · rw [gI_k (by decide), gI_p (by decide)]; exact a5
  · rw [gI_k (by decide), gI_p (by decide)]; exact a6
  · rw [gI_p (by decide), gI_p (by decide)]; exact a7 i hi
  · rw [gI_p h2, gI_p h1]
/-- the class as it is when the thief begins -/
def CtxC (M0 N0 : Mem) (m w K i pr q8 : Nat) (gd di : Nat → Nat) : Prop := Dm m w ∧ LandR M0 N0 m w gd ∧ K < 6 ∧ gI M0 (55 + K) 0 = nI K ∧ DW m di ∧ (∃ e, GrC M0 q8 m w di e 1) ∧ 46 ≤ q8 ∧ q8 ≤ 52 ∧ isX1 q8 = true ∧ i < (HL m w (dg di)).length ∧ pr < 4 ∧ gI M0 19 5 = nI i ∧ gI M0 19 6 = nI pr
theorem stolenC {M0 N0 M : Mem} {m w K i pr q8 e0 : Nat} {gd di d : Nat → Nat} (hx : CtxC M0 N0 m w K i pr q8 gd di) (hf : FA M0 M) (hA : AS M m w d e0) (hw : DW m d) : ∃ M', F_X6_isStolen (some (55 + K)) (some q8) M = some (nI (b01 (gB m w K gd di i pr d)), M') ∧ FA M0 M' ∧ AS M' m w d e0 ∧ ∀ x, gI M' 20 x = gI M 20 x := by
  obtain ⟨hd, hl, hK, h0, hwi, ⟨ei, hgi⟩, q1, q2, q3, hi, hpr, x5, x6⟩ := hx
  obtain ⟨a1, a2, a3, T0, a4, a5, a6, a7⟩ := hA
  have hle := hd.le
  have hT := dg_lt hd hw
  have hlM : LandC M m w := hl.c.fr (fun k => hf.1 7 k (by omega))
  obtain ⟨M3, s1, s2, s3, s4, s5, s6⟩ := survey_eq (p := 21) hd hlM hT (Nat.lt_trans (lt16 hd a4) (by decide)) (by decide) (by decide) a2 a5 (fun e => by rw [e]; exact a6) (fun e => by rw [e]; exact a7)
  have hf3 : FA M0 M3 := ⟨fun q x hq => by rw [s5 q x (by omega) (by omega)]; exact hf.1 q x hq, fun q x => by rw [s6]; exact hf.2 q x⟩
  have hA3 : AS M3 m w d e0 := ⟨fun c hc => by rw [s5 22 c (by decide) (by omega)]; exact a1 c hc, by rw [s5 21 4 (by decide) (by omega)]; exact a2, by rw [s5 21 6 (by decide) (by omega)]; exact a3, dg d, hT, s3, s2, s4⟩
  have hG3 : GrC M3 21 m w d e0 (gI M3 21 7) := ⟨hA3.1, hA3.2.1, s3, s2, s4, hA3.2.2.1, rfl⟩
  have hl3 : LandR M3 N0 m w gd := hl.fr2 (fun p x hp => hf3.1 p x (by
    intro y
    have : p = 20 ∨ p = 21 ∨ p = 22 ∨ p = 23 := by omega
    rcases this with rfl | rfl | rfl | rfl <;> simp [sLC] at hp)) agr.rf
  have hgi3 : GrC M3 q8 m w di ei 1 := hgi.fr (fun k => hf3.1 _ k (by omega)) (fun k => hf3.1 _ k (by omega)) (fun k => hf3.1 _ k (by omega))
  have h03 : gI M3 (55 + K) 0 = nI K := (hf3.1 _ _ (by omega)).trans h0
  have hlen := HL_len hd hT
  refine ⟨M3, ?_, hf3, hA3, fun x => s5 20 x (by decide) (by omega)⟩
  rw [F_X6_isStolen, oc_s, oc_s, bd1e s1]
  obtain ⟨r, e1, e2⟩ := loop_inv (f := X6_isStolen_L25 (some (55 + K)) (some q8) M3) (fun j st => st = nI j ∧ anyB (fun j => SB m w K di d i j && decide (am (own m w gd ((HL m w (dg d)).getD j 0)) 4 = pr)) j = false) (fun r => r = (nI (b01 (gB m w K gd di i pr d)), M3)) (HL m w (dg d)).length (fun j st hj hst => by
    obtain ⟨e1, e2⟩ := hst
    subst e1
    rw [X6_isStolen_L25, s2]
    by_cases e : j = (HL m w (dg d)).length
    · rw [if_pos (by rw [e]; exact Int32.le_refl _)]
      rw [e] at e2
      refine Or.inr ⟨_, rfl, ?_⟩
      unfold gB
      rw [e2]
      rfl
    · have hj' : j < (HL m w (dg d)).length := by omega
      have hm := matches_eq hd hl3.c hK h03 hwi hw hgi3 hG3 hi hj'
      have hm : F_X3_matches M3 (55 + K) q8 (nI i) 21 (nI j) = some (nI (b01 (SB m w K di d i j))) := hm
      have hs := HL_lt hd hT hj'
      obtain ⟨c, hc⟩ : ∃ c, ((HL m w (dg d)).getD j 0).testBit c = true := ((hl_inv hd hT m (Nat.le_refl _)).2.2.2.1 j hj').2.1
      have ho := (owner_same hd hl3 hs hc).1
      have hlt : am (own m w gd ((HL m w (dg d)).getD j 0)) 4 < 4 := am_lt _ 3
      rw [if_neg (nI_nleN hj' (by omega)), oc_s, chk_pos (isX3_law _ hK), oc_s, chk_pos q3, hf3.1 19 5 (by omega), x5, bd1e hm]
      cases es : SB m w K di d i j
      · rw [if_pos n0f, lets, nI_1]
        exact Or.inl ⟨by omega, _, rfl, rfl, by rw [anyB_s, e2, es]; rfl⟩
      · rw [if_neg n0t, bd1e (bitsOf_in s2 hlen s4 hj'), bd1e ho, hf3.1 19 6 (by omega), x6]
        by_cases ep : am (own m w gd ((HL m w (dg d)).getD j 0)) 4 = pr
        · rw [if_pos (by rw [ep])]
          refine Or.inr ⟨_, rfl, ?_⟩
          unfold gB
          rw [anyB_t hj' (by rw [es, decide_eq_true ep]; rfl)]
          rfl
        · rw [if_neg (fun y => ep ((nI_eq (by omega) (by omega)).mp y)), lets, nI_1]
          exact Or.inl ⟨by omega, _, rfl, rfl, by rw [anyB_s, e2, es, decide_eq_false ep]; rfl⟩) (k := FU) (by show _ < 200000; omega) (s := 0) ⟨rfl, rfl⟩
  rw [e1, e2]
theorem n_neg1 : -(-1 : Int32) = 1 := by decide
/-- one move of the thief's, and back -/
theorem stepC {M0 N0 M : Mem} {m w K i pr q8 e0 e lv most : Nat} {gd di d : Nat → Nat} {rc : Option Nat → Option Nat → Mem → Int32 → Int32 → Int32 → Option (Int32 × Mem)} {tl tt : Option Nat} (hx : CtxC M0 N0 m w K i pr q8 gd di) (hf : FA M0 M) (hA : AS M m w d e0) (hw : DW m d) (he : e < 2 * m) (hlv : lv < 3) : (mvb m d e = false ∧ X6_succeeds_L22 rc tl tt (nI lv) (nI most) (nI e, M) = some (.inl (nI (e + 1), M))) ∨ (mvb m d e = true ∧ ∃ M1, FA M0 M1 ∧ AS M1 m w (apm m d e) e0 ∧ gI M1 20 lv = nI (mkv m e) ∧ (∀ x, x ≠ lv → gI M1 20 x = gI M 20 x) ∧ ∀ r M2, rc tl tt M1 (nI (lv + 1)) (nI e) (nI most) = some (r, M2) → FA M0 M2 → AS M2 m w (apm m d e) e0 → ∃ M3, X6_succeeds_L22 rc tl tt (nI lv) (nI most) (nI e, M) = (if r = 0 then some (.inl (nI (e + 1), M3)) else some (.inr (1, M3))) ∧ FA M0 M3 ∧ AS M3 m w d e0 ∧ ∀ x, gI M3 20 x = gI M2 20 x) := by
  have hd := hx.1
  have hle := hd.le
  have l1 : gI M 7 0 = nI m := (hf.1 7 0 (by omega)).trans hx.2.1.1
  have hcm := mvc_lt he
  -- the two directions
  have hgo : ∀ (by_ : Int32) (x5 : Int32) (a : Nat), mvb m d e = true → (by_ = 1 ∨ by_ = -1) → nI (d (mvc m e)) + by_ = nI (mva m d e) → nI (mva m d e) + (-by_) = nI (d (mvc m e)) → (∀ y, X6_succeeds_L22 rc tl tt (nI lv) (nI most) (nI e, M) = y ↔ X6_succeeds_J126 rc tl tt M (nI lv) (nI most) (nI e) (nI (mvc m e)) by_ (nI (mkv m e)) (nI lv) = y) → ∃ M1, FA M0 M1 ∧ AS M1 m w (apm m d e) e0 ∧ gI M1 20 lv = nI (mkv m e) ∧ (∀ x, x ≠ lv → gI M1 20 x = gI M 20 x) ∧ ∀ r M2, rc tl tt M1 (nI (lv + 1)) (nI e) (nI most) = some (r, M2) → FA M0 M2 → AS M2 m w (apm m d e) e0 → ∃ M3, X6_succeeds_L22 rc tl tt (nI lv) (nI most) (nI e, M) = (if r = 0 then some (.inl (nI (e + 1), M3)) else some (.inr (1, M3))) ∧ FA M0 M3 ∧ AS M3 m w d e0 ∧ ∀ x, gI M3 20 x = gI M2 20 x := by
    intro by_ _ _ hv _ hb1 hb2 hJ
    have ha5 := mva_le hw.1 hv
    have hA' : AS (sI M 20 lv (nI (mkv m e))) m w d e0 := by
      obtain ⟨a1, a2, a3, T0, a4, a5, a6, a7⟩ := hA
      exact ⟨fun c hc => by rw [gI_p (by decide)]; exact a1 c hc, by rw [gI_p (by decide)]; exact a2, by rw [gI_p (by decide)]; exact a3, T0, a4, by rw [gI_p (by decide)]; exact a5, by rw [gI_p (by decide)]; exact a6, fun k hk => by rw [gI_p (by decide)]; exact a7 k hk⟩
    obtain ⟨M1, b1, b2, b3, b4⟩ := AS_deep hA' (show mvc m e < 16 by omega) hb1 ha5
    refine ⟨M1, ⟨fun q x hq => ?_, fun q x => ?_⟩, b2, ?_, fun x hxl => ?_, fun r M2 c1 c2 c3 => ?_⟩
    · rw [b3 q x (by omega) (by omega), gI_p (by omega)]; exact hf.1 q x hq
    · rw [b4, gJ_sI]; exact hf.2 q x
    · rw [b3 20 lv (by decide) (by decide), gI_same]
    · rw [b3 20 x (by decide) (by decide), gI_k hxl]
    · have hat : apm m d e (mvc m e) = mva m d e := upd_at _ _ _
      obtain ⟨M3, f1, f2, f3, f4⟩ := AS_deep (a := d (mvc m e)) c3 (show mvc m e < 16 by omega) (by rw [hat]; exact hb2) (hw.1 _)
      have hback : updN (apm m d e) (mvc m e) (d (mvc m e)) = d := upd_back d _ _
      rw [hback] at f2
      refine ⟨M3, ?_, ⟨fun q x hq => ?_, fun q x => ?_⟩, f2, fun x => f3 20 x (by decide) (by decide)⟩
      · rw [hJ, X6_succeeds_J126, chk_pos (inb_nI hlv (by decide)), clN (by omega), lets, bd1e b1, nI_1, bd2e c1, bd1e f1]
        by_cases r0 : r = 0
        · rw [if_pos r0, if_pos r0, lets, nI_1]
        · rw [if_neg r0, if_neg r0]
      · rw [f3 q x (by omega) (by omega)]; exact c2.1 q x hq
      · rw [f4]; exact c2.2 q x
  by_cases z : e < m
  · have hc : mvc m e = e := if_pos z
    have hk : mkv m e = e := if_pos z
    have hva : mva m d e = d e + 1 := if_pos z
    have hv5 := hw.1 e
    have hb := bears_up (p := 21) (show e < 16 by omega) (hA.1 e (by omega)) hv5
    have hstep : X6_succeeds_L22 rc tl tt (nI lv) (nI most) (nI e, M) = X6_succeeds_J87 rc tl tt M (nI lv) (nI most) (nI e) 0 (nI e) 1 := by
      rw [X6_succeeds_L22, l1, pk_mul, if_neg (nI_nleN he (by omega)), if_pos (nI_lt z (by omega)), X6_succeeds_J53, if_pos rfl, X6_succeeds_J75, if_pos rfl]
    by_cases y : d e = 5
    · rw [if_pos y] at hb
      refine Or.inl ⟨by unfold mvb; rw [if_pos z, y]; rfl, ?_⟩
      rw [hstep, X6_succeeds_J87, bd1e hb, if_pos rfl, lets, nI_1]
    · rw [if_neg y] at hb
      have hv : mvb m d e = true := by unfold mvb; rw [if_pos z]; exact decide_eq_true (by omega)
      refine Or.inr ⟨hv, hgo 1 0 0 hv (Or.inl rfl) (by rw [hc, hva, nI_1]) (by rw [hc, hva]; exact nI_m1 (by omega)) (fun u => ?_)⟩
      rw [hstep, X6_succeeds_J87, bd1e hb, if_neg n10, if_pos rfl, hc, hk]
  · have hc : mvc m e = e - m := if_neg z
    have hk : mkv m e = e - m + 100 := if_neg z
    have hva : mva m d e = d (e - m) - 1 := if_neg z
    have hv5 := hw.1 (e - m)
    have hb := bears_dn (p := 21) (show e - m < 16 by omega) (hA.1 (e - m) (by omega)) hv5
    have hstep : X6_succeeds_L22 rc tl tt (nI lv) (nI most) (nI e, M) = X6_succeeds_J87 rc tl tt M (nI lv) (nI most) (nI e) 1 (nI (e - m)) (-1) := by
      rw [X6_succeeds_L22, l1, pk_mul, if_neg (nI_nleN he (by omega)), if_neg (nI_nlt (by omega) (by omega)), X6_succeeds_J53, if_neg n10, l1, nI_subN (by omega), X6_succeeds_J75, if_neg n10]
    by_cases y : d (e - m) = 0
    · rw [if_pos y] at hb
      refine Or.inl ⟨by unfold mvb; rw [if_neg z, y]; rfl, ?_⟩
      rw [hstep, X6_succeeds_J87, bd1e hb, if_pos rfl, lets, nI_1]
    · rw [if_neg y] at hb
      have hv : mvb m d e = true := by unfold mvb; rw [if_neg z]; exact decide_eq_true (by omega)
      refine Or.inr ⟨hv, hgo (-1) 0 0 hv (Or.inr rfl) (by rw [hc, hva]; exact nI_m1 (by omega)) (by rw [hc, hva, n_neg1, nI_1, Nat.sub_add_cancel (by omega)]) (fun u => ?_)⟩
      rw [hstep, X6_succeeds_J87, bd1e hb, if_neg n10, if_neg n10, nI_add, hc, hk]
/-- the moves that were laid -/
def laidL (M : Mem) (p m : Nat) : List Nat → Nat → Prop
  | [], _ => True
  | e :: l, lv => gI M p lv = nI (mkv m e) ∧ laidL M p m l (lv + 1)
theorem laidL_fr {M M' : Mem} {p m : Nat} (h : ∀ x, gI M' p x = gI M p x) : ∀ l lv, laidL M p m l lv → laidL M' p m l lv := by
  intro l
  induction l with
  | nil => intro lv _; trivial
  | cons e l ih => intro lv hl; exact ⟨by rw [h]; exact hl.1, ih (lv + 1) hl.2⟩
def foundC (M' : Mem) (p m lv : Nat) (o : Option (List Nat)) : Prop := ∀ l, o = some l → laidL M' p m l lv
theorem succ_eq {M0 N0 : Mem} {m w K i pr q8 e0 most : Nat} {gd di : Nat → Nat} (hx : CtxC M0 N0 m w K i pr q8 gd di) (hmost : most ≤ 3) : ∀ r lv fu, lv + r = most → r < fu → ∀ (M : Mem) (d : Nat → Nat) (f : Nat), FA M0 M → AS M m w d e0 → DW m d → f ≤ 2 * m → ∃ (o : Option (List Nat)) (M' : Mem), F_X6_succeeds fu (some (55 + K)) (some q8) M (nI lv) (nI f) (nI most) = some (nI (b01 o.isSome), M') ∧ FR m (gB m w K gd di i pr) (fun e => e) r f d o ∧ FA M0 M' ∧ AS M' m w d e0 ∧ (∀ x, x < lv → gI M' 20 x = gI M 20 x) ∧ foundC M' 20 m lv o := by
  have hd := hx.1
  have hle := hd.le
  intro r
  induction r with
  | zero =>
    intro lv fu hlv hfu M d f hf hA hw hf2
    obtain ⟨fu', rfl⟩ : ∃ a, fu = a + 1 := ⟨fu - 1, by omega⟩
    obtain ⟨M', s1, s2, s3, s4⟩ := stolenC hx hf hA hw
    refine ⟨if gB m w K gd di i pr d then some [] else none, M', ?_, FR_0, s2, s3, fun x _ => s4 x, fun l hl => ?_⟩
    · rw [F_X6_succeeds, if_pos (nI_le (by omega) (by omega)), X6_succeeds_J14, bd2e s1, chk_pos (b01_01 _)]
      cases gB m w K gd di i pr d <;> rfl
    · cases hg : gB m w K gd di i pr d
      · rw [hg, if_neg (by decide)] at hl; cases hl
      · rw [hg, if_pos rfl] at hl
        cases hl
        trivial
  | succ r ih =>
    intro lv fu hlv hfu M d f hf hA hw hf2
    obtain ⟨fu', rfl⟩ : ∃ a, fu = a + 1 := ⟨fu - 1, by omega⟩
    rw [F_X6_succeeds, if_neg (nI_nleN (by omega) (by omega)), if_pos (nI_lt (show lv < 3 by omega) (by decide))]
    obtain ⟨R, c1, o, M', c2, c3, c4, c5, c6, c7⟩ := loop_inv (f := X6_succeeds_L22 (F_X6_succeeds fu') (some (55 + K)) (some q8) (nI lv) (nI most)) (fun k st => ∃ M1, st = (nI (f + k), M1) ∧ f + k ≤ 2 * m ∧ FA M0 M1 ∧ AS M1 m w d e0 ∧ (∀ x, x < lv → gI M1 20 x = gI M 20 x) ∧ ∀ e, f ≤ e → e < f + k → dead m (gB m w K gd di i pr) (fun e => e) r d e) (fun R => ∃ o M', R = (nI (b01 o.isSome), M') ∧ FR m (gB m w K gd di i pr) (fun e => e) (r + 1) f d o ∧ FA M0 M' ∧ AS M' m w d e0 ∧ (∀ x, x < lv → gI M' 20 x = gI M 20 x) ∧ foundC M' 20 m lv o) (2 * m - f) (fun k st hk hst => by
      obtain ⟨M1, b0, b1, b2, b3, b4, b5⟩ := hst
      subst b0
      have l1 : gI M1 7 0 = nI m := (b2.1 7 0 (by omega)).trans hx.2.1.1
      by_cases e : f + k = 2 * m
      · right
        rw [X6_succeeds_L22, l1, pk_mul, if_pos (nI_le (by omega) (by omega))]
        exact ⟨_, rfl, none, M1, rfl, FR_none (fun e' h1 h2 => b5 e' h1 (by omega)), b2, b3, b4, fun l hl => by cases hl⟩
      · rcases stepC (rc := F_X6_succeeds fu') (tl := some (55 + K)) (tt := some q8) (most := most) hx b2 b3 hw (show f + k < 2 * m by omega) (show lv < 3 by omega) with ⟨v1, v2⟩ | ⟨v1, M2, v2, v3, v4, v5, v6⟩
        · left
          refine ⟨by omega, _, v2, M1, rfl, by omega, b2, b3, b4, fun e' h1 h2 => ?_⟩
          by_cases ee : e' = f + k
          · subst ee; exact dead_v v1
          · exact b5 e' h1 (by omega)
        · obtain ⟨o, M3, w1, w2, w3, w4, w5, w6⟩ := ih (lv + 1) fu' (by omega) (by omega) M2 (apm m d (f + k)) (f + k) v2 v3 (apm_DW hw (by omega) v1) (by omega)
          obtain ⟨M4, y1, y2, y3, y4⟩ := v6 _ M3 w1 w3 w4
          have hM4 : ∀ x, x < lv → gI M4 20 x = gI M 20 x := fun x hxl => by rw [y4, w5 x (by omega), v5 x (by omega), b4 x hxl]
          rw [y1]
          cases o with
          | none =>
            left
            rw [if_pos (show nI (b01 (none : Option (List Nat)).isSome) = 0 from rfl)]
            refine ⟨by omega, _, rfl, M4, rfl, by omega, y2, y3, hM4, fun e' h1 h2 => ?_⟩
            by_cases ee : e' = f + k
            · subst ee; exact dead_n w2
            · exact b5 e' h1 (by omega)
          | some l =>
            right
            rw [if_neg (show ¬ nI (b01 (some l).isSome) = 0 from n0t)]
            refine ⟨_, rfl, some ((f + k) :: l), M4, rfl, FR_some (by omega) (by omega) v1 (fun e' h1 h2 => b5 e' h1 h2) w2, y2, y3, hM4, fun l' hl' => ?_⟩
            cases hl'
            exact ⟨by rw [y4, w5 lv (by omega)]; exact v4, laidL_fr y4 l _ (w6 l rfl)⟩) (k := FU) (by show 2 * m - f < 200000; omega) (s := (nI f, M)) ⟨M, by rw [Nat.add_zero], by omega, hf, hA, fun _ _ => rfl, fun e h1 h2 => by omega⟩
    subst c2
    exact ⟨o, M', c1, c3, c4, c5, c6, c7⟩
