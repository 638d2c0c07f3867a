/-! ===== the thief in the model ===== -/
def FMd (N0 N : Mem) : Prop := (∀ q x, ¬ (q = 7 ∧ x < 16) → q ≠ 11 → q ≠ 16 → ¬ (q = 0 ∧ x = 23) → gI N q x = gI N0 q x) ∧ ∀ q x, gJ N q x = gJ N0 q x
def DpM (N : Mem) (d : Nat → Nat) : Prop := ∀ c, c < 16 → gI N 7 c = nI (d c)
def CtxM (N0 : Mem) (m w K i pr k law : Nat) (gd di : Nat → Nat) : Prop := Dm m w ∧ 0 < m ∧ gI N0 0 11 = nI m ∧ gI N0 0 10 = nI w ∧ (∀ x, x < 4 → gI N0 8 x = nI (gd x)) ∧ (∀ x, gd x < 4) ∧ (∀ c, c < 16 → gI N0 15 (17 * k + c) = nI (di c)) ∧ gI N0 0 25 = nI (HL m w (dg di)).length ∧ HolesIn N0 12 (HL m w (dg di)) ∧ gI N0 9 law = nI K ∧ law < 6 ∧ k < 3 ∧ DW m di ∧ K < 6 ∧ i < (HL m w (dg di)).length ∧ pr < 4
theorem stolenM {N0 N : Mem} {m w K i pr k law : Nat} {gd di d : Nat → Nat} (hx : CtxM N0 m w K i pr k law gd di) (hf : FMd N0 N) (hD : DpM N d) (hw : DW m d) : ∃ N', F_X9_isStolen N (nI law) (nI k) (nI i) (nI pr) = some (nI (b01 (gB m w K gd di i pr d)), N') ∧ FMd N0 N' ∧ DpM N' d ∧ ∀ x, gI N' 16 x = gI N 16 x := by
  obtain ⟨hd, m0, x1, x2, x3, x4, x5, x6, x7, x8, x9, x10, x11, x12, x13, x14⟩ := hx
  have hle := hd.le
  have hT := dg_lt hd hw
  have hlen := HL_len hd hT
  obtain ⟨N', f1, f2, f3, f4, f5⟩ := layHoles_eq (N := N) hd (by rw [hf.1 0 11 (by omega) (by decide) (by decide) (by omega)]; exact x1) (by rw [hf.1 0 10 (by omega) (by decide) (by decide) (by omega)]; exact x2) hw hD
  have hf' : FMd N0 N' := ⟨fun q x h1 h2 h3 h4 => by rw [f4 q x h2 h4]; exact hf.1 q x h1 h2 h3 h4, fun q x => by rw [f5]; exact hf.2 q x⟩
  have hD' : DpM N' d := fun c hc => by rw [f4 7 c (by decide) (by omega)]; exact hD c hc
  have hL : LaidM N' m w k di d := ⟨by rw [hf'.1 0 11 (by omega) (by decide) (by decide) (by omega)]; exact x1, by rw [hf'.1 0 10 (by omega) (by decide) (by decide) (by omega)]; exact x2, hD', fun c hc => by rw [hf'.1 15 _ (by omega) (by decide) (by decide) (by omega)]; exact x5 c hc, by rw [hf'.1 0 25 (by omega) (by decide) (by decide) (by omega)]; exact x6, fun j hj => by rw [hf'.1 12 j (by omega) (by decide) (by decide) (by omega)]; exact x7 j hj, f2, f3⟩
  have h9 : gI N' 9 law = nI K := by rw [hf'.1 9 law (by omega) (by decide) (by decide) (by omega)]; exact x8
  have h8 : ∀ x, x < 4 → gI N' 8 x = nI (gd x) := fun x hx => by rw [hf'.1 8 x (by omega) (by decide) (by decide) (by omega)]; exact x3 x hx
  refine ⟨N', ?_, hf', hD', fun x => f4 16 x (by decide) (by omega)⟩
  rw [F_X9_isStolen, bd1e f1]
  refine loop_fn' (fun j => (nI (b01 (anyB (fun j => SB m w K di d i j && decide (am (own m w gd ((HL m w (dg d)).getD j 0)) 4 = pr)) j)), nI j)) (HL m w (dg d)).length rfl (fun j hj => ?_) ?_ (by show _ < 200000; omega)
  · show X9_isStolen_L10 N' _ _ _ _ (_, _) = _
    rw [X9_isStolen_L10, f2, if_neg (nI_nleN hj (by omega)), anyB_s]
    cases anyB (fun j => SB m w K di d i j && decide (am (own m w gd ((HL m w (dg d)).getD j 0)) 4 = pr)) j
    · have hlt : am (own m w gd ((HL m w (dg d)).getD j 0)) 4 < 4 := am_lt _ 3
      rw [if_pos n0f, chk_pos (inb_nI (by omega) (by decide)), clN (by omega), f3 j hj, bd1e (mwhose_eq hd hL.1 hL.2.1 h8 x4 (HL_lt hd hT hj))]
      by_cases ep : am (own m w gd ((HL m w (dg d)).getD j 0)) 4 = pr
      · rw [if_pos (by rw [ep]), bd1e (isSame_eq hd hL x10 x9 h9 x12 x11 hw x13 hj), decide_eq_true ep]
        cases SB m w K di d i j
        · rw [if_pos n0f, lets, nI_1]
          rfl
        · rw [if_neg n0t, lets, nI_1]
          rfl
      · rw [if_neg (fun y => ep ((nI_eq (by omega) (by omega)).mp y)), lets, nI_1, decide_eq_false ep, Bool.and_false]
        rfl
    · rw [if_neg n0t, lets, nI_1, Bool.true_or]
      rfl
  · show X9_isStolen_L10 N' _ _ _ _ (_, _) = _
    rw [X9_isStolen_L10, f2, if_pos (nI_le (Nat.le_refl _) (by omega)), chk_pos (b01_01 _)]
    rfl
theorem irm_e : ∀ e, e < 32 → ∀ m, m < 17 → m ≠ 0 → irm (nI e) (nI m) = nI (e % m) := by decide +kernel
theorem mod_mvc {m e : Nat} (h : e < 2 * m) : e % m = mvc m e := by
  unfold mvc
  by_cases z : e < m
  · rw [if_pos z, Nat.mod_eq_of_lt z]
  · rw [if_neg z, Nat.mod_eq_sub_mod (by omega), Nat.mod_eq_of_lt (by omega)]
theorem sub_m1 (x : Nat) : nI x - (-1) = nI (x + 1) := by
  rw [Int32.sub_eq_add_neg, n_neg1, nI_1]
theorem stepM {N0 N : Mem} {m w K i pr k law e n times : Nat} {gd di d : Nat → Nat} {rc : Mem → Int32 → Int32 → Int32 → Int32 → Int32 → Int32 → Option (Int32 × Mem)} {y1 y2 y3 y4 : Int32} (hx : CtxM N0 m w K i pr k law gd di) (hf : FMd N0 N) (hD : DpM N d) (hw : DW m d) (he : e < 2 * m) (hn : n < 3) : (mvb m d e = false ∧ X9_stealOn_L20 rc y1 y2 y3 y4 (nI n) (nI times) (nI e, N) = some (.inl (nI (e + 1), N))) ∨ (mvb m d e = true ∧ ∃ N1, FMd N0 N1 ∧ DpM N1 (apm m d e) ∧ gI N1 16 n = nI (mkv m e) ∧ (∀ x, x ≠ n → gI N1 16 x = gI N 16 x) ∧ ∀ r N2, rc N1 y1 y2 y3 y4 (nI (n + 1)) (nI times) = some (r, N2) → FMd N0 N2 → DpM N2 (apm m d e) → ∃ N3, X9_stealOn_L20 rc y1 y2 y3 y4 (nI n) (nI times) (nI e, N) = (if r = 0 then some (.inl (nI (e + 1), N3)) else some (.inr (1, N3))) ∧ FMd N0 N3 ∧ DpM N3 d ∧ ∀ x, gI N3 16 x = gI N2 16 x) := by
  have hd := hx.1
  have hle := hd.le
  have m0 := hx.2.1
  have l3 : gI N 0 11 = nI m := (hf.1 0 11 (by omega) (by decide) (by decide) (by omega)).trans hx.2.2.1
  have hcm := mvc_lt he
  have hmn : ¬ nI m = 0 := nI_ne0 (by omega) (by omega)
  have hgo : ∀ (by_ : Int32), mvb m d e = true → nI (d (mvc m e)) + by_ = nI (mva m d e) → nI (mva m d e) - by_ = nI (d (mvc m e)) → (∀ y, X9_stealOn_L20 rc y1 y2 y3 y4 (nI n) (nI times) (nI e, N) = y ↔ X9_stealOn_J99 rc N y1 y2 y3 y4 (nI n) (nI times) (nI e) (nI (mvc m e)) by_ (nI (mkv m e)) (nI n) = y) → ∃ N1, FMd N0 N1 ∧ DpM N1 (apm m d e) ∧ gI N1 16 n = nI (mkv m e) ∧ (∀ x, x ≠ n → gI N1 16 x = gI N 16 x) ∧ ∀ r N2, rc N1 y1 y2 y3 y4 (nI (n + 1)) (nI times) = some (r, N2) → FMd N0 N2 → DpM N2 (apm m d e) → ∃ N3, X9_stealOn_L20 rc y1 y2 y3 y4 (nI n) (nI times) (nI e, N) = (if r = 0 then some (.inl (nI (e + 1), N3)) else some (.inr (1, N3))) ∧ FMd N0 N3 ∧ DpM N3 d ∧ ∀ x, gI N3 16 x = gI N2 16 x := by
    intro by_ hv hb1 hb2 hJ
    refine ⟨sI (sI N 16 n (nI (mkv m e))) 7 (mvc m e) (nI (mva m d e)), ⟨fun q x h1 h2 h3 h4 => ?_, fun q x => hf.2 q x⟩, fun c hc => ?_, ?_, fun x hxn => ?_, fun r N2 c1 c2 c3 => ?_⟩
    · rw [gI_sI, if_neg (fun y => h1 ⟨y.1, by omega⟩), gI_p h3]; exact hf.1 q x h1 h2 h3 h4
    · by_cases ec : c = mvc m e
      · rw [ec, gI_same]
        congr 1
        exact (upd_at _ _ _).symm
      · rw [gI_k ec, gI_p (by decide), hD c hc]
        congr 1
        exact (upd_ne ec).symm
    · rw [gI_p (by decide), gI_same]
    · rw [gI_p (by decide), gI_k hxn]
    · have hat : gI N2 7 (mvc m e) = nI (mva m d e) := by
        rw [c3 _ (by omega)]
        congr 1
        exact upd_at _ _ _
      refine ⟨sI N2 7 (mvc m e) (nI (d (mvc m e))), ?_, ⟨fun q x h1 h2 h3 h4 => ?_, fun q x => c2.2 q x⟩, fun c hc => ?_, fun x => gI_p (by decide)⟩
      · rw [hJ, X9_stealOn_J99, chk_pos (inb_nI hn (by decide)), clN (by omega), lets, chk_pos (inb_nI (by omega) (by decide)), chk_pos (inb_nI (by omega) (by decide)), clN (by omega), gI_p (show (7 : Nat) ≠ 16 by decide), hD _ (by omega), hb1, lets, nI_1, bd2e c1, chk_pos (inb_nI (by omega) (by decide)), chk_pos (inb_nI (by omega) (by decide)), hat, hb2, lets]
        by_cases r0 : r = 0
        · rw [if_pos r0, if_pos r0, lets, nI_1]
        · rw [if_neg r0, if_neg r0]
      · rw [gI_sI, if_neg (fun y => h1 ⟨y.1, by omega⟩)]; exact c2.1 q x h1 h2 h3 h4
      · by_cases ec : c = mvc m e
        · rw [ec, gI_same]
        · rw [gI_k ec, c3 c hc]
          congr 1
          exact upd_ne ec
  by_cases z : e < m
  · have hc : mvc m e = e := if_pos z
    have hk : mkv m e = e := if_pos z
    have hva : mva m d e = d e + 1 := if_pos z
    have hv5 := hw.1 e
    have hstep : X9_stealOn_L20 rc y1 y2 y3 y4 (nI n) (nI times) (nI e, N) = X9_stealOn_J54 rc N y1 y2 y3 y4 (nI n) (nI times) (nI e) (nI e) 1 := by
      rw [X9_stealOn_L20, l3, pk_mul, if_neg (nI_nleN he (by omega)), chk_pos hmn, irm_e e (by omega) m (by omega) (by omega), mod_mvc he, hc, lets, if_neg (nI_nleN z (by omega))]
    by_cases y : d e = 5
    · refine Or.inl ⟨by unfold mvb; rw [if_pos z, y]; rfl, ?_⟩
      rw [hstep, X9_stealOn_J54, chk_pos (inb_nI (by omega) (by decide)), clN (by omega), hD e (by omega), nI_1, bd1e (in_no (Or.inr (nI_lt (by omega) (by omega)))), if_pos rfl, lets, nI_1]
    · have hv : mvb m d e = true := by unfold mvb; rw [if_pos z]; exact decide_eq_true (by omega)
      refine Or.inr ⟨hv, hgo 1 hv (by rw [hc, hva, nI_1]) (by rw [hc, hva]; exact nI_s1 (by omega)) (fun u => ?_)⟩
      rw [hstep, X9_stealOn_J54, chk_pos (inb_nI (by omega) (by decide)), clN (by omega), hD e (by omega), nI_1, bd1e (in_yes (nneg _ (by omega)) (nI_nlt (by omega) (by decide))), if_neg n10, l3, if_neg (nI_nleN z (by omega)), hc, hk]
  · have hc : mvc m e = e - m := if_neg z
    have hk : mkv m e = e - m + 100 := if_neg z
    have hva : mva m d e = d (e - m) - 1 := if_neg z
    have hv5 := hw.1 (e - m)
    have hstep : X9_stealOn_L20 rc y1 y2 y3 y4 (nI n) (nI times) (nI e, N) = X9_stealOn_J54 rc N y1 y2 y3 y4 (nI n) (nI times) (nI e) (nI (e - m)) (-1) := by
      rw [X9_stealOn_L20, l3, pk_mul, if_neg (nI_nleN he (by omega)), chk_pos hmn, irm_e e (by omega) m (by omega) (by omega), mod_mvc he, hc, lets, if_pos (nI_le (by omega) (by omega))]
    by_cases y : d (e - m) = 0
    · refine Or.inl ⟨by unfold mvb; rw [if_neg z, y]; rfl, ?_⟩
      rw [hstep, X9_stealOn_J54, chk_pos (inb_nI (by omega) (by decide)), clN (by omega), hD _ (by omega), y, bd1e (in_no (Or.inl (by decide))), if_pos rfl, lets, nI_1]
    · have hv : mvb m d e = true := by unfold mvb; rw [if_neg z]; exact decide_eq_true (by omega)
      refine Or.inr ⟨hv, hgo (-1) hv (by rw [hc, hva]; exact nI_m1 (by omega)) (by rw [hc, hva, sub_m1, Nat.sub_add_cancel (by omega)]) (fun u => ?_)⟩
      rw [hstep, X9_stealOn_J54, chk_pos (inb_nI (by omega) (by decide)), clN (by omega), hD _ (by omega), nI_m1 (by omega), bd1e (in_yes (nneg _ (by omega)) (nI_nlt (by omega) (by decide))), if_neg n10, l3, if_pos (nI_le (by omega) (by omega)), nI_add, hc, hk, Nat.add_comm 100]
theorem steal_on {N0 : Mem} {m w K i pr k law times : Nat} {gd di : Nat → Nat} (hx : CtxM N0 m w K i pr k law gd di) (ht3 : times ≤ 3) : ∀ r n fu, n + r = times → r < fu → ∀ (N : Mem) (d : Nat → Nat), FMd N0 N → DpM N d → DW m d → ∃ (o : Option (List Nat)) (N' : Mem), F_X9_stealOn fu N (nI law) (nI k) (nI i) (nI pr) (nI n) (nI times) = some (nI (b01 o.isSome), N') ∧ FR m (gB m w K gd di i pr) (fun _ => 0) r 0 d o ∧ FMd N0 N' ∧ DpM N' d ∧ (∀ x, x < n → gI N' 16 x = gI N 16 x) ∧ foundC N' 16 m n o := by
  have hd := hx.1
  have hle := hd.le
  intro r
  induction r with
  | zero =>
    intro n fu hn hfu N d hf hD hw
    obtain ⟨fu', rfl⟩ : ∃ a, fu = a + 1 := ⟨fu - 1, by omega⟩
    obtain ⟨N', s1, s2, s3, s4⟩ := stolenM hx hf hD hw
    refine ⟨if gB m w K gd di i pr d then some [] else none, N', ?_, FR_0, s2, s3, fun x _ => s4 x, fun l hl => ?_⟩
    · rw [F_X9_stealOn, if_pos (by rw [show n = times by omega]), bd2e s1, chk_pos (b01_01 _)]
      cases gB m w K gd di i pr d <;> rfl
    · cases hg : gB m w K gd di i pr d
      · rw [hg, if_neg (by decide)] at hl; cases hl
      · rw [hg, if_pos rfl] at hl
        cases hl
        trivial
  | succ r ih =>
    intro n fu hn hfu N d hf hD hw
    obtain ⟨fu', rfl⟩ : ∃ a, fu = a + 1 := ⟨fu - 1, by omega⟩
    rw [F_X9_stealOn, if_neg (fun y => by have := (nI_eq (by omega) (by omega)).mp y; omega)]
    obtain ⟨R, c1, o, N', c2, c3, c4, c5, c6, c7⟩ := loop_inv (f := X9_stealOn_L20 (F_X9_stealOn fu') (nI law) (nI k) (nI i) (nI pr) (nI n) (nI times)) (fun e st => ∃ N1, st = (nI e, N1) ∧ FMd N0 N1 ∧ DpM N1 d ∧ (∀ x, x < n → gI N1 16 x = gI N 16 x) ∧ ∀ e', e' < e → dead m (gB m w K gd di i pr) (fun _ => 0) r d e') (fun R => ∃ o N', R = (nI (b01 o.isSome), N') ∧ FR m (gB m w K gd di i pr) (fun _ => 0) (r + 1) 0 d o ∧ FMd N0 N' ∧ DpM N' d ∧ (∀ x, x < n → gI N' 16 x = gI N 16 x) ∧ foundC N' 16 m n o) (2 * m) (fun e st hk hst => by
      obtain ⟨N1, b0, b2, b3, b4, b5⟩ := hst
      subst b0
      have l3 : gI N1 0 11 = nI m := (b2.1 0 11 (by omega) (by decide) (by decide) (by omega)).trans hx.2.2.1
      by_cases ee : e = 2 * m
      · right
        rw [X9_stealOn_L20, l3, pk_mul, if_pos (nI_le (by omega) (by omega))]
        exact ⟨_, rfl, none, N1, rfl, FR_none (fun e' _ h2 => b5 e' (by omega)), b2, b3, b4, fun l hl => by cases hl⟩
      · rcases stepM (rc := F_X9_stealOn fu') (y1 := nI law) (y2 := nI k) (y3 := nI i) (y4 := nI pr) (times := times) hx b2 b3 hw (show e < 2 * m by omega) (show n < 3 by omega) with ⟨v1, v2⟩ | ⟨v1, N2, v2, v3, v4, v5, v6⟩
        · left
          refine ⟨by omega, _, v2, N1, rfl, b2, b3, b4, fun e' h2 => ?_⟩
          by_cases e3 : e' = e
          · subst e3; exact dead_v v1
          · exact b5 e' (by omega)
        · obtain ⟨o, N3, w1, w2, w3, w4, w5, w6⟩ := ih (n + 1) fu' (by omega) (by omega) N2 (apm m d e) v2 v3 (apm_DW hw (by omega) v1)
          obtain ⟨N4, y1, y2, y3, y4⟩ := v6 _ N3 w1 w3 w4
          have hN4 : ∀ x, x < n → gI N4 16 x = gI N 16 x := fun x hxl => by rw [y4, w5 x (by omega), v5 x (by omega), b4 x hxl]
          rw [y1]
          cases o with
          | none =>
            left
            rw [if_pos (show nI (b01 (none : Option (List Nat)).isSome) = 0 from rfl)]
            refine ⟨by omega, _, rfl, N4, rfl, y2, y3, hN4, fun e' h2 => ?_⟩
            by_cases e3 : e' = e
            · subst e3; exact dead_n w2
            · exact b5 e' (by omega)
          | some l =>
            right
            rw [if_neg (show ¬ nI (b01 (some l).isSome) = 0 from n0t)]
            refine ⟨_, rfl, some (e :: l), N4, rfl, FR_some (Nat.zero_le _) (by omega) v1 (fun e' _ h2 => b5 e' h2) w2, y2, y3, hN4, fun l' hl' => ?_⟩
            cases hl'
            exact ⟨by rw [y4, w5 n (by omega)]; exact v4, laidL_fr y4 l _ (w6 l rfl)⟩) (k := FU) (by show 2 * m < 200000; omega) (s := (0, N)) ⟨N, rfl, hf, hD, fun _ _ => rfl, fun e h2 => by omega⟩
    subst c2
    exact ⟨o, N', c1, c3, c4, c5, c6, c7⟩
theorem rch_no {m : Nat} {G : (Nat → Nat) → Bool} (h : ∀ d, DW m d → G d = false) : ∀ l d, DW m d → rch m G l d = false := by
  intro l
  induction l with
  | nil => intro d hw; exact h d hw
  | cons e l ih =>
    intro d hw
    cases er : rch m G (e :: l) d
    · rfl
    · obtain ⟨h1, h2, h3⟩ := rch_cons.mp er
      rw [ih _ (apm_DW hw h1 h2)] at h3
      cases h3
theorem gB_no {m w K i pr : Nat} {gd di : Nat → Nat} (hd : Dm m w) (hg : ∀ x, gd x < 4) (h0 : gset m w gd pr = 0) : ∀ d, DW m d → gB m w K gd di i pr d = false := by
  intro d hw
  have hT := dg_lt hd hw
  apply anyB_f
  intro j hj
  have hs := HL_lt hd hT hj
  obtain ⟨c, hc⟩ : ∃ c, ((HL m w (dg d)).getD j 0).testBit c = true := ((hl_inv hd hT m (Nat.le_refl _)).2.2.2.1 j hj).2.1
  have hp := own_pos (w := w) hd.le.1 hg hs hc
  by_cases e : am (own m w gd ((HL m w (dg d)).getD j 0)) 4 = pr
  · exfalso
    rw [e] at hp
    unfold own at hp
    rw [h0, Nat.and_zero] at hp
    exact absurd hp (by decide)
  · rw [decide_eq_false e, Bool.and_false]
