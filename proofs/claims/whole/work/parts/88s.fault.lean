/-! ===== lines, gardens, laws; fault ===== -/
def EndF (M0 N0 M N : Mem) : Prop := ∃ p ln cw l x18 x19 l', p ≤ 60 ∧ PC M0 M p ln cw l ∧ PM N0 N p x18 x19 l'
theorem msign_y {M0 N0 N : Mem} {j n p l k : Nat} {V : Nat → Int32} {x18 x19 : Int32} (ht : TX M0 N0 j n V) (h : PM N0 N p x18 x19 l) (hp : p ≤ n) (hk : mcN n V p = nI k) : F_X9_sign N (nI j) (nI k) = some (1, sI N 0 17 (nI (p + 1))) := by
  rw [F_X9_sign, bd1e (here_eq ht h hp), if_pos hk, X9_sign_J14, if_neg n10, h.1, nI_1, lets, chk_pos (Or.inr rfl)]
theorem msign_n {M0 N0 N : Mem} {j n p l k : Nat} {V : Nat → Int32} {x18 x19 : Int32} (ht : TX M0 N0 j n V) (h : PM N0 N p x18 x19 l) (hp : p ≤ n) (hk : ¬ mcN n V p = nI k) : F_X9_sign N (nI j) (nI k) = some (0, sI N 0 17 (nI p)) := by
  rw [F_X9_sign, bd1e (here_eq ht h hp), if_neg hk, X9_sign_J14, if_pos rfl, h.1, nI_add0, lets, chk_pos (Or.inl rfl)]
theorem lines_eq {M0 N0 : Mem} {j n w : Nat} {V : Nat → Int32} (ht : TX M0 N0 j n V) (hw : 2 ≤ w) (hw4 : w ≤ 4) : ∀ dd i0, i0 + dd = 3 → ∀ (Mb M N : Mem) (p ln : Nat), F_X4_readLine Mb (38 + 2 * j) (nI i0) = some (1, M) → PC M0 M p ln w 0 → PM N0 N p (nI w) (nI ((i0 + 1) * w)) 0 → p ≤ n → DT M N ((i0 + 1) * w) 0 0 → ∀ k k', dd < k → dd < k' → ∃ r M' R, loop (X4_readLines_L2 (38 + 2 * j)) k (nI i0, Mb) = some (r, M') ∧ loop (X9_readsGround_L25 (nI j)) k' N = some R ∧ ((r = 1 ∧ ∃ N' N'' q p', R = .inl N' ∧ F_X9_sign N' (nI j) (nI 61) = some (1, N'') ∧ 1 ≤ q ∧ q ≤ 4 ∧ p' ≤ n ∧ PC M0 M' p' q w 0 ∧ PM N0 N'' p' (nI w) (nI (q * w)) 0 ∧ DT M' N'' (q * w) 0 0) ∨ (r = 0 ∧ ((∃ N', R = .inr (0, N') ∧ EndF M0 N0 M' N') ∨ ∃ N' N'', R = .inl N' ∧ F_X9_sign N' (nI j) (nI 61) = some (0, N'') ∧ EndF M0 N0 M' N''))) := by
  have hn := ht.2.1
  intro dd
  induction dd with
  | zero =>
    intro i0 hi Mb M N p ln hrl hc hm hp hD k k' hk hk'
    have i3 : i0 = 3 := by omega
    subst i3
    obtain ⟨a, rfl⟩ : ∃ a, k = a + 1 := ⟨k - 1, by omega⟩
    obtain ⟨a', rfl⟩ : ∃ a', k' = a' + 1 := ⟨k' - 1, by omega⟩
    have hc4 := hc.s4 (3 + 1)
    have mE : loop (X9_readsGround_L25 (nI j)) (a' + 1) N = some (.inl N) := by
      apply loop_en
      rw [X9_readsGround_L25, hm.2.1, hm.2.2.1, pk_mul, if_pos (nI_le (Nat.le_refl _) (by omega))]
    rcases chr_eq (n := n) (p := p) (V := V) (show 61 < 200 by decide) with ⟨c1, c2, c3⟩ | ⟨c1, c2⟩
    · refine ⟨1, _, _, ?_, mE, Or.inl ⟨rfl, N, _, 4, p + 1, rfl, msign_y ht hm hp c2, by decide, by decide, by omega, hc4.s3 _, hm.s17 _, hD.C.C.M⟩⟩
      apply loop_en
      rw [X4_readLines_L2, if_neg (nI_nleN (by decide) (by decide)), bd2e hrl, if_neg n10, nI_1, lets, bd1e (sign_eq ht hc4 hp), if_pos c1, hc4.1, nI_1, lets]
    · refine ⟨0, sI M 3 4 (nI (3 + 1)), _, ?_, mE, Or.inr ⟨rfl, Or.inr ⟨N, _, rfl, msign_n ht hm hp c2, p, _, _, _, _, _, _, by omega, hc4, hm.s17 _⟩⟩⟩
      apply loop_en
      rw [X4_readLines_L2, if_neg (nI_nleN (by decide) (by decide)), bd2e hrl, if_neg n10, nI_1, lets, bd1e (sign_eq ht hc4 hp), if_neg c1, hc4.2.1, if_pos rfl]
      by_cases c47 : ccN n V p = nI 47
      · rw [if_pos c47]
      · rw [if_neg c47]
  | succ dd ih =>
    intro i0 hi Mb M N p ln hrl hc hm hp hD k k' hk hk'
    obtain ⟨a, rfl⟩ : ∃ a, k = a + 1 := ⟨k - 1, by omega⟩
    obtain ⟨a', rfl⟩ : ∃ a', k' = a' + 1 := ⟨k' - 1, by omega⟩
    have hc4 := hc.s4 (i0 + 1)
    have hlt : (i0 + 1) * w < 4 * w := Nat.mul_lt_mul_of_pos_right (by omega) (by omega)
    have hcs : X4_readLines_L2 (38 + 2 * j) (nI i0, Mb) = (if ccN n V p = (nI 61) then some (.inr (1, sI (sI M 3 4 (nI (i0 + 1))) 3 3 (nI (p + 1)))) else if ccN n V p = (nI 47) then some (.inl (nI (i0 + 1), sI (sI M 3 4 (nI (i0 + 1))) 3 3 (nI (p + 1)))) else some (.inr (0, sI M 3 4 (nI (i0 + 1))))) := by
      rw [X4_readLines_L2, if_neg (nI_nleN (by omega) (by decide)), bd2e hrl, if_neg n10, nI_1, lets, bd1e (sign_eq ht hc4 hp), hc4.1, hc4.2.1, nI_1, if_neg (show ¬ nI (i0 + 1) = nI 4 from fun y => by have := (nI_eq (by omega) (by decide)).mp y; omega)]
      rfl
    rcases chr_eq (n := n) (p := p) (V := V) (show 47 < 200 by decide) with ⟨s1, s2, s3⟩ | ⟨s1, s2⟩
    · -- a stroke: another line
      have c61 : ¬ ccN n V p = nI 61 := by rw [s1]; decide
      rw [if_neg c61, if_pos s1] at hcs
      have hc8 := hc4.s3 (p + 1)
      have hm8 := hm.s17 (p + 1)
      obtain ⟨r, M', N', p', c, l1, l2, l3, l4, l5, l6, l7⟩ := line_eq (i0 := i0 + 1) ht hc8 hm8 (by omega) hD.C.C.M (by omega) (by omega) hw hw4
      rw [loop_st hcs]
      rcases l7 with ⟨rfl, hcw⟩ | rfl
      · subst hcw
        have hms : X9_readsGround_L25 (nI j) N = some (.inl N') := by
          rw [X9_readsGround_L25, hm.2.1, hm.2.2.1, pk_mul, if_neg (nI_nleN hlt (by omega)), bd2e (msign_y ht hm hp s2), if_neg n10, bd2e l2, if_neg n10]
        rw [loop_st hms]
        exact ih (i0 + 1) (by omega) _ M' N' p' _ l1 l4 l5 l3 l6 a a' (by omega) (by omega)
      · obtain ⟨b, rfl⟩ : ∃ b, a = b + 1 := ⟨a - 1, by omega⟩
        refine ⟨0, M', .inr (0, N'), ?_, ?_, Or.inr ⟨rfl, Or.inl ⟨N', rfl, p', _, _, _, _, _, _, by omega, l4, l5⟩⟩⟩
        · apply loop_en
          rw [X4_readLines_L2, if_neg (nI_nleN (by omega) (by decide)), bd2e l1, if_pos rfl]
        · apply loop_en
          rw [X9_readsGround_L25, hm.2.1, hm.2.2.1, pk_mul, if_neg (nI_nleN hlt (by omega)), bd2e (msign_y ht hm hp s2), if_neg n10, bd2e l2, if_pos rfl]
    · have hmE : loop (X9_readsGround_L25 (nI j)) (a' + 1) N = some (.inl (sI N 0 17 (nI p))) := by
        apply loop_en
        rw [X9_readsGround_L25, hm.2.1, hm.2.2.1, pk_mul, if_neg (nI_nleN hlt (by omega)), bd2e (msign_n ht hm hp s2), if_pos rfl]
      have hm' := hm.s17 p
      rcases chr_eq (n := n) (p := p) (V := V) (show 61 < 200 by decide) with ⟨c1, c2, c3⟩ | ⟨c1, c2⟩
      · rw [if_pos c1] at hcs
        exact ⟨1, _, _, loop_en hcs, hmE, Or.inl ⟨rfl, _, _, i0 + 1, p + 1, rfl, msign_y ht hm' hp c2, by omega, by omega, by omega, hc4.s3 _, hm'.s17 _, hD.C.C.M.M⟩⟩
      · rw [if_neg c1, if_neg s1] at hcs
        exact ⟨0, _, _, loop_en hcs, hmE, Or.inr ⟨rfl, Or.inr ⟨_, _, rfl, msign_n ht hm' hp c2, p, _, _, _, _, _, _, by omega, hc4, hm'.s17 _⟩⟩⟩
theorem gard_eq {M0 N0 M N : Mem} {j n p q w c : Nat} {V : Nat → Int32} {x19 : Int32} (ht : TX M0 N0 j n V) (hw4 : w ≤ 4) (hc16 : c ≤ 16) (hc : PC M0 M p q w 0) (hm : PM N0 N p (nI w) x19 0) (hp : p ≤ n) (hD : DT M N c 0 0) : ∃ r M' R, F_X4_readGardens M (38 + 2 * j) = some (r, M') ∧ loop (X9_readsGround_L72 (nI j)) FU (0, N) = some R ∧ ((r = 1 ∧ ∃ N' p', R = .inl N' ∧ p' ≤ n ∧ PC M0 M' p' q w 0 ∧ PM N0 N' p' (nI w) x19 0 ∧ DT M' N' c w 0) ∨ (r = 0 ∧ ∃ N', R = .inr (0, N') ∧ EndF M0 N0 M' N')) := by
  have hn := ht.2.1
  obtain ⟨R0, R, a1, a2, a3⟩ := loop_rel (f := X4_readGardens_L2 (38 + 2 * j)) (f' := X9_readsGround_L72 (nI j)) (fun i s s' => ∃ M N p, s = (nI i, M) ∧ s' = (nI i, N) ∧ p ≤ n ∧ PC M0 M p q w 0 ∧ PM N0 N p (nI w) x19 0 ∧ DT M N c i 0) (fun R0 R => ∃ r M', R0 = (r, M') ∧ ((r = 1 ∧ ∃ N' p', R = .inl N' ∧ p' ≤ n ∧ PC M0 M' p' q w 0 ∧ PM N0 N' p' (nI w) x19 0 ∧ DT M' N' c w 0) ∨ (r = 0 ∧ ∃ N', R = .inr (0, N') ∧ EndF M0 N0 M' N'))) w (fun i s s' hi hI => by
    obtain ⟨M, N, p, b0, b1, b2, b3, b4, b5⟩ := hI
    subst b0; subst b1
    rw [X4_readGardens_L2, X9_readsGround_L72, b3.2.2.1, b4.2.1]
    by_cases e : i = w
    · right
      subst e
      rw [if_pos (Int32.le_refl _), if_pos (Int32.le_refl _)]
      exact ⟨_, _, rfl, rfl, 1, M, rfl, Or.inl ⟨rfl, N, p, rfl, b2, b3, b4, b5⟩⟩
    · rw [if_neg (nI_nleN (by omega) (by omega)), if_neg (nI_nleN (show i < 4 by omega) (by decide)), if_neg (nI_nleN (by omega) (by omega)), nI_add]
      rcases fig_eq ht b3 b4 b2 (show 3 ≤ 5 by decide) with ⟨v, f1, f2, f3, f4⟩ | ⟨f3, f4⟩
      · left
        rw [bd1e f3, if_pos (nI_pos' (by omega)), chk_pos (inb_nI (by omega) (by decide)), clN (by omega), bd2e (f4 (16 + i) (by omega)), if_neg n10]
        simp only [lets]
        rw [gI_p (show (3 : Nat) ≠ 5 by decide), b3.1, nI_1, nI_1]
        exact ⟨by omega, _, _, rfl, rfl, _, _, p + 1, rfl, rfl, by omega, (b3.dt i (nI v) (by decide)).s3 _, (b4.dt (16 + i) (nI v)).s17 _, (b5.gar hc16 f1).C.M⟩
      · right
        rw [bd1e f3, if_neg (by decide), bd2e (f4 _), if_pos rfl]
        exact ⟨_, _, rfl, rfl, 0, M, rfl, Or.inr ⟨rfl, N, rfl, p, _, _, _, _, _, _, by omega, b3, b4⟩⟩) (k := FU) (k' := FU) (by show w < 200000; omega) (by show w < 200000; omega) (s := (0, M)) (s' := (0, N)) ⟨M, N, p, rfl, rfl, hp, hc, hm, hD⟩
  obtain ⟨r, M', e1, e2⟩ := a3
  subst e1
  exact ⟨r, M', R, a1, a2, e2⟩
/- kinds -/
theorem kbC (x : Int32) : (∃ v, v < 6 ∧ F_X4_kindBy x = some (nI v) ∧ x = stv 0 v) ∨ (F_X4_kindBy x = some (-1) ∧ ∀ k, k < 6 → ¬ stv 0 k = x) := by
  obtain ⟨r, e1, e2⟩ := loop_inv (f := X4_kindBy_L2 x) (fun i st => st = nI i ∧ ∀ k, k < i → ¬ stv 0 k = x) (fun r => (∃ v, v < 6 ∧ r = nI v ∧ x = stv 0 v) ∨ (r = -1 ∧ ∀ k, k < 6 → ¬ stv 0 k = x)) 6 (fun i st hi hst => by
    obtain ⟨e1, e2⟩ := hst
    subst e1
    rw [X4_kindBy_L2]
    by_cases e : i = 6
    · subst e
      rw [if_pos (Int32.le_refl _)]
      exact Or.inr ⟨_, rfl, Or.inr ⟨rfl, e2⟩⟩
    · rw [if_neg (nI_nleN (by omega) (by decide)), chk_pos (inb_nI (by omega) (by decide)), clN (by omega)]
      by_cases z : stv 0 i = x
      · rw [if_pos z]
        exact Or.inr ⟨_, rfl, Or.inl ⟨i, by omega, rfl, z.symm⟩⟩
      · rw [if_neg z, lets, nI_1]
        refine Or.inl ⟨by omega, _, rfl, rfl, fun k hk => ?_⟩
        by_cases ek : k = i
        · subst ek; exact z
        · exact e2 k (by omega)) (k := FU) (by decide) (s := 0) ⟨rfl, fun k hk => absurd hk (Nat.not_lt_zero _)⟩
  have hF : F_X4_kindBy x = some r := e1
  rcases e2 with ⟨v, h1, rfl, h3⟩ | ⟨rfl, h2⟩
  · exact Or.inl ⟨v, h1, hF, h3⟩
  · exact Or.inr ⟨hF, h2⟩
theorem kbM_v : ∀ v, v < 6 → F_X9_kindBy (stv 0 v) = some (nI v) := by decide
theorem kbM_n {x : Int32} (h : ∀ k, k < 6 → ¬ stv 0 k = x) : F_X9_kindBy x = some (-9) := by
  rw [F_X9_kindBy, if_neg (fun y => h 0 (by decide) y.symm), if_neg (fun y => h 1 (by decide) y.symm), if_neg (fun y => h 2 (by decide) y.symm), if_neg (fun y => h 3 (by decide) y.symm), if_neg (fun y => h 4 (by decide) y.symm), if_neg (fun y => h 5 (by decide) y.symm)]
theorem stv_1000 : ∀ k, k < 6 → ¬ stv 0 k = nI 1000 := by decide
theorem stv_9 : ∀ k, k < 6 → ¬ stv 0 k = -9 := by decide
theorem kb_eq {n p : Nat} {V : Nat → Int32} : (∃ v, v < 6 ∧ p < n ∧ F_X4_kindBy (ccN n V p) = some (nI v) ∧ F_X9_kindBy (mcN n V p) = some (nI v)) ∨ (F_X4_kindBy (ccN n V p) = some (-1) ∧ F_X9_kindBy (mcN n V p) = some (-9)) := by
  by_cases z : p < n
  · rw [cc_in z, mc_in z]
    rcases kbC (V p) with ⟨v, h1, h2, h3⟩ | ⟨h1, h2⟩
    · exact Or.inl ⟨v, h1, z, h2, by rw [h3]; exact kbM_v v h1⟩
    · exact Or.inr ⟨h1, kbM_n h2⟩
  · rw [cc_out z, mc_out z]
    refine Or.inr ⟨?_, kbM_n stv_9⟩
    rcases kbC (nI 1000) with ⟨v, h1, h2, h3⟩ | ⟨h1, h2⟩
    · exact absurd h3.symm (stv_1000 v h1)
    · exact h1
theorem laws_eq {M0 N0 M N : Mem} {j n p q w c : Nat} {V : Nat → Int32} {x18 x19 : Int32} (ht : TX M0 N0 j n V) (hw4 : w ≤ 4) (hc16 : c ≤ 16) (hc : PC M0 M p q w 0) (hm : PM N0 N p x18 x19 0) (hp : p ≤ n) (hD : DT M N c w 0) : ∃ M' N' p' l, F_X4_readLaws M (38 + 2 * j) = some M' ∧ loop (X9_readsGround_L101 (nI j)) FU N = some N' ∧ p' ≤ n ∧ l ≤ 6 ∧ PC M0 M' p' q w l ∧ PM N0 N' p' x18 x19 l ∧ DT M' N' c w l := by
  have hn := ht.2.1
  obtain ⟨M', N', a1, a2, p', l, a3, a4, a5, a6, a7⟩ := loop_rel (f := X4_readLaws_L2 (38 + 2 * j)) (f' := X9_readsGround_L101 (nI j)) (fun i s N => ∃ M p, s = (nI i, M) ∧ p ≤ n ∧ PC M0 M p q w i ∧ PM N0 N p x18 x19 i ∧ DT M N c w i) (fun M' N' => ∃ p' l, p' ≤ n ∧ l ≤ 6 ∧ PC M0 M' p' q w l ∧ PM N0 N' p' x18 x19 l ∧ DT M' N' c w l) 6 (fun i s N hi hI => by
    obtain ⟨M, p, b0, b2, b3, b4, b5⟩ := hI
    subst b0
    rw [X4_readLaws_L2, X9_readsGround_L101, b4.2.2.2.1]
    by_cases e : i = 6
    · right
      subst e
      rw [if_pos (Int32.le_refl _), if_pos (Int32.le_refl _)]
      exact ⟨_, _, rfl, rfl, p, 6, b2, by decide, b3, b4, b5⟩
    · rw [if_neg (nI_nleN (by omega) (by decide)), if_neg (nI_nleN (by omega) (by decide)), bd1e (sign_eq ht b3 b2), bd1e (here_eq ht b4 b2), bd1e (here_eq ht b4 b2)]
      rcases kb_eq (n := n) (p := p) (V := V) with ⟨v, f1, f2, f3, f4⟩ | ⟨f3, f4⟩
      · left
        rw [bd1e f3, if_pos (nI_pos' (by omega)), chk_pos (inb_nI (by omega) (by decide)), clN (by omega), bd1e f4, if_neg (nI_n9 (by omega)), bd1e f4, nI_add, chk_pos (inb_nI (by omega) (by decide)), clN (by omega)]
        simp only [lets]
        rw [nI_1, gI_k (show (3 : Nat) ≠ 6 by decide), gI_p (show (3 : Nat) ≠ 6 by decide), b3.1, nI_1, gI_p (show (0 : Nat) ≠ 10 by decide), b4.2.2.2.1, nI_1, gI_k (show (17 : Nat) ≠ 20 by decide), gI_p (show (0 : Nat) ≠ 10 by decide), b4.1, nI_1]
        exact ⟨by omega, _, _, rfl, rfl, _, p + 1, rfl, by omega, ((b3.dt i (nI v) (by decide)).s6 _).s3 _, ((b4.dt (20 + i) (nI v)).s20 _).s17 _, (b5.law hc16 hw4 (by omega)).C.C.M.M⟩
      · right
        rw [bd1e f3, if_neg (by decide), bd1e f4, if_pos rfl]
        exact ⟨_, _, rfl, rfl, p, i, b2, hi, b3, b4, b5⟩) (k := FU) (k' := FU) (by decide) (by decide) (s := (0, M)) (s' := N) ⟨M, p, rfl, hp, hc, hm, hD⟩
  exact ⟨M', N', p', l, a1, a2, a3, a4, a5, a6, a7⟩
/-- both readers stop at the same place, or read the same -/
theorem parse_eq {M0 N0 : Mem} {j n : Nat} {V : Nat → Int32} (ht : TX M0 N0 j n V) : ∃ r M' N', F_X4_faultOf M0 (38 + 2 * j) = some (r, M') ∧ F_X9_goesOn N0 (nI j) = some (r, N') ∧ (∀ q x, ¬ (3 ≤ q ∧ q ≤ 6) → gI M' q x = gI M0 q x) ∧ (∀ q x, gJ M' q x = gJ M0 q x) ∧ (∀ q x, q ≠ 10 → ¬ (q = 0 ∧ 17 ≤ x ∧ x ≤ 20) → gI N' q x = gI N0 q x) ∧ (∀ q x, gJ N' q x = gJ N0 q x) ∧ (¬ r = -9 ∨ (r = -9 ∧ ∃ p q w l, 2 ≤ w ∧ w ≤ 4 ∧ 1 ≤ q ∧ q ≤ 4 ∧ l ≤ 6 ∧ PC M0 M' p q w l ∧ PM N0 N' p (nI w) (nI (q * w)) l ∧ DT M' N' (q * w) w l)) := by
  have hn := ht.2.1
  have hj := ht.1
  have hfin : ∀ {M' N' : Mem}, EndF M0 N0 M' N' → F_X4_faultOf M0 (38 + 2 * j) = some (gI M' 3 3, M') → F_X9_readsGround N0 (nI j) = some (0, N') → ∃ r M' N', F_X4_faultOf M0 (38 + 2 * j) = some (r, M') ∧ F_X9_goesOn N0 (nI j) = some (r, N') ∧ (∀ q x, ¬ (3 ≤ q ∧ q ≤ 6) → gI M' q x = gI M0 q x) ∧ (∀ q x, gJ M' q x = gJ M0 q x) ∧ (∀ q x, q ≠ 10 → ¬ (q = 0 ∧ 17 ≤ x ∧ x ≤ 20) → gI N' q x = gI N0 q x) ∧ (∀ q x, gJ N' q x = gJ N0 q x) ∧ (¬ r = -9 ∨ (r = -9 ∧ ∃ p q w l, 2 ≤ w ∧ w ≤ 4 ∧ 1 ≤ q ∧ q ≤ 4 ∧ l ≤ 6 ∧ PC M0 M' p q w l ∧ PM N0 N' p (nI w) (nI (q * w)) l ∧ DT M' N' (q * w) w l)) := by
    intro M' N' hE h1 h2
    obtain ⟨p, _, _, _, _, _, _, h0, e1, e2⟩ := hE
    refine ⟨nI p, M', N', by rw [h1, e1.1], by rw [F_X9_goesOn, bd2e h2, if_pos rfl, e2.1], e1.2.2.2.2.1, e1.2.2.2.2.2, e2.2.2.2.2.1, e2.2.2.2.2.2, Or.inl (nI_n9 (by omega))⟩
  -- the start
  have c0 : PC M0 (sI (sI (sI (sI M0 3 3 0) 3 4 0) 3 5 0) 3 6 0) 0 0 0 0 := by
    refine ⟨?_, ?_, ?_, ?_, fun q x hq => ?_, fun q x => rfl⟩
    · rw [gI_k (by decide), gI_k (by decide), gI_k (by decide), gI_same]; rfl
    · rw [gI_k (by decide), gI_k (by decide), gI_same]; rfl
    · rw [gI_k (by decide), gI_same]; rfl
    · rw [gI_same]; rfl
    · rw [gI_p (by omega), gI_p (by omega), gI_p (by omega), gI_p (by omega)]
  have m0 : PM N0 (sI (sI N0 0 17 0) 0 20 0) 0 (gI N0 0 18) (gI N0 0 19) 0 := by
    refine ⟨?_, ?_, ?_, ?_, fun q x hq hx => ?_, fun q x => rfl⟩
    · rw [gI_k (by decide), gI_same]; rfl
    · rw [gI_k (by decide), gI_k (by decide)]
    · rw [gI_k (by decide), gI_k (by decide)]
    · rw [gI_same]; rfl
    · rw [gI_sI, if_neg (by omega), gI_sI, if_neg (by omega)]
  obtain ⟨M1, N1, p1, s1, s2, s3, s4, s5, s6⟩ := skip_eq ht c0 m0 (Nat.zero_le _) (c := 0) (g := 0) ⟨fun i hi => absurd hi (Nat.not_lt_zero _), fun i hi => absurd hi (Nat.not_lt_zero _), fun i hi => absurd hi (Nat.not_lt_zero _)⟩
  obtain ⟨r2, M2, N2, p2, w, u1, u2, u3, u4, u5, u6, u7, u8⟩ := first_eq ht s4 s5 s3
  rcases u8 with ⟨rfl, hw2⟩ | rfl
  · obtain ⟨r3, M3, R3, v1, v2, v3⟩ := lines_eq ht hw2 u4 3 0 (by decide) M1 M2 N2 p2 0 u1 u5 (by rw [Nat.zero_add, Nat.one_mul]; exact u6) u3 (by rw [Nat.zero_add, Nat.one_mul]; exact u7) FU FU (by decide) (by decide)
    have v1 : F_X4_readLines M1 (38 + 2 * j) = some (r3, M3) := v1
    rcases v3 with ⟨rfl, N3, N4, q, p3, rfl, v4, q1, q4, v5, v6, v7, v8⟩ | ⟨rfl, v3⟩
    · have hc16 : q * w ≤ 16 := by
        have := Nat.mul_le_mul q4 u4
        omega
      obtain ⟨r5, M5, R5, x1, x2, x3⟩ := gard_eq ht u4 hc16 v6 v7 v5 v8
      rcases x3 with ⟨rfl, N5, p5, rfl, x4, x5, x6, x7⟩ | ⟨rfl, N5, rfl, x4⟩
      · obtain ⟨M6, N6, p6, l, y1, y2, y3, y4, y5, y6, y7⟩ := laws_eq ht u4 hc16 x5 x6 x4 x7
        obtain ⟨M7, N7, p7, z1, z2, z3, z4, z5, z6⟩ := skip_eq ht y5 y6 y3 y7
        have hsz : F_X5_size M7 (38 + 2 * j) = some (nI n) := by rw [F_X5_size, z4.2.2.2.2.1 _ _ (by omega), ht.2.2.1]
        have hlen : gI N7 5 j = nI n := by rw [z5.2.2.2.2.1 5 j (by decide) (by omega)]; exact ht.2.2.2.2.1
        by_cases e : p7 = n
        · subst e
          refine ⟨-9, M7, N7, ?_, ?_, z4.2.2.2.2.1, z4.2.2.2.2.2, z5.2.2.2.2.1, z5.2.2.2.2.2, Or.inr ⟨rfl, p7, q, w, l, hw2, u4, q1, q4, y4, z4, z5, z6⟩⟩
          · rw [F_X4_faultOf]
            simp only [lets]
            rw [bd1e s1, bd2e v1, if_neg n10, bd2e x1, if_neg n10, bd1e y1, bd1e z1, bd1e hsz, z4.1, if_pos (Int32.le_refl _)]
          · have hR : F_X9_readsGround N0 (nI j) = some (1, N7) := by
              rw [F_X9_readsGround]
              simp only [lets]
              rw [bd1e s2, bd2e u2, if_neg n10, bd1e v2, se_l, un1_e, bd2e v4, if_neg n10, bd1e x2, se_l, un1_e, bd1e y2, bd1e z2, chk_pos (inb_nI hj (by decide)), clN (by omega), z5.1, hlen, if_pos rfl]
            rw [F_X9_goesOn, bd2e hR, if_neg n10]
        · refine ⟨nI p7, M7, N7, ?_, ?_, z4.2.2.2.2.1, z4.2.2.2.2.2, z5.2.2.2.2.1, z5.2.2.2.2.2, Or.inl (nI_n9 (by omega))⟩
          · rw [F_X4_faultOf]
            simp only [lets]
            rw [bd1e s1, bd2e v1, if_neg n10, bd2e x1, if_neg n10, bd1e y1, bd1e z1, bd1e hsz, z4.1, if_neg (nI_nleN (by omega) (by omega))]
          · have hR : F_X9_readsGround N0 (nI j) = some (0, N7) := by
              rw [F_X9_readsGround]
              simp only [lets]
              rw [bd1e s2, bd2e u2, if_neg n10, bd1e v2, se_l, un1_e, bd2e v4, if_neg n10, bd1e x2, se_l, un1_e, bd1e y2, bd1e z2, chk_pos (inb_nI hj (by decide)), clN (by omega), z5.1, hlen, if_neg (fun y => by have := (nI_eq (by omega) (by omega)).mp y; omega)]
            rw [F_X9_goesOn, bd2e hR, if_pos rfl, z5.1]
      · refine hfin x4 ?_ ?_
        · rw [F_X4_faultOf]
          simp only [lets]
          rw [bd1e s1, bd2e v1, if_neg n10, bd2e x1, if_pos rfl]
        · rw [F_X9_readsGround]
          simp only [lets]
          rw [bd1e s2, bd2e u2, if_neg n10, bd1e v2, se_l, un1_e, bd2e v4, if_neg n10, bd1e x2, se_r, un2_e]
    · have hC : F_X4_faultOf M0 (38 + 2 * j) = some (gI M3 3 3, M3) := by
        rw [F_X4_faultOf]
        simp only [lets]
        rw [bd1e s1, bd2e v1, if_pos rfl]
      rcases v3 with ⟨N3, rfl, v4⟩ | ⟨N3, N4, rfl, v4, v5⟩
      · refine hfin v4 hC ?_
        rw [F_X9_readsGround]
        simp only [lets]
        rw [bd1e s2, bd2e u2, if_neg n10, bd1e v2, se_r, un2_e]
      · refine hfin v5 hC ?_
        rw [F_X9_readsGround]
        simp only [lets]
        rw [bd1e s2, bd2e u2, if_neg n10, bd1e v2, se_l, un1_e, bd2e v4, if_pos rfl]
  · have v1 : F_X4_readLines M1 (38 + 2 * j) = some (0, M2) := by
      apply loop_en (n := 199999)
      rw [X4_readLines_L2, if_neg (by decide), bd2e u1, if_pos rfl]
    refine hfin ⟨p2, _, _, _, _, _, _, by omega, u5, u6⟩ ?_ ?_
    · rw [F_X4_faultOf]
      simp only [lets]
      rw [bd1e s1, bd2e v1, if_pos rfl]
    · rw [F_X9_readsGround]
      simp only [lets]
      rw [bd1e s2, bd2e u2, if_pos rfl]
theorem Rel.tx {t : Nat} {lw : Nat → Option Nat} {M N : Mem} (h : Rel t lw M N) {j n : Nat} (hj : j < 4) (hn : n ≤ 60) (e1 : gI M (38 + 2 * j) 1 = nI n) (e2 : gI N 5 j = nI n) (e3 : ∀ i, i < n → gI M (38 + 2 * j + 1) i = gI N 6 (60 * j + i)) : TX M N j n (fun i => gI N 6 (60 * j + i)) := ⟨hj, hn, e1, e3, e2, fun _ _ => rfl⟩
theorem Rel.rd {t : Nat} {lw : Nat → Option Nat} {M M' N N' : Mem} (h : Rel t lw M N) (h1 : ∀ q x, ¬ (3 ≤ q ∧ q ≤ 6) → gI M' q x = gI M q x) (h2 : ∀ q x, gJ M' q x = gJ M q x) (h3 : ∀ q x, q ≠ 10 → ¬ (q = 0 ∧ 17 ≤ x ∧ x ≤ 20) → gI N' q x = gI N q x) (h4 : ∀ q x, gJ N' q x = gJ N q x) : Rel t lw M' N' := by
  refine h.frm (fun p k hp => h1 p k ?_) (fun p k hp => h3 p k ?_ ?_) (fun k => h2 0 k) ⟨h4 _ _, h4 _ _⟩
  · intro hq
    have : p = 3 ∨ p = 4 ∨ p = 5 ∨ p = 6 := by omega
    rcases this with rfl | rfl | rfl | rfl <;> simp [sRelC, sAllC, sRwC, sTxC, sGC, sToC] at hp
  · rintro rfl
    simp [sRelM, sAllM, sRwM, sTxM, sGM, sToM] at hp
  · rintro ⟨rfl, h5, h6⟩
    have : k = 17 ∨ k = 18 ∨ k = 19 ∨ k = 20 := by omega
    rcases this with rfl | rfl | rfl | rfl <;> simp [sRelM, sAllM, sRwM, sTxM, sGM, sToM] at hp
theorem op_fault {lw : Nat → Option Nat} (tl tt : Option Nat) {M N : Mem} {t : Nat} (ht : t ≤ 3100) (h : Rel t lw M N) (a1 : Int32) : ∃ (r : Int32) (M' : Mem) (N' : Mem), F_X8_fault M a1 = some (r, M') ∧ F_X9_fault N a1 = some (r, N') ∧ Rel (t + 1) lw M' N' := by
  rcases cut 4 (by decide) a1 with z | ⟨j, hj, rfl⟩
  · exact ⟨-1, M, N, by rw [F_X8_fault, bd1e (textOf_no z), oc_n], by rw [F_X9_fault, bd2e (askedText_no z), if_neg (by decide)], h.up⟩
  · rcases h.2.2.1 j hj with ⟨e1, e2⟩ | ⟨n, en, e1, e2, e3⟩
    · exact ⟨-3, fndC M 1, fndM N 1, by rw [F_X8_fault, bd1e (textOf_in hj), oc_s, chk_pos (isX5_txt hj), bd1e (missing_yes e1), if_neg n10, bd2e found1], by rw [F_X9_fault, bd2e (askedText_ms hj e2), if_neg (by decide)], h.found (by decide)⟩
    · obtain ⟨r, M', N', a1, a2, a3, a4, a5, a6, -⟩ := parse_eq (h.tx hj en e1 e2 e3)
      exact ⟨r, M', N', by rw [F_X8_fault, bd1e (textOf_in hj), oc_s, chk_pos (isX5_txt hj), bd1e (missing_no e1 (by omega)), if_pos rfl, bd2e a1], by rw [F_X9_fault, bd2e (askedText_in hj e2 en), if_pos (by decide), bd2e a2], (h.rd a3 a4 a5 a6).up⟩
