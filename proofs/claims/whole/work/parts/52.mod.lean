def X9_carry_J210 (M : Mem) (x2 : Int32) (x3 : Int32) (x4 : Int32) (x5 : Int32) (x6 : Int32) (x7 : Int32) (x8 : Int32) (x9 : Int32) (s0 : Int32) : Option ((Int32 × Int32 × Int32) ⊕ ((Int32 × Int32) ⊕ (Int32 × Mem))) :=
 chk (inb x9 16 = true) (if (gI M 7 x9.toNatClampNeg) ≤ s0 then chk (inb x9 16 = true) (lett (x8 + (s0 - (gI M 7 x9.toNatClampNeg))) fun x_42 => lett (x9 + 1) fun x_44 => some (.inl (x7, x_42, x_44)))
 else chk (inb x9 16 = true) (lett (x8 + ((gI M 7 x9.toNatClampNeg) - s0)) fun x_47 => lett (x9 + 1) fun x_49 => some (.inl (x7, x_47, x_49))))
def X9_carry_L76 (M : Mem) (x2 : Int32) (x3 : Int32) (x4 : Int32) (x5 : Int32) (x6 : Int32) : Int32 × Int32 × Int32 → Option ((Int32 × Int32 × Int32) ⊕ ((Int32 × Int32) ⊕ (Int32 × Mem)))
  | (x7, x8, x9) =>
    if (gI M 0 11) ≤ x9 then some (.inr (.inl (x7, x8)))
    else bd1 (F_X9_has x4 x9) fun r_18 => if r_18 = 0 then lett (x9 + 1) fun x_20 => some (.inl (x7, x8, x_20))
    else chk (¬ (gI M 0 10) = 0) (lett ((irm x9 (gI M 0 10)) + x2) fun x_23 => chk (¬ (gI M 0 10) = 0) (lett ((x9 / (gI M 0 10)) + x3) fun x_26 => bd1 (F_X9_in x_23 0 ((gI M 0 10) - 1)) fun r_28 => if r_28 = 0 then some (.inr (.inr ((-9), M)))
    else bd1 (F_X9_in x_26 0 (x6 - 1)) fun r_30 => if r_30 = 0 then some (.inr (.inr ((-9), M)))
    else lett (((gI M 0 10) * x_26) + x_23) fun x_32 => bd1 (F_X9_besides M x_32) fun r_34 => if (((ish 1 x_32) ||| r_34) &&& x5) = 0 then lett (x7 ||| (ish 1 x_32)) fun x_36 => bd1 (F_X9_has x4 x_32) fun r_38 => if r_38 = 0 then X9_carry_J210 M x2 x3 x4 x5 x6 x_36 x8 x9 0
    else chk (inb x_32 16 = true) (X9_carry_J210 M x2 x3 x4 x5 x6 x_36 x8 x9 (gI M 7 x_32.toNatClampNeg))
    else some (.inr (.inr ((-9), M)))))
def X9_carry_L261 (M : Mem) (x4 : Int32) (x7 : Int32) : Int32 × Int32 → Option ((Int32 × Int32) ⊕ (Int32 × Mem))
  | (x8, x9) =>
    if (gI M 0 11) ≤ x9 then some (.inr (x8, M))
    else bd1 (F_X9_has (x4 &&& (x7 ^^^ (-1))) x9) fun r_55 => if r_55 = 0 then lett (x8 + 0) fun x_57 => lett (x9 + 1) fun x_59 => some (.inl (x_57, x_59))
    else chk (inb x9 16 = true) (lett (x8 + (gI M 7 x9.toNatClampNeg)) fun x_62 => lett (x9 + 1) fun x_64 => some (.inl (x_62, x_64)))
def F_X9_carry (M : Mem) (x1 : Int32) (x2 : Int32) (x3 : Int32) : Option (Int32 × Mem) :=
 bd2 (F_X9_isHole M x1) fun r_1 M_2 => if r_1 = 0 then some ((-1), M_2)
 else chk (inb x1 8 = true) (lett (gI M_2 11 x1.toNatClampNeg) fun x_5 => bd1 (F_X9_dugIn M_2 7 0) fun r_7 => lett (r_7 &&& (x_5 ^^^ (-1))) fun x_9 => chk (¬ (gI M_2 0 10) = 0) (lett ((gI M_2 0 11) / (gI M_2 0 10)) fun x_12 => bd1 (F_X9_in x2 (-4) (nI 4)) fun r_14 => if r_14 = 0 then some ((-9), M_2)
 else bd1 (F_X9_in x3 (-4) (nI 4)) fun r_16 => if r_16 = 0 then some ((-9), M_2)
 else bd1 (loop (X9_carry_L76 M_2 x2 x3 x_5 x_9 x_12) FU (0, 0, 0)) (Sum.elim (un2 fun x_53 x_54 => loop (X9_carry_L261 M_2 x_5 x_53) FU (x_54, 0)) (un2 fun r_66 r_67 => some (r_66, r_67)))))
set_option maxRecDepth 100000 in
set_option maxHeartbeats 4000000 in
theorem j_X9_carry_J210 (M : Mem) (x2 : Int32) (x3 : Int32) (x4 : Int32) (x5 : Int32) (x6 : Int32) (x7 : Int32) (x8 : Int32) (x9 : Int32) (s0 : Int32) {Po : Po_} (x : (Int32 × Int32 × Int32) ⊕ ((Int32 × Int32) ⊕ (Int32 × Mem))) (h : X9_carry_J210 M x2 x3 x4 x5 x6 x7 x8 x9 s0 = some x) (hI : ∀ (ix7 : Int32) (ix8 : Int32) (ix9 : Int32), x = .inl (ix7, ix8, ix9) → T RX9 cX9_carry 14 (some .int) 0 6 0 0 false Po 76 [aR (some 0), aU, aI x2, aI x3, aI x4, aI x5, aI x6, aI ix7, aI ix8, aI ix9, aU, aU, aU, aU] [] LAYM rfm M 0 0) (hE0 : ∀ (e7 : Int32) (e8 : Int32), x = .inr (.inl (e7, e8)) → T RX9 cX9_carry 14 (some .int) 0 6 0 0 false Po 258 [aR (some 0), aU, aU, aU, aI x4, aU, aU, aI e7, aI e8, aU, aU, aU, aU, aU] [] LAYM rfm M 0 0) (hE1 : ∀ (er : Int32) (eM : Mem), x = .inr (.inr (er, eM)) → Po (vI er) LAYM rfm eM) : T RX9 cX9_carry 14 (some .int) 0 6 0 0 false Po 210 [aR (some 0), aU, aI x2, aI x3, aI x4, aI x5, aI x6, aI x7, aI x8, aI x9, aU, aU, aU, aU] [vI s0] LAYM rfm M 0 0 := by
  unfold X9_carry_J210 at h
  refine T_istore (i := 13) (L' := [aR (some 0), aU, aI x2, aI x3, aI x4, aI x5, aI x6, aI x7, aI x8, aI x9, aU, aU, aU, aI s0]) dX9_carry_210 (Nat.le_of_ble_eq_true rfl) rfl ?_
  refine T_iload dX9_carry_212 rfl ?_
  refine T_aload_n dX9_carry_214 rfl ?_
  refine T_getR dX9_carry_215 clOK_X9 fl_X9_32 lyM_0 rfl rfl ?_
  refine T_iload dX9_carry_218 rfl ?_
  obtain ⟨hi_40, h⟩ := chk_some h
  refine T_iald dX9_carry_220 lyM_7 (inb_in hi_40) ?_
  refine T_iload dX9_carry_221 rfl ?_
  refine T_icmp_le (tgt := 239) dX9_carry_223 (by decide) (fun hc => ?_) (fun hc => ?_)
  · have h := it_pos hc h
    refine T_iload dX9_carry_239 rfl ?_
    refine T_aload_n dX9_carry_241 rfl ?_
    refine T_getR dX9_carry_242 clOK_X9 fl_X9_32 lyM_0 rfl rfl ?_
    refine T_iload dX9_carry_245 rfl ?_
    obtain ⟨hi_41, h⟩ := chk_some h
    refine T_iald dX9_carry_247 lyM_7 (inb_in hi_41) ?_
    refine T_isub dX9_carry_248 ?_
    refine T_iadd dX9_carry_249 ?_
    obtain ⟨x_42, ex_43, h⟩ := lett_some h
    refine T_topI ex_43 ?_
    refine T_istore (i := 8) (L' := [aR (some 0), aU, aI x2, aI x3, aI x4, aI x5, aI x6, aI x7, aI x_42, aI x9, aU, aU, aU, aI s0]) dX9_carry_250 (Nat.le_of_ble_eq_true rfl) rfl ?_
    obtain ⟨x_44, ex_45, h⟩ := lett_some h
    refine T_iinc (L' := [aR (some 0), aU, aI x2, aI x3, aI x4, aI x5, aI x6, aI x7, aI x_42, aI x_44, aU, aU, aU, aI s0]) dX9_carry_252 rfl (ic_inc ic_1 ex_45) (Nat.le_of_ble_eq_true rfl) rfl ?_
    refine T_goto (tgt := 76) dX9_carry_255 (by decide) ?_
    obtain rfl := sm1 h
    refine T_mask [true, true, true, true, true, true, true, true, true, true, true, true, true, false] rfl ?_
    exact hI _ _ _ rfl
  · have h := it_neg hc h
    refine T_aload_n dX9_carry_226 rfl ?_
    refine T_getR dX9_carry_227 clOK_X9 fl_X9_32 lyM_0 rfl rfl ?_
    refine T_iload dX9_carry_230 rfl ?_
    obtain ⟨hi_46, h⟩ := chk_some h
    refine T_iald dX9_carry_232 lyM_7 (inb_in hi_46) ?_
    refine T_iload dX9_carry_233 rfl ?_
    refine T_isub dX9_carry_235 ?_
    refine T_goto (tgt := 249) dX9_carry_236 (by decide) ?_
    refine T_iadd dX9_carry_249 ?_
    obtain ⟨x_47, ex_48, h⟩ := lett_some h
    refine T_topI ex_48 ?_
    refine T_istore (i := 8) (L' := [aR (some 0), aU, aI x2, aI x3, aI x4, aI x5, aI x6, aI x7, aI x_47, aI x9, aU, aU, aU, aI s0]) dX9_carry_250 (Nat.le_of_ble_eq_true rfl) rfl ?_
    obtain ⟨x_49, ex_50, h⟩ := lett_some h
    refine T_iinc (L' := [aR (some 0), aU, aI x2, aI x3, aI x4, aI x5, aI x6, aI x7, aI x_47, aI x_49, aU, aU, aU, aI s0]) dX9_carry_252 rfl (ic_inc ic_1 ex_50) (Nat.le_of_ble_eq_true rfl) rfl ?_
    refine T_goto (tgt := 76) dX9_carry_255 (by decide) ?_
    obtain rfl := sm1 h
    refine T_mask [true, true, true, true, true, true, true, true, true, true, true, true, true, false] rfl ?_
    exact hI _ _ _ rfl
set_option maxRecDepth 100000 in
set_option maxHeartbeats 4000000 in
theorem s_X9_carry_L76 (M : Mem) (x2 : Int32) (x3 : Int32) (x4 : Int32) (x5 : Int32) (x6 : Int32) (x7 : Int32) (x8 : Int32) (x9 : Int32) {Po : Po_} (x : (Int32 × Int32 × Int32) ⊕ ((Int32 × Int32) ⊕ (Int32 × Mem))) (h : X9_carry_L76 M x2 x3 x4 x5 x6 (x7, x8, x9) = some x) (hI : ∀ (ix7 : Int32) (ix8 : Int32) (ix9 : Int32), x = .inl (ix7, ix8, ix9) → T RX9 cX9_carry 14 (some .int) 0 6 0 0 false Po 76 [aR (some 0), aU, aI x2, aI x3, aI x4, aI x5, aI x6, aI ix7, aI ix8, aI ix9, aU, aU, aU, aU] [] LAYM rfm M 0 0) (hE0 : ∀ (e7 : Int32) (e8 : Int32), x = .inr (.inl (e7, e8)) → T RX9 cX9_carry 14 (some .int) 0 6 0 0 false Po 258 [aR (some 0), aU, aU, aU, aI x4, aU, aU, aI e7, aI e8, aU, aU, aU, aU, aU] [] LAYM rfm M 0 0) (hE1 : ∀ (er : Int32) (eM : Mem), x = .inr (.inr (er, eM)) → Po (vI er) LAYM rfm eM) : T RX9 cX9_carry 14 (some .int) 0 6 0 0 false Po 76 [aR (some 0), aU, aI x2, aI x3, aI x4, aI x5, aI x6, aI x7, aI x8, aI x9, aU, aU, aU, aU] [] LAYM rfm M 0 0 := by
  unfold X9_carry_L76 at h
  simp only at h
  refine T_iload dX9_carry_76 rfl ?_
  refine T_aload_n dX9_carry_78 rfl ?_
  refine T_getI dX9_carry_79 clOK_X9 fl_X9_155 lyM_0 rfl ?_
  refine T_icmp_ge (tgt := 258) dX9_carry_82 (by decide) (fun hc => ?_) (fun hc => ?_)
  · have h := it_pos hc h
    obtain rfl := sm1 h
    refine T_mask [true, true, false, false, true, false, false, true, true, false, true, true, true, true] rfl ?_
    exact hE0 _ _ rfl
  · have h := it_neg hc h
    refine T_iload dX9_carry_85 rfl ?_
    refine T_iload dX9_carry_87 rfl ?_
    obtain ⟨r_18, hc_19, h⟩ := bd1_some h
    refine T_csi (as := [vI x4, vI x9]) dX9_carry_89 cw_X9_has ml_X9_170 mt_X9_has rfl (Nat.le_of_ble_eq_true rfl) (Nat.le_of_ble_eq_true rfl) (m_X9_has M x4 x9  _ hc_19) ?_
    refine T_if_eq (tgt := 252) dX9_carry_92 (by decide) (fun hc => ?_) (fun hc => ?_)
    · have h := it_pos hc h
      obtain ⟨x_20, ex_21, h⟩ := lett_some h
      refine T_iinc (L' := [aR (some 0), aU, aI x2, aI x3, aI x4, aI x5, aI x6, aI x7, aI x8, aI x_20, aU, aU, aU, aU]) dX9_carry_252 rfl (ic_inc ic_1 ex_21) (Nat.le_of_ble_eq_true rfl) rfl ?_
      refine T_goto (tgt := 76) dX9_carry_255 (by decide) ?_
      obtain rfl := sm1 h
      exact hI _ _ _ rfl
    · have h := it_neg hc h
      refine T_iload dX9_carry_95 rfl ?_
      refine T_aload_n dX9_carry_97 rfl ?_
      refine T_getI dX9_carry_98 clOK_X9 fl_X9_158 lyM_0 rfl ?_
      obtain ⟨hz_22, h⟩ := chk_some h
      refine T_irem dX9_carry_101 hz_22 ?_
      refine T_iload_n dX9_carry_102 rfl ?_
      refine T_iadd dX9_carry_103 ?_
      obtain ⟨x_23, ex_24, h⟩ := lett_some h
      refine T_topI ex_24 ?_
      refine T_istore (i := 10) (L' := [aR (some 0), aU, aI x2, aI x3, aI x4, aI x5, aI x6, aI x7, aI x8, aI x9, aI x_23, aU, aU, aU]) dX9_carry_104 (Nat.le_of_ble_eq_true rfl) rfl ?_
      refine T_iload dX9_carry_106 rfl ?_
      refine T_aload_n dX9_carry_108 rfl ?_
      refine T_getI dX9_carry_109 clOK_X9 fl_X9_158 lyM_0 rfl ?_
      obtain ⟨hz_25, h⟩ := chk_some h
      refine T_idiv dX9_carry_112 hz_25 ?_
      refine T_iload_n dX9_carry_113 rfl ?_
      refine T_iadd dX9_carry_114 ?_
      obtain ⟨x_26, ex_27, h⟩ := lett_some h
      refine T_topI ex_27 ?_
      refine T_istore (i := 11) (L' := [aR (some 0), aU, aI x2, aI x3, aI x4, aI x5, aI x6, aI x7, aI x8, aI x9, aI x_23, aI x_26, aU, aU]) dX9_carry_115 (Nat.le_of_ble_eq_true rfl) rfl ?_
      refine T_iload dX9_carry_117 rfl ?_
      refine T_iconst dX9_carry_119 ic_0 ?_
      refine T_aload_n dX9_carry_120 rfl ?_
      refine T_getI dX9_carry_121 clOK_X9 fl_X9_158 lyM_0 rfl ?_
      refine T_iconst dX9_carry_124 ic_1 ?_
      refine T_isub dX9_carry_125 ?_
      obtain ⟨r_28, hc_29, h⟩ := bd1_some h
      refine T_csi (as := [vI x_23, vI 0, vI ((gI M 0 10) - 1)]) dX9_carry_126 cw_X9_in ml_X9_79 mt_X9_in rfl (Nat.le_of_ble_eq_true rfl) (Nat.le_of_ble_eq_true rfl) (m_X9_in M x_23 0 ((gI M 0 10) - 1)  _ hc_29) ?_
      refine T_if_eq (tgt := 145) dX9_carry_129 (by decide) (fun hc => ?_) (fun hc => ?_)
      · have h := it_pos hc h
        refine T_bipush dX9_carry_145 bp_m9 ?_
        obtain rfl := sm1 h
        exact T_iret dX9_carry_147 (hE1 _ _ rfl)
      · have h := it_neg hc h
        refine T_iload dX9_carry_132 rfl ?_
        refine T_iconst dX9_carry_134 ic_0 ?_
        refine T_iload dX9_carry_135 rfl ?_
        refine T_iconst dX9_carry_137 ic_1 ?_
        refine T_isub dX9_carry_138 ?_
        obtain ⟨r_30, hc_31, h⟩ := bd1_some h
        refine T_csi (as := [vI x_26, vI 0, vI (x6 - 1)]) dX9_carry_139 cw_X9_in ml_X9_79 mt_X9_in rfl (Nat.le_of_ble_eq_true rfl) (Nat.le_of_ble_eq_true rfl) (m_X9_in M x_26 0 (x6 - 1)  _ hc_31) ?_
        refine T_if_ne (tgt := 148) dX9_carry_142 (by decide) (fun hc => ?_) (fun hc => ?_)
        · have h := it_neg hc h
          refine T_aload_n dX9_carry_148 rfl ?_
          refine T_getI dX9_carry_149 clOK_X9 fl_X9_158 lyM_0 rfl ?_
          refine T_iload dX9_carry_152 rfl ?_
          refine T_imul dX9_carry_154 ?_
          refine T_iload dX9_carry_155 rfl ?_
          refine T_iadd dX9_carry_157 ?_
          obtain ⟨x_32, ex_33, h⟩ := lett_some h
          refine T_topI ex_33 ?_
          refine T_istore (i := 12) (L' := [aR (some 0), aU, aI x2, aI x3, aI x4, aI x5, aI x6, aI x7, aI x8, aI x9, aI x_23, aI x_26, aI x_32, aU]) dX9_carry_158 (Nat.le_of_ble_eq_true rfl) rfl ?_
          refine T_iconst dX9_carry_160 ic_1 ?_
          refine T_iload dX9_carry_161 rfl ?_
          refine T_ishl dX9_carry_163 ?_
          refine T_aload_n dX9_carry_164 rfl ?_
          refine T_iload dX9_carry_165 rfl ?_
          obtain ⟨r_34, hc_35, h⟩ := bd1_some h
          refine T_cvi (as := [vI x_32]) dX9_carry_167 cw_X9_besides ml_X9_173 mi_X9_besides se_X9_besides lyM_0 rfl (by decide) rfl (Nat.le_of_ble_eq_true rfl) (Nat.le_of_ble_eq_true rfl) (m_X9_besides  M x_32  _ hc_35) ?_
          refine T_ior dX9_carry_170 ?_
          refine T_iload dX9_carry_171 rfl ?_
          refine T_iand dX9_carry_173 ?_
          refine T_if_eq (tgt := 180) dX9_carry_174 (by decide) (fun hc => ?_) (fun hc => ?_)
          · have h := it_pos hc h
            refine T_iload dX9_carry_180 rfl ?_
            refine T_iconst dX9_carry_182 ic_1 ?_
            refine T_iload dX9_carry_183 rfl ?_
            refine T_ishl dX9_carry_185 ?_
            refine T_ior dX9_carry_186 ?_
            obtain ⟨x_36, ex_37, h⟩ := lett_some h
            refine T_topI ex_37 ?_
            refine T_istore (i := 7) (L' := [aR (some 0), aU, aI x2, aI x3, aI x4, aI x5, aI x6, aI x_36, aI x8, aI x9, aI x_23, aI x_26, aI x_32, aU]) dX9_carry_187 (Nat.le_of_ble_eq_true rfl) rfl ?_
            refine T_iload dX9_carry_189 rfl ?_
            refine T_iload dX9_carry_191 rfl ?_
            obtain ⟨r_38, hc_39, h⟩ := bd1_some h
            refine T_csi (as := [vI x4, vI x_32]) dX9_carry_193 cw_X9_has ml_X9_170 mt_X9_has rfl (Nat.le_of_ble_eq_true rfl) (Nat.le_of_ble_eq_true rfl) (m_X9_has M x4 x_32  _ hc_39) ?_
            refine T_if_eq (tgt := 209) dX9_carry_196 (by decide) (fun hc => ?_) (fun hc => ?_)
            · have h := it_pos hc h
              refine T_iconst dX9_carry_209 ic_0 ?_
              refine T_mask [true, true, true, true, true, true, true, true, true, true, false, false, false, true] rfl ?_
              exact j_X9_carry_J210  M x2 x3 x4 x5 x6 x_36 x8 x9 0  _ h hI hE0 hE1
            · have h := it_neg hc h
              refine T_aload_n dX9_carry_199 rfl ?_
              refine T_getR dX9_carry_200 clOK_X9 fl_X9_32 lyM_0 rfl rfl ?_
              refine T_iload dX9_carry_203 rfl ?_
              obtain ⟨hi_51, h⟩ := chk_some h
              refine T_iald dX9_carry_205 lyM_7 (inb_in hi_51) ?_
              refine T_goto (tgt := 210) dX9_carry_206 (by decide) ?_
              refine T_mask [true, true, true, true, true, true, true, true, true, true, false, false, false, true] rfl ?_
              exact j_X9_carry_J210  M x2 x3 x4 x5 x6 x_36 x8 x9 (gI M 7 x_32.toNatClampNeg)  _ h hI hE0 hE1
          · have h := it_neg hc h
            refine T_bipush dX9_carry_177 bp_m9 ?_
            obtain rfl := sm1 h
            exact T_iret dX9_carry_179 (hE1 _ _ rfl)
        · have h := it_pos hc h
          refine T_bipush dX9_carry_145 bp_m9 ?_
          obtain rfl := sm1 h
          exact T_iret dX9_carry_147 (hE1 _ _ rfl)
set_option maxRecDepth 100000 in
set_option maxHeartbeats 4000000 in
theorem l_X9_carry_L76 (M : Mem) (x2 : Int32) (x3 : Int32) (x4 : Int32) (x5 : Int32) (x6 : Int32) {Po : Po_} (e : ((Int32 × Int32) ⊕ (Int32 × Mem))) : ∀ (k : Nat) (x7 : Int32) (x8 : Int32) (x9 : Int32), loop (X9_carry_L76 M x2 x3 x4 x5 x6) k (x7, x8, x9) = some e → (∀ (e7 : Int32) (e8 : Int32), e = (.inl (e7, e8)) → T RX9 cX9_carry 14 (some .int) 0 6 0 0 false Po 258 [aR (some 0), aU, aU, aU, aI x4, aU, aU, aI e7, aI e8, aU, aU, aU, aU, aU] [] LAYM rfm M 0 0) → (∀ (er : Int32) (eM : Mem), e = (.inr (er, eM)) → Po (vI er) LAYM rfm eM) → T RX9 cX9_carry 14 (some .int) 0 6 0 0 false Po 76 [aR (some 0), aU, aI x2, aI x3, aI x4, aI x5, aI x6, aI x7, aI x8, aI x9, aU, aU, aU, aU] [] LAYM rfm M 0 0 := by
  intro k
  induction k with
  | zero => intro x7 x8 x9 h; cases h
  | succ k ih =>
    intro x7 x8 x9 h hE0 hE1
    obtain ⟨x, hx, hx1, hx2⟩ := loop_succ h
    exact s_X9_carry_L76  M x2 x3 x4 x5 x6  x7 x8 x9 x hx (fun q0 q1 q2 ee => ih q0 q1 q2 (hx1 _ ee) hE0 hE1) (fun q0 q1 ee => hE0 q0 q1 (hx2 _ ee).symm) (fun q0 q1 ee => hE1 q0 q1 (hx2 _ ee).symm)
set_option maxRecDepth 100000 in
set_option maxHeartbeats 4000000 in
theorem s_X9_carry_L261 (M : Mem) (x4 : Int32) (x7 : Int32) (x8 : Int32) (x9 : Int32) {Po : Po_} (x : (Int32 × Int32) ⊕ (Int32 × Mem)) (h : X9_carry_L261 M x4 x7 (x8, x9) = some x) (hI : ∀ (ix8 : Int32) (ix9 : Int32), x = .inl (ix8, ix9) → T RX9 cX9_carry 14 (some .int) 0 6 0 0 false Po 261 [aR (some 0), aU, aU, aU, aI x4, aU, aU, aI x7, aI ix8, aI ix9, aU, aU, aU, aU] [] LAYM rfm M 0 0) (hE0 : ∀ (er : Int32) (eM : Mem), x = .inr (er, eM) → Po (vI er) LAYM rfm eM) : T RX9 cX9_carry 14 (some .int) 0 6 0 0 false Po 261 [aR (some 0), aU, aU, aU, aI x4, aU, aU, aI x7, aI x8, aI x9, aU, aU, aU, aU] [] LAYM rfm M 0 0 := by
  unfold X9_carry_L261 at h
  simp only at h
  refine T_iload dX9_carry_261 rfl ?_
  refine T_aload_n dX9_carry_263 rfl ?_
  refine T_getI dX9_carry_264 clOK_X9 fl_X9_155 lyM_0 rfl ?_
  refine T_icmp_ge (tgt := 307) dX9_carry_267 (by decide) (fun hc => ?_) (fun hc => ?_)
  · have h := it_pos hc h
    refine T_iload dX9_carry_307 rfl ?_
    obtain rfl := sm1 h
    exact T_iret dX9_carry_309 (hE0 _ _ rfl)
  · have h := it_neg hc h
    refine T_iload dX9_carry_270 rfl ?_
    refine T_iload dX9_carry_272 rfl ?_
    refine T_iload dX9_carry_274 rfl ?_
    refine T_iconst dX9_carry_276 ic_m1 ?_
    refine T_ixor dX9_carry_277 ?_
    refine T_iand dX9_carry_278 ?_
    refine T_iload dX9_carry_279 rfl ?_
    obtain ⟨r_55, hc_56, h⟩ := bd1_some h
    refine T_csi (as := [vI (x4 &&& (x7 ^^^ (-1))), vI x9]) dX9_carry_281 cw_X9_has ml_X9_170 mt_X9_has rfl (Nat.le_of_ble_eq_true rfl) (Nat.le_of_ble_eq_true rfl) (m_X9_has M (x4 &&& (x7 ^^^ (-1))) x9  _ hc_56) ?_
    refine T_if_eq (tgt := 297) dX9_carry_284 (by decide) (fun hc => ?_) (fun hc => ?_)
    · have h := it_pos hc h
      refine T_iconst dX9_carry_297 ic_0 ?_
      refine T_iadd dX9_carry_298 ?_
      obtain ⟨x_57, ex_58, h⟩ := lett_some h
      refine T_topI ex_58 ?_
      refine T_istore (i := 8) (L' := [aR (some 0), aU, aU, aU, aI x4, aU, aU, aI x7, aI x_57, aI x9, aU, aU, aU, aU]) dX9_carry_299 (Nat.le_of_ble_eq_true rfl) rfl ?_
      obtain ⟨x_59, ex_60, h⟩ := lett_some h
      refine T_iinc (L' := [aR (some 0), aU, aU, aU, aI x4, aU, aU, aI x7, aI x_57, aI x_59, aU, aU, aU, aU]) dX9_carry_301 rfl (ic_inc ic_1 ex_60) (Nat.le_of_ble_eq_true rfl) rfl ?_
      refine T_goto (tgt := 261) dX9_carry_304 (by decide) ?_
      obtain rfl := sm1 h
      exact hI _ _ rfl
    · have h := it_neg hc h
      refine T_aload_n dX9_carry_287 rfl ?_
      refine T_getR dX9_carry_288 clOK_X9 fl_X9_32 lyM_0 rfl rfl ?_
      refine T_iload dX9_carry_291 rfl ?_
      obtain ⟨hi_61, h⟩ := chk_some h
      refine T_iald dX9_carry_293 lyM_7 (inb_in hi_61) ?_
      refine T_goto (tgt := 298) dX9_carry_294 (by decide) ?_
      refine T_iadd dX9_carry_298 ?_
      obtain ⟨x_62, ex_63, h⟩ := lett_some h
      refine T_topI ex_63 ?_
      refine T_istore (i := 8) (L' := [aR (some 0), aU, aU, aU, aI x4, aU, aU, aI x7, aI x_62, aI x9, aU, aU, aU, aU]) dX9_carry_299 (Nat.le_of_ble_eq_true rfl) rfl ?_
      obtain ⟨x_64, ex_65, h⟩ := lett_some h
      refine T_iinc (L' := [aR (some 0), aU, aU, aU, aI x4, aU, aU, aI x7, aI x_62, aI x_64, aU, aU, aU, aU]) dX9_carry_301 rfl (ic_inc ic_1 ex_65) (Nat.le_of_ble_eq_true rfl) rfl ?_
      refine T_goto (tgt := 261) dX9_carry_304 (by decide) ?_
      obtain rfl := sm1 h
      exact hI _ _ rfl
set_option maxRecDepth 100000 in
set_option maxHeartbeats 4000000 in
theorem l_X9_carry_L261 (M : Mem) (x4 : Int32) (x7 : Int32) {Po : Po_} (er : Int32) (eM : Mem) : ∀ (k : Nat) (x8 : Int32) (x9 : Int32), loop (X9_carry_L261 M x4 x7) k (x8, x9) = some (er, eM) → (Po (vI er) LAYM rfm eM) → T RX9 cX9_carry 14 (some .int) 0 6 0 0 false Po 261 [aR (some 0), aU, aU, aU, aI x4, aU, aU, aI x7, aI x8, aI x9, aU, aU, aU, aU] [] LAYM rfm M 0 0 := by
  intro k
  induction k with
  | zero => intro x8 x9 h; cases h
  | succ k ih =>
    intro x8 x9 h hE
    obtain ⟨x, hx, hx1, hx2⟩ := loop_succ h
    exact s_X9_carry_L261  M x4 x7  x8 x9 x hx (fun q0 q1 e => ih q0 q1 (hx1 _ e) hE) (fun q0 q1 e => by cases hx2 _ e; exact hE)
set_option maxRecDepth 100000 in
set_option maxHeartbeats 4000000 in
theorem m_X9_carry (M : Mem) (x1 : Int32) (x2 : Int32) (x3 : Int32) (r : Int32) (M' : Mem) (h : F_X9_carry M x1 x2 x3 = some (r, M')) : Cal yX9_carry cX9_carry 14 (some .int) 0 6 0 0 false [vR (some 0), vI x1, vI x2, vI x3] LAYM rfm M (eqp (vI r) LAYM rfm M') := by
  refine Cal.of (by decide +kernel) (Nat.le_of_ble_eq_true rfl) (fun h => by cases h) ?_
  unfold F_X9_carry at h
  show T RX9 cX9_carry 14 (some .int) 0 6 0 0 false (eqp (vI r) LAYM rfm M') 0 [aR (some 0), aI x1, aI x2, aI x3, aU, aU, aU, aU, aU, aU, aU, aU, aU, aU] [] LAYM rfm M 0 0
  refine T_aload_n dX9_carry_0 rfl ?_
  refine T_iload_n dX9_carry_1 rfl ?_
  obtain ⟨r_1, M_2, hc_3, h⟩ := bd2_some h
  refine T_cvi (as := [vI x1]) dX9_carry_2 cw_X9_isHole ml_X9_246 mi_X9_isHole se_X9_isHole lyM_0 rfl (by decide) rfl (Nat.le_of_ble_eq_true rfl) (Nat.le_of_ble_eq_true rfl) (m_X9_isHole  M x1  _ _ hc_3) ?_
  refine T_if_ne (tgt := 10) dX9_carry_5 (by decide) (fun hc => ?_) (fun hc => ?_)
  · have h := it_neg hc h
    refine T_aload_n dX9_carry_10 rfl ?_
    refine T_getR dX9_carry_11 clOK_X9 fl_X9_44 lyM_0 rfl rfl ?_
    refine T_iload_n dX9_carry_14 rfl ?_
    obtain ⟨hi_4, h⟩ := chk_some h
    refine T_iald dX9_carry_15 lyM_11 (inb_in hi_4) ?_
    obtain ⟨x_5, ex_6, h⟩ := lett_some h
    refine T_topI ex_6 ?_
    refine T_istore (i := 4) (L' := [aR (some 0), aI x1, aI x2, aI x3, aI x_5, aU, aU, aU, aU, aU, aU, aU, aU, aU]) dX9_carry_16 (Nat.le_of_ble_eq_true rfl) rfl ?_
    refine T_aload_n dX9_carry_18 rfl ?_
    refine T_getR dX9_carry_19 clOK_X9 fl_X9_32 lyM_0 rfl rfl ?_
    refine T_iconst dX9_carry_22 ic_0 ?_
    obtain ⟨r_7, hc_8, h⟩ := bd1_some h
    refine T_csi (as := [vR (some 7), vI 0]) dX9_carry_23 cw_X9_dugIn ml_X9_179 mt_X9_dugIn rfl (Nat.le_of_ble_eq_true rfl) (Nat.le_of_ble_eq_true rfl) (m_X9_dugIn  M_2 7 0 rfl _ hc_8) ?_
    refine T_iload dX9_carry_26 rfl ?_
    refine T_iconst dX9_carry_28 ic_m1 ?_
    refine T_ixor dX9_carry_29 ?_
    refine T_iand dX9_carry_30 ?_
    obtain ⟨x_9, ex_10, h⟩ := lett_some h
    refine T_topI ex_10 ?_
    refine T_istore (i := 5) (L' := [aR (some 0), aI x1, aI x2, aI x3, aI x_5, aI x_9, aU, aU, aU, aU, aU, aU, aU, aU]) dX9_carry_31 (Nat.le_of_ble_eq_true rfl) rfl ?_
    refine T_aload_n dX9_carry_33 rfl ?_
    refine T_getI dX9_carry_34 clOK_X9 fl_X9_155 lyM_0 rfl ?_
    refine T_aload_n dX9_carry_37 rfl ?_
    refine T_getI dX9_carry_38 clOK_X9 fl_X9_158 lyM_0 rfl ?_
    obtain ⟨hz_11, h⟩ := chk_some h
    refine T_idiv dX9_carry_41 hz_11 ?_
    obtain ⟨x_12, ex_13, h⟩ := lett_some h
    refine T_topI ex_13 ?_
    refine T_istore (i := 6) (L' := [aR (some 0), aI x1, aI x2, aI x3, aI x_5, aI x_9, aI x_12, aU, aU, aU, aU, aU, aU, aU]) dX9_carry_42 (Nat.le_of_ble_eq_true rfl) rfl ?_
    refine T_iload_n dX9_carry_44 rfl ?_
    refine T_bipush dX9_carry_45 bp_m4 ?_
    refine T_iconst dX9_carry_47 ic_4 ?_
    obtain ⟨r_14, hc_15, h⟩ := bd1_some h
    refine T_csi (as := [vI x2, vI (-4), vI (nI 4)]) dX9_carry_48 cw_X9_in ml_X9_79 mt_X9_in rfl (Nat.le_of_ble_eq_true rfl) (Nat.le_of_ble_eq_true rfl) (m_X9_in M_2 x2 (-4) (nI 4)  _ hc_15) ?_
    refine T_if_eq (tgt := 64) dX9_carry_51 (by decide) (fun hc => ?_) (fun hc => ?_)
    · have h := it_pos hc h
      refine T_bipush dX9_carry_64 bp_m9 ?_
      obtain ⟨rfl, rfl⟩ := sm2 h
      exact T_iret dX9_carry_66 ⟨rfl, rfl, rfl, rfl⟩
    · have h := it_neg hc h
      refine T_iload_n dX9_carry_54 rfl ?_
      refine T_bipush dX9_carry_55 bp_m4 ?_
      refine T_iconst dX9_carry_57 ic_4 ?_
      obtain ⟨r_16, hc_17, h⟩ := bd1_some h
      refine T_csi (as := [vI x3, vI (-4), vI (nI 4)]) dX9_carry_58 cw_X9_in ml_X9_79 mt_X9_in rfl (Nat.le_of_ble_eq_true rfl) (Nat.le_of_ble_eq_true rfl) (m_X9_in M_2 x3 (-4) (nI 4)  _ hc_17) ?_
      refine T_if_ne (tgt := 67) dX9_carry_61 (by decide) (fun hc => ?_) (fun hc => ?_)
      · have h := it_neg hc h
        refine T_iconst dX9_carry_67 ic_0 ?_
        refine T_istore (i := 7) (L' := [aR (some 0), aI x1, aI x2, aI x3, aI x_5, aI x_9, aI x_12, aI 0, aU, aU, aU, aU, aU, aU]) dX9_carry_68 (Nat.le_of_ble_eq_true rfl) rfl ?_
        refine T_iconst dX9_carry_70 ic_0 ?_
        refine T_istore (i := 8) (L' := [aR (some 0), aI x1, aI x2, aI x3, aI x_5, aI x_9, aI x_12, aI 0, aI 0, aU, aU, aU, aU, aU]) dX9_carry_71 (Nat.le_of_ble_eq_true rfl) rfl ?_
        refine T_iconst dX9_carry_73 ic_0 ?_
        refine T_istore (i := 9) (L' := [aR (some 0), aI x1, aI x2, aI x3, aI x_5, aI x_9, aI x_12, aI 0, aI 0, aI 0, aU, aU, aU, aU]) dX9_carry_74 (Nat.le_of_ble_eq_true rfl) rfl ?_
        obtain ⟨e_52, hl, h⟩ := bd1_some h
        refine T_mask [true, false, true, true, true, true, true, true, true, true, true, true, true, true] rfl ?_
        refine l_X9_carry_L76  M_2 x2 x3 x_5 x_9 x_12  e_52 FU 0 0 0 hl ?_ ?_
        · intro x_53 x_54 ee
          subst ee
          have h := elim_l h
          have h := un2_ap h
          refine T_iconst dX9_carry_258 ic_0 ?_
          refine T_istore (i := 9) (L' := [aR (some 0), aU, aU, aU, aI x_5, aU, aU, aI x_53, aI x_54, aI 0, aU, aU, aU, aU]) dX9_carry_259 (Nat.le_of_ble_eq_true rfl) rfl ?_
          exact l_X9_carry_L261  M_2 x_5 x_53  _ _ FU x_54 0 h ⟨rfl, rfl, rfl, rfl⟩
        · intro r_66 r_67 ee
          subst ee
          have h := elim_r h
          have h := un2_ap h
          obtain ⟨rfl, rfl⟩ := sm2 h
          exact ⟨rfl, rfl, rfl, rfl⟩
      · have h := it_pos hc h
        refine T_bipush dX9_carry_64 bp_m9 ?_
        obtain ⟨rfl, rfl⟩ := sm2 h
        exact T_iret dX9_carry_66 ⟨rfl, rfl, rfl, rfl⟩
  · have h := it_pos hc h
    refine T_iconst dX9_carry_8 ic_m1 ?_
    obtain ⟨rfl, rfl⟩ := sm2 h
    exact T_iret dX9_carry_9 ⟨rfl, rfl, rfl, rfl⟩
def X9_lowest_L2 (x0 : Int32) : Int32 → Option ((Int32) ⊕ (Int32))
  | x1 =>
    if (nI 15) ≤ x1 then some (.inr x1)
    else bd1 (F_X9_has x0 x1) fun r_1 => if r_1 = 0 then lett (x1 + 1) fun x_3 => some (.inl x_3)
    else some (.inr x1)
def F_X9_lowest (x0 : Int32) : Option (Int32) :=
 loop (X9_lowest_L2 x0) FU 0
set_option maxRecDepth 100000 in
set_option maxHeartbeats 4000000 in
theorem s_X9_lowest_L2 (M : Mem) (x0 : Int32) (x1 : Int32) {Po : Po_} (x : (Int32) ⊕ (Int32)) (h : X9_lowest_L2 x0 x1 = some x) (hI : ∀ (ix1 : Int32), x = .inl ix1 → T RX9 cX9_lowest 2 (some .int) 0 2 0 0 false Po 2 [aI x0, aI ix1] [] LAYM rfm M 0 0) (hE0 : ∀ (er : Int32), x = .inr er → Po (vI er) LAYM rfm M) : T RX9 cX9_lowest 2 (some .int) 0 2 0 0 false Po 2 [aI x0, aI x1] [] LAYM rfm M 0 0 := by
  unfold X9_lowest_L2 at h
  simp only at h
  refine T_iload_n dX9_lowest_2 rfl ?_
  refine T_bipush dX9_lowest_3 bp_15 ?_
  refine T_icmp_ge (tgt := 22) dX9_lowest_5 (by decide) (fun hc => ?_) (fun hc => ?_)
  · have h := it_pos hc h
    refine T_iload_n dX9_lowest_22 rfl ?_
    obtain rfl := sm1 h
    exact T_iret dX9_lowest_23 (hE0 _ rfl)
  · have h := it_neg hc h
    refine T_iload_n dX9_lowest_8 rfl ?_
    refine T_iload_n dX9_lowest_9 rfl ?_
    obtain ⟨r_1, hc_2, h⟩ := bd1_some h
    refine T_csi (as := [vI x0, vI x1]) dX9_lowest_10 cw_X9_has ml_X9_170 mt_X9_has rfl (Nat.le_of_ble_eq_true rfl) (Nat.le_of_ble_eq_true rfl) (m_X9_has M x0 x1  _ hc_2) ?_
    refine T_if_ne (tgt := 22) dX9_lowest_13 (by decide) (fun hc => ?_) (fun hc => ?_)
    · have h := it_neg hc h
      refine T_iload_n dX9_lowest_22 rfl ?_
      obtain rfl := sm1 h
      exact T_iret dX9_lowest_23 (hE0 _ rfl)
    · have h := it_pos hc h
      obtain ⟨x_3, ex_4, h⟩ := lett_some h
      refine T_iinc (L' := [aI x0, aI x_3]) dX9_lowest_16 rfl (ic_inc ic_1 ex_4) (Nat.le_of_ble_eq_true rfl) rfl ?_
      refine T_goto (tgt := 2) dX9_lowest_19 (by decide) ?_
      obtain rfl := sm1 h
      exact hI _ rfl
set_option maxRecDepth 100000 in
set_option maxHeartbeats 4000000 in
theorem l_X9_lowest_L2 (M : Mem) (x0 : Int32) {Po : Po_} (er : Int32) : ∀ (k : Nat) (x1 : Int32), loop (X9_lowest_L2 x0) k x1 = some er → (Po (vI er) LAYM rfm M) → T RX9 cX9_lowest 2 (some .int) 0 2 0 0 false Po 2 [aI x0, aI x1] [] LAYM rfm M 0 0 := by
  intro k
  induction k with
  | zero => intro x1 h; cases h
  | succ k ih =>
    intro x1 h hE
    obtain ⟨x, hx, hx1, hx2⟩ := loop_succ h
    exact s_X9_lowest_L2  M x0  x1 x hx (fun q0 e => ih q0 (hx1 _ e) hE) (fun q0 e => by cases hx2 _ e; exact hE)
set_option maxRecDepth 100000 in
set_option maxHeartbeats 4000000 in
theorem m_X9_lowest (M : Mem) (x0 : Int32) (r : Int32) (h : F_X9_lowest x0 = some r) : Cal yX9_lowest cX9_lowest 2 (some .int) 0 2 0 0 false [vI x0] LAYM rfm M (eqp (vI r) LAYM rfm M) := by
  refine Cal.of (by decide +kernel) (Nat.le_of_ble_eq_true rfl) (fun h => by cases h) ?_
  unfold F_X9_lowest at h
  show T RX9 cX9_lowest 2 (some .int) 0 2 0 0 false (eqp (vI r) LAYM rfm M) 0 [aI x0, aU] [] LAYM rfm M 0 0
  refine T_iconst dX9_lowest_0 ic_0 ?_
  refine T_istore_n (i := 1) (L' := [aI x0, aI 0]) dX9_lowest_1 rfl (Nat.le_of_ble_eq_true rfl) rfl ?_
  exact l_X9_lowest_L2  M x0  _ FU 0 h ⟨rfl, rfl, rfl, rfl⟩
def X9_join_J122 (M : Mem) (x2 : Int32) (x3 : Int32) (x4 : Int32) (x5 : Int32) (x6 : Int32) (x7 : Int32) : Option ((Int32 × Int32) ⊕ (Int32)) :=
 bd1 (F_X9_grown M (x3 ||| x7) x5) fun r_15 => chk (inb x2 8 = true) (if (r_15 &&& (gI M 11 x2.toNatClampNeg)) = 0 then lett (x7 + (-1)) fun x_18 => some (.inl (x6, x_18))
 else lett (x7 + (-1)) fun x_20 => some (.inl (x7, x_20)))
def X9_join_J97 (M : Mem) (x2 : Int32) (x3 : Int32) (x4 : Int32) (x5 : Int32) (x6 : Int32) (x7 : Int32) (s0 : Int32) : Option ((Int32 × Int32) ⊕ (Int32)) :=
 if (nI 4) < s0 then lett (x7 + (-1)) fun x_13 => some (.inl (x6, x_13))
 else if x6 = (-9) then X9_join_J122 M x2 x3 x4 x5 x6 x7
 else bd1 (F_X9_sizeOf x6) fun r_22 => if r_22 < s0 then lett (x7 + (-1)) fun x_24 => some (.inl (x6, x_24))
 else X9_join_J122 M x2 x3 x4 x5 x6 x7
def X9_join_L71 (M : Mem) (x2 : Int32) (x3 : Int32) (x4 : Int32) (x5 : Int32) : Int32 × Int32 → Option ((Int32 × Int32) ⊕ (Int32))
  | (x6, x7) =>
    if x7 < 0 then some (.inr x6)
    else if (x7 &&& (x4 ^^^ (-1))) = 0 then bd1 (F_X9_sizeOf x7) fun r_26 => X9_join_J97 M x2 x3 x4 x5 x6 x7 r_26
    else X9_join_J97 M x2 x3 x4 x5 x6 x7 1048576
def F_X9_join (M : Mem) (x1 : Int32) (x2 : Int32) : Option (Int32 × Mem) :=
 bd2 (F_X9_isHole M x1) fun r_1 M_2 => if r_1 = 0 then some ((-1), M_2)
 else bd1 (F_X9_in x2 0 ((gI M_2 0 23) - 1)) fun r_4 => if r_4 = 0 then some ((-1), M_2)
 else if x1 = x2 then some ((-1), M_2)
 else bd1 (F_X9_dugIn M_2 7 0) fun r_6 => lett (((ish 1 (gI M_2 0 11)) - 1) &&& (r_6 ^^^ (-1))) fun x_8 => chk (inb x1 8 = true) (bd1 (F_X9_lowest (gI M_2 11 x1.toNatClampNeg)) fun r_11 => bd1 (loop (X9_join_L71 M_2 x2 r_6 x_8 r_11) FU ((-9), x_8)) fun x_28 => if x_28 = (-9) then some ((-9), M_2)
 else bd1 (F_X9_sizeOf x_28) fun r_29 => bd2 (F_X9_ask M_2 x_28 r_29) fun r_31 M_32 => some (r_31, M_32))
set_option maxRecDepth 100000 in
set_option maxHeartbeats 4000000 in
theorem j_X9_join_J122 (M : Mem) (x2 : Int32) (x3 : Int32) (x4 : Int32) (x5 : Int32) (x6 : Int32) (x7 : Int32) {Po : Po_} (x : (Int32 × Int32) ⊕ (Int32)) (h : X9_join_J122 M x2 x3 x4 x5 x6 x7 = some x) (hI : ∀ (ix6 : Int32) (ix7 : Int32), x = .inl (ix6, ix7) → T RX9 cX9_join 9 (some .int) 0 6 0 0 false Po 71 [aR (some 0), aU, aI x2, aI x3, aI x4, aI x5, aI ix6, aI ix7, aU] [] LAYM rfm M 0 0) (hE0 : ∀ (e6 : Int32), x = .inr e6 → T RX9 cX9_join 9 (some .int) 0 6 0 0 false Po 152 [aR (some 0), aU, aU, aU, aU, aU, aI e6, aU, aU] [] LAYM rfm M 0 0) : T RX9 cX9_join 9 (some .int) 0 6 0 0 false Po 122 [aR (some 0), aU, aI x2, aI x3, aI x4, aI x5, aI x6, aI x7, aU] [] LAYM rfm M 0 0 := by
  unfold X9_join_J122 at h
  refine T_aload_n dX9_join_122 rfl ?_
  refine T_iload_n dX9_join_123 rfl ?_
  refine T_iload dX9_join_124 rfl ?_
  refine T_ior dX9_join_126 ?_
  refine T_iload dX9_join_127 rfl ?_
  obtain ⟨r_15, hc_16, h⟩ := bd1_some h
  refine T_cvi (as := [vI (x3 ||| x7), vI x5]) dX9_join_129 cw_X9_grown ml_X9_176 mi_X9_grown se_X9_grown lyM_0 rfl (by decide) rfl (Nat.le_of_ble_eq_true rfl) (Nat.le_of_ble_eq_true rfl) (m_X9_grown  M (x3 ||| x7) x5  _ hc_16) ?_
  refine T_aload_n dX9_join_132 rfl ?_
  refine T_getR dX9_join_133 clOK_X9 fl_X9_44 lyM_0 rfl rfl ?_
  refine T_iload_n dX9_join_136 rfl ?_
  obtain ⟨hi_17, h⟩ := chk_some h
  refine T_iald dX9_join_137 lyM_11 (inb_in hi_17) ?_
  refine T_iand dX9_join_138 ?_
  refine T_if_eq (tgt := 146) dX9_join_139 (by decide) (fun hc => ?_) (fun hc => ?_)
  · have h := it_pos hc h
    obtain ⟨x_18, ex_19, h⟩ := lett_some h
    refine T_iinc (L' := [aR (some 0), aU, aI x2, aI x3, aI x4, aI x5, aI x6, aI x_18, aU]) dX9_join_146 rfl (ic_inc ic_m1 ex_19) (Nat.le_of_ble_eq_true rfl) rfl ?_
    refine T_goto (tgt := 71) dX9_join_149 (by decide) ?_
    obtain rfl := sm1 h
    exact hI _ _ rfl
  · have h := it_neg hc h
    refine T_iload dX9_join_142 rfl ?_
    refine T_istore (i := 6) (L' := [aR (some 0), aU, aI x2, aI x3, aI x4, aI x5, aI x7, aI x7, aU]) dX9_join_144 (Nat.le_of_ble_eq_true rfl) rfl ?_
    obtain ⟨x_20, ex_21, h⟩ := lett_some h
    refine T_iinc (L' := [aR (some 0), aU, aI x2, aI x3, aI x4, aI x5, aI x7, aI x_20, aU]) dX9_join_146 rfl (ic_inc ic_m1 ex_21) (Nat.le_of_ble_eq_true rfl) rfl ?_
    refine T_goto (tgt := 71) dX9_join_149 (by decide) ?_
    obtain rfl := sm1 h
    exact hI _ _ rfl
set_option maxRecDepth 100000 in
set_option maxHeartbeats 4000000 in
theorem j_X9_join_J97 (M : Mem) (x2 : Int32) (x3 : Int32) (x4 : Int32) (x5 : Int32) (x6 : Int32) (x7 : Int32) (s0 : Int32) {Po : Po_} (x : (Int32 × Int32) ⊕ (Int32)) (h : X9_join_J97 M x2 x3 x4 x5 x6 x7 s0 = some x) (hI : ∀ (ix6 : Int32) (ix7 : Int32), x = .inl (ix6, ix7) → T RX9 cX9_join 9 (some .int) 0 6 0 0 false Po 71 [aR (some 0), aU, aI x2, aI x3, aI x4, aI x5, aI ix6, aI ix7, aU] [] LAYM rfm M 0 0) (hE0 : ∀ (e6 : Int32), x = .inr e6 → T RX9 cX9_join 9 (some .int) 0 6 0 0 false Po 152 [aR (some 0), aU, aU, aU, aU, aU, aI e6, aU, aU] [] LAYM rfm M 0 0) : T RX9 cX9_join 9 (some .int) 0 6 0 0 false Po 97 [aR (some 0), aU, aI x2, aI x3, aI x4, aI x5, aI x6, aI x7, aU] [vI s0] LAYM rfm M 0 0 := by
  unfold X9_join_J97 at h
  refine T_istore (i := 8) (L' := [aR (some 0), aU, aI x2, aI x3, aI x4, aI x5, aI x6, aI x7, aI s0]) dX9_join_97 (Nat.le_of_ble_eq_true rfl) rfl ?_
  refine T_iload dX9_join_99 rfl ?_
  refine T_iconst dX9_join_101 ic_4 ?_
  refine T_icmp_gt (tgt := 146) dX9_join_102 (by decide) (fun hc => ?_) (fun hc => ?_)
  · have h := it_pos hc h
    obtain ⟨x_13, ex_14, h⟩ := lett_some h
    refine T_iinc (L' := [aR (some 0), aU, aI x2, aI x3, aI x4, aI x5, aI x6, aI x_13, aI s0]) dX9_join_146 rfl (ic_inc ic_m1 ex_14) (Nat.le_of_ble_eq_true rfl) rfl ?_
    refine T_goto (tgt := 71) dX9_join_149 (by decide) ?_
    obtain rfl := sm1 h
    refine T_mask [true, true, true, true, true, true, true, true, false] rfl ?_
    exact hI _ _ rfl
  · have h := it_neg hc h
    refine T_iload dX9_join_105 rfl ?_
    refine T_bipush dX9_join_107 bp_m9 ?_
    refine T_icmp_eq (tgt := 122) dX9_join_109 (by decide) (fun hc => ?_) (fun hc => ?_)
    · have h := it_pos hc h
      refine T_mask [true, true, true, true, true, true, true, true, false] rfl ?_
      exact j_X9_join_J122  M x2 x3 x4 x5 x6 x7  _ h hI hE0
    · have h := it_neg hc h
      refine T_iload dX9_join_112 rfl ?_
      refine T_iload dX9_join_114 rfl ?_
      obtain ⟨r_22, hc_23, h⟩ := bd1_some h
      refine T_csi (as := [vI x6]) dX9_join_116 cw_X9_sizeOf ml_X9_199 mt_X9_sizeOf rfl (Nat.le_of_ble_eq_true rfl) (Nat.le_of_ble_eq_true rfl) (m_X9_sizeOf M x6  _ hc_23) ?_
      refine T_icmp_gt (tgt := 146) dX9_join_119 (by decide) (fun hc => ?_) (fun hc => ?_)
      · have h := it_pos hc h
        obtain ⟨x_24, ex_25, h⟩ := lett_some h
        refine T_iinc (L' := [aR (some 0), aU, aI x2, aI x3, aI x4, aI x5, aI x6, aI x_24, aI s0]) dX9_join_146 rfl (ic_inc ic_m1 ex_25) (Nat.le_of_ble_eq_true rfl) rfl ?_
        refine T_goto (tgt := 71) dX9_join_149 (by decide) ?_
        obtain rfl := sm1 h
        refine T_mask [true, true, true, true, true, true, true, true, false] rfl ?_
        exact hI _ _ rfl
      · have h := it_neg hc h
        refine T_mask [true, true, true, true, true, true, true, true, false] rfl ?_
        exact j_X9_join_J122  M x2 x3 x4 x5 x6 x7  _ h hI hE0
set_option maxRecDepth 100000 in
set_option maxHeartbeats 4000000 in
theorem s_X9_join_L71 (M : Mem) (x2 : Int32) (x3 : Int32) (x4 : Int32) (x5 : Int32) (x6 : Int32) (x7 : Int32) {Po : Po_} (x : (Int32 × Int32) ⊕ (Int32)) (h : X9_join_L71 M x2 x3 x4 x5 (x6, x7) = some x) (hI : ∀ (ix6 : Int32) (ix7 : Int32), x = .inl (ix6, ix7) → T RX9 cX9_join 9 (some .int) 0 6 0 0 false Po 71 [aR (some 0), aU, aI x2, aI x3, aI x4, aI x5, aI ix6, aI ix7, aU] [] LAYM rfm M 0 0) (hE0 : ∀ (e6 : Int32), x = .inr e6 → T RX9 cX9_join 9 (some .int) 0 6 0 0 false Po 152 [aR (some 0), aU, aU, aU, aU, aU, aI e6, aU, aU] [] LAYM rfm M 0 0) : T RX9 cX9_join 9 (some .int) 0 6 0 0 false Po 71 [aR (some 0), aU, aI x2, aI x3, aI x4, aI x5, aI x6, aI x7, aU] [] LAYM rfm M 0 0 := by
  unfold X9_join_L71 at h
  simp only at h
  refine T_iload dX9_join_71 rfl ?_
  refine T_if_lt (tgt := 152) dX9_join_73 (by decide) (fun hc => ?_) (fun hc => ?_)
  · have h := it_pos hc h
    obtain rfl := sm1 h
    refine T_mask [true, true, false, false, false, false, true, false, true] rfl ?_
    exact hE0 _ rfl
  · have h := it_neg hc h
    refine T_iload dX9_join_76 rfl ?_
    refine T_iload dX9_join_78 rfl ?_
    refine T_iconst dX9_join_80 ic_m1 ?_
    refine T_ixor dX9_join_81 ?_
    refine T_iand dX9_join_82 ?_
    refine T_if_ne (tgt := 94) dX9_join_83 (by decide) (fun hc => ?_) (fun hc => ?_)
    · have h := it_neg hc h
      refine T_ldcw dX9_join_94 kc_X9_297 ?_
      exact j_X9_join_J97  M x2 x3 x4 x5 x6 x7 1048576  _ h hI hE0
    · have h := it_pos hc h
      refine T_iload dX9_join_86 rfl ?_
      obtain ⟨r_26, hc_27, h⟩ := bd1_some h
      refine T_csi (as := [vI x7]) dX9_join_88 cw_X9_sizeOf ml_X9_199 mt_X9_sizeOf rfl (Nat.le_of_ble_eq_true rfl) (Nat.le_of_ble_eq_true rfl) (m_X9_sizeOf M x7  _ hc_27) ?_
      refine T_goto (tgt := 97) dX9_join_91 (by decide) ?_
      exact j_X9_join_J97  M x2 x3 x4 x5 x6 x7 r_26  _ h hI hE0
set_option maxRecDepth 100000 in
set_option maxHeartbeats 4000000 in
theorem l_X9_join_L71 (M : Mem) (x2 : Int32) (x3 : Int32) (x4 : Int32) (x5 : Int32) {Po : Po_} (e6 : Int32) : ∀ (k : Nat) (x6 : Int32) (x7 : Int32), loop (X9_join_L71 M x2 x3 x4 x5) k (x6, x7) = some e6 → (T RX9 cX9_join 9 (some .int) 0 6 0 0 false Po 152 [aR (some 0), aU, aU, aU, aU, aU, aI e6, aU, aU] [] LAYM rfm M 0 0) → T RX9 cX9_join 9 (some .int) 0 6 0 0 false Po 71 [aR (some 0), aU, aI x2, aI x3, aI x4, aI x5, aI x6, aI x7, aU] [] LAYM rfm M 0 0 := by
  intro k
  induction k with
  | zero => intro x6 x7 h; cases h
  | succ k ih =>
    intro x6 x7 h hE
    obtain ⟨x, hx, hx1, hx2⟩ := loop_succ h
    exact s_X9_join_L71  M x2 x3 x4 x5  x6 x7 x hx (fun q0 q1 e => ih q0 q1 (hx1 _ e) hE) (fun q0 e => by cases hx2 _ e; exact hE)
set_option maxRecDepth 100000 in
set_option maxHeartbeats 4000000 in
theorem m_X9_join (M : Mem) (x1 : Int32) (x2 : Int32) (r : Int32) (M' : Mem) (h : F_X9_join M x1 x2 = some (r, M')) : Cal yX9_join cX9_join 9 (some .int) 0 6 0 0 false [vR (some 0), vI x1, vI x2] LAYM rfm M (eqp (vI r) LAYM rfm M') := by
  refine Cal.of (by decide +kernel) (Nat.le_of_ble_eq_true rfl) (fun h => by cases h) ?_
  unfold F_X9_join at h
  show T RX9 cX9_join 9 (some .int) 0 6 0 0 false (eqp (vI r) LAYM rfm M') 0 [aR (some 0), aI x1, aI x2, aU, aU, aU, aU, aU, aU] [] LAYM rfm M 0 0
  refine T_aload_n dX9_join_0 rfl ?_
  refine T_iload_n dX9_join_1 rfl ?_
  obtain ⟨r_1, M_2, hc_3, h⟩ := bd2_some h
  refine T_cvi (as := [vI x1]) dX9_join_2 cw_X9_isHole ml_X9_246 mi_X9_isHole se_X9_isHole lyM_0 rfl (by decide) rfl (Nat.le_of_ble_eq_true rfl) (Nat.le_of_ble_eq_true rfl) (m_X9_isHole  M x1  _ _ hc_3) ?_
  refine T_if_eq (tgt := 27) dX9_join_5 (by decide) (fun hc => ?_) (fun hc => ?_)
  · have h := it_pos hc h
    refine T_iconst dX9_join_27 ic_m1 ?_
    obtain ⟨rfl, rfl⟩ := sm2 h
    exact T_iret dX9_join_28 ⟨rfl, rfl, rfl, rfl⟩
  · have h := it_neg hc h
    refine T_iload_n dX9_join_8 rfl ?_
    refine T_iconst dX9_join_9 ic_0 ?_
    refine T_aload_n dX9_join_10 rfl ?_
    refine T_getI dX9_join_11 clOK_X9 fl_X9_187 lyM_0 rfl ?_
    refine T_iconst dX9_join_14 ic_1 ?_
    refine T_isub dX9_join_15 ?_
    obtain ⟨r_4, hc_5, h⟩ := bd1_some h
    refine T_csi (as := [vI x2, vI 0, vI ((gI M_2 0 23) - 1)]) dX9_join_16 cw_X9_in ml_X9_79 mt_X9_in rfl (Nat.le_of_ble_eq_true rfl) (Nat.le_of_ble_eq_true rfl) (m_X9_in M_2 x2 0 ((gI M_2 0 23) - 1)  _ hc_5) ?_
    refine T_if_eq (tgt := 27) dX9_join_19 (by decide) (fun hc => ?_) (fun hc => ?_)
    · have h := it_pos hc h
      refine T_iconst dX9_join_27 ic_m1 ?_
      obtain ⟨rfl, rfl⟩ := sm2 h
      exact T_iret dX9_join_28 ⟨rfl, rfl, rfl, rfl⟩
    · have h := it_neg hc h
      refine T_iload_n dX9_join_22 rfl ?_
      refine T_iload_n dX9_join_23 rfl ?_
      refine T_icmp_ne (tgt := 29) dX9_join_24 (by decide) (fun hc => ?_) (fun hc => ?_)
      · have h := it_neg hc h
        refine T_aload_n dX9_join_29 rfl ?_
        refine T_getR dX9_join_30 clOK_X9 fl_X9_32 lyM_0 rfl rfl ?_
        refine T_iconst dX9_join_33 ic_0 ?_
        obtain ⟨r_6, hc_7, h⟩ := bd1_some h
        refine T_csi (as := [vR (some 7), vI 0]) dX9_join_34 cw_X9_dugIn ml_X9_179 mt_X9_dugIn rfl (Nat.le_of_ble_eq_true rfl) (Nat.le_of_ble_eq_true rfl) (m_X9_dugIn  M_2 7 0 rfl _ hc_7) ?_
        refine T_istore_n (i := 3) (L' := [aR (some 0), aI x1, aI x2, aI r_6, aU, aU, aU, aU, aU]) dX9_join_37 rfl (Nat.le_of_ble_eq_true rfl) rfl ?_
        refine T_iconst dX9_join_38 ic_1 ?_
        refine T_aload_n dX9_join_39 rfl ?_
        refine T_getI dX9_join_40 clOK_X9 fl_X9_155 lyM_0 rfl ?_
        refine T_ishl dX9_join_43 ?_
        refine T_iconst dX9_join_44 ic_1 ?_
        refine T_isub dX9_join_45 ?_
        refine T_iload_n dX9_join_46 rfl ?_
        refine T_iconst dX9_join_47 ic_m1 ?_
        refine T_ixor dX9_join_48 ?_
        refine T_iand dX9_join_49 ?_
        obtain ⟨x_8, ex_9, h⟩ := lett_some h
        refine T_topI ex_9 ?_
        refine T_istore (i := 4) (L' := [aR (some 0), aI x1, aI x2, aI r_6, aI x_8, aU, aU, aU, aU]) dX9_join_50 (Nat.le_of_ble_eq_true rfl) rfl ?_
        refine T_aload_n dX9_join_52 rfl ?_
        refine T_getR dX9_join_53 clOK_X9 fl_X9_44 lyM_0 rfl rfl ?_
        refine T_iload_n dX9_join_56 rfl ?_
        obtain ⟨hi_10, h⟩ := chk_some h
        refine T_iald dX9_join_57 lyM_11 (inb_in hi_10) ?_
        obtain ⟨r_11, hc_12, h⟩ := bd1_some h
        refine T_csi (as := [vI (gI M_2 11 x1.toNatClampNeg)]) dX9_join_58 cw_X9_lowest ml_X9_294 mt_X9_lowest rfl (Nat.le_of_ble_eq_true rfl) (Nat.le_of_ble_eq_true rfl) (m_X9_lowest M_2 (gI M_2 11 x1.toNatClampNeg)  _ hc_12) ?_
        refine T_istore (i := 5) (L' := [aR (some 0), aI x1, aI x2, aI r_6, aI x_8, aI r_11, aU, aU, aU]) dX9_join_61 (Nat.le_of_ble_eq_true rfl) rfl ?_
        refine T_bipush dX9_join_63 bp_m9 ?_
        refine T_istore (i := 6) (L' := [aR (some 0), aI x1, aI x2, aI r_6, aI x_8, aI r_11, aI (-9), aU, aU]) dX9_join_65 (Nat.le_of_ble_eq_true rfl) rfl ?_
        refine T_iload dX9_join_67 rfl ?_
        refine T_istore (i := 7) (L' := [aR (some 0), aI x1, aI x2, aI r_6, aI x_8, aI r_11, aI (-9), aI x_8, aU]) dX9_join_69 (Nat.le_of_ble_eq_true rfl) rfl ?_
        obtain ⟨x_28, hl, h⟩ := bd1_some h
        refine T_mask [true, false, true, true, true, true, true, true, true] rfl ?_
        refine l_X9_join_L71  M_2 x2 r_6 x_8 r_11  _ FU (-9) x_8 hl ?_
        refine T_iload dX9_join_152 rfl ?_
        refine T_bipush dX9_join_154 bp_m9 ?_
        refine T_icmp_ne (tgt := 164) dX9_join_156 (by decide) (fun hc => ?_) (fun hc => ?_)
        · have h := it_neg hc h
          refine T_aload_n dX9_join_164 rfl ?_
          refine T_iload dX9_join_165 rfl ?_
          refine T_iload dX9_join_167 rfl ?_
          obtain ⟨r_29, hc_30, h⟩ := bd1_some h
          refine T_csi (as := [vI x_28]) dX9_join_169 cw_X9_sizeOf ml_X9_199 mt_X9_sizeOf rfl (Nat.le_of_ble_eq_true rfl) (Nat.le_of_ble_eq_true rfl) (m_X9_sizeOf M_2 x_28  _ hc_30) ?_
          obtain ⟨r_31, M_32, hc_33, h⟩ := bd2_some h
          refine T_cvi (as := [vI x_28, vI r_29]) dX9_join_172 cw_X9_ask ml_X9_105 mi_X9_ask se_X9_ask lyM_0 rfl (by decide) rfl (Nat.le_of_ble_eq_true rfl) (Nat.le_of_ble_eq_true rfl) (m_X9_ask  M_2 x_28 r_29  _ _ hc_33) ?_
          obtain ⟨rfl, rfl⟩ := sm2 h
          exact T_iret dX9_join_175 ⟨rfl, rfl, rfl, rfl⟩
        · have h := it_pos hc h
          refine T_bipush dX9_join_159 bp_m9 ?_
          refine T_goto (tgt := 175) dX9_join_161 (by decide) ?_
          obtain ⟨rfl, rfl⟩ := sm2 h
          exact T_iret dX9_join_175 ⟨rfl, rfl, rfl, rfl⟩
      · have h := it_pos hc h
        refine T_iconst dX9_join_27 ic_m1 ?_
        obtain ⟨rfl, rfl⟩ := sm2 h
        exact T_iret dX9_join_28 ⟨rfl, rfl, rfl, rfl⟩
def X9_part__J106 (M : Mem) (x2 : Int32) (x4 : Int32) (x5 : Int32) (x7 : Int32) (s0 : Int32) : Option ((Int32 × Int32 × Int32) ⊕ (Int32 × Int32)) :=
 if x4 ≤ x7 then lett (x5 + (-1)) fun x_25 => some (.inl (s0, x4, x_25))
 else lett (x5 + (-1)) fun x_27 => some (.inl (s0, x7, x_27))
def X9_part__L28 (M : Mem) (x2 : Int32) : Int32 × Int32 × Int32 → Option ((Int32 × Int32 × Int32) ⊕ (Int32 × Int32))
  | (x3, x4, x5) =>
    if x5 ≤ 0 then some (.inr (x3, x4))
    else lett (x2 &&& (x5 ^^^ (-1))) fun x_7 => if (x5 &&& (x2 ^^^ (-1))) = 0 then bd1 (F_X9_sizeOf x5) fun r_11 => if (nI 3) < r_11 then lett (x5 + (-1)) fun x_13 => some (.inl (x3, x4, x_13))
    else if x_7 = 0 then lett (x5 + (-1)) fun x_15 => some (.inl (x3, x4, x_15))
    else bd1 (F_X9_lowest x_7) fun r_17 => bd1 (F_X9_grown M x_7 r_17) fun r_19 => if r_19 = x_7 then lett (x5 + (-1)) fun x_21 => some (.inl (x3, x4, x_21))
    else bd1 (F_X9_volume M 7 0 x5) fun r_23 => if x4 < r_23 then X9_part__J106 M x2 x4 x5 r_23 x3
    else X9_part__J106 M x2 x4 x5 r_23 x5
    else lett (x5 + (-1)) fun x_9 => some (.inl (x3, x4, x_9))
def F_X9_part_ (M : Mem) (x1 : Int32) : Option (Int32 × Mem) :=
 bd2 (F_X9_isHole M x1) fun r_1 M_2 => if r_1 = 0 then some ((-1), M_2)
 else chk (inb x1 8 = true) (lett (gI M_2 11 x1.toNatClampNeg) fun x_5 => bd2 (loop (X9_part__L28 M_2 x_5) FU ((-9), 1048576, x_5)) fun x_29 x_30 => if x_29 = (-9) then some ((-9), M_2)
 else bd2 (F_X9_ask M_2 x_29 x_30) fun r_31 M_32 => some (r_31, M_32))
set_option maxRecDepth 100000 in
set_option maxHeartbeats 4000000 in
theorem j_X9_part__J106 (M : Mem) (x2 : Int32) (x4 : Int32) (x5 : Int32) (x7 : Int32) (s0 : Int32) {Po : Po_} (x : (Int32 × Int32 × Int32) ⊕ (Int32 × Int32)) (h : X9_part__J106 M x2 x4 x5 x7 s0 = some x) (hI : ∀ (ix3 : Int32) (ix4 : Int32) (ix5 : Int32), x = .inl (ix3, ix4, ix5) → T RX9 cX9_part_ 8 (some .int) 0 6 0 0 false Po 28 [aR (some 0), aU, aI x2, aI ix3, aI ix4, aI ix5, aU, aU] [] LAYM rfm M 0 0) (hE0 : ∀ (e3 : Int32) (e4 : Int32), x = .inr (e3, e4) → T RX9 cX9_part_ 8 (some .int) 0 6 0 0 false Po 129 [aR (some 0), aU, aU, aI e3, aI e4, aU, aU, aU] [] LAYM rfm M 0 0) : T RX9 cX9_part_ 8 (some .int) 0 6 0 0 false Po 106 [aR (some 0), aU, aI x2, aU, aI x4, aI x5, aU, aI x7] [vI s0] LAYM rfm M 0 0 := by
  unfold X9_part__J106 at h
  refine T_istore_n (i := 3) (L' := [aR (some 0), aU, aI x2, aI s0, aI x4, aI x5, aU, aI x7]) dX9_part__106 rfl (Nat.le_of_ble_eq_true rfl) rfl ?_
  refine T_iload dX9_part__107 rfl ?_
  refine T_iload dX9_part__109 rfl ?_
  refine T_icmp_ge (tgt := 119) dX9_part__111 (by decide) (fun hc => ?_) (fun hc => ?_)
  · have h := it_pos hc h
    refine T_iload dX9_part__119 rfl ?_
    refine T_istore (i := 4) (L' := [aR (some 0), aU, aI x2, aI s0, aI x4, aI x5, aU, aI x7]) dX9_part__121 (Nat.le_of_ble_eq_true rfl) rfl ?_
    obtain ⟨x_25, ex_26, h⟩ := lett_some h
    refine T_iinc (L' := [aR (some 0), aU, aI x2, aI s0, aI x4, aI x_25, aU, aI x7]) dX9_part__123 rfl (ic_inc ic_m1 ex_26) (Nat.le_of_ble_eq_true rfl) rfl ?_
    refine T_goto (tgt := 28) dX9_part__126 (by decide) ?_
    obtain rfl := sm1 h
    refine T_mask [true, true, true, true, true, true, true, false] rfl ?_
    exact hI _ _ _ rfl
  · have h := it_neg hc h
    refine T_iload dX9_part__114 rfl ?_
    refine T_goto (tgt := 121) dX9_part__116 (by decide) ?_
    refine T_istore (i := 4) (L' := [aR (some 0), aU, aI x2, aI s0, aI x7, aI x5, aU, aI x7]) dX9_part__121 (Nat.le_of_ble_eq_true rfl) rfl ?_
    obtain ⟨x_27, ex_28, h⟩ := lett_some h
    refine T_iinc (L' := [aR (some 0), aU, aI x2, aI s0, aI x7, aI x_27, aU, aI x7]) dX9_part__123 rfl (ic_inc ic_m1 ex_28) (Nat.le_of_ble_eq_true rfl) rfl ?_
    refine T_goto (tgt := 28) dX9_part__126 (by decide) ?_
    obtain rfl := sm1 h
    refine T_mask [true, true, true, true, true, true, true, false] rfl ?_
    exact hI _ _ _ rfl
set_option maxRecDepth 100000 in
set_option maxHeartbeats 4000000 in
theorem s_X9_part__L28 (M : Mem) (x2 : Int32) (x3 : Int32) (x4 : Int32) (x5 : Int32) {Po : Po_} (x : (Int32 × Int32 × Int32) ⊕ (Int32 × Int32)) (h : X9_part__L28 M x2 (x3, x4, x5) = some x) (hI : ∀ (ix3 : Int32) (ix4 : Int32) (ix5 : Int32), x = .inl (ix3, ix4, ix5) → T RX9 cX9_part_ 8 (some .int) 0 6 0 0 false Po 28 [aR (some 0), aU, aI x2, aI ix3, aI ix4, aI ix5, aU, aU] [] LAYM rfm M 0 0) (hE0 : ∀ (e3 : Int32) (e4 : Int32), x = .inr (e3, e4) → T RX9 cX9_part_ 8 (some .int) 0 6 0 0 false Po 129 [aR (some 0), aU, aU, aI e3, aI e4, aU, aU, aU] [] LAYM rfm M 0 0) : T RX9 cX9_part_ 8 (some .int) 0 6 0 0 false Po 28 [aR (some 0), aU, aI x2, aI x3, aI x4, aI x5, aU, aU] [] LAYM rfm M 0 0 := by
  unfold X9_part__L28 at h
  simp only at h
  refine T_iload dX9_part__28 rfl ?_
  refine T_if_le (tgt := 129) dX9_part__30 (by decide) (fun hc => ?_) (fun hc => ?_)
  · have h := it_pos hc h
    obtain rfl := sm1 h
    refine T_mask [true, true, false, true, true, false, true, true] rfl ?_
    exact hE0 _ _ rfl
  · have h := it_neg hc h
    refine T_iload_n dX9_part__33 rfl ?_
    refine T_iload dX9_part__34 rfl ?_
    refine T_iconst dX9_part__36 ic_m1 ?_
    refine T_ixor dX9_part__37 ?_
    refine T_iand dX9_part__38 ?_
    obtain ⟨x_7, ex_8, h⟩ := lett_some h
    refine T_topI ex_8 ?_
    refine T_istore (i := 6) (L' := [aR (some 0), aU, aI x2, aI x3, aI x4, aI x5, aI x_7, aU]) dX9_part__39 (Nat.le_of_ble_eq_true rfl) rfl ?_
    refine T_iload dX9_part__41 rfl ?_
    refine T_iload_n dX9_part__43 rfl ?_
    refine T_iconst dX9_part__44 ic_m1 ?_
    refine T_ixor dX9_part__45 ?_
    refine T_iand dX9_part__46 ?_
    refine T_if_ne (tgt := 123) dX9_part__47 (by decide) (fun hc => ?_) (fun hc => ?_)
    · have h := it_neg hc h
      obtain ⟨x_9, ex_10, h⟩ := lett_some h
      refine T_iinc (L' := [aR (some 0), aU, aI x2, aI x3, aI x4, aI x_9, aI x_7, aU]) dX9_part__123 rfl (ic_inc ic_m1 ex_10) (Nat.le_of_ble_eq_true rfl) rfl ?_
      refine T_goto (tgt := 28) dX9_part__126 (by decide) ?_
      obtain rfl := sm1 h
      refine T_mask [true, true, true, true, true, true, false, true] rfl ?_
      exact hI _ _ _ rfl
    · have h := it_pos hc h
      refine T_iload dX9_part__50 rfl ?_
      obtain ⟨r_11, hc_12, h⟩ := bd1_some h
      refine T_csi (as := [vI x5]) dX9_part__52 cw_X9_sizeOf ml_X9_199 mt_X9_sizeOf rfl (Nat.le_of_ble_eq_true rfl) (Nat.le_of_ble_eq_true rfl) (m_X9_sizeOf M x5  _ hc_12) ?_
      refine T_iconst dX9_part__55 ic_3 ?_
      refine T_icmp_gt (tgt := 123) dX9_part__56 (by decide) (fun hc => ?_) (fun hc => ?_)
      · have h := it_pos hc h
        obtain ⟨x_13, ex_14, h⟩ := lett_some h
        refine T_iinc (L' := [aR (some 0), aU, aI x2, aI x3, aI x4, aI x_13, aI x_7, aU]) dX9_part__123 rfl (ic_inc ic_m1 ex_14) (Nat.le_of_ble_eq_true rfl) rfl ?_
        refine T_goto (tgt := 28) dX9_part__126 (by decide) ?_
        obtain rfl := sm1 h
        refine T_mask [true, true, true, true, true, true, false, true] rfl ?_
        exact hI _ _ _ rfl
      · have h := it_neg hc h
        refine T_iload dX9_part__59 rfl ?_
        refine T_if_eq (tgt := 123) dX9_part__61 (by decide) (fun hc => ?_) (fun hc => ?_)
        · have h := it_pos hc h
          obtain ⟨x_15, ex_16, h⟩ := lett_some h
          refine T_iinc (L' := [aR (some 0), aU, aI x2, aI x3, aI x4, aI x_15, aI x_7, aU]) dX9_part__123 rfl (ic_inc ic_m1 ex_16) (Nat.le_of_ble_eq_true rfl) rfl ?_
          refine T_goto (tgt := 28) dX9_part__126 (by decide) ?_
          obtain rfl := sm1 h
          refine T_mask [true, true, true, true, true, true, false, true] rfl ?_
          exact hI _ _ _ rfl
        · have h := it_neg hc h
          refine T_aload_n dX9_part__64 rfl ?_
          refine T_iload dX9_part__65 rfl ?_
          refine T_iload dX9_part__67 rfl ?_
          obtain ⟨r_17, hc_18, h⟩ := bd1_some h
          refine T_csi (as := [vI x_7]) dX9_part__69 cw_X9_lowest ml_X9_294 mt_X9_lowest rfl (Nat.le_of_ble_eq_true rfl) (Nat.le_of_ble_eq_true rfl) (m_X9_lowest M x_7  _ hc_18) ?_
          obtain ⟨r_19, hc_20, h⟩ := bd1_some h
          refine T_cvi (as := [vI x_7, vI r_17]) dX9_part__72 cw_X9_grown ml_X9_176 mi_X9_grown se_X9_grown lyM_0 rfl (by decide) rfl (Nat.le_of_ble_eq_true rfl) (Nat.le_of_ble_eq_true rfl) (m_X9_grown  M x_7 r_17  _ hc_20) ?_
          refine T_iload dX9_part__75 rfl ?_
          refine T_icmp_eq (tgt := 123) dX9_part__77 (by decide) (fun hc => ?_) (fun hc => ?_)
          · have h := it_pos hc h
            obtain ⟨x_21, ex_22, h⟩ := lett_some h
            refine T_iinc (L' := [aR (some 0), aU, aI x2, aI x3, aI x4, aI x_21, aI x_7, aU]) dX9_part__123 rfl (ic_inc ic_m1 ex_22) (Nat.le_of_ble_eq_true rfl) rfl ?_
            refine T_goto (tgt := 28) dX9_part__126 (by decide) ?_
            obtain rfl := sm1 h
            refine T_mask [true, true, true, true, true, true, false, true] rfl ?_
            exact hI _ _ _ rfl
          · have h := it_neg hc h
            refine T_aload_n dX9_part__80 rfl ?_
            refine T_aload_n dX9_part__81 rfl ?_
            refine T_getR dX9_part__82 clOK_X9 fl_X9_32 lyM_0 rfl rfl ?_
            refine T_iconst dX9_part__85 ic_0 ?_
            refine T_iload dX9_part__86 rfl ?_
            obtain ⟨r_23, hc_24, h⟩ := bd1_some h
            refine T_cvi (as := [vR (some 7), vI 0, vI x5]) dX9_part__88 cw_X9_volume ml_X9_202 mi_X9_volume se_X9_volume lyM_0 rfl (by decide) rfl (Nat.le_of_ble_eq_true rfl) (Nat.le_of_ble_eq_true rfl) (m_X9_volume  M 7 0 x5 rfl _ hc_24) ?_
            refine T_istore (i := 7) (L' := [aR (some 0), aU, aI x2, aI x3, aI x4, aI x5, aI x_7, aI r_23]) dX9_part__91 (Nat.le_of_ble_eq_true rfl) rfl ?_
            refine T_iload dX9_part__93 rfl ?_
            refine T_iload dX9_part__95 rfl ?_
            refine T_icmp_gt (tgt := 105) dX9_part__97 (by decide) (fun hc => ?_) (fun hc => ?_)
            · have h := it_pos hc h
              refine T_iload_n dX9_part__105 rfl ?_
              refine T_mask [true, true, true, false, true, true, false, true] rfl ?_
              exact j_X9_part__J106  M x2 x4 x5 r_23 x3  _ h hI hE0
            · have h := it_neg hc h
              refine T_iload dX9_part__100 rfl ?_
              refine T_goto (tgt := 106) dX9_part__102 (by decide) ?_
              refine T_mask [true, true, true, false, true, true, false, true] rfl ?_
              exact j_X9_part__J106  M x2 x4 x5 r_23 x5  _ h hI hE0
set_option maxRecDepth 100000 in
set_option maxHeartbeats 4000000 in
theorem l_X9_part__L28 (M : Mem) (x2 : Int32) {Po : Po_} (e3 : Int32) (e4 : Int32) : ∀ (k : Nat) (x3 : Int32) (x4 : Int32) (x5 : Int32), loop (X9_part__L28 M x2) k (x3, x4, x5) = some (e3, e4) → (T RX9 cX9_part_ 8 (some .int) 0 6 0 0 false Po 129 [aR (some 0), aU, aU, aI e3, aI e4, aU, aU, aU] [] LAYM rfm M 0 0) → T RX9 cX9_part_ 8 (some .int) 0 6 0 0 false Po 28 [aR (some 0), aU, aI x2, aI x3, aI x4, aI x5, aU, aU] [] LAYM rfm M 0 0 := by
  intro k
  induction k with
  | zero => intro x3 x4 x5 h; cases h
  | succ k ih =>
    intro x3 x4 x5 h hE
    obtain ⟨x, hx, hx1, hx2⟩ := loop_succ h
    exact s_X9_part__L28  M x2  x3 x4 x5 x hx (fun q0 q1 q2 e => ih q0 q1 q2 (hx1 _ e) hE) (fun q0 q1 e => by cases hx2 _ e; exact hE)
set_option maxRecDepth 100000 in
set_option maxHeartbeats 4000000 in
theorem m_X9_part_ (M : Mem) (x1 : Int32) (r : Int32) (M' : Mem) (h : F_X9_part_ M x1 = some (r, M')) : Cal yX9_part_ cX9_part_ 8 (some .int) 0 6 0 0 false [vR (some 0), vI x1] LAYM rfm M (eqp (vI r) LAYM rfm M') := by
  refine Cal.of (by decide +kernel) (Nat.le_of_ble_eq_true rfl) (fun h => by cases h) ?_
  unfold F_X9_part_ at h
  show T RX9 cX9_part_ 8 (some .int) 0 6 0 0 false (eqp (vI r) LAYM rfm M') 0 [aR (some 0), aI x1, aU, aU, aU, aU, aU, aU] [] LAYM rfm M 0 0
  refine T_aload_n dX9_part__0 rfl ?_
  refine T_iload_n dX9_part__1 rfl ?_
  obtain ⟨r_1, M_2, hc_3, h⟩ := bd2_some h
  refine T_cvi (as := [vI x1]) dX9_part__2 cw_X9_isHole ml_X9_246 mi_X9_isHole se_X9_isHole lyM_0 rfl (by decide) rfl (Nat.le_of_ble_eq_true rfl) (Nat.le_of_ble_eq_true rfl) (m_X9_isHole  M x1  _ _ hc_3) ?_
  refine T_if_ne (tgt := 10) dX9_part__5 (by decide) (fun hc => ?_) (fun hc => ?_)
  · have h := it_neg hc h
    refine T_aload_n dX9_part__10 rfl ?_
    refine T_getR dX9_part__11 clOK_X9 fl_X9_44 lyM_0 rfl rfl ?_
    refine T_iload_n dX9_part__14 rfl ?_
    obtain ⟨hi_4, h⟩ := chk_some h
    refine T_iald dX9_part__15 lyM_11 (inb_in hi_4) ?_
    obtain ⟨x_5, ex_6, h⟩ := lett_some h
    refine T_topI ex_6 ?_
    refine T_istore_n (i := 2) (L' := [aR (some 0), aI x1, aI x_5, aU, aU, aU, aU, aU]) dX9_part__16 rfl (Nat.le_of_ble_eq_true rfl) rfl ?_
    refine T_bipush dX9_part__17 bp_m9 ?_
    refine T_istore_n (i := 3) (L' := [aR (some 0), aI x1, aI x_5, aI (-9), aU, aU, aU, aU]) dX9_part__19 rfl (Nat.le_of_ble_eq_true rfl) rfl ?_
    refine T_ldcw dX9_part__20 kc_X9_297 ?_
    refine T_istore (i := 4) (L' := [aR (some 0), aI x1, aI x_5, aI (-9), aI 1048576, aU, aU, aU]) dX9_part__23 (Nat.le_of_ble_eq_true rfl) rfl ?_
    refine T_iload_n dX9_part__25 rfl ?_
    refine T_istore (i := 5) (L' := [aR (some 0), aI x1, aI x_5, aI (-9), aI 1048576, aI x_5, aU, aU]) dX9_part__26 (Nat.le_of_ble_eq_true rfl) rfl ?_
    obtain ⟨x_29, x_30, hl, h⟩ := bd2_some h
    refine T_mask [true, false, true, true, true, true, true, true] rfl ?_
    refine l_X9_part__L28  M_2 x_5  _ _ FU (-9) 1048576 x_5 hl ?_
    refine T_iload_n dX9_part__129 rfl ?_
    refine T_bipush dX9_part__130 bp_m9 ?_
    refine T_icmp_ne (tgt := 140) dX9_part__132 (by decide) (fun hc => ?_) (fun hc => ?_)
    · have h := it_neg hc h
      refine T_aload_n dX9_part__140 rfl ?_
      refine T_iload_n dX9_part__141 rfl ?_
      refine T_iload dX9_part__142 rfl ?_
      obtain ⟨r_31, M_32, hc_33, h⟩ := bd2_some h
      refine T_cvi (as := [vI x_29, vI x_30]) dX9_part__144 cw_X9_ask ml_X9_105 mi_X9_ask se_X9_ask lyM_0 rfl (by decide) rfl (Nat.le_of_ble_eq_true rfl) (Nat.le_of_ble_eq_true rfl) (m_X9_ask  M_2 x_29 x_30  _ _ hc_33) ?_
      obtain ⟨rfl, rfl⟩ := sm2 h
      exact T_iret dX9_part__147 ⟨rfl, rfl, rfl, rfl⟩
    · have h := it_pos hc h
      refine T_bipush dX9_part__135 bp_m9 ?_
      refine T_goto (tgt := 147) dX9_part__137 (by decide) ?_
      obtain ⟨rfl, rfl⟩ := sm2 h
      exact T_iret dX9_part__147 ⟨rfl, rfl, rfl, rfl⟩
  · have h := it_pos hc h
    refine T_iconst dX9_part__8 ic_m1 ?_
    obtain ⟨rfl, rfl⟩ := sm2 h
    exact T_iret dX9_part__9 ⟨rfl, rfl, rfl, rfl⟩
