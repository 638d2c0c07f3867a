/-! ===== the beginning ===== -/
theorem r0_rows : ∀ r, r < 6 → gI cm_77 (26 + 2 * r) 1 = -1 ∧ gI mm_29 2 r = -9 := by decide +kernel
theorem r0_txts : ∀ r, r < 4 → gI cm_77 (38 + 2 * r) 1 = -1 ∧ gI mm_29 5 r = -9 := by decide +kernel
theorem r0_find : ∀ k, k < 6 → gI cm_77 25 k = gI mm_29 1 k := by decide +kernel
theorem r0_told : gI cm_77 0 12 = gI mm_29 0 2 ∧ gJ cm_77 0 13 = gJ mm_29 0 3 ∧ gJ cm_77 0 14 = gJ mm_29 0 4 ∧ gI cm_77 0 15 = gI mm_29 0 0 := by decide +kernel
theorem r0_land : gI cm_77 7 0 = nI 0 ∧ gI cm_77 7 1 = nI 0 ∧ gI mm_29 0 11 = nI 0 ∧ gI mm_29 0 10 = nI 0 ∧ gI cm_77 7 2 = nI 0 ∧ gI cm_77 7 3 = nI 0 := by decide +kernel
theorem r0_gard : ∀ x, x < 4 → gI mm_29 8 x = nI 0 ∧ gI cm_77 8 x = nI 0 := by decide +kernel
theorem r0_dep : ∀ c, c < 16 → gI cm_77 10 c = nI 0 ∧ gI mm_29 7 c = nI 0 := by decide +kernel
theorem r0_now : gI cm_77 9 3 = nI 0 ∧ gI cm_77 9 4 = nI 0 ∧ gI cm_77 9 5 = nI 0 ∧ gI cm_77 9 6 = nI 0 ∧ gI cm_77 9 7 = 0 ∧ gI mm_29 0 16 = nI 0 := by decide +kernel
theorem r0_imgs : ∀ k, k < 3 → gI cm_77 (46 + 3 * k) 7 = 0 ∧ gI mm_29 14 k = 0 := by decide +kernel
theorem r0_deeds : gI cm_77 15 3 = nI 0 ∧ gI mm_29 0 26 = nI 0 ∧ gI cm_77 0 8 = nI 0 ∧ gI mm_29 0 12 = nI 0 := by decide +kernel
theorem r0_kinds : ∀ k, k < 6 → gI cm_77 (55 + k) 0 = nI k := by decide +kernel
theorem dg_z : dg (fun _ => 0) = 0 := by decide +kernel
theorem bs_z0 : bs (fun c => decide (c < 0) && decide (c % 0 = 0)) 16 = 0 := by decide +kernel
theorem bs_z1 : bs (fun c => decide (c < 0) && decide (c % 0 + 1 = 0)) 16 = 0 := by decide +kernel
theorem gset_z : ∀ r, r < 4 → gset 0 0 (fun _ => 0) r = 0 := by decide +kernel
theorem HL_z : HL 0 0 0 = [] := by decide +kernel
theorem rel0 : Rel 0 (fun _ => none) cm_77 mm_29 := by
  obtain ⟨l1, l2, l3, l4, l5, l6⟩ := r0_land
  obtain ⟨n1, n2, n3, n4, n5, n6⟩ := r0_now
  obtain ⟨d1, d2, d3, d4⟩ := r0_deeds
  obtain ⟨t1, t2, t3, t4⟩ := r0_told
  refine ⟨⟨t1, t2, t3, t4, r0_find⟩, fun r hr => Or.inl (r0_rows r hr), fun r hr => Or.inl (r0_txts r hr), 0, 0, fun _ => 0, fun _ => 0, 0, Or.inl ⟨rfl, rfl⟩, ⟨fun _ => Nat.zero_le _, fun _ _ => rfl⟩, Nat.le_refl _, ⟨l1, l2, l3, l4, by rw [bs_z0]; exact l5, by rw [bs_z1]; exact l6, fun _ => show 0 < 4 by decide, fun x hx => (r0_gard x hx).1, fun r hr => by rw [gset_z r hr]; exact (r0_gard r hr).2⟩, ⟨fun c hc => (r0_dep c hc).1, by rw [dg_z]; exact n2, by rw [dg_z]; exact n3, by rw [dg_z, HL_z]; exact n1, fun i hi => by rw [dg_z, HL_z] at hi; exact absurd hi (Nat.not_lt_zero _), n4, by rw [if_pos rfl]; exact n5⟩, ⟨fun c hc => (r0_dep c hc).2, n6⟩, fun k hk => Or.inl (r0_imgs k hk), ⟨0, fun _ => fun _ => 0, fun _ => 0, by decide, d1, d2, rfl, rfl, fun i hi => absurd hi (Nat.not_lt_zero _), fun i hi => absurd hi (Nat.not_lt_zero _)⟩, ⟨r0_kinds, 0, fun _ => 0, by decide, d3, d4, fun j hj => absurd hj (Nat.not_lt_zero _)⟩⟩
