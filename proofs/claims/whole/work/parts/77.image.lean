/-! image, undo, put together (printed by wip/whole/ops/pp.py) -/
section IMAGE
variable {L : Nat} {xs : Nat → Int32} {u : pv_U} {d k r i n N j q : Nat} {x y z w : Int32}
def im1 (u : pv_U) : pv_U := uI (cfa (cpa (cha u) 31) 12) 0 1
def im2 (u : pv_U) : pv_U := uB (uA (uA (uA (uA (kp0 (uI u 25 1)) 36 179 (gI u 15)) 36 180 (gI u 16)) 36 181 (gI u 17)) 36 182 (gI u 18)) 25 62 (gJ u 4)
theorem im1_I : gI (im1 u) j = if j = 0 then 1 else if j = 8 then gI u 4 else if j = 7 then gI u 3 else if j = 6 then gI u 2 else if j = 5 then gI u 1 else gI u j := by
  simp only [im1, cfa, cpa, cha, gI_uI, gI_uJ, gI_cA, gI_cB]
theorem im1_J : gJ (im1 u) j = if j = 1 then gJ u 0 else gJ u j := by
  simp only [im1, cfa, cpa, cha, gJ_uI, gJ_uJ, gJ_cA, gJ_cB]
theorem im1_A : gA (im1 u) q j = if q = 13 then (if j < 12 then gA u 6 j else gA u q j) else if q = 12 then (if j < 12 then gA u 5 j else gA u q j) else if q = 11 then (if j < 31 then gA u 4 j else gA u q j) else if q = 10 then (if j < 31 then gA u 3 j else gA u q j) else if q = 9 then (if j < 31 then gA u 2 j else gA u q j) else if q = 8 then (if j < 31 then gA u 1 j else gA u q j) else if q = 7 then (if j < 31 then gA u 0 j else gA u q j) else gA u q j := by
  simp only [im1, cfa, cpa, cha, gA_uI, gA_uJ, gA_cA, gA_cB, fA_cA, fA_cB, Nat.reduceEqDiff, not_false_eq_true, Nat.zero_le, true_and, Nat.zero_add, Nat.sub_zero]
  by_cases h13 : q = 13
  · subst h13
    simp only [Nat.reduceEqDiff, reduceIte]
  simp only [if_neg h13]
  by_cases h12 : q = 12
  · subst h12
    simp only [Nat.reduceEqDiff, reduceIte]
  simp only [if_neg h12]
  by_cases h11 : q = 11
  · subst h11
    simp only [Nat.reduceEqDiff, reduceIte]
  simp only [if_neg h11]
  by_cases h10 : q = 10
  · subst h10
    simp only [Nat.reduceEqDiff, reduceIte]
  simp only [if_neg h10]
  by_cases h9 : q = 9
  · subst h9
    simp only [Nat.reduceEqDiff, reduceIte]
  simp only [if_neg h9]
  by_cases h8 : q = 8
  · subst h8
    simp only [Nat.reduceEqDiff, reduceIte]
  simp only [if_neg h8]
theorem im1_B : gB (im1 u) q j = if q = 3 then (if j < 31 then gB u 1 j else gB u q j) else if q = 2 then (if j < 31 then gB u 0 j else gB u q j) else gB u q j := by
  simp only [im1, cfa, cpa, cha, gB_uI, gB_uJ, gB_cA, gB_cB, fB_cA, fB_cB, Nat.reduceEqDiff, not_false_eq_true, Nat.zero_le, true_and, Nat.zero_add, Nat.sub_zero]
  by_cases h3 : q = 3
  · subst h3
    simp only [Nat.reduceEqDiff, reduceIte]
  simp only [if_neg h3]
theorem im2_I : gI (im2 u) j = if j = 25 then 1 else gI u j := by
  simp only [im2, kp0, gI_uI, gI_uA, gI_uB, gI_cA, gI_cB]
theorem im2_J : gJ (im2 u) j = gJ u j := by
  simp only [im2, kp0, gJ_uI, gJ_uA, gJ_uB, gJ_cA, gJ_cB]
theorem im2_A (h : ¬ q = 36) : gA (im2 u) q j = gA u q j := by
  simp only [im2, kp0, gA_uI, gA_uA, gA_uB, gA_cA, gA_cB, if_neg h]
theorem im2_B (h : ¬ q = 25) : gB (im2 u) q j = gB u q j := by
  simp only [im2, kp0, gB_uI, gB_uA, gB_uB, gB_cA, gB_cB, if_neg h]
theorem im2_36 : gA (im2 u) 36 j = if j = 182 then gI u 18 else if j = 181 then gI u 17 else if j = 180 then gI u 16 else if j = 179 then gI u 15 else if 155 ≤ j ∧ j < 179 then gA u 31 (j - 155) else if 124 ≤ j ∧ j < 155 then gA u 30 (j - 124) else if 93 ≤ j ∧ j < 124 then gA u 29 (j - 93) else if 62 ≤ j ∧ j < 93 then gA u 28 (j - 62) else if 31 ≤ j ∧ j < 62 then gA u 27 (j - 31) else if 0 ≤ j ∧ j < 31 then gA u 26 (j - 0) else gA u 36 j := by
  simp only [im2, kp0, gA_uI, gA_uA, gA_uB, gA_cA, gA_cB, reduceIte, Nat.reduceAdd]
theorem im2_25 : gB (im2 u) 25 j = if j = 62 then gJ u 4 else if 31 ≤ j ∧ j < 62 then gB u 18 (j - 31) else if 0 ≤ j ∧ j < 31 then gB u 17 (j - 0) else gB u 25 j := by
  simp only [im2, kp0, gB_uI, gB_uA, gB_uB, gB_cA, gB_cB, reduceIte, Nat.reduceAdd]
theorem P_image (h : Inv u) : Both L xs 121 212 [some (.ref 0)] [some (.ref 55), none] u := by
  have h0 := h
  obtain ⟨⟨b1, b2, b3, b4, b5, b6, b7, b8, b9, b10⟩, ⟨g1, g2⟩, ⟨f1, f2⟩, ⟨t1, t2, t3⟩, ⟨p1, p2, p3⟩, hL, ⟨k1, k2, k3⟩⟩ := h
  have hv : ∀ k, k < 31 → chOk (gA u 4 k) := fun k hk => (k1.2 k hk).1
  refine ⟨.int (gI u 2), im1 u, im2 (im1 u), ?_, ?_, ?_, rfl⟩
  · rw [B121_0, C_copya b8 hv, pv_bd_some]
    refine B121_11.trans ?_
    have e : gI (cfa (cpa (cha u) 31) 12) 6 = gI u 2 := by
      simp only [cfa, cpa, cha, gI_uI, gI_uJ, gI_cA, gI_cB, Nat.reduceEqDiff, reduceIte]
    rw [e]
    rfl
  · have e16 : gI (im1 u) 16 = gI u 2 := by rw [im1_I]; simp only [Nat.reduceEqDiff, reduceIte]; exact b3.symm
    have e18 : chOk (gI (im1 u) 18) := by rw [im1_I]; simp only [Nat.reduceEqDiff, reduceIte]; rw [← b7]; exact b8
    have f : ∀ j, ¬ j = 25 → gI (kp0 (uI (im1 u) 25 1)) j = gI (im1 u) j := fun j hj => by
      simp only [kp0, gI_uI, gI_cA, gI_cB, if_neg hj]
    have fJ : gJ (kp0 (uI (im1 u) 25 1)) 4 = gJ (im1 u) 4 := rfl
    rw [B212_0, M_keeps0 (d := 97), pv_bd_some]
    refine B212_10.trans ?_
    rw [f 15 (by decide), f 16 (by decide), f 17 (by decide), f 18 (by decide), fJ, e16]
    unfold im2
    rw [e16]
    rcases i32_01 e18 with e | e <;> rw [e] <;> rfl
  · refine ⟨?_, ⟨fun k => ?_, fun k hk hq => ?_⟩, ⟨fun k hk => ?_, fun k hk => ?_⟩, ?_, ?_, ?_, ⟨⟨?_, fun k hk => ⟨?_, ?_⟩⟩, ?_, fun _ => ⟨?_, ?_, ?_, ?_, ?_, ?_, ?_, ?_, ?_, ?_, fun k hk => ⟨?_, ?_, ?_, ?_, ?_, ?_, ?_⟩, fun k hk hq => ?_, fun k hk => ⟨?_, ?_⟩, fun k hk => ?_⟩⟩⟩
    · simp only [invB, im2_I, im2_J, im1_I, im1_J, Nat.reduceEqDiff, reduceIte]
      exact h0.1
    · simp only [im2_A, im2_B, im1_A, im1_B, Nat.reduceEqDiff, reduceIte, not_false_eq_true]
      exact g1 k
    · simp only [im2_A, im2_B, im1_A, im1_B, im2_I, im1_I, Nat.reduceEqDiff, reduceIte, not_false_eq_true] at hq ⊢
      exact g2 k hk hq
    · simp only [im2_A, im1_A, Nat.reduceEqDiff, reduceIte, not_false_eq_true]
      exact f1 k hk
    · simp only [im2_A, im1_A, im2_I, im1_I, Nat.reduceEqDiff, reduceIte, not_false_eq_true] at hk ⊢
      exact f2 k hk
    · simp only [invT, im2_A, im1_A, im2_I, im1_I, Nat.reduceEqDiff, reduceIte, not_false_eq_true]
      exact ⟨t1, t2, t3⟩
    · simp only [invP, im2_A, im1_A, im2_I, im1_I, Nat.reduceEqDiff, reduceIte, not_false_eq_true]
      exact ⟨p1, p2, p3⟩
    · simp only [invL, invL1, im2_A, im1_A, im2_B, im1_B, Nat.reduceEqDiff, reduceIte, not_false_eq_true]
      exact hL
    · simp only [im2_I, im1_I, Nat.reduceEqDiff, reduceIte]
    · simp only [im2_A, im1_A, Nat.reduceEqDiff, reduceIte, not_false_eq_true]
      exact hv k hk
    · simp only [im2_A, im1_A, Nat.reduceEqDiff, reduceIte, not_false_eq_true, if_pos hk]
      exact hv k hk
    · simp only [im2_I, im1_I, Nat.reduceEqDiff, reduceIte]
      exact ⟨by decide, by decide⟩
    · simp only [im2_I, im1_I, im2_36, Nat.reduceEqDiff, reduceIte]
      exact b1
    · simp only [im2_I, im1_I, Nat.reduceEqDiff, reduceIte]
      exact b2
    · simp only [im2_I, im1_I, im2_36, Nat.reduceEqDiff, reduceIte]
      exact b3
    · simp only [im2_I, im1_I, Nat.reduceEqDiff, reduceIte]
      exact b4
    · simp only [im2_I, im1_I, im2_36, Nat.reduceEqDiff, reduceIte]
      exact b5
    · simp only [im2_I, im1_I, Nat.reduceEqDiff, reduceIte]
      exact b6
    · simp only [im2_I, im1_I, im2_36, Nat.reduceEqDiff, reduceIte]
      exact b7
    · simp only [im2_I, im1_I, Nat.reduceEqDiff, reduceIte]
      exact b8
    · simp only [im2_J, im1_J, im2_25, Nat.reduceEqDiff, reduceIte]
      exact b9
    · simp only [im2_J, im1_J, Nat.reduceEqDiff, reduceIte]
      exact b10
    · rw [im2_36, if_neg (by omega), if_neg (by omega), if_neg (by omega), if_neg (by omega), if_neg (by omega), if_neg (by omega), if_neg (by omega), if_neg (by omega), if_neg (by omega), if_pos (by omega)]
      simp only [im2_A, im1_A, Nat.reduceEqDiff, reduceIte, not_false_eq_true, if_pos hk, Nat.sub_zero]
      exact (g1 k).1
    · rw [im2_36, if_neg (by omega), if_neg (by omega), if_neg (by omega), if_neg (by omega), if_neg (by omega), if_neg (by omega), if_neg (by omega), if_neg (by omega), if_pos (by omega)]
      simp only [im2_A, im1_A, Nat.reduceEqDiff, reduceIte, not_false_eq_true, if_pos hk, Nat.add_sub_cancel_left]
      exact (g1 k).2.1
    · rw [im2_25, if_neg (by omega), if_neg (by omega), if_pos (by omega)]
      simp only [im2_B, im1_B, Nat.reduceEqDiff, reduceIte, not_false_eq_true, if_pos hk, Nat.sub_zero]
      exact (g1 k).2.2.1
    · rw [im2_25, if_neg (by omega), if_pos (by omega)]
      simp only [im2_B, im1_B, Nat.reduceEqDiff, reduceIte, not_false_eq_true, if_pos hk, Nat.add_sub_cancel_left]
      exact (g1 k).2.2.2.1
    · rw [im2_36, if_neg (by omega), if_neg (by omega), if_neg (by omega), if_neg (by omega), if_neg (by omega), if_neg (by omega), if_neg (by omega), if_pos (by omega)]
      simp only [im2_A, im1_A, Nat.reduceEqDiff, reduceIte, not_false_eq_true, if_pos hk, Nat.add_sub_cancel_left]
      exact (g1 k).2.2.2.2.1
    · rw [im2_36, if_neg (by omega), if_neg (by omega), if_neg (by omega), if_neg (by omega), if_neg (by omega), if_neg (by omega), if_pos (by omega)]
      simp only [im2_A, im1_A, Nat.reduceEqDiff, reduceIte, not_false_eq_true, if_pos hk, Nat.add_sub_cancel_left]
      exact (g1 k).2.2.2.2.2.1
    · rw [im2_36, if_neg (by omega), if_neg (by omega), if_neg (by omega), if_neg (by omega), if_neg (by omega), if_pos (by omega)]
      simp only [im2_A, im1_A, Nat.reduceEqDiff, reduceIte, not_false_eq_true, if_pos hk, Nat.add_sub_cancel_left]
      exact (g1 k).2.2.2.2.2.2
    · simp only [im2_A, im2_B, im1_A, im1_B, im2_I, im1_I, Nat.reduceEqDiff, reduceIte, not_false_eq_true, if_pos hk] at hq ⊢
      exact g2 k hk hq
    · rw [im2_36, if_neg (by omega), if_neg (by omega), if_neg (by omega), if_neg (by omega), if_pos (by omega)]
      simp only [im2_A, im1_A, Nat.reduceEqDiff, reduceIte, not_false_eq_true, if_pos hk, Nat.add_sub_cancel_left]
      exact (f1 k hk).1
    · rw [im2_36, if_neg (by omega), if_neg (by omega), if_neg (by omega), if_neg (by omega), if_pos (by omega)]
      simp only [im2_A, im1_A, Nat.reduceEqDiff, reduceIte, not_false_eq_true, if_pos hk, Nat.add_sub_cancel_left]
      exact (f1 k hk).2
    · have b6' := b6.2
      simp only [im2_A, im1_A, im2_I, im1_I, Nat.reduceEqDiff, reduceIte, not_false_eq_true] at hk ⊢
      simp only [if_pos (show k < 12 by omega)]
      exact f2 k hk
/-! undo -/
def ud1 (u : pv_U) : pv_U := cfb (cpb (chb u) 31) 12
def ud2 (u : pv_U) : pv_U := uJ (uI (uI (uI (uI (kp1 u) 15 (gA u 36 179)) 16 (gA u 36 180)) 17 (gA u 36 181)) 18 (gA u 36 182)) 4 (gB u 25 62)
theorem ud1_I : gI (ud1 u) j = if j = 4 then gI u 8 else if j = 3 then gI u 7 else if j = 2 then gI u 6 else if j = 1 then gI u 5 else gI u j := by
  simp only [ud1, cfb, cpb, chb, gI_uI, gI_uJ, gI_cA, gI_cB]
theorem ud1_J : gJ (ud1 u) j = if j = 0 then gJ u 1 else gJ u j := by
  simp only [ud1, cfb, cpb, chb, gJ_uI, gJ_uJ, gJ_cA, gJ_cB]
theorem ud1_A : gA (ud1 u) q j = if q = 6 then (if j < 12 then gA u 13 j else gA u q j) else if q = 5 then (if j < 12 then gA u 12 j else gA u q j) else if q = 4 then (if j < 31 then gA u 11 j else gA u q j) else if q = 3 then (if j < 31 then gA u 10 j else gA u q j) else if q = 2 then (if j < 31 then gA u 9 j else gA u q j) else if q = 1 then (if j < 31 then gA u 8 j else gA u q j) else if q = 0 then (if j < 31 then gA u 7 j else gA u q j) else gA u q j := by
  simp only [ud1, cfb, cpb, chb, gA_uI, gA_uJ, gA_cA, gA_cB, fA_cA, fA_cB, Nat.reduceEqDiff, not_false_eq_true, Nat.zero_le, true_and, Nat.zero_add, Nat.sub_zero]
  by_cases h6 : q = 6
  · subst h6
    simp only [Nat.reduceEqDiff, reduceIte]
  simp only [if_neg h6]
  by_cases h5 : q = 5
  · subst h5
    simp only [Nat.reduceEqDiff, reduceIte]
  simp only [if_neg h5]
  by_cases h4 : q = 4
  · subst h4
    simp only [Nat.reduceEqDiff, reduceIte]
  simp only [if_neg h4]
  by_cases h3 : q = 3
  · subst h3
    simp only [Nat.reduceEqDiff, reduceIte]
  simp only [if_neg h3]
  by_cases h2 : q = 2
  · subst h2
    simp only [Nat.reduceEqDiff, reduceIte]
  simp only [if_neg h2]
  by_cases h1 : q = 1
  · subst h1
    simp only [Nat.reduceEqDiff, reduceIte]
  simp only [if_neg h1]
theorem ud1_B : gB (ud1 u) q j = if q = 1 then (if j < 31 then gB u 3 j else gB u q j) else if q = 0 then (if j < 31 then gB u 2 j else gB u q j) else gB u q j := by
  simp only [ud1, cfb, cpb, chb, gB_uI, gB_uJ, gB_cA, gB_cB, fB_cA, fB_cB, Nat.reduceEqDiff, not_false_eq_true, Nat.zero_le, true_and, Nat.zero_add, Nat.sub_zero]
  by_cases h1 : q = 1
  · subst h1
    simp only [Nat.reduceEqDiff, reduceIte]
  simp only [if_neg h1]
theorem ud2_I : gI (ud2 u) j = if j = 18 then gA u 36 182 else if j = 17 then gA u 36 181 else if j = 16 then gA u 36 180 else if j = 15 then gA u 36 179 else gI u j := by
  simp only [ud2, kp1, gI_uI, gI_uJ, gI_cA, gI_cB]
theorem ud2_J : gJ (ud2 u) j = if j = 4 then gB u 25 62 else gJ u j := by
  simp only [ud2, kp1, gJ_uI, gJ_uJ, gJ_cA, gJ_cB]
theorem ud2_A : gA (ud2 u) q j = if q = 31 then (if j < 24 then gA u 36 (155 + j) else gA u q j) else if q = 30 then (if j < 31 then gA u 36 (124 + j) else gA u q j) else if q = 29 then (if j < 31 then gA u 36 (93 + j) else gA u q j) else if q = 28 then (if j < 31 then gA u 36 (62 + j) else gA u q j) else if q = 27 then (if j < 31 then gA u 36 (31 + j) else gA u q j) else if q = 26 then (if j < 31 then gA u 36 (0 + j) else gA u q j) else gA u q j := by
  simp only [ud2, kp1, gA_uI, gA_uJ, gA_cA, gA_cB, Nat.zero_le, true_and, Nat.zero_add, Nat.sub_zero]
  by_cases h31 : q = 31
  · subst h31
    simp only [Nat.reduceEqDiff, reduceIte]
  simp only [if_neg h31]
  by_cases h30 : q = 30
  · subst h30
    simp only [Nat.reduceEqDiff, reduceIte]
  simp only [if_neg h30]
  by_cases h29 : q = 29
  · subst h29
    simp only [Nat.reduceEqDiff, reduceIte]
  simp only [if_neg h29]
  by_cases h28 : q = 28
  · subst h28
    simp only [Nat.reduceEqDiff, reduceIte]
  simp only [if_neg h28]
  by_cases h27 : q = 27
  · subst h27
    simp only [Nat.reduceEqDiff, reduceIte]
  simp only [if_neg h27]
theorem ud2_B : gB (ud2 u) q j = if q = 18 then (if j < 31 then gB u 25 (31 + j) else gB u q j) else if q = 17 then (if j < 31 then gB u 25 (0 + j) else gB u q j) else gB u q j := by
  simp only [ud2, kp1, gB_uI, gB_uJ, gB_cA, gB_cB, Nat.zero_le, true_and, Nat.zero_add, Nat.sub_zero]
  by_cases h18 : q = 18
  · subst h18
    simp only [Nat.reduceEqDiff, reduceIte]
  simp only [if_neg h18]
theorem P_undo (h : Inv u) : Both L xs 123 216 [some (.ref 0)] [some (.ref 55), none] u := by
  have h0 := h
  obtain ⟨⟨b1, b2, b3, b4, b5, b6, b7, b8, b9, b10⟩, ⟨g1, g2⟩, ⟨f1, f2⟩, ⟨t1, t2, t3⟩, ⟨p1, p2, p3⟩, hL, ⟨k1, k2, k3⟩⟩ := h
  by_cases hk0 : gI u 0 = 0
  · exact ⟨.int (-3), u, u, by rw [B123_0, if_pos hk0], by rw [B216_0, ← k1.1, if_pos hk0], h0, rfl⟩
  have hk1 : gI u 0 = 1 := (i32_01 k2).resolve_left hk0
  obtain ⟨i1, i2, i3, i4, i5, i6, i7, i8, i9, i10, i11, i12, i13, i14⟩ := k3 hk1
  have hv : ∀ k, k < 31 → chOk (gA u 11 k) := fun k hk => (k1.2 k hk).2
  refine ⟨.int (gI u 6), ud1 u, ud2 (ud1 u), ?_, ?_, ?_, rfl⟩
  · rw [B123_0, if_neg hk0, C_copyb i8 hv, pv_bd_some]
    refine B123_21.trans ?_
    have e : gI (cfb (cpb (chb u) 31) 12) 2 = gI u 6 := by
      simp only [cfb, cpb, chb, gI_uI, gI_uJ, gI_cA, gI_cB, Nat.reduceEqDiff, reduceIte]
    rw [e]
    rfl
  · have e25 : ¬ gI (ud1 u) 25 = 0 := by rw [ud1_I]; simp only [Nat.reduceEqDiff, reduceIte]; rw [← k1.1]; exact hk0
    have e36 : ∀ j, gA (kp1 (ud1 u)) 36 j = gA (ud1 u) 36 j := fun j => by
      simp only [kp1, gA_cA, gA_cB, Nat.reduceEqDiff, reduceIte]
    have eB : gB (kp1 (ud1 u)) 25 62 = gB (ud1 u) 25 62 := by
      simp only [kp1, gB_cA, gB_cB, Nat.reduceEqDiff, reduceIte]
    have e182 : chOk (gA (ud1 u) 36 182) := by
      rw [ud1_A]
      simp only [Nat.reduceEqDiff, reduceIte]
      rw [← i7]
      exact i8
    have e180 : gA (ud1 u) 36 180 = gI u 6 := by
      rw [ud1_A]
      simp only [Nat.reduceEqDiff, reduceIte]
      exact i3.symm
    rw [B216_0, if_neg e25, M_keeps1 (d := 97), pv_bd_some]
    refine B216_15.trans ?_
    simp only [gA_uI, gB_uI, e36, eB]
    unfold ud2
    rw [e180]
    rcases i32_01 e182 with e | e
    · rw [if_neg (by rw [e]; decide), e]
    · rw [if_pos e, e]
  · refine ⟨?_, ⟨fun k => ?_, fun k hk hq => ?_⟩, ⟨fun k hk => ?_, fun k hk => ?_⟩, ?_, ?_, ?_, ⟨⟨?_, fun k hk => ⟨?_, ?_⟩⟩, ?_, fun _ => ?_⟩⟩
    · simp only [invB, ud2_I, ud2_J, ud1_I, ud1_J, ud1_A, ud1_B, Nat.reduceEqDiff, reduceIte]
      exact ⟨i1, i2, i3, i4, i5, i6, i7, i8, i9, i10⟩
    · simp only [ud2_A, ud2_B, ud1_A, ud1_B, Nat.reduceEqDiff, reduceIte, Nat.zero_add]
      by_cases hk : k < 31
      · simp only [if_pos hk]
        exact i11 k hk
      · simp only [if_neg hk]
        exact g1 k
    · simp only [ud2_A, ud2_B, ud1_A, ud1_B, ud2_I, ud1_I, Nat.reduceEqDiff, reduceIte, if_pos hk] at hq ⊢
      exact i12 k hk hq
    · simp only [ud2_A, ud1_A, Nat.reduceEqDiff, reduceIte, if_pos hk, if_pos (show 2 * k < 24 by omega), if_pos (show 2 * k + 1 < 24 by omega)]
      exact i13 k hk
    · have b6' := i6.2
      simp only [ud2_A, ud1_A, ud2_I, ud1_I, Nat.reduceEqDiff, reduceIte] at hk ⊢
      simp only [if_pos (show k < 12 by omega)]
      exact i14 k hk
    · simp only [invT, ud2_A, ud1_A, ud2_I, ud1_I, Nat.reduceEqDiff, reduceIte]
      exact ⟨t1, t2, t3⟩
    · simp only [invP, ud2_A, ud1_A, ud2_I, ud1_I, Nat.reduceEqDiff, reduceIte]
      exact ⟨p1, p2, p3⟩
    · simp only [invL, invL1, ud2_A, ud1_A, ud2_B, ud1_B, Nat.reduceEqDiff, reduceIte]
      exact hL
    · simp only [ud2_I, ud1_I, Nat.reduceEqDiff, reduceIte]
      exact k1.1
    · simp only [ud2_A, ud1_A, Nat.reduceEqDiff, reduceIte, if_pos hk]
      exact hv k hk
    · simp only [ud2_A, ud1_A, Nat.reduceEqDiff, reduceIte]
      exact hv k hk
    · simp only [ud2_I, ud1_I, Nat.reduceEqDiff, reduceIte]
      exact k2
    · simp only [ud2_I, ud2_J, ud2_A, ud2_B, ud1_I, ud1_J, ud1_A, ud1_B, Nat.reduceEqDiff, reduceIte]
      exact ⟨i1, i2, i3, i4, i5, i6, i7, i8, i9, i10, i11, i12, i13, i14⟩
end IMAGE
