/-! clears, drop, cap -/
section OPS1
variable {L : Nat} {xs : Nat → Int32} {u : pv_U}
theorem P_clears (h : Inv u) : Both L xs 71 179 [some (.ref 0), none] [some (.ref 55), none] u := by
  obtain ⟨⟨b1, b2, b3, b4, b5, b6, b7, b8, b9, b10⟩, hG, ⟨f1, f2⟩, hT, hP, hL, hK⟩ := h
  refine ⟨.int (gI u 3), uI u 3 0, uI (uI u 3 0) 17 0, B71_0, ?_, ?_, rfl⟩
  · rw [B179_0, gI_uI, if_neg (show ¬ 17 = 3 by decide), ← b5]
  · simp only [Inv, invB, invG, invF, invT, invP, invL, invL1, invK, gI_uI, gJ_uI, gA_uI, gB_uI] at *
    simp only [Nat.reduceEqDiff, reduceIte]
    refine ⟨⟨b1, b2, b3, b4, trivial, ⟨by decide, by decide⟩, b7, b8, b9, b10⟩, hG, ⟨f1, fun k hk => ?_⟩, hT, hP, hL, hK⟩
    have : (0 : Int32).toInt = 0 := rfl
    omega
theorem P_drop (h : Inv u) : Both L xs 26 138 [some (.ref 0)] [some (.ref 55)] u := by
  obtain ⟨⟨b1, b2, b3, b4, b5, b6, b7, b8, b9, b10⟩, ⟨g1, g2⟩, hF, hT, hP, hL, hK⟩ := h
  by_cases hz : gI u 2 = 0
  · refine ⟨.int (-3), u, u, ?_, ?_, ⟨⟨b1, b2, b3, b4, b5, b6, b7, b8, b9, b10⟩, ⟨g1, g2⟩, hF, hT, hP, hL, hK⟩, rfl⟩
    · rw [B26_0, hz]
      rfl
    · rw [B138_0, ← b3, hz]
      rfl
  · have hpos : 0 < (gI u 2).toInt := by
      have h0 : (gI u 2).toInt ≠ 0 := fun q => hz (Int32.toInt_inj.mp (q.trans rfl))
      have := b4.1
      omega
    have hlt : 0 < gI u 2 := by rw [Int32.lt_iff_toInt_lt]; exact hpos
    have hm : (gI u 2 - 1).toInt = (gI u 2).toInt - 1 := by
      rw [Int32.toInt_sub]
      have := b4.2
      have h1 : (1 : Int32).toInt = 1 := rfl
      rw [h1, Int.bmod_eq_of_le (by omega) (by omega)]
    refine ⟨.int (gI u 2 - 1), uI u 2 (gI u 2 - 1), uI (uI u 2 (gI u 2 - 1)) 16 (gI u 2 - 1), ?_, ?_, ?_, rfl⟩
    · rw [B26_0, if_pos hlt]
    · rw [B138_0, gI_uI, if_neg (show ¬ 16 = 2 by decide), ← b3, if_neg hz]
    · simp only [Inv, invB, invG, invF, invT, invP, invL, invL1, invK, gI_uI, gJ_uI, gA_uI, gB_uI] at *
      simp only [Nat.reduceEqDiff, reduceIte]
      refine ⟨⟨b1, b2, trivial, ⟨by rw [hm]; omega, by rw [hm]; have := b4.2; omega⟩, b5, b6, b7, b8, b9, b10⟩, ⟨g1, fun k hk hq => g2 k hk (hq.imp (fun q => by rw [hm] at q; omega) id)⟩, hF, hT, hP, hL, hK⟩
theorem P_cap {x : Int64} (h : Inv u) : Both L xs 25 137 [some (.ref 0), some (.long x), none, none, none] [some (.ref 55), some (.long x), none, none, none] u := by
  obtain ⟨⟨b1, b2, b3, b4, b5, b6, b7, b8, b9, b10⟩, hG, hF, hT, hP, hL, hK⟩ := h
  have hC : ∀ u' : pv_U, RR (pv_X0 L xs) 98 14 0 [some (.long x), none] [] (enc u') = some (some (.int (if x < 0 then 0 else if 1000000000000000 < x then 0 else 1)), enc u') := fun u' => by
    rw [B14_0]
    simp only [lg_lt, lg_gt]
    split
    · rfl
    · split <;> rfl
  have hM : ∀ u' : pv_U, RR (pv_X0 L xs) 98 130 0 [some (.long x), none] [] (enc u') = some (some (.int (if x < 0 then 0 else if 1000000000000000 < x then 0 else 1)), enc u') := fun u' => by
    rw [B130_0, B126_0]
    simp only [lg_lt, lg_gt]
    split
    · rw [pv_bd_some]
      exact B130_8.trans rfl
    · split
      · rw [pv_bd_some]
        exact B130_8.trans rfl
      · rw [pv_bd_some]
        exact B130_8.trans rfl
  by_cases hx : x < 0 ∨ 1000000000000000 < x
  · have e : (if x < 0 then (0 : Int32) else if 1000000000000000 < x then 0 else 1) = 0 := by
      rcases hx with hx | hx
      · rw [if_pos hx]
      · rw [if_pos hx, ite_self]
    refine ⟨.long (-2), u, u, ?_, ?_, ⟨⟨b1, b2, b3, b4, b5, b6, b7, b8, b9, b10⟩, hG, hF, hT, hP, hL, hK⟩, rfl⟩
    · rw [B25_0, hC, pv_bd_some, e]
      exact B25_4.trans rfl
    · rw [B137_0, hM, pv_bd_some, e]
      exact B137_4.trans rfl
  · have h1 : ¬ x < 0 := fun q => hx (Or.inl q)
    have h2 : ¬ 1000000000000000 < x := fun q => hx (Or.inr q)
    have e : (if x < 0 then (0 : Int32) else if 1000000000000000 < x then 0 else 1) = 1 := by rw [if_neg h1, if_neg h2]
    refine ⟨.long (gJ u 0), uJ u 0 x, uJ (uJ u 0 x) 4 x, ?_, ?_, ?_, rfl⟩
    · rw [B25_0, hC, pv_bd_some, e]
      exact B25_4.trans rfl
    · rw [B137_0, hM, pv_bd_some, e]
      refine B137_4.trans ?_
      rw [gJ_uJ, if_neg (show ¬ 4 = 0 by decide), ← b9]
      rfl
    · rw [Int64.lt_iff_toInt_lt] at h1 h2
      simp only [Inv, invB, invG, invF, invT, invP, invL, invL1, invK, gI_uJ, gJ_uJ, gA_uJ, gB_uJ] at *
      simp only [Nat.reduceEqDiff, reduceIte]
      refine ⟨⟨b1, b2, b3, b4, b5, b6, b7, b8, trivial, ⟨by have : (0 : Int64).toInt = 0 := rfl; omega, by have : (1000000000000000 : Int64).toInt = 1000000000000000 := rfl; omega⟩⟩, hG, hF, hT, hP, hL, hK⟩
end OPS1
