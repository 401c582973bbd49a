/-! the reference's isIn; clear, feed, paper -/
section OPS2
variable {L : Nat} {xs : Nat → Int32} {u : pv_U} {d : Nat}
theorem M_isIn {v a b : Int64} : RR (pv_X0 L xs) d 126 0 [some (.long v), none, some (.long a), none, some (.long b), none] [] (enc u) = some (some (.int (if v < a then 0 else if b < v then 0 else 1)), enc u) := by
  rw [B126_0]
  simp only [lg_lt, lg_gt]
  split
  · rfl
  · split <;> rfl
/-- isIn of ints: 1 in the range, else 0 -/
theorem isIn_in {x a b : Int32} (h : a.toInt ≤ x.toInt ∧ x.toInt ≤ b.toInt) : (if x.toInt64 < a.toInt64 then (0 : Int32) else if b.toInt64 < x.toInt64 then 0 else 1) = 1 := by
  rw [if_neg, if_neg]
  · rw [Int64.lt_iff_toInt_lt, Int32.toInt_toInt64, Int32.toInt_toInt64]
    omega
  · rw [Int64.lt_iff_toInt_lt, Int32.toInt_toInt64, Int32.toInt_toInt64]
    omega
theorem isIn_out {x a b : Int32} (h : ¬ (a.toInt ≤ x.toInt ∧ x.toInt ≤ b.toInt)) : (if x.toInt64 < a.toInt64 then (0 : Int32) else if b.toInt64 < x.toInt64 then 0 else 1) = 0 := by
  by_cases h1 : x.toInt64 < a.toInt64
  · rw [if_pos h1]
  · rw [if_neg h1, if_pos]
    rw [Int64.lt_iff_toInt_lt, Int32.toInt_toInt64, Int32.toInt_toInt64] at h1 ⊢
    omega
theorem P_clear (h : Inv u) : Both L xs 78 184 [some (.ref 0), none] [some (.ref 55), none] u := by
  obtain ⟨hB, hG, hF, ⟨t1, t2, t3⟩, hP, hL, hK⟩ := h
  refine ⟨.int (gI u 11), uI u 11 0, uI (uI u 11 0) 20 0, B78_0, ?_, ?_, rfl⟩
  · rw [B184_0, gI_uI, if_neg (show ¬ 20 = 11 by decide), ← t1]
  · simp only [Inv, invB, invG, invF, invT, invP, invL, invL1, invK, gI_uI, gJ_uI, gA_uI, gB_uI] at *
    simp only [Nat.reduceEqDiff, reduceIte]
    refine ⟨hB, hG, hF, ⟨trivial, ⟨by decide, by decide⟩, fun k hk => ?_⟩, hP, hL, hK⟩
    have : (0 : Int32).toInt = 0 := rfl
    omega
theorem byte_id : ∀ n : Nat, n < 128 → vp_nar .byte ((Int32.ofNat n).toInt8.toInt32) = Int32.ofNat n := by decide +kernel
theorem i32_nat {x : Int32} (h : 0 ≤ x.toInt) : x = Int32.ofNat x.toInt.toNat := by
  apply Int32.toInt_inj.mp
  have h2 := Int32.toInt_lt x
  rw [Int32.toInt_ofNat_of_lt (by omega)]
  omega
theorem succ_int {x : Int32} {n : Int} (h : x.toInt ≤ n) (hn : n < 1000000) (h0 : 0 ≤ x.toInt) : (x + 1).toInt = x.toInt + 1 := by
  rw [Int32.toInt_add]
  have h1 : (1 : Int32).toInt = 1 := rfl
  rw [h1, Int.bmod_eq_of_le (by omega) (by omega)]
theorem P_feed {x : Int32} (h : Inv u) : Both L xs 77 183 [some (.ref 0), some (.int x)] [some (.ref 55), some (.int x)] u := by
  have h0 := h
  obtain ⟨hB, hG, hF, ⟨t1, t2, t3⟩, hP, hL, hK⟩ := h
  have c1 : (1 : Int32).toInt = 1 := rfl
  have c127 : (127 : Int32).toInt = 127 := rfl
  have c120 : (120 : Int32).toInt = 120 := rfl
  have hM : ∀ u' : pv_U, RR (pv_X0 L xs) 99 183 0 [some (.ref 55), some (.int x)] [] (enc u') = RR (pv_X0 L xs) 99 183 9 [some (.ref 55), some (.int x)] [.int (if x.toInt64 < (1 : Int32).toInt64 then (0 : Int32) else if (127 : Int32).toInt64 < x.toInt64 then 0 else 1)] (enc u') := fun u' => by
    rw [B183_0, M_isIn, pv_bd_some]
    rfl
  by_cases hx : (1 : Int32).toInt ≤ x.toInt ∧ x.toInt ≤ (127 : Int32).toInt
  · have n1 : ¬ x < (1 : Int32) := by rw [Int32.lt_iff_toInt_lt]; omega
    have n2 : x ≤ (127 : Int32) := by rw [Int32.le_iff_toInt_le]; omega
    by_cases hf : (gI u 11).toInt < 120
    · have n3 : gI u 11 < (120 : Int32) := by rw [Int32.lt_iff_toInt_lt]; omega
      have n4 : ¬ gI u 20 = (120 : Int32) := fun q => by rw [t1, q] at hf; omega
      have hb : vp_nar .byte (x.toInt8.toInt32) = x := by
        have e := i32_nat (x := x) (by omega)
        rw [e]
        exact byte_id _ (by omega)
      have hs := succ_int (x := gI u 11) (n := 120) t2.2 (by omega) t2.1
      refine ⟨.int (gI u 11 + 1), uI (uA u 23 (gI u 11).toInt.toNat x) 11 (gI u 11 + 1), uI (uA (uI (uA u 23 (gI u 11).toInt.toNat x) 11 (gI u 11 + 1)) 33 (gI u 11).toInt.toNat x) 20 (gI u 11 + 1), ?_, ?_, ?_, rfl⟩
      · rw [B77_0, if_neg n1, if_pos n2, if_pos n3, pv_ix_at t2.1 (by omega), hb]
      · rw [hM, isIn_in hx]
        refine B183_9.trans ?_
        simp only [gI_uI, gI_uA, Nat.reduceEqDiff, reduceIte, ← t1]
        rw [if_neg (by decide), if_neg (fun q => n4 (t1 ▸ q)), pv_ix_at t2.1 (by omega)]
      · simp only [Inv, invB, invG, invF, invT, invP, invL, invL1, invK, gI_uI, gJ_uI, gA_uI, gB_uI, gI_uA, gJ_uA, gA_uA, gB_uA] at *
        simp only [Nat.reduceEqDiff, reduceIte]
        refine ⟨hB, hG, hF, ⟨trivial, ⟨by rw [hs]; have := t2.1; omega, by rw [hs]; omega⟩, fun k hk => ?_⟩, hP, hL, hK⟩
        rw [hs] at hk
        by_cases hke : k = (gI u 11).toInt.toNat
        · rw [if_pos hke, if_pos hke]
          exact ⟨rfl, by omega, by omega⟩
        · rw [if_neg hke, if_neg hke]
          exact t3 k (by have := t2.1; omega)
    · have e120 : gI u 11 = 120 := Int32.toInt_inj.mp (by have := t2.2; omega)
      refine ⟨.int (-4), u, u, ?_, ?_, h0, rfl⟩
      · rw [B77_0, if_neg n1, if_pos n2, e120]
        rfl
      · rw [hM, isIn_in hx]
        refine B183_9.trans ?_
        rw [← t1, e120]
        rfl
  · refine ⟨.int (-2), u, u, ?_, ?_, h0, rfl⟩
    · rw [B77_0]
      by_cases n1 : x < (1 : Int32)
      · rw [if_pos n1]
      · rw [if_neg n1, if_neg]
        rw [Int32.lt_iff_toInt_lt] at n1
        rw [Int32.le_iff_toInt_le]
        omega
    · rw [hM, isIn_out hx]
      exact B183_9.trans rfl
end OPS2
