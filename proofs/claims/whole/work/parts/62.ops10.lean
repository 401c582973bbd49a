/-! duel (printed by wip/whole/ops/pp.py) -/
abbrev duC (h a : Nat → Int32) (N : Nat) : Nat := cntN (fun g => !wasB h a g) N
/-- the GAME that begins the duel i; -1: none -/
def duW (h a : Nat → Int32) (i : Int32) : Nat → Int32
  | 0 => -1
  | k + 1 => if wasB h a k = false ∧ jI (duC h a k) = i then jI k else duW h a i k
theorem duC_le {h a : Nat → Int32} {n : Nat} : duC h a n ≤ n := cntN_le
theorem duC_lt {h a : Nat → Int32} {k n : Nat} (hk : k < n) (hf : wasB h a k = false) : duC h a k < duC h a n := by
  have hm : duC h a (k + 1) ≤ duC h a n := cntN_mono (by omega)
  have hs : duC h a (k + 1) = duC h a k + 1 := by
    show cntN _ k + (!wasB h a k).toNat = _
    rw [hf]
    rfl
  omega
theorem duW_hit {h a : Nat → Int32} {i : Int32} {k n : Nat} (hn : n < 1000) (hk : k < n) (hf : wasB h a k = false) (hc : jI (duC h a k) = i) : duW h a i n = jI k := by
  induction n with
  | zero => omega
  | succ n ih =>
    show (if wasB h a n = false ∧ jI (duC h a n) = i then jI n else duW h a i n) = jI k
    by_cases e : n = k
    · subst e
      rw [if_pos ⟨hf, hc⟩]
    · have hm := duC_lt (n := n) (by omega) hf
      have hl := duC_le (h := h) (a := a) (n := n)
      rw [if_neg (by rintro ⟨_, h2⟩; rw [← hc, jI_eq (by omega) (by omega)] at h2; omega), ih (by omega) (by omega)]
theorem duW_no {h a : Nat → Int32} {i : Int32} {n : Nat} (hno : ∀ k, k < n → wasB h a k = false → jI (duC h a k) ≠ i) : duW h a i n = -1 := by
  induction n with
  | zero => rfl
  | succ n ih =>
    show (if wasB h a n = false ∧ jI (duC h a n) = i then jI n else duW h a i n) = -1
    rw [if_neg (fun q => hno n (by omega) q.1 q.2), ih (fun k hk => hno k (by omega))]
theorem i32_4 {x : Int32} (h0 : 0 ≤ x.toInt) (h : x.toInt ≤ 3) : x = 0 ∨ x = 1 ∨ x = 2 ∨ x = 3 := by
  rcases i32_8 h0 (by omega) with e | e | e | e | e | e | e | e
  · exact Or.inl e
  · exact Or.inr (Or.inl e)
  · exact Or.inr (Or.inr (Or.inl e))
  · exact Or.inr (Or.inr (Or.inr e))
  · rw [e, z4] at h; omega
  · rw [e, z5] at h; omega
  · rw [e, z6] at h; omega
  · rw [e, z7] at h; omega
section OPS10
variable {L : Nat} {xs : Nat → Int32} {u : pv_U} {d k r i n N j : Nat} {x y z w : Int32}
theorem C_duL (hN : gI u 2 = jI N) (h30 : N ≤ 30) : RR (pv_X0 L xs) (d + 2) 62 8 [some (.ref 0), some (.int x), some (.int y), some (.int (-1)), some (.int 0), some (.int 0), none] [] (enc u) = RR (pv_X0 L xs) (d + 2) 62 8 [some (.ref 0), some (.int x), some (.int y), some (.int (duW (gA u 0) (gA u 1) x N)), some (.int (jI (duC (gA u 0) (gA u 1) N))), some (.int (jI N)), none] [] (enc u) := by
  obtain ⟨a, h1, h2⟩ := pv_loop (R := fun k (a : Int32 × Int32) => RR (pv_X0 L xs) (d + 2) 62 8 [some (.ref 0), some (.int x), some (.int y), some (.int a.1), some (.int a.2), some (.int (jI k)), none] [] (enc u)) (P := fun k a => a = (duW (gA u 0) (gA u 1) x k, jI (duC (gA u 0) (gA u 1) k))) (N := N) (fun k a hk ha => ⟨(duW (gA u 0) (gA u 1) x (k + 1), jI (duC (gA u 0) (gA u 1) (k + 1))), by
    subst ha
    show RR (pv_X0 L xs) (d + 2) 62 8 _ _ _ = RR (pv_X0 L xs) (d + 2) 62 8 [some (.ref 0), some (.int x), some (.int y), some (.int (if wasB (gA u 0) (gA u 1) k = false ∧ jI (duC (gA u 0) (gA u 1) k) = x then jI k else duW (gA u 0) (gA u 1) x k)), some (.int (jI (duC (gA u 0) (gA u 1) k + (!wasB (gA u 0) (gA u 1) k).toNat))), some (.int (jI (k + 1))), none] [] (enc u)
    rw [B62_8, hN, if_neg (jI_run hk (by omega)), C_first (by omega), pv_bd_some]
    simp only [Option.toList_some, List.cons_append, List.nil_append]
    rw [B62_29]
    cases hb : wasB (gA u 0) (gA u 1) k with
    | true => simp only [reduceIte, Bool.true_eq_false, false_and, jI_succ]; rfl
    | false =>
      by_cases hi : jI (duC (gA u 0) (gA u 1) k) = x
      · simp only [Bool.false_eq_true, reduceIte, e10, hi, and_self, jI_succ]
        rw [← hi, jI_succ]
        rfl
      · simp only [Bool.false_eq_true, reduceIte, e10, hi, and_false, jI_succ]
        rfl, rfl⟩) (a0 := (-1, 0)) rfl
  subst h2
  exact h1
theorem M_duL (hN : gI u 16 = jI N) (h30 : N ≤ 30) {m : Nat} (hm : m ≤ N) (hno : ∀ k, k < m → wasB (gA u 26) (gA u 27) k = false → jI (duC (gA u 26) (gA u 27) k) ≠ x) : RR (pv_X0 L xs) (d + 2) 171 28 [some (.ref 55), some (.int x), some (.int y), some (.int 0), some (.int 0)] [] (enc u) = RR (pv_X0 L xs) (d + 2) 171 28 [some (.ref 55), some (.int x), some (.int y), some (.int (jI (duC (gA u 26) (gA u 27) m))), some (.int (jI m))] [] (enc u) := by
  obtain ⟨a, h1, h2⟩ := pv_loop (R := fun k (a : Int32) => RR (pv_X0 L xs) (d + 2) 171 28 [some (.ref 55), some (.int x), some (.int y), some (.int a), some (.int (jI k))] [] (enc u)) (P := fun k a => a = jI (duC (gA u 26) (gA u 27) k)) (N := m) (fun k a hk ha => ⟨jI (duC (gA u 26) (gA u 27) (k + 1)), by
    subst ha
    show RR (pv_X0 L xs) (d + 2) 171 28 _ _ _ = RR (pv_X0 L xs) (d + 2) 171 28 [some (.ref 55), some (.int x), some (.int y), some (.int (jI (duC (gA u 26) (gA u 27) k + (!wasB (gA u 26) (gA u 27) k).toNat))), some (.int (jI (k + 1)))] [] (enc u)
    rw [B171_28, hN, if_neg (jI_run (show k < N by omega) (by omega)), M_first (by omega), pv_bd_some]
    simp only [Option.toList_some, List.cons_append, List.nil_append]
    rw [B171_43]
    cases hb : wasB (gA u 26) (gA u 27) k with
    | true => simp only [reduceIte, jI_succ]; rfl
    | false =>
      have hi := hno k hk hb
      simp only [Bool.false_eq_true, reduceIte, e10, if_neg hi, jI_succ]
      rfl, rfl⟩) (a0 := 0) rfl
  subst h2
  exact h1
theorem P_duel (h : Inv u) : Both L xs 62 171 [some (.ref 0), some (.int x), some (.int y), none, none, none, none] [some (.ref 55), some (.int x), some (.int y), none, none] u := by
  have h0 := h
  obtain ⟨⟨b1, b2, b3, b4, b5, b6, b7, b8, b9, b10⟩, ⟨g1, g2⟩, ⟨f1, f2⟩, ⟨t1, t2, t3⟩, ⟨p1, p2, p3⟩, hL, ⟨k1, k2, k3⟩⟩ := h
  have hN := i32_nat b4.1
  have h30 : (gI u 2).toInt.toNat ≤ 30 := by omega
  have hNt : (gI u 2).toInt.toNat = (gI u 2).toInt := by omega
  have hN' := b3.symm.trans hN
  generalize (gI u 2).toInt.toNat = N at *
  have e26 : gA u 26 = gA u 0 := funext fun k => (g1 k).1.symm
  have e27 : gA u 27 = gA u 1 := funext fun k => (g1 k).2.1.symm
  have e30 : gA u 30 = gA u 4 := funext fun k => (g1 k).2.2.2.2.2.2.symm
  have hv : ∀ k, k < N → chOk (gA u 4 k) := fun k hk => (g2 k (by omega) (Or.inl (by omega))).2.2.2.2.2.2.2.2.2
  have hv' : ∀ k, k < N → chOk (gA u 30 k) := fun k hk => e30 ▸ hv k hk
  have hl := duC_le (h := gA u 0) (a := gA u 1) (n := N)
  have z1m : (-1 : Int32).toInt = -1 := rfl
  by_cases q0 : x = -1
  · subst q0
    refine ⟨.int (jI (duC (gA u 0) (gA u 1) N)), u, u, ?_, ?_, h0, rfl⟩
    · rw [B62_0, C_duL hN h30, B62_8, hN, if_pos jI_end, if_pos rfl]
    · rw [B171_0, if_neg (by decide), if_pos (by decide), M_duL hN' h30 (Nat.le_refl N) (fun k hk _ q => ?_), B171_28, hN', if_pos jI_end, if_pos rfl, e26, e27]
      have := congrArg Int32.toInt q
      have hl := duC_le (h := gA u 26) (a := gA u 27) (n := k)
      rw [jI_toInt (by omega), z1m] at this
      omega
  by_cases q1 : x.toInt < -1
  · refine ⟨.int (-1), u, u, ?_, ?_, h0, rfl⟩
    · rw [B62_0, C_duL hN h30, B62_8, hN, if_pos jI_end, if_neg q0, duW_no (fun k hk _ q => ?_), if_pos rfl]
      have := congrArg Int32.toInt q
      have hl := duC_le (h := gA u 0) (a := gA u 1) (n := k)
      rw [jI_toInt (by omega)] at this
      omega
    · rw [B171_0, if_pos (by rw [Int32.lt_iff_toInt_lt, z1m]; exact q1)]
  have q2 : 0 ≤ x.toInt := by
    have : x.toInt ≠ -1 := fun q => q0 (Int32.toInt_inj.mp (q.trans z1m.symm))
    omega
  have r1 : ¬ x < -1 := by rw [Int32.lt_iff_toInt_lt, z1m]; omega
  have r2 : ¬ x < 0 := by rw [Int32.lt_iff_toInt_lt, z0]; omega
  by_cases q3 : 0 ≤ y.toInt ∧ y.toInt ≤ 3
  case neg =>
    refine ⟨.int (-1), u, u, ?_, ?_, h0, rfl⟩
    · rw [B62_0, C_duL hN h30, B62_8, hN, if_pos jI_end, if_neg q0]
      simp only [Int32.lt_iff_toInt_lt, Int32.le_iff_toInt_le, z0, z3]
      by_cases y1 : y.toInt < 0
      · rw [if_pos y1, ite_self]
      · rw [if_neg y1, if_neg (show ¬ y.toInt ≤ 3 by omega), ite_self]
    · rw [B171_0, if_neg r1, if_neg r2, M_isInI, pv_bd_some]
      simp only [Option.toList_some, List.cons_append, List.nil_append, B171_18, ite01, y0, y3, if_neg q3, reduceIte]
  have s1 : ¬ y < 0 := by rw [Int32.lt_iff_toInt_lt, z0]; omega
  have s2 : y ≤ 3 := by rw [Int32.le_iff_toInt_le, z3]; omega
  have hM : RR (pv_X0 L xs) 99 171 0 [some (.ref 55), some (.int x), some (.int y), none, none] [] (enc u) = RR (pv_X0 L xs) 99 171 28 [some (.ref 55), some (.int x), some (.int y), some (.int 0), some (.int 0)] [] (enc u) := by
    rw [B171_0, if_neg r1, if_neg r2, M_isInI, pv_bd_some]
    simp only [Option.toList_some, List.cons_append, List.nil_append, B171_18, ite01, y0, y3, if_pos q3, e10, reduceIte]
  by_cases hit : ∃ k, k < N ∧ wasB (gA u 0) (gA u 1) k = false ∧ jI (duC (gA u 0) (gA u 1) k) = x
  case neg =>
    have hno : ∀ k, k < N → wasB (gA u 0) (gA u 1) k = false → jI (duC (gA u 0) (gA u 1) k) ≠ x := fun k h1 h2 h3 => hit ⟨k, h1, h2, h3⟩
    refine ⟨.int (-1), u, u, ?_, ?_, h0, rfl⟩
    · rw [B62_0, C_duL hN h30, B62_8, hN, if_pos jI_end, if_neg q0, duW_no hno, if_pos rfl]
    · rw [hM, M_duL hN' h30 (Nat.le_refl N) (by rw [e26, e27]; exact hno), B171_28, hN', if_pos jI_end, if_neg q0]
  obtain ⟨K, hK, hf, hc⟩ := hit
  have hlK := duC_le (h := gA u 0) (a := gA u 1) (n := K)
  have hno : ∀ k, k < K → wasB (gA u 0) (gA u 1) k = false → jI (duC (gA u 0) (gA u 1) k) ≠ x := fun k h1 h2 h3 => by
    have := duC_lt h1 h2
    rw [← hc, jI_eq (by omega) (by omega)] at h3
    omega
  have hfa : ¬ (wasB (gA u 0) (gA u 1) K = true) := by rw [hf]; decide
  have hM2 : RR (pv_X0 L xs) 99 171 0 [some (.ref 55), some (.int x), some (.int y), none, none] [] (enc u) = pv_bd (RR (pv_X0 L xs) 98 174 0 [some (.ref 55), some (.int (jI K)), some (.int y), none, none, none, none] [] (enc u)) fun v w => RR (pv_X0 L xs) 99 171 58 [some (.ref 55), some (.int x), some (.int y), some (.int (jI (duC (gA u 0) (gA u 1) K))), some (.int (jI K))] (v.toList ++ []) w := by
    rw [hM, M_duL hN' h30 (show K ≤ N by omega) (by rw [e26, e27]; exact hno), B171_28, hN', if_neg (jI_run hK (by omega)), M_first (by omega), pv_bd_some]
    simp only [Option.toList_some, List.cons_append, List.nil_append]
    rw [B171_43, e26, e27, if_neg hfa, if_neg (by decide), if_pos hc]
  have ix : ∀ F : Nat → pv_R, pv_ix (jI K) 31 F = F K := fun F => pv_ixn (by omega) (by decide)
  rcases i32_4 q3.1 q3.2 with e | e | e | e <;> subst e
  · refine ⟨.int (if gA u 1 K < gA u 0 K then gA u 1 K else gA u 0 K), u, u, ?_, ?_, h0, rfl⟩
    · rw [B62_0, C_duL hN h30, B62_8, hN, if_pos jI_end, if_neg q0, duW_hit (by omega) hK hf hc, if_neg (fun q => by have := congrArg Int32.toInt q; rw [jI_toInt (by omega), z1m] at this; omega), if_neg s1, if_pos s2, pv_ixn (by omega) (by decide), pv_ixn (by omega) (by decide), if_pos rfl]
    · rw [hM2, B174_0, ix, ix, if_neg (by decide), if_pos rfl, pv_bd_some, e26, e27]
      exact B171_58
  · refine ⟨.int (if gA u 0 K < gA u 1 K then gA u 1 K else gA u 0 K), u, u, ?_, ?_, h0, rfl⟩
    · rw [B62_0, C_duL hN h30, B62_8, hN, if_pos jI_end, if_neg q0, duW_hit (by omega) hK hf hc, if_neg (fun q => by have := congrArg Int32.toInt q; rw [jI_toInt (by omega), z1m] at this; omega), if_neg s1, if_pos s2, pv_ixn (by omega) (by decide), pv_ixn (by omega) (by decide), if_neg (by decide), if_pos rfl]
      exact B62_148
    · rw [hM2, B174_0, ix, ix, if_neg (by decide), if_neg (by decide), pv_bd_some, e26, e27]
      exact B171_58
  · have c1 := C_many (L := L) (xs := xs) (d := 97) (x := gA u 0 K) (y := gA u 1 K) hN h30 hv false
    have c2 := M_many (L := L) (xs := xs) (d := 97) (x := gA u 26 K) (y := gA u 27 K) (z := jI K) hN' h30 hv' false
    rw [if_neg (by decide)] at c1 c2
    refine ⟨.int (jI (gbt (gA u 0) (gA u 1) (gA u 4) (gA u 0 K) (gA u 1 K) false N)), u, u, ?_, ?_, h0, rfl⟩
    · rw [B62_0, C_duL hN h30, B62_8, hN, if_pos jI_end, if_neg q0, duW_hit (by omega) hK hf hc, if_neg (fun q => by have := congrArg Int32.toInt q; rw [jI_toInt (by omega), z1m] at this; omega), if_neg s1, if_pos s2, pv_ixn (by omega) (by decide), pv_ixn (by omega) (by decide), if_neg (by decide), if_neg (by decide), if_neg (by decide), c1, pv_bd_some]
      exact B62_148
    · rw [hM2, B174_0, ix, ix, if_pos (by decide), c2, pv_bd_some, e26, e27, e30]
      exact B171_58
  · have c1 := C_many (L := L) (xs := xs) (d := 97) (x := gA u 0 K) (y := gA u 1 K) hN h30 hv true
    have c2 := M_many (L := L) (xs := xs) (d := 97) (x := gA u 26 K) (y := gA u 27 K) (z := jI K) hN' h30 hv' true
    rw [if_pos rfl] at c1 c2
    refine ⟨.int (jI (gbt (gA u 0) (gA u 1) (gA u 4) (gA u 0 K) (gA u 1 K) true N)), u, u, ?_, ?_, h0, rfl⟩
    · rw [B62_0, C_duL hN h30, B62_8, hN, if_pos jI_end, if_neg q0, duW_hit (by omega) hK hf hc, if_neg (fun q => by have := congrArg Int32.toInt q; rw [jI_toInt (by omega), z1m] at this; omega), if_neg s1, if_pos s2, pv_ixn (by omega) (by decide), pv_ixn (by omega) (by decide), if_neg (by decide), if_neg (by decide), if_pos (by decide), c1, pv_bd_some]
      exact B62_148
    · rw [hM2, B174_0, ix, ix, if_pos (by decide), c2, pv_bd_some, e26, e27, e30]
      exact B171_58
end OPS10
