/-! beaten, rings (printed by wip/whole/ops/pp.py) -/
abbrev ldC (h a : Nat → Int32) (f g : Nat → Int64) (dy w v : Nat → Int32) (day x y : Int32) (k : Nat) : Int32 := if (v k = 0 ∧ ¬ day < dy k) ∧ btw h a k x y then (if h k = x then oco (f k) (g k) * w k else -(oco (f k) (g k) * w k)) else 0
abbrev ldM (h a : Nat → Int32) (f g : Nat → Int64) (dy w v : Nat → Int32) (day x y : Int32) (k : Nat) : Int32 := if (v k = 0 ∧ ¬ day < dy k) ∧ btw h a k x y ∧ wby (f k) (g k) ≠ 0 then (if (if wby (f k) (g k) = 1 then h k else a k) = x then w k else -(w k)) else 0
theorem ld_eq {h a : Nat → Int32} {f g : Nat → Int64} {dy w v : Nat → Int32} {day x y : Int32} {k : Nat} (hk : h k ≠ a k) : ldM h a f g dy w v day x y k = ldC h a f g dy w v day x y k := by
  unfold ldM ldC
  by_cases c : (v k = 0 ∧ ¬ day < dy k)
  case neg => rw [if_neg (fun q => c q.1), if_neg (fun q => c q.1)]
  by_cases b : btw h a k x y
  case neg => rw [if_neg (fun q => b q.2.1), if_neg (fun q => b q.2)]
  rw [if_pos (show _ ∧ _ from ⟨c, b⟩)]
  unfold wby oco
  by_cases h1 : g k < f k
  · have h2 : ¬ f k = g k := fun q => by rw [q] at h1; exact Int64.lt_irrefl h1
    simp only [if_pos h1, if_neg h2, Int32.one_mul, reduceIte]
    rw [if_pos (show (v k = 0 ∧ ¬ day < dy k) ∧ btw h a k x y ∧ (1 : Int32) ≠ 0 from ⟨c, b, by decide⟩)]
  · by_cases h3 : f k < g k
    · have h2 : ¬ f k = g k := fun q => by rw [q] at h3; exact Int64.lt_irrefl h3
      simp only [if_neg h1, if_pos h3, if_neg h2]
      rw [if_pos (show (v k = 0 ∧ ¬ day < dy k) ∧ btw h a k x y ∧ (2 : Int32) ≠ 0 from ⟨c, b, by decide⟩), if_neg (show ¬ (2 : Int32) = 1 by decide)]
      have e : (-1 : Int32) * w k = -(w k) := by grind
      rw [e]
      rcases b with ⟨b1, b2⟩ | ⟨b1, b2⟩
      · rw [if_neg (fun q => hk (b1.trans q.symm)), if_pos b1]
      · rw [if_pos b2, if_neg (fun q => hk (q.trans b2.symm)), Int32.neg_neg]
    · have h2 : f k = g k := Int64.toInt_inj.mp (by rw [Int64.lt_iff_toInt_lt] at h1 h3; omega)
      simp only [if_neg h1, if_neg h3, if_pos h2, Int32.zero_mul]
      rw [if_neg (show ¬ ((v k = 0 ∧ ¬ day < dy k) ∧ btw h a k x y ∧ (0 : Int32) ≠ 0) from fun q => q.2.2 rfl)]
      split
      · rfl
      · exact (by decide : (0 : Int32) = -0)
theorem ld_neg {h a : Nat → Int32} {f g : Nat → Int64} {dy w v : Nat → Int32} {day x y : Int32} {k : Nat} (hxy : x ≠ y) : ldC h a f g dy w v day y x k = -(ldC h a f g dy w v day x y k) := by
  unfold ldC
  have nz : (0 : Int32) = -0 := by decide
  by_cases c : (v k = 0 ∧ ¬ day < dy k)
  case neg => rw [if_neg (show ¬ ((v k = 0 ∧ ¬ day < dy k) ∧ btw h a k y x) from fun q => c q.1), if_neg (show ¬ ((v k = 0 ∧ ¬ day < dy k) ∧ btw h a k x y) from fun q => c q.1)]; exact nz
  by_cases b : btw h a k x y
  case neg => rw [if_neg (show ¬ ((v k = 0 ∧ ¬ day < dy k) ∧ btw h a k y x) from fun q => b (Or.comm.mp q.2)), if_neg (show ¬ ((v k = 0 ∧ ¬ day < dy k) ∧ btw h a k x y) from fun q => b q.2)]; exact nz
  rw [if_pos (show (v k = 0 ∧ ¬ day < dy k) ∧ btw h a k y x from ⟨c, Or.comm.mp b⟩), if_pos (show (v k = 0 ∧ ¬ day < dy k) ∧ btw h a k x y from ⟨c, b⟩)]
  rcases b with ⟨b1, b2⟩ | ⟨b1, b2⟩
  · rw [if_neg (fun q => hxy (b1.symm.trans q)), if_pos b1]
  · rw [if_pos b1, if_neg (fun q => hxy (q.symm.trans b1)), Int32.neg_neg]
theorem i32_13 {x : Int32} (h : wtOk x) : x = 1 ∨ x = 2 ∨ x = 3 := by
  rcases i32_4 (x := x) (by omega) h.2 with e | e | e | e
  · rw [e] at h; exact absurd h.1 (by decide)
  · exact Or.inl e
  · exact Or.inr (Or.inl e)
  · exact Or.inr (Or.inr e)
theorem ld_bd {h a : Nat → Int32} {f g : Nat → Int64} {dy w v : Nat → Int32} {day x y : Int32} {k : Nat} (hw : wtOk (w k)) : -((3 : Nat) : Int) ≤ (ldC h a f g dy w v day x y k).toInt ∧ (ldC h a f g dy w v day x y k).toInt ≤ ((3 : Nat) : Int) := by
  unfold ldC oco
  rcases i32_13 hw with e | e | e <;> rw [e] <;> (repeat' split) <;> decide
theorem i32_sgn {x : Int32} (h : -2147483648 < x.toInt) : (¬ (-x) ≤ 0 ↔ ¬ 0 ≤ x) := by
  rw [Int32.le_iff_toInt_le, Int32.le_iff_toInt_le, Int32.toInt_neg, z0]
  have := Int32.toInt_lt x
  rw [Int.bmod_eq_of_le (by omega) (by omega)]
  omega
def inF (T : Nat → Nat → Nat → Int32) (n a b : Nat) (s : Int32) : Int32 := itF (fun c s => s + T a b c) (b + 1) (n - (b + 1)) s
def miF (T : Nat → Nat → Nat → Int32) (n a : Nat) (s : Int32) : Int32 := itF (fun b s => inF T n a b s) (a + 1) (n - (a + 1)) s
def alF (T : Nat → Nat → Nat → Int32) (n : Nat) : Int32 := itF (fun a s => miF T n a s) 0 (n - 0) 0
theorem alF_congr {T S : Nat → Nat → Nat → Int32} {n : Nat} (h : ∀ a b c, a < b → b < c → c < n → T a b c = S a b c) : alF T n = alF S n := by
  refine itF_congr (fun a s h1 h2 => ?_)
  refine itF_congr (fun b s h3 h4 => ?_)
  refine itF_congr (fun c s h5 h6 => ?_)
  show s + T a b c = s + S a b c
  rw [h a b c (by omega) (by omega) (by omega)]
section OPS11
variable {L : Nat} {xs : Nat → Int32} {u : pv_U} {d k r i n N j : Nat} {x y z w : Int32}
theorem C_counts (hk : k < 31) : RR (pv_X0 L xs) d 31 0 [some (.ref 1), some (.int (jI k)), some (.int x)] [] (enc u) = some (some (.int (if gA u 4 k = 0 ∧ ¬ x < gA u 2 k then 1 else 0)), enc u) := by
  simp only [B31_0, pv_ixn hk (show 31 < 1000000 by decide)]
  grind
theorem M_counts (hN : gI u 16 = jI N) (h30 : N ≤ 30) (hk : k < 30) : RR (pv_X0 L xs) d 142 0 [some (.ref 55), some (.int (jI k)), some (.int x), some (.int y), some (.int z)] [] (enc u) = some (some (.int (if k < N ∧ ¬ jI k = y ∧ gA u 30 k = 0 ∧ ¬ x < gA u 28 k then 1 else 0)), enc u) := by
  have e : ¬ jI k = 30 := fun q => by
    have : jI k = jI 30 := q
    rw [jI_eq (by omega) (by omega)] at this
    omega
  rw [B142_0, if_neg e, hN]
  simp only [jI_le (show N < 1000000 by omega) (show k < 1000000 by omega), pv_ixn (show k < 31 by omega) (show 31 < 1000000 by decide)]
  grind
abbrev LDC (u : pv_U) (day x y : Int32) (N : Nat) : Int32 := sumN (ldC (gA u 0) (gA u 1) (gB u 0) (gB u 1) (gA u 2) (gA u 3) (gA u 4) day x y) N
abbrev LDM (u : pv_U) (day x y : Int32) (N : Nat) : Int32 := sumN (ldM (gA u 26) (gA u 27) (gB u 17) (gB u 18) (gA u 28) (gA u 29) (gA u 30) day x y) N
theorem C_lead (hN : gI u 2 = jI N) (h30 : N ≤ 30) : RR (pv_X0 L xs) (d + 1) 67 0 [some (.ref 1), some (.int z), some (.int x), some (.int y), none, none, none] [] (enc u) = some (some (.int (LDC u z x y N)), enc u) := by
  rw [B67_0]
  obtain ⟨a, h1, h2⟩ := pv_loop (R := fun k (a : Int32 × Option Value) => RR (pv_X0 L xs) (d + 1) 67 6 [some (.ref 1), some (.int z), some (.int x), some (.int y), some (.int a.1), some (.int (jI k)), a.2] [] (enc u)) (P := fun k a => a.1 = LDC u z x y k) (N := N) (fun k a hk ha => ⟨(LDC u z x y k + ldC (gA u 0) (gA u 1) (gB u 0) (gB u 1) (gA u 2) (gA u 3) (gA u 4) z x y k, if (gA u 4 k = 0 ∧ ¬ z < gA u 2 k) ∧ btw (gA u 0) (gA u 1) k x y then some (.int (oco (gB u 0 k) (gB u 1 k) * gA u 3 k)) else a.2), by
    obtain ⟨a1, a2⟩ := a
    have ha : a1 = _ := ha
    subst ha
    show RR (pv_X0 L xs) (d + 1) 67 6 _ _ _ = _
    rw [B67_6, hN, if_neg (jI_run hk (by omega)), C_counts (by omega), pv_bd_some]
    simp only [Option.toList_some, List.cons_append, List.nil_append, B67_22, ite01, C_btw (show k < 31 by omega), pv_bd_some, B67_33, C_outcome (show k < 31 by omega), B67_42, pv_ixn (show k < 31 by omega) (show 31 < 1000000 by decide), jI_succ]
    unfold ldC
    by_cases c1 : gA u 4 k = 0 ∧ ¬ z < gA u 2 k
    · by_cases c2 : btw (gA u 0) (gA u 1) k x y
      · by_cases c3 : gA u 0 k = x
        · simp only [if_pos c1, if_pos c2, if_pos c3, if_pos (show (gA u 4 k = 0 ∧ ¬ z < gA u 2 k) ∧ btw (gA u 0) (gA u 1) k x y from ⟨c1, c2⟩)]
        · simp only [if_pos c1, if_pos c2, if_neg c3, if_pos (show (gA u 4 k = 0 ∧ ¬ z < gA u 2 k) ∧ btw (gA u 0) (gA u 1) k x y from ⟨c1, c2⟩)]
      · simp only [if_pos c1, if_neg c2, if_neg (show ¬ ((gA u 4 k = 0 ∧ ¬ z < gA u 2 k) ∧ btw (gA u 0) (gA u 1) k x y) from fun q => c2 q.2), Int32.add_zero]
    · simp only [if_neg c1, if_neg (show ¬ ((gA u 4 k = 0 ∧ ¬ z < gA u 2 k) ∧ btw (gA u 0) (gA u 1) k x y) from fun q => c1 q.1), Int32.add_zero], rfl⟩) (a0 := (0, none)) rfl
  obtain ⟨a1, a2⟩ := a
  have h2 : a1 = _ := h2
  subst h2
  refine h1.trans ?_
  show RR (pv_X0 L xs) (d + 1) 67 6 _ _ _ = _
  rw [B67_6, hN, if_pos jI_end]
theorem M_ahead (hN : gI u 16 = jI N) (h30 : N ≤ 30) : RR (pv_X0 L xs) (d + 1) 176 0 [some (.ref 55), some (.int z), some (.int x), some (.int y), none, none, none] [] (enc u) = some (some (.int (LDM u z x y N)), enc u) := by
  rw [B176_0]
  obtain ⟨a, h1, h2⟩ := pv_loop (R := fun k (a : Int32 × Option Value) => RR (pv_X0 L xs) (d + 1) 176 6 [some (.ref 55), some (.int z), some (.int x), some (.int y), some (.int a.1), some (.int (jI k)), a.2] [] (enc u)) (P := fun k a => a.1 = LDM u z x y k) (N := N) (fun k a hk ha => ⟨(LDM u z x y k + ldM (gA u 26) (gA u 27) (gB u 17) (gB u 18) (gA u 28) (gA u 29) (gA u 30) z x y k, if (gA u 30 k = 0 ∧ ¬ z < gA u 28 k) ∧ btw (gA u 26) (gA u 27) k x y ∧ wby (gB u 17 k) (gB u 18 k) ≠ 0 then some (.int (if wby (gB u 17 k) (gB u 18 k) = 1 then gA u 26 k else gA u 27 k)) else a.2), by
    obtain ⟨a1, a2⟩ := a
    have ha : a1 = _ := ha
    subst ha
    have e1 : ¬ jI k = -1 := fun q => by
      have := congrArg Int32.toInt q
      rw [jI_toInt (by omega), show (-1 : Int32).toInt = -1 from rfl] at this
      omega
    show RR (pv_X0 L xs) (d + 1) 176 6 _ _ _ = _
    rw [B176_6, hN, if_neg (jI_run hk (by omega)), M_counts hN h30 (by omega), pv_bd_some]
    simp only [Option.toList_some, List.cons_append, List.nil_append, B176_24, ite01, M_btw (show k < 31 by omega), pv_bd_some, B176_35, M_wonBy (show k < 31 by omega), B176_44, B176_53, pv_ixn (show k < 31 by omega) (show 31 < 1000000 by decide), jI_succ]
    unfold ldM
    by_cases c1 : gA u 30 k = 0 ∧ ¬ z < gA u 28 k
    · simp only [if_pos (show k < N ∧ ¬ jI k = -1 ∧ gA u 30 k = 0 ∧ ¬ z < gA u 28 k from ⟨hk, e1, c1⟩)]
      by_cases c2 : btw (gA u 26) (gA u 27) k x y
      · by_cases c4 : wby (gB u 17 k) (gB u 18 k) = 0
        · simp only [if_pos c2, if_pos c4, if_neg (show ¬ ((gA u 30 k = 0 ∧ ¬ z < gA u 28 k) ∧ btw (gA u 26) (gA u 27) k x y ∧ wby (gB u 17 k) (gB u 18 k) ≠ 0) from fun q => q.2.2 c4), Int32.add_zero]
        · simp only [if_pos c2, if_neg c4, if_pos (show (gA u 30 k = 0 ∧ ¬ z < gA u 28 k) ∧ btw (gA u 26) (gA u 27) k x y ∧ wby (gB u 17 k) (gB u 18 k) ≠ 0 from ⟨c1, c2, c4⟩)]
          by_cases c5 : wby (gB u 17 k) (gB u 18 k) = 1
          · simp only [if_pos c5]
            by_cases c3 : gA u 26 k = x
            · simp only [if_pos c3]
            · simp only [if_neg c3]
          · simp only [if_neg c5]
            by_cases c3 : gA u 27 k = x
            · simp only [if_pos c3]
            · simp only [if_neg c3]
      · simp only [if_neg c2, if_neg (show ¬ ((gA u 30 k = 0 ∧ ¬ z < gA u 28 k) ∧ btw (gA u 26) (gA u 27) k x y ∧ wby (gB u 17 k) (gB u 18 k) ≠ 0) from fun q => c2 q.2.1), Int32.add_zero]
    · simp only [if_neg (show ¬ (k < N ∧ ¬ jI k = -1 ∧ gA u 30 k = 0 ∧ ¬ z < gA u 28 k) from fun q => c1 q.2.2), if_neg (show ¬ ((gA u 30 k = 0 ∧ ¬ z < gA u 28 k) ∧ btw (gA u 26) (gA u 27) k x y ∧ wby (gB u 17 k) (gB u 18 k) ≠ 0) from fun q => c1 q.1), Int32.add_zero], rfl⟩) (a0 := (0, none)) rfl
  obtain ⟨a1, a2⟩ := a
  have h2 : a1 = _ := h2
  subst h2
  refine h1.trans ?_
  show RR (pv_X0 L xs) (d + 1) 176 6 _ _ _ = _
  rw [B176_6, hN, if_pos jI_end]
theorem LD_eq (h : Inv u) (hN : gI u 2 = jI N) (h30 : N ≤ 30) : LDM u z x y N = LDC u z x y N := by
  obtain ⟨g1, g2⟩ := h.2.1
  have e : (gI u 2).toInt = N := by rw [hN, jI_toInt (by omega)]
  refine sumN_congr fun k hk => ?_
  obtain ⟨r1, r2, r3, r4, r5, r6, r7⟩ := g1 k
  have hh := (g2 k (by omega) (Or.inl (by omega))).2.2.2.2.1
  have := ld_eq (f := gB u 0) (g := gB u 1) (dy := gA u 2) (w := gA u 3) (v := gA u 4) (day := z) (x := x) (y := y) hh
  rw [← this]
  unfold ldM btw
  rw [r1, r2, r3, r4, r5, r6, r7]
theorem P_beaten (h : Inv u) : Both L xs 66 175 [some (.ref 0), some (.int z), some (.int x), some (.int y), none] [some (.ref 55), some (.int z), some (.int x), some (.int y), none] u := by
  have h0 := h
  obtain ⟨⟨b1, b2, b3, b4, b5, b6, b7, b8, b9, b10⟩, ⟨g1, g2⟩, ⟨f1, f2⟩, ⟨t1, t2, t3⟩, ⟨p1, p2, p3⟩, hL, ⟨k1, k2, k3⟩⟩ := h
  have n15 : 0 ≤ (gI u 15).toInt := by rw [← b1]; omega
  have hN := i32_nat b4.1
  have h30 : (gI u 2).toInt.toNat ≤ 30 := by omega
  have hN' := b3.symm.trans hN
  generalize (gI u 2).toInt.toNat = N at *
  by_cases q1 : dyOk z
  case neg =>
    refine ⟨.int (-1), u, u, ?_, ?_, h0, rfl⟩
    · simp only [B66_0, C_day, C_two, B66_4, B66_16, reduceIte, e10, pv_bd_some, Option.toList_some, Option.toList_none, List.cons_append, List.nil_append, List.append_nil, ite01, if_neg q1]
    · simp only [B175_0, M_day, M_two n15, B175_4, B175_13, reduceIte, e10, pv_bd_some, Option.toList_some, Option.toList_none, List.cons_append, List.nil_append, List.append_nil, ite01, ← b1, ← b3, z0, z1, z2, z3, z4, z5, z6, z7, z12, z20, z30, z99, y0, y1, y2, y3, y6, y7, y99, y15, if_neg q1]
  by_cases q2 : twoOk (gI u 1) x y
  case neg =>
    refine ⟨.int (-1), u, u, ?_, ?_, h0, rfl⟩
    · simp only [B66_0, C_day, C_two, B66_4, B66_16, reduceIte, e10, pv_bd_some, Option.toList_some, Option.toList_none, List.cons_append, List.nil_append, List.append_nil, ite01, if_pos q1, if_neg q2]
    · simp only [B175_0, M_day, M_two n15, B175_4, B175_13, reduceIte, e10, pv_bd_some, Option.toList_some, Option.toList_none, List.cons_append, List.nil_append, List.append_nil, ite01, ← b1, ← b3, z0, z1, z2, z3, z4, z5, z6, z7, z12, z20, z30, z99, y0, y1, y2, y3, y6, y7, y99, y15, if_pos q1, if_neg q2]
  refine ⟨.int (if LDC u z x y N = 0 then -5 else if LDC u z x y N ≤ 0 then y else x), u, u, ?_, ?_, h0, rfl⟩
  · simp only [B66_0, C_day, C_two, B66_4, B66_16, reduceIte, e10, pv_bd_some, Option.toList_some, Option.toList_none, List.cons_append, List.nil_append, List.append_nil, ite01, if_pos q1, if_pos q2, C_lead hN h30, B66_31]
    split
    · rfl
    · split <;> rfl
  · simp only [B175_0, M_day, M_two n15, B175_4, B175_13, reduceIte, e10, pv_bd_some, Option.toList_some, Option.toList_none, List.cons_append, List.nil_append, List.append_nil, ite01, ← b1, if_pos q1, if_pos q2, M_ahead hN' h30, B175_25, LD_eq h0 hN h30]
    split
    · rfl
    · split <;> rfl
abbrev rgC (u : pv_U) (day : Int32) (N : Nat) (x y z : Int32) : Prop := ¬ LDC u day x y N ≤ 0 ∧ ¬ LDC u day y z N ≤ 0 ∧ ¬ LDC u day z x N ≤ 0
abbrev rgM (u : pv_U) (day : Int32) (N : Nat) (x y z : Int32) : Prop := (¬ LDM u day x y N ≤ 0 ∧ ¬ LDM u day y z N ≤ 0 ∧ ¬ LDM u day z x N ≤ 0) ∨ (¬ 0 ≤ LDM u day x y N ∧ ¬ 0 ≤ LDM u day y z N ∧ ¬ 0 ≤ LDM u day z x N)
theorem C_ring (hN : gI u 2 = jI N) (h30 : N ≤ 30) {day : Int32} : RR (pv_X0 L xs) (d + 2) 69 0 [some (.ref 1), some (.int day), some (.int x), some (.int y), some (.int z)] [] (enc u) = some (some (.int (if rgC u day N x y z then 1 else 0)), enc u) := by
  simp only [B69_0, C_lead hN h30, pv_bd_some, Option.toList_some, List.cons_append, List.nil_append, B69_7, B69_18, B69_29, rgC]
  grind
theorem C_ringsI (hN : gI u 2 = jI N) (h30 : N ≤ 30) (hn : gI u 1 = jI n) (h6 : n ≤ 6) {day : Int32} {a b : Nat} (hb : b < n) (s : Int32) : RR (pv_X0 L xs) (d + 3) 68 47 [some (.ref 0), some (.int day), some (.int s), some (.int (jI a)), some (.int (jI b)), some (.int (jI (b + 1)))] [] (enc u) = RR (pv_X0 L xs) (d + 3) 68 47 [some (.ref 0), some (.int day), some (.int (inF (fun a b c => if rgC u day N (jI a) (jI b) (jI c) ∨ rgC u day N (jI c) (jI b) (jI a) then 1 else 0) n a b s)), some (.int (jI a)), some (.int (jI b)), some (.int (jI n))] [] (enc u) := by
  obtain ⟨_, h1⟩ := pv_it (R := fun k (s : Int32) (_ : Unit) => RR (pv_X0 L xs) (d + 3) 68 47 [some (.ref 0), some (.int day), some (.int s), some (.int (jI a)), some (.int (jI b)), some (.int (jI k))] [] (enc u)) (f := fun c s => s + (fun a b c => if rgC u day N (jI a) (jI b) (jI c) ∨ rgC u day N (jI c) (jI b) (jI a) then 1 else 0) a b c) (s := b + 1) (N := n) (by omega) (fun k s j h1 h2 => ⟨j, by
    show RR (pv_X0 L xs) (d + 3) 68 47 _ _ _ = _
    rw [B68_47, hn, if_neg (jI_run h2 (by omega)), C_ring hN h30, pv_bd_some]
    simp only [Option.toList_some, List.cons_append, List.nil_append, B68_73, ite01, C_ring hN h30, pv_bd_some, B68_89, jI_succ, Int32.add_zero]
    by_cases c1 : rgC u day N (jI a) (jI b) (jI k)
    · rw [if_pos c1, if_pos (Or.inl c1)]
    · by_cases c2 : rgC u day N (jI k) (jI b) (jI a)
      · rw [if_neg c1, if_pos c2, if_pos (Or.inr c2)]
      · rw [if_neg c1, if_neg c2, if_neg (fun q => q.elim c1 c2), Int32.add_zero]⟩) s ()
  exact h1
theorem C_ringsM (hN : gI u 2 = jI N) (h30 : N ≤ 30) (hn : gI u 1 = jI n) (h6 : n ≤ 6) {day : Int32} {a : Nat} (ha : a < n) (s : Int32) (j : Option Value) : ∃ j', RR (pv_X0 L xs) (d + 3) 68 29 [some (.ref 0), some (.int day), some (.int s), some (.int (jI a)), some (.int (jI (a + 1))), j] [] (enc u) = RR (pv_X0 L xs) (d + 3) 68 29 [some (.ref 0), some (.int day), some (.int (miF (fun a b c => if rgC u day N (jI a) (jI b) (jI c) ∨ rgC u day N (jI c) (jI b) (jI a) then 1 else 0) n a s)), some (.int (jI a)), some (.int (jI n)), j'] [] (enc u) :=
  pv_it (R := fun k (s : Int32) (j : Option Value) => RR (pv_X0 L xs) (d + 3) 68 29 [some (.ref 0), some (.int day), some (.int s), some (.int (jI a)), some (.int (jI k)), j] [] (enc u)) (f := fun b s => inF (fun a b c => if rgC u day N (jI a) (jI b) (jI c) ∨ rgC u day N (jI c) (jI b) (jI a) then 1 else 0) n a b s) (s := a + 1) (N := n) (by omega) (fun k s j h1 h2 => ⟨some (.int (jI n)), by
    show RR (pv_X0 L xs) (d + 3) 68 29 _ _ _ = _
    rw [B68_29, hn, if_neg (jI_run h2 (by omega)), jI_succ, C_ringsI hN h30 hn h6 h2, B68_47, hn, if_pos jI_end, jI_succ]⟩) s j
theorem C_rings (hN : gI u 2 = jI N) (h30 : N ≤ 30) (hn : gI u 1 = jI n) (h6 : n ≤ 6) {day : Int32} : RR (pv_X0 L xs) (d + 3) 68 13 [some (.ref 0), some (.int day), some (.int 0), some (.int 0), none, none] [] (enc u) = some (some (.int (alF (fun a b c => if rgC u day N (jI a) (jI b) (jI c) ∨ rgC u day N (jI c) (jI b) (jI a) then 1 else 0) n)), enc u) := by
  obtain ⟨⟨j1, j2⟩, h1⟩ := pv_it (R := fun k (s : Int32) (j : Option Value × Option Value) => RR (pv_X0 L xs) (d + 3) 68 13 [some (.ref 0), some (.int day), some (.int s), some (.int (jI k)), j.1, j.2] [] (enc u)) (f := fun a s => miF (fun a b c => if rgC u day N (jI a) (jI b) (jI c) ∨ rgC u day N (jI c) (jI b) (jI a) then 1 else 0) n a s) (s := 0) (N := n) (by omega) (fun k s j h1 h2 => by
    obtain ⟨j', hj⟩ := C_ringsM (L := L) (xs := xs) (d := d) hN h30 hn h6 (day := day) h2 s j.2
    refine ⟨(some (.int (jI n)), j'), ?_⟩
    show RR (pv_X0 L xs) (d + 3) 68 13 _ _ _ = _
    rw [B68_13, hn, if_neg (jI_run h2 (by omega)), jI_succ, hj, B68_29, hn, if_pos jI_end, jI_succ]) 0 (none, none)
  refine h1.trans ?_
  show RR (pv_X0 L xs) (d + 3) 68 13 _ _ _ = _
  rw [B68_13, hn, if_pos jI_end]
  rfl
theorem M_ringsI (hN : gI u 16 = jI N) (h30 : N ≤ 30) (hn : gI u 15 = jI n) (h6 : n ≤ 6) {day : Int32} {a b : Nat} (hb : b < n) (s : Int32) (j : Option Value × Option Value × Option Value) : ∃ j' : Option Value × Option Value × Option Value, RR (pv_X0 L xs) (d + 2) 177 41 [some (.ref 55), some (.int day), some (.int s), some (.int (jI a)), some (.int (jI b)), some (.int (jI (b + 1))), j.1, j.2.1, j.2.2] [] (enc u) = RR (pv_X0 L xs) (d + 2) 177 41 [some (.ref 55), some (.int day), some (.int (inF (fun a b c => if rgM u day N (jI a) (jI b) (jI c) then 1 else 0) n a b s)), some (.int (jI a)), some (.int (jI b)), some (.int (jI n)), j'.1, j'.2.1, j'.2.2] [] (enc u) :=
  pv_it (R := fun k (s : Int32) (j : Option Value × Option Value × Option Value) => RR (pv_X0 L xs) (d + 2) 177 41 [some (.ref 55), some (.int day), some (.int s), some (.int (jI a)), some (.int (jI b)), some (.int (jI k)), j.1, j.2.1, j.2.2] [] (enc u)) (f := fun c s => s + (fun a b c => if rgM u day N (jI a) (jI b) (jI c) then 1 else 0) a b c) (s := b + 1) (N := n) (by omega) (fun k s j h1 h2 => ⟨(some (.int (LDM u day (jI a) (jI b) N)), some (.int (LDM u day (jI b) (jI k) N)), some (.int (LDM u day (jI k) (jI a) N))), by
    show RR (pv_X0 L xs) (d + 2) 177 41 _ _ _ = _
    rw [B177_41, hn, if_neg (jI_run h2 (by omega)), M_ahead hN h30, pv_bd_some]
    simp only [Option.toList_some, List.cons_append, List.nil_append, B177_58, B177_69, M_ahead hN h30, pv_bd_some]
    rw [B177_79]
    simp only [jI_succ, Int32.add_zero]
    by_cases x1 : LDM u day (jI a) (jI b) N ≤ 0 <;> by_cases x2 : 0 ≤ LDM u day (jI a) (jI b) N <;> by_cases y1 : LDM u day (jI b) (jI k) N ≤ 0 <;> by_cases y2 : 0 ≤ LDM u day (jI b) (jI k) N <;> by_cases w1 : LDM u day (jI k) (jI a) N ≤ 0 <;> by_cases w2 : 0 ≤ LDM u day (jI k) (jI a) N <;> simp only [rgM, x1, x2, y1, y2, w1, w2, ← Int32.not_le, not_true_eq_false, not_false_eq_true, and_true, true_and, and_false, false_and, or_true, true_or, or_false, false_or, and_self, or_self, reduceIte, Int32.add_zero]⟩) s j
theorem M_ringsM (hN : gI u 16 = jI N) (h30 : N ≤ 30) (hn : gI u 15 = jI n) (h6 : n ≤ 6) {day : Int32} {a : Nat} (ha : a < n) (s : Int32) (j : Option Value × Option Value × Option Value × Option Value) : ∃ j' : Option Value × Option Value × Option Value × Option Value, RR (pv_X0 L xs) (d + 2) 177 26 [some (.ref 55), some (.int day), some (.int s), some (.int (jI a)), some (.int (jI (a + 1))), j.1, j.2.1, j.2.2.1, j.2.2.2] [] (enc u) = RR (pv_X0 L xs) (d + 2) 177 26 [some (.ref 55), some (.int day), some (.int (miF (fun a b c => if rgM u day N (jI a) (jI b) (jI c) then 1 else 0) n a s)), some (.int (jI a)), some (.int (jI n)), j'.1, j'.2.1, j'.2.2.1, j'.2.2.2] [] (enc u) :=
  pv_it (R := fun k (s : Int32) (j : Option Value × Option Value × Option Value × Option Value) => RR (pv_X0 L xs) (d + 2) 177 26 [some (.ref 55), some (.int day), some (.int s), some (.int (jI a)), some (.int (jI k)), j.1, j.2.1, j.2.2.1, j.2.2.2] [] (enc u)) (f := fun b s => inF (fun a b c => if rgM u day N (jI a) (jI b) (jI c) then 1 else 0) n a b s) (s := a + 1) (N := n) (by omega) (fun k s j h1 h2 => by
    obtain ⟨j', hj⟩ := M_ringsI (L := L) (xs := xs) (d := d) hN h30 hn h6 (day := day) (a := a) h2 s j.2
    refine ⟨(some (.int (jI n)), j'), ?_⟩
    show RR (pv_X0 L xs) (d + 2) 177 26 _ _ _ = _
    rw [B177_26, hn, if_neg (jI_run h2 (by omega)), jI_succ, hj, B177_41, hn, if_pos jI_end, jI_succ]) s j
theorem M_rings (hN : gI u 16 = jI N) (h30 : N ≤ 30) (hn : gI u 15 = jI n) (h6 : n ≤ 6) {day : Int32} : RR (pv_X0 L xs) (d + 2) 177 13 [some (.ref 55), some (.int day), some (.int 0), some (.int 0), none, none, none, none, none] [] (enc u) = some (some (.int (alF (fun a b c => if rgM u day N (jI a) (jI b) (jI c) then 1 else 0) n)), enc u) := by
  obtain ⟨⟨j1, j2, j3, j4, j5⟩, h1⟩ := pv_it (R := fun k (s : Int32) (j : Option Value × Option Value × Option Value × Option Value × Option Value) => RR (pv_X0 L xs) (d + 2) 177 13 [some (.ref 55), some (.int day), some (.int s), some (.int (jI k)), j.1, j.2.1, j.2.2.1, j.2.2.2.1, j.2.2.2.2] [] (enc u)) (f := fun a s => miF (fun a b c => if rgM u day N (jI a) (jI b) (jI c) then 1 else 0) n a s) (s := 0) (N := n) (by omega) (fun k s j h1 h2 => by
    obtain ⟨j', hj⟩ := M_ringsM (L := L) (xs := xs) (d := d) hN h30 hn h6 (day := day) h2 s j.2
    refine ⟨(some (.int (jI n)), j'), ?_⟩
    show RR (pv_X0 L xs) (d + 2) 177 13 _ _ _ = _
    rw [B177_13, hn, if_neg (jI_run h2 (by omega)), jI_succ, hj, B177_26, hn, if_pos jI_end, jI_succ]) 0 (none, none, none, none, none)
  refine h1.trans ?_
  show RR (pv_X0 L xs) (d + 2) 177 13 _ _ _ = _
  rw [B177_13, hn, if_pos jI_end]
  rfl
theorem P_rings (h : Inv u) : Both L xs 68 177 [some (.ref 0), some (.int z), none, none, none, none] [some (.ref 55), some (.int z), none, none, none, none, none, none, none] u := by
  have h0 := h
  obtain ⟨⟨b1, b2, b3, b4, b5, b6, b7, b8, b9, b10⟩, ⟨g1, g2⟩, ⟨f1, f2⟩, ⟨t1, t2, t3⟩, ⟨p1, p2, p3⟩, hL, ⟨k1, k2, k3⟩⟩ := h
  have hN := i32_nat b4.1
  have h30 : (gI u 2).toInt.toNat ≤ 30 := by omega
  have hNt : (gI u 2).toInt.toNat = (gI u 2).toInt := by omega
  have hN' := b3.symm.trans hN
  generalize (gI u 2).toInt.toNat = N at *
  have hn := i32_nat (show 0 ≤ (gI u 1).toInt by omega)
  have h6 : (gI u 1).toInt.toNat ≤ 6 := by omega
  have hn' := b1.symm.trans hn
  generalize (gI u 1).toInt.toNat = n at *
  by_cases q1 : dyOk z
  case neg =>
    refine ⟨.int (-1), u, u, ?_, ?_, h0, rfl⟩
    · simp only [B68_0, C_day, B68_4, reduceIte, e10, pv_bd_some, Option.toList_some, Option.toList_none, List.cons_append, List.nil_append, List.append_nil, ite01, if_neg q1]
    · simp only [B177_0, M_day, B177_4, reduceIte, e10, pv_bd_some, Option.toList_some, Option.toList_none, List.cons_append, List.nil_append, List.append_nil, ite01, ← b1, ← b3, z0, z1, z2, z3, z4, z5, z6, z7, z12, z20, z30, z99, y0, y1, y2, y3, y6, y7, y99, y15, if_neg q1]
  refine ⟨.int (alF (fun a b c => if rgC u z N (jI a) (jI b) (jI c) ∨ rgC u z N (jI c) (jI b) (jI a) then 1 else 0) n), u, u, ?_, ?_, h0, rfl⟩
  · simp only [B68_0, C_day, B68_4, reduceIte, e10, pv_bd_some, Option.toList_some, Option.toList_none, List.cons_append, List.nil_append, List.append_nil, ite01, if_pos q1, C_rings hN h30 hn h6]
  · simp only [B177_0, M_day, B177_4, reduceIte, e10, pv_bd_some, Option.toList_some, Option.toList_none, List.cons_append, List.nil_append, List.append_nil, ite01, if_pos q1, M_rings hN' h30 hn' h6]
    refine congrArg (fun q : Int32 => some (some (Value.int q), enc u)) (alF_congr fun a b c hab hbc hcn => ?_)
    have hw : ∀ k, k < N → wtOk (gA u 3 k) := fun k hk => (g2 k (by omega) (Or.inl (by omega))).2.2.2.2.2.2.2.2.1
    have ng : ∀ x y : Nat, x < n → y < n → x ≠ y → LDC u z (jI y) (jI x) N = -(LDC u z (jI x) (jI y) N) := fun x y hx hy hxy => sumN_neg fun k hk => ld_neg (fun q => hxy ((jI_eq (by omega) (by omega)).mp q))
    have bd : ∀ x y : Int32, -2147483648 < (LDC u z x y N).toInt := fun x y => by
      have : -((N * 3 : Nat) : Int) ≤ (LDC u z x y N).toInt := (sumN_bd (B := 3) (f := ldC (gA u 0) (gA u 1) (gB u 0) (gB u 1) (gA u 2) (gA u 3) (gA u 4) z x y) (n := N) (by omega) (fun k hk => ld_bd (hw k hk))).1
      omega
    have s1 := i32_sgn (bd (jI a) (jI b))
    have s2 := i32_sgn (bd (jI b) (jI c))
    have s3 := i32_sgn (bd (jI c) (jI a))
    unfold rgM rgC
    simp only [LD_eq h0 hN h30]
    rw [ng b c (by omega) (by omega) (by omega), ng a b (by omega) (by omega) (by omega), ng c a (by omega) (by omega) (by omega)]
    simp only [s1, s2, s3]
    grind
end OPS11
