/-! spell (printed by wip/whole/ops/pp.py) -/
abbrev jL (k : Nat) : Int64 := Int64.ofNat k
theorem jL_toInt {k : Nat} (h : k < 9223372036854775808) : (jL k).toInt = k := Int64.toInt_ofNat_of_lt (by omega)
theorem i64_nat {x : Int64} (h : 0 ≤ x.toInt) : x = jL x.toInt.toNat := by
  apply Int64.toInt_inj.mp
  have h2 := Int64.toInt_lt x
  rw [jL_toInt (by omega)]
  omega
theorem jI_div {a b : Nat} (ha : a < 1000000) (hb : b < 1000000) : jI a / jI b = jI (a / b) := by
  apply Int32.toInt_inj.mp
  have h1 : a / b ≤ a := Nat.div_le_self a b
  rw [Int32.toInt_div, jI_toInt (by omega), jI_toInt (by omega), jI_toInt (by omega), ← Int.ofNat_tdiv]
  generalize a / b = q at *
  rw [Int.bmod_eq_of_le (by omega) (by omega)]
theorem jL_div {a b : Nat} (ha : a < 1000000) (hb : b < 1000000) : jL a / jL b = jL (a / b) := by
  apply Int64.toInt_inj.mp
  have h1 : a / b ≤ a := Nat.div_le_self a b
  rw [Int64.toInt_div, jL_toInt (by omega), jL_toInt (by omega), jL_toInt (by omega), ← Int.ofNat_tdiv]
  generalize a / b = q at *
  rw [Int.bmod_eq_of_le (by omega) (by omega)]
theorem jL_add {a b : Nat} : jL a + jL b = jL (a + b) := (Int64.ofNat_add a b).symm
theorem jL_mul {a b : Nat} : jL a * jL b = jL (a * b) := (Int64.ofNat_mul a b).symm
theorem jL_sub {a b : Nat} (h : b ≤ a) : jL a - jL b = jL (a - b) := by
  have e : jL a = jL (a - b) + jL b := by rw [jL_add, show a - b + b = a by omega]
  rw [e]
  grind
theorem jI_64 {k : Nat} (h : k < 1000000) : (jI k).toInt64 = jL k := by
  apply Int64.toInt_inj.mp
  rw [Int32.toInt_toInt64, jI_toInt (by omega), jL_toInt (by omega)]
theorem jL_32 {k : Nat} : (jL k).toInt32 = jI k := Int64.toInt32_ofNat'
/-- a number's figures -/
def dg (m : Nat) : List Int32 := (if 1000 ≤ m then [jI (48 + m / 1000 % 10)] else []) ++ ((if 100 ≤ m then [jI (48 + m / 100 % 10)] else []) ++ ((if 10 ≤ m then [jI (48 + m / 10 % 10)] else []) ++ [jI (48 + m % 10)]))
theorem dg_lt {m : Nat} (h : m < 10) : dg m = [jI (48 + m)] := by
  unfold dg
  rw [if_neg (by omega), if_neg (by omega), if_neg (by omega), show m % 10 = m by omega]
  rfl
theorem dg_ge {m : Nat} (h : 10 ≤ m) (h2 : m < 10000) : dg m = dg (m / 10) ++ [jI (48 + m % 10)] := by
  unfold dg
  rw [if_neg (show ¬ 1000 ≤ m / 10 by omega), if_pos h]
  by_cases h3 : 1000 ≤ m
  · rw [if_pos h3, if_pos (show 100 ≤ m by omega), if_pos (show 100 ≤ m / 10 by omega), if_pos (show 10 ≤ m / 10 by omega), show m / 10 / 100 = m / 1000 by omega, show m / 10 / 10 = m / 100 by omega]
    rfl
  · rw [if_neg h3]
    by_cases h4 : 100 ≤ m
    · rw [if_pos h4, if_neg (show ¬ 100 ≤ m / 10 by omega), if_pos (show 10 ≤ m / 10 by omega), show m / 10 / 10 = m / 100 by omega]
      rfl
    · rw [if_neg h4, if_neg (show ¬ 100 ≤ m / 10 by omega), if_neg (show ¬ 10 ≤ m / 10 by omega)]
      rfl
theorem dg_len1 {m : Nat} (h : m < 10) : (dg m).length = 1 := by rw [dg_lt h]; rfl
theorem dg_len2 {m : Nat} (h : m < 100) : (dg m).length ≤ 2 := by
  by_cases h1 : m < 10
  · rw [dg_len1 h1]; omega
  · rw [dg_ge (by omega) (by omega), List.length_append, dg_len1 (by omega)]
    exact Nat.le_refl 2
theorem dg_len4 {m : Nat} : (dg m).length ≤ 4 := by
  unfold dg
  (repeat' split) <;> exact Nat.le_of_ble_eq_true rfl
def ppC (u : pv_U) (l : List Int32) : pv_U := uI (cA u 24 0 l.length (fun k => l.getD k 0)) 14 (jI l.length)
def ppM (u : pv_U) (l : List Int32) : pv_U := uI (cA u 34 0 l.length (fun k => l.getD k 0)) 23 (jI l.length)
/-- a GAME as a text behind another (b) or as the first -/
def gmT (b : Bool) (h a f g dy w : Nat) : List Int32 := (if b = true then [59] else []) ++ (dg h ++ ([45] ++ (dg a ++ ([58] ++ (dg f ++ ([45] ++ (dg g ++ ([64] ++ (dg dy ++ (if w = 1 then [] else [120] ++ dg w))))))))))
theorem gmT_len {b : Bool} {h a f g dy w : Nat} (hh : h < 10) (ha : a < 10) (hd : dy < 100) (hw : w < 10) : (gmT b h a f g dy w).length ≤ 19 := by
  have l1 := dg_len1 hh
  have l2 := dg_len1 ha
  have l3 := dg_len4 (m := f)
  have l4 := dg_len4 (m := g)
  have l5 := dg_len2 hd
  have l6 := dg_len1 hw
  unfold gmT
  cases b <;> by_cases e : w = 1 <;> simp only [e, reduceIte, Bool.false_eq_true, List.length_append, List.length_cons, List.length_nil] <;> omega
section SPELL
variable {L : Nat} {xs : Nat → Int32} {u : pv_U} {d k n N : Nat} {x y z : Int32} {l : List Int32}
theorem getD_push {b : Int32} {j : Nat} (h : j ≤ l.length) : (l ++ [b]).getD j 0 = if j < l.length then l.getD j 0 else b := by
  by_cases q : j < l.length
  · rw [if_pos q, List.getD_eq_getElem?_getD, List.getD_eq_getElem?_getD, List.getElem?_append_left q]
  · rw [if_neg q]
    have e : j = l.length := by omega
    subst e
    rw [List.getD_eq_getElem?_getD, List.getElem?_append_right (Nat.le_refl _), Nat.sub_self]
    rfl
theorem ppC_push {b : Int32} : uI (uA (ppC u l) 24 l.length b) 14 (jI l.length + 1) = ppC u (l ++ [b]) := by
  have e : (l ++ [b]).length = l.length + 1 := by rw [List.length_append]; rfl
  unfold ppC
  rw [e, jI_succ]
  refine pv_ext (fun j => ?_) (fun _ => rfl) (fun q j => ?_) (fun _ _ => rfl)
  · simp only [gI_uI, gI_uA, gI_cA]
    grind
  · simp only [gA_uI, gA_uA, gA_cA, Nat.sub_zero]
    by_cases h1 : q = 24
    · simp only [if_pos h1]
      by_cases h2 : j ≤ l.length
      · rw [getD_push h2]
        grind
      · grind
    · simp only [if_neg h1]
theorem ppM_push {b : Int32} : uI (uA (ppM u l) 34 l.length b) 23 (jI l.length + 1) = ppM u (l ++ [b]) := by
  have e : (l ++ [b]).length = l.length + 1 := by rw [List.length_append]; rfl
  unfold ppM
  rw [e, jI_succ]
  refine pv_ext (fun j => ?_) (fun _ => rfl) (fun q j => ?_) (fun _ _ => rfl)
  · simp only [gI_uI, gI_uA, gI_cA]
    grind
  · simp only [gA_uI, gA_uA, gA_cA, Nat.sub_zero]
    by_cases h1 : q = 34
    · simp only [if_pos h1]
      by_cases h2 : j ≤ l.length
      · rw [getD_push h2]
        grind
      · grind
    · simp only [if_neg h1]
theorem gI_ppC {j : Nat} : gI (ppC u l) j = if j = 14 then jI l.length else gI u j := by
  unfold ppC
  rw [gI_uI, gI_cA]
theorem gI_ppM {j : Nat} : gI (ppM u l) j = if j = 23 then jI l.length else gI u j := by
  unfold ppM
  rw [gI_uI, gI_cA]
theorem gA_ppC {q j : Nat} (h : ¬ q = 24) : gA (ppC u l) q j = gA u q j := by
  unfold ppC
  rw [gA_uI, gA_cA, if_neg h]
theorem gA_ppM {q j : Nat} (h : ¬ q = 34) : gA (ppM u l) q j = gA u q j := by
  unfold ppM
  rw [gA_uI, gA_cA, if_neg h]
theorem C_write {m : Nat} (hl : l.length < 570) (hm : m < 128) : RR (pv_X0 L xs) d 106 0 [some (.ref 46), some (.int (jI m))] [] (enc (ppC u l)) = some (none, enc (ppC u (l ++ [jI m]))) := by
  have e : gI (ppC u l) 14 = jI l.length := by rw [gI_ppC, if_pos rfl]
  rw [B106_0, e, if_neg (run_lit (c := 570) (N := 570) rfl hl (by omega)), pv_ixn hl (by decide), byte_id m hm, ppC_push]
theorem M_write (hl : l.length < 700) : RR (pv_X0 L xs) d 201 0 [some (.ref 55), some (.int x)] [] (enc (ppM u l)) = some (none, enc (ppM u (l ++ [x]))) := by
  have e : gI (ppM u l) 23 = jI l.length := by rw [gI_ppM, if_pos rfl]
  rw [B201_0, e, pv_ixn hl (by decide), ppM_push]
theorem C_unit {m U : Nat} (hl : U ≤ m → l.length < 570) (hm : m < 10000) (hU : 1 < U) (hU2 : U ≤ 1000) : RR (pv_X0 L xs) (d + 1) 107 4 [some (.ref 46), some (.int (jI m)), some (.int (jI U))] [] (enc (ppC u l)) = RR (pv_X0 L xs) (d + 1) 107 4 [some (.ref 46), some (.int (jI m)), some (.int (jI (U / 10)))] [] (enc (ppC u (l ++ if U ≤ m then [jI (48 + m / U % 10)] else []))) := by
  have nU : ∀ c : Nat, c ≤ 1 → ¬ jI U = jI c := fun c hc => by rw [jI_eq (by omega) (by omega)]; omega
  have dU : jI U / 10 = jI (U / 10) := jI_div (b := 10) (by omega) (by omega)
  have hd : m / U ≤ m := Nat.div_le_self m U
  have d1 : jI m / jI U = jI (m / U) := jI_div (by omega) (by omega)
  have d2 : jI (m / U) / 10 = jI (m / U / 10) := jI_div (b := 10) (by omega) (by omega)
  have d3 : jI (m / U / 10) * 10 = jI (m / U / 10 * 10) := jI_mul (b := 10)
  have d4 : (48 : Int32) + jI (m / U % 10) = jI (48 + m / U % 10) := jI_add (a := 48)
  have d5 : jI (m / U) - jI (m / U / 10 * 10) = jI (m / U % 10) := by
    rw [jI_sub (by omega)]
    exact congrArg jI (by omega)
  rw [B107_4, if_neg (show ¬ jI U ≤ 0 by show ¬ jI U ≤ jI 0; rw [jI_le (by omega) (by omega)]; omega)]
  by_cases q : U ≤ m
  · rw [if_pos (show jI U ≤ jI m by rw [jI_le (by omega) (by omega)]; exact q), if_neg (show ¬ jI U = 0 from nU 0 (by omega)), d1, d2, d3, d5, d4, C_write (hl q) (by omega), pv_bd_some, if_pos q]
    refine B107_31.trans ?_
    rw [dU]
  · rw [if_neg (show ¬ jI U ≤ jI m by rw [jI_le (by omega) (by omega)]; exact q), if_neg (show ¬ jI U = 1 from nU 1 (by omega)), if_neg q, List.append_nil]
    refine B107_31.trans ?_
    rw [dU]
theorem C_last {m : Nat} (hl : l.length < 570) (hm : m < 10000) : RR (pv_X0 L xs) (d + 1) 107 4 [some (.ref 46), some (.int (jI m)), some (.int (jI 1))] [] (enc (ppC u l)) = some (none, enc (ppC u (l ++ [jI (48 + m % 10)]))) := by
  have d1 : jI m / jI 1 = jI m := by rw [jI_div (by omega) (by omega), Nat.div_one]
  have d2 : jI m / 10 = jI (m / 10) := jI_div (b := 10) (by omega) (by omega)
  have d3 : jI (m / 10) * 10 = jI (m / 10 * 10) := jI_mul (b := 10)
  have d4 : (48 : Int32) + jI (m % 10) = jI (48 + m % 10) := jI_add (a := 48)
  have d5 : jI m - jI (m / 10 * 10) = jI (m % 10) := by
    rw [jI_sub (by omega)]
    exact congrArg jI (by omega)
  have w := C_write (L := L) (xs := xs) (u := u) (d := d) (m := 48 + m % 10) hl (by omega)
  have fin : RR (pv_X0 L xs) (d + 1) 107 31 [some (.ref 46), some (.int (jI m)), some (.int (jI 1))] [] (enc (ppC u (l ++ [jI (48 + m % 10)]))) = some (none, enc (ppC u (l ++ [jI (48 + m % 10)]))) := by
    rw [B107_31, B107_4, if_pos (by decide)]
  rw [B107_4, if_neg (show ¬ jI 1 ≤ 0 by decide), if_pos (show jI 1 = 1 by decide), if_neg (show ¬ jI 1 = 0 by decide), d1, d2, d3, d5, d4, w, pv_bd_some, ite_self]
  exact fin
theorem C_writeNumber {m : Nat} (hl : l.length + (dg m).length ≤ 570) (hm : m < 10000) : RR (pv_X0 L xs) (d + 1) 107 0 [some (.ref 46), some (.int (jI m)), none] [] (enc (ppC u l)) = some (none, enc (ppC u (l ++ dg m))) := by
  have ed : (dg m).length = (if 1000 ≤ m then [jI (48 + m / 1000 % 10)] else []).length + ((if 100 ≤ m then [jI (48 + m / 100 % 10)] else []).length + ((if 10 ≤ m then [jI (48 + m / 10 % 10)] else []).length + 1)) := by
    unfold dg
    rw [List.length_append, List.length_append, List.length_append]
    rfl
  rw [B107_0]
  refine (C_unit (U := 1000) (fun _ => by omega) hm (by omega) (by omega)).trans ?_
  refine (C_unit (U := 100) (fun _ => by rw [List.length_append]; omega) hm (by omega) (by omega)).trans ?_
  refine (C_unit (U := 10) (fun _ => by rw [List.length_append, List.length_append]; omega) hm (by omega) (by omega)).trans ?_
  refine (C_last (by rw [List.length_append, List.length_append, List.length_append]; omega) hm).trans ?_
  unfold dg
  rw [List.append_assoc, List.append_assoc, List.append_assoc]
theorem M_num17 {m : Nat} (hm : m < 10000) (h : l.length < 700) : RR (pv_X0 L xs) (d + 1) 202 17 [some (.ref 55), some (.long (jL m)), none] [] (enc (ppM u l)) = some (none, enc (ppM u (l ++ [jI (48 + m % 10)]))) := by
  have d2 : jL m / 10 = jL (m / 10) := jL_div (b := 10) (by omega) (by omega)
  have d3 : jL (m / 10) * 10 = jL (m / 10 * 10) := jL_mul (b := 10)
  have d4 : (48 : Int64) + jL (m % 10) = jL (48 + m % 10) := jL_add (a := 48)
  have d5 : jL m - jL (m / 10 * 10) = jL (m % 10) := by
    rw [jL_sub (by omega)]
    exact congrArg jL (by omega)
  rw [B202_17, d2, d3, d5, d4, jL_32, M_write h, pv_bd_some]
  exact B202_31
theorem M_writeNumber {j m : Nat} (hj : j ≤ 3) (hl : l.length + 4 ≤ 600) (hm : m < 10 ^ (j + 1)) : RR (pv_X0 L xs) (d + j + 1) 202 0 [some (.ref 55), some (.long (jL m)), none] [] (enc (ppM u l)) = some (none, enc (ppM u (l ++ dg m))) := by
  induction j generalizing m l d with
  | zero =>
    have h10 : m < 10 := hm
    have l9 : (9 : Int64) < jL m ↔ 9 < m := by
      rw [Int64.lt_iff_toInt_lt, jL_toInt (by omega), show (9 : Int64).toInt = 9 from rfl]
      omega
    rw [B202_0]
    simp only [lg_le]
    rw [if_pos (show ¬ 9 < jL m by rw [l9]; omega), dg_lt h10]
    refine (M_num17 (by omega) (by omega)).trans ?_
    rw [show m % 10 = m by omega]
  | succ j ih =>
    have hp : (10 : Nat) ^ (j + 1 + 1) ≤ 10 ^ 4 := Nat.pow_le_pow_right (by decide) (by omega)
    have d2 : jL m / 10 = jL (m / 10) := jL_div (b := 10) (by omega) (by omega)
    have l9 : (9 : Int64) < jL m ↔ 9 < m := by
      rw [Int64.lt_iff_toInt_lt, jL_toInt (by omega), show (9 : Int64).toInt = 9 from rfl]
      omega
    rw [B202_0]
    simp only [lg_le]
    by_cases q : 9 < m
    · have e : 10 ^ (j + 1 + 1) = 10 ^ (j + 1) * 10 := Nat.pow_succ ..
      have l4 := dg_len4 (m := m / 10)
      rw [if_neg (show ¬ ¬ 9 < jL m by rw [l9]; omega), d2]
      have := ih (m := m / 10) (l := l) (d := d) (by omega) hl (by omega)
      rw [show d + (j + 1) = d + j + 1 by omega, this, pv_bd_some]
      refine (M_num17 (by omega) (by rw [List.length_append]; omega)).trans ?_
      rw [dg_ge (m := m) (by omega) (by omega), List.append_assoc]
    · rw [if_pos (show ¬ 9 < jL m by rw [l9]; omega), dg_lt (by omega)]
      refine (M_num17 (by omega) (by omega)).trans ?_
      rw [show m % 10 = m by omega]
end SPELL
