/-! list, told, image, undo (printed by wip/whole/ops/p58.py and pp.py) -/
theorem pv_ext {a b : pv_U} (h1 : ∀ i, gI a i = gI b i) (h2 : ∀ i, gJ a i = gJ b i) (h3 : ∀ i j, gA a i j = gA b i j) (h4 : ∀ i j, gB a i j = gB b i j) : a = b := by
  obtain ⟨a1, a2, a3, a4⟩ := a
  obtain ⟨b1, b2, b3, b4⟩ := b
  have e1 : a1 = b1 := funext h1
  have e2 : a2 = b2 := funext h2
  have e3 : a3 = b3 := funext fun i => funext (h3 i)
  have e4 : a4 = b4 := funext fun i => funext (h4 i)
  rw [e1, e2, e3, e4]
theorem jI_le {a b : Nat} (ha : a < 1000000) (hb : b < 1000000) : jI a ≤ jI b ↔ a ≤ b := by
  rw [Int32.le_iff_toInt_le, jI_toInt (by omega), jI_toInt (by omega)]
  omega
theorem jI_lt {a b : Nat} (ha : a < 1000000) (hb : b < 1000000) : jI a < jI b ↔ a < b := by
  rw [Int32.lt_iff_toInt_lt, jI_toInt (by omega), jI_toInt (by omega)]
  omega
theorem jI_eq {a b : Nat} (ha : a < 1000000) (hb : b < 1000000) : jI a = jI b ↔ a = b := by
  rw [← Int32.toInt_inj, jI_toInt (by omega), jI_toInt (by omega)]
  omega
theorem nar01 {x : Int32} (h : chOk x) : vp_nar .boolean x = x := by
  rcases i32_01 h with e | e <;> subst e <;> rfl
/-- n entries of a row from i on, out of f -/
def cA (u : pv_U) (r i n : Nat) (f : Nat → Int32) : pv_U := (u.1, u.2.1, fun q j => if q = r ∧ i ≤ j ∧ j < i + n then f (j - i) else u.2.2.1 q j, u.2.2.2)
def cB (u : pv_U) (r i n : Nat) (f : Nat → Int64) : pv_U := (u.1, u.2.1, u.2.2.1, fun q j => if q = r ∧ i ≤ j ∧ j < i + n then f (j - i) else u.2.2.2 q j)
section OPS6
variable {L : Nat} {xs : Nat → Int32} {u : pv_U} {d k r i n q j : Nat} {x y z w : Int32} {f : Nat → Int32} {g : Nat → Int64}
theorem gI_cA : gI (cA u r i n f) j = gI u j := rfl
theorem gJ_cA : gJ (cA u r i n f) j = gJ u j := rfl
theorem gB_cA : gB (cA u r i n f) q j = gB u q j := rfl
theorem gA_cA : gA (cA u r i n f) q j = if q = r then (if i ≤ j ∧ j < i + n then f (j - i) else gA u q j) else gA u q j := by
  show (if q = r ∧ i ≤ j ∧ j < i + n then f (j - i) else u.2.2.1 q j) = (if q = r then (if i ≤ j ∧ j < i + n then f (j - i) else u.2.2.1 q j) else u.2.2.1 q j)
  grind
theorem gI_cB : gI (cB u r i n g) j = gI u j := rfl
theorem gJ_cB : gJ (cB u r i n g) j = gJ u j := rfl
theorem gA_cB : gA (cB u r i n g) q j = gA u q j := rfl
theorem gB_cB : gB (cB u r i n g) q j = if q = r then (if i ≤ j ∧ j < i + n then g (j - i) else gB u q j) else gB u q j := by
  show (if q = r ∧ i ≤ j ∧ j < i + n then g (j - i) else u.2.2.2 q j) = (if q = r then (if i ≤ j ∧ j < i + n then g (j - i) else u.2.2.2 q j) else u.2.2.2 q j)
  grind
theorem cA_zero : cA u r i 0 f = u := by
  refine pv_ext (fun _ => rfl) (fun _ => rfl) (fun q j => ?_) (fun _ _ => rfl)
  rw [gA_cA]
  grind
theorem cB_zero : cB u r i 0 g = u := by
  refine pv_ext (fun _ => rfl) (fun _ => rfl) (fun _ _ => rfl) (fun q j => ?_)
  rw [gB_cB]
  grind
theorem cA_succ : uA (cA u r i n f) r (i + n) (f n) = cA u r i (n + 1) f := by
  refine pv_ext (fun _ => rfl) (fun _ => rfl) (fun q j => ?_) (fun _ _ => rfl)
  rw [gA_uA, gA_cA, gA_cA]
  grind
theorem cB_succ : uB (cB u r i n g) r (i + n) (g n) = cB u r i (n + 1) g := by
  refine pv_ext (fun _ => rfl) (fun _ => rfl) (fun _ _ => rfl) (fun q j => ?_)
  rw [gB_uB, gB_cB, gB_cB]
  grind
/-! list -/
theorem C_hold {K n : Nat} (hK : K < 4) (hn : n ≤ 20) : RR (pv_X0 L xs) d 115 0 [some (.ref 48), some (.int (jI K)), some (.int (jI n)), none] [] (enc u) = some (none, enc (zB (uA u 25 K (jI n)) (13 + K) 0 n)) := by
  rw [B115_0, pv_ixn hK (by decide)]
  obtain ⟨a, h1, h2⟩ := pv_loop (R := fun k a => RR (pv_X0 L xs) d 115 9 [some (.ref 48), some (.int (jI K)), some (.int (jI n)), some (.int (jI k))] [] (enc a)) (P := fun k a => a = zB (uA u 25 K (jI n)) (13 + K) 0 k) (N := n) (fun k a hk ha => ⟨zB (uA u 25 K (jI n)) (13 + K) 0 (k + 1), by
    subst ha
    show RR (pv_X0 L xs) d 115 9 _ _ _ = _
    rw [B115_9, if_neg (by rw [jI_le (by omega) (by omega)]; omega), B115_19 hK, pv_ixn (by omega) (by decide), jI_succ]
    rw [← zB_succ, Nat.zero_add], rfl⟩) (a0 := uA u 25 K (jI n)) zB_zero.symm
  subst h2
  refine h1.trans ?_
  show RR (pv_X0 L xs) d 115 9 _ _ _ = _
  rw [B115_9, if_pos (by rw [jI_le (by omega) (by omega)]; omega)]
theorem M_hold {K : Nat} (hK : K < 4) : RR (pv_X0 L xs) d 207 34 [some (.ref 55), some (.int (jI K)), some (.int x), some (.int 0)] [] (enc u) = some (some (.int 1), enc (zB u 24 (20 * K) 20)) := by
  obtain ⟨a, h1, h2⟩ := pv_loop (R := fun k a => RR (pv_X0 L xs) d 207 34 [some (.ref 55), some (.int (jI K)), some (.int x), some (.int (jI k))] [] (enc a)) (P := fun k a => a = zB u 24 (20 * K) k) (N := 20) (fun k a hk ha => ⟨zB u 24 (20 * K) (k + 1), by
    subst ha
    have em : (20 : Int32) * jI K + jI k = jI (20 * K + k) := by
      rw [← jI_add, ← jI_mul]
      rfl
    show RR (pv_X0 L xs) d 207 34 _ _ _ = _
    rw [B207_34, if_neg (by show ¬ jI 20 ≤ jI k; rw [jI_le (by omega) (by omega)]; omega), em, pv_ixn (by omega) (by decide), jI_succ]
    rw [← zB_succ], rfl⟩) (a0 := u) zB_zero.symm
  subst h2
  refine h1.trans ?_
  show RR (pv_X0 L xs) d 207 34 _ _ _ = _
  rw [B207_34, if_pos (by decide)]
theorem P_list (h : Inv u) : Both L xs 113 207 [some (.ref 0), some (.int x), some (.int y)] [some (.ref 55), some (.int x), some (.int y), none] u := by
  have h0 := h
  obtain ⟨⟨b1, b2, b3, b4, b5, b6, b7, b8, b9, b10⟩, ⟨g1, g2⟩, ⟨f1, f2⟩, ⟨t1, t2, t3⟩, ⟨p1, p2, p3⟩, hL, ⟨k1, k2, k3⟩⟩ := h
  by_cases q1 : liOk x
  case neg =>
    refine ⟨.int (-1), u, u, ?_, ?_, h0, rfl⟩
    · simp only [B113_0, C_list, B113_4, reduceIte, e10, pv_bd_some, Option.toList_some, Option.toList_none, List.cons_append, List.nil_append, List.append_nil, ite01, if_neg q1]
    · simp only [B207_0, M_list, B207_4, reduceIte, e10, pv_bd_some, Option.toList_some, Option.toList_none, List.cons_append, List.nil_append, List.append_nil, ite01, ← b1, ← b3, z0, z1, z2, z3, z4, z5, z6, z7, z12, z20, z30, z99, y0, y1, y2, y3, y6, y7, y99, y15, if_neg q1]
  by_cases q2 : y ≤ 20
  case neg =>
    refine ⟨.int (-2), u, u, ?_, ?_, h0, rfl⟩
    · simp only [B113_0, C_list, B113_4, reduceIte, e10, pv_bd_some, Option.toList_some, Option.toList_none, List.cons_append, List.nil_append, List.append_nil, ite01, if_pos q1, if_neg q2]
    · simp only [B207_0, M_list, B207_4, reduceIte, e10, pv_bd_some, Option.toList_some, Option.toList_none, List.cons_append, List.nil_append, List.append_nil, ite01, if_pos q1, if_neg q2]
  by_cases q3 : 0 ≤ y
  case neg =>
    refine ⟨.int (-14), u, u, ?_, ?_, h0, rfl⟩
    · simp only [B113_0, C_list, B113_4, reduceIte, e10, pv_bd_some, Option.toList_some, Option.toList_none, List.cons_append, List.nil_append, List.append_nil, ite01, if_pos q1, if_pos q2, if_neg q3]
    · simp only [B207_0, M_list, B207_4, reduceIte, e10, pv_bd_some, Option.toList_some, Option.toList_none, List.cons_append, List.nil_append, List.append_nil, ite01, if_pos q1, if_pos q2, if_neg q3]
  have ek : x = jI x.toInt.toNat := i32_nat q1.1
  have hk : x.toInt.toNat < 4 := by omega
  generalize x.toInt.toNat = K at *
  subst ek
  have q3' := q3
  have q2' := q2
  rw [Int32.le_iff_toInt_le, z0] at q3'
  rw [Int32.le_iff_toInt_le, z20] at q2'
  have ey : y = jI y.toInt.toNat := i32_nat q3'
  have hn : y.toInt.toNat ≤ 20 := by omega
  generalize y.toInt.toNat = n at *
  subst ey
  have en : (jI n).toInt = n := jI_toInt (by omega)
  have ix : ∀ F : Nat → pv_R, pv_ix (jI K) 4 F = F K := fun F => pv_ixn hk (by decide)
  refine ⟨.int 1, zB (uA u 25 K (jI n)) (13 + K) 0 n, zB (uA (zB (uA u 25 K (jI n)) (13 + K) 0 n) 35 K (jI n)) 24 (20 * K) 20, ?_, ?_, ?_, rfl⟩
  · simp only [B113_0, C_list, B113_4, reduceIte, e10, pv_bd_some, Option.toList_some, Option.toList_none, List.cons_append, List.nil_append, List.append_nil, ite01, if_pos q1, if_pos q2, if_pos q3, C_hold hk hn, B113_34]
  · simp only [B207_0, M_list, B207_4, reduceIte, e10, pv_bd_some, Option.toList_some, Option.toList_none, List.cons_append, List.nil_append, List.append_nil, ite01, if_pos q1, if_pos q2, if_pos q3, ix, M_hold hk]
  · refine Inv_lists h0 rfl rfl (fun r j h1 h2 => ?_) (fun r j hr => ?_) (invL_mk fun l hl => ?_)
    · rw [gA_zB, gA_uA, if_neg h2, gA_zB, gA_uA, if_neg h1]
    · rw [gB_zB, if_neg (by omega), gB_uA, gB_zB, if_neg (by omega), gB_uA]
    · obtain ⟨m1, m2, m3⟩ := invL_at hL hl
      have hm := m2.2
      by_cases e : l = K
      · subst e
        refine ⟨?_, ?_, fun k hk => ?_⟩
        · simp only [gA_zB, gA_uA, Nat.reduceEqDiff, reduceIte]
        · simp only [gA_zB, gA_uA, Nat.reduceEqDiff, reduceIte]
          rw [inR, en]
          omega
        · simp only [gA_zB, gA_uA, Nat.reduceEqDiff, reduceIte, en] at hk
          rw [gB_zB, if_neg (by omega), gB_uA, gB_zB, if_pos (by omega), gB_zB, if_pos (by omega)]
      · refine ⟨?_, ?_, fun k hk => ?_⟩
        · simp only [gA_zB, gA_uA, Nat.reduceEqDiff, reduceIte, if_neg e]
          exact m1
        · simp only [gA_zB, gA_uA, Nat.reduceEqDiff, reduceIte, if_neg e]
          exact m2
        · simp only [gA_zB, gA_uA, Nat.reduceEqDiff, reduceIte, if_neg e] at hk
          rw [gB_zB, if_neg (by omega), gB_uA, gB_zB, if_neg (by omega), gB_uA, gB_zB, if_neg (by omega), gB_uA, gB_zB, if_neg (by omega), gB_uA]
          exact m3 k hk
/-! told -/
def sV (u : pv_U) : Nat → Int32
  | 0 => 0
  | k + 1 => sV u k + gA u 4 k
def mD (u : pv_U) : Nat → Int32
  | 0 => -1
  | k + 1 => if mD u k < gA u 2 k then gA u 2 k else mD u k
def cntN (p : Nat → Bool) : Nat → Nat
  | 0 => 0
  | k + 1 => cntN p k + (p k).toNat
def anyN (p : Nat → Bool) : Nat → Bool
  | 0 => false
  | k + 1 => anyN p k || p k
theorem cntN_le {p : Nat → Bool} : cntN p n ≤ n := by
  induction n with
  | zero => exact Nat.le_refl _
  | succ n ih =>
    unfold cntN
    have := Bool.toNat_le (p n)
    omega
theorem cntN_or {p : Nat → Bool} {e n : Nat} : cntN (fun x => p x || decide (x = e)) n = cntN p n + (if e < n ∧ p e = false then 1 else 0) := by
  induction n with
  | zero => rfl
  | succ n ih =>
    unfold cntN
    rw [ih]
    by_cases he : n = e
    · subst he
      cases h : p n <;> simp [h]
    · have : decide (n = e) = false := decide_eq_false he
      rw [this, Bool.or_false]
      grind
theorem cntN_congr {p q : Nat → Bool} {n : Nat} (h : ∀ k, k < n → p k = q k) : cntN p n = cntN q n := by
  induction n with
  | zero => rfl
  | succ n ih =>
    unfold cntN
    rw [ih (fun k hk => h k (by omega)), h n (by omega)]
theorem anyN_iff {p : Nat → Bool} {n : Nat} : anyN p n = true ↔ ∃ k, k < n ∧ p k = true := by
  induction n with
  | zero => exact ⟨fun h => (nomatch h), fun ⟨k, hk, _⟩ => absurd hk (by omega)⟩
  | succ n ih =>
    unfold anyN
    rw [Bool.or_eq_true, ih]
    constructor
    · rintro (⟨k, h1, h2⟩ | h)
      · exact ⟨k, by omega, h2⟩
      · exact ⟨n, by omega, h⟩
    · rintro ⟨k, h1, h2⟩
      by_cases e : k = n
      · subst e; exact Or.inr h2
      · exact Or.inl ⟨k, by omega, h2⟩
/-- as many values as first places of values -/
theorem cnt_days {v : Nat → Nat} {N : Nat} (h : ∀ k, k < N → v k < 100) : cntN (fun g => !(anyN (fun e => decide (v e = v g)) g)) N = cntN (fun day => anyN (fun g => decide (v g = day)) N) 100 := by
  induction N with
  | zero => exact ((by decide : cntN (fun day => anyN (fun g => false) 0) 100 = 0)).symm
  | succ N ih =>
    unfold cntN
    rw [ih (fun k hk => h k (by omega))]
    have e : cntN (fun day => anyN (fun g => decide (v g = day)) (N + 1)) 100 = cntN (fun day => (anyN (fun g => decide (v g = day)) N) || decide (day = v N)) 100 := by
      refine cntN_congr fun k _ => ?_
      show (_ || decide (v N = k)) = _
      rw [decide_eq_decide.mpr (eq_comm (a := v N) (b := k))]
    have e2 := e.trans cntN_or
    have hN := h N (by omega)
    refine Eq.trans ?_ e2.symm
    cases hb : anyN (fun e => decide (v e = v N)) N <;> simp [hN]

end OPS6
