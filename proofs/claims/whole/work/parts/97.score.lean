/-! score (printed by wip/whole/ops/pp.py) -/
def c3 (a b : Int64) : Nat := if b < a then 2 else if a = b then 1 else 0
def gpt (u : pv_U) (day : Int32) (t g : Nat) : Nat := if gA u 4 g = 0 ∧ ¬ day < gA u 2 g then (if gA u 0 g = jI t then c3 (gB u 0 g) (gB u 1 g) else if gA u 1 g = jI t then c3 (gB u 1 g) (gB u 0 g) else 0) else 0
def fpt (u : pv_U) (V : Nat → Int64) (t f : Nat) : Nat := if gA u 5 f = jI t then c3 (V (ixN (gA u 5 f))) (V (ixN (gA u 6 f))) else if gA u 6 f = jI t then c3 (V (ixN (gA u 6 f))) (V (ixN (gA u 5 f))) else 0
def scT (u : pv_U) (day : Int32) (V : Nat → Int64) (N F t : Nat) : Nat := sN (gpt u day t) N + sN (fpt u V t) F
/-- u but the scores -/
def sfr (a b : pv_U) : Prop := (∀ i, gI b i = gI a i) ∧ (∀ i, gJ b i = gJ a i) ∧ (∀ r, ¬ r = 22 → gA b r = gA a r) ∧ ∀ r, gB b r = gB a r
theorem sfr_refl {a : pv_U} : sfr a a := ⟨fun _ => rfl, fun _ => rfl, fun _ _ => rfl, fun _ => rfl⟩
theorem sfr_trans {a b c : pv_U} (h : sfr a b) (g : sfr b c) : sfr a c := ⟨fun i => (g.1 i).trans (h.1 i), fun i => (g.2.1 i).trans (h.2.1 i), fun r hr => (g.2.2.1 r hr).trans (h.2.2.1 r hr), fun r => (g.2.2.2 r).trans (h.2.2.2 r)⟩
theorem sfr_A {a b : pv_U} {k : Nat} {v : Int32} (h : sfr a b) : sfr a (uA b 22 k v) := ⟨h.1, h.2.1, fun r hr => Eq.trans (funext fun m => by rw [gA_uA, if_neg hr]) (h.2.2.1 r hr), h.2.2.2⟩
theorem sfr_scr {u a b : pv_U} (s : scr u a) (m : sfr a b) : scr u b := ⟨fun i hi => (m.1 i).trans (s.1 i hi), fun i hi => (m.2.1 i).trans (s.2.1 i hi), fun r hr => (m.2.2.1 r (by omega)).trans (s.2.2.1 r hr), fun r hr => (m.2.2.2 r).trans (s.2.2.2 r hr)⟩
theorem c3_le {a b : Int64} : c3 a b ≤ 2 := by
  unfold c3
  split
  · omega
  · split <;> omega
section SCORE
variable {L : Nat} {xs : Nat → Int32} {u v a b c : pv_U} {d k n N F i j r q S C p t H A : Nat} {x y z w m day lo w4 e1 e2 : Int32} {M M2 : Nat → Nat → Int} {bl det : Int64} {mt : Nat → Nat → Nat} {pl : Nat → Nat} {R R2 : Nat → Int64} {V : Nat → Int64} {o : Nat → Nat} {wg : Bool} {T : Nat → Nat}
theorem gpt_le : gpt u day t k ≤ 2 := by
  unfold gpt
  split
  · split
    · exact c3_le
    · split
      · exact c3_le
      · omega
  · omega
theorem fpt_le : fpt u V t k ≤ 2 := by
  unfold fpt
  split
  · exact c3_le
  · split
    · exact c3_le
    · omega
theorem scT_le (h30 : N ≤ 30) (h12 : F ≤ 12) : scT u day V N F t ≤ 84 := by
  have h1 : sN (gpt u day t) N ≤ N * 2 := sN_le (fun k _ => gpt_le)
  have h2 : sN (fpt u V t) F ≤ F * 2 := sN_le (fun k _ => fpt_le)
  unfold scT
  omega
theorem oc3 {p q : Int64} : 1 + oco p q = jI (c3 p q) ∧ 1 - oco p q = jI (c3 q p) := by
  unfold oco c3
  by_cases e : p = q
  · subst e
    simp only [reduceIte, Int64.lt_irrefl]
    decide
  · simp only [if_neg e, if_neg (fun q => e (Eq.symm q))]
    by_cases l : q < p
    · have : ¬ p < q := by rw [Int64.lt_iff_toInt_lt] at *; omega
      simp only [if_pos l, if_neg this]
      decide
    · have : p < q := by
        rw [← Int64.toInt_inj] at e
        rw [Int64.lt_iff_toInt_lt] at *
        omega
      simp only [if_neg l, if_pos this]
      decide
theorem cm3 {p q : Int64} : 1 + (if p < q then (-1 : Int32) else if p = q then 0 else 1) = jI (c3 p q) ∧ 1 - (if p < q then (-1 : Int32) else if p = q then 0 else 1) = jI (c3 q p) := by
  unfold c3
  by_cases e : p = q
  · subst e
    simp only [reduceIte, Int64.lt_irrefl]
    decide
  · simp only [if_neg e, if_neg (fun q => e (Eq.symm q))]
    by_cases l : q < p
    · have : ¬ p < q := by rw [Int64.lt_iff_toInt_lt] at *; omega
      simp only [if_pos l, if_neg this]
      decide
    · have : p < q := by
        rw [← Int64.toInt_inj] at e
        rw [Int64.lt_iff_toInt_lt] at *
        omega
      simp only [if_neg l, if_pos this]
      decide
theorem two22 (h : ∀ t, t < n → gA b 22 t = jI (T t)) (hH : H < n) (hA : A < n) (hHA : H ≠ A) {p1 p2 : Nat} (h1 : e1 = jI p1) (h2 : e2 = jI p2) (ht : t < n) : gA (uA (uA b 22 H (gA b 22 H + e1)) 22 A (gA (uA b 22 H (gA b 22 H + e1)) 22 A + e2)) 22 t = jI (T t + (if H = t then p1 else if A = t then p2 else 0)) := by
  simp only [gA_uA, reduceIte]
  by_cases f : t = A
  · subst f
    rw [if_pos rfl, if_neg (fun e => hHA e.symm), if_neg hHA, if_pos rfl, h t ht, h2, jI_add]
  · rw [if_neg f]
    by_cases g : t = H
    · subst g
      rw [if_pos rfl, if_pos rfl, h t ht, h1, jI_add]
    · rw [if_neg g, if_neg (fun e => g e.symm), if_neg (fun e => f e.symm)]
      exact h t ht
theorem C_tell1 (h : Inv u) (hn6 : n ≤ 6) (h30 : N ≤ 30) (hn : gI u 1 = jI n) (hN : gI u 2 = jI N) (s : scr u a) (h0 : ∀ t, t < n → gA a 22 t = 0) : ∃ b x5, RR (pv_X0 L xs) (d + 1) 73 29 [some (.ref 41), some (.ref 1), some (.ref 22), some (.int day), some (.int 0), none, none, none] [] (enc a) = RR (pv_X0 L xs) (d + 1) 73 103 [some (.ref 41), some (.ref 1), some (.ref 22), some (.int day), some (.int 0), x5, none, none] [] (enc b) ∧ sfr a b ∧ ∀ t, t < n → gA b 22 t = jI (sN (gpt u day t) N) := by
  obtain ⟨⟨x5, b⟩, h1, h2, h3⟩ := pv_loop (R := fun k (t : Option Value × pv_U) => RR (pv_X0 L xs) (d + 1) 73 29 [some (.ref 41), some (.ref 1), some (.ref 22), some (.int day), some (.int (jI k)), t.1, none, none] [] (enc t.2)) (P := fun k t => sfr a t.2 ∧ ∀ q, q < n → gA t.2 22 q = jI (sN (gpt u day q) k)) (N := N) (fun k t hk ht => by
    obtain ⟨x5, b⟩ := t
    obtain ⟨f, g⟩ := ht
    have f : sfr a b := f
    have g : ∀ q, q < n → gA b 22 q = jI (sN (gpt u day q) k) := g
    have sb := sfr_scr s f
    have eN : gI b 2 = jI N := (sb.1 2 (by decide)).trans hN
    have a0 : gA b 0 = gA u 0 := sb.2.2.1 0 (by decide)
    have a1 : gA b 1 = gA u 1 := sb.2.2.1 1 (by decide)
    have a2 : gA b 2 = gA u 2 := sb.2.2.1 2 (by decide)
    have a4 : gA b 4 = gA u 4 := sb.2.2.1 4 (by decide)
    have b0 : gB b 0 = gB u 0 := sb.2.2.2 0 (by decide)
    have b1 : gB b 1 = gB u 1 := sb.2.2.2 1 (by decide)
    obtain ⟨H, A, hH, hA, hHA, eH, eA⟩ := gm_of h hn6 hn hN h30 hk
    by_cases c1 : gA u 4 k = 0 ∧ ¬ day < gA u 2 k
    · refine ⟨(some (.int (oco (gB u 0 k) (gB u 1 k))), uA (uA b 22 H (gA b 22 H + (1 + oco (gB u 0 k) (gB u 1 k)))) 22 A (gA (uA b 22 H (gA b 22 H + (1 + oco (gB u 0 k) (gB u 1 k)))) 22 A + (1 - oco (gB u 0 k) (gB u 1 k)))), ?_, sfr_A (sfr_A f), fun q hq => ?_⟩
      · show RR (pv_X0 L xs) (d + 1) 73 29 _ _ _ = _
        rw [B73_29, eN, if_neg (jI_run hk (by omega)), C_counts (by omega), pv_bd_some]
        simp only [Option.toList_some, List.cons_append, List.nil_append]
        rw [B73_45, ite01, a4, a2, if_pos c1, C_outcome (by omega), pv_bd_some, b0, b1]
        simp only [Option.toList_some, List.cons_append, List.nil_append]
        have i1 : ∀ F : Nat → pv_R, pv_ix (jI k) 31 F = F k := fun F => pv_ixn (by omega) (by decide)
        have i2 : ∀ F : Nat → pv_R, pv_ix (jI H) 6 F = F H := fun F => pv_ixn (by omega) (by decide)
        have i3 : ∀ F : Nat → pv_R, pv_ix (jI A) 6 F = F A := fun F => pv_ixn (by omega) (by decide)
        have a1' : ∀ v, gA (uA b 22 H v) 1 k = jI A := fun v => by
          rw [gA_uA, if_neg (by decide), a1, eA]
        rw [B73_54]
        simp only [i1, a0, eH, i2, a1', i3, jI_succ]
      · show gA (uA (uA b 22 H _) 22 A _) 22 q = jI (sN (gpt u day q) k + gpt u day q k)
        rw [two22 g hH hA hHA oc3.1 oc3.2 hq]
        unfold gpt
        rw [if_pos c1, eH, eA]
        simp only [jI_eq (show H < 1000000 by omega) (show q < 1000000 by omega), jI_eq (show A < 1000000 by omega) (show q < 1000000 by omega)]
    · refine ⟨(x5, b), ?_, f, fun q hq => ?_⟩
      · show RR (pv_X0 L xs) (d + 1) 73 29 _ _ _ = _
        rw [B73_29, eN, if_neg (jI_run hk (by omega)), C_counts (by omega), pv_bd_some]
        simp only [Option.toList_some, List.cons_append, List.nil_append]
        rw [B73_45, ite01, a4, a2, if_neg c1, jI_succ]
      · show gA b 22 q = jI (sN (gpt u day q) k + gpt u day q k)
        rw [show gpt u day q k = 0 from if_neg c1]
        exact g q hq) (a0 := (none, a)) ⟨sfr_refl, fun t ht => h0 t ht⟩
  refine ⟨b, x5, h1.trans ?_, h2, h3⟩
  show RR (pv_X0 L xs) (d + 1) 73 29 _ _ _ = _
  rw [B73_29, ((sfr_scr s h2).1 2 (by decide)).trans hN, if_pos jI_end]
theorem fx_of (h : Inv u) (hn6 : n ≤ 6) (hn : gI u 1 = jI n) (hF : gI u 3 = jI F) (h12 : F ≤ 12) (hk : k < F) : ∃ H A, H < n ∧ A < n ∧ H ≠ A ∧ gA u 5 k = jI H ∧ gA u 6 k = jI A := by
  have eN : (gI u 3).toInt = F := by rw [hF, jI_toInt (by omega)]
  have en : (gI u 1).toInt = n := by rw [hn, jI_toInt (by omega)]
  obtain ⟨w1, w2, w3, w4, w5⟩ := h.2.2.1.2 k (by omega)
  have eh := i32_nat w1
  have ea := i32_nat w3
  exact ⟨_, _, by omega, by omega, fun q => w5 (by rw [eh, ea, q]), eh, ea⟩
theorem C_tell2 (h : Inv u) (hn6 : n ≤ 6) (hn : gI u 1 = jI n) (hF : gI u 3 = jI F) (h12 : F ≤ 12) (s : scr u a) (hV : ∀ i, i < n → gB a 11 i = V i) (h0 : ∀ t, t < n → gA a 22 t = jI (T t)) (y5 : Option Value) : ∃ b, RR (pv_X0 L xs) (d + 1) 73 103 [some (.ref 41), some (.ref 1), some (.ref 22), some (.int day), some (.int 0), y5, none, none] [] (enc a) = some (none, enc b) ∧ sfr a b ∧ ∀ t, t < n → gA b 22 t = jI (T t + sN (fpt u V t) F) := by
  obtain ⟨⟨x5, x6, x7, b⟩, h1, h2, h3⟩ := pv_loop (R := fun k (t : Option Value × Option Value × Option Value × pv_U) => RR (pv_X0 L xs) (d + 1) 73 103 [some (.ref 41), some (.ref 1), some (.ref 22), some (.int day), some (.int (jI k)), t.1, t.2.1, t.2.2.1] [] (enc t.2.2.2)) (P := fun k t => sfr a t.2.2.2 ∧ ∀ q, q < n → gA t.2.2.2 22 q = jI (T q + sN (fpt u V q) k)) (N := F) (fun k t hk ht => by
    obtain ⟨x5, x6, x7, b⟩ := t
    obtain ⟨f, g⟩ := ht
    have f : sfr a b := f
    have g : ∀ q, q < n → gA b 22 q = jI (T q + sN (fpt u V q) k) := g
    have sb := sfr_scr s f
    have eN : gI b 3 = jI F := (sb.1 3 (by decide)).trans hF
    have a0 : gA b 5 = gA u 5 := sb.2.2.1 5 (by decide)
    have a1 : gA b 6 = gA u 6 := sb.2.2.1 6 (by decide)
    obtain ⟨H, A, hH, hA, hHA, eH, eA⟩ := fx_of h hn6 hn hF h12 hk
    have i1 : ∀ F : Nat → pv_R, pv_ix (jI k) 12 F = F k := fun F => pv_ixn (by omega) (by decide)
    have i2 : ∀ F : Nat → pv_R, pv_ix (jI H) 6 F = F H := fun F => pv_ixn (by omega) (by decide)
    have i3 : ∀ F : Nat → pv_R, pv_ix (jI A) 6 F = F A := fun F => pv_ixn (by omega) (by decide)
    refine ⟨(some (.int (jI H)), some (.int (jI A)), some (.int (if V H < V A then (-1 : Int32) else if V H = V A then 0 else 1)), uA (uA b 22 H (gA b 22 H + (1 + (if V H < V A then (-1 : Int32) else if V H = V A then 0 else 1)))) 22 A (gA (uA b 22 H (gA b 22 H + (1 + (if V H < V A then (-1 : Int32) else if V H = V A then 0 else 1)))) 22 A + (1 - (if V H < V A then (-1 : Int32) else if V H = V A then 0 else 1)))), ?_, sfr_A (sfr_A f), fun q hq => ?_⟩
    · show RR (pv_X0 L xs) (d + 1) 73 103 _ _ _ = _
      rw [B73_103, eN, if_neg (jI_run hk (by omega))]
      simp only [i1, a0, a1, eH, eA, i2, i3, f.2.2.2 11, hV H hH, hV A hA]
      rw [C_compare, pv_bd_some]
      simp only [Option.toList_some, List.cons_append, List.nil_append]
      rw [B73_147]
      simp only [i2, i3, jI_succ]
    · show gA (uA (uA b 22 H _) 22 A _) 22 q = jI (T q + (sN (fpt u V q) k + fpt u V q k))
      rw [two22 g hH hA hHA cm3.1 cm3.2 hq]
      unfold fpt
      rw [eH, eA, ixN_jI (by omega), ixN_jI (by omega)]
      simp only [jI_eq (show H < 1000000 by omega) (show q < 1000000 by omega), jI_eq (show A < 1000000 by omega) (show q < 1000000 by omega), Nat.add_assoc]) (a0 := (y5, none, none, a)) ⟨sfr_refl, fun t ht => h0 t ht⟩
  refine ⟨b, h1.trans ?_, h2, h3⟩
  show RR (pv_X0 L xs) (d + 1) 73 103 _ _ _ = _
  rw [B73_103, ((sfr_scr s h2).1 3 (by decide)).trans hF, if_pos jI_end]
theorem C_tell (h : Inv u) (hn6 : n ≤ 6) (h30 : N ≤ 30) (hn : gI u 1 = jI n) (hN : gI u 2 = jI N) (hF : gI u 3 = jI F) (h12 : F ≤ 12) (s : scr u a) (h10 : gI a 10 = jI n) (hV : ∀ i, i < n → gB a 11 i = V i) : ∃ b, RR (pv_X0 L xs) (d + 1) 73 0 [some (.ref 41), some (.ref 1), some (.ref 22), some (.int day), none, none, none, none] [] (enc a) = some (none, enc b) ∧ sfr a b ∧ ∀ t, t < n → gA b 22 t = jI (scT u day V N F t) := by
  obtain ⟨b0, h1, h2, h3⟩ := pv_loop (R := fun k b => RR (pv_X0 L xs) (d + 1) 73 3 [some (.ref 41), some (.ref 1), some (.ref 22), some (.int day), some (.int (jI k)), none, none, none] [] (enc b)) (P := fun k b => sfr a b ∧ ∀ q, q < k → gA b 22 q = 0) (N := n) (fun k b hk hb => by
    obtain ⟨f, g⟩ := hb
    refine ⟨uA b 22 k 0, ?_, sfr_A f, fun q hq => ?_⟩
    · show RR (pv_X0 L xs) (d + 1) 73 3 _ _ _ = _
      rw [B73_3, (f.1 10).trans h10, if_neg (jI_run hk (by omega)), pv_ixn (by omega) (by decide), jI_succ]
    · rw [gA_uA, if_pos rfl]
      by_cases e : q = k
      · rw [if_pos e]
      · rw [if_neg e]
        exact g q (by omega)) (a0 := a) ⟨sfr_refl, fun q hq => absurd hq (by omega)⟩
  obtain ⟨b1, y5, p1, p2, p3⟩ := C_tell1 (L := L) (xs := xs) (d := d) (day := day) h hn6 h30 hn hN (sfr_scr s h2) h3
  have f2 := sfr_trans h2 p2
  obtain ⟨b2, q1, q2, q3⟩ := C_tell2 (L := L) (xs := xs) (d := d) (day := day) (V := V) h hn6 hn hF h12 (sfr_scr s f2) (fun i hi => by rw [f2.2.2.2]; exact hV i hi) p3 y5
  refine ⟨b2, ?_, sfr_trans f2 q2, q3⟩
  rw [B73_0]
  refine h1.trans ?_
  show RR (pv_X0 L xs) (d + 1) 73 3 _ _ _ = _
  rw [B73_3, (h2.1 10).trans h10, if_pos jI_end, p1, q1]
end SCORE
