/-! schedule (printed by wip/whole/ops/pp.py) -/
abbrev scW (mt : Nat → Nat → Nat) (M : Nat → Nat → Int) (R : Nat → Int64) (n i k : Nat) : Int64 × Bool := tlN (fun j => jL (mt i j)) (tpV M R n) k
section SCHED
variable {L : Nat} {xs : Nat → Int32} {u v a b c : pv_U} {d k n N i j r q S p l B : Nat} {x y z w e m day lo w4 x4 : Int32} {is1 : Bool} {M : Nat → Nat → Int} {bl s t : Int64} {mt : Nat → Nat → Nat} {pl : Nat → Nat} {R V : Nat → Int64} {wg : Bool}
theorem ovM_0 : ovM 0 t = false := by
  unfold ovM
  refine decide_eq_false ?_
  rintro (⟨-, h⟩ | ⟨h1, h2⟩)
  · exact absurd h (by decide)
  · rw [Int64.zero_mul, Int64.zero_div] at h2
    exact h2 rfl
theorem tl_skip {A B : Nat → Int64} (h : A k = 0) : tlN A B (k + 1) = tlN A B k := by
  show ((tlN A B k).1 + A k * B k, (tlN A B k).2 || (ovM (A k) (B k) || ovA (tlN A B k).1 (A k * B k))) = tlN A B k
  rw [h, Int64.zero_mul, Int64.add_zero, ovM_0, ovA_s0, Bool.or_false, Bool.or_false]
theorem tl_same {A B B' : Nat → Int64} : ∀ {n}, (∀ j, j < n → A j = 0 ∨ B j = B' j) → tlN A B n = tlN A B' n := by
  intro n
  induction n with
  | zero => exact fun _ => rfl
  | succ n ih =>
    intro h
    have e := ih (fun j hj => h j (by omega))
    rcases h n (by omega) with g | g
    · rw [tl_skip g, tl_skip g, e]
    · show ((tlN A B n).1 + A n * B n, (tlN A B n).2 || (ovM (A n) (B n) || ovA (tlN A B n).1 (A n * B n))) = ((tlN A B' n).1 + A n * B' n, (tlN A B' n).2 || (ovM (A n) (B' n) || ovA (tlN A B' n).1 (A n * B' n)))
      rw [e, g]
theorem M_played (hn : gI b 15 = jI n) (hn6 : n ≤ 6) (hi : i < n) (h : ∀ j, j < n → gB b 21 (6 * i + j) = jL (mt i j)) : RR (pv_X0 L xs) d 145 0 [some (.ref 55), some (.int (jI i)), none, none, none] [] (enc b) = some (some (.long (jL (sN (mt i) n))), enc b) := by
  obtain ⟨t, h1, -⟩ := pv_loop (R := fun k (_ : Unit) => RR (pv_X0 L xs) d 145 5 [some (.ref 55), some (.int (jI i)), some (.long (jL (sN (mt i) k))), none, some (.int (jI k))] [] (enc b)) (P := fun _ _ => True) (N := n) (fun k t hk _ => by
    refine ⟨(), ?_, trivial⟩
    have em : (6 : Int32) * jI i + jI k = jI (6 * i + k) := by rw [show (6 : Int32) * jI i = jI (6 * i) from jI_mul (a := 6), jI_add]
    show RR (pv_X0 L xs) d 145 5 _ _ _ = RR (pv_X0 L xs) d 145 5 [some (.ref 55), some (.int (jI i)), some (.long (jL (sN (mt i) k + mt i k))), none, some (.int (jI (k + 1)))] [] (enc b)
    rw [B145_5, hn, if_neg (jI_run hk (by omega)), em, pv_ixn (by omega) (by decide), h k hk, jL_add, jI_succ]) (a0 := ()) trivial
  rw [B145_0]
  refine h1.trans ?_
  show RR (pv_X0 L xs) d 145 5 _ _ _ = _
  rw [B145_5, hn, if_pos jI_end]
theorem jL_pos {m : Nat} (h : m < 1000000) : (0 : Int64) < jL m ↔ 0 < m := by
  rw [Int64.lt_iff_toInt_lt, jL_toInt (by omega)]
  show (0 : Int) < m ↔ _
  omega
/-- the class's tops that schedule asks for -/
theorem C_sch1 (hr : RC u a n bl mt pl M R) (h2n : 2 ≤ n) (hn6 : n ≤ 6) (hi : i < n) (hm : ∀ j, mt i j ≤ 93) {D : Int64} : (∃ b, RR (pv_X0 L xs) (d + 4) 53 27 [some (.ref 22), some (.int (jI i)), some (.int x4), some (.long D), none, some (.int 0)] [] (enc a) = some (some (.long (-9223372036854775808)), enc b) ∧ RC u b n bl mt pl M R ∧ ∃ q, q < n ∧ 0 < mt i q ∧ tpO M R n q = true) ∨ ∃ b, RR (pv_X0 L xs) (d + 4) 53 27 [some (.ref 22), some (.int (jI i)), some (.int x4), some (.long D), none, some (.int 0)] [] (enc a) = RR (pv_X0 L xs) (d + 4) 53 27 [some (.ref 22), some (.int (jI i)), some (.int x4), some (.long D), none, some (.int (jI n))] [] (enc b) ∧ RC u b n bl mt pl M R ∧ ∀ q, q < n → 0 < mt i q → tpO M R n q = false ∧ gB b 11 q = tpV M R n q := by
  rcases pv_loopQ (R := fun k b => RR (pv_X0 L xs) (d + 4) 53 27 [some (.ref 22), some (.int (jI i)), some (.int x4), some (.long D), none, some (.int (jI k))] [] (enc b)) (P := fun k b => RC u b n bl mt pl M R ∧ ∀ q, q < k → 0 < mt i q → tpO M R n q = false ∧ gB b 11 q = tpV M R n q) (Q := fun r => ∃ b, r = some (some (.long (-9223372036854775808)), enc b) ∧ RC u b n bl mt pl M R ∧ ∃ q, q < n ∧ 0 < mt i q ∧ tpO M R n q = true) (N := n) (fun k b hk hb => by
    obtain ⟨rb, g⟩ := hb
    have em := hm k
    have e41 : RR (pv_X0 L xs) (d + 3 + 1) 53 41 [some (.ref 22), some (.int (jI i)), some (.int x4), some (.long D), none, some (.int (jI k))] [.int (jI i), .ref 31] (enc b) = _ := B53_41 (r31 := i) (by omega)
    have st : ∀ r, (if jI (mt i k) ≤ 0 then RR (pv_X0 L xs) (d + 4) 53 27 [some (.ref 22), some (.int (jI i)), some (.int x4), some (.long D), none, some (.int (jI (k + 1)))] [] (enc b) else (pv_bd (RR (pv_X0 L xs) (d + 3) 43 0 [some (.ref 22), some (.int (jI k)), none] [] (enc b)) fun v w => RR (pv_X0 L xs) (d + 4) 53 54 [some (.ref 22), some (.int (jI i)), some (.int x4), some (.long D), none, some (.int (jI k))] (v.toList ++ []) w)) = r → RR (pv_X0 L xs) (d + 4) 53 27 [some (.ref 22), some (.int (jI i)), some (.int x4), some (.long D), none, some (.int (jI k))] [] (enc b) = r := fun r hr' => by
      show RR (pv_X0 L xs) (d + 3 + 1) 53 27 _ _ _ = _
      rw [B53_27, rb.2.1, if_neg (jI_run hk (by omega)), e41, pv_ixn (by omega) (by decide), ((rb.2.2.2 i hi).2.2 k hk).1, jI_succ]
      exact hr'
    by_cases q0 : mt i k = 0
    · refine Or.inr ⟨b, st _ ?_, rb, fun q hq hm => ?_⟩
      · rw [if_pos (show jI (mt i k) ≤ (0 : Int32) from (show jI (mt i k) ≤ jI 0 by rw [q0]; exact jI_end))]
      · by_cases e : q = k
        · subst e
          omega
        · exact g q (by omega) hm
    · obtain ⟨b1, q1, q2, q3, q4, q5⟩ := C_findTop (L := L) (xs := xs) (d := d) rb h2n hn6 hk
      have st2 : ∀ r, RR (pv_X0 L xs) (d + 4) 53 54 [some (.ref 22), some (.int (jI i)), some (.int x4), some (.long D), none, some (.int (jI k))] [.int (cond (tpO M R n k) 0 1)] (enc b1) = r → RR (pv_X0 L xs) (d + 4) 53 27 [some (.ref 22), some (.int (jI i)), some (.int x4), some (.long D), none, some (.int (jI k))] [] (enc b) = r := fun r hr' => st _ (by
        rw [if_neg (show ¬ jI (mt i k) ≤ (0 : Int32) from (show ¬ jI (mt i k) ≤ jI 0 by rw [jI_le (by omega) (by omega)]; omega)), q1, pv_bd_some]
        exact hr')
      cases o : tpO M R n k with
      | true =>
        rw [o] at st2
        refine Or.inl ⟨b1, st2 _ ?_, q2, k, hk, by omega, o⟩
        rw [B53_54, if_pos (show cond true (0 : Int32) 1 = 0 from rfl)]
      | false =>
        rw [o] at st2
        refine Or.inr ⟨b1, st2 _ ?_, q2, fun q hq hm => ?_⟩
        · rw [B53_54, if_neg (show ¬ cond false (0 : Int32) 1 = 0 by decide), jI_succ]
        · by_cases e : q = k
          · subst e
            exact ⟨o, q3⟩
          · rw [q5 q e]
            exact g q (by omega) hm) (a0 := a) ⟨hr, fun q hq => absurd hq (by omega)⟩ with ⟨b, h1, h2, h3⟩ | ⟨b, h1, h2, h3⟩
  · exact Or.inl ⟨b, h1, h2, h3⟩
  · exact Or.inr ⟨b, h1, h2, h3⟩
theorem C_sch2 (hr : RC u a n bl mt pl M R) (hn6 : n ≤ 6) (hi : i < n) (hm : ∀ j, mt i j ≤ 93) {D : Int64} : ∃ b, RR (pv_X0 L xs) (d + 1) 53 77 [some (.ref 22), some (.int (jI i)), some (.int x4), some (.long D), none, some (.int 0)] [] (enc (uI (uJ a 2 0) 9 0)) = RR (pv_X0 L xs) (d + 1) 53 77 [some (.ref 22), some (.int (jI i)), some (.int x4), some (.long D), none, some (.int (jI n))] [] (enc b) ∧ tfr a b ∧ gJ b 2 = (tlN (fun j => jL (mt i j)) (gB a 11) n).1 ∧ gI b 9 = cond (tlN (fun j => jL (mt i j)) (gB a 11) n).2 1 0 := by
  obtain ⟨b1, h1, h2, h3, h4⟩ := pv_loop (R := fun k b => RR (pv_X0 L xs) (d + 1) 53 77 [some (.ref 22), some (.int (jI i)), some (.int x4), some (.long D), none, some (.int (jI k))] [] (enc b)) (P := fun k b => tfr a b ∧ gJ b 2 = (tlN (fun j => jL (mt i j)) (gB a 11) k).1 ∧ gI b 9 = cond (tlN (fun j => jL (mt i j)) (gB a 11) k).2 1 0) (N := n) (fun k b hk hb => by
    obtain ⟨f, e1, e2⟩ := hb
    have rb := RC_tfr hr hn6 f
    have em := hm k
    obtain ⟨b2, q1, q2, q3, q4⟩ := C_addProduct (L := L) (xs := xs) (d := d) (a := b) (s := jL (mt i k)) (t := gB a 11 k)
    refine ⟨b2, ?_, tfr_trans f q4, ?_, ?_⟩
    · show RR (pv_X0 L xs) (d + 1) 53 77 _ _ _ = _
      have e95 : RR (pv_X0 L xs) (d + 1) 53 95 [some (.ref 22), some (.int (jI i)), some (.int x4), some (.long D), none, some (.int (jI k))] [.int (jI i), .ref 31, .ref 21] (enc b) = _ := B53_95 (r31 := i) (by omega)
      rw [B53_77, rb.2.1, if_neg (jI_run hk (by omega)), e95, pv_ixn (by omega) (by decide), pv_ixn (by omega) (by decide), ((rb.2.2.2 i hi).2.2 k hk).1, jI_64 (by omega), f.2.2.2 11 (by decide), q1, pv_bd_some]
      simp only [Option.toList_none, List.nil_append]
      rw [B53_110, jI_succ]
    · rw [q2, e1]
      rfl
    · rw [q3, e1, e2]
      show cond (ovM (jL (mt i k)) (gB a 11 k) || ovA (tlN (fun j => jL (mt i j)) (gB a 11) k).1 (jL (mt i k) * gB a 11 k)) 1 (cond (tlN (fun j => jL (mt i j)) (gB a 11) k).2 1 0) = cond ((tlN (fun j => jL (mt i j)) (gB a 11) k).2 || (ovM (jL (mt i k)) (gB a 11 k) || ovA (tlN (fun j => jL (mt i j)) (gB a 11) k).1 (jL (mt i k) * gB a 11 k))) 1 0
      cases (tlN (fun j => jL (mt i j)) (gB a 11) k).2 <;> cases (ovM (jL (mt i k)) (gB a 11 k) || ovA (tlN (fun j => jL (mt i j)) (gB a 11) k).1 (jL (mt i k) * gB a 11 k)) <;> rfl) (a0 := uI (uJ a 2 0) 9 0) ⟨tfr_0, by simp only [gI_uI, gI_uJ, gI_uA, gI_uB, gJ_uI, gJ_uJ, gJ_uA, gJ_uB, gA_uI, gA_uJ, gA_uA, gA_uB, gB_uI, gB_uJ, gB_uA, gB_uB, reduceIte]; rfl, by simp only [gI_uI, gI_uJ, gI_uA, gI_uB, gJ_uI, gJ_uJ, gJ_uA, gJ_uB, gA_uI, gA_uJ, gA_uA, gA_uB, gB_uI, gB_uJ, gB_uA, gB_uB, reduceIte]; rfl⟩
  exact ⟨b1, h1, h2, h3, h4⟩
theorem M_sch (hn : gI v 15 = jI n) (hr : RM v c n bl mt M R) (hn6 : n ≤ 6) (hi : i < n) (hm : ∀ j, mt i j ≤ 93) (tp : topsM c M R n n) (h19 : gI c 19 = 0) {P : Int64} : ((∃ b, RR (pv_X0 L xs) (d + 1) 164 77 [some (.ref 55), some (.int x), some (.int y), some (.int (jI i)), some (.int x4), some (.long P), none, some (.long 0), none, some (.int 0), none, none, none, none] [] (enc c) = some (some (.long (-9223372036854775808)), enc b) ∧ ufr c b) ∧ ((∃ q, q < n ∧ 0 < mt i q ∧ tpO M R n q = true) ∨ (scW mt M R n i n).2 = true)) ∨ ((∃ b x10 x12, RR (pv_X0 L xs) (d + 1) 164 77 [some (.ref 55), some (.int x), some (.int y), some (.int (jI i)), some (.int x4), some (.long P), none, some (.long 0), none, some (.int 0), none, none, none, none] [] (enc c) = RR (pv_X0 L xs) (d + 1) 164 77 [some (.ref 55), some (.int x), some (.int y), some (.int (jI i)), some (.int x4), some (.long P), none, some (.long (scW mt M R n i n).1), none, some (.int (jI n)), x10, none, x12, none] [] (enc b) ∧ ufr c b ∧ gI b 19 = 0) ∧ (∀ q, q < n → 0 < mt i q → tpO M R n q = false) ∧ (scW mt M R n i n).2 = false) := by
  rcases pv_loopQ (R := fun k (t : Int64 × Option Value × Option Value × pv_U) => RR (pv_X0 L xs) (d + 1) 164 77 [some (.ref 55), some (.int x), some (.int y), some (.int (jI i)), some (.int x4), some (.long P), none, some (.long t.1), none, some (.int (jI k)), t.2.1, none, t.2.2.1, none] [] (enc t.2.2.2)) (P := fun k t => t.1 = (scW mt M R n i k).1 ∧ ufr c t.2.2.2 ∧ gI t.2.2.2 19 = 0 ∧ (scW mt M R n i k).2 = false ∧ ∀ q, q < k → 0 < mt i q → tpO M R n q = false) (Q := fun r => (∃ b, r = some (some (.long (-9223372036854775808)), enc b) ∧ ufr c b) ∧ ((∃ q, q < n ∧ 0 < mt i q ∧ tpO M R n q = true) ∨ (scW mt M R n i n).2 = true)) (N := n) (fun k t hk ht => by
    obtain ⟨s, x10, x12, b⟩ := t
    obtain ⟨e1, f, e19, e2, g⟩ := ht
    have e1 : s = _ := e1
    have f : ufr c b := f
    have e19 : gI b 19 = 0 := e19
    have rb := RM_ufr hr f
    have e15 : gI b 15 = jI n := (rb.1.1 15 (by decide)).trans hn
    have em : (6 : Int32) * jI i + jI k = jI (6 * i + k) := by rw [show (6 : Int32) * jI i = jI (6 * i) from jI_mul (a := 6), jI_add]
    have e21 : gB b 21 (6 * i + k) = jL (mt i k) := ((rb.2.2 i hi).2 k hk).1
    have hmk := hm k
    have lp : (0 : Int64) < jL (mt i k) ↔ 0 < mt i k := jL_pos (by omega)
    have zl : jL 0 = 0 := rfl
    by_cases q0 : mt i k = 0
    · have sk : scW mt M R n i (k + 1) = scW mt M R n i k := tl_skip (show jL (mt i k) = 0 by rw [q0]; rfl)
      refine Or.inr ⟨(s, some (.long (jL (mt i k))), x12, b), ?_, by rw [sk]; exact e1, f, e19, by rw [sk]; exact e2, fun q hq hm => ?_⟩
      · show RR (pv_X0 L xs) (d + 1) 164 77 _ _ _ = _
        rw [B164_77, e15, if_neg (jI_run hk (by omega)), if_pos e19, em, pv_ixn (by omega) (by decide), e21, if_pos (lg_le.mpr (fun r => by have := lp.mp r; omega)), if_pos (lg_le.mpr (fun r => by have := lp.mp r; omega)), jI_succ]
      · by_cases e : q = k
        · subst e
          omega
        · exact g q (by omega) hm
    · have nl : ¬ lg_cmp (jL (mt i k)) 0 ≤ 0 := fun r => lg_le.mp r (lp.mpr (by omega))
      have e32 : gA b 32 k = cond (tpO M R n k) 1 0 := by rw [f.2.2.1 32]; exact (tp k hk).2
      have e23 : gB b 23 k = cond (tpO M R n k) 0 (tpV M R n k) := by rw [f.2.2.2 23 (by decide)]; exact (tp k hk).1
      cases o : tpO M R n k with
      | true =>
        rw [o] at e32
        refine Or.inl ⟨⟨b, ?_, f⟩, Or.inl ⟨k, hk, by omega, o⟩⟩
        show RR (pv_X0 L xs) (d + 1) 164 77 _ _ _ = _
        rw [B164_77, e15, if_neg (jI_run hk (by omega)), if_pos e19, em, pv_ixn (by omega) (by decide), e21, if_neg nl, if_neg nl, pv_ixn (by omega) (by decide), pv_ixn (by omega) (by decide), e32, if_neg (show ¬ cond true (1 : Int32) 0 = 0 by decide)]
      | false =>
        rw [o] at e32 e23
        have st : RR (pv_X0 L xs) (d + 1) 164 77 [some (.ref 55), some (.int x), some (.int y), some (.int (jI i)), some (.int x4), some (.long P), none, some (.long s), none, some (.int (jI k)), x10, none, x12, none] [] (enc b) = RR (pv_X0 L xs) (d + 1) 164 148 [some (.ref 55), some (.int x), some (.int y), some (.int (jI i)), some (.int x4), some (.long P), none, some (.long s), none, some (.int (jI k)), some (.long (jL (mt i k))), none, x12, none] [.long (cond (ovM (jL (mt i k)) (tpV M R n k)) 0 (jL (mt i k) * tpV M R n k))] (enc (cond (ovM (jL (mt i k)) (tpV M R n k)) (uI b 19 1) b)) := by
          rw [B164_77, e15, if_neg (jI_run hk (by omega)), if_pos e19, em, pv_ixn (by omega) (by decide), e21, if_neg nl, if_neg nl, pv_ixn (by omega) (by decide), pv_ixn (by omega) (by decide), e32, if_pos (show cond false (1 : Int32) 0 = 0 from rfl), e23]
          show (pv_bd (RR (pv_X0 L xs) d 154 0 [some (.ref 55), some (.long (jL (mt i k))), none, some (.long (tpV M R n k)), none, none, none, none] [] (enc b)) fun v w => RR (pv_X0 L xs) (d + 1) 164 148 [some (.ref 55), some (.int x), some (.int y), some (.int (jI i)), some (.int x4), some (.long P), none, some (.long s), none, some (.int (jI k)), some (.long (jL (mt i k))), none, x12, none] (v.toList ++ []) w) = _
          rw [M_times, pv_bd_some]
          rfl
        have sx : scW mt M R n i (k + 1) = ((scW mt M R n i k).1 + jL (mt i k) * tpV M R n k, (scW mt M R n i k).2 || (ovM (jL (mt i k)) (tpV M R n k) || ovA (scW mt M R n i k).1 (jL (mt i k) * tpV M R n k))) := rfl
        have out : ∀ (b' : pv_U) (y10 y12 : Option Value), gI b' 15 = jI n → gI b' 19 = 1 → RR (pv_X0 L xs) (d + 1) 164 77 [some (.ref 55), some (.int x), some (.int y), some (.int (jI i)), some (.int x4), some (.long P), none, some (.long 0), none, some (.int (jI (k + 1))), y10, none, y12, none] [] (enc b') = some (some (.long (-9223372036854775808)), enc b') := fun b' y10 y12 h15 h19 => by
          rw [B164_77, h15, h19, if_neg (show ¬ (1 : Int32) = 0 by decide), if_neg (show ¬ (1 : Int32) = 0 by decide)]
          split <;> exact B164_209
        have g15 : gI (uI b 19 1) 15 = jI n := by simp only [gI_uI, gI_uJ, gI_uA, gI_uB, gJ_uI, gJ_uJ, gJ_uA, gJ_uB, gA_uI, gA_uJ, gA_uA, gA_uB, gB_uI, gB_uJ, gB_uA, gB_uB]; exact e15
        have g19 : gI (uI b 19 1) 19 = 1 := by simp only [gI_uI, gI_uJ, gI_uA, gI_uB, gJ_uI, gJ_uJ, gJ_uA, gJ_uB, gA_uI, gA_uJ, gA_uA, gA_uB, gB_uI, gB_uJ, gB_uA, gB_uB, reduceIte]
        have fi : ufr c (uI b 19 1) := ufr_trans f ufr_I
        show (((∃ b_1, RR (pv_X0 L xs) (d + 1) 164 77 [some (.ref 55), some (.int x), some (.int y), some (.int (jI i)), some (.int x4), some (.long P), none, some (.long s), none, some (.int (jI k)), x10, none, x12, none] [] (enc b) = _ ∧ _) ∧ _) ∨ ∃ a' : Int64 × Option Value × Option Value × pv_U, RR (pv_X0 L xs) (d + 1) 164 77 [some (.ref 55), some (.int x), some (.int y), some (.int (jI i)), some (.int x4), some (.long P), none, some (.long s), none, some (.int (jI k)), x10, none, x12, none] [] (enc b) = _ ∧ _)
        rw [st]
        cases om : ovM (jL (mt i k)) (tpV M R n k) with
        | true =>
          refine Or.inl ⟨⟨uI b 19 1, ?_, fi⟩, Or.inr (tlN_over (show k + 1 ≤ n by omega) ?_)⟩
          · show RR (pv_X0 L xs) (d + 1) 164 148 _ [.long 0] (enc (uI b 19 1)) = _
            rw [B164_148, g19, if_neg (show ¬ (1 : Int32) = 0 by decide), B164_169, jI_succ]
            exact out _ _ _ g15 g19
          · show (scW mt M R n i (k + 1)).2 = true
            rw [sx, om, Bool.true_or, Bool.or_true]
        | false =>
          have st3 : ∀ r, RR (pv_X0 L xs) (d + 1) 164 77 [some (.ref 55), some (.int x), some (.int y), some (.int (jI i)), some (.int x4), some (.long P), none, some (.long (cond (ovA s (jL (mt i k) * tpV M R n k)) 0 (s + jL (mt i k) * tpV M R n k))), none, some (.int (jI (k + 1))), some (.long (jL (mt i k))), none, some (.long (jL (mt i k) * tpV M R n k)), none] [] (enc (cond (ovA s (jL (mt i k) * tpV M R n k)) (uI b 19 1) b)) = r → RR (pv_X0 L xs) (d + 1) 164 148 [some (.ref 55), some (.int x), some (.int y), some (.int (jI i)), some (.int x4), some (.long P), none, some (.long s), none, some (.int (jI k)), some (.long (jL (mt i k))), none, x12, none] [.long (jL (mt i k) * tpV M R n k)] (enc b) = r := fun r hr' => by
            rw [B164_148, e19, if_pos rfl, M_plus, pv_bd_some]
            simp only [Option.toList_some, List.cons_append, List.nil_append]
            rw [B164_169, jI_succ]
            exact hr'
          cases oa : ovA s (jL (mt i k) * tpV M R n k) with
          | true =>
            rw [oa] at st3
            refine Or.inl ⟨⟨uI b 19 1, st3 _ (out _ _ _ g15 g19), fi⟩, Or.inr (tlN_over (show k + 1 ≤ n by omega) ?_)⟩
            show (scW mt M R n i (k + 1)).2 = true
            rw [sx, ← e1, oa, Bool.or_true, Bool.or_true]
          | false =>
            rw [oa] at st3
            refine Or.inr ⟨(s + jL (mt i k) * tpV M R n k, some (.long (jL (mt i k))), some (.long (jL (mt i k) * tpV M R n k)), b), st3 _ rfl, ?_, f, e19, ?_, fun q hq hm => ?_⟩
            · rw [sx, ← e1]
            · rw [sx, ← e1, oa, om, e2]
              rfl
            · by_cases e : q = k
              · subst e
                exact o
              · exact g q (by omega) hm) (a0 := (0, none, none, c)) ⟨rfl, ufr_refl, h19, rfl, fun q hq => absurd hq (by omega)⟩ with q | ⟨⟨s, x10, x12, b⟩, h1, h2, h3, h4, h5, h6⟩
  · exact Or.inl q
  · have h2 : s = _ := h2
    subst h2
    exact Or.inr ⟨⟨b, x10, x12, h1, h3, h4⟩, h6, h5⟩
theorem sched_both (hr : RC u a n bl mt pl M R) (hbl : bl = 1 ∨ bl = 2) (h2n : 2 ≤ n) (hn6 : n ≤ 6) (hi : i < n) (h0 : 0 ≤ dtm M n) (h1 : dtm M n ≤ 602661150000000) (hs : sN (mt i) n = pl i) (hm : ∀ j, mt i j ≤ 93) (hp : pl i ≤ 93) : ∃ (b : pv_U) (ans : Int64), RR (pv_X0 L xs) (d + 4) 53 0 [some (.ref 22), some (.int (jI i)), some (.int x4), none, none, none] [] (enc a) = some (some (.long ans), enc b) ∧ scr u b ∧ ∀ (d : Nat) (v c : pv_U), gI v 15 = jI n → RM v c n bl mt M R → gJ c 5 = Int64.ofInt (dtm M n) → topsM c M R n n → ∃ c', RR (pv_X0 L xs) (d + 1) 164 39 [some (.ref 55), some (.int x), some (.int y), some (.int (jI i)), some (.int x4), none, none, none, none, none, none, none, none, none] [] (enc c) = some (some (.long ans), enc c') ∧ scr v c' := by
  obtain ⟨a1, p1, p2⟩ := C_det (L := L) (xs := xs) (d := d + 1) hr hn6
  have r1 := RC_mfr hr hn6 p2
  have st : ∀ q, RR (pv_X0 L xs) (d + 4) 53 4 [some (.ref 22), some (.int (jI i)), some (.int x4), none, none, none] [.long (Int64.ofInt (dtm M n))] (enc a1) = q → RR (pv_X0 L xs) (d + 4) 53 0 [some (.ref 22), some (.int (jI i)), some (.int x4), none, none, none] [] (enc a) = q := fun q hq => by
    show RR (pv_X0 L xs) (d + 3 + 1) 53 0 _ _ _ = _
    rw [B53_0, p1, pv_bd_some]
    exact hq
  have mst : ∀ (d : Nat) (v c : pv_U), gI v 15 = jI n → RM v c n bl mt M R → ∀ r, RR (pv_X0 L xs) (d + 1) 164 44 [some (.ref 55), some (.int x), some (.int y), some (.int (jI i)), some (.int x4), none, none, none, none, none, none, none, none, none] [.long (jL (pl i))] (enc c) = r → RR (pv_X0 L xs) (d + 1) 164 39 [some (.ref 55), some (.int x), some (.int y), some (.int (jI i)), some (.int x4), none, none, none, none, none, none, none, none, none] [] (enc c) = r := fun d v c hn rc r hr' => by
    rw [B164_39, M_played (mt := mt) ((rc.1.1 15 (by decide)).trans hn) hn6 hi (fun j hj => ((rc.2.2 i hi).2 j hj).1), pv_bd_some, hs]
    exact hr'
  by_cases q : Int64.ofInt (dtm M n) = 0
  · refine ⟨a1, -9223372036854775808, st _ ?_, r1.1, fun d v c hn rc e5 tp => ⟨c, mst d v c hn rc _ ?_, rc.1⟩⟩
    · rw [B53_4, if_pos (lg_eq.mpr q)]
    · rw [B164_44, e5, if_pos (lg_eq.mpr q)]
  have ep : jL (pl i) = 0 ↔ pl i = 0 := by
    rw [← Int64.toInt_inj, jL_toInt (by omega)]
    show (pl i : Int) = 0 ↔ _
    omega
  by_cases q2 : pl i = 0
  · refine ⟨a1, -9223372036854775808, st _ ?_, r1.1, fun d v c hn rc e5 tp => ⟨c, mst d v c hn rc _ ?_, rc.1⟩⟩
    · rw [B53_4, if_neg (fun e => q (lg_eq.mp e)), pv_ixn (by omega) (by decide), (r1.2.2.2 i hi).1, if_pos (show jI (pl i) = 0 by rw [q2]; rfl)]
    · rw [B164_44, e5, if_neg (fun e => q (lg_eq.mp e)), if_pos (lg_eq.mpr (ep.mpr q2))]
  have st2 : ∀ r, RR (pv_X0 L xs) (d + 4) 53 27 [some (.ref 22), some (.int (jI i)), some (.int x4), some (.long (Int64.ofInt (dtm M n))), none, some (.int 0)] [] (enc a1) = r → RR (pv_X0 L xs) (d + 4) 53 0 [some (.ref 22), some (.int (jI i)), some (.int x4), none, none, none] [] (enc a) = r := fun r hr' => st _ (by
    have e0 : ¬ jI (pl i) = 0 := fun e => q2 ((jI_eq (b := 0) (by omega) (by omega)).mp e)
    rw [B53_4, if_neg (fun e => q (lg_eq.mp e)), pv_ixn (by omega) (by decide), (r1.2.2.2 i hi).1, if_neg e0]
    exact hr')
  have mst2 : ∀ (d : Nat) (v c : pv_U), gI v 15 = jI n → RM v c n bl mt M R → gJ c 5 = Int64.ofInt (dtm M n) → ∀ r, RR (pv_X0 L xs) (d + 1) 164 77 [some (.ref 55), some (.int x), some (.int y), some (.int (jI i)), some (.int x4), some (.long (jL (pl i))), none, some (.long 0), none, some (.int 0), none, none, none, none] [] (enc (uI c 19 0)) = r → RR (pv_X0 L xs) (d + 1) 164 39 [some (.ref 55), some (.int x), some (.int y), some (.int (jI i)), some (.int x4), none, none, none, none, none, none, none, none, none] [] (enc c) = r := fun d v c hn rc e5 r hr' => mst d v c hn rc _ (by
    rw [B164_44, e5, if_neg (fun e => q (lg_eq.mp e)), if_neg (fun e => q2 (ep.mp (lg_eq.mp e)))]
    exact hr')
  have tpI : ∀ c, topsM c M R n n → topsM (uI c 19 0) M R n n := fun c h => h
  have no : ∀ (d : Nat) (v c : pv_U), gI v 15 = jI n → RM v c n bl mt M R → gJ c 5 = Int64.ofInt (dtm M n) → topsM c M R n n → ((∃ q, q < n ∧ 0 < mt i q ∧ tpO M R n q = true) ∨ (scW mt M R n i n).2 = true) → ∃ c', RR (pv_X0 L xs) (d + 1) 164 39 [some (.ref 55), some (.int x), some (.int y), some (.int (jI i)), some (.int x4), none, none, none, none, none, none, none, none, none] [] (enc c) = some (some (.long (-9223372036854775808)), enc c') ∧ scr v c' := fun d v c hn rc e5 tp hq => by
    rcases M_sch (L := L) (xs := xs) (d := d) (x := x) (y := y) (x4 := x4) (P := jL (pl i)) hn (RM_ufr rc ufr_I) hn6 hi hm (tpI c tp) (by simp only [gI_uI, gI_uJ, gI_uA, gI_uB, gJ_uI, gJ_uJ, gJ_uA, gJ_uB, gA_uI, gA_uJ, gA_uA, gA_uB, gB_uI, gB_uJ, gB_uA, gB_uB, reduceIte]) with ⟨⟨b, g1, g2⟩, -⟩ | ⟨-, g1, g2⟩
    · exact ⟨b, mst2 d v c hn rc e5 _ g1, (RM_ufr (RM_ufr rc ufr_I) g2).1⟩
    · rcases hq with ⟨q, h1, h2, h3⟩ | h
      · exact absurd ((g1 q h1 h2).symm.trans h3) (by decide)
      · exact absurd (g2.symm.trans h) (by decide)
  rcases C_sch1 (L := L) (xs := xs) (d := d) (x4 := x4) (D := Int64.ofInt (dtm M n)) r1 h2n hn6 hi hm with ⟨b, f1, f2, f3⟩ | ⟨b, f1, f2, f3⟩
  · exact ⟨b, -9223372036854775808, st2 _ f1, f2.1, fun d v c hn rc e5 tp => no d v c hn rc e5 tp (Or.inl f3)⟩
  · obtain ⟨b2, g1, g2, g3, g4⟩ := C_sch2 (L := L) (xs := xs) (d := d + 3) (x4 := x4) (D := Int64.ofInt (dtm M n)) f2 hn6 hi hm
    have r2 := RC_tfr f2 hn6 g2
    have es : tlN (fun j => jL (mt i j)) (gB b 11) n = scW mt M R n i n := tl_same fun j hj => by
      by_cases e : mt i j = 0
      · exact Or.inl (by rw [e]; rfl)
      · exact Or.inr (f3 j hj (by omega)).2
    rw [es] at g3 g4
    have st3 : ∀ r, RR (pv_X0 L xs) (d + 4) 53 77 [some (.ref 22), some (.int (jI i)), some (.int x4), some (.long (Int64.ofInt (dtm M n))), none, some (.int (jI n))] [] (enc b2) = r → RR (pv_X0 L xs) (d + 4) 53 0 [some (.ref 22), some (.int (jI i)), some (.int x4), none, none, none] [] (enc a) = r := fun r hr' => st2 _ (by
      refine f1.trans ?_
      show RR (pv_X0 L xs) (d + 3 + 1) 53 27 _ _ _ = _
      rw [B53_27, f2.2.1, if_pos jI_end, B44_0, pv_bd_some]
      simp only [Option.toList_none, List.nil_append]
      rw [B53_74]
      exact g1.trans hr')
    cases oW : (scW mt M R n i n).2 with
    | true =>
      rw [oW] at g4
      refine ⟨b2, -9223372036854775808, st3 _ ?_, r2.1, fun d v c hn rc e5 tp => no d v c hn rc e5 tp (Or.inr oW)⟩
      show RR (pv_X0 L xs) (d + 3 + 1) 53 77 _ _ _ = _
      rw [B53_77, r2.2.1, if_pos jI_end, g4, if_neg (show ¬ cond true (1 : Int32) 0 = 0 by decide)]
      exact B53_157
    | false =>
      rw [oW] at g4
      obtain ⟨w, k1, k2⟩ := part_eq (L := L) (xs := xs) (x4 := x4) (above := (scW mt M R n i n).1) (below := Int64.ofInt (dtm M n) * bl * jL (pl i)) (below_pos h0 h1 q hbl (by omega) hp).2
      refine ⟨b2, w, st3 _ ?_, r2.1, fun d v c hn rc e5 tp => ?_⟩
      · show RR (pv_X0 L xs) (d + 3 + 1) 53 77 _ _ _ = _
        rw [B53_77, r2.2.1, if_pos jI_end, g4, if_pos (show cond false (1 : Int32) 0 = 0 from rfl), pv_ixn (by omega) (by decide), g3, r2.2.2.1, (r2.2.2.2 i hi).1, jI_64 (by omega), k1, pv_bd_some]
        exact B53_157
      · rcases M_sch (L := L) (xs := xs) (d := d) (x := x) (y := y) (x4 := x4) (P := jL (pl i)) hn (RM_ufr rc ufr_I) hn6 hi hm (tpI c tp) (by simp only [gI_uI, gI_uJ, gI_uA, gI_uB, gJ_uI, gJ_uJ, gJ_uA, gJ_uB, gA_uI, gA_uJ, gA_uA, gA_uB, gB_uI, gB_uJ, gB_uA, gB_uB, reduceIte]) with ⟨-, ⟨q, h1, h2, h3⟩ | h⟩ | ⟨⟨b, x10, x12, m1, m2, m3⟩, -, -⟩
        · exact absurd ((f3 q h1 h2).1.symm.trans h3) (by decide)
        · exact absurd (oW.symm.trans h) (by decide)
        · have rb := RM_ufr (RM_ufr rc ufr_I) m2
          refine ⟨b, mst2 d v c hn rc e5 _ (m1.trans ?_), rb.1⟩
          rw [B164_77, (rb.1.1 15 (by decide)).trans hn, if_pos jI_end, if_pos m3, m2.2.1 5, m2.2.1 6, show gJ (uI c 19 0) 5 = gJ c 5 from rfl, show gJ (uI c 19 0) 6 = gJ c 6 from rfl, e5, rc.2.1, k2, pv_bd_some]
          exact B164_209
theorem P_schedule (h : Inv u) : Both L xs 52 164 [some (.ref 0), some (.int x), some (.int y), some (.int z), some (.int w)] [some (.ref 55), some (.int x), some (.int y), some (.int z), some (.int w), none, none, none, none, none, none, none, none, none] u := by
  have h0 := h
  obtain ⟨n, N, h2n, hn6, h30, hn, hN, hn', hN'⟩ := rows_ctx h
  obtain ⟨⟨b1, b2, b3, b4, b5, b6, b7, b8, b9, b10⟩, ⟨g1, g2⟩, ⟨f1, f2⟩, ⟨t1, t2, t3⟩, ⟨p1, p2, p3⟩, hL, ⟨k1, k2, k3⟩⟩ := h
  have n15 : 0 ≤ (gI u 15).toInt := by rw [← b1]; omega
  by_cases q1 : asOk x y
  case neg =>
    refine ⟨.long (-9223372036854775808), u, u, ?_, ?_, h0, rfl⟩
    · simp only [B52_0, C_asked, C_team, C_choice, B52_5, B52_16, B52_24, reduceIte, e10, pv_bd_some, Option.toList_some, Option.toList_none, List.cons_append, List.nil_append, List.append_nil, ite01, if_neg q1]
    · simp only [B164_0, M_asked, M_team n15, M_isInI, B164_5, B164_13, B164_24, reduceIte, e10, pv_bd_some, Option.toList_some, Option.toList_none, List.cons_append, List.nil_append, List.append_nil, ite01, ← b1, ← b3, z0, z1, z2, z3, z4, z5, z6, z7, z12, z20, z30, z99, y0, y1, y2, y3, y6, y7, y99, y15, if_neg q1]
  by_cases q2 : tmOk (gI u 1) z
  case neg =>
    refine ⟨.long (-9223372036854775808), u, u, ?_, ?_, h0, rfl⟩
    · simp only [B52_0, C_asked, C_team, C_choice, B52_5, B52_16, B52_24, reduceIte, e10, pv_bd_some, Option.toList_some, Option.toList_none, List.cons_append, List.nil_append, List.append_nil, ite01, if_pos q1, if_neg q2]
    · simp only [B164_0, M_asked, M_team n15, M_isInI, B164_5, B164_13, B164_24, reduceIte, e10, pv_bd_some, Option.toList_some, Option.toList_none, List.cons_append, List.nil_append, List.append_nil, ite01, ← b1, ← b3, z0, z1, z2, z3, z4, z5, z6, z7, z12, z20, z30, z99, y0, y1, y2, y3, y6, y7, y99, y15, if_pos q1, if_neg q2]
  by_cases q3 : chOk w
  case neg =>
    refine ⟨.long (-9223372036854775808), u, u, ?_, ?_, h0, rfl⟩
    · simp only [B52_0, C_asked, C_team, C_choice, B52_5, B52_16, B52_24, reduceIte, e10, pv_bd_some, Option.toList_some, Option.toList_none, List.cons_append, List.nil_append, List.append_nil, ite01, if_pos q1, if_pos q2, if_neg q3]
    · simp only [B164_0, M_asked, M_team n15, M_isInI, B164_5, B164_13, B164_24, reduceIte, e10, pv_bd_some, Option.toList_some, Option.toList_none, List.cons_append, List.nil_append, List.append_nil, ite01, ← b1, ← b3, z0, z1, z2, z3, z4, z5, z6, z7, z12, z20, z30, z99, y0, y1, y2, y3, y6, y7, y99, y15, if_pos q1, if_pos q2, if_neg q3]
  obtain ⟨i, hi, ei⟩ := tm_at hn6 (hn ▸ q2)
  have hg := hg_of (day := y) (lo := -1) (wg := false) h0 hn6 h30 hn hN (fun q => nomatch q)
  obtain ⟨c1, hc1, rc1⟩ := C_asOf (L := L) (xs := xs) (d := 94) (m := x) (day := y) h0 h2n hn6 h30 hn hN
  obtain ⟨d0, d1⟩ := dt_facts (is1 := decide (x = 1)) h2n hn6 hg
  obtain ⟨c1', ans, hd1, sc1, hm⟩ := sched_both (L := L) (xs := xs) (d := 94) (x := x) (y := y) (x4 := w) rc1 bl_12 h2n hn6 hi d0 d1 (pT_mT hi hn6 hg) (fun j => mT_le hg) (pT_le hg)
  obtain ⟨c2, hc2, rc2, e5, tp⟩ := M_solvesA (L := L) (xs := xs) (d := 95) (m := x) (day := y) h0 sc1 h2n hn6 h30 hn hN hn' hN'
  have e15 : gI c1' 15 = gI u 15 := sc1.1 15 (by decide)
  have e15' : gI c1' 15 = gI u 1 := e15.trans b1.symm
  obtain ⟨c3, hd2, sc3⟩ := hm 98 c1' c2 (e15.trans hn') rc2 e5 tp
  refine ⟨.long ans, c1', c3, ?_, ?_, Inv_scr h0 (scr_trans sc1 sc3), rfl⟩
  · simp only [B52_0, C_asked, C_team, C_choice, B52_5, B52_16, B52_24, reduceIte, e10, pv_bd_some, Option.toList_some, Option.toList_none, List.cons_append, List.nil_append, List.append_nil, ite01, if_pos q1, if_pos q2, if_pos q3, hc1]
    rw [B52_37, ei, hd1, pv_bd_some]
    exact B52_47
  · simp only [B164_0, M_asked, M_team (e15 ▸ n15), M_isInI, B164_5, B164_13, B164_24, reduceIte, e10, pv_bd_some, Option.toList_some, Option.toList_none, List.cons_append, List.nil_append, List.append_nil, ite01, e15', z0, z1, z2, z3, z4, z5, z6, z7, z12, z20, z30, z99, y0, y1, y2, y3, y6, y7, y99, y15, if_pos q1, if_pos q2, if_pos q3, hc2]
    rw [ei]
    exact hd2
end SCHED
