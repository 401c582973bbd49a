/-! the class's minors (printed by wip/whole/ops/pp.py) -/
/-- c is b but for the minors -/
def mfr (b c : pv_U) : Prop := (∀ i, gI c i = gI b i) ∧ (∀ i, gJ c i = gJ b i) ∧ (∀ r, gA c r = gA b r) ∧ ∀ r, ¬ r = 12 → gB c r = gB b r
theorem shl1 : ∀ k, k < 7 → (1 : Int32) <<< (jI k &&& 31) = jI (2 ^ k) := by decide +kernel
theorem bit1 : ∀ S, S < 64 → ∀ c, c < 6 → ((jI S >>> (jI c &&& 31)) &&& 1 = 1 ↔ S.testBit c = true) := by decide +kernel
theorem xor1 : ∀ S, S < 64 → ∀ c, c < 6 → (jI S ^^^ ((1 : Int32) <<< (jI c &&& 31)) = jI (S ^^^ (1 <<< c)) ∧ (S.testBit c = true → S ^^^ (1 <<< c) < S)) := by decide +kernel
theorem pop_sh : ∀ S, S < 64 → ∀ j, j < 6 → pop (S >>> j) = pop (S >>> (j + 1)) + (S.testBit j).toNat := by decide +kernel
section MINOR
variable {L : Nat} {xs : Nat → Int32} {u v a b c : pv_U} {d k n N i j r q S : Nat} {x y z w : Int32} {M : Nat → Nat → Int}
theorem mfr_refl : mfr a a := ⟨fun _ => rfl, fun _ => rfl, fun _ => rfl, fun _ _ => rfl⟩
theorem mfr_trans (h : mfr a b) (h2 : mfr b c) : mfr a c := ⟨fun i => (h2.1 i).trans (h.1 i), fun i => (h2.2.1 i).trans (h.2.1 i), fun r => (h2.2.2.1 r).trans (h.2.2.1 r), fun r hr => (h2.2.2.2 r hr).trans (h.2.2.2 r hr)⟩
theorem mfr_B {v : Int64} (h : mfr a b) : mfr a (uB b 12 k v) := ⟨h.1, h.2.1, h.2.2.1, fun q hq => Eq.trans (funext fun m => by rw [gB_uB, if_neg hq]) (h.2.2.2 q hq)⟩
theorem mfr_scr (h : mfr a b) (s : scr u a) : scr u b := ⟨fun i hi => (h.1 i).trans (s.1 i hi), fun i hi => (h.2.1 i).trans (s.2.1 i hi), fun r hr => (h.2.2.1 r).trans (s.2.2.1 r hr), fun r hr => (h.2.2.2 r (by omega)).trans (s.2.2.2 r hr)⟩
theorem C_bits (hS : S < 64) : RR (pv_X0 L xs) d 38 0 [some (.int (jI S))] [] (enc u) = some (some (.int (jI (pop S))), enc u) := by
  refine B38_0.trans (congrArg (fun q : Int32 => some (some (Value.int q), enc u)) ?_)
  revert hS
  revert S
  decide +kernel
def sgI (e : Nat) : Int32 := if e % 2 = 0 then 1 else -1
theorem sgI_64 {e : Nat} : (sgI e).toInt64 = Int64.ofInt (sg e) := by
  unfold sgI sg
  split <;> decide
theorem sgI_neg {e : Nat} : -(sgI e) = sgI (e + 1) := by
  unfold sgI
  by_cases h : e % 2 = 0
  · rw [if_pos h, if_neg (by omega)]
  · rw [if_neg h, if_pos (by omega)]
    decide
theorem C_minI (hk : k ≤ 6) (hn6 : n ≤ 6) (f : ∀ i j, i < n → j < n → gB b (4 + i) j = Int64.ofInt (M i j)) (hr : skN r (pop S - 1) < n) (hq : ∀ c, c < k → skN q c < n) (hq7 : q < 100) (hS : S < 2 ^ k) (g : ∀ S', S' < S → gB b 12 S' = Int64.ofInt (ent M (skN r) (skN q) S')) (x1 : Int32) (jj : Option Value) : ∃ s' jj', RR (pv_X0 L xs) d 37 54 [some (.ref 22), some (.int x1), some (.int (jI q)), some (.int (jI k)), some (.int (jI S)), some (.int (jI (skN r (pop S - 1)))), some (.long 0), none, some (.int 1), some (.int (jI k - 1)), jj, none] [] (enc b) = RR (pv_X0 L xs) d 37 54 [some (.ref 22), some (.int x1), some (.int (jI q)), some (.int (jI k)), some (.int (jI S)), some (.int (jI (skN r (pop S - 1)))), some (.long (Int64.ofInt (sI (entT M (skN r) (skN q) S) k))), none, some (.int s'), some (.int (jI 0 - 1)), jj', none] [] (enc b) := by
  have h64 : (2 : Nat) ^ k ≤ 2 ^ 6 := Nat.pow_le_pow_right (by decide) hk
  have hS6 : S < 64 := by omega
  have pk : pop (S >>> k) = 0 := by
    rw [Nat.shiftRight_eq_div_pow, Nat.div_eq_of_lt hS]
    rfl
  obtain ⟨⟨s, s', jj'⟩, h1, h2, h3⟩ := pv_loop (R := fun m (t : Int64 × Int32 × Option Value) => RR (pv_X0 L xs) d 37 54 [some (.ref 22), some (.int x1), some (.int (jI q)), some (.int (jI k)), some (.int (jI S)), some (.int (jI (skN r (pop S - 1)))), some (.long t.1), none, some (.int t.2.1), some (.int (jI (k - m) - 1)), t.2.2, none] [] (enc b)) (P := fun m t => t.1 = Int64.ofInt (sI (entT M (skN r) (skN q) S) k - sI (entT M (skN r) (skN q) S) (k - m)) ∧ t.2.1 = sgI (pop (S >>> (k - m)))) (N := k) (fun m t hm ht => by
    obtain ⟨t1, t2, t3⟩ := t
    obtain ⟨ht1, ht2⟩ := ht
    have ht1 : t1 = _ := ht1
    have ht2 : t2 = _ := ht2
    subst ht1 ht2
    obtain ⟨j, hj⟩ : ∃ j, k - m = j + 1 := ⟨k - m - 1, by omega⟩
    have hj2 : k - (m + 1) = j := by omega
    have hjk : j < k := by omega
    have e9 : jI (j + 1) - 1 = jI j := jI_sub (b := 1) (by omega)
    have en : jI j + -1 = jI j - 1 := by grind
    have eT : sI (entT M (skN r) (skN q) S) (j + 1) = sI (entT M (skN r) (skN q) S) j + entT M (skN r) (skN q) S j := rfl
    have hp := pop_sh S hS6 j (by omega)
    have x := xor1 S hS6 j (by omega)
    have b1 := bit1 S hS6 j (by omega)
    have st : ∀ (s : Int64) (s' : Int32), RR (pv_X0 L xs) d 37 54 [some (.ref 22), some (.int x1), some (.int (jI q)), some (.int (jI k)), some (.int (jI S)), some (.int (jI (skN r (pop S - 1)))), some (.long s), none, some (.int s'), some (.int (jI (j + 1) - 1)), t3, none] [] (enc b) = if S.testBit j = true then RR (pv_X0 L xs) d 37 54 [some (.ref 22), some (.int x1), some (.int (jI q)), some (.int (jI k)), some (.int (jI S)), some (.int (jI (skN r (pop S - 1)))), some (.long (s + ((s').toInt64 * Int64.ofInt (M (skN r (pop S - 1)) (skN q j))) * Int64.ofInt (ent M (skN r) (skN q) (S ^^^ (1 <<< j))))), none, some (.int (-s')), some (.int (jI j - 1)), some (.long (Int64.ofInt (M (skN r (pop S - 1)) (skN q j)))), none] [] (enc b) else RR (pv_X0 L xs) d 37 54 [some (.ref 22), some (.int x1), some (.int (jI q)), some (.int (jI k)), some (.int (jI S)), some (.int (jI (skN r (pop S - 1)))), some (.long s), none, some (.int s'), some (.int (jI j - 1)), t3, none] [] (enc b) := fun s s' => by
      rw [e9, B37_54, if_neg (show ¬ jI j < 0 by show ¬ jI j < jI 0; rw [jI_lt (by omega) (by omega)]; omega)]
      by_cases hb : S.testBit j = true
      · have hlt := x.2 hb
        rw [if_pos (b1.mpr hb), if_pos hb, B37_76 (show skN r (pop S - 1) < 6 by omega), x.1]
        have hc := hq j hjk
        unfold skN at hc
        by_cases c1 : j < q
        · have e : skN q j = j := if_pos c1
          rw [if_pos (show jI j < jI q by rw [jI_lt (by omega) (by omega)]; exact c1), pv_ixn (by omega) (by decide), pv_ixn (by omega) (by decide), e, f _ j hr (by rw [if_pos c1] at hc; exact hc), g _ hlt, en]
        · have e : skN q j = j + 1 := if_neg c1
          rw [if_neg c1] at hc
          rw [if_neg (show ¬ jI j < jI q by rw [jI_lt (by omega) (by omega)]; exact c1), jI_succ, pv_ixn (by omega) (by decide), pv_ixn (by omega) (by decide), e, f _ (j + 1) hr hc, g _ hlt, en]
      · rw [if_neg (fun q => hb (b1.mp q)), if_neg hb, en]
    by_cases hb : S.testBit j = true
    · refine ⟨(Int64.ofInt (sI (entT M (skN r) (skN q) S) k - sI (entT M (skN r) (skN q) S) j), sgI (pop (S >>> j)), some (.long (Int64.ofInt (M (skN r (pop S - 1)) (skN q j))))), ?_, ?_, ?_⟩
      · show RR (pv_X0 L xs) d 37 54 _ _ _ = _
        rw [hj2, hj, st, if_pos hb, sgI_64, sgI_neg, ← Int64.ofInt_mul, ← Int64.ofInt_mul, ← Int64.ofInt_add]
        have ev : sI (entT M (skN r) (skN q) S) k - sI (entT M (skN r) (skN q) S) (j + 1) + sg (pop (S >>> (j + 1))) * M (skN r (pop S - 1)) (skN q j) * ent M (skN r) (skN q) (S ^^^ (1 <<< j)) = sI (entT M (skN r) (skN q) S) k - sI (entT M (skN r) (skN q) S) j := by
          rw [eT]
          unfold entT
          rw [if_pos hb]
          omega
        rw [ev, hp, hb]
        rfl
      · rw [hj2]
      · rw [hj2]
    · refine ⟨(Int64.ofInt (sI (entT M (skN r) (skN q) S) k - sI (entT M (skN r) (skN q) S) j), sgI (pop (S >>> j)), t3), ?_, ?_, ?_⟩
      · show RR (pv_X0 L xs) d 37 54 _ _ _ = _
        have ev : sI (entT M (skN r) (skN q) S) (j + 1) = sI (entT M (skN r) (skN q) S) j := by
          rw [eT]
          unfold entT
          rw [if_neg hb, Int.add_zero]
        have hb' : S.testBit j = false := by cases h : S.testBit j with | false => rfl | true => exact absurd h hb
        rw [hj2, hj, st, if_neg hb, ev, hp, hb']
        rfl
      · rw [hj2]
      · rw [hj2]) (a0 := (0, 1, jj)) ⟨by rw [Nat.sub_zero, Int.sub_self]; rfl, by rw [Nat.sub_zero, pk]; rfl⟩
  refine ⟨s', jj', ?_⟩
  have h1' : RR (pv_X0 L xs) d 37 54 [some (.ref 22), some (.int x1), some (.int (jI q)), some (.int (jI k)), some (.int (jI S)), some (.int (jI (skN r (pop S - 1)))), some (.long 0), none, some (.int 1), some (.int (jI (k - 0) - 1)), jj, none] [] (enc b) = RR (pv_X0 L xs) d 37 54 [some (.ref 22), some (.int x1), some (.int (jI q)), some (.int (jI k)), some (.int (jI S)), some (.int (jI (skN r (pop S - 1)))), some (.long s), none, some (.int s'), some (.int (jI (k - k) - 1)), jj', none] [] (enc b) := h1
  have h2' : s = Int64.ofInt (sI (entT M (skN r) (skN q) S) k - sI (entT M (skN r) (skN q) S) (k - k)) := h2
  rw [Nat.sub_zero, Nat.sub_self] at h1'
  rw [Nat.sub_self] at h2'
  rw [h1', h2', show sI (entT M (skN r) (skN q) S) 0 = 0 from rfl, Int.sub_zero]
theorem entT_hi {rm cm : Nat → Nat} {m : Nat} (hm : k ≤ m) (hS : S < 2 ^ k) : entT M rm cm S m = 0 := by
  unfold entT
  rw [Nat.testBit_lt_two_pow (Nat.lt_of_lt_of_le hS (Nat.pow_le_pow_right (by decide) hm)), if_neg Bool.false_ne_true]
theorem C_minor (hk : k ≤ 6) (hn6 : n ≤ 6) (f : ∀ i j, i < n → j < n → gB a (4 + i) j = Int64.ofInt (M i j)) (hr : ∀ i, i < k → skN r i < n) (hq : ∀ c, c < k → skN q c < n) (hr7 : r < 100) (hq7 : q < 100) : ∃ b, RR (pv_X0 L xs) (d + 1) 37 0 [some (.ref 22), some (.int (jI r)), some (.int (jI q)), some (.int (jI k)), none, none, none, none, none, none, none, none] [] (enc a) = some (some (.long (Int64.ofInt (ent M (skN r) (skN q) (2 ^ k - 1)))), enc b) ∧ mfr a b := by
  have h64 : (2 : Nat) ^ k ≤ 2 ^ 6 := Nat.pow_le_pow_right (by decide) hk
  have h1k : 1 ≤ 2 ^ k := Nat.one_le_pow k 2 (by decide)
  obtain ⟨⟨b, j5, j6, j8, j9, j10⟩, h1, h2, h3⟩ := pv_loop (R := fun t (w : pv_U × Option Value × Option Value × Option Value × Option Value × Option Value) => RR (pv_X0 L xs) (d + 1) 37 10 [some (.ref 22), some (.int (jI r)), some (.int (jI q)), some (.int (jI k)), some (.int (jI (t + 1))), w.2.1, w.2.2.1, none, w.2.2.2.1, w.2.2.2.2.1, w.2.2.2.2.2, none] [] (enc w.1)) (P := fun t w => mfr a w.1 ∧ ∀ S', S' < t + 1 → gB w.1 12 S' = Int64.ofInt (ent M (skN r) (skN q) S')) (N := 2 ^ k - 1) (fun t w ht hw => by
    obtain ⟨b, j5, j6, j8, j9, j10⟩ := w
    obtain ⟨g1, g2⟩ := hw
    have hS : t + 1 < 2 ^ k := by omega
    have hS6 : t + 1 < 64 := by omega
    have ba := bits_all (t + 1) hS6
    have hp0 := ba.2.2.1 (by omega)
    have hpk : pop (t + 1) ≤ k := by
      have : ∀ k, k < 7 → ∀ S, S < 2 ^ k → pop S ≤ k := by decide +kernel
      exact this k (by omega) _ hS
    have f' : ∀ i j, i < n → j < n → gB b (4 + i) j = Int64.ofInt (M i j) := fun i j hi hj => by
      have : gB b (4 + i) = gB a (4 + i) := g1.2.2.2 (4 + i) (by omega)
      rw [this]
      exact f i j hi hj
    obtain ⟨s', jj', hI⟩ := C_minI (L := L) (xs := xs) (d := d + 1) (r := r) (q := q) (S := t + 1) hk hn6 f' (hr _ (by omega)) hq hq7 hS g2 (jI r) j10
    have hsum : sI (entT M (skN r) (skN q) (t + 1)) k = ent M (skN r) (skN q) (t + 1) := by
      rw [ent_rec hS6 (by omega)]
      exact (sI_skip hk (fun c hc _ => entT_hi hc hS)).symm
    rw [hsum] at hI
    refine ⟨(uB b 12 (t + 1) (Int64.ofInt (ent M (skN r) (skN q) (t + 1))), some (.int (jI (skN r (pop (t + 1) - 1)))), some (.long (Int64.ofInt (ent M (skN r) (skN q) (t + 1)))), some (.int s'), some (.int (jI 0 - 1)), jj'), ?_, mfr_B g1, fun S' hS' => ?_⟩
    · show RR (pv_X0 L xs) (d + 1) 37 10 _ _ _ = _
      rw [B37_10, shl1 k (by omega), if_neg (show ¬ jI (2 ^ k) ≤ jI (t + 1) by rw [jI_le (by omega) (by omega)]; omega), C_bits hS6, pv_bd_some]
      simp only [Option.toList_some, List.cons_append, List.nil_append]
      have e1 : jI (pop (t + 1)) - 1 = jI (pop (t + 1) - 1) := jI_sub (b := 1) (by omega)
      have row : RR (pv_X0 L xs) (d + 1) 37 23 [some (.ref 22), some (.int (jI r)), some (.int (jI q)), some (.int (jI k)), some (.int (jI (t + 1))), j5, j6, none, j8, j9, j10, none] [.int (jI (pop (t + 1)))] (enc b) = RR (pv_X0 L xs) (d + 1) 37 54 [some (.ref 22), some (.int (jI r)), some (.int (jI q)), some (.int (jI k)), some (.int (jI (t + 1))), some (.int (jI (skN r (pop (t + 1) - 1)))), some (.long 0), none, some (.int 1), some (.int (jI k - 1)), j10, none] [] (enc b) := by
        rw [B37_23, e1]
        unfold skN
        by_cases c1 : pop (t + 1) - 1 < r
        · rw [if_pos (show jI (pop (t + 1) - 1) < jI r by rw [jI_lt (by omega) (by omega)]; exact c1), if_pos c1, Int32.add_zero]
        · rw [if_neg (show ¬ jI (pop (t + 1) - 1) < jI r by rw [jI_lt (by omega) (by omega)]; exact c1), if_neg c1, jI_succ]
      rw [row, hI, B37_54, if_pos (by decide), pv_ixn (by omega) (by decide), jI_succ]
    · rw [gB_uB, if_pos rfl]
      by_cases e : S' = t + 1
      · rw [if_pos e, e]
      · rw [if_neg e]
        exact g2 S' (by omega)) (a0 := (uB a 12 0 1, none, none, none, none, none)) ⟨mfr_B mfr_refl, fun S' hS' => by
    have e : S' = 0 := by omega
    subst e
    rw [gB_uB, if_pos rfl, if_pos rfl]
    rfl⟩
  refine ⟨b, ?_, h2⟩
  rw [B37_0]
  refine h1.trans ?_
  show RR (pv_X0 L xs) (d + 1) 37 10 _ _ _ = _
  have h3' : ∀ S', S' < 2 ^ k - 1 + 1 → gB b 12 S' = Int64.ofInt (ent M (skN r) (skN q) S') := h3
  have e1 : jI (2 ^ k) - 1 = jI (2 ^ k - 1) := jI_sub (b := 1) h1k
  rw [B37_10, shl1 k (by omega), if_pos (show jI (2 ^ k) ≤ jI (2 ^ k - 1 + 1) by rw [jI_le (by omega) (by omega)]; omega), e1, pv_ixn (by omega) (by decide), h3' _ (by omega)]
end MINOR
