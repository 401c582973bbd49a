/-! the reference's minors (printed by wip/whole/ops/pp.py) -/
/-- c is b but for the reference's minors -/
def mfq (b c : pv_U) : Prop := (∀ i, gI c i = gI b i) ∧ (∀ i, gJ c i = gJ b i) ∧ (∀ r, gA c r = gA b r) ∧ ∀ r, ¬ r = 22 → gB c r = gB b r
theorem kern1 : ∀ S, S < 64 → 0 < S → jI S &&& (jI S - (1 : Int32)) = jI (S &&& (S - 1)) ∧ pop (S &&& (S - 1)) + 1 = pop S ∧ S &&& (S - 1) < 64 := by decide +kernel
theorem pop_0 : ∀ S, S < 64 → (pop S = 0 ↔ S = 0) := by decide +kernel
theorem andn1 : ∀ S, S < 64 → ∀ c, c < 6 → S.testBit c = true → jI S &&& (((1 : Int32) <<< (jI c &&& 31)) ^^^ (-1 : Int32)) = jI (S ^^^ (1 <<< c)) := by decide +kernel
theorem sub1S : ∀ S, S < 64 → ∀ C, C < 64 → (jI S &&& (jI C ^^^ (-1 : Int32)) = 0 ↔ S &&& C = S) := by decide +kernel
theorem subx : ∀ S, S < 64 → ∀ C, C < 64 → S &&& C = S → ∀ c, c < 6 → S.testBit c = true → (S ^^^ (1 <<< c)) &&& C = S ^^^ (1 <<< c) := by decide +kernel
theorem allC : ∀ n, n < 7 → ∀ q, q < n → (jI (2 ^ n) - (1 : Int32)) &&& (((1 : Int32) <<< (jI q &&& 31)) ^^^ (-1 : Int32)) = jI ((2 ^ n - 1) ^^^ (1 <<< q)) ∧ ((2 ^ n - 1) ^^^ (1 <<< q)) < 2 ^ n := by decide +kernel
section MINORM
variable {L : Nat} {xs : Nat → Int32} {u v a b c : pv_U} {d k n N i j r q S C : Nat} {x y z w x1 : Int32} {M : Nat → Nat → Int} {rm : Nat → Nat}
theorem mfq_refl : mfq a a := ⟨fun _ => rfl, fun _ => rfl, fun _ => rfl, fun _ _ => rfl⟩
theorem mfq_trans (h : mfq a b) (h2 : mfq b c) : mfq a c := ⟨fun i => (h2.1 i).trans (h.1 i), fun i => (h2.2.1 i).trans (h.2.1 i), fun r => (h2.2.2.1 r).trans (h.2.2.1 r), fun r hr => (h2.2.2.2 r hr).trans (h.2.2.2 r hr)⟩
theorem mfq_B {v : Int64} (h : mfq a b) : mfq a (uB b 22 k v) := ⟨h.1, h.2.1, h.2.2.1, fun q hq => Eq.trans (funext fun m => by rw [gB_uB, if_neg hq]) (h.2.2.2 q hq)⟩
theorem mfq_scr (h : mfq a b) (s : scr u a) : scr u b := ⟨fun i hi => (h.1 i).trans (s.1 i hi), fun i hi => (h.2.1 i).trans (s.2.1 i hi), fun r hr => (h.2.2.1 r).trans (s.2.2.1 r hr), fun r hr => (h.2.2.2 r (by omega)).trans (s.2.2.2 r hr)⟩
theorem M_bitL {m acc : Nat} (hS : S < 64) (hm : pop S ≤ m) (ha : acc + m < 100) : RR (pv_X0 L xs) d 149 4 [some (.int x), some (.int (jI acc)), some (.int (jI S))] [] (enc u) = some (some (.int (jI (acc + pop S))), enc u) := by
  induction m generalizing S acc with
  | zero =>
    have h0 : pop S = 0 := by omega
    rw [(pop_0 S hS).mp h0]
    rw [B149_4, if_pos (show jI 0 = 0 from rfl)]
    rfl
  | succ m ih =>
    by_cases e : S = 0
    · rw [e, B149_4, if_pos (show jI 0 = 0 from rfl)]
      rfl
    · obtain ⟨k1, k2, k3⟩ := kern1 S hS (by omega)
      rw [B149_4, if_neg (show ¬ jI S = 0 by show ¬ jI S = jI 0; rw [jI_eq (by omega) (by omega)]; exact e), k1, jI_succ, ih k3 (by omega) (by omega)]
      rw [show acc + 1 + pop (S &&& (S - 1)) = acc + pop S by omega]
theorem M_bits (hS : S < 64) : RR (pv_X0 L xs) d 149 0 [some (.int (jI S)), none, none] [] (enc u) = some (some (.int (jI (pop S))), enc u) := by
  have h6 := (bits_all S hS).2.2.2
  rw [B149_0]
  refine (M_bitL (acc := 0) hS h6 (by omega)).trans ?_
  rw [Nat.zero_add]
theorem par1 {m : Nat} (hm : m < 1000) : (jI m - jI m / 2 * 2 = 0) ↔ m % 2 = 0 := by
  have e1 : jI m / 2 = jI (m / 2) := jI_div (b := 2) (by omega) (by omega)
  have e2 : jI (m / 2) * 2 = jI (m / 2 * 2) := jI_mul (b := 2)
  rw [e1, e2, jI_sub (by omega)]
  show jI (m - m / 2 * 2) = jI 0 ↔ _
  rw [jI_eq (by omega) (by omega)]
  omega
theorem M_minI (hn6 : n ≤ 6) (h15 : gI b 15 = jI n) (f : ∀ i j, i < n → j < n → gB b 19 (6 * i + j) = Int64.ofInt (M i j)) (hr : rm (pop S - 1) < n) (hS : S < 2 ^ n) (hC : C < 64) (hSC : S &&& C = S) (g : ∀ S', S' < S → S' &&& C = S' → gB b 22 S' = Int64.ofInt (ent M rm (fun t => t) S')) {x2 x3 x4 : Int32} (jj : Option Value) : ∃ s' jj', RR (pv_X0 L xs) d 148 99 [some (.ref 55), some (.int x1), some (.int x2), some (.int x3), some (.int x4), some (.int (jI S)), some (.int (jI (rm (pop S - 1)))), some (.int (jI (pop S) - 1)), some (.long 0), none, some (.int 0), jj, none] [] (enc b) = RR (pv_X0 L xs) d 148 99 [some (.ref 55), some (.int x1), some (.int x2), some (.int x3), some (.int x4), some (.int (jI S)), some (.int (jI (rm (pop S - 1)))), some (.int s'), some (.long (Int64.ofInt (sI (entT M rm (fun t => t) S) n))), none, some (.int (jI n)), jj', none] [] (enc b) := by
  have h64 : (2 : Nat) ^ n ≤ 2 ^ 6 := Nat.pow_le_pow_right (by decide) hn6
  have hS6 : S < 64 := by omega
  obtain ⟨⟨s, s', jj'⟩, h1, h2, h3⟩ := pv_loop (R := fun m (t : Int64 × Int32 × Option Value) => RR (pv_X0 L xs) d 148 99 [some (.ref 55), some (.int x1), some (.int x2), some (.int x3), some (.int x4), some (.int (jI S)), some (.int (jI (rm (pop S - 1)))), some (.int t.2.1), some (.long t.1), none, some (.int (jI m)), t.2.2, none] [] (enc b)) (P := fun m t => t.1 = Int64.ofInt (sI (entT M rm (fun t => t) S) m) ∧ t.2.1 = jI (pop (S >>> m)) - 1) (N := n) (fun c t hc ht => by
    obtain ⟨t1, t2, t3⟩ := t
    obtain ⟨ht1, ht2⟩ := ht
    have ht1 : t1 = _ := ht1
    have ht2 : t2 = _ := ht2
    subst ht1 ht2
    have hp := pop_sh S hS6 c (by omega)
    have hp6 : ∀ m, m < 7 → pop (S >>> m) ≤ 6 := by
      have : ∀ S, S < 64 → ∀ m, m < 7 → pop (S >>> m) ≤ 6 := by decide +kernel
      exact this S hS6
    have b1 := bit1 S hS6 c (by omega)
    have eT : sI (entT M rm (fun t => t) S) (c + 1) = sI (entT M rm (fun t => t) S) c + entT M rm (fun t => t) S c := rfl
    have i1 : (6 : Int32) * jI (rm (pop S - 1)) + jI c = jI (6 * rm (pop S - 1) + c) := by
      show jI 6 * jI (rm (pop S - 1)) + jI c = _
      rw [jI_mul, jI_add]
    by_cases hb : S.testBit c = true
    · have hp' : pop (S >>> c) = pop (S >>> (c + 1)) + 1 := by rw [hp, hb]; rfl
      have hlt := (xor1 S hS6 c (by omega)).2 hb
      have e7 : jI (pop (S >>> c)) - 1 = jI (pop (S >>> (c + 1))) := by
        rw [hp']
        exact jI_sub (b := 1) (by omega)
      have en : jI (pop (S >>> (c + 1))) + -1 = jI (pop (S >>> (c + 1))) - 1 := by grind
      refine ⟨(Int64.ofInt (sI (entT M rm (fun t => t) S) (c + 1)), jI (pop (S >>> (c + 1))) - 1, some (.long (Int64.ofInt (M (rm (pop S - 1)) c) * Int64.ofInt (ent M rm (fun t => t) (S ^^^ (1 <<< c)))))), ?_, rfl, rfl⟩
      show RR (pv_X0 L xs) d 148 99 _ _ _ = _
      rw [B148_99, h15, if_neg (jI_run hc (by omega)), if_neg (jI_run hr (by omega)), if_pos (b1.mpr hb), i1, pv_ixn (by omega) (by decide), andn1 S hS6 c (by omega) hb, pv_ixn (by omega) (by decide), f _ c hr hc, g _ hlt (subx S hS6 C hC hSC c (by omega) hb), e7, en, jI_succ, ← Int64.ofInt_mul, eT]
      have eE : entT M rm (fun t => t) S c = sg (pop (S >>> (c + 1))) * M (rm (pop S - 1)) c * ent M rm (fun t => t) (S ^^^ (1 <<< c)) := by
        unfold entT
        rw [if_pos hb]
      have h6 := hp6 (c + 1) (by omega)
      by_cases hq : pop (S >>> (c + 1)) % 2 = 0
      · have es : sg (pop (S >>> (c + 1))) = 1 := if_pos hq
        rw [if_pos ((par1 (by omega)).mpr hq), ← Int64.ofInt_add, eE, es, Int.one_mul]
      · have es : sg (pop (S >>> (c + 1))) = -1 := if_neg hq
        rw [if_neg (fun q => hq ((par1 (by omega)).mp q)), ← Int64.ofInt_neg, ← Int64.ofInt_add, eE, es]
        rw [show (-1 : Int) * M (rm (pop S - 1)) c * ent M rm (fun t => t) (S ^^^ (1 <<< c)) = -(M (rm (pop S - 1)) c * ent M rm (fun t => t) (S ^^^ (1 <<< c))) by grind]
    · have hb' : S.testBit c = false := by cases h : S.testBit c with | false => rfl | true => exact absurd h hb
      refine ⟨(Int64.ofInt (sI (entT M rm (fun t => t) S) (c + 1)), jI (pop (S >>> (c + 1))) - 1, t3), ?_, rfl, rfl⟩
      show RR (pv_X0 L xs) d 148 99 _ _ _ = _
      have ev : sI (entT M rm (fun t => t) S) (c + 1) = sI (entT M rm (fun t => t) S) c := by
        rw [eT]
        unfold entT
        rw [if_neg hb, Int.add_zero]
      have hp' : pop (S >>> c) = pop (S >>> (c + 1)) := by rw [hp, hb']; rfl
      rw [B148_99, h15, if_neg (jI_run hc (by omega)), if_neg (jI_run hr (by omega)), if_neg (fun q => hb (b1.mp q)), jI_succ, ev, hp']) (a0 := (0, jI (pop S) - 1, jj)) ⟨rfl, rfl⟩
  have h2' : s = Int64.ofInt (sI (entT M rm (fun t => t) S) n) := h2
  refine ⟨s', jj', ?_⟩
  rw [← h2']
  exact h1
theorem M_minor (hn6 : n ≤ 6) (h15 : gI a 15 = jI n) (f : ∀ i j, i < n → j < n → gB a 19 (6 * i + j) = Int64.ofInt (M i j)) (hx : (x1 < 0 ∧ ∀ i, rm i = i) ∨ ∃ r, r < 100 ∧ x1 = jI r ∧ rm = skN r) (hC : C < 2 ^ n) (hr : ∀ S, S < 64 → 0 < S → S &&& C = S → rm (pop S - 1) < n) {x2 : Int32} : ∃ b, RR (pv_X0 L xs) (d + 1) 148 36 [some (.ref 55), some (.int x1), some (.int x2), some (.int (jI (2 ^ n - 1))), some (.int (jI C)), some (.int 1), none, none, none, none, none, none, none] [] (enc (uB a 22 0 1)) = some (some (.long (Int64.ofInt (ent M rm (fun t => t) C))), enc b) ∧ mfq a b := by
  have h64 : (2 : Nat) ^ n ≤ 2 ^ 6 := Nat.pow_le_pow_right (by decide) hn6
  have h1n : 1 ≤ 2 ^ n := Nat.one_le_pow n 2 (by decide)
  obtain ⟨⟨b, j6, j7, j8, j10, j11⟩, h1, h2, h3⟩ := pv_loop (R := fun t (w : pv_U × Option Value × Option Value × Option Value × Option Value × Option Value) => RR (pv_X0 L xs) (d + 1) 148 36 [some (.ref 55), some (.int x1), some (.int x2), some (.int (jI (2 ^ n - 1))), some (.int (jI C)), some (.int (jI (t + 1))), w.2.1, w.2.2.1, w.2.2.2.1, none, w.2.2.2.2.1, w.2.2.2.2.2, none] [] (enc w.1)) (P := fun t w => mfq a w.1 ∧ ∀ S', S' < t + 1 → S' &&& C = S' → gB w.1 22 S' = Int64.ofInt (ent M rm (fun t => t) S')) (N := 2 ^ n - 1) (fun t w ht hw => by
    obtain ⟨b, j6, j7, j8, j10, j11⟩ := w
    obtain ⟨g1, g2⟩ := hw
    have hS : t + 1 < 2 ^ n := by omega
    have hS6 : t + 1 < 64 := by omega
    have e15 : gI b 15 = jI n := (g1.1 15).trans h15
    have lt : ¬ jI (2 ^ n - 1) < jI (t + 1) := by rw [jI_lt (by omega) (by omega)]; omega
    by_cases hSC : (t + 1) &&& C = t + 1
    case neg =>
      refine ⟨(b, j6, j7, j8, j10, j11), ?_, g1, fun S' hS' hc => ?_⟩
      · show RR (pv_X0 L xs) (d + 1) 148 36 _ _ _ = _
        rw [B148_36, if_neg lt, if_neg (fun q => hSC ((sub1S (t + 1) hS6 C (by omega)).mp q)), jI_succ]
      · by_cases e : S' = t + 1
        · rw [e] at hc
          exact absurd hc hSC
        · exact g2 S' (by omega) hc
    have hrS := hr (t + 1) hS6 (by omega) hSC
    have f' : ∀ i j, i < n → j < n → gB b 19 (6 * i + j) = Int64.ofInt (M i j) := fun i j hi hj => by
      have : gB b 19 = gB a 19 := g1.2.2.2 19 (by decide)
      rw [this]
      exact f i j hi hj
    obtain ⟨s', jj', hI⟩ := M_minI (L := L) (xs := xs) (d := d + 1) (S := t + 1) (C := C) (x1 := x1) (x2 := x2) (x3 := jI (2 ^ n - 1)) (x4 := jI C) hn6 e15 f' hrS hS (by omega) hSC g2 j11
    have hsum : sI (entT M rm (fun t => t) (t + 1)) n = ent M rm (fun t => t) (t + 1) := by
      rw [ent_rec hS6 (by omega)]
      exact (sI_skip hn6 (fun c hc _ => entT_hi hc hS)).symm
    rw [hsum] at hI
    have hp0 := (bits_all (t + 1) hS6).2.2.1 (by omega)
    have hp6 := (bits_all (t + 1) hS6).2.2.2
    refine ⟨(uB b 22 (t + 1) (Int64.ofInt (ent M rm (fun t => t) (t + 1))), some (.int (jI (rm (pop (t + 1) - 1)))), some (.int s'), some (.long (Int64.ofInt (ent M rm (fun t => t) (t + 1)))), some (.int (jI n)), jj'), ?_, mfq_B g1, fun S' hS' hc => ?_⟩
    · show RR (pv_X0 L xs) (d + 1) 148 36 _ _ _ = _
      have e1 : jI (pop (t + 1)) - 1 = jI (pop (t + 1) - 1) := jI_sub (b := 1) (by omega)
      have row : RR (pv_X0 L xs) (d + 1) 148 60 [some (.ref 55), some (.int x1), some (.int x2), some (.int (jI (2 ^ n - 1))), some (.int (jI C)), some (.int (jI (t + 1))), j6, j7, j8, none, j10, j11, none] [.int (jI (pop (t + 1)))] (enc b) = RR (pv_X0 L xs) (d + 1) 148 99 [some (.ref 55), some (.int x1), some (.int x2), some (.int (jI (2 ^ n - 1))), some (.int (jI C)), some (.int (jI (t + 1))), some (.int (jI (rm (pop (t + 1) - 1)))), some (.int (jI (pop (t + 1)) - 1)), some (.long 0), none, some (.int 0), j11, none] [] (enc b) := by
        rw [B148_60, e1]
        rcases hx with ⟨x0, hrm⟩ | ⟨r, hr1, hxr, hrm⟩
        · rw [if_pos x0, M_bits hS6, pv_bd_some, Int32.add_zero, hrm]
          simp only [Option.toList_some, List.cons_append, List.nil_append]
          rw [B148_89, e1]
        · have nx : ¬ x1 < 0 := by
            rw [hxr]
            show ¬ jI r < jI 0
            rw [jI_lt (by omega) (by omega)]
            omega
          rw [if_neg nx, hrm, hxr]
          unfold skN
          by_cases c1 : pop (t + 1) - 1 < r
          · rw [if_pos (show jI (pop (t + 1) - 1) < jI r by rw [jI_lt (by omega) (by omega)]; exact c1), if_pos c1, M_bits hS6, pv_bd_some, Int32.add_zero]
            simp only [Option.toList_some, List.cons_append, List.nil_append]
            rw [B148_89, e1]
          · rw [if_neg (show ¬ jI (pop (t + 1) - 1) < jI r by rw [jI_lt (by omega) (by omega)]; exact c1), if_neg c1, M_bits hS6, pv_bd_some, jI_succ]
            simp only [Option.toList_some, List.cons_append, List.nil_append]
            rw [B148_89, e1]
      rw [B148_36, if_neg lt, if_pos ((sub1S (t + 1) hS6 C (by omega)).mpr hSC), M_bits hS6, pv_bd_some]
      simp only [Option.toList_some, List.cons_append, List.nil_append]
      rw [row, hI, B148_99, e15, if_pos jI_end, pv_ixn (by omega) (by decide), jI_succ]
    · rw [gB_uB, if_pos rfl]
      by_cases e : S' = t + 1
      · rw [if_pos e, e]
      · rw [if_neg e]
        exact g2 S' (by omega) hc) (a0 := (uB a 22 0 1, none, none, none, none, none)) ⟨mfq_B mfq_refl, fun S' hS' _ => by
    have e : S' = 0 := by omega
    subst e
    rw [gB_uB, if_pos rfl, if_pos rfl]
    rfl⟩
  refine ⟨b, ?_, h2⟩
  refine h1.trans ?_
  show RR (pv_X0 L xs) (d + 1) 148 36 _ _ _ = _
  have h3' : ∀ S', S' < 2 ^ n - 1 + 1 → S' &&& C = S' → gB b 22 S' = Int64.ofInt (ent M rm (fun t => t) S') := h3
  rw [B148_36, if_pos (show jI (2 ^ n - 1) < jI (2 ^ n - 1 + 1) by rw [jI_lt (by omega) (by omega)]; omega), pv_ixn (by omega) (by decide), h3' _ (by omega) (Nat.and_self C)]
end MINORM
