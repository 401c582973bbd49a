/-! place (printed by wip/whole/ops/pp.py) -/
abbrev ah2 (T : Nat → Nat) (V : Nat → Int64) (i j : Nat) : Prop := T j < T i ∨ (T i = T j ∧ ahV V i j)
def rkC (c : Nat → Nat) (p : Nat) : Nat → Int32
  | 0 => -1
  | k + 1 => if c k = p then jI k else rkC c p k
section PLACE
variable {L : Nat} {xs : Nat → Int32} {u v a b c : pv_U} {d k n N F i j r q S C p t H A : Nat} {x y z w m day lo w4 e1 e2 : Int32} {M M2 : Nat → Nat → Int} {bl det : Int64} {mt : Nat → Nat → Nat} {pl : Nat → Nat} {R R2 : Nat → Int64} {V : Nat → Int64} {o o1 : Nat → Nat} {wg : Bool} {T : Nat → Nat}
theorem ah2_ir : ∀ a, ¬ ah2 T V a a := fun a h => by
  unfold ah2 ahV at h
  omega
theorem ah2_tr : ∀ a b c, ah2 T V a b → ah2 T V b c → ah2 T V a c := fun a b c h1 h2 => by
  unfold ah2 ahV at *
  omega
theorem stS_trans {A B : Nat → Nat → Prop} (h : stS A o1 n o) (g : stS B (fun q => q) n o1) : stS A (fun q => q) n o := by
  obtain ⟨h1, h2, h3, h4⟩ := h
  obtain ⟨g1, g2, g3, g4⟩ := g
  refine ⟨fun p => (h1 p).trans (g1 p), h2, fun i hi => ?_, fun q hq => (h4 q hq).trans (g4 q hq)⟩
  obtain ⟨j, hj, ej⟩ := h3 i hi
  obtain ⟨m, hm, em⟩ := g3 j hj
  exact ⟨m, hm, ej.trans em⟩
theorem rkC_of {c : Nat → Nat} {m : Nat} (hm : m < n) (h : ∀ k, k < n → (c k = p ↔ k = m)) : rkC c p n = jI m := by
  have : ∀ k, k ≤ n → m < k → rkC c p k = jI m := by
    intro k
    induction k with
    | zero => exact fun _ h => absurd h (by omega)
    | succ k ih =>
      intro hk ho
      show (if c k = p then jI k else rkC c p k) = _
      by_cases e : k = m
      · rw [if_pos ((h k (by omega)).mpr e), e]
      · rw [if_neg (fun q => e ((h k (by omega)).mp q))]
        exact ih (by omega) (by omega)
  exact this n (Nat.le_refl _) hm
theorem C_ins2 (hn6 : n ≤ 6) (hk : k < n) (hT : ∀ t, T t < 1000) (h22 : ∀ t, t < n → gA a 22 t = jI (T t)) (f : ofr a b) (h1s : stS (ahV V) (fun q => q) n o1) (ho : stS (ah2 T V) o1 k o) (w : ∀ q, q < n → gA b 21 q = jI (o q)) : ∃ b' o' x', RR (pv_X0 L xs) (d + 1) 76 28 [some (.ref 41), some (.ref 1), some (.ref 22), some (.int day), some (.int (jI k)), some (.int (jI k))] [] (enc b) = RR (pv_X0 L xs) (d + 1) 76 15 [some (.ref 41), some (.ref 1), some (.ref 22), some (.int day), some (.int (jI (k + 1))), x'] [] (enc b') ∧ ofr a b' ∧ stS (ah2 T V) o1 (k + 1) o' ∧ ∀ q, q < n → gA b' 21 q = jI (o' q) := by
  have lt1 : ∀ i, i < n → o1 i < n := fun i hi => by
    obtain ⟨j, hj, ej⟩ := h1s.2.2.1 i hi
    rw [ej]
    exact hj
  rcases pv_loopQ (R := fun m (t : (Nat → Nat) × pv_U) => RR (pv_X0 L xs) (d + 1) 76 28 [some (.ref 41), some (.ref 1), some (.ref 22), some (.int day), some (.int (jI k)), some (.int (jI (k - m)))] [] (enc t.2)) (P := fun m t => stI (ah2 T V) o1 k (k - m) t.1 ∧ ofr a t.2 ∧ ∀ q, q < n → gA t.2 21 q = jI (t.1 q)) (Q := fun r => ∃ b' o' x', r = RR (pv_X0 L xs) (d + 1) 76 15 [some (.ref 41), some (.ref 1), some (.ref 22), some (.int day), some (.int (jI (k + 1))), x'] [] (enc b') ∧ ofr a b' ∧ stS (ah2 T V) o1 (k + 1) o' ∧ ∀ q, q < n → gA b' 21 q = jI (o' q)) (N := k) (fun m t hm ht => by
    obtain ⟨o, b⟩ := t
    obtain ⟨h1, h2, h3⟩ := ht
    have h1 : stI (ah2 T V) o1 k (k - m) o := h1
    have h2 : ofr a b := h2
    have h3 : ∀ q, q < n → gA b 21 q = jI (o q) := h3
    have hx : 1 ≤ k - m := by omega
    have em : jI (k - m) - 1 = jI (k - m - 1) := jI_sub (b := 1) hx
    have e1 : o (k - m) = o1 k := h1.2.1
    obtain ⟨j, hj, ej⟩ := h1.2.2.2.2.2.1 (k - m - 1) (by omega) (by omega)
    have l1 := lt1 k hk
    have l2 := lt1 j (by omega)
    have av := h1s.2.1 j k hj hk
    have st : ∀ r, (if gA b 22 (o1 k) ≤ gA b 22 (o1 j) then RR (pv_X0 L xs) (d + 1) 76 15 [some (.ref 41), some (.ref 1), some (.ref 22), some (.int day), some (.int (jI (k + 1))), some (.int (jI (k - m)))] [] (enc b) else (pv_bd (RR (pv_X0 L xs) d 51 0 [some (.ref 41), some (.int (jI (k - m))), none] [] (enc b)) fun v w => RR (pv_X0 L xs) (d + 1) 76 68 [some (.ref 41), some (.ref 1), some (.ref 22), some (.int day), some (.int (jI k)), some (.int (jI (k - m)))] (v.toList ++ []) w)) = r → RR (pv_X0 L xs) (d + 1) 76 28 [some (.ref 41), some (.ref 1), some (.ref 22), some (.int day), some (.int (jI k)), some (.int (jI (k - m)))] [] (enc b) = r := fun r hr => by
      rw [B76_28, if_neg (show ¬ jI (k - m) ≤ (0 : Int32) from (show ¬ jI (k - m) ≤ jI 0 by rw [jI_le (by omega) (by omega)]; omega)), em, pv_ixn (by omega) (by decide), h3 _ (by omega), e1, pv_ixn (by omega) (by decide), pv_ixn (by omega) (by decide), h3 _ (by omega), ej, pv_ixn (by omega) (by decide), jI_succ]
      exact hr
    have e22 : gA b 22 = gA a 22 := h2.2.2.1 22 (by decide)
    have cc : gA b 22 (o1 k) ≤ gA b 22 (o1 j) ↔ T (o1 k) ≤ T (o1 j) := by
      rw [e22, h22 _ l1, h22 _ l2]
      have t1 := hT (o1 k)
      have t2 := hT (o1 j)
      exact jI_le (by omega) (by omega)
    by_cases c : T (o1 k) ≤ T (o1 j)
    · refine Or.inl ⟨b, o, some (.int (jI (k - m))), st _ ?_, h2, ?_, h3⟩
      · rw [if_pos (cc.mpr c)]
      · refine stS_of h1 ah2_tr (Or.inr ?_)
        rw [ej]
        unfold ah2
        by_cases e : T (o1 k) < T (o1 j)
        · exact Or.inl e
        · exact Or.inr ⟨by omega, av⟩
    · refine Or.inr ?_
      obtain ⟨b', p1, p2, p3⟩ := C_swap (L := L) (xs := xs) (d := d) (a := b) hx (by omega)
      refine ⟨(swp (k - m) o, b'), st _ ?_, ?_, ofr_trans h2 p2, fun q hq => ?_⟩
      · rw [if_neg (fun e => c (cc.mp e)), p1, pv_bd_some]
        simp only [Option.toList_none, List.nil_append]
        rw [B76_68, jI_dec hx, show k - m - 1 = k - (m + 1) by omega]
      · show stI (ah2 T V) o1 k (k - (m + 1)) (swp (k - m) o)
        rw [show k - (m + 1) = k - m - 1 by omega]
        exact stI_swp h1 hx (Or.inl (by rw [ej]; omega))
      · show gA b' 21 q = jI (swp (k - m) o q)
        rw [p3]
        unfold swp
        by_cases f1 : q = k - m
        · rw [if_pos f1, if_pos f1, h3 _ (by omega)]
        · rw [if_neg f1, if_neg f1]
          by_cases f2 : q = k - m - 1
          · rw [if_pos f2, if_pos f2, h3 _ (by omega)]
          · rw [if_neg f2, if_neg f2, h3 _ hq]) (a0 := (o, b)) ⟨by rw [Nat.sub_zero]; exact stI_of ho, f, w⟩ with q | ⟨⟨o', b'⟩, h1, h2, h3, h4⟩
  · exact q
  · refine ⟨b', o', some (.int (jI 0)), h1.trans ?_, h3, stS_of h2 ah2_tr (Or.inl (by omega)), h4⟩
    show RR (pv_X0 L xs) (d + 1) 76 28 _ _ _ = _
    rw [Nat.sub_self, B76_28, if_pos (show jI 0 ≤ (0 : Int32) from jI_end), jI_succ]
theorem C_byScores (h : Inv u) (hn6 : n ≤ 6) (h30 : N ≤ 30) (hn : gI u 1 = jI n) (hN : gI u 2 = jI N) (hF : gI u 3 = jI F) (h12 : F ≤ 12) (s : scr u a) (h10 : gI a 10 = jI n) (hV : ∀ i, i < n → gB a 11 i = V i) : ∃ b o, RR (pv_X0 L xs) (d + 2) 76 0 [some (.ref 41), some (.ref 1), some (.ref 22), some (.int day), none, none] [] (enc a) = some (none, enc b) ∧ scr u b ∧ stS (ah2 (scT u day V N F) V) (fun q => q) n o ∧ ∀ q, q < n → gA b 21 q = jI (o q) := by
  obtain ⟨b1, o1, p1, p2, p3, p4⟩ := C_byRatings (L := L) (xs := xs) (d := d) (a := a) (V := V) h10 hn6 hV
  have s1 : scr u b1 := ⟨fun i hi => (p2.1 i).trans (s.1 i hi), fun i hi => (p2.2.1 i).trans (s.2.1 i hi), fun r hr => (p2.2.2.1 r (by omega)).trans (s.2.2.1 r hr), fun r hr => (p2.2.2.2 r).trans (s.2.2.2 r hr)⟩
  obtain ⟨b2, q1, q2, q3⟩ := C_tell (L := L) (xs := xs) (d := d) (day := day) (a := b1) (V := V) h hn6 h30 hn hN hF h12 s1 ((p2.1 10).trans h10) (fun i hi => by rw [p2.2.2.2]; exact hV i hi)
  have s2 := sfr_scr s1 q2
  have e10 : gI b2 10 = jI n := (q2.1 10).trans ((p2.1 10).trans h10)
  obtain ⟨⟨o, x, b⟩, h1, h2, h3, h4⟩ := pv_loop (R := fun k (t : (Nat → Nat) × Option Value × pv_U) => RR (pv_X0 L xs) (d + 2) 76 15 [some (.ref 41), some (.ref 1), some (.ref 22), some (.int day), some (.int (jI k)), t.2.1] [] (enc t.2.2)) (P := fun k t => ofr b2 t.2.2 ∧ stS (ah2 (scT u day V N F) V) o1 k t.1 ∧ ∀ q, q < n → gA t.2.2 21 q = jI (t.1 q)) (N := n) (fun k t hk ht => by
    obtain ⟨o, x, b⟩ := t
    obtain ⟨h1, h2, h3⟩ := ht
    have h1 : ofr b2 b := h1
    have h2 : stS (ah2 (scT u day V N F) V) o1 k o := h2
    have h3 : ∀ q, q < n → gA b 21 q = jI (o q) := h3
    obtain ⟨b', o', x', r1, r2, r3, r4⟩ := C_ins2 (L := L) (xs := xs) (d := d + 1) (day := day) hn6 hk (fun t => Nat.lt_of_le_of_lt (scT_le h30 h12) (by decide)) q3 h1 p3 h2 h3
    refine ⟨(o', x', b'), ?_, r2, r3, r4⟩
    show RR (pv_X0 L xs) (d + 2) 76 15 _ _ _ = _
    rw [B76_15, (h1.1 10).trans e10, if_neg (jI_run hk (by omega)), r1]) (a0 := (o1, none, b2)) ⟨ofr_refl, stS_0, fun q hq => by rw [q2.2.2.1 21 (by decide)]; exact p4 q hq⟩
  have h2 : ofr b2 b := h2
  refine ⟨b, o, ?_, ⟨fun i hi => (h2.1 i).trans (s2.1 i hi), fun i hi => (h2.2.1 i).trans (s2.2.1 i hi), fun r hr => (h2.2.2.1 r (by omega)).trans (s2.2.2.1 r hr), fun r hr => (h2.2.2.2 r).trans (s2.2.2.2 r hr)⟩, stS_trans h3 p3, h4⟩
  rw [B76_0, p1, pv_bd_some]
  simp only [Option.toList_none, List.nil_append]
  rw [B76_5, q1, pv_bd_some]
  simp only [Option.toList_none, List.nil_append]
  rw [B76_12]
  refine h1.trans ?_
  show RR (pv_X0 L xs) (d + 2) 76 15 _ _ _ = _
  rw [B76_15, (h2.1 10).trans e10, if_pos jI_end]
theorem M_placeIn (h : Inv u) (hn6 : n ≤ 6) (h30 : N ≤ 30) (hn : gI u 1 = jI n) (hN : gI u 2 = jI N) (hF : gI u 3 = jI F) (h12 : F ≤ 12) (s : scr u b) (hk : k < n) {x4 x5 : Int32} (y : Option Value) : ∃ y', RR (pv_X0 L xs) (d + 2) 182 70 [some (.ref 55), some (.int x), some (.int day), some (.int (jI p)), some (.int x4), some (.int x5), some (.int (jI k)), some (.int (jI (scT u day (gB b 23) N F k))), some (.int 0), some (.int 0), y] [] (enc b) = RR (pv_X0 L xs) (d + 2) 182 70 [some (.ref 55), some (.int x), some (.int day), some (.int (jI p)), some (.int x4), some (.int x5), some (.int (jI k)), some (.int (jI (scT u day (gB b 23) N F k))), some (.int (jI (cntN (fun j => decide (ah2 (scT u day (gB b 23) N F) (gB b 23) j k)) n))), some (.int (jI n)), y'] [] (enc b) := by
  have e15 : gI b 15 = jI n := (s.1 15 (by decide)).trans (h.1.1.symm.trans hn)
  obtain ⟨y', h1, -⟩ := pv_loop (R := fun m (y : Option Value) => RR (pv_X0 L xs) (d + 2) 182 70 [some (.ref 55), some (.int x), some (.int day), some (.int (jI p)), some (.int x4), some (.int x5), some (.int (jI k)), some (.int (jI (scT u day (gB b 23) N F k))), some (.int (jI (cntN (fun j => decide (ah2 (scT u day (gB b 23) N F) (gB b 23) j k)) m))), some (.int (jI m)), y] [] (enc b)) (P := fun _ _ => True) (N := n) (fun m y hm _ => by
    have z0 : ∀ c, jI c + 0 = jI c := fun c => jI_add (b := 0)
    have t1 : scT u day (gB b 23) N F k ≤ 84 := scT_le h30 h12
    have t2 : scT u day (gB b 23) N F m ≤ 84 := scT_le h30 h12
    refine ⟨some (.int (jI (scT u day (gB b 23) N F m))), ?_, trivial⟩
    show RR (pv_X0 L xs) (d + 1 + 1) 182 70 _ _ _ = RR (pv_X0 L xs) (d + 2) 182 70 [some (.ref 55), some (.int x), some (.int day), some (.int (jI p)), some (.int x4), some (.int x5), some (.int (jI k)), some (.int (jI (scT u day (gB b 23) N F k))), some (.int (jI (cntN (fun j => decide (ah2 (scT u day (gB b 23) N F) (gB b 23) j k)) m + (decide (ah2 (scT u day (gB b 23) N F) (gB b 23) m k)).toNat))), some (.int (jI (m + 1))), some (.int (jI (scT u day (gB b 23) N F m)))] [] (enc b)
    rw [B182_70, e15, if_neg (jI_run hm (by omega)), M_scoreOf h hn6 h30 hn hN hF h12 s hm, pv_bd_some]
    simp only [Option.toList_some, List.cons_append, List.nil_append]
    rw [B182_86, M_isAhead (V := gB b 23) (by omega) (by omega) (fun _ => rfl), pv_bd_some]
    simp only [Option.toList_some, List.cons_append, List.nil_append, z0, jI_succ]
    rw [B182_119]
    simp only [ite01, z0, jI_succ]
    by_cases e : m = k
    · subst e
      rw [if_pos rfl, decide_eq_false (ah2_ir m)]
      rfl
    · rw [if_neg (fun q => e ((jI_eq (by omega) (by omega)).mp q))]
      by_cases l : scT u day (gB b 23) N F k < scT u day (gB b 23) N F m
      · rw [if_pos ((jI_lt (by omega) (by omega)).mpr l), decide_eq_true (Or.inl l)]
        rfl
      · rw [if_neg (fun q => l ((jI_lt (by omega) (by omega)).mp q))]
        by_cases l2 : scT u day (gB b 23) N F m = scT u day (gB b 23) N F k
        · rw [if_pos ((jI_eq (by omega) (by omega)).mpr l2)]
          by_cases q : ahV (gB b 23) m k
          · rw [if_pos q, decide_eq_true (Or.inr ⟨l2, q⟩)]
            rfl
          · rw [if_neg q, decide_eq_false (fun r => r.elim l (fun r => q r.2))]
            rfl
        · rw [if_neg (fun q => l2 ((jI_eq (by omega) (by omega)).mp q)), decide_eq_false (fun r => r.elim l (fun r => l2 r.1))]
          rfl) (a0 := y) trivial
  exact ⟨y', h1⟩
theorem M_place3 (h : Inv u) (hn6 : n ≤ 6) (h30 : N ≤ 30) (hn : gI u 1 = jI n) (hN : gI u 2 = jI N) (hF : gI u 3 = jI F) (h12 : F ≤ 12) (s : scr u b) (hp : p < 6) {x4 : Int32} : RR (pv_X0 L xs) (d + 2) 182 46 [some (.ref 55), some (.int x), some (.int day), some (.int (jI p)), some (.int x4), some (.int (-1)), some (.int 0), none, none, none, none] [] (enc b) = some (some (.int (rkC (fun k => cntN (fun j => decide (ah2 (scT u day (gB b 23) N F) (gB b 23) j k)) n) p n)), enc b) := by
  have e15 : gI b 15 = jI n := (s.1 15 (by decide)).trans (h.1.1.symm.trans hn)
  obtain ⟨y, h1, -⟩ := pv_loop (R := fun m (y : Option Value × Option Value × Option Value × Option Value) => RR (pv_X0 L xs) (d + 2) 182 46 [some (.ref 55), some (.int x), some (.int day), some (.int (jI p)), some (.int x4), some (.int (rkC (fun k => cntN (fun j => decide (ah2 (scT u day (gB b 23) N F) (gB b 23) j k)) n) p m)), some (.int (jI m)), y.1, y.2.1, y.2.2.1, y.2.2.2] [] (enc b)) (P := fun _ _ => True) (N := n) (fun m y hm _ => by
    have hc : cntN (fun j => decide (ah2 (scT u day (gB b 23) N F) (gB b 23) j m)) n ≤ n := cntN_le
    obtain ⟨y', hy⟩ := M_placeIn (L := L) (xs := xs) (d := d) (x := x) (day := day) (p := p) (x4 := x4) (x5 := rkC (fun k => cntN (fun j => decide (ah2 (scT u day (gB b 23) N F) (gB b 23) j k)) n) p m) h hn6 h30 hn hN hF h12 s hm y.2.2.2
    refine ⟨(some (.int (jI (scT u day (gB b 23) N F m))), some (.int (jI (cntN (fun j => decide (ah2 (scT u day (gB b 23) N F) (gB b 23) j m)) n))), some (.int (jI n)), y'), ?_, trivial⟩
    · show RR (pv_X0 L xs) (d + 1 + 1) 182 46 _ _ _ = RR (pv_X0 L xs) (d + 2) 182 46 [some (.ref 55), some (.int x), some (.int day), some (.int (jI p)), some (.int x4), some (.int (if cntN (fun j => decide (ah2 (scT u day (gB b 23) N F) (gB b 23) j m)) n = p then jI m else rkC (fun k => cntN (fun j => decide (ah2 (scT u day (gB b 23) N F) (gB b 23) j k)) n) p m)), some (.int (jI (m + 1))), some (.int (jI (scT u day (gB b 23) N F m))), some (.int (jI (cntN (fun j => decide (ah2 (scT u day (gB b 23) N F) (gB b 23) j m)) n))), some (.int (jI n)), y'] [] (enc b)
      rw [B182_46, e15, if_neg (jI_run hm (by omega)), M_scoreOf h hn6 h30 hn hN hF h12 s hm, pv_bd_some]
      simp only [Option.toList_some, List.cons_append, List.nil_append]
      rw [B182_62]
      refine hy.trans ?_
      show RR (pv_X0 L xs) (d + 1 + 1) 182 70 _ _ _ = _
      rw [B182_70, e15, if_pos jI_end, jI_succ]
      by_cases q : cntN (fun j => decide (ah2 (scT u day (gB b 23) N F) (gB b 23) j m)) n = p
      · rw [if_pos ((jI_eq (by omega) (by omega)).mpr q), if_pos q]
      · rw [if_neg (fun e => q ((jI_eq (by omega) (by omega)).mp e)), if_neg q]) (a0 := (none, none, none, none)) trivial
  refine h1.trans ?_
  show RR (pv_X0 L xs) (d + 1 + 1) 182 46 _ _ _ = _
  rw [B182_46, e15, if_pos jI_end]
theorem P_place (h : Inv u) : Both L xs 75 182 [some (.ref 0), some (.int x), some (.int y), some (.int z), none] [some (.ref 55), some (.int x), some (.int y), some (.int z), none, none, none, none, none, none, none] u := by
  have h0 := h
  obtain ⟨n, N, h2n, hn6, h30, hn, hN, hn', hN'⟩ := rows_ctx h
  obtain ⟨F, h12, hF⟩ := fx_ctx h
  obtain ⟨⟨b1, b2, b3, b4, b5, b6, b7, b8, b9, b10⟩, ⟨g1, g2⟩, ⟨f1, f2⟩, ⟨t1, t2, t3⟩, ⟨p1, p2, p3⟩, hL, ⟨k1, k2, k3⟩⟩ := h
  have n15 : 0 ≤ (gI u 15).toInt := by rw [← b1]; omega
  by_cases q1 : asOk x y
  case neg =>
    refine ⟨.int (-1), u, u, ?_, ?_, h0, rfl⟩
    · simp only [B75_0, C_asked, C_team, B75_5, B75_16, reduceIte, e10, pv_bd_some, Option.toList_some, Option.toList_none, List.cons_append, List.nil_append, List.append_nil, ite01, if_neg q1]
    · simp only [B182_0, M_asked, M_team n15, B182_5, B182_13, reduceIte, e10, pv_bd_some, Option.toList_some, Option.toList_none, List.cons_append, List.nil_append, List.append_nil, ite01, ← b1, ← b3, z0, z1, z2, z3, z4, z5, z6, z7, z12, z20, z30, z99, y0, y1, y2, y3, y6, y7, y99, y15, if_neg q1]
  by_cases q2 : tmOk (gI u 1) z
  case neg =>
    refine ⟨.int (-1), u, u, ?_, ?_, h0, rfl⟩
    · simp only [B75_0, C_asked, C_team, B75_5, B75_16, reduceIte, e10, pv_bd_some, Option.toList_some, Option.toList_none, List.cons_append, List.nil_append, List.append_nil, ite01, if_pos q1, if_neg q2]
    · simp only [B182_0, M_asked, M_team n15, B182_5, B182_13, reduceIte, e10, pv_bd_some, Option.toList_some, Option.toList_none, List.cons_append, List.nil_append, List.append_nil, ite01, ← b1, ← b3, z0, z1, z2, z3, z4, z5, z6, z7, z12, z20, z30, z99, y0, y1, y2, y3, y6, y7, y99, y15, if_pos q1, if_neg q2]
  obtain ⟨i, hi, ei⟩ := tm_at hn6 (hn ▸ q2)
  obtain ⟨c1, hc1, rc1, tp1⟩ := C_solveAsOf (L := L) (xs := xs) (d := 93) (m := x) (day := y) h0 h2n hn6 h30 hn hN
  have cs : ∃ c1' ans, RR (pv_X0 L xs) 99 75 27 [some (.ref 0), some (.int x), some (.int y), some (.int z), none] [.int (slA (MI (decide (x = 1)) n (mT u (cW u N y (-1) false)) (pT u (cW u N y (-1) false))) (RV (decide (x = 1)) n (rT u x (cW u N y (-1) false))) n)] (enc c1) = some (some (.int ans), enc c1') ∧ scr u c1' ∧ ((slA (MI (decide (x = 1)) n (mT u (cW u N y (-1) false)) (pT u (cW u N y (-1) false))) (RV (decide (x = 1)) n (rT u x (cW u N y (-1) false))) n) = 0 → ∃ o, ans = jI (o i) ∧ stS (ah2 (scT u y (tpV (MI (decide (x = 1)) n (mT u (cW u N y (-1) false)) (pT u (cW u N y (-1) false))) (RV (decide (x = 1)) n (rT u x (cW u N y (-1) false))) n) N F) (tpV (MI (decide (x = 1)) n (mT u (cW u N y (-1) false)) (pT u (cW u N y (-1) false))) (RV (decide (x = 1)) n (rT u x (cW u N y (-1) false))) n)) (fun q => q) n o) ∧ (¬ (slA (MI (decide (x = 1)) n (mT u (cW u N y (-1) false)) (pT u (cW u N y (-1) false))) (RV (decide (x = 1)) n (rT u x (cW u N y (-1) false))) n) = 0 → ans = (slA (MI (decide (x = 1)) n (mT u (cW u N y (-1) false)) (pT u (cW u N y (-1) false))) (RV (decide (x = 1)) n (rT u x (cW u N y (-1) false))) n)) := by
    generalize MI (decide (x = 1)) n (mT u (cW u N y (-1) false)) (pT u (cW u N y (-1) false)) = M at *
    generalize RV (decide (x = 1)) n (rT u x (cW u N y (-1) false)) = R at *
    by_cases q : slA M R n = 0
    · obtain ⟨z1, z2⟩ := sl_0 q
      obtain ⟨b, o, g1, g2, g3, g4⟩ := C_byScores (L := L) (xs := xs) (d := 96) (day := y) (a := c1) (V := tpV M R n) h0 hn6 h30 hn hN hF h12 rc1.1 rc1.2.1 (tp1 z1)
      refine ⟨b, jI (o i), ?_, g2, fun _ => ⟨o, rfl, g3⟩, fun e => absurd q e⟩
      rw [B75_27, if_pos q, g1, pv_bd_some]
      simp only [Option.toList_none, List.nil_append]
      rw [B75_53, ei, pv_ixn (by omega) (by decide), g4 i hi]
    · refine ⟨c1, slA M R n, ?_, rc1.1, fun e => absurd e q, fun _ => rfl⟩
      rw [B75_27, if_neg q]
  obtain ⟨c1', ans, k1, k2, k3, k4⟩ := cs
  obtain ⟨c2, hc2, rc2, e5, tp⟩ := M_solvesA (L := L) (xs := xs) (d := 95) (m := x) (day := y) h0 k2 h2n hn6 h30 hn hN hn' hN'
  have e15 : gI c1' 15 = gI u 15 := k2.1 15 (by decide)
  have e15' : gI c1' 15 = gI u 1 := e15.trans b1.symm
  have f15 : gI c2 15 = jI n := (rc2.1.1 15 (by decide)).trans (e15.trans hn')
  have hg := M_against (L := L) (xs := xs) (d := 97) f15 hn6 tp e5
  refine ⟨.int ans, c1', c2, ?_, ?_, Inv_scr h0 (scr_trans k2 rc2.1), rfl⟩
  · simp only [B75_0, C_asked, C_team, B75_5, B75_16, reduceIte, e10, pv_bd_some, Option.toList_some, Option.toList_none, List.cons_append, List.nil_append, List.append_nil, ite01, if_pos q1, if_pos q2, hc1]
    exact k1
  · simp only [B182_0, M_asked, M_team (e15 ▸ n15), B182_5, B182_13, reduceIte, e10, pv_bd_some, Option.toList_some, Option.toList_none, List.cons_append, List.nil_append, List.append_nil, ite01, e15', if_pos q1, if_pos q2, hc2]
    rw [B182_26, hg, pv_bd_some]
    simp only [Option.toList_some, List.cons_append, List.nil_append]
    rw [B182_30]
    generalize MI (decide (x = 1)) n (mT u (cW u N y (-1) false)) (pT u (cW u N y (-1) false)) = M at *
    generalize RV (decide (x = 1)) n (rT u x (cW u N y (-1) false)) = R at *
    by_cases q : slA M R n = 0
    · obtain ⟨z1, z2⟩ := sl_0 q
      obtain ⟨o, o1, o2⟩ := k3 q
      rw [if_pos q, ei, M_place3 (d := 97) h0 hn6 h30 hn hN hF h12 (scr_trans k2 rc2.1) (by omega), o1]
      have eV : ∀ i, i < n → gB c2 23 i = tpV M R n i := fun i hi => by rw [(tp i hi).1, z2 i hi]; rfl
      obtain ⟨r1, r2, r3⟩ := rank_at o2 ah2_ir ah2_tr hi
      rw [rkC_of r1 (fun k hk => by
        rw [← r3 k hk]
        rw [cnt_congr (fun j hj => decide_eq_decide.mpr (by
          unfold ah2 ahV
          rw [sc_congr (t := j) h0 hn6 hn hF h12 eV, sc_congr (t := k) h0 hn6 hn hF h12 eV, eV j hj, eV k hk]))])]
    · rw [if_neg q, k4 q]
end PLACE
