/-! rank (printed by wip/whole/ops/pp.py) -/
abbrev ahV (V : Nat → Int64) (i j : Nat) : Prop := (V j).toInt < (V i).toInt ∨ ((V i).toInt = (V j).toInt ∧ i < j)
/-- u but the order -/
def ofr (a b : pv_U) : Prop := (∀ i, gI b i = gI a i) ∧ (∀ i, gJ b i = gJ a i) ∧ (∀ r, ¬ r = 21 → gA b r = gA a r) ∧ ∀ r, gB b r = gB a r
theorem ofr_refl {a : pv_U} : ofr a a := ⟨fun _ => rfl, fun _ => rfl, fun _ _ => rfl, fun _ => rfl⟩
theorem ofr_trans {a b c : pv_U} (h : ofr a b) (g : ofr b c) : ofr a c := ⟨fun i => (g.1 i).trans (h.1 i), fun i => (g.2.1 i).trans (h.2.1 i), fun r hr => (g.2.2.1 r hr).trans (h.2.2.1 r hr), fun r => (g.2.2.2 r).trans (h.2.2.2 r)⟩
theorem ofr_A {a b : pv_U} {k : Nat} {v : Int32} (h : ofr a b) : ofr a (uA b 21 k v) := ⟨h.1, h.2.1, fun r hr => Eq.trans (funext fun m => by rw [gA_uA, if_neg hr]) (h.2.2.1 r hr), h.2.2.2⟩
theorem anyN_false {p : Nat → Bool} : ∀ {n}, anyN p n = false → ∀ i, i < n → p i = false := by
  intro n
  induction n with
  | zero => exact fun _ i hi => absurd hi (by omega)
  | succ n ih =>
    intro h i hi
    have h : (anyN p n || p n) = false := h
    rw [Bool.or_eq_false_iff] at h
    by_cases e : i = n
    · exact e ▸ h.2
    · exact ih h.1 i (by omega)
/-- the team that the reference ranks p -/
def rkF (V : Nat → Int64) (n p : Nat) : Nat → Int32
  | 0 => -1
  | k + 1 => if cntN (fun j => decide (ahV V j k)) n = p then jI k else rkF V n p k
section RANK
variable {L : Nat} {xs : Nat → Int32} {u v a b c : pv_U} {d k n N i j r q S C p : Nat} {x y z w m day lo w4 : Int32} {M : Nat → Nat → Int} {bl det : Int64} {mt : Nat → Nat → Nat} {pl : Nat → Nat} {R : Nat → Int64} {s t : Int64} {V : Nat → Int64} {o : Nat → Nat}
theorem jI_dec (h : 1 ≤ k) : jI k + -1 = jI (k - 1) := (Int32.sub_eq_add_neg (jI k) 1).symm.trans (jI_sub (b := 1) h)
theorem ahV_ir : ∀ a, ¬ ahV V a a := fun a h => by
  unfold ahV at h
  omega
theorem ahV_tr : ∀ a b c, ahV V a b → ahV V b c → ahV V a c := fun a b c h1 h2 => by
  unfold ahV at *
  omega
theorem RC_ofr (h : RC u a n bl mt pl M R) (hn6 : n ≤ 6) (m : ofr a b) : RC u b n bl mt pl M R := by
  obtain ⟨s, e1, e2, f⟩ := h
  refine ⟨⟨fun i hi => (m.1 i).trans (s.1 i hi), fun i hi => (m.2.1 i).trans (s.2.1 i hi), fun r hr => (m.2.2.1 r (by omega)).trans (s.2.2.1 r hr), fun r hr => (m.2.2.2 r).trans (s.2.2.2 r hr)⟩, (m.1 10).trans e1, (m.2.1 3).trans e2, fun i hi => ?_⟩
  obtain ⟨f1, f2, f3⟩ := f i hi
  refine ⟨by rw [m.2.2.1 20 (by decide)]; exact f1, by rw [m.2.2.2]; exact f2, fun j hj => ?_⟩
  rw [m.2.2.1 (14 + i) (by omega), m.2.2.2]
  exact f3 j hj
theorem C_swap (h1 : 1 ≤ k) (h6 : k < 6) : ∃ b, RR (pv_X0 L xs) d 51 0 [some (.ref 41), some (.int (jI k)), none] [] (enc a) = some (none, enc b) ∧ ofr a b ∧ ∀ q, gA b 21 q = if q = k then gA a 21 (k - 1) else if q = k - 1 then gA a 21 k else gA a 21 q := by
  have em : jI k - 1 = jI (k - 1) := jI_sub (b := 1) h1
  refine ⟨uA (uA a 21 (k - 1) (gA a 21 k)) 21 k (gA a 21 (k - 1)), ?_, ofr_A (ofr_A ofr_refl), fun q => ?_⟩
  · rw [B51_0, em, pv_ixn (by omega) (by decide), pv_ixn (by omega) (by decide), pv_ixn (by omega) (by decide), pv_ixn (by omega) (by decide)]
  · rw [gA_uA, if_pos rfl]
    by_cases e : q = k
    · rw [if_pos e, if_pos e]
    · rw [if_neg e, if_neg e, gA_uA, if_pos rfl]
theorem C_ins (hV : ∀ i, i < n → gB a 11 i = V i) (hn6 : n ≤ 6) (hk : k < n) (f : ofr a b) (ho : stS (ahV V) (fun q => q) k o) (w : ∀ q, q < k + 1 → gA b 21 q = jI (o q)) : ∃ b' o' x', RR (pv_X0 L xs) (d + 1) 50 19 [some (.ref 41), some (.ref 22), some (.int (jI k)), some (.int (jI k))] [] (enc b) = RR (pv_X0 L xs) (d + 1) 50 2 [some (.ref 41), some (.ref 22), some (.int (jI (k + 1))), x'] [] (enc b') ∧ ofr a b' ∧ stS (ahV V) (fun q => q) (k + 1) o' ∧ ∀ q, q < k + 1 → gA b' 21 q = jI (o' q) := by
  rcases pv_loopQ (R := fun m (t : (Nat → Nat) × pv_U) => RR (pv_X0 L xs) (d + 1) 50 19 [some (.ref 41), some (.ref 22), some (.int (jI k)), some (.int (jI (k - m)))] [] (enc t.2)) (P := fun m t => stI (ahV V) (fun q => q) k (k - m) t.1 ∧ ofr a t.2 ∧ ∀ q, q < k + 1 → gA t.2 21 q = jI (t.1 q)) (Q := fun r => ∃ b' o' x', r = RR (pv_X0 L xs) (d + 1) 50 2 [some (.ref 41), some (.ref 22), some (.int (jI (k + 1))), x'] [] (enc b') ∧ ofr a b' ∧ stS (ahV V) (fun q => q) (k + 1) o' ∧ ∀ q, q < k + 1 → gA b' 21 q = jI (o' q)) (N := k) (fun m t hm ht => by
    obtain ⟨o, b⟩ := t
    obtain ⟨h1, h2, h3⟩ := ht
    have h1 : stI (ahV V) (fun q => q) k (k - m) o := h1
    have h2 : ofr a b := h2
    have h3 : ∀ q, q < k + 1 → gA b 21 q = jI (o q) := h3
    have hx : 1 ≤ k - m := by omega
    have em : jI (k - m) - 1 = jI (k - m - 1) := jI_sub (b := 1) hx
    have e1 : o (k - m) = k := h1.2.1
    obtain ⟨j, hj, ej⟩ := h1.2.2.2.2.2.1 (k - m - 1) (by omega) (by omega)
    have ej : o (k - m - 1) = j := ej
    have st : ∀ r, (if (lg_cmp (V k) (V j)) ≤ 0 then RR (pv_X0 L xs) (d + 1) 50 2 [some (.ref 41), some (.ref 22), some (.int (jI (k + 1))), some (.int (jI (k - m)))] [] (enc b) else (pv_bd (RR (pv_X0 L xs) d 51 0 [some (.ref 41), some (.int (jI (k - m))), none] [] (enc b)) fun v w => RR (pv_X0 L xs) (d + 1) 50 56 [some (.ref 41), some (.ref 22), some (.int (jI k)), some (.int (jI (k - m)))] (v.toList ++ []) w)) = r → RR (pv_X0 L xs) (d + 1) 50 19 [some (.ref 41), some (.ref 22), some (.int (jI k)), some (.int (jI (k - m)))] [] (enc b) = r := fun r hr => by
      rw [B50_19, if_neg (show ¬ jI (k - m) ≤ (0 : Int32) from (show ¬ jI (k - m) ≤ jI 0 by rw [jI_le (by omega) (by omega)]; omega)), em, pv_ixn (by omega) (by decide), h3 _ (by omega), e1, pv_ixn (by omega) (by decide), pv_ixn (by omega) (by decide), h3 _ (by omega), ej, pv_ixn (by omega) (by decide), h2.2.2.2, hV k hk, hV j (by omega), jI_succ]
      exact hr
    by_cases c : V j < V k
    · refine Or.inr ?_
      obtain ⟨b', p1, p2, p3⟩ := C_swap (L := L) (xs := xs) (d := d) (a := b) hx (by omega)
      refine ⟨(swp (k - m) o, b'), st _ ?_, ?_, ofr_trans h2 p2, fun q hq => ?_⟩
      · rw [if_neg (fun e => lg_le.mp e c), p1, pv_bd_some]
        simp only [Option.toList_none, List.nil_append]
        rw [B50_56, jI_dec hx, show k - m - 1 = k - (m + 1) by omega]
      · show stI (ahV V) (fun q => q) k (k - (m + 1)) (swp (k - m) o)
        rw [show k - (m + 1) = k - m - 1 by omega]
        exact stI_swp h1 hx (Or.inl (by rw [ej]; exact Int64.lt_iff_toInt_lt.mp c))
      · show gA b' 21 q = jI (swp (k - m) o q)
        rw [p3]
        unfold swp
        by_cases f1 : q = k - m
        · rw [if_pos f1, if_pos f1, h3 _ (by omega)]
        · rw [if_neg f1, if_neg f1]
          by_cases f2 : q = k - m - 1
          · rw [if_pos f2, if_pos f2, h3 _ (by omega)]
          · rw [if_neg f2, if_neg f2, h3 _ hq]
    · refine Or.inl ⟨b, o, some (.int (jI (k - m))), st _ ?_, h2, ?_, h3⟩
      · rw [if_pos (lg_le.mpr c)]
      · refine stS_of h1 ahV_tr (Or.inr ?_)
        show ahV V (o (k - m - 1)) k
        rw [ej]
        unfold ahV
        rw [Int64.lt_iff_toInt_lt] at c
        omega) (a0 := (o, b)) ⟨by rw [Nat.sub_zero]; exact stI_of ho, f, w⟩ with q | ⟨⟨o', b'⟩, h1, h2, h3, h4⟩
  · exact q
  · refine ⟨b', o', some (.int (jI 0)), h1.trans ?_, h3, stS_of h2 ahV_tr (Or.inl (by omega)), h4⟩
    show RR (pv_X0 L xs) (d + 1) 50 19 _ _ _ = _
    rw [Nat.sub_self, B50_19, if_pos (show jI 0 ≤ (0 : Int32) from jI_end), jI_succ]
theorem C_byRatings (hn : gI a 10 = jI n) (hn6 : n ≤ 6) (hV : ∀ i, i < n → gB a 11 i = V i) : ∃ b o, RR (pv_X0 L xs) (d + 1) 50 0 [some (.ref 41), some (.ref 22), none, none] [] (enc a) = some (none, enc b) ∧ ofr a b ∧ stS (ahV V) (fun q => q) n o ∧ ∀ q, q < n → gA b 21 q = jI (o q) := by
  obtain ⟨⟨o, x, b⟩, h1, h2, h3, h4⟩ := pv_loop (R := fun k (t : (Nat → Nat) × Option Value × pv_U) => RR (pv_X0 L xs) (d + 1) 50 2 [some (.ref 41), some (.ref 22), some (.int (jI k)), t.2.1] [] (enc t.2.2)) (P := fun k t => ofr a t.2.2 ∧ stS (ahV V) (fun q => q) k t.1 ∧ ∀ q, q < k → gA t.2.2 21 q = jI (t.1 q)) (N := n) (fun k t hk ht => by
    obtain ⟨o, x, b⟩ := t
    obtain ⟨h1, h2, h3⟩ := ht
    have h1 : ofr a b := h1
    have h2 : stS (ahV V) (fun q => q) k o := h2
    have h3 : ∀ q, q < k → gA b 21 q = jI (o q) := h3
    obtain ⟨b', o', x', p1, p2, p3, p4⟩ := C_ins (L := L) (xs := xs) (d := d) (b := uA b 21 k (jI k)) hV hn6 hk (ofr_A h1) h2 (fun q hq => by
      rw [gA_uA, if_pos rfl]
      by_cases e : q = k
      · rw [if_pos e, e, show o k = k from h2.2.2.2 k (Nat.le_refl _)]
      · rw [if_neg e]
        exact h3 q (by omega))
    refine ⟨(o', x', b'), ?_, p2, p3, p4⟩
    show RR (pv_X0 L xs) (d + 1) 50 2 _ _ _ = _
    rw [B50_2, (h1.1 10).trans hn, if_neg (jI_run hk (by omega)), pv_ixn (by omega) (by decide), p1]) (a0 := (fun q => q, none, a)) ⟨ofr_refl, stS_0, fun q hq => absurd hq (by omega)⟩
  refine ⟨b, o, ?_, h2, h3, h4⟩
  rw [B50_0]
  refine h1.trans ?_
  show RR (pv_X0 L xs) (d + 1) 50 2 _ _ _ = _
  rw [B50_2, (h2.1 10).trans hn, if_pos jI_end]
theorem M_isAhead (hi : i < 6) (hj : j < 6) (hV : ∀ i, gB b 23 i = V i) : RR (pv_X0 L xs) d 163 0 [some (.ref 55), some (.int (jI i)), some (.int (jI j))] [] (enc b) = some (some (.int (if ahV V i j then 1 else 0)), enc b) := by
  rw [B163_0, pv_ixn (by omega) (by decide), pv_ixn (by omega) (by decide), pv_ixn (by omega) (by decide), pv_ixn (by omega) (by decide), hV, hV]
  unfold ahV
  by_cases c : V j < V i
  · rw [if_pos (lg_gt.mpr c), if_pos (Or.inl (Int64.lt_iff_toInt_lt.mp c))]
  · rw [if_neg (fun e => c (lg_gt.mp e))]
    rw [Int64.lt_iff_toInt_lt] at c
    by_cases e : V i = V j
    · rw [if_pos (lg_eq.mpr e)]
      by_cases l : j ≤ i
      · rw [if_pos ((jI_le (by omega) (by omega)).mpr l), if_neg (by omega)]
      · rw [if_neg (fun q => l ((jI_le (by omega) (by omega)).mp q)), if_pos (Or.inr ⟨congrArg _ e, by omega⟩)]
    · rw [if_neg (fun q => e (lg_eq.mp q)), if_neg (fun q => q.elim c (fun q => e (Int64.toInt_inj.mp q.1)))]
theorem M_place (hn : gI b 15 = jI n) (hn6 : n ≤ 6) (hk : k < n) (hV : ∀ i, gB b 23 i = V i) : RR (pv_X0 L xs) (d + 1) 162 0 [some (.ref 55), some (.int (jI k)), none, none] [] (enc b) = some (some (.int (jI (cntN (fun j => decide (ahV V j k)) n))), enc b) := by
  obtain ⟨t, h1, -⟩ := pv_loop (R := fun m (_ : Unit) => RR (pv_X0 L xs) (d + 1) 162 4 [some (.ref 55), some (.int (jI k)), some (.int (jI (cntN (fun j => decide (ahV V j k)) m))), some (.int (jI m))] [] (enc b)) (P := fun _ _ => True) (N := n) (fun m t hm _ => by
    refine ⟨(), ?_, trivial⟩
    show RR (pv_X0 L xs) (d + 1) 162 4 _ _ _ = RR (pv_X0 L xs) (d + 1) 162 4 [some (.ref 55), some (.int (jI k)), some (.int (jI (cntN (fun j => decide (ahV V j k)) m + (decide (ahV V m k)).toNat))), some (.int (jI (m + 1)))] [] (enc b)
    have z0 : ∀ c, jI c + 0 = jI c := fun c => jI_add (b := 0)
    rw [B162_4, hn, if_neg (jI_run hm (by omega)), jI_succ]
    by_cases e : m = k
    · subst e
      rw [if_pos rfl, z0, decide_eq_false (ahV_ir m)]
      rfl
    · rw [if_neg (fun q => e ((jI_eq (by omega) (by omega)).mp q)), M_isAhead (by omega) (by omega) hV, pv_bd_some]
      simp only [Option.toList_some, List.cons_append, List.nil_append]
      rw [B162_24, jI_succ]
      by_cases q : ahV V m k
      · rw [if_neg (show ¬ (if ahV V m k then (1 : Int32) else 0) = 0 by rw [if_pos q]; decide), decide_eq_true q, jI_succ]
        rfl
      · rw [if_pos (show (if ahV V m k then (1 : Int32) else 0) = 0 by rw [if_neg q]), decide_eq_false q, z0]
        rfl) (a0 := ()) trivial
  rw [B162_0]
  refine h1.trans ?_
  show RR (pv_X0 L xs) (d + 1) 162 4 _ _ _ = _
  rw [B162_4, hn, if_pos jI_end]
theorem M_ranked (hn : gI b 15 = jI n) (hn6 : n ≤ 6) (hp : p < 6) (hV : ∀ i, gB b 23 i = V i) : RR (pv_X0 L xs) (d + 2) 161 0 [some (.ref 55), some (.int (jI p)), none, none] [] (enc b) = some (some (.int (rkF V n p n)), enc b) := by
  obtain ⟨t, h1, -⟩ := pv_loop (R := fun m (_ : Unit) => RR (pv_X0 L xs) (d + 2) 161 4 [some (.ref 55), some (.int (jI p)), some (.int (rkF V n p m)), some (.int (jI m))] [] (enc b)) (P := fun _ _ => True) (N := n) (fun m t hm _ => by
    refine ⟨(), ?_, trivial⟩
    show RR (pv_X0 L xs) (d + 1 + 1) 161 4 _ _ _ = RR (pv_X0 L xs) (d + 2) 161 4 [some (.ref 55), some (.int (jI p)), some (.int (if cntN (fun j => decide (ahV V j m)) n = p then jI m else rkF V n p m)), some (.int (jI (m + 1)))] [] (enc b)
    rw [B161_4, hn, if_neg (jI_run hm (by omega)), M_place hn hn6 hm hV, pv_bd_some]
    simp only [Option.toList_some, List.cons_append, List.nil_append]
    have hc : cntN (fun j => decide (ahV V j m)) n ≤ n := cntN_le
    rw [B161_17, jI_succ]
    by_cases q : cntN (fun j => decide (ahV V j m)) n = p
    · rw [if_pos ((jI_eq (by omega) (by omega)).mpr q), if_pos q]
    · rw [if_neg (fun e => q ((jI_eq (by omega) (by omega)).mp e)), if_neg q]) (a0 := ()) trivial
  rw [B161_0]
  refine h1.trans ?_
  show RR (pv_X0 L xs) (d + 1 + 1) 161 4 _ _ _ = _
  rw [B161_4, hn, if_pos jI_end]
theorem rkF_of (h : stS (ahV V) (fun q => q) n o) (hp : p < n) : rkF V n p n = jI (o p) := by
  obtain ⟨h1, h2, h3⟩ := rank_at h ahV_ir ahV_tr hp
  have : ∀ m, m ≤ n → o p < m → rkF V n p m = jI (o p) := by
    intro m
    induction m with
    | zero => exact fun _ h => absurd h (by omega)
    | succ m ih =>
      intro hm ho
      show (if cntN (fun j => decide (ahV V j m)) n = p then jI m else rkF V n p m) = _
      by_cases e : m = o p
      · rw [if_pos ((h3 m (by omega)).mpr e), e]
      · rw [if_neg (fun q => e ((h3 m (by omega)).mp q))]
        exact ih (by omega) (by omega)
  exact this n (Nat.le_refl _) h1
theorem stS_congr {V W : Nat → Int64} (h : stS (ahV V) (fun q => q) n o) (e : ∀ i, i < n → V i = W i) : stS (ahV W) (fun q => q) n o := by
  obtain ⟨h1, h2, h3, h4⟩ := h
  have lt : ∀ i, i < n → o i < n := fun i hi => by
    obtain ⟨j, hj, ej⟩ := h3 i hi
    rw [ej]
    exact hj
  refine ⟨h1, fun i j hij hj => ?_, h3, h4⟩
  have := h2 i j hij hj
  unfold ahV at *
  rw [← e _ (lt i (by omega)), ← e _ (lt j hj)]
  exact this
theorem sl_0 (h : slA M R n = 0) : ¬ Int64.ofInt (dtm M n) = 0 ∧ ∀ i, i < n → tpO M R n i = false := by
  unfold slA at h
  by_cases q : Int64.ofInt (dtm M n) = 0
  · rw [if_pos q] at h
    exact absurd h (by decide)
  · rw [if_neg q] at h
    refine ⟨q, anyN_false ?_⟩
    cases e : anyN (tpO M R n) n with
    | false => rfl
    | true =>
      rw [e] at h
      exact absurd h (by decide)
theorem C_solveAsOf (h : Inv u) (h2n : 2 ≤ n) (hn6 : n ≤ 6) (h30 : N ≤ 30) (hn : gI u 1 = jI n) (hN : gI u 2 = jI N) : ∃ b, RR (pv_X0 L xs) (d + 5) 48 0 [some (.ref 0), some (.int m), some (.int day)] [] (enc u) = some (some (.int (slA (MI (decide (m = 1)) n (mT u (cW u N day (-1) false)) (pT u (cW u N day (-1) false))) (RV (decide (m = 1)) n (rT u m (cW u N day (-1) false))) n)), enc b) ∧ RC u b n (blT m) (mT u (cW u N day (-1) false)) (pT u (cW u N day (-1) false)) (MI (decide (m = 1)) n (mT u (cW u N day (-1) false)) (pT u (cW u N day (-1) false))) (RV (decide (m = 1)) n (rT u m (cW u N day (-1) false))) ∧ (¬ Int64.ofInt (dtm (MI (decide (m = 1)) n (mT u (cW u N day (-1) false)) (pT u (cW u N day (-1) false))) n) = 0 → ∀ i, i < n → gB b 11 i = tpV (MI (decide (m = 1)) n (mT u (cW u N day (-1) false)) (pT u (cW u N day (-1) false))) (RV (decide (m = 1)) n (rT u m (cW u N day (-1) false))) n i) := by
  obtain ⟨c1, p1, p2⟩ := C_asOf (L := L) (xs := xs) (d := d) (m := m) (day := day) h h2n hn6 h30 hn hN
  obtain ⟨c2, q1, q2, q3, q4⟩ := C_solve (L := L) (xs := xs) (d := d) p2 h2n hn6
  refine ⟨c2, ?_, q2, q4⟩
  show RR (pv_X0 L xs) (d + 4 + 1) 48 0 _ _ _ = _
  rw [B48_0, p1, pv_bd_some]
  simp only [Option.toList_none, List.nil_append]
  rw [B48_6, q1, pv_bd_some]
  exact B48_13
theorem P_rank (h : Inv u) : Both L xs 47 158 [some (.ref 0), some (.int x), some (.int y), some (.int z), none] [some (.ref 55), some (.int x), some (.int y), some (.int z), none] u := by
  have h0 := h
  obtain ⟨n, N, h2n, hn6, h30, hn, hN, hn', hN'⟩ := rows_ctx h
  obtain ⟨⟨b1, b2, b3, b4, b5, b6, b7, b8, b9, b10⟩, ⟨g1, g2⟩, ⟨f1, f2⟩, ⟨t1, t2, t3⟩, ⟨p1, p2, p3⟩, hL, ⟨k1, k2, k3⟩⟩ := h
  have n15 : 0 ≤ (gI u 15).toInt := by rw [← b1]; omega
  by_cases q1 : asOk x y
  case neg =>
    refine ⟨.int (-1), u, u, ?_, ?_, h0, rfl⟩
    · simp only [B47_0, C_asked, C_team, B47_5, B47_16, reduceIte, e10, pv_bd_some, Option.toList_some, Option.toList_none, List.cons_append, List.nil_append, List.append_nil, ite01, if_neg q1]
    · simp only [B158_0, M_asked, M_team n15, B158_5, B158_13, reduceIte, e10, pv_bd_some, Option.toList_some, Option.toList_none, List.cons_append, List.nil_append, List.append_nil, ite01, ← b1, ← b3, z0, z1, z2, z3, z4, z5, z6, z7, z12, z20, z30, z99, y0, y1, y2, y3, y6, y7, y99, y15, if_neg q1]
  by_cases q2 : tmOk (gI u 1) z
  case neg =>
    refine ⟨.int (-1), u, u, ?_, ?_, h0, rfl⟩
    · simp only [B47_0, C_asked, C_team, B47_5, B47_16, reduceIte, e10, pv_bd_some, Option.toList_some, Option.toList_none, List.cons_append, List.nil_append, List.append_nil, ite01, if_pos q1, if_neg q2]
    · simp only [B158_0, M_asked, M_team n15, B158_5, B158_13, reduceIte, e10, pv_bd_some, Option.toList_some, Option.toList_none, List.cons_append, List.nil_append, List.append_nil, ite01, ← b1, ← b3, z0, z1, z2, z3, z4, z5, z6, z7, z12, z20, z30, z99, y0, y1, y2, y3, y6, y7, y99, y15, if_pos q1, if_neg q2]
  obtain ⟨i, hi, ei⟩ := tm_at hn6 (hn ▸ q2)
  obtain ⟨c1, hc1, rc1, tp1⟩ := C_solveAsOf (L := L) (xs := xs) (d := 93) (m := x) (day := y) h0 h2n hn6 h30 hn hN
  have c15 : ∀ c, scr u c → gI c 15 = gI u 15 := fun c s => s.1 15 (by decide)
  have cs : ∃ c1' ans, RR (pv_X0 L xs) 99 47 27 [some (.ref 0), some (.int x), some (.int y), some (.int z), none] [.int (slA (MI (decide (x = 1)) n (mT u (cW u N y (-1) false)) (pT u (cW u N y (-1) false))) (RV (decide (x = 1)) n (rT u x (cW u N y (-1) false))) n)] (enc c1) = some (some (.int ans), enc c1') ∧ scr u c1' ∧ ((slA (MI (decide (x = 1)) n (mT u (cW u N y (-1) false)) (pT u (cW u N y (-1) false))) (RV (decide (x = 1)) n (rT u x (cW u N y (-1) false))) n) = 0 → ans = rkF (tpV (MI (decide (x = 1)) n (mT u (cW u N y (-1) false)) (pT u (cW u N y (-1) false))) (RV (decide (x = 1)) n (rT u x (cW u N y (-1) false))) n) n i n) ∧ (¬ (slA (MI (decide (x = 1)) n (mT u (cW u N y (-1) false)) (pT u (cW u N y (-1) false))) (RV (decide (x = 1)) n (rT u x (cW u N y (-1) false))) n) = 0 → ans = (slA (MI (decide (x = 1)) n (mT u (cW u N y (-1) false)) (pT u (cW u N y (-1) false))) (RV (decide (x = 1)) n (rT u x (cW u N y (-1) false))) n)) := by
    generalize MI (decide (x = 1)) n (mT u (cW u N y (-1) false)) (pT u (cW u N y (-1) false)) = M at *
    generalize RV (decide (x = 1)) n (rT u x (cW u N y (-1) false)) = R at *
    by_cases q : slA M R n = 0
    · obtain ⟨z1, z2⟩ := sl_0 q
      obtain ⟨b, o, g1, g2, g3, g4⟩ := C_byRatings (L := L) (xs := xs) (d := 97) (a := c1) (V := tpV M R n) rc1.2.1 hn6 (tp1 z1)
      refine ⟨b, jI (o i), ?_, (RC_ofr rc1 hn6 g2).1, fun _ => (rkF_of g3 hi).symm, fun e => absurd q e⟩
      rw [B47_27, if_pos q, g1, pv_bd_some]
      simp only [Option.toList_none, List.nil_append]
      rw [B47_48, ei, pv_ixn (by omega) (by decide), g4 i hi]
    · refine ⟨c1, slA M R n, ?_, rc1.1, fun e => absurd e q, fun _ => rfl⟩
      rw [B47_27, if_neg q]
  obtain ⟨c1', ans, k1, k2, k3, k4⟩ := cs
  obtain ⟨c2, hc2, rc2, e5, tp⟩ := M_solvesA (L := L) (xs := xs) (d := 95) (m := x) (day := y) h0 k2 h2n hn6 h30 hn hN hn' hN'
  have e15 : gI c1' 15 = gI u 15 := c15 _ k2
  have e15' : gI c1' 15 = gI u 1 := e15.trans b1.symm
  have f15 : gI c2 15 = jI n := (rc2.1.1 15 (by decide)).trans (e15.trans hn')
  have hg := M_against (L := L) (xs := xs) (d := 97) f15 hn6 tp e5
  refine ⟨.int ans, c1', c2, ?_, ?_, Inv_scr h0 (scr_trans k2 rc2.1), rfl⟩
  · simp only [B47_0, C_asked, C_team, B47_5, B47_16, reduceIte, e10, pv_bd_some, Option.toList_some, Option.toList_none, List.cons_append, List.nil_append, List.append_nil, ite01, if_pos q1, if_pos q2, hc1]
    exact k1
  · simp only [B158_0, M_asked, M_team (e15 ▸ n15), B158_5, B158_13, reduceIte, e10, pv_bd_some, Option.toList_some, Option.toList_none, List.cons_append, List.nil_append, List.append_nil, ite01, e15', if_pos q1, if_pos q2, hc2]
    rw [B158_26, hg, pv_bd_some]
    simp only [Option.toList_some, List.cons_append, List.nil_append]
    rw [B158_30]
    generalize MI (decide (x = 1)) n (mT u (cW u N y (-1) false)) (pT u (cW u N y (-1) false)) = M at *
    generalize RV (decide (x = 1)) n (rT u x (cW u N y (-1) false)) = R at *
    by_cases q : slA M R n = 0
    · obtain ⟨z1, z2⟩ := sl_0 q
      have hr := M_ranked (L := L) (xs := xs) (d := 96) (b := c2) (p := i) (V := gB c2 23) f15 hn6 (by omega) (fun _ => rfl)
      rw [if_pos q, ei, hr, pv_bd_some]
      simp only [Option.toList_some, List.cons_append, List.nil_append]
      rw [B158_47, k3 q]
      obtain ⟨b, o, g1, g2, g3, g4⟩ := C_byRatings (L := L) (xs := xs) (d := 97) (a := c1) (V := tpV M R n) rc1.2.1 hn6 (tp1 z1)
      rw [rkF_of g3 hi, rkF_of (stS_congr g3 (fun i hi => by rw [(tp i hi).1, z2 i hi]; rfl)) hi]
    · rw [if_neg q, B158_47, k4 q]
end RANK
