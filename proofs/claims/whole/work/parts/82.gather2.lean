/-! the class's rows: the GAMES, layOut (printed by wip/whole/ops/pp.py) -/
/-- MATRIX, as both sides lay it -/
def MI (is1 : Bool) (n : Nat) (mt : Nat → Nat → Nat) (pl : Nat → Nat) (i j : Nat) : Int := if is1 = true ∧ i = n - 1 then 1 else if i = j then (pl i : Int) + (if is1 = true then 0 else 2) else -(mt i j : Int)
def RV (is1 : Bool) (n : Nat) (rt : Nat → Int64) (i : Nat) : Int64 := if is1 = true ∧ i = n - 1 then 0 else rt i
def RC (u a : pv_U) (n : Nat) (bl : Int64) (mt : Nat → Nat → Nat) (pl : Nat → Nat) (M : Nat → Nat → Int) (R : Nat → Int64) : Prop := scr u a ∧ gI a 10 = jI n ∧ gJ a 3 = bl ∧ ∀ i, i < n → gA a 20 i = jI (pl i) ∧ gB a 10 i = R i ∧ ∀ j, j < n → gA a (14 + i) j = jI (mt i j) ∧ gB a (4 + i) j = Int64.ofInt (M i j)
/-- GAMES of TEAMS below n -/
def hgP (u : pv_U) (n : Nat) (c : Nat → Bool) : Prop := ∀ g, g < 31 → c g = true → ∃ H A W, H < n ∧ A < n ∧ H ≠ A ∧ gA u 0 g = jI H ∧ gA u 1 g = jI A ∧ gA u 3 g = jI W ∧ W ≤ 3
theorem ofI_nat {k : Nat} : Int64.ofInt (k : Int) = jL k := Int64.ofInt_eq_ofNat
section GATHER2
variable {L : Nat} {xs : Nat → Int32} {u a b : pv_U} {d k n N i j H A W : Nat} {x y z m day lo : Int32} {bl : Int64} {mt mt' : Nat → Nat → Nat} {pl pl' : Nat → Nat} {rt rt' : Nat → Int64} {c : Nat → Bool} {r0 : Int64}
abbrev GK (u a : pv_U) (n : Nat) (bl : Int64) (m : Int32) (c : Nat → Bool) (r0 : Int64) (k : Nat) : Prop := GC u a n bl (fun i j => mtN (gA u 0) (gA u 1) (gA u 3) c i j k) (fun i => plN (gA u 0) (gA u 1) (gA u 3) c i k) (fun i => rtP (gA u 0) (gA u 1) (gnC u m) c r0 i k)
theorem GK_skip (h : GK u a n bl m c r0 k) (hc : c k = false) : GK u a n bl m c r0 (k + 1) := by
  refine GC_congr h (fun i j hi hj => ?_) (fun i hi => ?_) (fun i hi => ?_)
  · show mtN (gA u 0) (gA u 1) (gA u 3) c i j k + (if c k = true ∧ btw (gA u 0) (gA u 1) k (jI i) (jI j) then wN (gA u 3) k else 0) = _
    rw [hc, if_neg (fun q => Bool.false_ne_true q.1)]
    rfl
  · show plN (gA u 0) (gA u 1) (gA u 3) c i k + (if c k = true ∧ (gA u 0 k = jI i ∨ gA u 1 k = jI i) then wN (gA u 3) k else 0) = _
    rw [hc, if_neg (fun q => Bool.false_ne_true q.1)]
    rfl
  · show (if c k = true then _ else rtP (gA u 0) (gA u 1) (gnC u m) c r0 i k) = _
    rw [hc, if_neg Bool.false_ne_true]
theorem GK_skips {M : Nat} (h : GK u a n bl m c r0 N) (hM : N ≤ M) (hc : ∀ g, N ≤ g → g < M → c g = false) : GK u a n bl m c r0 M := by
  induction M with
  | zero =>
    have : N = 0 := by omega
    rw [← this]
    exact h
  | succ M ih =>
    by_cases e : N = M + 1
    · rw [← e]
      exact h
    · exact GK_skip (ih (by omega) (fun g h1 h2 => hc g h1 (by omega))) (hc M (by omega) (by omega))
theorem C_ent (h : GK u a n bl m c r0 k) (hn6 : n ≤ 6) (hk : k < 31) (hc : c k = true) (hg : hgP u n c) : ∃ b, RR (pv_X0 L xs) (d + 1) 32 0 [some (.ref 22), some (.ref 1), some (.int (jI k)), some (.int m), none, none, none, none, none] [] (enc a) = some (none, enc b) ∧ GK u b n bl m c r0 (k + 1) := by
  obtain ⟨H, A, W, hH, hA, hHA, eh, ea, ew, hW⟩ := hg k hk hc
  have wk : wN (gA u 3) k = W := by
    unfold wN
    rw [ew, jI_toInt (by omega)]
    rfl
  have eq : ∀ {x y : Nat}, x < n → y < n → (jI x = jI y ↔ x = y) := fun hx hy => jI_eq (by omega) (by omega)
  refine ⟨_, C_enter h.1 hk (by omega) (by omega) eh ea ew rfl rfl rfl rfl rfl rfl, ?_⟩
  refine GC_congr (C_entF h hn6 hH hA hHA rfl rfl rfl rfl rfl rfl) (fun i j hi hj => ?_) (fun i hi => ?_) (fun i hi => ?_)
  · show mtN (gA u 0) (gA u 1) (gA u 3) c i j k + (if c k = true ∧ btw (gA u 0) (gA u 1) k (jI i) (jI j) then wN (gA u 3) k else 0) = mtN (gA u 0) (gA u 1) (gA u 3) c i j k + (if (H = i ∧ A = j) ∨ (H = j ∧ A = i) then W else 0)
    have e : (c k = true ∧ btw (gA u 0) (gA u 1) k (jI i) (jI j)) ↔ ((H = i ∧ A = j) ∨ (H = j ∧ A = i)) := by
      unfold btw
      rw [eh, ea, eq hH hi, eq hA hj, eq hH hj, eq hA hi]
      exact ⟨fun q => q.2, fun q => ⟨hc, q⟩⟩
    by_cases q : (H = i ∧ A = j) ∨ (H = j ∧ A = i)
    · rw [if_pos q, if_pos (e.mpr q), wk]
    · rw [if_neg q, if_neg (fun r => q (e.mp r))]
  · show plN (gA u 0) (gA u 1) (gA u 3) c i k + (if c k = true ∧ (gA u 0 k = jI i ∨ gA u 1 k = jI i) then wN (gA u 3) k else 0) = plN (gA u 0) (gA u 1) (gA u 3) c i k + (if H = i ∨ A = i then W else 0)
    have e : (c k = true ∧ (gA u 0 k = jI i ∨ gA u 1 k = jI i)) ↔ (H = i ∨ A = i) := by
      rw [eh, ea, eq hH hi, eq hA hi]
      exact ⟨fun q => q.2, fun q => ⟨hc, q⟩⟩
    by_cases q : H = i ∨ A = i
    · rw [if_pos q, if_pos (e.mpr q), wk]
    · rw [if_neg q, if_neg (fun r => q (e.mp r))]
  · show (if c k = true then (if gA u 0 k = jI i then _ else if gA u 1 k = jI i then _ else _) else _) = (if H = i then _ else if A = i then _ else _)
    rw [if_pos hc, eh, ea]
    by_cases q : H = i
    · rw [if_pos ((eq hH hi).mpr q), if_pos q]
    · rw [if_neg (fun r => q ((eq hH hi).mp r)), if_neg q]
      by_cases q2 : A = i
      · rw [if_pos ((eq hA hi).mpr q2), if_pos q2]
      · rw [if_neg (fun r => q2 ((eq hA hi).mp r)), if_neg q2]
theorem C_games (hn6 : n ≤ 6) (hN : gI u 2 = jI N) (h30 : N ≤ 30) {wg : Bool} (hg : hgP u n (ctB (gA u 4) (gA u 2) N day lo wg)) (s : scr u a) (j : Option Value) (h : GK u a n bl m (ctB (gA u 4) (gA u 2) N day lo wg) r0 0) : ∃ b, RR (pv_X0 L xs) (d + 2) 30 99 [some (.ref 22), some (.ref 1), some (.int m), some (.int day), some (.int lo), some (.int (if wg = true then 1 else 0)), some (.int 0), j] [] (enc a) = RR (pv_X0 L xs) (d + 2) 30 152 [some (.ref 22), some (.ref 1), some (.int m), some (.int day), some (.int lo), some (.int (if wg = true then 1 else 0)), some (.int (jI N)), j] [] (enc b) ∧ GK u b n bl m (ctB (gA u 4) (gA u 2) N day lo wg) r0 31 := by
  obtain ⟨b, h1, h2⟩ := pv_loop (R := fun k b => RR (pv_X0 L xs) (d + 2) 30 99 [some (.ref 22), some (.ref 1), some (.int m), some (.int day), some (.int lo), some (.int (if wg = true then 1 else 0)), some (.int (jI k)), j] [] (enc b)) (P := fun k b => GK u b n bl m (ctB (gA u 4) (gA u 2) N day lo wg) r0 k) (N := N) (fun k b hk hb => by
    have e2 : gI b 2 = jI N := (hb.1.1 2 (by decide)).trans hN
    have e4 : gA b 4 = gA u 4 := hb.1.2.2.1 4 (by decide)
    have e22 : gA b 2 = gA u 2 := hb.1.2.2.1 2 (by decide)
    have ct : ctB (gA u 4) (gA u 2) N day lo wg k = decide (¬ jI k = lo ∧ gA u 4 k = 0 ∧ ¬ day < gA u 2 k) := by
      unfold ctB
      refine decide_eq_decide.mpr ⟨fun q => q.elim (fun q => q.2) (fun q => absurd q.1 (by omega)), fun q => Or.inl ⟨hk, q⟩⟩
    have nx : ∀ v : pv_U, RR (pv_X0 L xs) (d + 2) 30 133 [some (.ref 22), some (.ref 1), some (.int m), some (.int day), some (.int lo), some (.int (if wg = true then 1 else 0)), some (.int (jI k)), j] [] (enc v) = RR (pv_X0 L xs) (d + 2) 30 99 [some (.ref 22), some (.ref 1), some (.int m), some (.int day), some (.int lo), some (.int (if wg = true then 1 else 0)), some (.int (jI (k + 1))), j] [] (enc v) := fun v => by rw [B30_133, jI_succ]
    by_cases q1 : jI k = lo
    · refine ⟨b, ?_, GK_skip hb (by rw [ct]; exact decide_eq_false (fun q => q.1 q1))⟩
      show RR (pv_X0 L xs) (d + 2) 30 99 _ _ _ = _
      rw [B30_99, e2, if_neg (jI_run hk (by omega)), if_pos q1]
      exact nx b
    by_cases q2 : gA u 4 k = 0 ∧ ¬ day < gA u 2 k
    · obtain ⟨b', hb1, hb2⟩ := C_ent (L := L) (xs := xs) (d := d) hb hn6 (show k < 31 by omega) (by rw [ct]; exact decide_eq_true ⟨q1, q2⟩) hg
      refine ⟨b', ?_, hb2⟩
      show RR (pv_X0 L xs) (d + 2) 30 99 _ _ _ = _
      rw [B30_99, e2, if_neg (jI_run hk (by omega)), if_neg q1, C_counts (by omega), pv_bd_some, e4, e22]
      simp only [Option.toList_some, List.cons_append, List.nil_append]
      rw [B30_122, ite01, if_pos q2, hb1, pv_bd_some]
      exact nx b'
    · refine ⟨b, ?_, GK_skip hb (by rw [ct]; exact decide_eq_false (fun q => q2 q.2))⟩
      show RR (pv_X0 L xs) (d + 2) 30 99 _ _ _ = _
      rw [B30_99, e2, if_neg (jI_run hk (by omega)), if_neg q1, C_counts (by omega), pv_bd_some, e4, e22]
      simp only [Option.toList_some, List.cons_append, List.nil_append]
      rw [B30_122, ite01, if_neg q2]
      exact nx b) (a0 := a) h
  have e2 : gI b 2 = jI N := (h2.1.1 2 (by decide)).trans hN
  have h3 := GK_skips (M := 30) h2 (by omega) (fun g hg1 hg2 => by
    unfold ctB
    exact decide_eq_false (fun q => q.elim (fun q => absurd q.1 (by omega)) (fun q => absurd q.1 (by omega))))
  cases wg with
  | false =>
    refine ⟨b, h1.trans ?_, GK_skip h3 ?_⟩
    · show RR (pv_X0 L xs) (d + 2) 30 99 _ _ _ = _
      rw [B30_99, e2, if_pos jI_end, if_pos (show (if false = true then (1 : Int32) else 0) = 0 from rfl)]
    · unfold ctB
      exact decide_eq_false (fun q => q.elim (fun q => absurd q.1 (by omega)) (fun q => absurd q.2 (by decide)))
  | true =>
    obtain ⟨b', hb1, hb2⟩ := C_ent (L := L) (xs := xs) (d := d) h3 hn6 (show 30 < 31 by decide) (by unfold ctB; exact decide_eq_true (Or.inr ⟨rfl, rfl⟩)) hg
    refine ⟨b', h1.trans ?_, hb2⟩
    show RR (pv_X0 L xs) (d + 2) 30 99 _ _ _ = _
    have hb1' : RR (pv_X0 L xs) (d + 1) 32 0 [some (.ref 22), some (.ref 1), some (.int 30), some (.int m), none, none, none, none, none] [] (enc b) = some (none, enc b') := hb1
    rw [B30_99, e2, if_pos jI_end, if_neg (show ¬ (if true = true then (1 : Int32) else 0) = 0 by decide), hb1', pv_bd_some]
    rfl
/-! layOut -/
theorem GC_B {r q : Nat} {v : Int64} (h : GC u a n bl mt pl rt) (hr : 4 ≤ r ∧ r ≤ 9) : GC u (uB a r q v) n bl mt pl rt := by
  obtain ⟨s, e1, e2, f⟩ := h
  refine ⟨scr_B s (by omega), e1, e2, fun i hi => ?_⟩
  obtain ⟨f1, f2, f3⟩ := f i hi
  refine ⟨f1, ?_, f3⟩
  rw [gB_uB, if_neg (by omega)]
  exact f2
theorem neg_jI (h : k < 10000) : (-(jI k)).toInt64 = Int64.ofInt (-(k : Int)) := by
  have e := jI_toInt (k := k) (by omega)
  rw [neg64 (x := jI k) (by omega), jI_64 (by omega), Int64.ofInt_neg, ofI_nat]
theorem dia_jI (h : k < 10000) : (jI k + 2).toInt64 = Int64.ofInt ((k : Int) + 2) := by
  have e : jI k + 2 = jI (k + 2) := jI_add (b := 2)
  rw [e, jI_64 (by omega), ← ofI_nat]
  rfl
theorem C_layRow (hn6 : n ≤ 6) (hi : i < n) (h : GC u a n bl mt pl rt) (hm : ∀ i j, i < n → j < n → mt i j < 10000) (hp : ∀ i, i < n → pl i < 10000) {M : Nat → Nat → Int} (f : ∀ q, q < i → ∀ j, j < n → gB a (4 + q) j = Int64.ofInt (M q j)) (hM : ∀ j, j < n → M i j = if i = j then (pl i : Int) + (if m = 1 then 0 else 2) else -(mt i j : Int)) (jj : Option Value) : ∃ b, RR (pv_X0 L xs) d 33 2 [some (.ref 22), some (.int m), some (.int (jI i)), jj] [] (enc a) = RR (pv_X0 L xs) d 33 2 [some (.ref 22), some (.int m), some (.int (jI (i + 1))), some (.int (jI n))] [] (enc b) ∧ GC u b n bl mt pl rt ∧ ∀ q, q < i + 1 → ∀ j, j < n → gB b (4 + q) j = Int64.ofInt (M q j) := by
  have e10 := h.2.1
  obtain ⟨b, h1, h2, h3, h4⟩ := pv_loop (R := fun k b => RR (pv_X0 L xs) d 33 12 [some (.ref 22), some (.int m), some (.int (jI i)), some (.int (jI k))] [] (enc b)) (P := fun k b => GC u b n bl mt pl rt ∧ (∀ q, q < i → ∀ j, j < n → gB b (4 + q) j = Int64.ofInt (M q j)) ∧ ∀ j, j < k → gB b (4 + i) j = Int64.ofInt (-(mt i j : Int))) (N := n) (fun k b hk hb => by
    obtain ⟨g, f1, f2⟩ := hb
    refine ⟨uB b (4 + i) k (Int64.ofInt (-(mt i k : Int))), ?_, GC_B g (by omega), fun q hq j hj => ?_, fun j hj => ?_⟩
    · show RR (pv_X0 L xs) d 33 12 _ _ _ = _
      rw [B33_12, g.2.1, if_neg (jI_run hk (by omega)), B33_25 (show i < 6 by omega), B33_32 (show i < 6 by omega) (show i < 6 by omega), pv_ixn (by omega) (by decide), pv_ixn (by omega) (by decide), jI_succ, (g.2.2.2 i hi).2.2 k hk, neg_jI (hm i k hi hk)]
    · rw [gB_uB, if_neg (by omega)]
      exact f1 q hq j hj
    · rw [gB_uB, if_pos rfl]
      by_cases e : j = k
      · rw [if_pos e, e]
      · rw [if_neg e]
        exact f2 j (by omega)) (a0 := a) ⟨h, f, fun j hj => absurd hj (by omega)⟩
  have dg : ∀ v : Int64, v = Int64.ofInt ((pl i : Int) + (if m = 1 then 0 else 2)) → GC u (uB b (4 + i) i v) n bl mt pl rt ∧ ∀ q, q < i + 1 → ∀ j, j < n → gB (uB b (4 + i) i v) (4 + q) j = Int64.ofInt (M q j) := fun v hv => by
    refine ⟨GC_B h2 (by omega), fun q hq j hj => ?_⟩
    rw [gB_uB]
    by_cases e : q = i
    · rw [e, if_pos rfl, hM j hj]
      by_cases e2 : j = i
      · rw [if_pos e2, if_pos e2.symm, hv]
      · rw [if_neg e2, if_neg (fun r => e2 r.symm)]
        exact h4 j hj
    · rw [if_neg (by omega)]
      exact h3 q (by omega) j hj
  have st : RR (pv_X0 L xs) d 33 2 [some (.ref 22), some (.int m), some (.int (jI i)), jj] [] (enc a) = RR (pv_X0 L xs) d 33 49 [some (.ref 22), some (.int m), some (.int (jI i)), some (.int (jI n))] [.int (jI i), .ref 23] (enc b) := by
    rw [B33_2, e10, if_neg (jI_run hi (by omega))]
    refine h1.trans ?_
    show RR (pv_X0 L xs) d 33 12 _ _ _ = _
    rw [B33_12, h2.2.1, if_pos jI_end]
  rw [st, B33_49 (show i < 6 by omega), pv_ixn (show i < 6 by omega) (by decide), pv_ixn (show i < 6 by omega) (by decide), pv_ixn (show i < 6 by omega) (by decide), pv_ixn (show i < 6 by omega) (by decide), (h2.2.2.2 i hi).1, jI_succ]
  by_cases q : m = 1
  · rw [if_pos q]
    exact ⟨_, rfl, dg _ (by rw [if_pos q, jI_64 (Nat.lt_trans (hp i hi) (by decide)), Int.add_zero, ofI_nat])⟩
  · rw [if_neg q]
    exact ⟨_, rfl, dg _ (by rw [if_neg q, dia_jI (hp i hi)])⟩
theorem C_layOut (h2n : 2 ≤ n) (hn6 : n ≤ 6) (h : GC u a n bl mt pl rt) (hm : ∀ i j, i < n → j < n → mt i j < 10000) (hp : ∀ i, i < n → pl i < 10000) : ∃ b, RR (pv_X0 L xs) d 33 0 [some (.ref 22), some (.int m), none, none] [] (enc a) = some (none, enc b) ∧ RC u b n bl mt pl (MI (decide (m = 1)) n mt pl) (RV (decide (m = 1)) n rt) := by
  obtain ⟨⟨b, jj⟩, h1, h2, h3⟩ := pv_loop (R := fun k (b : pv_U × Option Value) => RR (pv_X0 L xs) d 33 2 [some (.ref 22), some (.int m), some (.int (jI k)), b.2] [] (enc b.1)) (P := fun k b => GC u b.1 n bl mt pl rt ∧ ∀ q, q < k → ∀ j, j < n → gB b.1 (4 + q) j = Int64.ofInt (if q = j then (pl q : Int) + (if m = 1 then 0 else 2) else -(mt q j : Int))) (N := n) (fun k b hk hb => by
    obtain ⟨b, jj⟩ := b
    obtain ⟨g, f⟩ := hb
    obtain ⟨b', x1, x2, x3⟩ := C_layRow (L := L) (xs := xs) (d := d) (m := m) (M := fun q j => if q = j then (pl q : Int) + (if m = 1 then 0 else 2) else -(mt q j : Int)) hn6 hk g hm hp f (fun j hj => rfl) jj
    exact ⟨(b', some (.int (jI n))), x1, x2, x3⟩) (a0 := (a, none)) ⟨h, fun q hq => absurd hq (by omega)⟩
  have e10 : gI b 10 = jI n := h2.2.1
  have st : RR (pv_X0 L xs) d 33 0 [some (.ref 22), some (.int m), none, none] [] (enc a) = if m = 1 then RR (pv_X0 L xs) d 33 89 [some (.ref 22), some (.int m), some (.int 0), jj] [] (enc b) else some (none, enc b) := by
    rw [B33_0]
    refine h1.trans ?_
    show RR (pv_X0 L xs) d 33 2 _ _ _ = _
    rw [B33_2, e10, if_pos jI_end]
  rw [st]
  by_cases q : m = 1
  case neg =>
    rw [if_neg q]
    refine ⟨b, rfl, h2.1, h2.2.1, h2.2.2.1, fun i hi => ?_⟩
    obtain ⟨f1, f2, f3⟩ := h2.2.2.2 i hi
    have n1 : ¬ (decide (m = 1) = true ∧ i = n - 1) := fun r => q (of_decide_eq_true r.1)
    refine ⟨f1, ?_, fun j hj => ⟨f3 j hj, ?_⟩⟩
    · unfold RV
      rw [if_neg n1]
      exact f2
    · unfold MI
      rw [if_neg n1, decide_eq_false q, if_neg Bool.false_ne_true]
      have := h3 i hi j hj
      rw [if_neg q] at this
      exact this
  rw [if_pos q]
  have em : jI n - 1 = jI (n - 1) := jI_sub (b := 1) (by omega)
  obtain ⟨b2, y1, y2, y3, y4⟩ := pv_loop (R := fun k b => RR (pv_X0 L xs) d 33 89 [some (.ref 22), some (.int m), some (.int (jI k)), jj] [] (enc b)) (P := fun k b => GC u b n bl mt pl rt ∧ (∀ q, q < n → ¬ q = n - 1 → ∀ j, j < n → gB b (4 + q) j = Int64.ofInt (if q = j then (pl q : Int) + (if m = 1 then 0 else 2) else -(mt q j : Int))) ∧ ∀ j, j < k → gB b (4 + (n - 1)) j = 1) (N := n) (fun k b hk hb => by
    obtain ⟨g, f1, f2⟩ := hb
    refine ⟨uB b (4 + (n - 1)) k 1, ?_, GC_B g (by omega), fun q hq hq2 j hj => ?_, fun j hj => ?_⟩
    · show RR (pv_X0 L xs) d 33 89 _ _ _ = _
      rw [B33_89, g.2.1, if_neg (jI_run hk (by omega)), em, B33_107 (show n - 1 < 6 by omega), pv_ixn (by omega) (by decide), jI_succ]
    · rw [gB_uB, if_neg (by omega)]
      exact f1 q hq hq2 j hj
    · rw [gB_uB, if_pos rfl]
      by_cases e : j = k
      · rw [if_pos e]
      · rw [if_neg e]
        exact f2 j (by omega)) (a0 := b) ⟨h2, fun q hq _ => h3 q hq, fun j hj => absurd hj (by omega)⟩
  refine ⟨uB b2 10 (n - 1) 0, y1.trans ?_, scr_B y2.1 (by omega), y2.2.1, y2.2.2.1, fun i hi => ?_⟩
  · show RR (pv_X0 L xs) d 33 89 _ _ _ = _
    rw [B33_89, y2.2.1, if_pos jI_end, em, pv_ixn (by omega) (by decide)]
  · obtain ⟨f1, f2, f3⟩ := y2.2.2.2 i hi
    refine ⟨f1, ?_, fun j hj => ⟨f3 j hj, ?_⟩⟩
    · unfold RV
      rw [gB_uB, if_pos rfl, decide_eq_true q]
      by_cases e : i = n - 1
      · rw [if_pos e, if_pos ⟨rfl, e⟩]
      · rw [if_neg e, if_neg (fun r => e r.2)]
        exact f2
    · unfold MI
      rw [gB_uB, if_neg (by omega), decide_eq_true q]
      by_cases e : i = n - 1
      · rw [if_pos ⟨rfl, e⟩, e]
        exact y4 j hj
      · rw [if_neg (fun r => e r.2), if_pos (rfl : true = true)]
        have := y3 i hi e j hj
        rw [if_pos q] at this
        exact this
end GATHER2
