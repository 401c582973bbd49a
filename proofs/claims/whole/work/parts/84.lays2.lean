/-! the reference's rows: lays, put together (printed by wip/whole/ops/pp.py) -/
def RM (v b : pv_U) (n : Nat) (bl : Int64) (mt : Nat → Nat → Nat) (M : Nat → Nat → Int) (R : Nat → Int64) : Prop := scr v b ∧ gJ b 6 = bl ∧ ∀ i, i < n → gB b 20 i = R i ∧ ∀ j, j < n → gB b 21 (6 * i + j) = jL (mt i j) ∧ gB b 19 (6 * i + j) = Int64.ofInt (M i j)
section LAYS2
variable {L : Nat} {xs : Nat → Int32} {u v a b : pv_U} {d k n N i j H A W : Nat} {x y z m day lo w4 : Int32} {bl : Int64} {mt mt' : Nat → Nat → Nat} {pl pl' : Nat → Nat} {rt rt' : Nat → Int64} {c : Nat → Bool} {r0 : Int64}
theorem M_zero (hn6 : n ≤ 6) : ∃ b, RR (pv_X0 L xs) d 141 0 [some (.ref 55), some (.int m), some (.int day), some (.int lo), some (.int w4), none, none] [] (enc v) = RR (pv_X0 L xs) d 141 61 [some (.ref 55), some (.int m), some (.int day), some (.int lo), some (.int w4), some (.int 0), none] [] (enc b) ∧ LC v b n (fun _ _ => 0) (fun _ => if m = 0 then 2 else 0) := by
  obtain ⟨b, h1, h2, h3⟩ := pv_loop (R := fun k b => RR (pv_X0 L xs) d 141 3 [some (.ref 55), some (.int m), some (.int day), some (.int lo), some (.int w4), some (.int (jI k)), none] [] (enc b)) (P := fun k b => scr v b ∧ ∀ q, q < k → gB b 21 q = 0) (N := 36) (fun k b hk hb => by
    obtain ⟨s, f⟩ := hb
    refine ⟨uB b 21 k 0, ?_, scr_B s (by omega), fun q hq => ?_⟩
    · show RR (pv_X0 L xs) d 141 3 _ _ _ = _
      rw [B141_3, if_neg (run_lit (c := 36) (N := 36) rfl hk (by omega)), pv_ixn hk (by decide), jI_succ]
    · rw [gB_uB, if_pos rfl]
      by_cases e : q = k
      · rw [if_pos e]
      · rw [if_neg e]
        exact f q (by omega)) (a0 := v) ⟨scr_refl, fun q hq => absurd hq (by omega)⟩
  obtain ⟨b2, y1, y2, y3, y4⟩ := pv_loop (R := fun k b => RR (pv_X0 L xs) d 141 27 [some (.ref 55), some (.int m), some (.int day), some (.int lo), some (.int w4), some (.int (jI k)), none] [] (enc b)) (P := fun k b => scr v b ∧ (∀ q, q < 36 → gB b 21 q = 0) ∧ ∀ q, q < k → gB b 20 q = if m = 0 then 2 else 0) (N := 6) (fun k b hk hb => by
    obtain ⟨s, f, g⟩ := hb
    refine ⟨uB b 20 k (if m = 0 then 2 else 0), ?_, scr_B s (by omega), fun q hq => ?_, fun q hq => ?_⟩
    · show RR (pv_X0 L xs) d 141 27 _ _ _ = _
      rw [B141_27, if_neg (run_lit (c := 6) (N := 6) rfl hk (by omega)), pv_ixn hk (by decide), pv_ixn hk (by decide), jI_succ]
      by_cases q : m = 0
      · rw [if_pos q, if_pos q]
      · rw [if_neg q, if_neg q]
    · rw [gB_uB, if_neg (by decide)]
      exact f q hq
    · rw [gB_uB, if_pos rfl]
      by_cases e : q = k
      · rw [if_pos e]
      · rw [if_neg e]
        exact g q (by omega)) (a0 := b) ⟨h2, h3, fun q hq => absurd hq (by omega)⟩
  refine ⟨b2, ?_, y2, fun i hi => ⟨y4 i (by omega), fun j hj => y3 _ (by omega)⟩⟩
  rw [B141_0]
  refine h1.trans ?_
  show RR (pv_X0 L xs) d 141 3 _ _ _ = _
  rw [B141_3, if_pos (end_lit (c := 36) (N := 36) rfl)]
  refine y1.trans ?_
  show RR (pv_X0 L xs) d 141 27 _ _ _ = _
  rw [B141_27, if_pos (end_lit (c := 6) (N := 6) rfl)]
theorem M_games (hn6 : n ≤ 6) (hN : gI v 16 = jI N) (h30 : N ≤ 30) (sm : sameR u v) {wg : Bool} (hg : hgP u n (cW u N day lo wg)) (h : LK u v a n m (cW u N day lo wg) r0 0) : ∃ b, RR (pv_X0 L xs) (d + 2) 141 61 [some (.ref 55), some (.int m), some (.int day), some (.int lo), some (.int (if wg = true then 1 else 0)), some (.int 0), none] [] (enc a) = RR (pv_X0 L xs) (d + 2) 141 97 [some (.ref 55), some (.int m), some (.int day), some (.int lo), some (.int (if wg = true then 1 else 0)), some (.int 0), none] [] (enc b) ∧ LK u v b n m (cW u N day lo wg) r0 31 := by
  obtain ⟨b, h1, h2⟩ := pv_loop (R := fun k b => RR (pv_X0 L xs) (d + 2) 141 61 [some (.ref 55), some (.int m), some (.int day), some (.int lo), some (.int (if wg = true then 1 else 0)), some (.int (jI k)), none] [] (enc b)) (P := fun k b => LK u v b n m (cW u N day lo wg) r0 k) (N := 31) (fun k b hk hb => by
    have e16 : gI b 16 = jI N := (hb.1.1 16 (by decide)).trans hN
    have e30 : gA b 30 = gA u 4 := (hb.1.2.2.1 30 (by decide)).trans sm.2.2.2.2.1
    have e28 : gA b 28 = gA u 2 := (hb.1.2.2.1 28 (by decide)).trans sm.2.2.1
    have ct : RR (pv_X0 L xs) (d + 1) 142 0 [some (.ref 55), some (.int (jI k)), some (.int day), some (.int lo), some (.int (if wg = true then 1 else 0))] [] (enc b) = some (some (.int (if cW u N day lo wg k = true then 1 else 0)), enc b) := by
      by_cases e : k = 30
      · subst e
        have hc : cW u N day lo wg 30 = wg := by
          show ctB _ _ N day lo wg 30 = wg
          unfold ctB
          cases wg with
          | true => exact decide_eq_true (Or.inr ⟨rfl, rfl⟩)
          | false => exact decide_eq_false (fun q => q.elim (fun q => absurd q.1 (by omega)) (fun q => absurd q.2 (by decide)))
        rw [B142_0, if_pos (show jI 30 = 30 from rfl), hc]
        cases wg <;> rfl
      · rw [M_counts e16 h30 (by omega), e30, e28]
        have hc : cW u N day lo wg k = decide (k < N ∧ ¬ jI k = lo ∧ gA u 4 k = 0 ∧ ¬ day < gA u 2 k) := by
          show ctB _ _ N day lo wg k = _
          unfold ctB
          exact decide_eq_decide.mpr ⟨fun q => q.elim id (fun q => absurd q.1 e), Or.inl⟩
        rw [hc]
        by_cases q : k < N ∧ ¬ jI k = lo ∧ gA u 4 k = 0 ∧ ¬ day < gA u 2 k
        · rw [if_pos q, if_pos (decide_eq_true q)]
        · rw [if_neg q, if_neg (by rw [decide_eq_false q]; decide)]
    have nx : ∀ w : pv_U, RR (pv_X0 L xs) (d + 2) 141 88 [some (.ref 55), some (.int m), some (.int day), some (.int lo), some (.int (if wg = true then 1 else 0)), some (.int (jI k)), none] [] (enc w) = RR (pv_X0 L xs) (d + 2) 141 61 [some (.ref 55), some (.int m), some (.int day), some (.int lo), some (.int (if wg = true then 1 else 0)), some (.int (jI (k + 1))), none] [] (enc w) := fun w => by rw [B141_88, jI_succ]
    have st : RR (pv_X0 L xs) (d + 2) 141 61 [some (.ref 55), some (.int m), some (.int day), some (.int lo), some (.int (if wg = true then 1 else 0)), some (.int (jI k)), none] [] (enc b) = RR (pv_X0 L xs) (d + 2) 141 78 [some (.ref 55), some (.int m), some (.int day), some (.int lo), some (.int (if wg = true then 1 else 0)), some (.int (jI k)), none] [.int (if cW u N day lo wg k = true then 1 else 0)] (enc b) := by
      rw [B141_61, if_neg (show ¬ (30 : Int32) < jI k by show ¬ jI 30 < jI k; rw [jI_lt (by omega) (by omega)]; omega), ct, pv_bd_some]
      rfl
    by_cases q : cW u N day lo wg k = true
    · obtain ⟨b', hb1, hb2⟩ := M_ent (L := L) (xs := xs) (d := d) hb sm hn6 hk q hg
      refine ⟨b', ?_, hb2⟩
      refine st.trans ?_
      rw [B141_78, ite01, if_pos q, hb1, pv_bd_some]
      exact nx b'
    · refine ⟨b, ?_, LK_skip hb (by cases hq : cW u N day lo wg k with | false => rfl | true => exact absurd hq q)⟩
      refine st.trans ?_
      rw [B141_78, ite01, if_neg q]
      exact nx b) (a0 := a) h
  refine ⟨b, h1.trans ?_, h2⟩
  show RR (pv_X0 L xs) (d + 2) 141 61 _ _ _ = _
  rw [B141_61, if_pos (by decide)]
theorem M_manyOf (hn6 : n ≤ 6) (hi : i < n) (h15 : gI b 15 = jI n) (f : ∀ j, j < n → gB b 21 (6 * i + j) = jL (mt i j)) : RR (pv_X0 L xs) d 145 0 [some (.ref 55), some (.int (jI i)), none, none, none] [] (enc b) = some (some (.long (jL (sN (fun j => mt i j) n))), enc b) := by
  rw [B145_0]
  obtain ⟨s, h1, h2⟩ := pv_loop (R := fun k (s : Int64) => RR (pv_X0 L xs) d 145 5 [some (.ref 55), some (.int (jI i)), some (.long s), none, some (.int (jI k))] [] (enc b)) (P := fun k s => s = jL (sN (fun j => mt i j) k)) (N := n) (fun k s hk hs => ⟨jL (sN (fun j => mt i j) (k + 1)), by
    subst hs
    have i1 : (6 : Int32) * jI i + jI k = jI (6 * i + k) := by
      show jI 6 * jI i + jI k = _
      rw [jI_mul, jI_add]
    show RR (pv_X0 L xs) d 145 5 _ _ _ = _
    rw [B145_5, h15, if_neg (jI_run hk (by omega)), i1, pv_ixn (by omega) (by decide), f k hk, jL_add, jI_succ]
    rfl, rfl⟩) (a0 := 0) rfl
  subst h2
  refine h1.trans ?_
  show RR (pv_X0 L xs) d 145 5 _ _ _ = _
  rw [B145_5, h15, if_pos jI_end]
theorem LC_B {q : Nat} {w : Int64} (h : LC v a n mt rt) : LC v (uB a 19 q w) n mt rt := by
  obtain ⟨s, f⟩ := h
  refine ⟨scr_B s (by omega), fun i hi => ?_⟩
  obtain ⟨f2, f3⟩ := f i hi
  refine ⟨?_, fun j hj => ?_⟩
  · rw [gB_uB, if_neg (by decide)]
    exact f2
  · rw [gB_uB, if_neg (by decide)]
    exact f3 j hj
theorem M_layRow (hn6 : n ≤ 6) (hi : i < n) (h15 : gI v 15 = jI n) (h : LC v a n mt rt) (hp : ∀ i, i < n → sN (fun j => mt i j) n = pl i) {M : Nat → Nat → Int} (f : ∀ q, q < i → ∀ j, j < n → gB a 19 (6 * q + j) = Int64.ofInt (M q j)) (hM : ∀ j, j < n → M i j = if i = j then (pl i : Int) + (if m = 1 then 0 else 2) else -(mt i j : Int)) (jj : Option Value) : ∃ b, RR (pv_X0 L xs) (d + 1) 141 97 [some (.ref 55), some (.int m), some (.int day), some (.int lo), some (.int w4), some (.int (jI i)), jj] [] (enc a) = RR (pv_X0 L xs) (d + 1) 141 97 [some (.ref 55), some (.int m), some (.int day), some (.int lo), some (.int w4), some (.int (jI (i + 1))), some (.int (jI n))] [] (enc b) ∧ LC v b n mt rt ∧ ∀ q, q < i + 1 → ∀ j, j < n → gB b 19 (6 * q + j) = Int64.ofInt (M q j) := by
  have e15 : ∀ b, LC v b n mt rt → gI b 15 = jI n := fun b g => (g.1.1 15 (by decide)).trans h15
  obtain ⟨b, h1, h2, h3, h4⟩ := pv_loop (R := fun k b => RR (pv_X0 L xs) (d + 1) 141 109 [some (.ref 55), some (.int m), some (.int day), some (.int lo), some (.int w4), some (.int (jI i)), some (.int (jI k))] [] (enc b)) (P := fun k b => LC v b n mt rt ∧ (∀ q, q < i → ∀ j, j < n → gB b 19 (6 * q + j) = Int64.ofInt (M q j)) ∧ ∀ j, j < k → gB b 19 (6 * i + j) = Int64.ofInt (M i j)) (N := n) (fun k b hk hb => by
    obtain ⟨g, f1, f2⟩ := hb
    have i1 : (6 : Int32) * jI i + jI k = jI (6 * i + k) := by
      show jI 6 * jI i + jI k = _
      rw [jI_mul, jI_add]
    refine ⟨uB b 19 (6 * i + k) (Int64.ofInt (M i k)), ?_, LC_B g, fun q hq j hj => ?_, fun j hj => ?_⟩
    · show RR (pv_X0 L xs) (d + 1) 141 109 _ _ _ = _
      rw [B141_109, e15 b g, if_neg (jI_run hk (by omega)), i1]
      by_cases e : i = k
      · have eM : M i k = (pl i : Int) + (if m = 1 then 0 else 2) := (hM k hk).trans (if_pos e)
        rw [if_pos (show jI i = jI k by rw [e]), M_manyOf hn6 hi (e15 b g) (g.2 i hi).2, hp i hi, pv_bd_some]
        simp only [Option.toList_some, List.cons_append, List.nil_append]
        rw [B141_143, pv_ixn (by omega) (by decide), pv_ixn (by omega) (by decide), jI_succ, eM]
        by_cases q : m = 1
        · rw [if_pos q, if_pos q, Int64.add_zero, Int.add_zero, ofI_nat]
        · have e2 : jL (pl i) + 2 = Int64.ofInt ((pl i : Int) + 2) := by
            have : jL (pl i) + 2 = jL (pl i + 2) := jL_add (b := 2)
            rw [this, ← ofI_nat]
            rfl
          rw [if_neg q, if_neg q, e2]
      · have eM : M i k = -(mt i k : Int) := (hM k hk).trans (if_neg e)
        rw [if_neg (show ¬ jI i = jI k by rw [jI_eq (by omega) (by omega)]; exact e), pv_ixn (by omega) (by decide), pv_ixn (by omega) (by decide), (g.2 i hi).2 k hk, jI_succ, eM, Int64.ofInt_neg, ofI_nat]
    · rw [gB_uB, if_pos rfl, if_neg (by omega)]
      exact f1 q hq j hj
    · rw [gB_uB, if_pos rfl]
      by_cases e : j = k
      · rw [if_pos (by rw [e]), e]
      · rw [if_neg (by omega)]
        exact f2 j (by omega)) (a0 := a) ⟨h, f, fun j hj => absurd hj (by omega)⟩
  refine ⟨b, ?_, h2, fun q hq j hj => ?_⟩
  · rw [B141_97, e15 a h, if_neg (jI_run hi (by omega))]
    refine h1.trans ?_
    show RR (pv_X0 L xs) (d + 1) 141 109 _ _ _ = _
    rw [B141_109, e15 b h2, if_pos jI_end, jI_succ]
  · by_cases e : q = i
    · rw [e]
      exact h4 j hj
    · exact h3 q (by omega) j hj
theorem M_lays (hN : gI v 16 = jI N) (h30 : N ≤ 30) (hn : gI v 15 = jI n) (h2n : 2 ≤ n) (hn6 : n ≤ 6) (sm : sameR u v) {wg : Bool} (hg : hgP u n (cW u N day lo wg)) : ∃ b, RR (pv_X0 L xs) (d + 2) 141 0 [some (.ref 55), some (.int m), some (.int day), some (.int lo), some (.int (if wg = true then 1 else 0)), none, none] [] (enc v) = some (none, enc b) ∧ RM v b n (blT m) (mT u (cW u N day lo wg)) (MI (decide (m = 1)) n (mT u (cW u N day lo wg)) (pT u (cW u N day lo wg))) (RV (decide (m = 1)) n (rT u m (cW u N day lo wg))) := by
  obtain ⟨b0, z1, z2⟩ := M_zero (L := L) (xs := xs) (v := v) (d := d + 2) (m := m) (day := day) (lo := lo) (w4 := if wg = true then 1 else 0) hn6
  obtain ⟨b1, g1, g2⟩ := M_games (L := L) (xs := xs) (d := d) (m := m) (r0 := if m = 0 then 2 else 0) hn6 hN h30 sm hg z2
  have hp : ∀ i, i < n → sN (fun j => mT u (cW u N day lo wg) i j) n = pT u (cW u N day lo wg) i := fun i hi => pT_mT hi hn6 hg
  have g2' : LC v b1 n (mT u (cW u N day lo wg)) (rT u m (cW u N day lo wg)) := g2
  generalize mT u (cW u N day lo wg) = mt at *
  generalize pT u (cW u N day lo wg) = pl at *
  generalize rT u m (cW u N day lo wg) = rt at *
  obtain ⟨⟨b, jj⟩, h1, h2, h3⟩ := pv_loop (R := fun k (b : pv_U × Option Value) => RR (pv_X0 L xs) (d + 2) 141 97 [some (.ref 55), some (.int m), some (.int day), some (.int lo), some (.int (if wg = true then 1 else 0)), some (.int (jI k)), b.2] [] (enc b.1)) (P := fun k b => LC v b.1 n mt rt ∧ ∀ q, q < k → ∀ j, j < n → gB b.1 19 (6 * q + j) = Int64.ofInt (if q = j then (pl q : Int) + (if m = 1 then 0 else 2) else -(mt q j : Int))) (N := n) (fun k b hk hb => by
    obtain ⟨b, jj⟩ := b
    obtain ⟨g, f⟩ := hb
    obtain ⟨b', x1, x2, x3⟩ := M_layRow (L := L) (xs := xs) (d := d + 1) (m := m) (day := day) (lo := lo) (w4 := if wg = true then 1 else 0) (M := fun q j => if q = j then (pl q : Int) + (if m = 1 then 0 else 2) else -(mt q j : Int)) hn6 hk hn g hp f (fun j hj => rfl) jj
    exact ⟨(b', some (.int (jI n))), x1, x2, x3⟩) (a0 := (b1, none)) ⟨g2', fun q hq => absurd hq (by omega)⟩
  have e15 : ∀ b, LC v b n mt rt → gI b 15 = jI n := fun b g => (g.1.1 15 (by decide)).trans hn
  have st : RR (pv_X0 L xs) (d + 2) 141 0 [some (.ref 55), some (.int m), some (.int day), some (.int lo), some (.int (if wg = true then 1 else 0)), none, none] [] (enc v) = if m = 1 then RR (pv_X0 L xs) (d + 2) 141 194 [some (.ref 55), some (.int m), some (.int day), some (.int lo), some (.int (if wg = true then 1 else 0)), some (.int 0), jj] [] (enc b) else some (none, enc (uJ b 6 (blT m))) := by
    rw [z1, g1]
    refine h1.trans ?_
    show RR (pv_X0 L xs) (d + 2) 141 97 _ _ _ = _
    rw [B141_97, e15 b h2, if_pos jI_end]
    unfold blT
    by_cases q : m = 1
    · rw [if_pos q, if_pos q]
    · rw [if_neg q, if_neg q]
      by_cases q2 : m = 0
      · rw [if_pos q2, if_pos q2]
      · rw [if_neg q2, if_neg q2]
  rw [st]
  by_cases q : m = 1
  case neg =>
    rw [if_neg q]
    refine ⟨_, rfl, scr_J h2.1 (by omega), by rw [gJ_uJ, if_pos rfl], fun i hi => ?_⟩
    obtain ⟨f2, f3⟩ := h2.2 i hi
    have n1 : ¬ (decide (m = 1) = true ∧ i = n - 1) := fun r => q (of_decide_eq_true r.1)
    refine ⟨?_, fun j hj => ⟨f3 j hj, ?_⟩⟩
    · unfold RV
      rw [if_neg n1]
      exact f2
    · unfold MI
      rw [if_neg n1, decide_eq_false q, if_neg Bool.false_ne_true]
      have := h3 i hi j hj
      rw [if_neg q] at this
      exact this
  rw [if_pos q]
  have em : jI n - 1 = jI (n - 1) := jI_sub (b := 1) (by omega)
  obtain ⟨b2, y1, y2, y3, y4⟩ := pv_loop (R := fun k b => RR (pv_X0 L xs) (d + 2) 141 194 [some (.ref 55), some (.int m), some (.int day), some (.int lo), some (.int (if wg = true then 1 else 0)), some (.int (jI k)), jj] [] (enc b)) (P := fun k b => LC v b n mt rt ∧ (∀ q, q < n → ¬ q = n - 1 → ∀ j, j < n → gB b 19 (6 * q + j) = Int64.ofInt (if q = j then (pl q : Int) + (if m = 1 then 0 else 2) else -(mt q j : Int))) ∧ ∀ j, j < k → gB b 19 (6 * (n - 1) + j) = 1) (N := n) (fun k b hk hb => by
    obtain ⟨g, f1, f2⟩ := hb
    have i1 : (6 : Int32) * jI (n - 1) + jI k = jI (6 * (n - 1) + k) := by
      show jI 6 * jI (n - 1) + jI k = _
      rw [jI_mul, jI_add]
    refine ⟨uB b 19 (6 * (n - 1) + k) 1, ?_, LC_B g, fun q hq hq2 j hj => ?_, fun j hj => ?_⟩
    · show RR (pv_X0 L xs) (d + 2) 141 194 _ _ _ = _
      rw [B141_194, e15 b g, if_neg (jI_run hk (by omega)), em, i1, pv_ixn (by omega) (by decide), jI_succ]
    · rw [gB_uB, if_pos rfl, if_neg (by omega)]
      exact f1 q hq hq2 j hj
    · rw [gB_uB, if_pos rfl]
      by_cases e : j = k
      · rw [if_pos (by rw [e])]
      · rw [if_neg (by omega)]
        exact f2 j (by omega)) (a0 := b) ⟨h2, fun q hq _ => h3 q hq, fun j hj => absurd hj (by omega)⟩
  have bl1 : blT m = 1 := by
    unfold blT
    rw [q]
    decide
  refine ⟨uJ (uB b2 20 (n - 1) 0) 6 1, y1.trans ?_, scr_J (scr_B y2.1 (by omega)) (by omega), by rw [gJ_uJ, if_pos rfl, bl1], fun i hi => ?_⟩
  · show RR (pv_X0 L xs) (d + 2) 141 194 _ _ _ = _
    rw [B141_194, e15 b2 y2, if_pos jI_end, em, pv_ixn (by omega) (by decide), if_neg (by rw [q]; decide)]
  · obtain ⟨f2, f3⟩ := y2.2 i hi
    refine ⟨?_, fun j hj => ⟨?_, ?_⟩⟩
    · unfold RV
      rw [gB_uJ, gB_uB, if_pos rfl, decide_eq_true q]
      by_cases e : i = n - 1
      · rw [if_pos e, if_pos ⟨rfl, e⟩]
      · rw [if_neg e, if_neg (fun r => e r.2)]
        exact f2
    · rw [gB_uJ, gB_uB, if_neg (by decide)]
      exact f3 j hj
    · unfold MI
      rw [gB_uJ, gB_uB, if_neg (by decide), decide_eq_true q]
      by_cases e : i = n - 1
      · rw [if_pos ⟨rfl, e⟩, e]
        exact y4 j hj
      · rw [if_neg (fun r => e r.2), if_pos (rfl : true = true)]
        have := y3 i hi e j hj
        rw [if_pos q] at this
        exact this
end LAYS2
