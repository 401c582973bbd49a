/-! the class's rows: gather (printed by wip/whole/ops/pp.py) -/
/-- GAMES that count -/
def ctB (v dy : Nat → Int32) (N : Nat) (day lo : Int32) (wg : Bool) (g : Nat) : Bool := decide ((g < N ∧ ¬ jI g = lo ∧ v g = 0 ∧ ¬ day < dy g) ∨ (g = 30 ∧ wg = true))
def gnC (u : pv_U) (m : Int32) (g : Nat) : Int64 := (if m = 0 then (oco (gB u 0 g) (gB u 1 g)).toInt64 else mgn (gB u 0 g) (gB u 1 g) (gJ u 0)) * (gA u 3 g).toInt64
/-- the class's rows hold these -/
def GC (u a : pv_U) (n : Nat) (bl : Int64) (mt : Nat → Nat → Nat) (pl : Nat → Nat) (rt : Nat → Int64) : Prop := scr u a ∧ gI a 10 = jI n ∧ gJ a 3 = bl ∧ ∀ i, i < n → gA a 20 i = jI (pl i) ∧ gB a 10 i = rt i ∧ ∀ j, j < n → gA a (14 + i) j = jI (mt i j)
section GATHER
variable {L : Nat} {xs : Nat → Int32} {u a : pv_U} {d k n N i j H A W : Nat} {x y z m day lo wg : Int32} {bl : Int64} {mt mt' : Nat → Nat → Nat} {pl pl' : Nat → Nat} {rt rt' : Nat → Int64}
theorem GC_congr (h : GC u a n bl mt pl rt) (h1 : ∀ i j, i < n → j < n → mt' i j = mt i j) (h2 : ∀ i, i < n → pl' i = pl i) (h3 : ∀ i, i < n → rt' i = rt i) : GC u a n bl mt' pl' rt' := by
  obtain ⟨s, e1, e2, f⟩ := h
  refine ⟨s, e1, e2, fun i hi => ?_⟩
  obtain ⟨f1, f2, f3⟩ := f i hi
  exact ⟨by rw [h2 i hi]; exact f1, by rw [h3 i hi]; exact f2, fun j hj => by rw [h1 i j hi hj]; exact f3 j hj⟩
theorem C_zeroI {b : pv_U} {r0 : Int64} (hn6 : n ≤ 6) (hi : i < n) (s : scr u b) (e1 : gI b 10 = jI n) (e2 : gJ b 3 = bl) (f : ∀ q, q < i → gA b 20 q = 0 ∧ gB b 10 q = r0 ∧ ∀ j, j < n → gA b (14 + q) j = 0) (f2 : gA b 20 i = 0 ∧ gB b 10 i = r0) : ∃ c, RR (pv_X0 L xs) d 30 64 [some (.ref 22), some (.ref 1), some (.int m), some (.int day), some (.int lo), some (.int wg), some (.int (jI i)), some (.int 0)] [] (enc b) = RR (pv_X0 L xs) d 30 64 [some (.ref 22), some (.ref 1), some (.int m), some (.int day), some (.int lo), some (.int wg), some (.int (jI i)), some (.int (jI n))] [] (enc c) ∧ scr u c ∧ gI c 10 = jI n ∧ gJ c 3 = bl ∧ ∀ q, q < i + 1 → gA c 20 q = 0 ∧ gB c 10 q = r0 ∧ ∀ j, j < n → gA c (14 + q) j = 0 := by
  obtain ⟨c, h1, h2, h3, h4, h5, h6, h7⟩ := pv_loop (R := fun k c => RR (pv_X0 L xs) d 30 64 [some (.ref 22), some (.ref 1), some (.int m), some (.int day), some (.int lo), some (.int wg), some (.int (jI i)), some (.int (jI k))] [] (enc c)) (P := fun k c => scr u c ∧ gI c 10 = jI n ∧ gJ c 3 = bl ∧ (∀ q, q < i → gA c 20 q = 0 ∧ gB c 10 q = r0 ∧ ∀ j, j < n → gA c (14 + q) j = 0) ∧ (gA c 20 i = 0 ∧ gB c 10 i = r0) ∧ ∀ j, j < k → gA c (14 + i) j = 0) (N := n) (fun k c hk hc => by
    obtain ⟨s, e1, e2, f, f2, f3⟩ := hc
    refine ⟨uA c (14 + i) k 0, ?_, scr_A s (by omega), e1, e2, fun q hq => ?_, ?_, fun j hj => ?_⟩
    · show RR (pv_X0 L xs) d 30 64 _ _ _ = _
      rw [B30_64, e1, if_neg (jI_run hk (by omega)), B30_79 (show i < 6 by omega), pv_ixn (by omega) (by decide), jI_succ]
    · obtain ⟨g1, g2, g3⟩ := f q hq
      refine ⟨?_, g2, fun j hj => ?_⟩
      · rw [gA_uA, if_neg (by omega)]
        exact g1
      · rw [gA_uA, if_neg (by omega)]
        exact g3 j hj
    · refine ⟨?_, f2.2⟩
      rw [gA_uA, if_neg (by omega)]
      exact f2.1
    · rw [gA_uA, if_pos rfl]
      by_cases e : j = k
      · rw [if_pos e]
      · rw [if_neg e]
        exact f3 j (by omega)) (a0 := b) ⟨s, e1, e2, f, f2, fun j hj => absurd hj (by omega)⟩
  refine ⟨c, h1, h2, h3, h4, fun q hq => ?_⟩
  by_cases e : q = i
  · subst e
    exact ⟨h6.1, h6.2, h7⟩
  · exact h5 q (by omega)
theorem C_zero {b : pv_U} (hn6 : n ≤ 6) (s : scr u b) (e1 : gI b 10 = jI n) (e2 : gJ b 3 = bl) : ∃ c j, RR (pv_X0 L xs) d 30 26 [some (.ref 22), some (.ref 1), some (.int m), some (.int day), some (.int lo), some (.int wg), some (.int 0), none] [] (enc b) = RR (pv_X0 L xs) d 30 99 [some (.ref 22), some (.ref 1), some (.int m), some (.int day), some (.int lo), some (.int wg), some (.int 0), j] [] (enc c) ∧ GC u c n bl (fun _ _ => 0) (fun _ => 0) (fun _ => if m = 0 then 2 else 0) := by
  obtain ⟨⟨c, j⟩, h1, h2, h3, h4, h5⟩ := pv_loop (R := fun k (c : pv_U × Option Value) => RR (pv_X0 L xs) d 30 26 [some (.ref 22), some (.ref 1), some (.int m), some (.int day), some (.int lo), some (.int wg), some (.int (jI k)), c.2] [] (enc c.1)) (P := fun k c => scr u c.1 ∧ gI c.1 10 = jI n ∧ gJ c.1 3 = bl ∧ ∀ q, q < k → gA c.1 20 q = 0 ∧ gB c.1 10 q = (if m = 0 then 2 else 0) ∧ ∀ j, j < n → gA c.1 (14 + q) j = 0) (N := n) (fun k c hk hc => by
    obtain ⟨c, jj⟩ := c
    obtain ⟨s, e1, e2, f⟩ := hc
    have s' : scr u (uA (uB c 10 k (if m = 0 then 2 else 0)) 20 k 0) := scr_A (scr_B s (by omega)) (by omega)
    have f' : ∀ q, q < k → gA (uA (uB c 10 k (if m = 0 then 2 else 0)) 20 k 0) 20 q = 0 ∧ gB (uA (uB c 10 k (if m = 0 then 2 else 0)) 20 k 0) 10 q = (if m = 0 then 2 else 0) ∧ ∀ j, j < n → gA (uA (uB c 10 k (if m = 0 then 2 else 0)) 20 k 0) (14 + q) j = 0 := fun q hq => by
      obtain ⟨g1, g2, g3⟩ := f q hq
      refine ⟨?_, ?_, fun j hj => ?_⟩
      · rw [gA_uA, if_pos rfl, if_neg (by omega), gA_uB]
        exact g1
      · rw [gB_uA, gB_uB, if_pos rfl, if_neg (by omega)]
        exact g2
      · rw [gA_uA, if_neg (by omega), gA_uB]
        exact g3 j hj
    obtain ⟨c2, h1, h2, h3, h4, h5⟩ := C_zeroI (L := L) (xs := xs) (d := d) (m := m) (day := day) (lo := lo) (wg := wg) hn6 hk s' e1 e2 f' ⟨by rw [gA_uA, if_pos rfl, if_pos rfl], by rw [gB_uA, gB_uB, if_pos rfl, if_pos rfl]⟩
    refine ⟨(c2, some (.int (jI n))), ?_, h2, h3, h4, h5⟩
    show RR (pv_X0 L xs) d 30 26 _ _ _ = _
    rw [B30_26]
    have e1' : gI c 10 = jI n := e1
    rw [e1', if_neg (jI_run hk (by omega))]
    have h1' := h1
    by_cases q : m = 0
    · rw [if_pos q, pv_ixn (by omega) (by decide), pv_ixn (by omega) (by decide)]
      rw [if_pos q] at h1'
      refine h1'.trans ?_
      rw [B30_64, h3, if_pos jI_end, jI_succ]
    · rw [if_neg q, pv_ixn (by omega) (by decide), pv_ixn (by omega) (by decide)]
      rw [if_neg q] at h1'
      refine h1'.trans ?_
      rw [B30_64, h3, if_pos jI_end, jI_succ]) (a0 := (b, none)) ⟨s, e1, e2, fun q hq => absurd hq (by omega)⟩
  refine ⟨c, j, h1.trans ?_, h2, h3, h4, fun i hi => ?_⟩
  · show RR (pv_X0 L xs) d 30 26 _ _ _ = _
    have h3' : gI c 10 = jI n := h3
    rw [B30_26, h3', if_pos jI_end]
  · obtain ⟨g1, g2, g3⟩ := h5 i hi
    exact ⟨g1, g2, g3⟩
theorem C_enter {a1 a2 a3 a4 b1 b2 : pv_U} (s : scr u a) (hk : k < 31) (hH : H < 6) (hA : A < 6) (eh : gA u 0 k = jI H) (ea : gA u 1 k = jI A) (ew : gA u 3 k = jI W) (e1 : a1 = uA a (14 + H) A (gA a (14 + H) A + jI W)) (e2 : a2 = uA a1 (14 + A) H (gA a1 (14 + A) H + jI W)) (e3 : a3 = uA a2 20 H (gA a2 20 H + jI W)) (e4 : a4 = uA a3 20 A (gA a3 20 A + jI W)) (e5 : b1 = uB a4 10 H (gB a4 10 H + gnC u m k)) (e6 : b2 = uB b1 10 A (gB b1 10 A - gnC u m k)) : RR (pv_X0 L xs) (d + 1) 32 0 [some (.ref 22), some (.ref 1), some (.int (jI k)), some (.int m), none, none, none, none, none] [] (enc a) = some (none, enc b2) := by
  obtain ⟨sI, sJ, sA, sB⟩ := s
  have r0 : gB a4 0 = gB u 0 := by rw [e4, e3, e2, e1]; exact sB 0 (by decide)
  have r1 : gB a4 1 = gB u 1 := by rw [e4, e3, e2, e1]; exact sB 1 (by decide)
  have rJ : gJ a4 0 = gJ u 0 := by rw [e4, e3, e2, e1]; exact sJ 0 (by decide)
  rw [B32_0, pv_ixn hk (by decide), pv_ixn hk (by decide), pv_ixn hk (by decide), sA 0 (by decide), sA 1 (by decide), sA 3 (by decide), eh, ea, ew, B32_30 hH, pv_ixn hA (by decide), pv_ixn hA (by decide), ← e1, B32_45 hA]
  simp only [pv_ixn hH (show 6 < 1000000 by decide), pv_ixn hA (show 6 < 1000000 by decide)]
  rw [← e2, ← e3, ← e4]
  have fin : ∀ g : Int64, g * (jI W).toInt64 = gnC u m k → RR (pv_X0 L xs) (d + 1) 32 96 [some (.ref 22), some (.ref 1), some (.int (jI k)), some (.int m), some (.int (jI H)), some (.int (jI A)), some (.int (jI W)), none, none] [.long g] (enc a4) = some (none, enc b2) := fun g hg => by
    rw [B32_96, pv_ixn hH (by decide), pv_ixn hH (by decide), pv_ixn hA (by decide), pv_ixn hA (by decide), hg, ← e5, ← e6]
  by_cases q : m = 0
  · rw [if_pos q, C_outcome hk, pv_bd_some]
    simp only [Option.toList_some, List.cons_append, List.nil_append]
    rw [B32_87]
    refine fin _ ?_
    unfold gnC
    rw [if_pos q, r0, r1, ew]
  · rw [if_neg q, C_margin hk, pv_bd_some]
    simp only [Option.toList_some, List.cons_append, List.nil_append]
    refine fin _ ?_
    unfold gnC
    rw [if_neg q, r0, r1, rJ, ew]
theorem C_entF {a1 a2 a3 a4 b1 b2 : pv_U} {gn : Int64} (h : GC u a n bl mt pl rt) (hn6 : n ≤ 6) (hH : H < n) (hA : A < n) (hHA : H ≠ A) (e1 : a1 = uA a (14 + H) A (gA a (14 + H) A + jI W)) (e2 : a2 = uA a1 (14 + A) H (gA a1 (14 + A) H + jI W)) (e3 : a3 = uA a2 20 H (gA a2 20 H + jI W)) (e4 : a4 = uA a3 20 A (gA a3 20 A + jI W)) (e5 : b1 = uB a4 10 H (gB a4 10 H + gn)) (e6 : b2 = uB b1 10 A (gB b1 10 A - gn)) : GC u b2 n bl (fun i j => mt i j + if (H = i ∧ A = j) ∨ (H = j ∧ A = i) then W else 0) (fun i => pl i + if H = i ∨ A = i then W else 0) (fun i => if H = i then rt i + gn else if A = i then rt i - gn else rt i) := by
  obtain ⟨s, i1, i2, f⟩ := h
  obtain ⟨fH1, fH2, fH3⟩ := f H hH
  obtain ⟨fA1, fA2, fA3⟩ := f A hA
  have x1 : gA a (14 + H) A + jI W = jI (mt H A + W) := by rw [fH3 A hA, jI_add]
  have x2 : gA a1 (14 + A) H + jI W = jI (mt A H + W) := by rw [e1, gA_uA, if_neg (by omega), fA3 H hH, jI_add]
  have x3 : gA a2 20 H + jI W = jI (pl H + W) := by rw [e2, gA_uA, if_neg (by omega), e1, gA_uA, if_neg (by omega), fH1, jI_add]
  have x4 : gA a3 20 A + jI W = jI (pl A + W) := by rw [e3, gA_uA, if_pos rfl, if_neg (fun q => hHA q.symm), e2, gA_uA, if_neg (by omega), e1, gA_uA, if_neg (by omega), fA1, jI_add]
  have y0 : gB a4 10 = gB a 10 := by rw [e4, e3, e2, e1]; rfl
  have y1 : gB a4 10 H + gn = rt H + gn := by rw [y0, fH2]
  have y2 : gB b1 10 A - gn = rt A - gn := by rw [e5, gB_uB, if_pos rfl, if_neg (fun q => hHA q.symm), y0, fA2]
  rw [x1] at e1
  rw [x2] at e2
  rw [x3] at e3
  rw [x4] at e4
  rw [y1] at e5
  rw [y2] at e6
  subst e6 e5 e4 e3 e2 e1
  refine ⟨scr_B (scr_B (scr_A (scr_A (scr_A (scr_A s (by omega)) (by omega)) (by omega)) (by omega)) (by omega)) (by omega), i1, i2, fun i hi => ?_⟩
  obtain ⟨f1, f2, f3⟩ := f i hi
  refine ⟨?_, ?_, fun j hj => ?_⟩
  · have r2 : gA (uA (uA a (14 + H) A (jI (mt H A + W))) (14 + A) H (jI (mt A H + W))) 20 i = jI (pl i) := by
      rw [gA_uA, if_neg (show ¬ 20 = 14 + A by omega), gA_uA, if_neg (show ¬ 20 = 14 + H by omega)]
      exact f1
    show _ = jI (pl i + if H = i ∨ A = i then W else 0)
    rw [gA_uB, gA_uB, gA_uA, if_pos rfl, gA_uA, if_pos rfl, r2]
    by_cases c1 : i = A
    · rw [if_pos c1, if_pos (show H = i ∨ A = i from Or.inr c1.symm), c1]
    · rw [if_neg c1]
      by_cases c2 : i = H
      · rw [if_pos c2, if_pos (show H = i ∨ A = i from Or.inl c2.symm), c2]
      · rw [if_neg c2, if_neg (show ¬ (H = i ∨ A = i) from fun q => q.elim (fun q => c2 q.symm) (fun q => c1 q.symm))]
        rfl
  · have y0' : gB (uA (uA (uA (uA a (14 + H) A (jI (mt H A + W))) (14 + A) H (jI (mt A H + W))) 20 H (jI (pl H + W))) 20 A (jI (pl A + W))) 10 i = rt i := f2
    show _ = if H = i then rt i + gn else if A = i then rt i - gn else rt i
    rw [gB_uB, if_pos rfl, gB_uB, if_pos rfl, y0']
    by_cases c1 : i = A
    · rw [if_pos c1, if_neg (show ¬ H = i from fun q => hHA (q.trans c1)), if_pos (show A = i from c1.symm), c1]
    · rw [if_neg c1]
      by_cases c2 : i = H
      · rw [if_pos c2, if_pos (show H = i from c2.symm), c2]
      · rw [if_neg c2, if_neg (show ¬ H = i from fun q => c2 q.symm), if_neg (show ¬ A = i from fun q => c1 q.symm)]
  · show _ = jI (mt i j + if (H = i ∧ A = j) ∨ (H = j ∧ A = i) then W else 0)
    rw [gA_uB, gA_uB, gA_uA, if_neg (show ¬ 14 + i = 20 by omega), gA_uA, if_neg (show ¬ 14 + i = 20 by omega), gA_uA, gA_uA, f3 j hj]
    by_cases c1 : i = A
    · have n1 : ¬ 14 + i = 14 + H := by omega
      rw [if_pos (show 14 + i = 14 + A by omega)]
      by_cases c2 : j = H
      · rw [if_pos c2, if_pos (show (H = i ∧ A = j) ∨ (H = j ∧ A = i) from Or.inr ⟨c2.symm, c1.symm⟩), c1, c2]
      · rw [if_neg c2, if_neg n1, if_neg (show ¬ ((H = i ∧ A = j) ∨ (H = j ∧ A = i)) from fun q => q.elim (fun q => hHA (q.1.trans c1)) (fun q => c2 q.1.symm))]
        rfl
    · rw [if_neg (show ¬ 14 + i = 14 + A by omega)]
      by_cases c2 : i = H
      · rw [if_pos (show 14 + i = 14 + H by omega)]
        by_cases c3 : j = A
        · rw [if_pos c3, if_pos (show (H = i ∧ A = j) ∨ (H = j ∧ A = i) from Or.inl ⟨c2.symm, c3.symm⟩), c2, c3]
        · rw [if_neg c3, if_neg (show ¬ ((H = i ∧ A = j) ∨ (H = j ∧ A = i)) from fun q => q.elim (fun q => c3 q.2.symm) (fun q => c1 q.2.symm))]
          rfl
      · rw [if_neg (show ¬ 14 + i = 14 + H by omega), if_neg (show ¬ ((H = i ∧ A = j) ∨ (H = j ∧ A = i)) from fun q => q.elim (fun q => c2 q.1.symm) (fun q => c1 q.2.symm))]
        rfl
end GATHER
