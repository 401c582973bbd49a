/-! gather, put together; the reference's rows: lays (printed by wip/whole/ops/pp.py) -/
abbrev cW (u : pv_U) (N : Nat) (day lo : Int32) (wg : Bool) : Nat → Bool := ctB (gA u 4) (gA u 2) N day lo wg
def mT (u : pv_U) (c : Nat → Bool) (i j : Nat) : Nat := mtN (gA u 0) (gA u 1) (gA u 3) c i j 31
def pT (u : pv_U) (c : Nat → Bool) (i : Nat) : Nat := plN (gA u 0) (gA u 1) (gA u 3) c i 31
def rT (u : pv_U) (m : Int32) (c : Nat → Bool) (i : Nat) : Int64 := rtP (gA u 0) (gA u 1) (gnC u m) c (if m = 0 then 2 else 0) i 31
def blT (m : Int32) : Int64 := if m = 0 then 2 else 1
/-- the reference's rows hold these -/
def LC (v a : pv_U) (n : Nat) (mt : Nat → Nat → Nat) (rt : Nat → Int64) : Prop := scr v a ∧ ∀ i, i < n → gB a 20 i = rt i ∧ ∀ j, j < n → gB a 21 (6 * i + j) = jL (mt i j)
/-- the reference's books are the class's -/
def sameR (u v : pv_U) : Prop := gA v 26 = gA u 0 ∧ gA v 27 = gA u 1 ∧ gA v 28 = gA u 2 ∧ gA v 29 = gA u 3 ∧ gA v 30 = gA u 4 ∧ gB v 17 = gB u 0 ∧ gB v 18 = gB u 1 ∧ gJ v 4 = gJ u 0
section LAYS
variable {L : Nat} {xs : Nat → Int32} {u v a b : pv_U} {d k n N i j H A W : Nat} {x y z m day lo : Int32} {bl : Int64} {mt mt' : Nat → Nat → Nat} {pl pl' : Nat → Nat} {rt rt' : Nat → Int64} {c : Nat → Bool} {r0 : Int64}
theorem sameR_of (h : Inv u) (s : scr u v) : sameR u v := by
  have b9 := h.1.2.2.2.2.2.2.2.2.1
  obtain ⟨g1, g2⟩ := h.2.1
  obtain ⟨sI, sJ, sA, sB⟩ := s
  refine ⟨(sA 26 (by decide)).trans (funext fun k => (g1 k).1.symm), (sA 27 (by decide)).trans (funext fun k => (g1 k).2.1.symm), (sA 28 (by decide)).trans (funext fun k => (g1 k).2.2.2.2.1.symm), (sA 29 (by decide)).trans (funext fun k => (g1 k).2.2.2.2.2.1.symm), (sA 30 (by decide)).trans (funext fun k => (g1 k).2.2.2.2.2.2.symm), (sB 17 (by decide)).trans (funext fun k => (g1 k).2.2.1.symm), (sB 18 (by decide)).trans (funext fun k => (g1 k).2.2.2.1.symm), (sJ 4 (by decide)).trans b9.symm⟩
theorem mT_le (hg : hgP u n c) : mT u c i j ≤ 93 := by
  refine sN_le (n := 31) (B := 3) fun k hk => ?_
  by_cases q : c k = true ∧ btw (gA u 0) (gA u 1) k (jI i) (jI j)
  · rw [if_pos q]
    obtain ⟨H, A, W, _, _, _, _, _, ew, hW⟩ := hg k hk q.1
    unfold wN
    rw [ew, jI_toInt (by omega)]
    exact hW
  · rw [if_neg q]
    omega
theorem pT_le (hg : hgP u n c) : pT u c i ≤ 93 := by
  refine sN_le (n := 31) (B := 3) fun k hk => ?_
  by_cases q : c k = true ∧ (gA u 0 k = jI i ∨ gA u 1 k = jI i)
  · rw [if_pos q]
    obtain ⟨H, A, W, _, _, _, _, _, ew, hW⟩ := hg k hk q.1
    unfold wN
    rw [ew, jI_toInt (by omega)]
    exact hW
  · rw [if_neg q]
    omega
theorem pT_mT (hi : i < n) (hn : n ≤ 6) (hg : hgP u n c) : sN (fun j => mT u c i j) n = pT u c i := pl_mt hi hn fun g hgk hc => by
  obtain ⟨H, A, W, h1, h2, h3, h4, h5, _⟩ := hg g hgk hc
  exact ⟨H, A, h1, h2, h3, h4, h5⟩
theorem mT_ii (hi : i < n) (hn : n ≤ 6) (hg : hgP u n c) : mT u c i i = 0 := by
  refine (sN_congr (g := fun _ => 0) fun g hgk => ?_).trans sN_zero
  refine if_neg ?_
  rintro ⟨hc, hb⟩
  obtain ⟨H, A, W, h1, h2, h3, h4, h5, _⟩ := hg g hgk hc
  have eq : ∀ {x y : Nat}, x < n → y < n → (jI x = jI y ↔ x = y) := fun hx hy => jI_eq (by omega) (by omega)
  rcases hb with ⟨q1, q2⟩ | ⟨q1, q2⟩ <;> rw [h4, eq h1 hi] at q1 <;> rw [h5, eq h2 hi] at q2 <;> exact h3 (q1.trans q2.symm)
theorem C_gather (hN : gI u 2 = jI N) (h30 : N ≤ 30) (hn : gI u 1 = jI n) (h2n : 2 ≤ n) (hn6 : n ≤ 6) {wg : Bool} (hg : hgP u n (cW u N day lo wg)) : ∃ b, RR (pv_X0 L xs) (d + 3) 30 0 [some (.ref 22), some (.ref 1), some (.int m), some (.int day), some (.int lo), some (.int (if wg = true then 1 else 0)), none, none] [] (enc u) = some (none, enc b) ∧ RC u b n (blT m) (mT u (cW u N day lo wg)) (pT u (cW u N day lo wg)) (MI (decide (m = 1)) n (mT u (cW u N day lo wg)) (pT u (cW u N day lo wg))) (RV (decide (m = 1)) n (rT u m (cW u N day lo wg))) := by
  have s0 : ∀ v : Int64, scr u (uJ (uI u 10 (gI u 1)) 3 v) := fun v => scr_J (scr_I scr_refl (by omega)) (by omega)
  have st : RR (pv_X0 L xs) (d + 3) 30 0 [some (.ref 22), some (.ref 1), some (.int m), some (.int day), some (.int lo), some (.int (if wg = true then 1 else 0)), none, none] [] (enc u) = RR (pv_X0 L xs) (d + 3) 30 26 [some (.ref 22), some (.ref 1), some (.int m), some (.int day), some (.int lo), some (.int (if wg = true then 1 else 0)), some (.int 0), none] [] (enc (uJ (uI u 10 (gI u 1)) 3 (blT m))) := by
    rw [B30_0]
    unfold blT
    by_cases q : m = 0
    · rw [if_pos q, if_pos q]
    · rw [if_neg q, if_neg q]
  obtain ⟨c1, j, h1, h2⟩ := C_zero (L := L) (xs := xs) (d := d + 3) (m := m) (day := day) (lo := lo) (wg := if wg = true then 1 else 0) (u := u) (b := uJ (uI u 10 (gI u 1)) 3 (blT m)) (bl := blT m) hn6 (s0 _) (by rw [gI_uJ, gI_uI, if_pos rfl, hn]) (by rw [gJ_uJ, if_pos rfl])
  obtain ⟨c2, h3, h4⟩ := C_games (L := L) (xs := xs) (d := d + 1) (m := m) (day := day) (lo := lo) (wg := wg) (r0 := if m = 0 then 2 else 0) hn6 hN h30 hg h2.1 j h2
  obtain ⟨c3, h5, h6⟩ := C_layOut (L := L) (xs := xs) (d := d + 2) (m := m) h2n hn6 h4 (fun i j _ _ => Nat.lt_of_le_of_lt (mT_le hg) (by decide)) (fun i _ => Nat.lt_of_le_of_lt (pT_le hg) (by decide))
  refine ⟨c3, ?_, h6⟩
  rw [st, h1, h3, B30_152, h5, pv_bd_some]
  exact B30_157
/-! the reference -/
theorem LC_congr (h : LC v a n mt rt) (h1 : ∀ i j, i < n → j < n → mt' i j = mt i j) (h3 : ∀ i, i < n → rt' i = rt i) : LC v a n mt' rt' := by
  obtain ⟨s, f⟩ := h
  refine ⟨s, fun i hi => ?_⟩
  obtain ⟨f1, f2⟩ := f i hi
  exact ⟨by rw [h3 i hi]; exact f1, fun j hj => by rw [h1 i j hi hj]; exact f2 j hj⟩
theorem M_entW {a1 a2 b1 b2 : pv_U} (s : scr v a) (sm : sameR u v) (hk : k < 31) (hH : H < 6) (hA : A < 6) (eh : gA u 0 k = jI H) (ea : gA u 1 k = jI A) (ew : gA u 3 k = jI W) (e1 : a1 = uB a 21 (6 * H + A) (gB a 21 (6 * H + A) + (jI W).toInt64)) (e2 : a2 = uB a1 21 (6 * A + H) (gB a1 21 (6 * A + H) + (jI W).toInt64)) (e5 : b1 = uB a2 20 H (gB a2 20 H + gnC u m k)) (e6 : b2 = uB b1 20 A (gB b1 20 A - gnC u m k)) : RR (pv_X0 L xs) (d + 1) 143 0 [some (.ref 55), some (.int m), some (.int (jI k)), none, none, none, none, none] [] (enc a) = some (none, enc b2) := by
  obtain ⟨sI, sJ, sA, sB⟩ := s
  obtain ⟨m1, m2, m3, m4, m5, m6, m7, m8⟩ := sm
  have i1 : (6 : Int32) * jI H + jI A = jI (6 * H + A) := by
    show jI 6 * jI H + jI A = _
    rw [jI_mul, jI_add]
  have i2 : (6 : Int32) * jI A + jI H = jI (6 * A + H) := by
    show jI 6 * jI A + jI H = _
    rw [jI_mul, jI_add]
  have r0 : gB a2 17 = gB u 0 := by rw [e2, e1]; exact (sB 17 (by decide)).trans m6
  have r1 : gB a2 18 = gB u 1 := by rw [e2, e1]; exact (sB 18 (by decide)).trans m7
  have rJ : gJ a2 4 = gJ u 0 := by rw [e2, e1]; exact (sJ 4 (by decide)).trans m8
  rw [B143_0, pv_ixn hk (by decide), pv_ixn hk (by decide), pv_ixn hk (by decide), sA 26 (by decide), sA 27 (by decide), sA 29 (by decide), m1, m2, m4, eh, ea, ew, i1, i2, pv_ixn (by omega) (by decide), pv_ixn (by omega) (by decide), pv_ixn (by omega) (by decide), pv_ixn (by omega) (by decide), ← e1, ← e2]
  have fin : ∀ g : Int64, g * (jI W).toInt64 = gnC u m k → RR (pv_X0 L xs) (d + 1) 143 100 [some (.ref 55), some (.int m), some (.int (jI k)), some (.int (jI H)), some (.int (jI A)), some (.int (jI W)), none, none] [.long g] (enc a2) = some (none, enc b2) := fun g hg => by
    rw [B143_100, pv_ixn hH (by decide), pv_ixn hH (by decide), pv_ixn hA (by decide), pv_ixn hA (by decide), hg, ← e5, ← e6]
  by_cases q : m = 0
  · rw [if_pos q, M_wonBy hk, pv_bd_some]
    simp only [Option.toList_some, List.cons_append, List.nil_append]
    have hq : ∀ g : Int64, (oco (gB u 0 k) (gB u 1 k)).toInt64 = g → g * (jI W).toInt64 = gnC u m k := fun g hg => by
      unfold gnC
      rw [if_pos q, hg, ew]
    rw [B143_68, r0, r1]
    unfold wby
    by_cases c1 : gB u 1 k < gB u 0 k
    · have n1 : ¬ gB u 0 k = gB u 1 k := fun r => by rw [r] at c1; exact Int64.lt_irrefl c1
      rw [if_pos c1, if_pos rfl]
      refine fin _ (hq _ ?_)
      unfold oco
      rw [if_neg n1, if_pos c1]
      rfl
    · rw [if_neg c1]
      have n2 : ∀ P : Prop, [Decidable P] → ¬ (if P then (2 : Int32) else 0) = 1 := fun P _ => by split <;> decide
      rw [if_neg (n2 _), M_wonBy hk, pv_bd_some]
      simp only [Option.toList_some, List.cons_append, List.nil_append]
      rw [B143_81, r0, r1]
      unfold wby
      rw [if_neg c1]
      by_cases c2 : gB u 0 k < gB u 1 k
      · have n1 : ¬ gB u 0 k = gB u 1 k := fun r => by rw [r] at c2; exact Int64.lt_irrefl c2
        rw [if_pos c2, if_pos rfl]
        refine fin _ (hq _ ?_)
        unfold oco
        rw [if_neg n1, if_neg c1]
        rfl
      · have n1 : gB u 0 k = gB u 1 k := Int64.toInt_inj.mp (by rw [Int64.lt_iff_toInt_lt] at c1 c2; omega)
        rw [if_neg c2, if_neg (by decide)]
        refine fin _ (hq _ ?_)
        unfold oco
        rw [if_pos n1]
        rfl
  · rw [if_neg q, M_margin hk, pv_bd_some]
    simp only [Option.toList_some, List.cons_append, List.nil_append]
    refine fin _ ?_
    unfold gnC
    rw [if_neg q, r0, r1, rJ, ew]
theorem M_entF {a1 a2 b1 b2 : pv_U} {gn : Int64} (h : LC v a n mt rt) (hn6 : n ≤ 6) (hH : H < n) (hA : A < n) (hHA : H ≠ A) (hW : W ≤ 3) (e1 : a1 = uB a 21 (6 * H + A) (gB a 21 (6 * H + A) + (jI W).toInt64)) (e2 : a2 = uB a1 21 (6 * A + H) (gB a1 21 (6 * A + H) + (jI W).toInt64)) (e5 : b1 = uB a2 20 H (gB a2 20 H + gn)) (e6 : b2 = uB b1 20 A (gB b1 20 A - gn)) : LC v b2 n (fun i j => mt i j + if (H = i ∧ A = j) ∨ (H = j ∧ A = i) then W else 0) (fun i => if H = i then rt i + gn else if A = i then rt i - gn else rt i) := by
  obtain ⟨s, f⟩ := h
  obtain ⟨fH2, fH3⟩ := f H hH
  obtain ⟨fA2, fA3⟩ := f A hA
  rw [jI_64 (by omega)] at e1 e2
  have x1 : gB a 21 (6 * H + A) + jL W = jL (mt H A + W) := by rw [fH3 A hA, jL_add]
  have x2 : gB a1 21 (6 * A + H) + jL W = jL (mt A H + W) := by rw [e1, gB_uB, if_pos rfl, if_neg (by omega), fA3 H hH, jL_add]
  have y0 : ∀ q, gB a2 20 q = gB a 20 q := fun q => by rw [e2, gB_uB, if_neg (by decide), e1, gB_uB, if_neg (by decide)]
  have y1 : gB a2 20 H + gn = rt H + gn := by rw [y0, fH2]
  have y2 : gB b1 20 A - gn = rt A - gn := by rw [e5, gB_uB, if_pos rfl, if_neg (fun q => hHA q.symm), y0, fA2]
  rw [x1] at e1
  rw [x2] at e2
  rw [y1] at e5
  rw [y2] at e6
  refine ⟨by rw [e6, e5, e2, e1]; exact scr_B (scr_B (scr_B (scr_B s (by omega)) (by omega)) (by omega)) (by omega), fun i hi => ?_⟩
  obtain ⟨f2, f3⟩ := f i hi
  refine ⟨?_, fun j hj => ?_⟩
  · show _ = if H = i then rt i + gn else if A = i then rt i - gn else rt i
    rw [e6, gB_uB, if_pos rfl, e5, gB_uB, if_pos rfl, y0, f2]
    by_cases c1 : i = A
    · rw [if_pos c1, if_neg (show ¬ H = i from fun q => hHA (q.trans c1)), if_pos (show A = i from c1.symm), c1]
    · rw [if_neg c1]
      by_cases c2 : i = H
      · rw [if_pos c2, if_pos (show H = i from c2.symm), c2]
      · rw [if_neg c2, if_neg (show ¬ H = i from fun q => c2 q.symm), if_neg (show ¬ A = i from fun q => c1 q.symm)]
  · show _ = jL (mt i j + if (H = i ∧ A = j) ∨ (H = j ∧ A = i) then W else 0)
    rw [e6, gB_uB, if_neg (show ¬ 21 = 20 by decide), e5, gB_uB, if_neg (show ¬ 21 = 20 by decide), e2, gB_uB, if_pos rfl, e1, gB_uB, if_pos rfl, f3 j hj]
    by_cases c1 : i = A ∧ j = H
    · rw [if_pos (show 6 * i + j = 6 * A + H by omega), if_pos (show (H = i ∧ A = j) ∨ (H = j ∧ A = i) from Or.inr ⟨c1.2.symm, c1.1.symm⟩), c1.1, c1.2]
    · rw [if_neg (show ¬ 6 * i + j = 6 * A + H by omega)]
      by_cases c2 : i = H ∧ j = A
      · rw [if_pos (show 6 * i + j = 6 * H + A by omega), if_pos (show (H = i ∧ A = j) ∨ (H = j ∧ A = i) from Or.inl ⟨c2.1.symm, c2.2.symm⟩), c2.1, c2.2]
      · rw [if_neg (show ¬ 6 * i + j = 6 * H + A by omega), if_neg (show ¬ ((H = i ∧ A = j) ∨ (H = j ∧ A = i)) by omega)]
        rfl
abbrev LK (u v a : pv_U) (n : Nat) (m : Int32) (c : Nat → Bool) (r0 : Int64) (k : Nat) : Prop := LC v a n (fun i j => mtN (gA u 0) (gA u 1) (gA u 3) c i j k) (fun i => rtP (gA u 0) (gA u 1) (gnC u m) c r0 i k)
theorem LK_skip (h : LK u v a n m c r0 k) (hc : c k = false) : LK u v a n m c r0 (k + 1) := by
  refine LC_congr h (fun i j hi hj => ?_) (fun i hi => ?_)
  · show mtN (gA u 0) (gA u 1) (gA u 3) c i j k + (if c k = true ∧ btw (gA u 0) (gA u 1) k (jI i) (jI j) then wN (gA u 3) k else 0) = _
    rw [hc, if_neg (fun q => Bool.false_ne_true q.1)]
    rfl
  · show (if c k = true then _ else rtP (gA u 0) (gA u 1) (gnC u m) c r0 i k) = _
    rw [hc, if_neg Bool.false_ne_true]
theorem M_ent (h : LK u v a n m c r0 k) (sm : sameR u v) (hn6 : n ≤ 6) (hk : k < 31) (hc : c k = true) (hg : hgP u n c) : ∃ b, RR (pv_X0 L xs) (d + 1) 143 0 [some (.ref 55), some (.int m), some (.int (jI k)), none, none, none, none, none] [] (enc a) = some (none, enc b) ∧ LK u v b n m c r0 (k + 1) := by
  obtain ⟨H, A, W, hH, hA, hHA, eh, ea, ew, hW⟩ := hg k hk hc
  have wk : wN (gA u 3) k = W := by
    unfold wN
    rw [ew, jI_toInt (by omega)]
    rfl
  have eq : ∀ {x y : Nat}, x < n → y < n → (jI x = jI y ↔ x = y) := fun hx hy => jI_eq (by omega) (by omega)
  refine ⟨_, M_entW h.1 sm hk (by omega) (by omega) eh ea ew rfl rfl rfl rfl, ?_⟩
  refine LC_congr (M_entF h hn6 hH hA hHA hW rfl rfl rfl rfl) (fun i j hi hj => ?_) (fun i hi => ?_)
  · show mtN (gA u 0) (gA u 1) (gA u 3) c i j k + (if c k = true ∧ btw (gA u 0) (gA u 1) k (jI i) (jI j) then wN (gA u 3) k else 0) = mtN (gA u 0) (gA u 1) (gA u 3) c i j k + (if (H = i ∧ A = j) ∨ (H = j ∧ A = i) then W else 0)
    have e : (c k = true ∧ btw (gA u 0) (gA u 1) k (jI i) (jI j)) ↔ ((H = i ∧ A = j) ∨ (H = j ∧ A = i)) := by
      unfold btw
      rw [eh, ea, eq hH hi, eq hA hj, eq hH hj, eq hA hi]
      exact ⟨fun q => q.2, fun q => ⟨hc, q⟩⟩
    by_cases q : (H = i ∧ A = j) ∨ (H = j ∧ A = i)
    · rw [if_pos q, if_pos (e.mpr q), wk]
    · rw [if_neg q, if_neg (fun r => q (e.mp r))]
  · show (if c k = true then (if gA u 0 k = jI i then _ else if gA u 1 k = jI i then _ else _) else _) = (if H = i then _ else if A = i then _ else _)
    rw [if_pos hc, eh, ea]
    by_cases q : H = i
    · rw [if_pos ((eq hH hi).mpr q), if_pos q]
    · rw [if_neg (fun r => q ((eq hH hi).mp r)), if_neg q]
      by_cases q2 : A = i
      · rw [if_pos ((eq hA hi).mpr q2), if_pos q2]
      · rw [if_neg (fun r => q2 ((eq hA hi).mp r)), if_neg q2]
end LAYS
