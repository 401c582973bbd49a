/-! duel, beaten, rings (printed by wip/whole/ops/pp.py) -/
theorem pv_find {R : Nat → pv_R} {p : Nat → Bool} {out : pv_R} {N : Nat} (step : ∀ k, k < N → R k = if p k = true then out else R (k + 1)) : R 0 = if anyN p N = true then out else R N := by
  have h : ∀ n, n ≤ N → R 0 = if anyN p n = true then out else R n := by
    intro n
    induction n with
    | zero =>
      intro _
      show _ = if false = true then _ else _
      rw [if_neg (by decide)]
    | succ n ih =>
      intro hn
      rw [ih (by omega), step n (by omega)]
      show _ = if (anyN p n || p n) = true then _ else _
      cases anyN p n <;> cases p n <;> simp
  exact h N (Nat.le_refl _)
/-- from s on, m rounds -/
def itF {α : Type} (f : Nat → α → α) (s : Nat) : Nat → α → α
  | 0, a => a
  | m + 1, a => f (s + m) (itF f s m a)
theorem pv_it {α β : Type} {R : Nat → α → β → pv_R} {f : Nat → α → α} {s N : Nat} (hs : s ≤ N) (step : ∀ k a j, s ≤ k → k < N → ∃ j', R k a j = R (k + 1) (f k a) j') (a : α) (j : β) : ∃ j', R s a j = R N (itF f s (N - s) a) j' := by
  have h : ∀ m, s + m ≤ N → ∃ j', R s a j = R (s + m) (itF f s m a) j' := by
    intro m
    induction m with
    | zero => exact fun _ => ⟨j, rfl⟩
    | succ m ih =>
      intro hm
      obtain ⟨j1, h1⟩ := ih (by omega)
      obtain ⟨j2, h2⟩ := step (s + m) (itF f s m a) j1 (by omega) (by omega)
      exact ⟨j2, h1.trans h2⟩
  have := h (N - s) (by omega)
  rw [show s + (N - s) = N by omega] at this
  exact this
theorem itF_congr {α : Type} {f g : Nat → α → α} {s m : Nat} {a : α} (h : ∀ k a, s ≤ k → k < s + m → f k a = g k a) : itF f s m a = itF g s m a := by
  induction m with
  | zero => rfl
  | succ m ih =>
    show f (s + m) (itF f s m a) = g (s + m) (itF g s m a)
    rw [ih (fun k a h1 h2 => h k a h1 (by omega)), h _ _ (by omega) (by omega)]
/-- sums of ints -/
def sumN (f : Nat → Int32) : Nat → Int32
  | 0 => 0
  | k + 1 => sumN f k + f k
theorem sumN_congr {f g : Nat → Int32} {n : Nat} (h : ∀ k, k < n → f k = g k) : sumN f n = sumN g n := by
  induction n with
  | zero => rfl
  | succ n ih =>
    show sumN f n + f n = sumN g n + g n
    rw [ih (fun k hk => h k (by omega)), h n (by omega)]
theorem sumN_neg {f g : Nat → Int32} {n : Nat} (h : ∀ k, k < n → f k = -(g k)) : sumN f n = -(sumN g n) := by
  induction n with
  | zero => exact (by decide : (0 : Int32) = -0)
  | succ n ih =>
    show sumN f n + f n = -(sumN g n + g n)
    rw [ih (fun k hk => h k (by omega)), h n (by omega)]
    grind
theorem sumN_bd {f : Nat → Int32} {n : Nat} {B : Nat} (hB : n * B < 2147483648) (h : ∀ k, k < n → -(B : Int) ≤ (f k).toInt ∧ (f k).toInt ≤ B) : -((n * B : Nat) : Int) ≤ (sumN f n).toInt ∧ (sumN f n).toInt ≤ ((n * B : Nat) : Int) := by
  induction n with
  | zero =>
    show -((0 * B : Nat) : Int) ≤ (0 : Int32).toInt ∧ (0 : Int32).toInt ≤ ((0 * B : Nat) : Int)
    rw [z0]
    omega
  | succ n ih =>
    have e : (n + 1) * B = n * B + B := Nat.succ_mul n B
    rw [e] at hB ⊢
    have h1 := ih (by omega) (fun k hk => h k (by omega))
    have h2 := h n (by omega)
    show -((n * B + B : Nat) : Int) ≤ (sumN f n + f n).toInt ∧ (sumN f n + f n).toInt ≤ ((n * B + B : Nat) : Int)
    rw [Int32.toInt_add]
    generalize n * B = C at *
    rw [Int.bmod_eq_of_le (by omega) (by omega)]
    omega
theorem cntN_mono {p : Nat → Bool} {a b : Nat} (h : a ≤ b) : cntN p a ≤ cntN p b := by
  induction b with
  | zero =>
    have : a = 0 := by omega
    rw [this]
    exact Nat.le_refl _
  | succ b ih =>
    by_cases e : a = b + 1
    · rw [e]
      exact Nat.le_refl _
    · have := ih (by omega)
      show _ ≤ cntN p b + (p b).toNat
      omega
abbrev btw (h a : Nat → Int32) (g : Nat) (x y : Int32) : Prop := (h g = x ∧ a g = y) ∨ (h g = y ∧ a g = x)
/-- a GAME between these two stood before -/
abbrev wasB (h a : Nat → Int32) (k : Nat) : Bool := anyN (fun e => decide (btw h a e (h k) (a k))) k
section OPS9
variable {L : Nat} {xs : Nat → Int32} {u : pv_U} {d k r i n N j : Nat} {x y z w : Int32}
theorem C_btw (hk : k < 31) : RR (pv_X0 L xs) d 64 0 [some (.ref 1), some (.int (jI k)), some (.int x), some (.int y)] [] (enc u) = some (some (.int (if btw (gA u 0) (gA u 1) k x y then 1 else 0)), enc u) := by
  simp only [B64_0, pv_ixn hk (show 31 < 1000000 by decide), btw]
  grind
theorem M_btw (hk : k < 31) : RR (pv_X0 L xs) d 173 0 [some (.ref 55), some (.int (jI k)), some (.int x), some (.int y)] [] (enc u) = some (some (.int (if btw (gA u 26) (gA u 27) k x y then 1 else 0)), enc u) := by
  simp only [B173_0, pv_ixn hk (show 31 < 1000000 by decide), btw]
  grind
theorem C_first (hk : k < 31) : RR (pv_X0 L xs) (d + 1) 63 0 [some (.ref 1), some (.int (jI k)), none] [] (enc u) = some (some (.int (if wasB (gA u 0) (gA u 1) k = true then 0 else 1)), enc u) := by
  rw [B63_0]
  refine (pv_find (R := fun e => RR (pv_X0 L xs) (d + 1) 63 2 [some (.ref 1), some (.int (jI k)), some (.int (jI e))] [] (enc u)) (p := fun e => decide (btw (gA u 0) (gA u 1) e (gA u 0 k) (gA u 1 k))) (out := some (some (.int 0), enc u)) (N := k) (fun e he => ?_)).trans ?_
  · show RR (pv_X0 L xs) (d + 1) 63 2 _ _ _ = _
    rw [B63_2, if_neg (jI_run he (by omega))]
    simp only [pv_ixn hk (show 31 < 1000000 by decide), C_btw (show e < 31 by omega), pv_bd_some, Option.toList_some, List.cons_append, List.nil_append, B63_24, ite01, jI_succ, decide_eq_true_eq]
  · show (if _ then _ else RR (pv_X0 L xs) (d + 1) 63 2 _ _ _) = _
    rw [B63_2, if_pos jI_end]
    by_cases hb : wasB (gA u 0) (gA u 1) k = true
    · rw [if_pos hb, if_pos hb]
    · rw [if_neg hb, if_neg hb]
theorem M_first (hk : k < 31) : RR (pv_X0 L xs) (d + 1) 172 0 [some (.ref 55), some (.int (jI k)), none] [] (enc u) = some (some (.int (if wasB (gA u 26) (gA u 27) k = true then 0 else 1)), enc u) := by
  rw [B172_0]
  refine (pv_find (R := fun e => RR (pv_X0 L xs) (d + 1) 172 2 [some (.ref 55), some (.int (jI k)), some (.int (jI e))] [] (enc u)) (p := fun e => decide (btw (gA u 26) (gA u 27) e (gA u 26 k) (gA u 27 k))) (out := some (some (.int 0), enc u)) (N := k) (fun e he => ?_)).trans ?_
  · show RR (pv_X0 L xs) (d + 1) 172 2 _ _ _ = _
    rw [B172_2, if_neg (jI_run he (by omega))]
    simp only [pv_ixn hk (show 31 < 1000000 by decide), M_btw (show e < 31 by omega), pv_bd_some, Option.toList_some, List.cons_append, List.nil_append, B172_24, ite01, jI_succ, decide_eq_true_eq]
  · show (if _ then _ else RR (pv_X0 L xs) (d + 1) 172 2 _ _ _) = _
    rw [B172_2, if_pos jI_end]
    by_cases hb : wasB (gA u 26) (gA u 27) k = true
    · rw [if_pos hb, if_pos hb]
    · rw [if_neg hb, if_neg hb]
/-- how many GAMES of a two, VOID ones -/
abbrev gbt (h a v : Nat → Int32) (x y : Int32) (vo : Bool) (N : Nat) : Nat := cntN (fun g => decide (btw h a g x y) && (decide (v g = 1) || !vo)) N
theorem C_many (hN : gI u 2 = jI N) (h30 : N ≤ 30) (hv : ∀ k, k < N → chOk (gA u 4 k)) (vo : Bool) : RR (pv_X0 L xs) (d + 1) 65 0 [some (.ref 1), some (.int x), some (.int y), some (.int (if vo = true then 1 else 0)), none, none] [] (enc u) = some (some (.int (jI (gbt (gA u 0) (gA u 1) (gA u 4) x y vo N))), enc u) := by
  rw [B65_0]
  obtain ⟨a, h1, h2⟩ := pv_loop (R := fun k (a : Int32) => RR (pv_X0 L xs) (d + 1) 65 6 [some (.ref 1), some (.int x), some (.int y), some (.int (if vo = true then 1 else 0)), some (.int a), some (.int (jI k))] [] (enc u)) (P := fun k a => a = jI (gbt (gA u 0) (gA u 1) (gA u 4) x y vo k)) (N := N) (fun k a hk ha => ⟨jI (gbt (gA u 0) (gA u 1) (gA u 4) x y vo (k + 1)), by
    subst ha
    show RR (pv_X0 L xs) (d + 1) 65 6 _ _ _ = _
    rw [B65_6, hN, if_neg (jI_run hk (by omega))]
    simp only [C_btw (show k < 31 by omega), pv_bd_some, Option.toList_some, List.cons_append, List.nil_append, B65_23, ite01, jI_succ, pv_ixn (show k < 31 by omega) (show 31 < 1000000 by decide)]
    show _ = RR (pv_X0 L xs) (d + 1) 65 6 [some (.ref 1), some (.int x), some (.int y), some (.int (if vo = true then 1 else 0)), some (.int (jI (gbt (gA u 0) (gA u 1) (gA u 4) x y vo k + (decide (btw (gA u 0) (gA u 1) k x y) && (decide (gA u 4 k = 1) || !vo)).toNat))), some (.int (jI (k + 1)))] [] (enc u)
    by_cases hb : btw (gA u 0) (gA u 1) k x y
    · rw [if_pos hb, decide_eq_true hb]
      rcases i32_01 (hv k hk) with e | e
      · rw [if_pos e, e]
        cases vo with
        | false =>
          rw [if_neg Bool.false_ne_true]
          rfl
        | true =>
          rw [if_pos (rfl : true = true)]
          rfl
      · rw [if_neg (by rw [e]; decide), e]
        cases vo <;> rfl
    · rw [if_neg hb, decide_eq_false hb]
      rfl, rfl⟩) (a0 := 0) rfl
  subst h2
  refine h1.trans ?_
  show RR (pv_X0 L xs) (d + 1) 65 6 _ _ _ = _
  rw [B65_6, hN, if_pos jI_end]
theorem M_many (hN : gI u 16 = jI N) (h30 : N ≤ 30) (hv : ∀ k, k < N → chOk (gA u 30 k)) (vo : Bool) : RR (pv_X0 L xs) (d + 1) 174 46 [some (.ref 55), some (.int z), some (.int (if vo = true then 3 else 2)), some (.int x), some (.int y), some (.int 0), some (.int 0)] [] (enc u) = some (some (.int (jI (gbt (gA u 26) (gA u 27) (gA u 30) x y vo N))), enc u) := by
  obtain ⟨a, h1, h2⟩ := pv_loop (R := fun k (a : Int32) => RR (pv_X0 L xs) (d + 1) 174 46 [some (.ref 55), some (.int z), some (.int (if vo = true then 3 else 2)), some (.int x), some (.int y), some (.int a), some (.int (jI k))] [] (enc u)) (P := fun k a => a = jI (gbt (gA u 26) (gA u 27) (gA u 30) x y vo k)) (N := N) (fun k a hk ha => ⟨jI (gbt (gA u 26) (gA u 27) (gA u 30) x y vo (k + 1)), by
    subst ha
    show RR (pv_X0 L xs) (d + 1) 174 46 _ _ _ = _
    rw [B174_46, hN, if_neg (jI_run hk (by omega))]
    simp only [M_btw (show k < 31 by omega), pv_bd_some, Option.toList_some, List.cons_append, List.nil_append, B174_66, ite01, jI_succ, pv_ixn (show k < 31 by omega) (show 31 < 1000000 by decide), Int32.add_zero]
    show _ = RR (pv_X0 L xs) (d + 1) 174 46 [some (.ref 55), some (.int z), some (.int (if vo = true then 3 else 2)), some (.int x), some (.int y), some (.int (jI (gbt (gA u 26) (gA u 27) (gA u 30) x y vo k + (decide (btw (gA u 26) (gA u 27) k x y) && (decide (gA u 30 k = 1) || !vo)).toNat))), some (.int (jI (k + 1)))] [] (enc u)
    by_cases hb : btw (gA u 26) (gA u 27) k x y
    · rw [if_pos hb, decide_eq_true hb]
      cases vo with
      | false =>
        rw [if_neg Bool.false_ne_true, if_pos (rfl : (2 : Int32) = 2), Bool.not_false, Bool.or_true]
        rfl
      | true =>
        rw [if_pos (rfl : true = true), if_neg (show ¬ (3 : Int32) = 2 by decide)]
        rcases i32_01 (hv k hk) with e | e
        · rw [if_neg (by rw [e]; decide), e]
          rfl
        · rw [if_pos e, e]
          rfl
    · rw [if_neg hb, decide_eq_false hb]
      rfl, rfl⟩) (a0 := 0) rfl
  subst h2
  refine h1.trans ?_
  show RR (pv_X0 L xs) (d + 1) 174 46 _ _ _ = _
  rw [B174_46, hN, if_pos jI_end]
end OPS9
