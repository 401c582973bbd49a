/-! the order of the teams (printed by wip/whole/ops/pp.py) -/
/-- o in the first k places is o0 there, put in order -/
def stS (A : Nat → Nat → Prop) (o0 : Nat → Nat) (k : Nat) (o : Nat → Nat) : Prop := (∀ p : Nat → Bool, cntN (fun q => p (o q)) k = cntN (fun q => p (o0 q)) k) ∧ (∀ i j, i < j → j < k → A (o i) (o j)) ∧ (∀ i, i < k → ∃ j, j < k ∧ o i = o0 j) ∧ ∀ q, k ≤ q → o q = o0 q
/-- the same with one more, which stands at x -/
def stI (A : Nat → Nat → Prop) (o0 : Nat → Nat) (k x : Nat) (o : Nat → Nat) : Prop := x ≤ k ∧ o x = o0 k ∧ (∀ p : Nat → Bool, cntN (fun q => p (o q)) (k + 1) = cntN (fun q => p (o0 q)) (k + 1)) ∧ (∀ i j, i < j → j < k + 1 → ¬ i = x → ¬ j = x → A (o i) (o j)) ∧ (∀ j, x < j → j < k + 1 → A (o x) (o j)) ∧ (∀ i, i < k + 1 → ¬ i = x → ∃ j, j < k ∧ o i = o0 j) ∧ ∀ q, k + 1 ≤ q → o q = o0 q
def swp (x : Nat) (o : Nat → Nat) : Nat → Nat := fun q => if q = x then o (x - 1) else if q = x - 1 then o x else o q
section SORT
variable {A : Nat → Nat → Prop} {o0 o : Nat → Nat} {k x n : Nat}
theorem cnt_congr {p q : Nat → Bool} : ∀ {n}, (∀ i, i < n → p i = q i) → cntN p n = cntN q n := by
  intro n
  induction n with
  | zero => exact fun _ => rfl
  | succ n ih =>
    intro h
    show cntN p n + _ = cntN q n + _
    rw [ih (fun i hi => h i (by omega)), h n (by omega)]
theorem cnt_swp (p : Nat → Bool) (h1 : 1 ≤ x) : ∀ {n}, x < n → cntN (fun q => p (swp x o q)) n = cntN (fun q => p (o q)) n := by
  intro n
  induction n with
  | zero => exact fun h => absurd h (by omega)
  | succ n ih =>
    intro hn
    by_cases e : x = n
    · obtain ⟨y, rfl⟩ : ∃ y, n = y + 1 := ⟨n - 1, by omega⟩
      subst e
      show cntN (fun q => p (swp (y + 1) o q)) y + _ + _ = cntN (fun q => p (o q)) y + _ + _
      rw [cnt_congr (p := fun q => p (swp (y + 1) o q)) (q := fun q => p (o q)) (n := y) (fun i hi => by
        show p (swp (y + 1) o i) = p (o i)
        unfold swp
        rw [if_neg (by omega), if_neg (by omega)])]
      have e1 : swp (y + 1) o y = o (y + 1) := by
        unfold swp
        rw [if_neg (by omega), if_pos (by omega)]
      have e2 : swp (y + 1) o (y + 1) = o y := by
        unfold swp
        rw [if_pos rfl]
        rfl
      simp only [e1, e2]
      omega
    · show cntN (fun q => p (swp x o q)) n + _ = cntN (fun q => p (o q)) n + _
      have e1 : swp x o n = o n := by
        unfold swp
        rw [if_neg (by omega), if_neg (by omega)]
      simp only [e1]
      rw [ih (by omega)]
theorem stI_of (h : stS A o0 k o) : stI A o0 k k o := by
  obtain ⟨h1, h2, h3, h4⟩ := h
  refine ⟨Nat.le_refl _, h4 k (Nat.le_refl _), fun p => ?_, fun i j hij hj hi hjk => h2 i j hij (by omega), fun j h5 h6 => absurd h5 (by omega), fun i hi hik => h3 i (by omega), fun q hq => h4 q (by omega)⟩
  show cntN (fun q => p (o q)) k + _ = cntN (fun q => p (o0 q)) k + _
  rw [h1 p]
  simp only [h4 k (Nat.le_refl _)]
theorem stI_swp (h : stI A o0 k x o) (h1 : 1 ≤ x) (ha : A (o0 k) (o (x - 1))) : stI A o0 k (x - 1) (swp x o) := by
  obtain ⟨hx, he, hp, hs, hh, hm, hq⟩ := h
  have s1 : swp x o (x - 1) = o x := by
    unfold swp
    rw [if_neg (by omega), if_pos rfl]
  have s2 : swp x o x = o (x - 1) := by
    unfold swp
    rw [if_pos rfl]
  have s3 : ∀ q, ¬ q = x → ¬ q = x - 1 → swp x o q = o q := fun q h1 h2 => by
    unfold swp
    rw [if_neg h1, if_neg h2]
  refine ⟨by omega, s1.trans he, fun p => (cnt_swp p h1 (by omega)).trans (hp p), fun i j hij hj hi hjx => ?_, fun j hj hk => ?_, fun i hi hix => ?_, fun q hq' => (s3 q (by omega) (by omega)).trans (hq q hq')⟩
  · by_cases e : i = x
    · subst e
      rw [s2, s3 j (by omega) hjx]
      exact hs (i - 1) j (by omega) hj (by omega) (by omega)
    · by_cases e2 : j = x
      · subst e2
        rw [s2, s3 i e hi]
        exact hs i (j - 1) (by omega) (by omega) e (by omega)
      · rw [s3 i e hi, s3 j e2 hjx]
        exact hs i j hij hj e e2
  · rw [s1]
    by_cases e : j = x
    · subst e
      rw [s2, he]
      exact ha
    · rw [s3 j e (by omega)]
      exact hh j (by omega) hk
  · by_cases e : i = x
    · subst e
      rw [s2]
      exact hm (i - 1) (by omega) (by omega)
    · rw [s3 i e hix]
      exact hm i hi e
theorem stS_of (h : stI A o0 k x o) (tr : ∀ a b c, A a b → A b c → A a c) (ha : x = 0 ∨ A (o (x - 1)) (o0 k)) : stS A o0 (k + 1) o := by
  obtain ⟨hx, he, hp, hs, hh, hm, hq⟩ := h
  refine ⟨hp, fun i j hij hj => ?_, fun i hi => ?_, hq⟩
  · by_cases e : i = x
    · subst e
      exact hh j hij hj
    · by_cases e2 : j = x
      · subst e2
        rw [he]
        have ha := ha.resolve_left (by omega)
        by_cases e3 : i = j - 1
        · exact e3 ▸ ha
        · exact tr _ _ _ (hs i (j - 1) (by omega) (by omega) e (by omega)) ha
      · exact hs i j hij hj e e2
  · by_cases e : i = x
    · exact ⟨k, by omega, e ▸ he⟩
    · obtain ⟨j, h1, h2⟩ := hm i hi e
      exact ⟨j, by omega, h2⟩
theorem stS_0 : stS A o0 0 o0 := ⟨fun _ => rfl, fun i j _ hj => absurd hj (by omega), fun i hi => absurd hi (by omega), fun _ _ => rfl⟩
theorem cnt_lt : ∀ {n m}, m ≤ n → cntN (fun q => decide (q < m)) n = m := by
  intro n
  induction n with
  | zero =>
    intro m h
    show 0 = m
    omega
  | succ n ih =>
    intro m hm
    show cntN (fun q => decide (q < m)) n + _ = m
    by_cases e : m = n + 1
    · have : cntN (fun q => decide (q < m)) n = n := by
        rw [cnt_congr (q := fun q => decide (q < n)) (fun i hi => decide_eq_decide.mpr ⟨fun _ => hi, fun _ => by omega⟩)]
        exact ih (Nat.le_refl _)
      rw [this]
      simp [show n < m by omega]
      omega
    · rw [ih (by omega)]
      simp [show ¬ n < m by omega]
theorem cnt_pos {p : Nat → Bool} : ∀ {n}, 0 < cntN p n → ∃ i, i < n ∧ p i = true := by
  intro n
  induction n with
  | zero => exact fun h => absurd h (Nat.lt_irrefl 0)
  | succ n ih =>
    intro h
    have h : 0 < cntN p n + _ := h
    cases e : p n with
    | true => exact ⟨n, by omega, e⟩
    | false =>
      simp [e] at h
      obtain ⟨i, h1, h2⟩ := ih h
      exact ⟨i, by omega, h2⟩
/-- each team has its place, and only it -/
theorem rank_at [d : ∀ i j, Decidable (A i j)] (h : stS A (fun q => q) n o) (ir : ∀ a, ¬ A a a) (tr : ∀ a b c, A a b → A b c → A a c) {p : Nat} (hp : p < n) : o p < n ∧ cntN (fun j => decide (A j (o p))) n = p ∧ ∀ k, k < n → (cntN (fun j => decide (A j k)) n = p ↔ k = o p) := by
  obtain ⟨h1, h2, h3, h4⟩ := h
  have pl : ∀ p, p < n → cntN (fun j => decide (A j (o p))) n = p := fun p hp => by
    rw [← h1 (fun j => decide (A j (o p)))]
    rw [cnt_congr (q := fun q => decide (q < p)) (fun i hi => decide_eq_decide.mpr ⟨fun a => ?_, fun hip => h2 i p hip hp⟩)]
    · exact cnt_lt (by omega)
    · by_cases e : i = p
      · exact absurd (e ▸ a) (ir _)
      · by_cases e2 : i < p
        · exact e2
        · exact absurd (tr _ _ _ a (h2 p i (by omega) hi)) (ir _)
  obtain ⟨j, hj, ej⟩ := h3 p hp
  refine ⟨by rw [ej]; exact hj, pl p hp, fun k hk => ⟨fun e => ?_, fun e => e ▸ pl p hp⟩⟩
  have c1 := h1 (fun t => decide (t = k))
  have c2 : 0 < cntN (fun q => decide (q = k)) n := by
    have : ∀ m, k < m → 0 < cntN (fun q => decide (q = k)) m := by
      intro m
      induction m with
      | zero => exact fun h => absurd h (by omega)
      | succ m ih =>
        intro hm
        show 0 < cntN (fun q => decide (q = k)) m + _
        by_cases e : m = k
        · simp [e]
        · have := ih (by omega)
          omega
    exact this n hk
  obtain ⟨q, hq, eq⟩ := cnt_pos (c1 ▸ c2)
  have eq : o q = k := of_decide_eq_true eq
  rw [← eq] at e ⊢
  rw [pl q hq] at e
  rw [e]
end SORT
