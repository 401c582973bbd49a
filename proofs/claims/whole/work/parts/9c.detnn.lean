/-! determinants: rows that add up, bounds (printed by wip/whole/ops/pp.py) -/
def upC (c : Nat → Nat → Int) (t : Nat) (v : Nat → Int) : Nat → Nat → Int := fun s => if s = t then v else c s
def sw (j s : Nat) : Nat := if s = j then j + 1 else if s = j + 1 then j else s
def gS (k t p s : Nat) : Nat := if s < t then s else if s < p then s + 1 else if s = p then k else s
section DETNN
variable {c : Nat → Nat → Int} {k n t j p s r : Nat} {v w : Nat → Int} {f g : Nat → Int}
theorem sI_add : sI (fun t => f t + g t) n = sI f n + sI g n := by
  induction n with
  | zero => rfl
  | succ n ih =>
    show sI (fun t => f t + g t) n + (f n + g n) = sI f n + f n + (sI g n + g n)
    rw [ih]
    omega
theorem sI_neg : sI (fun t => -f t) n = -sI f n := by
  induction n with
  | zero => rfl
  | succ n ih =>
    show sI (fun t => -f t) n + -f n = -(sI f n + f n)
    rw [ih]
    omega
theorem sI_mul {D : Int} : sI (fun t => f t * D) n = sI f n * D := by
  induction n with
  | zero => exact (Int.zero_mul D).symm
  | succ n ih =>
    show sI (fun t => f t * D) n + f n * D = (sI f n + f n) * D
    rw [ih, Int.add_mul]
theorem sI_zero : sI (fun _ => 0) n = 0 := by
  induction n with
  | zero => rfl
  | succ n ih =>
    show sI (fun _ => 0) n + 0 = 0
    rw [ih]
    rfl
theorem sI_nn (h : ∀ t, t < n → 0 ≤ f t) : 0 ≤ sI f n := by
  induction n with
  | zero => exact Int.le_refl 0
  | succ n ih =>
    have h1 := ih (fun t ht => h t (by omega))
    have h2 := h n (by omega)
    show 0 ≤ sI f n + f n
    omega
theorem sI_sw (hj : j + 1 < n) : sI (fun s => f (sw j s)) n = sI f n := by
  induction n with
  | zero => exact absurd hj (by omega)
  | succ n ih =>
    by_cases e : j + 1 = n
    · subst e
      show sI (fun s => f (sw j s)) j + f (sw j j) + f (sw j (j + 1)) = sI f j + f j + f (j + 1)
      rw [sI_congr (f := fun s => f (sw j s)) (g := f) (fun s hs => by
        show f (sw j s) = f s
        unfold sw
        rw [if_neg (by omega), if_neg (by omega)])]
      have e1 : sw j j = j + 1 := if_pos rfl
      have e2 : sw j (j + 1) = j := by
        unfold sw
        rw [if_neg (by omega), if_pos rfl]
      rw [e1, e2]
      omega
    · show sI (fun s => f (sw j s)) n + f (sw j n) = sI f n + f n
      have e1 : sw j n = n := by
        unfold sw
        rw [if_neg (by omega), if_neg (by omega)]
      rw [ih (by omega), e1]
theorem sg_succ {e : Nat} : sg (e + 1) = -sg e := by
  unfold sg
  split <;> split <;> omega
theorem sg_sq {e : Nat} : sg e * sg e = 1 := by
  unfold sg
  split <;> rfl
theorem DI_succ : DI (k + 1) c = sI (fun t => sg (k - t) * c t k * DI k (fun s => c (skN t s))) (k + 1) := rfl
theorem DI_add : ∀ {k c t}, t < k → DI k (upC c t (fun i => v i + w i)) = DI k (upC c t v) + DI k (upC c t w) := by
  intro k
  induction k with
  | zero => exact fun h => absurd h (by omega)
  | succ k ih =>
    intro c t ht
    rw [DI_succ, DI_succ, DI_succ, ← sI_add]
    refine sI_congr fun s hs => ?_
    by_cases e : s = t
    · subst e
      have h : ∀ v, (fun r => upC c s v (skN s r)) = fun r => c (skN s r) := fun v => by
        funext r
        unfold upC
        rw [if_neg (by unfold skN; split <;> omega)]
      have h2 : ∀ v, upC c s v s = v := fun v => if_pos rfl
      rw [h, h, h, h2, h2, h2, Int.mul_add, Int.add_mul]
    · have h : ∀ v, (fun r => upC c t v (skN s r)) = upC (fun r => c (skN s r)) (if t < s then t else t - 1) v := fun v => by
        funext r
        unfold upC
        by_cases q : r = if t < s then t else t - 1
        · rw [if_pos q, if_pos]
          unfold skN
          split at q <;> split <;> omega
        · rw [if_neg q, if_neg]
          unfold skN
          split at q <;> split <;> omega
      have h2 : ∀ v, upC c t v s = c s := fun v => if_neg e
      rw [h, h, h, h2, h2, h2, ih (by split <;> omega), Int.mul_add]
theorem sw_sk1 : sw j (skN j r) = skN (j + 1) r := by
  unfold sw skN
  repeat' split
  all_goals omega
theorem sw_sk2 : sw j (skN (j + 1) r) = skN j r := by
  unfold sw skN
  repeat' split
  all_goals omega
theorem sw_sk3 (h1 : ¬ s = j) (h2 : ¬ s = j + 1) : sw j (skN s r) = skN s (sw (if j + 1 < s then j else j - 1) r) := by
  by_cases q : j + 1 < s
  · rw [if_pos q]
    unfold sw skN
    repeat' split
    all_goals omega
  · rw [if_neg q]
    unfold sw skN
    repeat' split
    all_goals omega
theorem DI_sw : ∀ {k c j}, j + 1 < k → DI k (fun s => c (sw j s)) = -DI k c := by
  intro k
  induction k with
  | zero => exact fun h => absurd h (by omega)
  | succ k ih =>
    intro c j hj
    rw [DI_succ, DI_succ, ← sI_neg, ← sI_sw (f := fun t => -(sg (k - t) * c t k * DI k (fun s => c (skN t s)))) hj]
    refine sI_congr fun s hs => ?_
    show sg (k - s) * c (sw j s) k * DI k (fun r => c (sw j (skN s r))) = -(sg (k - sw j s) * c (sw j s) k * DI k (fun r => c (skN (sw j s) r)))
    by_cases e : s = j
    · subst e
      have e1 : sw s s = s + 1 := if_pos rfl
      have e2 : (fun r => c (sw s (skN s r))) = fun r => c (skN (s + 1) r) := funext fun r => by rw [sw_sk1]
      rw [e2, e1, show k - s = (k - (s + 1)) + 1 by omega, sg_succ, Int.neg_mul, Int.neg_mul]
    · by_cases f : s = j + 1
      · subst f
        have e1 : sw j (j + 1) = j := by
          unfold sw
          rw [if_neg (by omega), if_pos rfl]
        have e2 : (fun r => c (sw j (skN (j + 1) r))) = fun r => c (skN j r) := funext fun r => by rw [sw_sk2]
        rw [e2, e1, show k - j = (k - (j + 1)) + 1 by omega, sg_succ, Int.neg_mul, Int.neg_mul, Int.neg_neg]
      · have e1 : sw j s = s := by
          unfold sw
          rw [if_neg e, if_neg f]
        have e2 : (fun r => c (sw j (skN s r))) = fun r => (fun q => c (skN s q)) (sw (if j + 1 < s then j else j - 1) r) := funext fun r => by rw [sw_sk3 e f]
        have e3 := ih (c := fun q => c (skN s q)) (j := if j + 1 < s then j else j - 1) (by split <;> omega)
        rw [e2, e3, e1, Int.mul_neg]
theorem gS_sw (h1 : t ≤ p) (h2 : p + 1 < k) : gS k t p s = gS k t (p + 1) (sw p s) := by
  unfold gS sw
  repeat' split
  all_goals omega
theorem DI_gS (ht : t < k) : ∀ m, m ≤ k - 1 - t → DI k (fun s => c (gS k t (k - 1 - m) s)) = sg m * DI k (fun s => c (skN t s)) := by
  intro m
  induction m with
  | zero =>
    intro _
    rw [show sg 0 = 1 from rfl, Int.one_mul]
    refine DI_congr fun s i hs hi => ?_
    show c (gS k t (k - 1 - 0) s) i = c (skN t s) i
    rw [show gS k t (k - 1 - 0) s = skN t s by
      unfold gS skN
      repeat' split
      all_goals omega]
  | succ m ih =>
    intro hm
    have e : (fun s => c (gS k t (k - 1 - (m + 1)) s)) = fun s => (fun q => c (gS k t (k - 1 - m) q)) (sw (k - 1 - (m + 1)) s) := funext fun s => by
      rw [gS_sw (p := k - 1 - (m + 1)) (by omega) (by omega), show k - 1 - (m + 1) + 1 = k - 1 - m by omega]
    have e2 := DI_sw (k := k) (c := fun q => c (gS k t (k - 1 - m) q)) (j := k - 1 - (m + 1)) (by omega)
    rw [e, e2, ih (by omega), sg_succ, Int.neg_mul]
theorem DI_mv (ht : t < k) : DI k (upC c t (c k)) = sg (k - 1 - t) * DI k (fun s => c (skN t s)) := by
  rw [← DI_gS ht (k - 1 - t) (Nat.le_refl _)]
  refine DI_congr fun s i hs hi => ?_
  show upC c t (c k) s i = c (gS k t (k - 1 - (k - 1 - t)) s) i
  rw [show k - 1 - (k - 1 - t) = t by omega]
  unfold upC gS
  by_cases e : s = t
  · rw [if_pos e, if_neg (by omega), if_neg (by omega), if_pos e]
  · rw [if_neg e]
    by_cases f : s < t
    · rw [if_pos f]
    · rw [if_neg f, if_neg f, if_neg e]
theorem DI_E : DI (k + 1) c = sI (fun s => c s k) (k + 1) * DI k c + sI (fun t => -(c t k) * DI k (upC c t (fun i => c t i + c k i))) k := by
  rw [DI_succ]
  show sI (fun t => sg (k - t) * c t k * DI k (fun s => c (skN t s))) k + sg (k - k) * c k k * DI k (fun s => c (skN k s)) = (sI (fun s => c s k) k + c k k) * DI k c + _
  rw [Nat.sub_self, show sg 0 = 1 from rfl, Int.one_mul, DI_congr (c := fun s => c (skN k s)) (c' := c) (fun s i hs hi => by
    show c (skN k s) i = c s i
    rw [show skN k s = s from if_pos hs])]
  have h : sI (fun t => -(c t k) * DI k (upC c t (fun i => c t i + c k i))) k = sI (fun t => -(c t k * DI k c) + sg (k - t) * c t k * DI k (fun s => c (skN t s))) k := sI_congr fun t ht => by
    show -(c t k) * DI k (upC c t (fun i => c t i + c k i)) = -(c t k * DI k c) + sg (k - t) * c t k * DI k (fun s => c (skN t s))
    rw [DI_add ht, DI_mv ht, show upC c t (c t) = c by
      funext s
      unfold upC
      split
      · rename_i e
        rw [e]
      · rfl, show k - t = k - 1 - t + 1 by omega, sg_succ, Int.mul_add, Int.neg_mul, Int.neg_mul, Int.neg_mul, Int.neg_mul, ← Int.mul_assoc, Int.mul_comm (c t k) (sg (k - 1 - t))]
  rw [h, sI_add, sI_neg, sI_mul, Int.add_mul]
  omega
theorem sI_upd {i : Nat} : ∀ {k}, t < k → sI (fun s => upC c t (fun i => c t i + w i) s i) k = sI (fun s => c s i) k + w i := by
  intro k
  induction k with
  | zero => exact fun h => absurd h (by omega)
  | succ k ih =>
    intro ht
    show sI (fun s => upC c t (fun i => c t i + w i) s i) k + upC c t (fun i => c t i + w i) k i = sI (fun s => c s i) k + c k i + w i
    by_cases e : k = t
    · subst e
      rw [show upC c k (fun i => c k i + w i) k i = c k i + w i by unfold upC; rw [if_pos rfl]]
      rw [sI_congr (f := fun s => upC c k (fun i => c k i + w i) s i) (g := fun s => c s i) (fun s hs => by
        show upC c k (fun i => c k i + w i) s i = c s i
        unfold upC
        rw [if_neg (by omega)])]
      omega
    · rw [ih (by omega), show upC c t (fun i => c t i + w i) k i = c k i by unfold upC; rw [if_neg e]]
      omega
theorem DI_nn : ∀ {k c}, (∀ i, i < k → ∀ s, s < k → ¬ s = i → c s i ≤ 0) → (∀ i, i < k → 0 ≤ sI (fun s => c s i) k) → 0 ≤ DI k c := by
  intro k
  induction k with
  | zero => exact fun _ _ => (by decide : (0 : Int) ≤ 1)
  | succ k ih =>
    intro c ho hs
    rw [DI_E]
    have h1 : 0 ≤ DI k c := ih (fun i hi s hs' hsi => ho i (by omega) s (by omega) hsi) (fun i hi => by
      have h2 : 0 ≤ sI (fun s => c s i) k + c k i := hs i (by omega)
      have h3 := ho i (by omega) k (by omega) (by omega)
      omega)
    refine Int.add_nonneg (Int.mul_nonneg (hs k (by omega)) h1) (sI_nn fun t ht => Int.mul_nonneg ?_ (ih (fun i hi s hs' hsi => ?_) (fun i hi => ?_)))
    · have := ho k (by omega) t (by omega) (by omega)
      omega
    · unfold upC
      by_cases e : s = t
      · rw [if_pos e]
        have e1 := ho i (by omega) t (by omega) (by omega)
        have e2 := ho i (by omega) k (by omega) (by omega)
        show c t i + c k i ≤ 0
        omega
      · rw [if_neg e]
        exact ho i (by omega) s (by omega) hsi
    · rw [sI_upd ht]
      exact hs i (by omega)
theorem DI_z : ∀ {k c}, 1 ≤ k → (∀ i, i < k → sI (fun s => c s i) k = 0) → DI k c = 0 := by
  intro k
  induction k with
  | zero => exact fun h => absurd h (by omega)
  | succ k ih =>
    intro c _ hs
    rw [DI_E, hs k (by omega), Int.zero_mul, Int.zero_add]
    by_cases e : k = 0
    · subst e
      rfl
    · rw [sI_congr (g := fun _ => 0) (fun t ht => by
        show -(c t k) * DI k (upC c t (fun i => c t i + c k i)) = 0
        rw [ih (by omega) (fun i hi => by rw [sI_upd ht]; exact hs i (by omega)), Int.mul_zero])]
      exact sI_zero
/-- how great a determinant can get -/
def dB : Nat → Int
  | 0 => 1
  | k + 1 => ((k : Int) + 1) * (95 * dB k)
theorem dB_pos : ∀ k, 0 ≤ dB k := by
  intro k
  induction k with
  | zero => decide
  | succ k ih => exact Int.mul_nonneg (by omega) (by omega)
theorem sI_bd {K : Int} (h : ∀ t, t < n → -K ≤ f t ∧ f t ≤ K) : -(n * K) ≤ sI f n ∧ sI f n ≤ n * K := by
  induction n with
  | zero =>
    show -(((0 : Nat) : Int) * K) ≤ 0 ∧ 0 ≤ ((0 : Nat) : Int) * K
    rw [show ((0 : Nat) : Int) = 0 from rfl, Int.zero_mul]
    decide
  | succ n ih =>
    have h1 := ih (fun t ht => h t (by omega))
    have h2 := h n (by omega)
    have e : ((n + 1 : Nat) : Int) * K = n * K + K := by
      rw [show ((n + 1 : Nat) : Int) = (n : Int) + 1 from rfl, Int.add_mul, Int.one_mul]
    show -(((n + 1 : Nat) : Int) * K) ≤ sI f n + f n ∧ sI f n + f n ≤ ((n + 1 : Nat) : Int) * K
    rw [e]
    omega
theorem mul_bd {a b K : Int} (ha : -95 ≤ a ∧ a ≤ 95) (hb : -K ≤ b ∧ b ≤ K) : -(95 * K) ≤ a * b ∧ a * b ≤ 95 * K := by
  have e : (a * b).natAbs = a.natAbs * b.natAbs := Int.natAbs_mul a b
  have h : a.natAbs * b.natAbs ≤ 95 * K.natAbs := Nat.mul_le_mul (by omega) (by omega)
  omega
theorem DI_bd : ∀ {k c}, (∀ s i, s < k → i < k → -95 ≤ c s i ∧ c s i ≤ 95) → -dB k ≤ DI k c ∧ DI k c ≤ dB k := by
  intro k
  induction k with
  | zero => exact fun _ => ⟨(by decide : (-1 : Int) ≤ 1), (by decide : (1 : Int) ≤ 1)⟩
  | succ k ih =>
    intro c h
    have := sI_bd (n := k + 1) (K := 95 * dB k) (f := fun t => sg (k - t) * c t k * DI k (fun s => c (skN t s))) (fun t ht => mul_bd (by
      have := h t k ht (by omega)
      unfold sg
      split <;> omega) (ih (fun s i hs hi => h _ _ (by unfold skN; split <;> omega) (by omega))))
    exact this
end DETNN
