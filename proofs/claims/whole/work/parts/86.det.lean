/-! determinants, over sets of columns (printed by wip/whole/ops/pp.py) -/
def skN (r i : Nat) : Nat := if i < r then i else i + 1
def sg (e : Nat) : Int := if e % 2 = 0 then 1 else -1
def sI (f : Nat → Int) : Nat → Int
  | 0 => 0
  | k + 1 => sI f k + f k
/-- the determinant of the first k rows of k columns -/
def DI : Nat → (Nat → Nat → Int) → Int
  | 0, _ => 1
  | k + 1, c => sI (fun t => sg (k - t) * c t k * DI k (fun s => c (skN t s))) (k + 1)
theorem sI_congr {f g : Nat → Int} {n : Nat} (h : ∀ k, k < n → f k = g k) : sI f n = sI g n := by
  induction n with
  | zero => rfl
  | succ n ih =>
    show sI f n + f n = sI g n + g n
    rw [ih (fun k hk => h k (by omega)), h n (by omega)]
theorem sI_skip {f : Nat → Int} {N M : Nat} (h : N ≤ M) (hz : ∀ g, N ≤ g → g < M → f g = 0) : sI f M = sI f N := by
  induction M with
  | zero =>
    have : N = 0 := by omega
    rw [this]
  | succ M ih =>
    by_cases e : N = M + 1
    · rw [e]
    · show sI f M + f M = _
      rw [ih (by omega) (fun g h1 h2 => hz g h1 (by omega)), hz M (by omega) (by omega), Int.add_zero]
theorem DI_congr {k : Nat} {c c' : Nat → Nat → Int} (h : ∀ t i, t < k → i < k → c t i = c' t i) : DI k c = DI k c' := by
  induction k generalizing c c' with
  | zero => rfl
  | succ k ih =>
    show sI (fun t => sg (k - t) * c t k * DI k (fun s => c (skN t s))) (k + 1) = sI (fun t => sg (k - t) * c' t k * DI k (fun s => c' (skN t s))) (k + 1)
    refine sI_congr fun t ht => ?_
    show sg (k - t) * c t k * DI k (fun s => c (skN t s)) = sg (k - t) * c' t k * DI k (fun s => c' (skN t s))
    rw [h t k ht (by omega), ih (c := fun s => c (skN t s)) (c' := fun s => c' (skN t s)) (fun s i hs hi => h _ _ (by unfold skN; split <;> omega) (by omega))]
/-- the columns of a set, one after another; how many -/
def btL (S : Nat) : List Nat := (List.range 6).filter (fun c => S.testBit c)
def nb (S t : Nat) : Nat := (btL S).getD t 0
def pop (S : Nat) : Nat := (btL S).length
theorem bits_facts : ∀ S, S < 64 → ∀ t, t < pop S → (S.testBit (nb S t) = true ∧ nb S t < 6 ∧ S ^^^ (1 <<< nb S t) < S ∧ pop (S ^^^ (1 <<< nb S t)) = pop S - 1 ∧ pop (S >>> (nb S t + 1)) = pop S - 1 - t) ∧ ∀ s, s < pop S - 1 → nb (S ^^^ (1 <<< nb S t)) s = nb S (skN t s) := by decide +kernel
theorem bits_low : ∀ S, S < 64 → ∀ m, m < 6 → pop (S % 2 ^ (m + 1)) = pop (S % 2 ^ m) + (S.testBit m).toNat ∧ (S.testBit m = true → nb S (pop (S % 2 ^ m)) = m) := by decide +kernel
theorem bits_all : ∀ S, S < 64 → S % 2 ^ 6 = S ∧ pop (S % 2 ^ 0) = 0 ∧ (0 < S → 0 < pop S) ∧ pop S ≤ 6 := by decide +kernel
theorem sum_bits {S : Nat} (hS : S < 64) (g : Nat → Int) : sI (fun c => if S.testBit c = true then g c else 0) 6 = sI (fun t => g (nb S t)) (pop S) := by
  have h : ∀ m, m ≤ 6 → sI (fun c => if S.testBit c = true then g c else 0) m = sI (fun t => g (nb S t)) (pop (S % 2 ^ m)) := by
    intro m
    induction m with
    | zero =>
      intro _
      rw [(bits_all S hS).2.1]
      rfl
    | succ m ih =>
      intro hm
      obtain ⟨h1, h2⟩ := bits_low S hS m (by omega)
      show sI (fun c => if S.testBit c = true then g c else 0) m + (if S.testBit m = true then g m else 0) = _
      rw [ih (by omega), h1]
      cases hb : S.testBit m with
      | true =>
        show sI (fun t => g (nb S t)) (pop (S % 2 ^ m)) + (if true = true then g m else 0) = sI (fun t => g (nb S t)) (pop (S % 2 ^ m)) + g (nb S (pop (S % 2 ^ m)))
        rw [h2 hb, if_pos rfl]
      | false =>
        rw [if_neg Bool.false_ne_true, Int.add_zero]
        rfl
  have := h 6 (Nat.le_refl _)
  rw [(bits_all S hS).1] at this
  exact this
/-- the minor of a set of columns with as many first rows -/
def ent (M : Nat → Nat → Int) (rm cm : Nat → Nat) (S : Nat) : Int := DI (pop S) (fun t i => M (rm i) (cm (nb S t)))
abbrev entT (M : Nat → Nat → Int) (rm cm : Nat → Nat) (S c : Nat) : Int := if S.testBit c = true then sg (pop (S >>> (c + 1))) * M (rm (pop S - 1)) (cm c) * ent M rm cm (S ^^^ (1 <<< c)) else 0
theorem ent_zero {M : Nat → Nat → Int} {rm cm : Nat → Nat} : ent M rm cm 0 = 1 := rfl
theorem ent_rec {M : Nat → Nat → Int} {rm cm : Nat → Nat} {S : Nat} (hS : S < 64) (h0 : 0 < S) : ent M rm cm S = sI (entT M rm cm S) 6 := by
  have hp := (bits_all S hS).2.2.1 h0
  refine Eq.trans ?_ (sum_bits hS (fun c => sg (pop (S >>> (c + 1))) * M (rm (pop S - 1)) (cm c) * ent M rm cm (S ^^^ (1 <<< c)))).symm
  have f := bits_facts S hS
  unfold ent
  obtain ⟨k, hk⟩ : ∃ k, pop S = k + 1 := ⟨pop S - 1, by omega⟩
  rw [hk] at f ⊢
  show sI (fun t => sg (k - t) * M (rm k) (cm (nb S t)) * DI k (fun s i => M (rm i) (cm (nb S (skN t s))))) (k + 1) = _
  refine sI_congr fun t ht => ?_
  obtain ⟨⟨f1, f2, f3, f4, f5⟩, f6⟩ := f t ht
  show sg (k - t) * M (rm k) (cm (nb S t)) * DI k (fun s i => M (rm i) (cm (nb S (skN t s)))) = sg (pop (S >>> (nb S t + 1))) * M (rm (k + 1 - 1)) (cm (nb S t)) * DI (pop (S ^^^ (1 <<< nb S t))) (fun s i => M (rm i) (cm (nb (S ^^^ (1 <<< nb S t)) s)))
  rw [f4, f5, Nat.add_sub_cancel]
  rw [DI_congr (k := k) (c := fun s i => M (rm i) (cm (nb S (skN t s)))) (c' := fun s i => M (rm i) (cm (nb (S ^^^ (1 <<< nb S t)) s))) (fun s i hs _ => by
    show M (rm i) (cm (nb S (skN t s))) = M (rm i) (cm (nb (S ^^^ (1 <<< nb S t)) s))
    rw [f6 s (by omega)])]
/-- without row r and column q; whole -/
def mnr (M : Nat → Nat → Int) (n r q : Nat) : Int := DI (n - 1) (fun t i => M (skN r i) (skN q t))
def dtm (M : Nat → Nat → Int) (n : Nat) : Int := DI n (fun t i => M i t)
theorem full_bits : ∀ k, k < 7 → pop (2 ^ k - 1) = k ∧ ∀ t, t < k → nb (2 ^ k - 1) t = t := by decide +kernel
theorem hole_bits : ∀ n, n < 7 → ∀ q, q < n → pop ((2 ^ n - 1) ^^^ (1 <<< q)) = n - 1 ∧ (2 ^ n - 1) ^^^ (1 <<< q) < 64 ∧ ∀ t, t < n - 1 → nb ((2 ^ n - 1) ^^^ (1 <<< q)) t = skN q t := by decide +kernel
section DET
variable {M : Nat → Nat → Int} {n r q k : Nat}
theorem ent_C (hk : k < 7) {rm cm : Nat → Nat} : ent M rm cm (2 ^ k - 1) = DI k (fun t i => M (rm i) (cm t)) := by
  obtain ⟨h1, h2⟩ := full_bits k hk
  unfold ent
  rw [h1]
  exact DI_congr fun t i ht hi => by rw [h2 t ht]
theorem ent_Cdet (hn : n < 7) : ent M (skN n) (skN n) (2 ^ n - 1) = dtm M n := by
  rw [ent_C hn]
  refine DI_congr fun t i ht hi => ?_
  show M (skN n i) (skN n t) = M i t
  unfold skN
  rw [if_pos hi, if_pos ht]
theorem ent_Cmin (hn : n < 7) : ent M (skN r) (skN q) (2 ^ (n - 1) - 1) = mnr M n r q := ent_C (by omega)
theorem ent_Mdet (hn : n < 7) {rm : Nat → Nat} (hr : ∀ i, i < n → rm i = i) : ent M rm (fun t => t) (2 ^ n - 1) = dtm M n := by
  rw [ent_C hn]
  refine DI_congr fun t i ht hi => ?_
  show M (rm i) t = M i t
  rw [hr i hi]
theorem ent_Mmin (hn : n < 7) (hq : q < n) : ent M (skN r) (fun t => t) ((2 ^ n - 1) ^^^ (1 <<< q)) = mnr M n r q := by
  obtain ⟨h1, _, h2⟩ := hole_bits n hn q hq
  unfold ent mnr
  rw [h1]
  exact DI_congr fun t i ht hi => by rw [h2 t ht]
end DET
