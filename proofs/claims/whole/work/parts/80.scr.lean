/-! what the rows' calls leave as it was; sums over GAMES (printed by wip/whole/ops/pp.py) -/
/-- v is u but for the cells that the rows' calls write -/
def scr (u v : pv_U) : Prop := (∀ i, ¬ (i = 9 ∨ i = 10 ∨ i = 19) → gI v i = gI u i) ∧ (∀ i, (i = 0 ∨ i = 1 ∨ i = 4) → gJ v i = gJ u i) ∧ (∀ r, ¬ ((14 ≤ r ∧ r ≤ 22) ∨ r = 32) → gA v r = gA u r) ∧ (∀ r, ¬ ((4 ≤ r ∧ r ≤ 12) ∨ (19 ≤ r ∧ r ≤ 23)) → gB v r = gB u r)
section SCR
variable {u v w : pv_U} {i j r k : Nat} {x : Int32} {y : Int64}
theorem scr_refl : scr u u := ⟨fun _ _ => rfl, fun _ _ => rfl, fun _ _ => rfl, fun _ _ => rfl⟩
theorem scr_trans (h : scr u v) (h2 : scr v w) : scr u w := ⟨fun i hi => (h2.1 i hi).trans (h.1 i hi), fun i hi => (h2.2.1 i hi).trans (h.2.1 i hi), fun r hr => (h2.2.2.1 r hr).trans (h.2.2.1 r hr), fun r hr => (h2.2.2.2 r hr).trans (h.2.2.2 r hr)⟩
theorem scr_I (h : scr u v) (hi : i = 9 ∨ i = 10 ∨ i = 19) : scr u (uI v i x) := ⟨fun j hj => by rw [gI_uI, if_neg (show ¬ j = i by omega)]; exact h.1 j hj, h.2.1, h.2.2.1, h.2.2.2⟩
theorem scr_J (h : scr u v) (hi : ¬ (i = 0 ∨ i = 1 ∨ i = 4)) : scr u (uJ v i y) := ⟨h.1, fun j hj => by rw [gJ_uJ, if_neg (show ¬ j = i by omega)]; exact h.2.1 j hj, h.2.2.1, h.2.2.2⟩
theorem scr_A (h : scr u v) (hi : (14 ≤ r ∧ r ≤ 22) ∨ r = 32) : scr u (uA v r k x) := ⟨h.1, h.2.1, fun q hq => by
  refine Eq.trans (funext fun m => ?_) (h.2.2.1 q hq)
  rw [gA_uA, if_neg (show ¬ q = r by omega)], h.2.2.2⟩
theorem scr_B (h : scr u v) (hi : (4 ≤ r ∧ r ≤ 12) ∨ (19 ≤ r ∧ r ≤ 23)) : scr u (uB v r k y) := ⟨h.1, h.2.1, h.2.2.1, fun q hq => by
  refine Eq.trans (funext fun m => ?_) (h.2.2.2 q hq)
  rw [gB_uB, if_neg (show ¬ q = r by omega)]⟩
theorem Inv_scr (h : Inv u) (s : scr u v) : Inv v := by
  obtain ⟨hB, hG, hF, hT, hP, hL, hK⟩ := h
  obtain ⟨sI, sJ, sA, sB⟩ := s
  refine ⟨?_, ?_, ?_, ?_, ?_, ?_, ?_⟩
  · unfold invB at *
    rw [sI 1 (by decide), sI 2 (by decide), sI 3 (by decide), sI 4 (by decide), sI 15 (by decide), sI 16 (by decide), sI 17 (by decide), sI 18 (by decide), sJ 0 (by decide), sJ 4 (by decide)]
    exact hB
  · unfold invG at *
    rw [sI 1 (by decide), sI 2 (by decide), sI 4 (by decide), sA 0 (by decide), sA 1 (by decide), sA 2 (by decide), sA 3 (by decide), sA 4 (by decide), sA 26 (by decide), sA 27 (by decide), sA 28 (by decide), sA 29 (by decide), sA 30 (by decide), sB 0 (by decide), sB 1 (by decide), sB 17 (by decide), sB 18 (by decide)]
    exact hG
  · unfold invF at *
    rw [sI 1 (by decide), sI 3 (by decide), sA 5 (by decide), sA 6 (by decide), sA 31 (by decide)]
    exact hF
  · unfold invT at *
    rw [sI 11 (by decide), sI 20 (by decide), sA 23 (by decide), sA 33 (by decide)]
    exact hT
  · unfold invP at *
    rw [sI 14 (by decide), sI 23 (by decide), sA 24 (by decide), sA 34 (by decide)]
    exact hP
  · unfold invL invL1 at *
    rw [sA 25 (by decide), sA 35 (by decide), sB 13 (by decide), sB 14 (by decide), sB 15 (by decide), sB 16 (by decide), sB 24 (by decide)]
    exact hL
  · unfold invK at *
    rw [sI 0 (by decide), sI 25 (by decide), sI 5 (by decide), sI 6 (by decide), sI 7 (by decide), sI 8 (by decide), sJ 1 (by decide), sA 4 (by decide), sA 36 (by decide), sA 7 (by decide), sA 8 (by decide), sA 9 (by decide), sA 10 (by decide), sA 11 (by decide), sA 12 (by decide), sA 13 (by decide), sB 2 (by decide), sB 3 (by decide), sB 25 (by decide)]
    exact hK
end SCR
/-! sums -/
def sN (f : Nat → Nat) : Nat → Nat
  | 0 => 0
  | k + 1 => sN f k + f k
theorem sN_skip {f : Nat → Nat} {N M : Nat} (h : N ≤ M) (hz : ∀ g, N ≤ g → g < M → f g = 0) : sN f M = sN f N := by
  induction M with
  | zero =>
    have : N = 0 := by omega
    rw [this]
  | succ M ih =>
    by_cases e : N = M + 1
    · rw [e]
    · show sN f M + f M = _
      rw [ih (by omega) (fun g h1 h2 => hz g h1 (by omega)), hz M (by omega) (by omega)]
      rfl
theorem sN_congr {f g : Nat → Nat} {n : Nat} (h : ∀ k, k < n → f k = g k) : sN f n = sN g n := by
  induction n with
  | zero => rfl
  | succ n ih =>
    show sN f n + f n = sN g n + g n
    rw [ih (fun k hk => h k (by omega)), h n (by omega)]
theorem sN_add {f g : Nat → Nat} {n : Nat} : sN (fun k => f k + g k) n = sN f n + sN g n := by
  induction n with
  | zero => rfl
  | succ n ih =>
    show sN (fun k => f k + g k) n + (f n + g n) = (sN f n + f n) + (sN g n + g n)
    rw [ih]
    omega
theorem sN_le {f : Nat → Nat} {n B : Nat} (h : ∀ k, k < n → f k ≤ B) : sN f n ≤ n * B := by
  induction n with
  | zero => exact Nat.zero_le _
  | succ n ih =>
    have h1 := ih (fun k hk => h k (by omega))
    have h2 := h n (by omega)
    have e : (n + 1) * B = n * B + B := Nat.succ_mul n B
    show sN f n + f n ≤ _
    omega
theorem sN_one {n a : Nat} {W : Nat} (ha : a < n) : sN (fun j => if j = a then W else 0) n = W := by
  induction n with
  | zero => omega
  | succ n ih =>
    show sN (fun j => if j = a then W else 0) n + (if n = a then W else 0) = W
    by_cases e : n = a
    · have : sN (fun j => if j = a then W else 0) n = sN (fun _ => 0) n := sN_congr fun k hk => if_neg (by omega)
      rw [this, if_pos e]
      have z : ∀ n, sN (fun _ => 0) n = 0 := fun n => by
        induction n with
        | zero => rfl
        | succ n ih => exact ih
      rw [z]
      omega
    · rw [ih (by omega), if_neg e]
      rfl
theorem sN_zero {n : Nat} : sN (fun _ => 0) n = 0 := by
  induction n with
  | zero => rfl
  | succ n ih => exact ih
/-- sums change places -/
theorem sN_swap {f : Nat → Nat → Nat} {n m : Nat} : sN (fun j => sN (fun g => f g j) m) n = sN (fun g => sN (fun j => f g j) n) m := by
  induction m with
  | zero => exact sN_zero
  | succ m ih =>
    show sN (fun j => sN (fun g => f g j) m + f m j) n = sN (fun g => sN (fun j => f g j) n) m + sN (fun j => f m j) n
    rw [sN_add, ih]
abbrev wN (w : Nat → Int32) (k : Nat) : Nat := (w k).toInt.toNat
/-- WEIGHTS of the GAMES of i and j, of i, out of the first k -/
def mtN (h a w : Nat → Int32) (c : Nat → Bool) (i j : Nat) (k : Nat) : Nat := sN (fun g => if c g = true ∧ btw h a g (jI i) (jI j) then wN w g else 0) k
def plN (h a w : Nat → Int32) (c : Nat → Bool) (i : Nat) (k : Nat) : Nat := sN (fun g => if c g = true ∧ (h g = jI i ∨ a g = jI i) then wN w g else 0) k
def rtP (h a : Nat → Int32) (gn : Nat → Int64) (c : Nat → Bool) (r0 : Int64) (i : Nat) : Nat → Int64
  | 0 => r0
  | k + 1 => if c k = true then (if h k = jI i then rtP h a gn c r0 i k + gn k else if a k = jI i then rtP h a gn c r0 i k - gn k else rtP h a gn c r0 i k) else rtP h a gn c r0 i k
theorem rtP_skip {h a : Nat → Int32} {gn : Nat → Int64} {c : Nat → Bool} {r0 : Int64} {i N M : Nat} (hn : N ≤ M) (hz : ∀ g, N ≤ g → g < M → c g = false) : rtP h a gn c r0 i M = rtP h a gn c r0 i N := by
  induction M with
  | zero =>
    have : N = 0 := by omega
    rw [this]
  | succ M ih =>
    by_cases e : N = M + 1
    · rw [e]
    · show (if c M = true then _ else rtP h a gn c r0 i M) = _
      rw [hz M (by omega) (by omega), if_neg Bool.false_ne_true, ih (by omega) (fun g h1 h2 => hz g h1 (by omega))]
/-- the GAMES of these two are all of one's -/
theorem pl_mt {h a w : Nat → Int32} {c : Nat → Bool} {n i k : Nat} (hi : i < n) (hn : n ≤ 6) (hg : ∀ g, g < k → c g = true → ∃ H A, H < n ∧ A < n ∧ H ≠ A ∧ h g = jI H ∧ a g = jI A) : sN (fun j => mtN h a w c i j k) n = plN h a w c i k := by
  unfold mtN plN
  rw [sN_swap]
  refine sN_congr fun g hgk => ?_
  by_cases hc : c g = true
  case neg =>
    rw [if_neg (fun q => hc q.1)]
    refine (sN_congr (g := fun _ => 0) fun j hj => ?_).trans sN_zero
    exact if_neg (fun q => hc q.1)
  obtain ⟨H, A, hH, hA, hHA, e1, e2⟩ := hg g hgk hc
  have eq : ∀ {x y : Nat}, x < n → y < n → (jI x = jI y ↔ x = y) := fun hx hy => jI_eq (by omega) (by omega)
  by_cases c1 : i = H
  · have nA : ¬ i = A := fun q => hHA (c1.symm.trans q)
    rw [if_pos (show c g = true ∧ (h g = jI i ∨ a g = jI i) from ⟨hc, Or.inl (by rw [e1, c1])⟩)]
    refine (sN_congr (g := fun j => if j = A then wN w g else 0) fun j hj => ?_).trans (sN_one hA)
    by_cases q : j = A
    · rw [if_pos q, if_pos ⟨hc, Or.inl ⟨by rw [e1, c1], by rw [e2, q]⟩⟩]
    · rw [if_neg q, if_neg]
      rintro ⟨_, ⟨_, q2⟩ | ⟨_, q2⟩⟩
      · rw [e2, eq hA hj] at q2
        exact q q2.symm
      · rw [e2, eq hA hi] at q2
        exact nA q2.symm
  · by_cases c2 : i = A
    · rw [if_pos (show c g = true ∧ (h g = jI i ∨ a g = jI i) from ⟨hc, Or.inr (by rw [e2, c2])⟩)]
      refine (sN_congr (g := fun j => if j = H then wN w g else 0) fun j hj => ?_).trans (sN_one hH)
      by_cases q : j = H
      · rw [if_pos q, if_pos ⟨hc, Or.inr ⟨by rw [e1, q], by rw [e2, c2]⟩⟩]
      · rw [if_neg q, if_neg]
        rintro ⟨_, ⟨q2, _⟩ | ⟨q2, _⟩⟩
        · rw [e1, eq hH hi] at q2
          exact c1 q2.symm
        · rw [e1, eq hH hj] at q2
          exact q q2.symm
    · rw [if_neg (show ¬ (c g = true ∧ (h g = jI i ∨ a g = jI i)) from by
        rintro ⟨_, q | q⟩
        · rw [e1, eq hH hi] at q
          exact c1 q.symm
        · rw [e2, eq hA hi] at q
          exact c2 q.symm)]
      refine (sN_congr (g := fun _ => 0) fun j hj => ?_).trans sN_zero
      refine if_neg ?_
      rintro ⟨_, ⟨q, _⟩ | ⟨_, q⟩⟩
      · rw [e1, eq hH hi] at q
        exact c1 q.symm
      · rw [e2, eq hA hi] at q
        exact c2 q.symm
