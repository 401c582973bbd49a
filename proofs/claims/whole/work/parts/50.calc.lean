/-! the typed state: reading behind writing, comparing -/
section CALC
variable {u : pv_U} {i j k m : Nat} {v : Int32} {w : Int64}
theorem gI_uI : gI (uI u i v) j = if j = i then v else gI u j := by
  show (bif Nat.beq j i then v else u.1 j) = _
  by_cases h : j = i
  · subst h; rw [pv_beq_rf, if_pos rfl]; rfl
  · rw [if_neg h]
    cases hb : Nat.beq j i with
    | true => exact absurd (Nat.eq_of_beq_eq_true hb) h
    | false => rfl
theorem gJ_uJ : gJ (uJ u i w) j = if j = i then w else gJ u j := by
  show (bif Nat.beq j i then w else u.2.1 j) = _
  by_cases h : j = i
  · subst h; rw [pv_beq_rf, if_pos rfl]; rfl
  · rw [if_neg h]
    cases hb : Nat.beq j i with
    | true => exact absurd (Nat.eq_of_beq_eq_true hb) h
    | false => rfl
theorem gA_uA : gA (uA u i j v) k m = if k = i then (if m = j then v else gA u k m) else gA u k m := by
  unfold gA uA
  by_cases h : k = i
  · subst h
    simp only [pv_beq_rf, cond_true, if_true]
    rfl
  · simp only [if_neg h]
    cases hb : Nat.beq k i with
    | true => exact absurd (Nat.eq_of_beq_eq_true hb) h
    | false => rfl
theorem gB_uB : gB (uB u i j w) k m = if k = i then (if m = j then w else gB u k m) else gB u k m := by
  unfold gB uB
  by_cases h : k = i
  · subst h
    simp only [pv_beq_rf, cond_true, if_true]
    rfl
  · simp only [if_neg h]
    cases hb : Nat.beq k i with
    | true => exact absurd (Nat.eq_of_beq_eq_true hb) h
    | false => rfl
theorem gI_uJ : gI (uJ u i w) j = gI u j := rfl
theorem gI_uA : gI (uA u i m v) j = gI u j := rfl
theorem gI_uB : gI (uB u i m w) j = gI u j := rfl
theorem gJ_uI : gJ (uI u i v) j = gJ u j := rfl
theorem gJ_uA : gJ (uA u i m v) j = gJ u j := rfl
theorem gJ_uB : gJ (uB u i m w) j = gJ u j := rfl
theorem gA_uI : gA (uI u i v) k m = gA u k m := rfl
theorem gA_uJ : gA (uJ u i w) k m = gA u k m := rfl
theorem gA_uB : gA (uB u i j w) k m = gA u k m := rfl
theorem gB_uI : gB (uI u i v) k m = gB u k m := rfl
theorem gB_uJ : gB (uJ u i w) k m = gB u k m := rfl
theorem gB_uA : gB (uA u i j v) k m = gB u k m := rfl
end CALC
theorem lg_lt {x y : Int64} : lg_cmp x y < 0 ↔ x < y := by
  unfold lg_cmp
  by_cases h : x > y
  · rw [if_pos h]
    have h1 : ¬ x < y := by
      rw [gt_iff_lt, Int64.lt_iff_toInt_lt] at h
      rw [Int64.lt_iff_toInt_lt]
      omega
    simp [h1]
  · rw [if_neg h]
    by_cases h2 : x = y
    · subst h2
      rw [if_pos rfl]
      simp [Int64.lt_irrefl]
    · rw [if_neg h2]
      have h1 : x < y := by
        rw [gt_iff_lt, Int64.lt_iff_toInt_lt] at h
        have h3 : x.toInt ≠ y.toInt := fun q => h2 (Int64.toInt_inj.mp q)
        rw [Int64.lt_iff_toInt_lt]
        omega
      simp [h1]
theorem lg_gt {x y : Int64} : 0 < lg_cmp x y ↔ y < x := by
  unfold lg_cmp
  by_cases h : x > y
  · rw [if_pos h]
    simp [gt_iff_lt.mp h]
  · rw [if_neg h]
    have h' : ¬ y < x := h
    by_cases h2 : x = y
    · rw [if_pos h2]
      simp [h']
    · rw [if_neg h2]
      simp [h']
theorem lg_le {x y : Int64} : lg_cmp x y ≤ 0 ↔ ¬ y < x := by
  rw [← lg_gt, Int32.not_lt]
theorem lg_ge {x y : Int64} : 0 ≤ lg_cmp x y ↔ ¬ x < y := by
  rw [← lg_lt, Int32.not_lt]
theorem lg_eq {x y : Int64} : lg_cmp x y = 0 ↔ x = y := by
  unfold lg_cmp
  by_cases h : x > y
  · rw [if_pos h]
    have h1 : ¬ x = y := fun q => by subst q; exact Int64.lt_irrefl h
    simp [h1]
  · rw [if_neg h]
    by_cases h2 : x = y
    · rw [if_pos h2]; simp [h2]
    · rw [if_neg h2]; simp [h2]
theorem pv_ix_at {i : Int32} {n : Nat} {K : Nat → pv_R} (h0 : 0 ≤ i.toInt) (h1 : i.toInt < n) : pv_ix i n K = K i.toInt.toNat := by
  unfold pv_ix
  rw [if_pos]
  · rfl
  · rintro (h | h)
    · rw [Int32.lt_iff_toInt_lt] at h
      have : (0 : Int32).toInt = 0 := rfl
      omega
    · have : i.toNatClampNeg = i.toInt.toNat := rfl
      omega
/-- an int in a range -/
abbrev inR (x : Int32) (a b : Int) : Prop := a ≤ x.toInt ∧ x.toInt ≤ b
abbrev inJ (x : Int64) (a b : Int) : Prop := a ≤ x.toInt ∧ x.toInt ≤ b
/-- a GAME as it may stand -/
def okG (n h a : Int32) (f g : Int64) (d w v : Int32) : Prop := 0 ≤ h.toInt ∧ h.toInt < n.toInt ∧ 0 ≤ a.toInt ∧ a.toInt < n.toInt ∧ h ≠ a ∧ inJ f 0 1000000000000000 ∧ inJ g 0 1000000000000000 ∧ inR d 0 99 ∧ inR w 1 3 ∧ inR v 0 1
/-- both sides' books -/
def invB (u : pv_U) : Prop := gI u 1 = gI u 15 ∧ inR (gI u 1) 2 6 ∧ gI u 2 = gI u 16 ∧ inR (gI u 2) 0 30 ∧ gI u 3 = gI u 17 ∧ inR (gI u 3) 0 12 ∧ gI u 4 = gI u 18 ∧ inR (gI u 4) 0 1 ∧ gJ u 0 = gJ u 4 ∧ inJ (gJ u 0) 0 1000000000000000
/-- both sides' GAMES -/
def invG (u : pv_U) : Prop := (∀ k, gA u 0 k = gA u 26 k ∧ gA u 1 k = gA u 27 k ∧ gB u 0 k = gB u 17 k ∧ gB u 1 k = gB u 18 k ∧ gA u 2 k = gA u 28 k ∧ gA u 3 k = gA u 29 k ∧ gA u 4 k = gA u 30 k) ∧ ∀ k : Nat, k < 31 → ((k : Int) < (gI u 2).toInt ∨ (k = 30 ∧ gI u 4 = 1)) → okG (gI u 1) (gA u 0 k) (gA u 1 k) (gB u 0 k) (gB u 1 k) (gA u 2 k) (gA u 3 k) (gA u 4 k)
/-- both sides' FIXTURES -/
def invF (u : pv_U) : Prop := (∀ k, k < 12 → gA u 5 k = gA u 31 (2 * k) ∧ gA u 6 k = gA u 31 (2 * k + 1)) ∧ ∀ k : Nat, (k : Int) < (gI u 3).toInt → 0 ≤ (gA u 5 k).toInt ∧ (gA u 5 k).toInt < (gI u 1).toInt ∧ 0 ≤ (gA u 6 k).toInt ∧ (gA u 6 k).toInt < (gI u 1).toInt ∧ gA u 5 k ≠ gA u 6 k
/-- both sides' tapes, papers, lists -/
def invT (u : pv_U) : Prop := gI u 11 = gI u 20 ∧ inR (gI u 11) 0 120 ∧ ∀ k : Nat, (k : Int) < (gI u 11).toInt → gA u 23 k = gA u 33 k ∧ inR (gA u 23 k) 1 127
def invP (u : pv_U) : Prop := gI u 14 = gI u 23 ∧ inR (gI u 14) 0 570 ∧ ∀ k : Nat, (k : Int) < (gI u 14).toInt → gA u 24 k = gA u 34 k
def invL1 (u : pv_U) (l b : Nat) : Prop := gA u 25 l = gA u 35 l ∧ inR (gA u 25 l) (-1) 20 ∧ ∀ k : Nat, (k : Int) < (gA u 25 l).toInt → gB u b k = gB u 24 (20 * l + k)
def invL (u : pv_U) : Prop := invL1 u 0 13 ∧ invL1 u 1 14 ∧ invL1 u 2 15 ∧ invL1 u 3 16
/-- both sides' images: the class's second Ledger, the reference's rows -/
def invK (u : pv_U) : Prop := (gI u 0 = gI u 25 ∧ ∀ k, k < 31 → inR (gA u 4 k) 0 1 ∧ inR (gA u 11 k) 0 1) ∧ inR (gI u 0) 0 1 ∧ (gI u 0 = 1 →
  gI u 5 = gA u 36 179 ∧ inR (gI u 5) 2 6 ∧ gI u 6 = gA u 36 180 ∧ inR (gI u 6) 0 30 ∧ gI u 7 = gA u 36 181 ∧ inR (gI u 7) 0 12 ∧ gI u 8 = gA u 36 182 ∧ inR (gI u 8) 0 1 ∧ gJ u 1 = gB u 25 62 ∧ inJ (gJ u 1) 0 1000000000000000 ∧
  (∀ k, k < 31 → gA u 7 k = gA u 36 k ∧ gA u 8 k = gA u 36 (31 + k) ∧ gB u 2 k = gB u 25 k ∧ gB u 3 k = gB u 25 (31 + k) ∧ gA u 9 k = gA u 36 (62 + k) ∧ gA u 10 k = gA u 36 (93 + k) ∧ gA u 11 k = gA u 36 (124 + k)) ∧
  (∀ k : Nat, k < 31 → ((k : Int) < (gI u 6).toInt ∨ (k = 30 ∧ gI u 8 = 1)) → okG (gI u 5) (gA u 7 k) (gA u 8 k) (gB u 2 k) (gB u 3 k) (gA u 9 k) (gA u 10 k) (gA u 11 k)) ∧
  (∀ k, k < 12 → gA u 12 k = gA u 36 (155 + 2 * k) ∧ gA u 13 k = gA u 36 (155 + (2 * k + 1))) ∧
  ∀ k : Nat, (k : Int) < (gI u 7).toInt → 0 ≤ (gA u 12 k).toInt ∧ (gA u 12 k).toInt < (gI u 5).toInt ∧ 0 ≤ (gA u 13 k).toInt ∧ (gA u 13 k).toInt < (gI u 5).toInt ∧ gA u 12 k ≠ gA u 13 k)
/-- what holds between two calls -/
def Inv (u : pv_U) : Prop := invB u ∧ invG u ∧ invF u ∧ invT u ∧ invP u ∧ invL u ∧ invK u
/-- what kind of number an operation answers -/
def kdL (k : Nat) : Bool := [18, 25, 27, 34, 35, 39, 41, 52, 59, 60, 118].contains k
def kd (k : Nat) (v : Value) : Bool := match v with
  | .int _ => !(kdL k)
  | .long _ => kdL k
  | _ => false
/-- a call on the class and the same on the reference: one answer, and Inv again -/
def Both (L : Nat) (xs : Nat → Int32) (kC kM : Nat) (lC lM : pv_L) (u : pv_U) : Prop := ∃ (v : Value) (u1 u2 : pv_U), RR (pv_X0 L xs) 99 kC 0 lC [] (enc u) = some (some v, enc u1) ∧ RR (pv_X0 L xs) 99 kM 0 lM [] (enc u1) = some (some v, enc u2) ∧ Inv u2 ∧ kd kC v = true
