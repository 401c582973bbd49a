/-! PV: cells and slots only come -/
def pv_le (w w1 : pv_W) : Prop := w.2.length ≤ w1.2.length ∧ w.1 ≤ w1.1
theorem pv_le.rf {w : pv_W} : pv_le w w := ⟨Nat.le_refl _, Nat.le_refl _⟩
theorem pv_le.tr {w w1 w2 : pv_W} (h : pv_le w w1) (h2 : pv_le w1 w2) : pv_le w w2 := ⟨Nat.le_trans h.1 h2.1, Nat.le_trans h.2 h2.2⟩
section PVX
variable {st : pv_S} {lo : pv_L} {w : pv_W} {res : Option Value × pv_W}
theorem pv_i2_ex {f : Int32 → Int32 → Int32} {K : pv_S → pv_R} (h : pv_i2 f st K = some res) : ∃ q, K q = some res := by
  unfold pv_i2 at h; split at h
  · exact ⟨_, h⟩
  · cases h
theorem pv_i2z_ex {f : Int32 → Int32 → Int32} {K : pv_S → pv_R} (h : pv_i2z f st K = some res) : ∃ q, K q = some res := by
  unfold pv_i2z at h; split at h
  · split at h
    · cases h
    · exact ⟨_, h⟩
  · cases h
theorem pv_l2_ex {f : Int64 → Int64 → Int64} {K : pv_S → pv_R} (h : pv_l2 f st K = some res) : ∃ q, K q = some res := by
  unfold pv_l2 at h; split at h
  · exact ⟨_, h⟩
  · cases h
theorem pv_l2z_ex {f : Int64 → Int64 → Int64} {K : pv_S → pv_R} (h : pv_l2z f st K = some res) : ∃ q, K q = some res := by
  unfold pv_l2z at h; split at h
  · split at h
    · cases h
    · exact ⟨_, h⟩
  · cases h
theorem pv_lc_ex {f : Int64 → Int64 → Int32} {K : pv_S → pv_R} (h : pv_lc f st K = some res) : ∃ q, K q = some res := by
  unfold pv_lc at h; split at h
  · exact ⟨_, h⟩
  · cases h
theorem pv_ls_ex {f : Int64 → Int32 → Int64} {K : pv_S → pv_R} (h : pv_ls f st K = some res) : ∃ q, K q = some res := by
  unfold pv_ls at h; split at h
  · exact ⟨_, h⟩
  · cases h
theorem pv_i1_ex {f : Int32 → Int32} {K : pv_S → pv_R} (h : pv_i1 f st K = some res) : ∃ q, K q = some res := by
  unfold pv_i1 at h; split at h
  · exact ⟨_, h⟩
  · cases h
theorem pv_l1_ex {f : Int64 → Int64} {K : pv_S → pv_R} (h : pv_l1 f st K = some res) : ∃ q, K q = some res := by
  unfold pv_l1 at h; split at h
  · exact ⟨_, h⟩
  · cases h
theorem pv_il_ex {f : Int32 → Int64} {K : pv_S → pv_R} (h : pv_il f st K = some res) : ∃ q, K q = some res := by
  unfold pv_il at h; split at h
  · exact ⟨_, h⟩
  · cases h
theorem pv_li_ex {f : Int64 → Int32} {K : pv_S → pv_R} (h : pv_li f st K = some res) : ∃ q, K q = some res := by
  unfold pv_li at h; split at h
  · exact ⟨_, h⟩
  · cases h
theorem pv_ldI_ex {i : Nat} {K : Int32 → pv_R} (h : pv_ldI lo i K = some res) : ∃ q, K q = some res := by
  unfold pv_ldI at h; split at h
  · exact ⟨_, h⟩
  · cases h
theorem pv_ldJ_ex {i : Nat} {K : Int64 → pv_R} (h : pv_ldJ lo i K = some res) : ∃ q, K q = some res := by
  unfold pv_ldJ at h; split at h
  · exact ⟨_, h⟩
  · cases h
theorem pv_ldA_ex {i : Nat} {K : Nat → pv_R} (h : pv_ldA lo i K = some res) : ∃ q, K q = some res := by
  unfold pv_ldA at h; split at h
  · exact ⟨_, h⟩
  · cases h
theorem pv_bif {b : Bool} {A : pv_R} (h : (bif b then A else none) = some res) : b = true ∧ A = some res := by
  cases b
  · cases h
  · exact ⟨rfl, h⟩
theorem pv_stI_ex {i : Nat} {K : pv_L → pv_S → pv_R} (h : pv_stI lo i st K = some res) : ∃ q r, K q r = some res := by
  unfold pv_stI at h; split at h
  · exact ⟨_, _, (pv_bif h).2⟩
  · cases h
theorem pv_stJ_ex {i : Nat} {K : pv_L → pv_S → pv_R} (h : pv_stJ lo i st K = some res) : ∃ q r, K q r = some res := by
  unfold pv_stJ at h; split at h
  · exact ⟨_, _, (pv_bif h).2⟩
  · cases h
theorem pv_stA_ex {i : Nat} {K : pv_L → pv_S → pv_R} (h : pv_stA lo i st K = some res) : ∃ q r, K q r = some res := by
  unfold pv_stA at h; split at h
  · exact ⟨_, _, (pv_bif h).2⟩
  · cases h
theorem pv_if_ex {c : ClassFile.Cond} {x : Int32} {A B : pv_R} (h : pv_if c x A B = some res) : A = some res ∨ B = some res := by
  unfold pv_if at h
  cases c <;> simp only at h <;> split at h <;> simp [h]
theorem pv_ic_ex {c : ClassFile.Cond} {x y : Int32} {A B : pv_R} (h : pv_ic c x y A B = some res) : A = some res ∨ B = some res := by
  unfold pv_ic at h
  cases c <;> simp only at h <;> split at h <;> simp [h]
theorem pv_sw_ex {pc : Nat} {dflt lo hi : Int} {offs : Array Int} {x : Int32} {K : Nat → pv_R} (h : pv_sw pc dflt lo hi offs x K = some res) : ∃ q, K q = some res := by
  unfold pv_sw at h
  split at h
  · split at h
    · exact ⟨_, h⟩
    · cases h
  · split at h
    · split at h
      · exact ⟨_, h⟩
      · cases h
    · cases h
theorem pv_str_inv {a : Nat} {K : Nat → pv_R} (h : pv_str a K = some res) : ∃ i, i < 10 ∧ a = 1000000 + i ∧ K i = some res := by
  unfold pv_str at h
  cases hb : Nat.blt a 1000000 with
  | true => rw [hb] at h; cases h
  | false =>
    rw [hb] at h
    obtain ⟨h1, h2⟩ := pv_bif h
    have h3 : ¬ a < 1000000 := fun q => by
      have : Nat.blt a 1000000 = true := Nat.ble_eq_true_of_le q
      rw [this] at hb
      cases hb
    have h4 : a < 1000010 := Nat.le_of_ble_eq_true h1
    exact ⟨a - 1000000, by omega, by omega, h2⟩
theorem pv_run1_inv {gc : pv_G} {d k maxL : Nat} {As : List Value} (h : pv_run1 gc d k maxL As w = some res) : ∃ d', d = d' + 1 ∧ (pv_lay As).length ≤ maxL ∧ gc d' k 0 (pv_ent maxL As) [] w = some res := by
  unfold pv_run1 at h
  split at h
  · cases h
  · obtain ⟨h1, h2⟩ := pv_bif h
    exact ⟨_, rfl, Nat.le_of_ble_eq_true h1, h2⟩
/-- a call of kind 0 to 5, taken apart -/
theorem pv_call_inv {X : pv_X} {gc gk : pv_G} {d k pc : Nat} {aux : Nat × Nat × Nat} (h : pv_call X gc gk d k pc lo st w aux = some res) (h6 : aux.1 < 6) :
    ∃ (M : pv_M) (As : List Value) (r : pv_S), X.2.1 aux.2.1 = some M ∧ pv_pop M.2.2.2.2 st [] = some (As, r) ∧ (((aux.1 = 1 ∨ aux.1 = 4) ∧ pv_cat r ≤ 8 ∧ ∃ (v : Option Value) (w1 : pv_W), pv_run1 gc d aux.2.1 M.2.2.1 As w = some (v, w1) ∧ gk d k (pc + 3) lo (v.toList ++ r) w1 = some res) ∨ (¬ (aux.1 = 1 ∨ aux.1 = 4) ∧ ∃ (a : Nat) (r1 : pv_S), r = .ref a :: r1 ∧ pv_cat r1 ≤ 8 ∧ a < 1000000 ∧ (∃ fs, w.2[a]? = some (.inr (aux.2.2, fs))) ∧ ∃ (v : Option Value) (w1 : pv_W), pv_run1 gc d aux.2.1 M.2.2.1 (.ref a :: As) w = some (v, w1) ∧ gk d k (pc + 3) lo (v.toList ++ r1) w1 = some res)) := by
  obtain ⟨q, k1, ci⟩ := aux
  unfold pv_call at h
  have e6 : Nat.beq q 6 = false := by
    cases hb : Nat.beq q 6 with
    | false => rfl
    | true => have := Nat.eq_of_beq_eq_true hb; simp only at h6; omega
  have e7 : Nat.beq q 7 = false := by
    cases hb : Nat.beq q 7 with
    | false => rfl
    | true => have := Nat.eq_of_beq_eq_true hb; simp only at h6; omega
  have e8 : Nat.beq q 8 = false := by
    cases hb : Nat.beq q 8 with
    | false => rfl
    | true => have := Nat.eq_of_beq_eq_true hb; simp only at h6; omega
  simp only [e6, e7, e8, cond_false] at h
  split at h
  · cases h
  · rename_i M hM
    split at h
    · cases h
    · rename_i As r hp
      refine ⟨M, As, r, hM, hp, ?_⟩
      cases hb : (Nat.beq q 1 || Nat.beq q 4) with
      | true =>
        rw [hb] at h
        obtain ⟨h1, h2⟩ := pv_bif h
        split at h2
        · rename_i v w1 h3
          refine Or.inl ⟨?_, Nat.le_of_ble_eq_true h1, v, w1, h3, h2⟩
          rcases Bool.or_eq_true_iff.mp hb with h4 | h4
          · exact Or.inl (Nat.eq_of_beq_eq_true h4)
          · exact Or.inr (Nat.eq_of_beq_eq_true h4)
        · cases h2
      | false =>
        rw [hb] at h
        simp only [cond_false] at h
        split at h
        · rename_i a r1
          obtain ⟨h1, fs, h2, h3⟩ := pv_obj_inv h
          obtain ⟨h4, h5⟩ := pv_bif h3
          split at h5
          · rename_i v w1 h7
            refine Or.inr ⟨fun h8 => ?_, a, r1, rfl, Nat.le_of_ble_eq_true h4, h1, ⟨fs, h2⟩, v, w1, h7, h5⟩
            rcases h8 with h8 | h8
            · simp only at h8; subst h8; cases hb
            · simp only at h8; subst h8; cases hb
          · cases h5
        · cases h
theorem pv_call6_inv {X : pv_X} {gc gk : pv_G} {d k pc : Nat} {aux : Nat × Nat × Nat} (h : pv_call X gc gk d k pc lo st w aux = some res) (h6 : aux.1 = 6) :
    ∃ (a : Nat) (r : pv_S), st = .ref a :: r ∧ pv_cat r ≤ 8 ∧ 0 < d ∧ gk d k (pc + 3) lo r w = some res := by
  obtain ⟨q, k1, ci⟩ := aux
  simp only at h6
  subst h6
  unfold pv_call at h
  simp only [show Nat.beq 6 6 = true from rfl, cond_true] at h
  split at h
  · rename_i a r
    obtain ⟨h1, h2⟩ := pv_bif h
    obtain ⟨h3, h4⟩ := pv_bif h2
    exact ⟨a, r, rfl, Nat.le_of_ble_eq_true h1, Nat.le_of_ble_eq_true h3, h4⟩
  · cases h
theorem pv_call7_inv {X : pv_X} {gc gk : pv_G} {d k pc : Nat} {aux : Nat × Nat × Nat} (h : pv_call X gc gk d k pc lo st w aux = some res) (h6 : aux.1 = 7) :
    ∃ (i : Nat) (r : pv_S), st = .ref (1000000 + i) :: r ∧ i < 10 ∧ pv_cat r ≤ 8 ∧ 3 < d ∧ gk d k (pc + 3) lo (.int (Int32.ofNat (pv_txt i).length) :: r) w = some res := by
  obtain ⟨q, k1, ci⟩ := aux
  simp only at h6
  subst h6
  unfold pv_call at h
  simp only [show Nat.beq 7 6 = false from rfl, show Nat.beq 7 7 = true from rfl, cond_true, cond_false] at h
  split at h
  · rename_i a r
    obtain ⟨h1, h2⟩ := pv_bif h
    obtain ⟨h3, h4⟩ := pv_bif h2
    obtain ⟨i, h5, rfl, h7⟩ := pv_str_inv h4
    exact ⟨i, r, rfl, h5, Nat.le_of_ble_eq_true h1, Nat.le_of_ble_eq_true h3, h7⟩
  · cases h
theorem pv_call8_inv {X : pv_X} {gc gk : pv_G} {d k pc : Nat} {aux : Nat × Nat × Nat} (h : pv_call X gc gk d k pc lo st w aux = some res) (h6 : aux.1 = 8) :
    ∃ (i : Nat) (j : Int32) (r : pv_S), st = .int j :: .ref (1000000 + i) :: r ∧ i < 10 ∧ pv_cat r ≤ 8 ∧ 3 < d ∧ vp_in j (pv_txt i).length ∧ gk d k (pc + 3) lo (.int ((pv_txt i).getD j.toNatClampNeg 0) :: r) w = some res := by
  obtain ⟨q, k1, ci⟩ := aux
  simp only at h6
  subst h6
  unfold pv_call at h
  simp only [show Nat.beq 8 6 = false from rfl, show Nat.beq 8 7 = false from rfl, show Nat.beq 8 8 = true from rfl, cond_true, cond_false] at h
  split at h
  · rename_i j a r
    obtain ⟨h1, h2⟩ := pv_bif h
    obtain ⟨h3, h4⟩ := pv_bif h2
    obtain ⟨i, h5, rfl, h7⟩ := pv_str_inv h4
    obtain ⟨h8, h9⟩ := pv_ix_inv h7
    exact ⟨i, j, r, rfl, h5, Nat.le_of_ble_eq_true h1, Nat.le_of_ble_eq_true h3, h8, h9⟩
  · cases h
theorem pv_call_le {X : pv_X} {gc gk : pv_G} {d k pc : Nat} {aux : Nat × Nat × Nat} (hgk : ∀ d k pc lo st w res, gk d k pc lo st w = some res → pv_le w res.2) (hgc : ∀ d k pc lo st w res, gc d k pc lo st w = some res → pv_le w res.2) (h : pv_call X gc gk d k pc lo st w aux = some res) : pv_le w res.2 := by
  by_cases h6 : aux.1 < 6
  · obtain ⟨M, As, r, -, -, h | h⟩ := pv_call_inv h h6
    · obtain ⟨-, -, v, w1, h1, h2⟩ := h
      obtain ⟨d', -, -, h3⟩ := pv_run1_inv h1
      exact (hgc _ _ _ _ _ _ _ h3).tr (hgk _ _ _ _ _ _ _ h2)
    · obtain ⟨-, a, r1, -, -, -, -, v, w1, h1, h2⟩ := h
      obtain ⟨d', -, -, h3⟩ := pv_run1_inv h1
      exact (hgc _ _ _ _ _ _ _ h3).tr (hgk _ _ _ _ _ _ _ h2)
  · by_cases h7 : aux.1 = 6
    · obtain ⟨a, r, -, -, -, h1⟩ := pv_call6_inv h h7
      exact hgk _ _ _ _ _ _ _ h1
    · by_cases h8 : aux.1 = 7
      · obtain ⟨a, r, -, -, -, -, h1⟩ := pv_call7_inv h h8
        exact hgk _ _ _ _ _ _ _ h1
      · by_cases h9 : aux.1 = 8
        · obtain ⟨a, j, r, -, -, -, -, -, h1⟩ := pv_call8_inv h h9
          exact hgk _ _ _ _ _ _ _ h1
        · obtain ⟨q, k1, ci⟩ := aux
          unfold pv_call at h
          have e6 : Nat.beq q 6 = false := by
            cases hb : Nat.beq q 6 with
            | false => rfl
            | true => exact absurd (Nat.eq_of_beq_eq_true hb) h7
          have e7 : Nat.beq q 7 = false := by
            cases hb : Nat.beq q 7 with
            | false => rfl
            | true => exact absurd (Nat.eq_of_beq_eq_true hb) h8
          have e8 : Nat.beq q 8 = false := by
            cases hb : Nat.beq q 8 with
            | false => rfl
            | true => exact absurd (Nat.eq_of_beq_eq_true hb) h9
          simp only [e6, e7, e8, cond_false] at h
          split at h
          · cases h
          · split at h
            · cases h
            · cases hb : (Nat.beq q 1 || Nat.beq q 4) with
              | true =>
                rw [hb] at h
                obtain ⟨h1, h2⟩ := pv_bif h
                split at h2
                · rename_i v w1 h3
                  obtain ⟨d', -, -, h3⟩ := pv_run1_inv h3
                  exact (hgc _ _ _ _ _ _ _ h3).tr (hgk _ _ _ _ _ _ _ h2)
                · cases h2
              | false =>
                rw [hb] at h
                simp only [cond_false] at h
                split at h
                · obtain ⟨h1, fs, h2, h3⟩ := pv_obj_inv h
                  obtain ⟨h4, h5⟩ := pv_bif h3
                  split at h5
                  · rename_i v w1 h7
                    obtain ⟨d', -, -, h7⟩ := pv_run1_inv h7
                    exact (hgc _ _ _ _ _ _ _ h7).tr (hgk _ _ _ _ _ _ _ h5)
                  · cases h5
                · cases h
theorem pv_math_inv {q d : Nat} {K : pv_S → pv_R} (h : pv_math q d st K = some res) : 0 < d ∧ ((∃ x y r, st = .int y :: .int x :: r ∧ pv_cat r ≤ 8 ∧ q = 9 ∧ K (.int (if x < y then y else x) :: r) = some res) ∨ (∃ x y r, st = .int y :: .int x :: r ∧ pv_cat r ≤ 8 ∧ q = 10 ∧ K (.int (if y < x then y else x) :: r) = some res) ∨ (∃ x r, st = .long x :: r ∧ pv_cat r ≤ 8 ∧ q = 11 ∧ K (.long (if 0 < x then x else -x) :: r) = some res)) := by
  unfold pv_math at h
  obtain ⟨h1, h⟩ := pv_bif h
  refine ⟨Nat.le_of_ble_eq_true h1, ?_⟩
  match st, h with
  | .int y :: .int x :: r, h =>
    obtain ⟨h2, h⟩ := pv_bif h
    cases h9 : Nat.beq q 9 with
    | true =>
      rw [h9] at h
      exact Or.inl ⟨x, y, r, rfl, Nat.le_of_ble_eq_true h2, Nat.eq_of_beq_eq_true h9, h⟩
    | false =>
      rw [h9] at h
      obtain ⟨h3, h⟩ := pv_bif h
      exact Or.inr (Or.inl ⟨x, y, r, rfl, Nat.le_of_ble_eq_true h2, Nat.eq_of_beq_eq_true h3, h⟩)
  | .long x :: r, h =>
    obtain ⟨h2, h⟩ := pv_bif h
    obtain ⟨h3, h⟩ := pv_bif h
    exact Or.inr (Or.inr ⟨x, r, rfl, Nat.le_of_ble_eq_true h2, Nat.eq_of_beq_eq_true h3, h⟩)
  | [], h => cases h
  | [.int y], h => cases h
  | .int y :: .long _ :: r, h => cases h
  | .int y :: .float _ :: r, h => cases h
  | .int y :: .double _ :: r, h => cases h
  | .int y :: .null :: r, h => cases h
  | .int y :: .ref _ :: r, h => cases h
  | .int y :: .retAddr _ :: r, h => cases h
  | .float _ :: r, h => cases h
  | .double _ :: r, h => cases h
  | .null :: r, h => cases h
  | .ref _ :: r, h => cases h
  | .retAddr _ :: r, h => cases h
theorem pv_ret_inv {X : pv_X} {k : Nat} {v : Option Value} (h : pv_ret X k v w = some res) : ∃ M, X.2.1 k = some M ∧ res = (v, w) ∧ ((M.2.2.2.1 = none ∧ v = none) ∨ ∃ ty x, M.2.2.2.1 = some ty ∧ v = some x ∧ pv_fit ty x = true) := by
  unfold pv_ret at h
  split at h
  · cases h
  · rename_i M hM
    refine ⟨M, hM, ?_⟩
    split at h
    · rename_i hr
      cases h
      exact ⟨rfl, Or.inl ⟨hr, rfl⟩⟩
    · rename_i ty x hr
      obtain ⟨h1, h2⟩ := pv_bif h
      cases h2
      exact ⟨rfl, Or.inr ⟨ty, x, hr, rfl, h1⟩⟩
    · cases h
end PVX
set_option maxHeartbeats 4000000 in
theorem pv_op_le {X : pv_X} {gc gk : pv_G} {d k pc : Nat} {lo : pv_L} {st : pv_S} {w : pv_W} {res : Option Value × pv_W} {op : Instr} {len : Nat} {aux : Nat × Nat × Nat} (hgk : ∀ d k pc lo st w res, gk d k pc lo st w = some res → pv_le w res.2) (hgc : ∀ d k pc lo st w res, gc d k pc lo st w = some res → pv_le w res.2) (h : pv_op X gc gk d k pc lo st w op len aux = some res) : pv_le w res.2 := by
  cases op <;> simp only [pv_op] at h <;> first
    | (cases h; done)
    | exact hgk _ _ _ _ _ _ _ h
    | exact pv_call_le hgk hgc h
    | (obtain ⟨q, h⟩ := pv_i2_ex h; exact hgk _ _ _ _ _ _ _ h)
    | (obtain ⟨q, h⟩ := pv_i2z_ex h; exact hgk _ _ _ _ _ _ _ h)
    | (obtain ⟨q, h⟩ := pv_l2_ex h; exact hgk _ _ _ _ _ _ _ h)
    | (obtain ⟨q, h⟩ := pv_l2z_ex h; exact hgk _ _ _ _ _ _ _ h)
    | (obtain ⟨q, h⟩ := pv_lc_ex h; exact hgk _ _ _ _ _ _ _ h)
    | (obtain ⟨q, h⟩ := pv_ls_ex h; exact hgk _ _ _ _ _ _ _ h)
    | (obtain ⟨q, h⟩ := pv_i1_ex h; exact hgk _ _ _ _ _ _ _ h)
    | (obtain ⟨q, h⟩ := pv_l1_ex h; exact hgk _ _ _ _ _ _ _ h)
    | (obtain ⟨q, h⟩ := pv_il_ex h; exact hgk _ _ _ _ _ _ _ h)
    | (obtain ⟨q, h⟩ := pv_li_ex h; exact hgk _ _ _ _ _ _ _ h)
    | (obtain ⟨q, h⟩ := pv_ldI_ex h; exact hgk _ _ _ _ _ _ _ h)
    | (obtain ⟨q, h⟩ := pv_ldJ_ex h; exact hgk _ _ _ _ _ _ _ h)
    | (obtain ⟨q, h⟩ := pv_ldA_ex h; exact hgk _ _ _ _ _ _ _ h)
    | (obtain ⟨q, r, h⟩ := pv_stI_ex h; exact hgk _ _ _ _ _ _ _ h)
    | (obtain ⟨q, r, h⟩ := pv_stJ_ex h; exact hgk _ _ _ _ _ _ _ h)
    | (obtain ⟨q, r, h⟩ := pv_stA_ex h; exact hgk _ _ _ _ _ _ _ h)
    | skip
  case aaload =>
    split at h
    · obtain ⟨-, t, x, -, -, h⟩ := pv_arrQ_inv h
      split at h
      · obtain ⟨-, h⟩ := pv_ix_inv h
        split at h
        · exact hgk _ _ _ _ _ _ _ h
        · cases h
      · cases h
    · cases h
  case arraylength =>
    split at h
    · rename_i a r
      cases hb : Nat.beq a 2000000 with
      | true => rw [hb] at h; exact hgk _ _ _ _ _ _ _ h
      | false =>
        rw [hb] at h
        obtain ⟨-, h⟩ := pv_bif h
        split at h
        · exact hgk _ _ _ _ _ _ _ (pv_bif h).2
        · cases h
    · cases h
  case baload =>
    split at h
    · obtain ⟨-, t, x, -, -, h⟩ := pv_arrB_inv h
      split at h
      · exact hgk _ _ _ _ _ _ _ (pv_ix_inv h).2
      · cases h
    · cases h
  case bastore =>
    split at h
    · obtain ⟨-, t, x, -, -, h⟩ := pv_arrB_inv h
      split at h
      · have h9 := hgk _ _ _ _ _ _ _ (pv_ix_inv h).2
        simpa [pv_le] using h9
      · cases h
    · cases h
  case invokestatic =>
    cases hb : Nat.ble 9 aux.1 with
    | true =>
      rw [hb] at h
      simp only [cond_true] at h
      obtain ⟨-, ⟨x, y, r, -, -, -, h⟩ | ⟨x, y, r, -, -, -, h⟩ | ⟨x, r, -, -, -, h⟩⟩ := pv_math_inv h
      · exact hgk _ _ _ _ _ _ _ h
      · exact hgk _ _ _ _ _ _ _ h
      · exact hgk _ _ _ _ _ _ _ h
    | false =>
      rw [hb] at h
      exact pv_call_le hgk hgc h
  case dup =>
    split at h
    · exact hgk _ _ _ _ _ _ _ h
    · exact hgk _ _ _ _ _ _ _ h
    · cases h
  case dup2 =>
    split at h
    · exact hgk _ _ _ _ _ _ _ h
    · exact hgk _ _ _ _ _ _ _ h
    · cases h
  case pop =>
    split at h
    · exact hgk _ _ _ _ _ _ _ h
    · exact hgk _ _ _ _ _ _ _ h
    · cases h
  case getfield =>
    split at h
    · obtain ⟨-, fs, -, h⟩ := pv_obj_inv h
      split at h
      · exact hgk _ _ _ _ _ _ _ h
      · cases h
    · cases h
  case putfield =>
    split at h
    · obtain ⟨-, fs, -, h⟩ := pv_obj_inv h
      split at h
      · have h9 := hgk _ _ _ _ _ _ _ (pv_bif h).2
        simpa [pv_le] using h9
      · cases h
    · cases h
  case iaload =>
    split at h
    · rename_i i a r
      cases hb : Nat.beq a 2000000 with
      | true =>
        rw [hb] at h
        simp only [cond_true] at h
        exact hgk _ _ _ _ _ _ _ (pv_ix_inv h).2
      | false =>
        rw [hb] at h
        obtain ⟨-, x, -, h⟩ := pv_arr_inv h
        split at h
        · exact hgk _ _ _ _ _ _ _ (pv_ix_inv h).2
        · cases h
    · cases h
  case laload =>
    split at h
    · obtain ⟨-, x, -, h⟩ := pv_arr_inv h
      split at h
      · exact hgk _ _ _ _ _ _ _ (pv_ix_inv h).2
      · cases h
    · cases h
  case iastore =>
    split at h
    · obtain ⟨-, x, -, h⟩ := pv_arr_inv h
      split at h
      · have h9 := hgk _ _ _ _ _ _ _ (pv_ix_inv h).2
        simpa [pv_le] using h9
      · cases h
    · cases h
  case lastore =>
    split at h
    · obtain ⟨-, x, -, h⟩ := pv_arr_inv h
      split at h
      · have h9 := hgk _ _ _ _ _ _ _ (pv_ix_inv h).2
        simpa [pv_le] using h9
      · cases h
    · cases h
  case ifCond =>
    split at h
    · rcases pv_if_ex h with h | h
      · exact hgk _ _ _ _ _ _ _ h
      · exact hgk _ _ _ _ _ _ _ h
    · cases h
  case if_icmp =>
    split at h
    · rcases pv_ic_ex h with h | h
      · exact hgk _ _ _ _ _ _ _ h
      · exact hgk _ _ _ _ _ _ _ h
    · cases h
  case tableswitch =>
    split at h
    · obtain ⟨q, h⟩ := pv_sw_ex h
      exact hgk _ _ _ _ _ _ _ h
    · cases h
  case iinc =>
    obtain ⟨-, h⟩ := pv_bif h
    obtain ⟨x, h⟩ := pv_ldI_ex h
    exact hgk _ _ _ _ _ _ _ (pv_bif h).2
  case ldc =>
    cases hb : Nat.beq aux.1 0 with
    | true => rw [hb] at h; exact hgk _ _ _ _ _ _ _ h
    | false => rw [hb] at h; exact hgk _ _ _ _ _ _ _ h
  case ldc_w =>
    cases hb : Nat.beq aux.1 0 with
    | true => rw [hb] at h; exact hgk _ _ _ _ _ _ _ h
    | false => rw [hb] at h; exact hgk _ _ _ _ _ _ _ h
  case ireturn =>
    split at h
    · obtain ⟨M, -, rfl, -⟩ := pv_ret_inv h
      exact pv_le.rf
    · cases h
  case lreturn =>
    split at h
    · obtain ⟨M, -, rfl, -⟩ := pv_ret_inv h
      exact pv_le.rf
    · cases h
  case return_ =>
    split at h
    · obtain ⟨M, -, rfl, -⟩ := pv_ret_inv h
      exact pv_le.rf
    · cases h
  case new =>
    have h9 := hgk _ _ _ _ _ _ _ (pv_bif h).2
    simp only [pv_le, List.length_append, List.length_singleton] at h9 ⊢
    omega
  case newarray =>
    split at h
    · obtain ⟨-, h⟩ := pv_bif h
      split at h
      · cases h
      · have h9 := hgk _ _ _ _ _ _ _ h
        simp only [pv_le, List.length_append, List.length_singleton] at h9 ⊢
        omega
    · cases h
  case multianewarray =>
    split at h
    · obtain ⟨-, h⟩ := pv_bif h
      split at h
      · cases h
      · have h9 := hgk _ _ _ _ _ _ _ h
        simp only [pv_le, List.length_append, List.length_singleton] at h9 ⊢
        omega
    · cases h
theorem pv_run_le (X : pv_X) : ∀ n d k pc lo st w res, pv_run X n d k pc lo st w = some res → pv_le w res.2
  | 0, _, _, _, _, _, _, _, h => by cases h
  | n + 1, d, k, pc, lo, st, w, res, h => by
    unfold pv_run pv_step at h
    split at h
    · cases h
    · exact pv_op_le (pv_run_le X n) (pv_run_le X n) h
