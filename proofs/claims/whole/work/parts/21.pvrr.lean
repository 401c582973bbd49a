/-! PV: what a run comes to, whatever its fuel -/
theorem pv_beq_rf : ∀ n : Nat, Nat.beq n n = true
  | 0 => rfl
  | n + 1 => pv_beq_rf n
section PVCT
variable {st : pv_S} {lo : pv_L} {w : pv_W} {res : Option Value × pv_W}
theorem pv_i2_ct {f : Int32 → Int32 → Int32} {K : pv_S → pv_R} (h : pv_i2 f st K = some res) : ∃ q, K q = some res ∧ ∀ K' : pv_S → pv_R, K' q = some res → pv_i2 f st K' = some res := by
  unfold pv_i2 at h ⊢; split at h
  · exact ⟨_, h, fun _ h => h⟩
  · cases h
theorem pv_i2z_ct {f : Int32 → Int32 → Int32} {K : pv_S → pv_R} (h : pv_i2z f st K = some res) : ∃ q, K q = some res ∧ ∀ K' : pv_S → pv_R, K' q = some res → pv_i2z f st K' = some res := by
  unfold pv_i2z at h ⊢; split at h
  · split at h
    · cases h
    · rename_i hz
      exact ⟨_, h, fun _ h => by simp only [if_neg hz]; exact h⟩
  · cases h
theorem pv_l2_ct {f : Int64 → Int64 → Int64} {K : pv_S → pv_R} (h : pv_l2 f st K = some res) : ∃ q, K q = some res ∧ ∀ K' : pv_S → pv_R, K' q = some res → pv_l2 f st K' = some res := by
  unfold pv_l2 at h ⊢; split at h
  · exact ⟨_, h, fun _ h => h⟩
  · cases h
theorem pv_l2z_ct {f : Int64 → Int64 → Int64} {K : pv_S → pv_R} (h : pv_l2z f st K = some res) : ∃ q, K q = some res ∧ ∀ K' : pv_S → pv_R, K' q = some res → pv_l2z f st K' = some res := by
  unfold pv_l2z at h ⊢; split at h
  · split at h
    · cases h
    · rename_i hz
      exact ⟨_, h, fun _ h => by simp only [if_neg hz]; exact h⟩
  · cases h
theorem pv_lc_ct {f : Int64 → Int64 → Int32} {K : pv_S → pv_R} (h : pv_lc f st K = some res) : ∃ q, K q = some res ∧ ∀ K' : pv_S → pv_R, K' q = some res → pv_lc f st K' = some res := by
  unfold pv_lc at h ⊢; split at h
  · exact ⟨_, h, fun _ h => h⟩
  · cases h
theorem pv_ls_ct {f : Int64 → Int32 → Int64} {K : pv_S → pv_R} (h : pv_ls f st K = some res) : ∃ q, K q = some res ∧ ∀ K' : pv_S → pv_R, K' q = some res → pv_ls f st K' = some res := by
  unfold pv_ls at h ⊢; split at h
  · exact ⟨_, h, fun _ h => h⟩
  · cases h
theorem pv_i1_ct {f : Int32 → Int32} {K : pv_S → pv_R} (h : pv_i1 f st K = some res) : ∃ q, K q = some res ∧ ∀ K' : pv_S → pv_R, K' q = some res → pv_i1 f st K' = some res := by
  unfold pv_i1 at h ⊢; split at h
  · exact ⟨_, h, fun _ h => h⟩
  · cases h
theorem pv_l1_ct {f : Int64 → Int64} {K : pv_S → pv_R} (h : pv_l1 f st K = some res) : ∃ q, K q = some res ∧ ∀ K' : pv_S → pv_R, K' q = some res → pv_l1 f st K' = some res := by
  unfold pv_l1 at h ⊢; split at h
  · exact ⟨_, h, fun _ h => h⟩
  · cases h
theorem pv_il_ct {f : Int32 → Int64} {K : pv_S → pv_R} (h : pv_il f st K = some res) : ∃ q, K q = some res ∧ ∀ K' : pv_S → pv_R, K' q = some res → pv_il f st K' = some res := by
  unfold pv_il at h ⊢; split at h
  · exact ⟨_, h, fun _ h => h⟩
  · cases h
theorem pv_li_ct {f : Int64 → Int32} {K : pv_S → pv_R} (h : pv_li f st K = some res) : ∃ q, K q = some res ∧ ∀ K' : pv_S → pv_R, K' q = some res → pv_li f st K' = some res := by
  unfold pv_li at h ⊢; split at h
  · exact ⟨_, h, fun _ h => h⟩
  · cases h
theorem pv_ldI_ct {i : Nat} {K : Int32 → pv_R} (h : pv_ldI lo i K = some res) : ∃ q, K q = some res ∧ ∀ K' : Int32 → pv_R, K' q = some res → pv_ldI lo i K' = some res := by
  unfold pv_ldI at h ⊢; split at h
  · exact ⟨_, h, fun _ h => h⟩
  · cases h
theorem pv_ldJ_ct {i : Nat} {K : Int64 → pv_R} (h : pv_ldJ lo i K = some res) : ∃ q, K q = some res ∧ ∀ K' : Int64 → pv_R, K' q = some res → pv_ldJ lo i K' = some res := by
  unfold pv_ldJ at h ⊢; split at h
  · exact ⟨_, h, fun _ h => h⟩
  · cases h
theorem pv_ldA_ct {i : Nat} {K : Nat → pv_R} (h : pv_ldA lo i K = some res) : ∃ q, K q = some res ∧ ∀ K' : Nat → pv_R, K' q = some res → pv_ldA lo i K' = some res := by
  unfold pv_ldA at h ⊢; split at h
  · exact ⟨_, h, fun _ h => h⟩
  · cases h
theorem pv_stI_ct {i : Nat} {K : pv_L → pv_S → pv_R} (h : pv_stI lo i st K = some res) : ∃ q r, K q r = some res ∧ ∀ K' : pv_L → pv_S → pv_R, K' q r = some res → pv_stI lo i st K' = some res := by
  unfold pv_stI at h ⊢; split at h
  · obtain ⟨h1, h2⟩ := pv_bif h
    exact ⟨_, _, h2, fun _ h => by simp only [h1, cond_true]; exact h⟩
  · cases h
theorem pv_stJ_ct {i : Nat} {K : pv_L → pv_S → pv_R} (h : pv_stJ lo i st K = some res) : ∃ q r, K q r = some res ∧ ∀ K' : pv_L → pv_S → pv_R, K' q r = some res → pv_stJ lo i st K' = some res := by
  unfold pv_stJ at h ⊢; split at h
  · obtain ⟨h1, h2⟩ := pv_bif h
    exact ⟨_, _, h2, fun _ h => by simp only [h1, cond_true]; exact h⟩
  · cases h
theorem pv_stA_ct {i : Nat} {K : pv_L → pv_S → pv_R} (h : pv_stA lo i st K = some res) : ∃ q r, K q r = some res ∧ ∀ K' : pv_L → pv_S → pv_R, K' q r = some res → pv_stA lo i st K' = some res := by
  unfold pv_stA at h ⊢; split at h
  · obtain ⟨h1, h2⟩ := pv_bif h
    exact ⟨_, _, h2, fun _ h => by simp only [h1, cond_true]; exact h⟩
  · cases h
theorem pv_ix_ct {i : Int32} {n : Nat} {K : Nat → pv_R} (h : pv_ix i n K = some res) : ∃ q, K q = some res ∧ ∀ K' : Nat → pv_R, K' q = some res → pv_ix i n K' = some res := by
  unfold pv_ix at h ⊢; split at h
  · rename_i h1
    exact ⟨_, h, fun _ h => by rw [if_pos h1]; exact h⟩
  · cases h
theorem pv_obj_ct {a ci : Nat} {K : List Value → pv_R} (h : pv_obj w a ci K = some res) : ∃ q, K q = some res ∧ ∀ K' : List Value → pv_R, K' q = some res → pv_obj w a ci K' = some res := by
  obtain ⟨h1, fs, h2, h3⟩ := pv_obj_inv h
  refine ⟨fs, h3, fun K' h => ?_⟩
  unfold pv_obj
  rw [show Nat.blt a 1000000 = true from Nat.ble_eq_true_of_le h1, h2]
  simp only [cond_true, show Nat.beq ci ci = true from pv_beq_rf _]
  exact h
theorem pv_arr_ct {a t : Nat} {K : vp_A → pv_R} (h : pv_arr w a t K = some res) : ∃ q, K q = some res ∧ ∀ K' : vp_A → pv_R, K' q = some res → pv_arr w a t K' = some res := by
  obtain ⟨h1, x, h2, h3⟩ := pv_arr_inv h
  refine ⟨x, h3, fun K' h => ?_⟩
  unfold pv_arr
  rw [show Nat.blt a 1000000 = true from Nat.ble_eq_true_of_le h1, h2]
  simp only [cond_true, show Nat.beq t t = true from pv_beq_rf _]
  exact h
theorem pv_arrB_ct {a : Nat} {K : Nat → vp_A → pv_R} (h : pv_arrB w a K = some res) : ∃ q r, K q r = some res ∧ ∀ K' : Nat → vp_A → pv_R, K' q r = some res → pv_arrB w a K' = some res := by
  obtain ⟨h1, t, x, ht, h2, h3⟩ := pv_arrB_inv h
  refine ⟨t, x, h3, fun K' h => ?_⟩
  unfold pv_arrB
  rw [show Nat.blt a 1000000 = true from Nat.ble_eq_true_of_le h1, h2]
  rcases ht with rfl | rfl
  · exact h
  · exact h
theorem pv_arrQ_ct {a : Nat} {K : Nat → vp_A → pv_R} (h : pv_arrQ w a K = some res) : ∃ q r, K q r = some res ∧ ∀ K' : Nat → vp_A → pv_R, K' q r = some res → pv_arrQ w a K' = some res := by
  obtain ⟨h1, t, x, ht, h2, h3⟩ := pv_arrQ_inv h
  refine ⟨t, x, h3, fun K' h => ?_⟩
  unfold pv_arrQ
  rw [show Nat.blt a 1000000 = true from Nat.ble_eq_true_of_le h1, h2]
  rcases ht with rfl | rfl
  · exact h
  · exact h
theorem pv_sw_ct {pc : Nat} {dflt lo hi : Int} {offs : Array Int} {x : Int32} {K : Nat → pv_R} (h : pv_sw pc dflt lo hi offs x K = some res) : ∃ q, K q = some res ∧ ∀ K' : Nat → pv_R, K' q = some res → pv_sw pc dflt lo hi offs x K' = some res := by
  unfold pv_sw at h ⊢
  split at h
  · rename_i h1
    split at h
    · rename_i h2
      exact ⟨_, h, fun _ h => by rw [if_pos h1, if_pos h2]; exact h⟩
    · cases h
  · rename_i h1
    split at h
    · rename_i off h3
      split at h
      · rename_i h2
        exact ⟨_, h, fun _ h => by rw [if_neg h1, if_pos h2]; exact h⟩
      · cases h
    · cases h
theorem pv_math_ct {q d : Nat} {K : pv_S → pv_R} (h : pv_math q d st K = some res) : ∃ r, K r = some res ∧ ∀ K' : pv_S → pv_R, K' r = some res → pv_math q d st K' = some res := by
  obtain ⟨h0, ⟨x, y, r, rfl, h1, rfl, h5⟩ | ⟨x, y, r, rfl, h1, rfl, h5⟩ | ⟨x, r, rfl, h1, rfl, h5⟩⟩ := pv_math_inv h
  · refine ⟨_, h5, fun K' h => ?_⟩
    unfold pv_math
    rw [show Nat.blt 0 d = true from Nat.ble_eq_true_of_le h0]
    simp only [cond_true, show Nat.ble (pv_cat r) 8 = true from Nat.ble_eq_true_of_le h1]
    exact h
  · refine ⟨_, h5, fun K' h => ?_⟩
    unfold pv_math
    rw [show Nat.blt 0 d = true from Nat.ble_eq_true_of_le h0]
    simp only [cond_true, show Nat.ble (pv_cat r) 8 = true from Nat.ble_eq_true_of_le h1]
    exact h
  · refine ⟨_, h5, fun K' h => ?_⟩
    unfold pv_math
    rw [show Nat.blt 0 d = true from Nat.ble_eq_true_of_le h0]
    simp only [cond_true, show Nat.ble (pv_cat r) 8 = true from Nat.ble_eq_true_of_le h1]
    exact h
end PVCT
/-- how a step uses what follows: not at all, once, or a call and once -/
def pv_ct (gc gk : pv_G) (res : Option Value × pv_W) (F : pv_G → pv_G → pv_R) : Prop :=
  (∀ gc' gk', F gc' gk' = some res) ∨ (∃ d k pc lo st w, gk d k pc lo st w = some res ∧ ∀ gc' gk' : pv_G, gk' d k pc lo st w = some res → F gc' gk' = some res) ∨
  (∃ d k pc lo st w r d2 k2 pc2 lo2 st2 w2, gc d k pc lo st w = some r ∧ gk d2 k2 pc2 lo2 st2 w2 = some res ∧ ∀ gc' gk' : pv_G, gc' d k pc lo st w = some r → gk' d2 k2 pc2 lo2 st2 w2 = some res → F gc' gk' = some res)
section PVCT2
variable {X : pv_X} {gc gk : pv_G} {d k pc : Nat} {lo : pv_L} {st : pv_S} {w : pv_W} {res : Option Value × pv_W} {aux : Nat × Nat × Nat}
theorem pv_ct.one {F : pv_G → pv_G → pv_R} (h : gk d k pc lo st w = some res) (h2 : ∀ gc' gk' : pv_G, gk' d k pc lo st w = some res → F gc' gk' = some res) : pv_ct gc gk res F := Or.inr (Or.inl ⟨_, _, _, _, _, _, h, h2⟩)
theorem pv_run1_ct {maxL : Nat} {As : List Value} (h : pv_run1 gc d k maxL As w = some res) : ∃ d' lo', gc d' k 0 lo' [] w = some res ∧ ∀ gc' : pv_G, gc' d' k 0 lo' [] w = some res → pv_run1 gc' d k maxL As w = some res := by
  unfold pv_run1 at h ⊢
  split at h
  · cases h
  · obtain ⟨h1, h2⟩ := pv_bif h
    exact ⟨_, _, h2, fun _ h => by simp only [h1, cond_true]; exact h⟩
theorem pv_call_ct (h : pv_call X gc gk d k pc lo st w aux = some res) : pv_ct gc gk res (fun gc gk => pv_call X gc gk d k pc lo st w aux) := by
  unfold pv_call at h
  cases h6 : Nat.beq aux.1 6 with
  | true =>
    rw [h6] at h
    simp only [cond_true] at h
    split at h
    · obtain ⟨h1, h⟩ := pv_bif h
      obtain ⟨h2, h⟩ := pv_bif h
      refine pv_ct.one h fun gc' gk' h => ?_
      unfold pv_call
      simp only [h6, h1, h2, cond_true]
      exact h
    · cases h
  | false =>
    rw [h6] at h
    simp only [cond_false] at h
    cases h7 : Nat.beq aux.1 7 with
    | true =>
      rw [h7] at h
      simp only [cond_true] at h
      split at h
      · obtain ⟨h1, h⟩ := pv_bif h
        obtain ⟨h2, h⟩ := pv_bif h
        obtain ⟨i, hi, rfl, h5⟩ := pv_str_inv h
        refine pv_ct.one h5 fun gc' gk' h => ?_
        unfold pv_call
        simp only [h6, h7, h1, h2, cond_true, cond_false]
        unfold pv_str
        rw [show Nat.blt (1000000 + i) 1000000 = false by cases hb : Nat.blt (1000000 + i) 1000000 with | false => rfl | true => have := Nat.le_of_ble_eq_true hb; omega, show Nat.blt (1000000 + i) 1000010 = true from Nat.ble_eq_true_of_le (by omega)]
        simp only [cond_true, cond_false, Nat.add_sub_cancel_left]
        exact h
      · cases h
    | false =>
      rw [h7] at h
      simp only [cond_false] at h
      cases h8 : Nat.beq aux.1 8 with
      | true =>
        rw [h8] at h
        simp only [cond_true] at h
        split at h
        · obtain ⟨h1, h⟩ := pv_bif h
          obtain ⟨h2, h⟩ := pv_bif h
          obtain ⟨i, hi, rfl, h5⟩ := pv_str_inv h
          obtain ⟨q, h4, h3⟩ := pv_ix_ct h5
          refine pv_ct.one h4 fun gc' gk' h => ?_
          unfold pv_call
          simp only [h6, h7, h8, h1, h2, cond_true, cond_false]
          unfold pv_str
          rw [show Nat.blt (1000000 + i) 1000000 = false by cases hb : Nat.blt (1000000 + i) 1000000 with | false => rfl | true => have := Nat.le_of_ble_eq_true hb; omega, show Nat.blt (1000000 + i) 1000010 = true from Nat.ble_eq_true_of_le (by omega)]
          simp only [cond_true, cond_false, Nat.add_sub_cancel_left]
          exact h3 _ h
        · cases h
      | false =>
        rw [h8] at h
        simp only [cond_false] at h
        split at h
        · cases h
        · rename_i M hM
          split at h
          · cases h
          · rename_i As r hp
            cases hb : (Nat.beq aux.1 1 || Nat.beq aux.1 4) with
            | true =>
              rw [hb] at h
              obtain ⟨h1, h⟩ := pv_bif h
              split at h
              · rename_i v w1 h3
                obtain ⟨d', lo', h4, h5⟩ := pv_run1_ct h3
                refine Or.inr (Or.inr ⟨_, _, _, _, _, _, _, _, _, _, _, _, _, h4, h, fun gc' gk' h9 h10 => ?_⟩)
                unfold pv_call
                simp only [h6, h7, h8, hM, hp, hb, h1, h5 _ h9, cond_true, cond_false]
                exact h10
              · cases h
            | false =>
              rw [hb] at h
              simp only [cond_false] at h
              split at h
              · obtain ⟨fs, h, h2⟩ := pv_obj_ct h
                obtain ⟨h1, h⟩ := pv_bif h
                split at h
                · rename_i v w1 h3
                  obtain ⟨d', lo', h4, h5⟩ := pv_run1_ct h3
                  refine Or.inr (Or.inr ⟨_, _, _, _, _, _, _, _, _, _, _, _, _, h4, h, fun gc' gk' h9 h10 => ?_⟩)
                  unfold pv_call
                  simp only [h6, h7, h8, hM, hp, hb, cond_true, cond_false]
                  refine h2 _ ?_
                  simp only [h1, h5 _ h9, cond_true]
                  exact h10
                · cases h
              · cases h
set_option maxHeartbeats 8000000 in
theorem pv_op_ct {op : Instr} {len : Nat} (h : pv_op X gc gk d k pc lo st w op len aux = some res) : pv_ct gc gk res (fun gc gk => pv_op X gc gk d k pc lo st w op len aux) := by
  cases op <;> simp only [pv_op] at h <;> first
    | (cases h; done)
    | exact pv_ct.one h fun _ _ h => h
    | exact pv_call_ct h
    | (obtain ⟨q, h, h2⟩ := pv_i2_ct h; exact pv_ct.one h fun gc' gk' h => by (simp only [pv_op]; exact h2 _ h))
    | (obtain ⟨q, h, h2⟩ := pv_i2z_ct h; exact pv_ct.one h fun gc' gk' h => by (simp only [pv_op]; exact h2 _ h))
    | (obtain ⟨q, h, h2⟩ := pv_l2_ct h; exact pv_ct.one h fun gc' gk' h => by (simp only [pv_op]; exact h2 _ h))
    | (obtain ⟨q, h, h2⟩ := pv_l2z_ct h; exact pv_ct.one h fun gc' gk' h => by (simp only [pv_op]; exact h2 _ h))
    | (obtain ⟨q, h, h2⟩ := pv_lc_ct h; exact pv_ct.one h fun gc' gk' h => by (simp only [pv_op]; exact h2 _ h))
    | (obtain ⟨q, h, h2⟩ := pv_ls_ct h; exact pv_ct.one h fun gc' gk' h => by (simp only [pv_op]; exact h2 _ h))
    | (obtain ⟨q, h, h2⟩ := pv_i1_ct h; exact pv_ct.one h fun gc' gk' h => by (simp only [pv_op]; exact h2 _ h))
    | (obtain ⟨q, h, h2⟩ := pv_l1_ct h; exact pv_ct.one h fun gc' gk' h => by (simp only [pv_op]; exact h2 _ h))
    | (obtain ⟨q, h, h2⟩ := pv_il_ct h; exact pv_ct.one h fun gc' gk' h => by (simp only [pv_op]; exact h2 _ h))
    | (obtain ⟨q, h, h2⟩ := pv_li_ct h; exact pv_ct.one h fun gc' gk' h => by (simp only [pv_op]; exact h2 _ h))
    | (obtain ⟨q, h, h2⟩ := pv_ldI_ct h; exact pv_ct.one h fun gc' gk' h => by (simp only [pv_op]; exact h2 _ h))
    | (obtain ⟨q, h, h2⟩ := pv_ldJ_ct h; exact pv_ct.one h fun gc' gk' h => by (simp only [pv_op]; exact h2 _ h))
    | (obtain ⟨q, h, h2⟩ := pv_ldA_ct h; exact pv_ct.one h fun gc' gk' h => by (simp only [pv_op]; exact h2 _ h))
    | (obtain ⟨q, r, h, h2⟩ := pv_stI_ct h; exact pv_ct.one h fun gc' gk' h => by (simp only [pv_op]; exact h2 _ h))
    | (obtain ⟨q, r, h, h2⟩ := pv_stJ_ct h; exact pv_ct.one h fun gc' gk' h => by (simp only [pv_op]; exact h2 _ h))
    | (obtain ⟨q, r, h, h2⟩ := pv_stA_ct h; exact pv_ct.one h fun gc' gk' h => by (simp only [pv_op]; exact h2 _ h))
    | skip
  case invokestatic i =>
    cases hb : Nat.ble 9 aux.1 with
    | true =>
      rw [hb] at h
      simp only [cond_true] at h
      obtain ⟨r, h, h2⟩ := pv_math_ct h
      exact pv_ct.one h fun _ _ h => by simp only [pv_op, hb, cond_true]; exact h2 _ h
    | false =>
      rw [hb] at h
      simp only [cond_false] at h
      have h9 := pv_call_ct h
      have e : (fun gc gk => pv_op X gc gk d k pc lo st w (.invokestatic i) len aux) = (fun gc gk => pv_call X gc gk d k pc lo st w aux) := by
        funext gc gk
        simp only [pv_op, hb, cond_false]
      rw [e]
      exact h9
  case dup =>
    split at h
    · exact pv_ct.one h fun _ _ h => h
    · exact pv_ct.one h fun _ _ h => h
    · cases h
  case dup2 =>
    split at h
    · exact pv_ct.one h fun _ _ h => h
    · exact pv_ct.one h fun _ _ h => h
    · cases h
  case pop =>
    split at h
    · exact pv_ct.one h fun _ _ h => h
    · exact pv_ct.one h fun _ _ h => h
    · cases h
  case getfield =>
    split at h
    · obtain ⟨fs, h, h2⟩ := pv_obj_ct h
      split at h
      · rename_i v hv
        exact pv_ct.one h fun _ _ h => h2 _ (by simp only [hv]; exact h)
      · cases h
    · cases h
  case putfield =>
    split at h
    · obtain ⟨fs, h, h2⟩ := pv_obj_ct h
      split at h
      · rename_i ty x h3 h4
        obtain ⟨h5, h⟩ := pv_bif h
        exact pv_ct.one h fun _ _ h => h2 _ (by simp only [h3, h4, h5, cond_true]; exact h)
      · cases h
    · cases h
  case iaload =>
    split at h
    · rename_i i a r
      cases hb : Nat.beq a 2000000 with
      | true =>
        rw [hb] at h
        simp only [cond_true] at h
        obtain ⟨q, h, h2⟩ := pv_ix_ct h
        exact pv_ct.one h fun _ _ h => by simp only [pv_op, hb, cond_true]; exact h2 _ h
      | false =>
        rw [hb] at h
        simp only [cond_false] at h
        obtain ⟨⟨n, f | f | f | f | f⟩, h, h2⟩ := pv_arr_ct h <;> first | (cases h; done) | skip
        obtain ⟨q, h, h3⟩ := pv_ix_ct h
        exact pv_ct.one h fun _ _ h => by simp only [pv_op, hb, cond_false]; exact h2 _ (h3 _ h)
    · cases h
  case laload =>
    split at h
    · obtain ⟨⟨n, f | f | f | f | f⟩, h, h2⟩ := pv_arr_ct h <;> first | (cases h; done) | skip
      obtain ⟨q, h, h3⟩ := pv_ix_ct h
      exact pv_ct.one h fun _ _ h => h2 _ (h3 _ h)
    · cases h
  case iastore =>
    split at h
    · obtain ⟨⟨n, f | f | f | f | f⟩, h, h2⟩ := pv_arr_ct h <;> first | (cases h; done) | skip
      obtain ⟨q, h, h3⟩ := pv_ix_ct h
      exact pv_ct.one h fun _ _ h => h2 _ (h3 _ h)
    · cases h
  case lastore =>
    split at h
    · obtain ⟨⟨n, f | f | f | f | f⟩, h, h2⟩ := pv_arr_ct h <;> first | (cases h; done) | skip
      obtain ⟨q, h, h3⟩ := pv_ix_ct h
      exact pv_ct.one h fun _ _ h => h2 _ (h3 _ h)
    · cases h
  case baload =>
    split at h
    · obtain ⟨t, ⟨n, f | f | f | f | f⟩, h, h2⟩ := pv_arrB_ct h <;> first | (cases h; done) | skip
      obtain ⟨q, h, h3⟩ := pv_ix_ct h
      exact pv_ct.one h fun gc' gk' h => by
        simp only [pv_op]
        refine h2 _ ?_
        exact h3 _ h
    · cases h
  case bastore =>
    split at h
    · obtain ⟨t, ⟨n, f | f | f | f | f⟩, h, h2⟩ := pv_arrB_ct h <;> first | (cases h; done) | skip
      obtain ⟨q, h, h3⟩ := pv_ix_ct h
      exact pv_ct.one h fun gc' gk' h => by
        simp only [pv_op]
        refine h2 _ ?_
        exact h3 _ h
    · cases h
  case aaload =>
    split at h
    · obtain ⟨t, ⟨n, f | f | f | f | f⟩, h, h2⟩ := pv_arrQ_ct h <;> first | (cases h; done) | skip
      obtain ⟨q, h, h3⟩ := pv_ix_ct h
      split at h
      · rename_i b hb
        exact pv_ct.one h fun gc' gk' h => by
          simp only [pv_op]
          refine h2 _ ?_
          refine h3 _ ?_
          simp only [hb]
          exact h
      · cases h
    · cases h
  case arraylength =>
    split at h
    · rename_i a r
      cases hb : Nat.beq a 2000000 with
      | true =>
        rw [hb] at h
        simp only [cond_true] at h
        exact pv_ct.one h fun _ _ h => by simp only [pv_op, hb, cond_true]; exact h
      | false =>
        rw [hb] at h
        simp only [cond_false] at h
        obtain ⟨h1, h⟩ := pv_bif h
        split at h
        · rename_i t x hw
          obtain ⟨h2, h⟩ := pv_bif h
          exact pv_ct.one h fun _ _ h => by simp only [pv_op, hb, h1, hw, h2, cond_true, cond_false]; exact h
        · cases h
    · cases h
  case ifCond c _ =>
    split at h
    · rcases pv_if_ex h with h9 | h9
      all_goals
        unfold pv_if at h
        cases c <;> simp only at h <;> split at h <;> (rename_i hc; exact pv_ct.one h fun _ _ h => by simp only [pv_op, pv_if, hc, if_true, if_false]; exact h)
    · cases h
  case if_icmp c _ =>
    split at h
    · unfold pv_ic at h
      cases c <;> simp only at h <;> split at h <;> (rename_i hc; exact pv_ct.one h fun _ _ h => by simp only [pv_op, pv_ic, hc, if_true, if_false]; exact h)
    · cases h
  case tableswitch =>
    split at h
    · obtain ⟨q, h, h2⟩ := pv_sw_ct h
      exact pv_ct.one h fun gc' gk' h => by
        simp only [pv_op]
        exact h2 _ h
    · cases h
  case iinc =>
    obtain ⟨h1, h⟩ := pv_bif h
    obtain ⟨x, h, h2⟩ := pv_ldI_ct h
    obtain ⟨h3, h⟩ := pv_bif h
    exact pv_ct.one h fun _ _ h => by simp only [pv_op, h1, cond_true]; exact h2 _ (by simp only [h3, cond_true]; exact h)
  case ldc =>
    cases hb : Nat.beq aux.1 0 with
    | true => rw [hb] at h; exact pv_ct.one h fun _ _ h => by simp only [pv_op, hb, cond_true]; exact h
    | false => rw [hb] at h; exact pv_ct.one h fun _ _ h => by simp only [pv_op, hb, cond_false]; exact h
  case ldc_w =>
    cases hb : Nat.beq aux.1 0 with
    | true => rw [hb] at h; exact pv_ct.one h fun _ _ h => by simp only [pv_op, hb, cond_true]; exact h
    | false => rw [hb] at h; exact pv_ct.one h fun _ _ h => by simp only [pv_op, hb, cond_false]; exact h
  case ireturn =>
    split at h
    · exact Or.inl fun _ _ => h
    · cases h
  case lreturn =>
    split at h
    · exact Or.inl fun _ _ => h
    · cases h
  case return_ =>
    split at h
    · exact Or.inl fun _ _ => h
    · cases h
  case new =>
    obtain ⟨h1, h⟩ := pv_bif h
    exact pv_ct.one h fun _ _ h => by simp only [pv_op, h1, cond_true]; exact h
  case newarray =>
    split at h
    · obtain ⟨h1, h⟩ := pv_bif h
      split at h
      · cases h
      · rename_i h2
        exact pv_ct.one h fun _ _ h => by simp only [pv_op, h1, h2, cond_true, if_false]; exact h
    · cases h
  case multianewarray =>
    split at h
    · obtain ⟨h1, h⟩ := pv_bif h
      split at h
      · cases h
      · rename_i h2
        exact pv_ct.one h fun _ _ h => by simp only [pv_op, h1, h2, cond_true, if_false]; exact h
    · cases h
theorem pv_step_ct (h : pv_step X gc gk d k pc lo st w = some res) : pv_ct gc gk res (fun gc gk => pv_step X gc gk d k pc lo st w) := by
  unfold pv_step at h
  split at h
  · cases h
  · rename_i e he
    have h9 := pv_op_ct h
    have e9 : (fun gc gk => pv_step X gc gk d k pc lo st w) = (fun gc gk => pv_op X gc gk d k pc lo st w e.1 e.2.1 e.2.2) := by
      funext gc gk
      simp only [pv_step, he]
    rw [e9]
    exact h9
end PVCT2
theorem pv_run_mono1 (X : pv_X) : ∀ n d k pc lo st w res, pv_run X n d k pc lo st w = some res → pv_run X (n + 1) d k pc lo st w = some res
  | 0, _, _, _, _, _, _, _, h => by cases h
  | n + 1, d, k, pc, lo, st, w, res, h => by
    rcases pv_step_ct (X := X) (gc := pv_run X n) (gk := pv_run X n) h with h1 | ⟨d1, k1, pc1, lo1, st1, w1, h1, h2⟩ | ⟨d1, k1, pc1, lo1, st1, w1, r1, d2, k2, pc2, lo2, st2, w2, h1, h2, h3⟩
    · exact h1 _ _
    · exact h2 _ _ (pv_run_mono1 X n _ _ _ _ _ _ _ h1)
    · exact h3 _ _ (pv_run_mono1 X n _ _ _ _ _ _ _ h1) (pv_run_mono1 X n _ _ _ _ _ _ _ h2)
theorem pv_run_mono (X : pv_X) {n n' : Nat} (hn : n ≤ n') {d k pc : Nat} {lo : pv_L} {st : pv_S} {w : pv_W} {res : Option Value × pv_W} (h : pv_run X n d k pc lo st w = some res) : pv_run X n' d k pc lo st w = some res := by
  induction hn with
  | refl => exact h
  | step _ ih => exact pv_run_mono1 X _ _ _ _ _ _ _ _ ih
/-- what the run comes to -/
noncomputable def RR (X : pv_X) : pv_G := fun d k pc lo st w => @dite pv_R (∃ n r, pv_run X n d k pc lo st w = some r) (Classical.propDecidable _) (fun h => some (Classical.choose (Classical.choose_spec h))) (fun _ => none)
theorem RR_of {X : pv_X} {n d k pc : Nat} {lo : pv_L} {st : pv_S} {w : pv_W} {r : Option Value × pv_W} (h : pv_run X n d k pc lo st w = some r) : RR X d k pc lo st w = some r := by
  have hex : ∃ n r, pv_run X n d k pc lo st w = some r := ⟨n, r, h⟩
  unfold RR
  rw [dif_pos hex]
  have h2 := Classical.choose_spec (Classical.choose_spec hex)
  have h3 := pv_run_mono X (Nat.le_max_left n (Classical.choose hex)) h
  have h4 := pv_run_mono X (Nat.le_max_right n (Classical.choose hex)) h2
  rw [h3] at h4
  exact h4.symm
theorem RR_ex {X : pv_X} {d k pc : Nat} {lo : pv_L} {st : pv_S} {w : pv_W} {r : Option Value × pv_W} (h : RR X d k pc lo st w = some r) : ∃ n, pv_run X n d k pc lo st w = some r := by
  by_cases hex : ∃ n r, pv_run X n d k pc lo st w = some r
  · obtain ⟨n, r2, h2⟩ := hex
    have h3 := RR_of h2
    rw [h] at h3
    cases h3
    exact ⟨n, h2⟩
  · unfold RR at h
    rw [dif_neg hex] at h
    cases h
theorem RR_fix (X : pv_X) : RR X = pv_step X (RR X) (RR X) := by
  funext d k pc lo st w
  cases h : RR X d k pc lo st w with
  | some r =>
    obtain ⟨n, hn⟩ := RR_ex h
    cases n with
    | zero => cases hn
    | succ n =>
      rcases pv_step_ct (X := X) (gc := pv_run X n) (gk := pv_run X n) hn with h1 | ⟨d1, k1, pc1, lo1, st1, w1, h1, h2⟩ | ⟨d1, k1, pc1, lo1, st1, w1, r1, d2, k2, pc2, lo2, st2, w2, h1, h2, h3⟩
      · exact (h1 _ _).symm
      · exact (h2 _ _ (RR_of h1)).symm
      · exact (h3 _ _ (RR_of h1) (RR_of h2)).symm
  | none =>
    cases h2 : pv_step X (RR X) (RR X) d k pc lo st w with
    | none => rfl
    | some r =>
      exfalso
      have key : ∃ n, pv_run X n d k pc lo st w = some r := by
        rcases pv_step_ct h2 with h1 | ⟨d1, k1, pc1, lo1, st1, w1, h1, h3⟩ | ⟨d1, k1, pc1, lo1, st1, w1, r1, d2, k2, pc2, lo2, st2, w2, h1, h3, h4⟩
        · exact ⟨1, h1 _ _⟩
        · obtain ⟨n, hn⟩ := RR_ex h1
          exact ⟨n + 1, h3 _ _ hn⟩
        · obtain ⟨n, hn⟩ := RR_ex h1
          obtain ⟨n2, hn2⟩ := RR_ex h3
          exact ⟨max n n2 + 1, h4 _ _ (pv_run_mono X (Nat.le_max_left n n2) hn) (pv_run_mono X (Nat.le_max_right n n2) hn2)⟩
      obtain ⟨n, hn⟩ := key
      rw [RR_of hn] at h
      cases h
/-- as many steps as asked, to the next cut -/
def pv_blk (X : pv_X) (G : pv_G) (cut : Nat → Nat → Bool) : Nat → pv_G
  | 0 => G
  | n + 1 => pv_step X G (fun d k pc lo st w => bif cut k pc then G d k pc lo st w else pv_blk X G cut n d k pc lo st w)
theorem pv_blk_eq (X : pv_X) (cut : Nat → Nat → Bool) : ∀ n, pv_blk X (RR X) cut n = RR X
  | 0 => rfl
  | n + 1 => by
    unfold pv_blk
    rw [pv_blk_eq X cut n]
    have e : (fun d k pc lo st w => bif cut k pc then RR X d k pc lo st w else RR X d k pc lo st w) = RR X := by
      funext d k pc lo st w
      cases cut k pc <;> rfl
    rw [e]
    exact (RR_fix X).symm
