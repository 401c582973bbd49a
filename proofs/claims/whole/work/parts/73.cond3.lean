/-! a CONDITION, read by the reference; pick, voidAll (printed by wip/whole/ops/pp.py) -/
def swI (w : Int32) : Int32 := if w = 6 then 7 else if w = 7 then 6 else w
section COND3
variable {L : Nat} {xs : Nat → Int32} {u : pv_U} {d k n p r i N : Nat} {x y z c all : Int32} {T : Nat → Int32} {s t : pS} {f cmp : pS → Int32 × pS} {V : Int32 → Nat → Int64}
theorem mt_67 {a b : Nat} (h1 : mtB T 6 a b = true) (h2 : mtB T 7 a b = true) : False := by
  have e1 := (mtB_iff.mp h1).1
  have e2 := (mtB_iff.mp h2).1
  have l1 : (pv_txt 6).length = 4 := rfl
  have l2 : (pv_txt 7).length = 6 := rfl
  omega
theorem wdM_eq {a b : Nat} : wdM T a b = swI (wdC T a b) := by
  unfold wdM wdC
  by_cases h0 : mtB T 0 a b = true
  · rw [if_pos h0, if_pos h0]; rfl
  by_cases h1 : mtB T 1 a b = true
  · rw [if_neg h0, if_pos h1, if_neg h0, if_pos h1]; rfl
  by_cases h2 : mtB T 2 a b = true
  · rw [if_neg h0, if_neg h1, if_pos h2, if_neg h0, if_neg h1, if_pos h2]; rfl
  by_cases h3 : mtB T 3 a b = true
  · rw [if_neg h0, if_neg h1, if_neg h2, if_pos h3, if_neg h0, if_neg h1, if_neg h2, if_pos h3]; rfl
  by_cases h4 : mtB T 4 a b = true
  · rw [if_neg h0, if_neg h1, if_neg h2, if_neg h3, if_pos h4, if_neg h0, if_neg h1, if_neg h2, if_neg h3, if_pos h4]; rfl
  by_cases h5 : mtB T 5 a b = true
  · rw [if_neg h0, if_neg h1, if_neg h2, if_neg h3, if_neg h4, if_pos h5, if_neg h0, if_neg h1, if_neg h2, if_neg h3, if_neg h4, if_pos h5]; rfl
  rw [if_neg h0, if_neg h1, if_neg h2, if_neg h3, if_neg h4, if_neg h5, if_neg h0, if_neg h1, if_neg h2, if_neg h3, if_neg h4, if_neg h5]
  by_cases h6 : mtB T 6 a b = true
  · rw [if_neg (fun h7 => mt_67 h6 h7), if_pos h6, if_pos h6]; rfl
  · by_cases h7 : mtB T 7 a b = true
    · rw [if_pos h7, if_neg h6, if_pos h7]; rfl
    · rw [if_neg h7, if_neg h6, if_neg h6, if_neg h7]
      by_cases h8 : mtB T 8 a b = true
      · rw [if_pos h8]; rfl
      · rw [if_neg h8]; rfl
theorem swI_neg {w : Int32} : swI w = -1 ↔ w = -1 := by
  unfold swI
  by_cases h6 : w = 6
  · rw [if_pos h6, h6]; decide
  · by_cases h7 : w = 7
    · rw [if_neg h6, if_pos h7, h7]; decide
    · rw [if_neg h6, if_neg h7]
theorem M_valueOf (hk : k < 31) (hx : 0 ≤ x.toInt ∧ x.toInt ≤ 8) : RR (pv_X0 L xs) (d + 1) 198 0 [some (.ref 55), some (.int (jI k)), some (.int x)] [] (enc u) = some (some (.long (vM u x k)), enc u) := by
  have ix : ∀ F : Nat → pv_R, pv_ix (jI k) 31 F = F k := fun F => pv_ixn hk (by decide)
  rw [B198_0]
  rcases i32_9 hx.1 hx.2 with e | e | e | e | e | e | e | e | e <;> subst e
  · rw [B198_1_0, B198_48, ix, vM0]
  · rw [B198_1_1, B198_56, ix, vM1]
  · rw [B198_1_2, B198_64, ix, vM2]
  · rw [B198_1_3, B198_71, ix, vM3]
  · rw [B198_1_4, B198_78, ix, vM4]
  · rw [B198_1_5, B198_86, ix, vM5]
  · rw [B198_1_6, B198_94, M_margin hk, pv_bd_some, vM6]
    exact B198_99
  · rw [B198_1_7, B198_100, ix, vM7]
  · rw [B198_1_out (Or.inr (by decide)), B198_108, M_wonBy hk, pv_bd_some, vM8]
    exact B198_113
/-- both sides' values of a WORD -/
theorem V_eq (h : Inv u) (hN : gI u 2 = jI N) (h30 : N ≤ 30) (hk : k < N) (hx : 0 ≤ x.toInt ∧ x.toInt ≤ 8) : vM u (swI x) k = vC u x k := by
  have b9 := h.1.2.2.2.2.2.2.2.2.1
  obtain ⟨g1, g2⟩ := h.2.1
  obtain ⟨r1, r2, r3, r4, r5, r6, r7⟩ := g1 k
  have e : (gI u 2).toInt = N := by rw [hN, jI_toInt (by omega)]
  have hv := (g2 k (by omega) (Or.inl (by omega))).2.2.2.2.2.2.2.2.2
  rcases i32_9 hx.1 hx.2 with e | e | e | e | e | e | e | e | e <;> subst e
  · rw [show swI 0 = 0 by decide, vM0, vC0, r1]
  · rw [show swI 1 = 1 by decide, vM1, vC1, r2]
  · rw [show swI 2 = 2 by decide, vM2, vC2, r3]
  · rw [show swI 3 = 3 by decide, vM3, vC3, r4]
  · rw [show swI 4 = 4 by decide, vM4, vC4, r5]
  · rw [show swI 5 = 5 by decide, vM5, vC5, r6]
  · rw [show swI 6 = 7 by decide, vM7, vC6, ← r7]
    rcases i32_01 hv with e | e <;> rw [e] <;> rfl
  · rw [show swI 7 = 6 by decide, vM6, vC7, r3, r4, b9]
  · rw [show swI 8 = 8 by decide, vM8, vC8, r3, r4]
theorem M_gwL (hN : gI u 16 = jI N) (h30 : N ≤ 30) (hx : 0 ≤ x.toInt ∧ x.toInt ≤ 8) (hy : y = 60 ∨ y = 61 ∨ y = 62) (hf : gI u 22 < 0) {b : Int64} : RR (pv_X0 L xs) (d + 2) 196 122 [some (.ref 55), some (.int x), some (.int y), some (.int z), some (.long b), none, some (.int 0), some (.int 0), none, none, none] [] (enc u) = some (some (.int (gwF (vM u x) y b N)), enc u) := by
  have hf' : ¬ 0 ≤ gI u 22 := Int32.not_le.mpr hf
  obtain ⟨⟨j1, j2⟩, h1⟩ := pv_it (R := fun k (s : Int32) (j : Option Value × Option Value) => RR (pv_X0 L xs) (d + 2) 196 122 [some (.ref 55), some (.int x), some (.int y), some (.int z), some (.long b), none, some (.int s), some (.int (jI k)), j.1, none, j.2] [] (enc u)) (f := fun k s => if cmP y (vM u x k) b then s ||| (1 <<< (jI k &&& 31)) else s) (s := 0) (N := N) (by omega) (fun k s j h1 h2 => ⟨(some (.long (vM u x k)), some (.int (if cmP y (vM u x k) b then 1 else 0))), by
    show RR (pv_X0 L xs) (d + 2) 196 122 _ _ _ = _
    rw [B196_122, hN, if_neg (jI_run h2 (by omega)), if_neg hf', M_valueOf (by omega) hx, pv_bd_some]
    simp only [Option.toList_some, List.cons_append, List.nil_append]
    rw [B196_145]
    simp only [jI_succ, lg_ge, lg_le, lg_eq, Int32.or_zero]
    generalize vM u x k = A
    have o1 : ¬ A < b → ¬ A = b → b < A := fun h h' => by
      rw [Int64.lt_iff_toInt_lt] at h ⊢
      have : A.toInt ≠ b.toInt := fun q => h' (Int64.toInt_inj.mp q)
      omega
    rcases hy with e | e | e <;> subst e
    · have ec : cmP 60 A b ↔ A < b := ⟨fun q => by rcases q with q | q | q; exact q.2; exact absurd q.1 (by decide); exact absurd q.1 (by decide), fun q => Or.inl ⟨rfl, q⟩⟩
      by_cases c1 : A < b
      · rw [if_pos rfl, if_neg (fun r => r c1), if_pos (ec.mpr c1), if_pos (ec.mpr c1)]
      · rw [if_pos rfl, if_pos c1, if_neg (fun r => c1 (ec.mp r)), if_neg (fun r => c1 (ec.mp r))]
    · have ec : cmP 61 A b ↔ A = b := ⟨fun q => by rcases q with q | q | q; exact absurd q.1 (by decide); exact q.2; exact absurd q.1 (by decide), fun q => Or.inr (Or.inl ⟨rfl, q⟩)⟩
      by_cases c1 : A = b
      · rw [if_neg (by decide), if_neg (by decide), if_pos c1, if_pos (ec.mpr c1), if_pos (ec.mpr c1)]
      · rw [if_neg (by decide), if_neg (by decide), if_neg c1, if_neg (fun r => c1 (ec.mp r)), if_neg (fun r => c1 (ec.mp r))]
    · have ec : cmP 62 A b ↔ b < A := ⟨fun q => by rcases q with q | q | q; exact absurd q.1 (by decide); exact absurd q.1 (by decide); exact q.2, fun q => Or.inr (Or.inr ⟨rfl, q⟩)⟩
      by_cases c1 : b < A
      · rw [if_neg (by decide), if_pos rfl, if_neg (fun r => r c1), if_pos (ec.mpr c1), if_pos (ec.mpr c1)]
      · rw [if_neg (by decide), if_pos rfl, if_pos c1, if_neg (fun r => c1 (ec.mp r)), if_neg (fun r => c1 (ec.mp r))]⟩) 0 (none, none)
  refine h1.trans ?_
  show RR (pv_X0 L xs) (d + 2) 196 122 _ _ _ = _
  rw [B196_122, hN, if_pos jI_end]
  rfl
theorem M_gw0 (hf : 0 ≤ gI u 22) {b : Int64} {j1 j2 : Option Value} : RR (pv_X0 L xs) (d + 1) 196 122 [some (.ref 55), some (.int x), some (.int y), some (.int z), some (.long b), none, some (.int 0), some (.int 0), j1, none, j2] [] (enc u) = some (some (.int 0), enc u) := by
  rw [B196_122, if_pos hf, ite_self]
theorem M_cmp (ht : tpe u 33 20 T n) (hN : gI u 16 = jI N) (h30 : N ≤ 30) (hV : ∀ w k, k < N → 0 ≤ w.toInt ∧ w.toInt ≤ 8 → vM u (swI w) k = V w k) (h : wfS n s) (h0 : s.2 = none) : RR (pv_X0 L xs) (d + 5) 196 0 [some (.ref 55), none, none, none, none, none, none, none, none, none, none] [] (enc (tM u s)) = some (some (.int (cm T (fun w sg b => gwF (V w) sg b N) s).1), enc (tM u (cm T (fun w sg b => gwF (V w) sg b N) s).2)) := by
  have hn := ht.1
  have h1 := (wf_wd ht h).1
  have h2 := (wf_cm2 ht h1).1
  have h3 := wf_skS (c := 45) ht (by decide) h2
  have h4 := wf_nmC (k := 4) ht h3
  have e22 : ∀ t, gI (tM u t) 22 = fI t.2 := fun t => by rw [gI_tM, if_pos rfl]
  have e21 : ∀ t, gI (tM u t) 21 = jI t.1 := fun t => by rw [gI_tM, if_neg (by decide), if_pos rfl]
  have e16 : ∀ t, gI (tM u t) 16 = jI N := fun t => by rw [gI_tM, if_neg (by decide), if_neg (by decide)]; exact hN
  have adv0 : ∀ t, uI (tM u t) 21 (jI t.1 + 0) = tM u t := fun t => by
    refine pv_ext (fun j => ?_) (fun _ => rfl) (fun _ _ => rfl) (fun _ _ => rfl)
    rw [gI_uI, gI_tM, Int32.add_zero]
    grind
  have mn : ∀ (d : Nat) (s : pS), wfS n s → RR (pv_X0 L xs) (d + 1) 188 0 [some (.ref 55), some (.int 4), some (.int 0), some (.int 9999), none, none] [] (enc (tM u s)) = some (some (.int (nmC T 4 s).1), enc (tM u (nmC T 4 s).2)) := fun d s hs => by
    have e := M_number (L := L) (xs := xs) (d := d) (x := 0) (y := 9999) (k := 4) ht hs (by decide) (by decide)
    rw [nmR_fst, nmR_all (by decide) (by decide) (by decide)] at e
    exact e
  have ew : (wd T s).1 = wdC T s.1 (leE T 120 s.1) := by unfold wd; rw [if_pos h0]
  have ew2 : (leE T 120 s.1, if wdM T s.1 (leE T 120 s.1) = -1 then some s.1 else none) = (wd T s).2 := by
    unfold wd
    rw [if_pos h0, wdM_eq]
    by_cases q : wdC T s.1 (leE T 120 s.1) = -1
    · rw [if_pos q, if_pos (swI_neg.mpr q)]
    · rw [if_neg q, if_neg (fun r => q (swI_neg.mp r))]
  rw [B196_0, M_word ht h h0, ew2, wdM_eq, ← ew, pv_bd_some]
  simp only [Option.toList_some, List.cons_append, List.nil_append]
  rw [B196_4, e22]
  by_cases q1 : (wd T s).2.2 = none
  case neg =>
    have q2 : cm2 T (wd T s).2 = (wd T s).2 := by
      unfold cm2
      rw [if_neg (fun r => q1 r.1), fl_fl q1]
    have q3 : skS T 45 (wd T s).2 = (wd T s).2 := by
      unfold skS
      rw [sk_failed q1, if_neg (by decide)]
    have q4 : nmC T 4 (wd T s).2 = (0, (wd T s).2) := by
      unfold nmC
      rw [if_neg (fun r => q1 r.1), fl_fl q1]
    rw [if_neg (by rw [fI_lt h1 hn]; exact q1), cmx_eq, q2, q3, q4]
    show _ = some (some (Value.int (if (wd T s).2.2 = none then _ else 0)), enc (tM u (wd T s).2))
    rw [if_neg q1]
  have hw := wd_ok q1
  rw [if_pos (by rw [fI_lt h1 hn]; exact q1), M_here ht h1, pv_bd_some]
  simp only [Option.toList_some, List.cons_append, List.nil_append]
  rw [B196_18, e21]
  -- behind a sign that compares
  have go : ∀ sg : Int32, (T (wd T s).2.1 = sg) → (sg = 60 ∨ sg = 61 ∨ sg = 62) → (pv_bd (RR (pv_X0 L xs) (d + 4) 189 0 [some (.ref 55)] [] (enc (uI (tM u (wd T s).2) 21 (jI (wd T s).2.1 + 1)))) fun v w => RR (pv_X0 L xs) (d + 5) 196 61 [some (.ref 55), some (.int (swI (wd T s).1)), some (.int sg), none, none, none, none, none, none, none, none] (v.toList ++ []) w) = some (some (.int (cm T (fun w sg b => gwF (V w) sg b N) s).1), enc (tM u (cm T (fun w sg b => gwF (V w) sg b N) s).2)) := by
    intro sg hT hsg
    have c2 : cm2 T (wd T s).2 = adv (wd T s).2 := by
      unfold cm2
      rw [if_pos ⟨q1, by rw [hT]; exact hsg⟩]
    have a21 := adv_tM (u := u) (s := (wd T s).2)
    rw [e21] at a21
    rw [cmx_eq]
    rw [c2] at h2 h3 h4 ⊢
    rw [a21, M_here ht h2, pv_bd_some]
    simp only [Option.toList_some, List.cons_append, List.nil_append]
    rw [B196_61, e21, adv0]
    have a212 := adv_tM (u := u) (s := adv (wd T s).2)
    rw [e21] at a212
    rw [a212]
    have qa : (adv (wd T s).2).2 = none := q1
    have hsw : 0 ≤ (swI (wd T s).1).toInt ∧ (swI (wd T s).1).toInt ≤ 8 := by
      unfold swI
      split
      · decide
      · split
        · decide
        · exact hw.2
    have fin : ∀ (z : Int32) (b : Int64) (t : pS), wfS n t → RR (pv_X0 L xs) (d + 5) 196 122 [some (.ref 55), some (.int (swI (wd T s).1)), some (.int sg), some (.int z), some (.long b), none, some (.int 0), some (.int 0), none, none, none] [] (enc (tM u t)) = some (some (.int (if t.2 = none then gwF (V (wd T s).1) (T (wd T s).2.1) b N else 0)), enc (tM u t)) := by
      intro z b t wt
      by_cases q5 : t.2 = none
      · rw [M_gwL (d := d + 3) (e16 t) h30 hsw hsg (by rw [e22, fI_lt wt hn]; exact q5), if_pos q5, hT]
        refine congrArg (fun q : Int32 => some (some (Value.int q), enc (tM u t))) ?_
        refine itF_congr fun k s h1 h2 => ?_
        show (if cmP sg (vM (tM u t) (swI (wd T _).1) k) b then _ else _) = (if cmP sg (V (wd T _).1 k) b then _ else _)
        rw [show vM (tM u t) = vM u from rfl, hV _ k (by omega) hw.2]
      · rw [M_gw0 (d := d + 4) (by rw [e22, fI_neg wt hn]; exact q5), if_neg q5]
    by_cases q3 : T (adv (wd T s).2).1 = 45
    · have k1 : skB T 45 (adv (wd T s).2) = true := by
        unfold skB
        rw [decide_eq_true qa, decide_eq_true q3]
        rfl
      have k2 : skS T 45 (adv (wd T s).2) = adv (adv (wd T s).2) := if_pos k1
      rw [k2] at h3 h4
      rw [if_pos ((hr_eq ht (by decide) (by decide)).mpr q3), mn _ _ h3, pv_bd_some]
      simp only [Option.toList_some, List.cons_append, List.nil_append]
      rw [B196_99, if_neg (by decide), k2, k1, fin _ _ _ h4, if_pos rfl]
    · have k1 : skB T 45 (adv (wd T s).2) = false := by
        unfold skB
        rw [decide_eq_false q3, Bool.and_false]
      have k2 : skS T 45 (adv (wd T s).2) = adv (wd T s).2 := by
        unfold skS
        rw [k1, if_neg (by decide)]
      rw [k2] at h3 h4
      rw [if_neg (fun r => q3 ((hr_eq ht (by decide) (by decide)).mp r)), mn _ _ h3, pv_bd_some]
      simp only [Option.toList_some, List.cons_append, List.nil_append]
      rw [B196_99, if_pos rfl, k2, k1, fin _ _ _ h4, if_neg Bool.false_ne_true]
  by_cases s1 : T (wd T s).2.1 = 60
  · have := (hr_eq ht (a := (wd T s).2.1) (c := 60) (by decide) (by decide)).mpr s1
    rw [this, if_pos rfl]
    exact go 60 s1 (Or.inl rfl)
  by_cases s2 : T (wd T s).2.1 = 61
  · have := (hr_eq ht (a := (wd T s).2.1) (c := 61) (by decide) (by decide)).mpr s2
    rw [this, if_neg (by decide), if_pos rfl]
    exact go 61 s2 (Or.inr (Or.inl rfl))
  by_cases s3 : T (wd T s).2.1 = 62
  · have := (hr_eq ht (a := (wd T s).2.1) (c := 62) (by decide) (by decide)).mpr s3
    rw [this, if_neg (by decide), if_neg (by decide), if_pos rfl]
    exact go 62 s3 (Or.inr (Or.inr rfl))
  have n1 : ¬ hr T n (wd T s).2.1 = 60 := fun r => s1 ((hr_eq ht (by decide) (by decide)).mp r)
  have n2 : ¬ hr T n (wd T s).2.1 = 61 := fun r => s2 ((hr_eq ht (by decide) (by decide)).mp r)
  have n3 : ¬ hr T n (wd T s).2.1 = 62 := fun r => s3 ((hr_eq ht (by decide) (by decide)).mp r)
  have c2 : cm2 T (wd T s).2 = fl (wd T s).2 (wd T s).2.1 := by
    unfold cm2
    rw [if_neg (fun r => r.2.elim s1 (fun r => r.elim s2 s3))]
  have q3 : skS T 45 (fl (wd T s).2 (wd T s).2.1) = fl (wd T s).2 (wd T s).2.1 := by
    unfold skS
    rw [sk_failed fl_some, if_neg (by decide)]
  have q4 : nmC T 4 (fl (wd T s).2 (wd T s).2.1) = (0, fl (wd T s).2 (wd T s).2.1) := by
    unfold nmC
    rw [if_neg (fun r => fl_some r.1), fl_idem]
  rw [if_neg n1, if_neg n2, if_neg n3, M_fails h1 hn, pv_bd_some, cmx_eq, c2, q3, q4]
  show RR (pv_X0 L xs) (d + 5) 196 45 _ _ _ = some (some (Value.int (if (fl (wd T s).2 (wd T s).2.1).2 = none then _ else 0)), enc (tM u (fl (wd T s).2 (wd T s).2.1)))
  rw [if_neg fl_some]
  exact B196_45
end COND3
