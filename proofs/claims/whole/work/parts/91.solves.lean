/-! the reference's solves (printed by wip/whole/ops/pp.py) -/
/-- u but the sign of a top being over and the reference's minors -/
def ufr (a b : pv_U) : Prop := (∀ i, ¬ i = 19 → gI b i = gI a i) ∧ (∀ i, gJ b i = gJ a i) ∧ (∀ r, gA b r = gA a r) ∧ ∀ r, ¬ r = 22 → gB b r = gB a r
theorem ufr_trans {a b c : pv_U} (h : ufr a b) (g : ufr b c) : ufr a c := ⟨fun i hi => (g.1 i hi).trans (h.1 i hi), fun i => (g.2.1 i).trans (h.2.1 i), fun r => (g.2.2.1 r).trans (h.2.2.1 r), fun r hr => (g.2.2.2 r hr).trans (h.2.2.2 r hr)⟩
theorem ufr_mfq {a b : pv_U} (h : mfq a b) : ufr a b := ⟨fun i _ => h.1 i, h.2.1, h.2.2.1, h.2.2.2⟩
theorem ufr_I {a : pv_U} {v : Int32} : ufr a (uI a 19 v) := ⟨fun i hi => by simp only [gI_uI, gI_uJ, gI_uA, gI_uB, gJ_uI, gJ_uJ, gJ_uA, gJ_uB, gA_uI, gA_uJ, gA_uA, gA_uB, gB_uI, gB_uJ, gB_uA, gB_uB, hi, reduceIte], fun i => rfl, fun r => rfl, fun r _ => rfl⟩
theorem ufr_refl {a : pv_U} : ufr a a := ⟨fun _ _ => rfl, fun _ => rfl, fun _ => rfl, fun _ _ => rfl⟩
section SOLVES
variable {L : Nat} {xs : Nat → Int32} {u v a b c : pv_U} {d k n N i j r q S C : Nat} {x y z w m day lo w4 : Int32} {M : Nat → Nat → Int} {bl det : Int64} {mt : Nat → Nat → Nat} {pl : Nat → Nat} {R : Nat → Int64} {s t : Int64}
theorem RM_ufr (h : RM v a n bl mt M R) (m : ufr a b) : RM v b n bl mt M R := by
  obtain ⟨s, e2, f⟩ := h
  refine ⟨⟨fun i hi => (m.1 i (by omega)).trans (s.1 i hi), fun i hi => (m.2.1 i).trans (s.2.1 i hi), fun r hr => (m.2.2.1 r).trans (s.2.2.1 r hr), fun r hr => (m.2.2.2 r (by omega)).trans (s.2.2.2 r hr)⟩, (m.2.1 6).trans e2, fun i hi => ?_⟩
  rw [m.2.2.2 20 (by decide), m.2.2.2 21 (by decide), m.2.2.2 19 (by decide)]
  exact f i hi
theorem nar_o : ∀ o : Bool, vp_nar .boolean (cond o 1 0) = cond o 1 0 := by decide
theorem M_row (h : RM v a n bl mt M R) (h2n : 2 ≤ n) (hn6 : n ≤ 6) (hn : gI v 15 = jI n) (hi : i < n) (h19 : gI a 19 = 0) (x9 : Option Value) : ∃ b x8 x9', RR (pv_X0 L xs) (d + 3) 153 42 [some (.ref 55), some (.int m), some (.int day), some (.int lo), some (.int w4), some (.int (jI i)), some (.long 0), none, some (.int 0), x9, none] [] (enc a) = RR (pv_X0 L xs) (d + 3) 153 22 [some (.ref 55), some (.int m), some (.int day), some (.int lo), some (.int w4), some (.int (jI (i + 1))), some (.long (cond (tpO M R n i) 0 (tpV M R n i))), none, x8, x9', none] [] (enc (uA (uB b 23 i (cond (tpO M R n i) 0 (tpV M R n i))) 32 i (cond (tpO M R n i) 1 0))) ∧ ufr a b := by
  have exi : ∀ (b : pv_U) (k : Nat) (x9 : Option Value), k ≤ n → RM v b n bl mt M R → gI b 19 = cond (tlN (tpA M n i) R k).2 1 0 → (k = n ∨ (tlN (tpA M n i) R k).2 = true) → RR (pv_X0 L xs) (d + 3) 153 42 [some (.ref 55), some (.int m), some (.int day), some (.int lo), some (.int w4), some (.int (jI i)), some (.long (cond (tlN (tpA M n i) R k).2 0 (tlN (tpA M n i) R k).1)), none, some (.int (jI k)), x9, none] [] (enc b) = RR (pv_X0 L xs) (d + 3) 153 22 [some (.ref 55), some (.int m), some (.int day), some (.int lo), some (.int w4), some (.int (jI (i + 1))), some (.long (cond (tpO M R n i) 0 (tpV M R n i))), none, some (.int (jI k)), x9, none] [] (enc (uA (uB b 23 i (cond (tpO M R n i) 0 (tpV M R n i))) 32 i (cond (tpO M R n i) 1 0))) := by
    intro b k x9 hk rb e19 hx
    have e15 : gI b 15 = jI n := (rb.1.1 15 (by decide)).trans hn
    show RR (pv_X0 L xs) (d + 2 + 1) 153 42 _ _ _ = _
    rw [B153_42, e15]
    by_cases e : k = n
    · subst e
      rw [if_pos jI_end, pv_ixn (by omega) (by decide), pv_ixn (by omega) (by decide), e19, nar_o, jI_succ]
      rfl
    · have hx := hx.resolve_left e
      have ho : tpO M R n i = true := tlN_over hk hx
      rw [if_neg (jI_run (show k < n by omega) (by omega)), e19, hx, if_neg (show ¬ cond true (1 : Int32) 0 = 0 by decide), pv_ixn (by omega) (by decide), pv_ixn (by omega) (by decide), nar_o, jI_succ, ho]
      rfl
  rcases pv_loopQ (R := fun k (t : Option Value × pv_U) => RR (pv_X0 L xs) (d + 3) 153 42 [some (.ref 55), some (.int m), some (.int day), some (.int lo), some (.int w4), some (.int (jI i)), some (.long (cond (tlN (tpA M n i) R k).2 0 (tlN (tpA M n i) R k).1)), none, some (.int (jI k)), t.1, none] [] (enc t.2)) (P := fun k t => ufr a t.2 ∧ gI t.2 19 = cond (tlN (tpA M n i) R k).2 1 0) (Q := fun r => ∃ b x8 x9', r = RR (pv_X0 L xs) (d + 3) 153 22 [some (.ref 55), some (.int m), some (.int day), some (.int lo), some (.int w4), some (.int (jI (i + 1))), some (.long (cond (tpO M R n i) 0 (tpV M R n i))), none, x8, x9', none] [] (enc (uA (uB b 23 i (cond (tpO M R n i) 0 (tpV M R n i))) 32 i (cond (tpO M R n i) 1 0))) ∧ ufr a b) (N := n) (fun k t hk ht => by
    obtain ⟨x9, b⟩ := t
    obtain ⟨f, e19⟩ := ht
    have f : ufr a b := f
    have e19 : gI b 19 = _ := e19
    have rb := RM_ufr h f
    have e15 : gI b 15 = jI n := (rb.1.1 15 (by decide)).trans hn
    by_cases e : (tlN (tpA M n i) R k).2 = true
    · exact Or.inl ⟨b, some (.int (jI k)), x9, exi b k x9 (by omega) rb e19 (Or.inr e), f⟩
    · have e : (tlN (tpA M n i) R k).2 = false := Bool.eq_false_iff.mpr e
      have e0 : gI b 19 = 0 := by rw [e19, e]; rfl
      refine Or.inr ?_
      obtain ⟨b1, p1, p2⟩ := M_cof (L := L) (xs := xs) (d := d) rb h2n hn6 hn hi hk
      have rb1 := RM_mfq rb p2
      have e1 : gI b1 19 = 0 := (p2.1 19).trans e0
      have st : RR (pv_X0 L xs) (d + 3) 153 42 [some (.ref 55), some (.int m), some (.int day), some (.int lo), some (.int w4), some (.int (jI i)), some (.long (tlN (tpA M n i) R k).1), none, some (.int (jI k)), x9, none] [] (enc b) = RR (pv_X0 L xs) (d + 3) 153 77 [some (.ref 55), some (.int m), some (.int day), some (.int lo), some (.int w4), some (.int (jI i)), some (.long (tlN (tpA M n i) R k).1), none, some (.int (jI k)), x9, none] [.long (cond (ovM (tpA M n i k) (R k)) 0 (tpA M n i k * R k))] (enc (cond (ovM (tpA M n i k) (R k)) (uI b1 19 1) b1)) := by
        show RR (pv_X0 L xs) (d + 2 + 1) 153 42 _ _ _ = _
        rw [B153_42, e15, if_neg (jI_run hk (by omega)), if_pos e0, p1, pv_bd_some]
        simp only [Option.toList_some, List.cons_append, List.nil_append]
        rw [B153_67, pv_ixn (by omega) (by decide), (rb1.2.2 k hk).1]
        have q := M_times (L := L) (xs := xs) (d := d + 2) (a := b1) (s := tpA M n i k) (t := R k)
        unfold tpA at q ⊢
        rw [q, pv_bd_some]
        simp only [Option.toList_some, List.cons_append, List.nil_append]
      have hsx : (tlN (tpA M n i) R (k + 1)) = ((tlN (tpA M n i) R k).1 + tpA M n i k * R k, (tlN (tpA M n i) R k).2 || (ovM (tpA M n i k) (R k) || ovA (tlN (tpA M n i) R k).1 (tpA M n i k * R k))) := rfl
      show ∃ t' : Option Value × pv_U, RR (pv_X0 L xs) (d + 3) 153 42 [some (.ref 55), some (.int m), some (.int day), some (.int lo), some (.int w4), some (.int (jI i)), some (.long (cond (tlN (tpA M n i) R k).2 0 (tlN (tpA M n i) R k).1)), none, some (.int (jI k)), x9, none] [] (enc b) = _ ∧ _
      rw [e, hsx, e]
      refine (show (∃ t' : Option Value × pv_U, RR (pv_X0 L xs) (d + 3) 153 42 [some (.ref 55), some (.int m), some (.int day), some (.int lo), some (.int w4), some (.int (jI i)), some (.long (tlN (tpA M n i) R k).1), none, some (.int (jI k)), x9, none] [] (enc b) = RR (pv_X0 L xs) (d + 3) 153 42 [some (.ref 55), some (.int m), some (.int day), some (.int lo), some (.int w4), some (.int (jI i)), some (.long (cond (ovM (tpA M n i k) (R k) || ovA (tlN (tpA M n i) R k).1 (tpA M n i k * R k)) 0 ((tlN (tpA M n i) R k).1 + tpA M n i k * R k))), none, some (.int (jI (k + 1))), t'.1, none] [] (enc t'.2) ∧ ufr a t'.2 ∧ gI t'.2 19 = cond (ovM (tpA M n i k) (R k) || ovA (tlN (tpA M n i) R k).1 (tpA M n i k * R k)) 1 0) from ?_)
      rw [st]
      cases ovM (tpA M n i k) (R k) with
      | true =>
        refine ⟨(some (.long 0), uI b1 19 1), ?_, ufr_trans f (ufr_trans (ufr_mfq p2) ufr_I), by simp only [gI_uI, gI_uJ, gI_uA, gI_uB, gJ_uI, gJ_uJ, gJ_uA, gJ_uB, gA_uI, gA_uJ, gA_uA, gA_uB, gB_uI, gB_uJ, gB_uA, gB_uB, reduceIte]; rfl⟩
        show RR (pv_X0 L xs) (d + 2 + 1) 153 77 _ _ _ = _
        show RR (pv_X0 L xs) (d + 2 + 1) 153 77 [_, _, _, _, _, _, _, _, _, _, _] [.long 0] (enc (uI b1 19 1)) = _
        rw [B153_77, if_neg (show ¬ gI (uI b1 19 1) 19 = 0 by simp only [gI_uI, gI_uJ, gI_uA, gI_uB, gJ_uI, gJ_uJ, gJ_uA, gJ_uB, gA_uI, gA_uJ, gA_uA, gA_uB, gB_uI, gB_uJ, gB_uA, gB_uB, reduceIte]; decide), B153_98, jI_succ]
        rfl
      | false =>
        have q := M_plus (L := L) (xs := xs) (d := d + 2) (a := b1) (s := (tlN (tpA M n i) R k).1) (t := tpA M n i k * R k)
        have st2 : RR (pv_X0 L xs) (d + 3) 153 77 [some (.ref 55), some (.int m), some (.int day), some (.int lo), some (.int w4), some (.int (jI i)), some (.long (tlN (tpA M n i) R k).1), none, some (.int (jI k)), x9, none] [.long (tpA M n i k * R k)] (enc b1) = RR (pv_X0 L xs) (d + 3) 153 42 [some (.ref 55), some (.int m), some (.int day), some (.int lo), some (.int w4), some (.int (jI i)), some (.long (cond (ovA (tlN (tpA M n i) R k).1 (tpA M n i k * R k)) 0 ((tlN (tpA M n i) R k).1 + tpA M n i k * R k))), none, some (.int (jI (k + 1))), some (.long (tpA M n i k * R k)), none] [] (enc (cond (ovA (tlN (tpA M n i) R k).1 (tpA M n i k * R k)) (uI b1 19 1) b1)) := by
          show RR (pv_X0 L xs) (d + 2 + 1) 153 77 _ _ _ = _
          rw [B153_77, if_pos e1, q, pv_bd_some]
          simp only [Option.toList_some, List.cons_append, List.nil_append]
          rw [B153_98, jI_succ]
        refine ⟨(some (.long (tpA M n i k * R k)), cond (ovA (tlN (tpA M n i) R k).1 (tpA M n i k * R k)) (uI b1 19 1) b1), st2, ?_, ?_⟩
        · show ufr a (cond (ovA (tlN (tpA M n i) R k).1 (tpA M n i k * R k)) (uI b1 19 1) b1)
          cases ovA (tlN (tpA M n i) R k).1 (tpA M n i k * R k) with
          | true => exact ufr_trans f (ufr_trans (ufr_mfq p2) ufr_I)
          | false => exact ufr_trans f (ufr_mfq p2)
        · show gI (cond (ovA (tlN (tpA M n i) R k).1 (tpA M n i k * R k)) (uI b1 19 1) b1) 19 = cond (false || ovA (tlN (tpA M n i) R k).1 (tpA M n i k * R k)) 1 0
          cases ovA (tlN (tpA M n i) R k).1 (tpA M n i k * R k) with
          | true =>
            show gI (uI b1 19 1) 19 = 1
            simp only [gI_uI, gI_uJ, gI_uA, gI_uB, gJ_uI, gJ_uJ, gJ_uA, gJ_uB, gA_uI, gA_uJ, gA_uA, gA_uB, gB_uI, gB_uJ, gB_uA, gB_uB, reduceIte]
          | false => exact e1) (a0 := (x9, a)) ⟨ufr_refl, h19⟩ with q | ⟨⟨x9', b⟩, h1, h2, h3⟩
  · exact q
  · exact ⟨b, some (.int (jI n)), x9', h1.trans (exi b n x9' (by omega) (RM_ufr h h2) h3 (Or.inl rfl)), h2⟩
/-- the reference's tops -/
def topsM (b : pv_U) (M : Nat → Nat → Int) (R : Nat → Int64) (n : Nat) (k : Nat) : Prop := ∀ i, i < k → gB b 23 i = cond (tpO M R n i) 0 (tpV M R n i) ∧ gA b 32 i = cond (tpO M R n i) 1 0
theorem M_solves (hN : gI v 16 = jI N) (h30 : N ≤ 30) (hn : gI v 15 = jI n) (h2n : 2 ≤ n) (hn6 : n ≤ 6) (sm : sameR u v) {wg : Bool} (hg : hgP u n (cW u N day lo wg)) : ∃ b, RR (pv_X0 L xs) (d + 3) 153 0 [some (.ref 55), some (.int m), some (.int day), some (.int lo), some (.int (if wg = true then 1 else 0)), none, none, none, none, none, none] [] (enc v) = some (none, enc b) ∧ RM v b n (blT m) (mT u (cW u N day lo wg)) (MI (decide (m = 1)) n (mT u (cW u N day lo wg)) (pT u (cW u N day lo wg))) (RV (decide (m = 1)) n (rT u m (cW u N day lo wg))) ∧ gJ b 5 = Int64.ofInt (dtm (MI (decide (m = 1)) n (mT u (cW u N day lo wg)) (pT u (cW u N day lo wg))) n) ∧ topsM b (MI (decide (m = 1)) n (mT u (cW u N day lo wg)) (pT u (cW u N day lo wg))) (RV (decide (m = 1)) n (rT u m (cW u N day lo wg))) n n := by
  obtain ⟨c1, p1, p2⟩ := M_lays (L := L) (xs := xs) (d := d) (m := m) (day := day) (lo := lo) hN h30 hn h2n hn6 sm hg
  obtain ⟨c2, q1, q2⟩ := M_det (L := L) (xs := xs) (d := d + 1) p2 hn6 hn
  generalize MI (decide (m = 1)) n (mT u (cW u N day lo wg)) (pT u (cW u N day lo wg)) = M at *
  generalize RV (decide (m = 1)) n (rT u m (cW u N day lo wg)) = R at *
  generalize mT u (cW u N day lo wg) = mt at *
  have rc := RM_mfq p2 q2
  have rc' : RM v (uJ c2 5 (Int64.ofInt (dtm M n))) n (blT m) mt M R := ⟨scr_J rc.1 (by omega), rc.2.1, rc.2.2⟩
  generalize (if wg = true then (1 : Int32) else 0) = w4 at *
  obtain ⟨⟨x6, x8, x9, b⟩, h1, h2, h3, h4⟩ := pv_loop (R := fun k (t : Option Value × Option Value × Option Value × pv_U) => RR (pv_X0 L xs) (d + 3) 153 22 [some (.ref 55), some (.int m), some (.int day), some (.int lo), some (.int w4), some (.int (jI k)), t.1, none, t.2.1, t.2.2.1, none] [] (enc t.2.2.2)) (P := fun k t => RM v t.2.2.2 n (blT m) mt M R ∧ gJ t.2.2.2 5 = Int64.ofInt (dtm M n) ∧ topsM t.2.2.2 M R n k) (N := n) (fun k t hk ht => by
    obtain ⟨x6, x8, x9, b⟩ := t
    obtain ⟨rb, e5, f⟩ := ht
    have rb : RM v b n (blT m) mt M R := rb
    have e5 : gJ b 5 = _ := e5
    have f : topsM b M R n k := f
    have e15 : gI b 15 = jI n := (rb.1.1 15 (by decide)).trans hn
    obtain ⟨b1, y8, y9, g1, g2⟩ := M_row (L := L) (xs := xs) (d := d) (m := m) (day := day) (lo := lo) (w4 := w4) (a := uI b 19 0) (RM_ufr rb ufr_I) h2n hn6 hn hk (by simp only [gI_uI, gI_uJ, gI_uA, gI_uB, gJ_uI, gJ_uJ, gJ_uA, gJ_uB, gA_uI, gA_uJ, gA_uA, gA_uB, gB_uI, gB_uJ, gB_uA, gB_uB, reduceIte]) x9
    have g3 := RM_ufr rb (ufr_trans ufr_I g2)
    refine ⟨(some (.long (cond (tpO M R n k) 0 (tpV M R n k))), y8, y9, uA (uB b1 23 k (cond (tpO M R n k) 0 (tpV M R n k))) 32 k (cond (tpO M R n k) 1 0)), ?_, ⟨scr_A (scr_B g3.1 (by omega)) (by omega), g3.2.1, fun i hi => ?_⟩, ?_, fun i hi => ?_⟩
    · show RR (pv_X0 L xs) (d + 2 + 1) 153 22 _ _ _ = _
      rw [B153_22, e15, if_neg (jI_run hk (by omega)), g1]
    · have eB : ∀ r, ¬ r = 23 → ∀ (V : Int64) (W : Int32) m, gB (uA (uB b1 23 k V) 32 k W) r m = gB b1 r m := fun r hr V W m => by
        show gB (uB b1 23 k V) r m = _
        rw [gB_uB, if_neg hr]
      refine ⟨(eB 20 (by decide) _ _ i).trans (g3.2.2 i hi).1, fun j hj => ⟨(eB 21 (by decide) _ _ _).trans ((g3.2.2 i hi).2 j hj).1, (eB 19 (by decide) _ _ _).trans ((g3.2.2 i hi).2 j hj).2⟩⟩
    · show gJ b1 5 = _
      rw [g2.2.1 5]
      exact e5
    · show gB (uB b1 23 k (cond (tpO M R n k) 0 (tpV M R n k))) 23 i = _ ∧ gA (uA (uB b1 23 k (cond (tpO M R n k) 0 (tpV M R n k))) 32 k (cond (tpO M R n k) 1 0)) 32 i = _
      rw [gB_uB, if_pos rfl, gA_uA, if_pos rfl]
      by_cases e : i = k
      · subst e
        rw [if_pos rfl, if_pos rfl]
        exact ⟨rfl, rfl⟩
      · rw [if_neg e, if_neg e, show gB b1 23 i = gB b 23 i from congrFun (g2.2.2.2 23 (by decide)) i, show gA (uB b1 23 k (cond (tpO M R n k) 0 (tpV M R n k))) 32 i = gA b 32 i from congrFun (g2.2.2.1 32) i]
        exact f i (by omega)) (a0 := (none, none, none, uJ c2 5 (Int64.ofInt (dtm M n)))) ⟨rc', by show gJ (uJ c2 5 _) 5 = _; rw [gJ_uJ, if_pos rfl], fun i hi => absurd hi (by omega)⟩
  have h2 : RM v b n (blT m) mt M R := h2
  refine ⟨b, ?_, h2, h3, h4⟩
  rw [B153_0, p1, pv_bd_some]
  simp only [Option.toList_none, List.nil_append]
  rw [B153_9, q1, pv_bd_some]
  simp only [Option.toList_some, List.cons_append, List.nil_append]
  rw [B153_16]
  refine h1.trans ?_
  show RR (pv_X0 L xs) (d + 2 + 1) 153 22 _ _ _ = _
  rw [B153_22, (h2.1.1 15 (by decide)).trans hn, if_pos jI_end]
end SOLVES
