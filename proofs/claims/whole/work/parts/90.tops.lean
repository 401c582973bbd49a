/-! the tops of the rows (printed by wip/whole/ops/pp.py) -/
def ovM (a b : Int64) : Bool := decide ((b = -1 ∧ a = -9223372036854775808) ∨ (¬ b = 0 ∧ ¬ a * b / b = a))
def ovA (s p : Int64) : Bool := decide (((s ^^^ (s + p)) &&& (p ^^^ (s + p))) < 0)
/-- the tally of products, and whether it is over -/
def tlN (A B : Nat → Int64) : Nat → Int64 × Bool
  | 0 => (0, false)
  | j + 1 => ((tlN A B j).1 + A j * B j, (tlN A B j).2 || (ovM (A j) (B j) || ovA (tlN A B j).1 (A j * B j)))
theorem tlN_over {A B : Nat → Int64} : ∀ {j m}, j ≤ m → (tlN A B j).2 = true → (tlN A B m).2 = true := by
  intro j m hm h
  induction m with
  | zero => exact (show j = 0 by omega) ▸ h
  | succ m ih =>
    by_cases e : j = m + 1
    · exact e ▸ h
    · show ((tlN A B m).2 || _) = true
      rw [ih (by omega)]
      rfl
/-- u but the tally and the class's minors -/
def tfr (a b : pv_U) : Prop := (∀ i, ¬ i = 9 → gI b i = gI a i) ∧ (∀ i, ¬ i = 2 → gJ b i = gJ a i) ∧ (∀ r, gA b r = gA a r) ∧ ∀ r, ¬ r = 12 → gB b r = gB a r
theorem tfr_trans {a b c : pv_U} (h : tfr a b) (g : tfr b c) : tfr a c := ⟨fun i hi => (g.1 i hi).trans (h.1 i hi), fun i hi => (g.2.1 i hi).trans (h.2.1 i hi), fun r => (g.2.2.1 r).trans (h.2.2.1 r), fun r hr => (g.2.2.2 r hr).trans (h.2.2.2 r hr)⟩
theorem tfr_mfr {a b : pv_U} (h : mfr a b) : tfr a b := ⟨fun i _ => h.1 i, fun i _ => h.2.1 i, h.2.2.1, h.2.2.2⟩
theorem tfr_refl {a : pv_U} : tfr a a := ⟨fun _ _ => rfl, fun _ _ => rfl, fun _ => rfl, fun _ _ => rfl⟩
section TOPS
variable {L : Nat} {xs : Nat → Int32} {u v a b c : pv_U} {d k n N i j r q S C : Nat} {x y z w : Int32} {M : Nat → Nat → Int} {bl det : Int64} {mt : Nat → Nat → Nat} {pl : Nat → Nat} {R : Nat → Int64} {s t : Int64}
theorem RC_tfr (h : RC u a n bl mt pl M R) (hn6 : n ≤ 6) (m : tfr a b) : RC u b n bl mt pl M R := by
  obtain ⟨s, e1, e2, f⟩ := h
  refine ⟨⟨fun i hi => (m.1 i (by omega)).trans (s.1 i hi), fun i hi => (m.2.1 i (by omega)).trans (s.2.1 i hi), fun r hr => (m.2.2.1 r).trans (s.2.2.1 r hr), fun r hr => (m.2.2.2 r (by omega)).trans (s.2.2.2 r hr)⟩, (m.1 10 (by decide)).trans e1, (m.2.1 3 (by decide)).trans e2, fun i hi => ?_⟩
  obtain ⟨f1, f2, f3⟩ := f i hi
  refine ⟨by rw [m.2.2.1]; exact f1, by rw [m.2.2.2 10 (by decide)]; exact f2, fun j hj => ?_⟩
  rw [m.2.2.1, m.2.2.2 (4 + i) (by omega)]
  exact f3 j hj
theorem C_addProduct : ∃ b, RR (pv_X0 L xs) d 45 0 [some (.ref 21), some (.long s), none, some (.long t), none, none, none, none, none] [] (enc a) = some (none, enc b) ∧ gJ b 2 = gJ a 2 + s * t ∧ gI b 9 = cond (ovM s t || ovA (gJ a 2) (s * t)) 1 (gI a 9) ∧ tfr a b := by
  have ho : (ovM s t || ovA (gJ a 2) (s * t)) = true ↔ ((t = -1 ∧ s = -9223372036854775808) ∨ (¬ t = 0 ∧ ¬ s * t / t = s)) ∨ ((gJ a 2 ^^^ (gJ a 2 + s * t)) &&& (s * t ^^^ (gJ a 2 + s * t))) < 0 := by
    unfold ovM ovA
    rw [Bool.or_eq_true, decide_eq_true_iff, decide_eq_true_iff]
  rw [B45_0]
  generalize (ovM s t || ovA (gJ a 2) (s * t)) = o at ho
  simp only [lg_eq, lg_ge, ite_not]
  cases o with
  | true =>
    have hp := ho.mp rfl
    repeat' split
    all_goals first
      | exact absurd ‹t = 0› ‹¬ t = 0›
      | (exfalso; rcases hp with (⟨h1, h2⟩ | ⟨h1, h2⟩) | h1 <;> contradiction)
      | exact ⟨_, rfl, by simp only [gI_uI, gI_uJ, gI_uA, gI_uB, gJ_uI, gJ_uJ, gJ_uA, gJ_uB, gA_uI, gA_uJ, gA_uA, gA_uB, gB_uI, gB_uJ, gB_uA, gB_uB, reduceIte], by simp only [gI_uI, gI_uJ, gI_uA, gI_uB, gJ_uI, gJ_uJ, gJ_uA, gJ_uB, gA_uI, gA_uJ, gA_uA, gA_uB, gB_uI, gB_uJ, gB_uA, gB_uB, reduceIte, cond_true], fun i hi => by simp only [gI_uI, gI_uJ, gI_uA, gI_uB, gJ_uI, gJ_uJ, gJ_uA, gJ_uB, gA_uI, gA_uJ, gA_uA, gA_uB, gB_uI, gB_uJ, gB_uA, gB_uB, hi, reduceIte], fun i hi => by simp only [gI_uI, gI_uJ, gI_uA, gI_uB, gJ_uI, gJ_uJ, gJ_uA, gJ_uB, gA_uI, gA_uJ, gA_uA, gA_uB, gB_uI, gB_uJ, gB_uA, gB_uB, hi, reduceIte], fun r => rfl, fun r _ => rfl⟩
  | false =>
    have hp : ¬ _ := fun q => Bool.false_ne_true (ho.mpr q)
    repeat' split
    all_goals first
      | exact absurd ‹t = 0› ‹¬ t = 0›
      | (exfalso; exact hp (Or.inr ‹_›))
      | (exfalso; exact hp (Or.inl (Or.inl ⟨‹_›, ‹_›⟩)))
      | (exfalso; exact hp (Or.inl (Or.inr ⟨‹_›, ‹_›⟩)))
      | exact ⟨_, rfl, by simp only [gI_uI, gI_uJ, gI_uA, gI_uB, gJ_uI, gJ_uJ, gJ_uA, gJ_uB, gA_uI, gA_uJ, gA_uA, gA_uB, gB_uI, gB_uJ, gB_uA, gB_uB, reduceIte], by simp only [gI_uI, gI_uJ, gI_uA, gI_uB, gJ_uI, gJ_uJ, gJ_uA, gJ_uB, gA_uI, gA_uJ, gA_uA, gA_uB, gB_uI, gB_uJ, gB_uA, gB_uB, reduceIte, cond_false], fun i hi => by simp only [gI_uI, gI_uJ, gI_uA, gI_uB, gJ_uI, gJ_uJ, gJ_uA, gJ_uB, gA_uI, gA_uJ, gA_uA, gA_uB, gB_uI, gB_uJ, gB_uA, gB_uB, hi, reduceIte], fun i hi => by simp only [gI_uI, gI_uJ, gI_uA, gI_uB, gJ_uI, gJ_uJ, gJ_uA, gJ_uB, gA_uI, gA_uJ, gA_uA, gA_uB, gB_uI, gB_uJ, gB_uA, gB_uB, hi, reduceIte], fun r => rfl, fun r _ => rfl⟩
theorem M_times : RR (pv_X0 L xs) d 154 0 [some (.ref 55), some (.long s), none, some (.long t), none, none, none, none] [] (enc a) = some (some (.long (cond (ovM s t) 0 (s * t))), enc (cond (ovM s t) (uI a 19 1) a)) := by
  have ho : ovM s t = true ↔ (t = -1 ∧ s = -9223372036854775808) ∨ (¬ t = 0 ∧ ¬ s * t / t = s) := by
    unfold ovM
    rw [decide_eq_true_iff]
  have z1 : s = 0 → s * t = 0 ∧ ¬ ovM s t = true := fun e => by
    subst e
    rw [ho, Int64.zero_mul, Int64.zero_div]
    exact ⟨rfl, fun q => q.elim (fun q => absurd q.2 (by decide)) (fun q => q.2 rfl)⟩
  have z2 : t = 0 → s * t = 0 ∧ ¬ ovM s t = true := fun e => by
    subst e
    rw [ho, Int64.mul_zero]
    exact ⟨rfl, fun q => q.elim (fun q => absurd q.1 (by decide)) (fun q => q.1 rfl)⟩
  have z3 : s = -1 → t = -9223372036854775808 → ovM s t = true := fun e f => by
    subst e f
    decide
  rw [B154_0]
  generalize ovM s t = o at ho z1 z2 z3
  simp only [lg_eq]
  cases o with
  | true =>
    have hp := ho.mp rfl
    repeat' split
    all_goals first
      | exact rfl
      | exact absurd rfl (z1 ‹_›).2
      | exact absurd rfl (z2 ‹_›).2
      | (exfalso; rcases hp with ⟨h1, h2⟩ | ⟨h1, h2⟩ <;> contradiction)
  | false =>
    have hp : ¬ _ := fun q => Bool.false_ne_true (ho.mpr q)
    repeat' split
    all_goals first
      | exact rfl
      | (rw [(z1 ‹_›).1]; rfl)
      | (rw [(z2 ‹_›).1]; rfl)
      | exact absurd ‹t = 0› ‹¬ t = 0›
      | exact absurd (z3 ‹_› ‹_›) Bool.false_ne_true
      | (exfalso; exact hp (Or.inl ⟨‹_›, ‹_›⟩))
      | (exfalso; exact hp (Or.inr ⟨‹_›, ‹_›⟩))
theorem M_plus : RR (pv_X0 L xs) d 155 0 [some (.ref 55), some (.long s), none, some (.long t), none, none, none] [] (enc a) = some (some (.long (cond (ovA s t) 0 (s + t))), enc (cond (ovA s t) (uI a 19 1) a)) := by
  rw [B155_0]
  unfold ovA
  by_cases q : ((s ^^^ (s + t)) &&& (t ^^^ (s + t))) < 0
  · rw [if_neg (fun p => lg_ge.mp p q), decide_eq_true q]
    rfl
  · rw [if_pos (lg_ge.mpr q), decide_eq_false q]
    rfl
def tpA (M : Nat → Nat → Int) (n i : Nat) (j : Nat) : Int64 := Int64.ofInt (cofV M n i j)
/-- the top of a row, and whether it is over -/
def tpV (M : Nat → Nat → Int) (R : Nat → Int64) (n i : Nat) : Int64 := (tlN (tpA M n i) R n).1
def tpO (M : Nat → Nat → Int) (R : Nat → Int64) (n i : Nat) : Bool := (tlN (tpA M n i) R n).2
theorem C_findTop (h : RC u a n bl mt pl M R) (h2n : 2 ≤ n) (hn6 : n ≤ 6) (hi : i < n) : ∃ b, RR (pv_X0 L xs) (d + 3) 43 0 [some (.ref 22), some (.int (jI i)), none] [] (enc a) = some (some (.int (cond (tpO M R n i) 0 1)), enc b) ∧ RC u b n bl mt pl M R ∧ gB b 11 i = tpV M R n i ∧ (∀ r, gA b r = gA a r) ∧ ∀ q, ¬ q = i → gB b 11 q = gB a 11 q := by
  obtain ⟨b, h1, h2, h3, h4⟩ := pv_loop (R := fun k b => RR (pv_X0 L xs) (d + 3) 43 9 [some (.ref 22), some (.int (jI i)), some (.int (jI k))] [] (enc b)) (P := fun k b => tfr a b ∧ gJ b 2 = (tlN (tpA M n i) R k).1 ∧ gI b 9 = cond (tlN (tpA M n i) R k).2 1 0) (N := n) (fun k b hk hb => by
    obtain ⟨f, e1, e2⟩ := hb
    have rb := RC_tfr h hn6 f
    obtain ⟨b1, p1, p2⟩ := C_cof (L := L) (xs := xs) (d := d) rb h2n hn6 hi hk
    have rb1 := RC_mfr rb hn6 p2
    obtain ⟨b2, q1, q2, q3, q4⟩ := C_addProduct (L := L) (xs := xs) (d := d + 2) (a := b1) (s := tpA M n i k) (t := R k)
    refine ⟨b2, ?_, tfr_trans f (tfr_trans (tfr_mfr p2) q4), ?_, ?_⟩
    · show RR (pv_X0 L xs) (d + 2 + 1) 43 9 _ _ _ = _
      rw [B43_9, rb.2.1, if_neg (jI_run hk (by omega)), p1, pv_bd_some]
      simp only [Option.toList_some, List.cons_append, List.nil_append]
      rw [B43_27, pv_ixn (by omega) (by decide), (rb1.2.2.2 k hk).2.1]
      unfold tpA at q1
      rw [q1, pv_bd_some]
      simp only [Option.toList_none, List.nil_append]
      rw [B43_36, jI_succ]
    · rw [q2, p2.2.1 2, e1]
      rfl
    · rw [q3, p2.2.1 2, p2.1 9, e1, e2]
      show cond (ovM (tpA M n i k) (R k) || ovA (tlN (tpA M n i) R k).1 (tpA M n i k * R k)) 1 (cond (tlN (tpA M n i) R k).2 1 0) = cond ((tlN (tpA M n i) R k).2 || (ovM (tpA M n i k) (R k) || ovA (tlN (tpA M n i) R k).1 (tpA M n i k * R k))) 1 0
      cases (tlN (tpA M n i) R k).2 <;> cases (ovM (tpA M n i k) (R k) || ovA (tlN (tpA M n i) R k).1 (tpA M n i k * R k)) <;> rfl) (a0 := uI (uJ a 2 0) 9 0) ⟨⟨fun i hi => by simp only [gI_uI, gI_uJ, gI_uA, gI_uB, gJ_uI, gJ_uJ, gJ_uA, gJ_uB, gA_uI, gA_uJ, gA_uA, gA_uB, gB_uI, gB_uJ, gB_uA, gB_uB, hi, reduceIte], fun i hi => by simp only [gI_uI, gI_uJ, gI_uA, gI_uB, gJ_uI, gJ_uJ, gJ_uA, gJ_uB, gA_uI, gA_uJ, gA_uA, gA_uB, gB_uI, gB_uJ, gB_uA, gB_uB, hi, reduceIte], fun r => rfl, fun r _ => rfl⟩, by simp only [gI_uI, gI_uJ, gI_uA, gI_uB, gJ_uI, gJ_uJ, gJ_uA, gJ_uB, gA_uI, gA_uJ, gA_uA, gA_uB, gB_uI, gB_uJ, gB_uA, gB_uB, reduceIte]; rfl, by simp only [gI_uI, gI_uJ, gI_uA, gI_uB, gJ_uI, gJ_uJ, gJ_uA, gJ_uB, gA_uI, gA_uJ, gA_uA, gA_uB, gB_uI, gB_uJ, gB_uA, gB_uB, reduceIte]; rfl⟩
  have rb := RC_tfr h hn6 h2
  refine ⟨uB b 11 i (gJ b 2), ?_, ⟨scr_B rb.1 (by omega), rb.2.1, rb.2.2.1, fun i hi => ?_⟩, ?_, h2.2.2.1, fun q hq => ?_⟩
  · rw [B43_0, B44_0, pv_bd_some]
    simp only [Option.toList_none, List.nil_append]
    rw [B43_7]
    refine h1.trans ?_
    show RR (pv_X0 L xs) (d + 2 + 1) 43 9 _ _ _ = _
    rw [B43_9, rb.2.1, if_pos jI_end, pv_ixn (by omega) (by decide), h4]
    unfold tpO
    cases (tlN (tpA M n i) R n).2 <;> rfl
  · obtain ⟨f1, f2, f3⟩ := rb.2.2.2 i hi
    refine ⟨f1, f2, fun j hj => ⟨(f3 j hj).1, ?_⟩⟩
    rw [gB_uB, if_neg (by omega)]
    exact (f3 j hj).2
  · rw [gB_uB, if_pos rfl, if_pos rfl, h3]
    rfl
  · rw [gB_uB, if_pos rfl, if_neg hq, h2.2.2.2 11 (by decide)]
/-- what solve answers -/
def slA (M : Nat → Nat → Int) (R : Nat → Int64) (n : Nat) : Int32 := if Int64.ofInt (dtm M n) = 0 then -3 else cond (anyN (tpO M R n) n) (-6) 0
theorem C_solve (h : RC u a n bl mt pl M R) (h2n : 2 ≤ n) (hn6 : n ≤ 6) : ∃ b, RR (pv_X0 L xs) (d + 4) 49 0 [some (.ref 22), none, none] [] (enc a) = some (some (.int (slA M R n)), enc b) ∧ RC u b n bl mt pl M R ∧ (∀ r, gA b r = gA a r) ∧ (¬ Int64.ofInt (dtm M n) = 0 → ∀ i, i < n → gB b 11 i = tpV M R n i) := by
  obtain ⟨a1, p1, p2⟩ := C_det (L := L) (xs := xs) (d := d + 1) h hn6
  by_cases q : Int64.ofInt (dtm M n) = 0
  · refine ⟨a1, ?_, RC_mfr h hn6 p2, p2.2.2.1, fun e => absurd q e⟩
    rw [B49_0, p1, pv_bd_some]
    simp only [Option.toList_some, List.cons_append, List.nil_append]
    unfold slA
    rw [B49_4, if_pos (lg_eq.mpr q), if_pos q]
  · have rb := RC_mfr h hn6 p2
    obtain ⟨b, h1, h2, h3, h4⟩ := pv_loop (R := fun k b => RR (pv_X0 L xs) (d + 4) 49 16 [some (.ref 22), some (.int (cond (anyN (tpO M R n) k) (-6) 0)), some (.int (jI k))] [] (enc b)) (P := fun k b => RC u b n bl mt pl M R ∧ (∀ r, gA b r = gA a r) ∧ ∀ q, q < k → gB b 11 q = tpV M R n q) (N := n) (fun k b hk hb => by
      obtain ⟨f, e1, e2⟩ := hb
      obtain ⟨b1, q1, q2, q3, q4, q5⟩ := C_findTop (L := L) (xs := xs) (d := d) f h2n hn6 hk
      refine ⟨b1, ?_, q2, fun r => (q4 r).trans (e1 r), fun q hq => ?_⟩
      · show RR (pv_X0 L xs) (d + 3 + 1) 49 16 _ _ _ = _
        rw [B49_16, f.2.1, if_neg (jI_run hk (by omega)), q1, pv_bd_some]
        simp only [Option.toList_some, List.cons_append, List.nil_append]
        rw [B49_29, jI_succ]
        show _ = RR (pv_X0 L xs) (d + 4) 49 16 [some (.ref 22), some (.int (cond (anyN (tpO M R n) k || tpO M R n k) (-6) 0)), some (.int (jI (k + 1)))] [] (enc b1)
        cases tpO M R n k with
        | true =>
          rw [if_pos (show cond true (0 : Int32) 1 = 0 from rfl), Bool.or_true]
          rfl
        | false => rw [if_neg (show ¬ cond false (0 : Int32) 1 = 0 by decide), Bool.or_false]
      · by_cases e : q = k
        · rw [e]
          exact q3
        · rw [q5 q e]
          exact e2 q (by omega)) (a0 := a1) ⟨rb, p2.2.2.1, fun q hq => absurd hq (by omega)⟩
    refine ⟨b, ?_, h2, h3, fun _ => h4⟩
    rw [B49_0, p1, pv_bd_some]
    simp only [Option.toList_some, List.cons_append, List.nil_append]
    rw [B49_4, if_neg (fun e => q (lg_eq.mp e))]
    refine h1.trans ?_
    show RR (pv_X0 L xs) (d + 3 + 1) 49 16 _ _ _ = _
    unfold slA
    rw [B49_16, h2.2.1, if_pos jI_end, if_neg q]
end TOPS
