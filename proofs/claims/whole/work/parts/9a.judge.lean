/-! judge (printed by wip/whole/ops/pp.py) -/
/-- what a row says of the numbers -/
def jRow (bl : Int64) (M : Nat → Nat → Int) (R : Nat → Int64) (X : Nat → Int64) (X0 : Int64) (n i : Nat) : Option Int32 := if ((tlN (fun j => Int64.ofInt (M i j)) X n).2 || (ovM bl (tlN (fun j => Int64.ofInt (M i j)) X n).1 || ovM (R i) X0)) = true then some (-6) else if bl * (tlN (fun j => Int64.ofInt (M i j)) X n).1 = R i * X0 then none else some (jI i)
def jAll (bl : Int64) (M : Nat → Nat → Int) (R : Nat → Int64) (X : Nat → Int64) (X0 : Int64) (n : Nat) : Nat → Option Int32
  | 0 => none
  | k + 1 => if jAll bl M R X X0 n k = none then jRow bl M R X X0 n k else jAll bl M R X X0 n k
section JUDGE
variable {L : Nat} {xs : Nat → Int32} {u v a b c : pv_U} {d k n N F i j r q S C p l B : Nat} {x y z w m day lo w4 : Int32} {M : Nat → Nat → Int} {bl X0 s t : Int64} {mt : Nat → Nat → Nat} {pl : Nat → Nat} {R X : Nat → Int64}
theorem jAll_mono {e : Int32} (h : jAll bl M R X X0 n k = some e) : ∀ m, k ≤ m → jAll bl M R X X0 n m = some e := by
  intro m hm
  induction m with
  | zero => exact (show k = 0 by omega) ▸ h
  | succ m ih =>
    by_cases e : k = m + 1
    · exact e ▸ h
    · show (if jAll bl M R X X0 n m = none then _ else jAll bl M R X X0 n m) = _
      rw [ih (by omega), if_neg (fun q => nomatch q)]
theorem ovA_s0 : ovA s 0 = false := by
  unfold ovA
  rw [Int64.add_zero, Int64.xor_self, Int64.zero_and]
  rfl
theorem ovA_0s : ovA 0 s = false := by
  unfold ovA
  rw [Int64.zero_add, Int64.xor_self, Int64.and_zero]
  rfl
theorem C_addP0 (h2 : gJ a 2 = 0) (h9 : gI a 9 = 0) : ∃ b, RR (pv_X0 L xs) d 45 0 [some (.ref 21), some (.long s), none, some (.long t), none, none, none, none, none] [] (enc a) = some (none, enc b) ∧ gJ b 2 = s * t ∧ gI b 9 = cond (ovM s t) 1 0 ∧ tfr a b := by
  obtain ⟨b, p1, p2, p3, p4⟩ := C_addProduct (L := L) (xs := xs) (d := d) (a := a) (s := s) (t := t)
  refine ⟨b, p1, ?_, ?_, p4⟩
  · rw [p2, h2, Int64.zero_add]
  · rw [p3, h2, ovA_0s, Bool.or_false, h9]
theorem tfr_0 : tfr a (uI (uJ a 2 0) 9 0) := ⟨fun i hi => by simp only [gI_uI, gI_uJ, gI_uA, gI_uB, gJ_uI, gJ_uJ, gJ_uA, gJ_uB, gA_uI, gA_uJ, gA_uA, gA_uB, gB_uI, gB_uJ, gB_uA, gB_uB, hi, reduceIte], fun i hi => by simp only [gI_uI, gI_uJ, gI_uA, gI_uB, gJ_uI, gJ_uJ, gJ_uA, gJ_uB, gA_uI, gA_uJ, gA_uA, gA_uB, gB_uI, gB_uJ, gB_uA, gB_uB, hi, reduceIte], fun r => rfl, fun r _ => rfl⟩
theorem C_jrow (hr : RC u a n bl mt pl M R) (hn6 : n ≤ 6) (hl : l < 4) (hi : i < n) (hB : B + n < 20) (hX : ∀ j, j < n → gB a (13 + l) (B + 1 + j) = X j) (hX0 : gB a (13 + l) B = X0) (x4 x5 x7 : Option Value) : ∃ b x4' x5' x7', RR (pv_X0 L xs) (d + 1) 120 2 [some (.ref 22), some (.ref (50 + l)), some (.int (jI B)), some (.int (jI i)), x4, x5, none, x7, none] [] (enc a) = (match jRow bl M R X X0 n i with | some e => some (some (.int e), enc b) | none => RR (pv_X0 L xs) (d + 1) 120 2 [some (.ref 22), some (.ref (50 + l)), some (.int (jI B)), some (.int (jI (i + 1))), x4', x5', none, x7', none] [] (enc b)) ∧ tfr a b := by
  obtain ⟨b1, h1, h2, h3, h4⟩ := pv_loop (R := fun k b => RR (pv_X0 L xs) (d + 1) 120 20 [some (.ref 22), some (.ref (50 + l)), some (.int (jI B)), some (.int (jI i)), some (.int (jI k)), x5, none, x7, none] [] (enc b)) (P := fun k b => tfr a b ∧ gJ b 2 = (tlN (fun j => Int64.ofInt (M i j)) X k).1 ∧ gI b 9 = cond (tlN (fun j => Int64.ofInt (M i j)) X k).2 1 0) (N := n) (fun k b hk hb => by
    obtain ⟨f, e1, e2⟩ := hb
    have rb := RC_tfr hr hn6 f
    obtain ⟨b2, q1, q2, q3, q4⟩ := C_addProduct (L := L) (xs := xs) (d := d) (a := b) (s := Int64.ofInt (M i k)) (t := X k)
    refine ⟨b2, ?_, tfr_trans f q4, ?_, ?_⟩
    · show RR (pv_X0 L xs) (d + 1) 120 20 _ _ _ = _
      have em : jI B + 1 + jI k = jI (B + 1 + k) := by rw [jI_succ, jI_add]
      have e38 : RR (pv_X0 L xs) (d + 1) 120 38 [some (.ref 22), some (.ref (50 + l)), some (.int (jI B)), some (.int (jI i)), some (.int (jI k)), x5, none, x7, none] [.int (jI i), .ref 23, .ref 21] (enc b) = _ := B120_38 (r23 := i) (r49 := l) (by omega) hl
      rw [B120_20 hl, rb.2.1, if_neg (jI_run hk (by omega)), e38, em, pv_ixn (by omega) (by decide), pv_ixn (by omega) (by decide), ((rb.2.2.2 i hi).2.2 k hk).2, f.2.2.2 (13 + l) (by omega), hX k hk, q1, pv_bd_some]
      simp only [Option.toList_none, List.nil_append]
      rw [B120_53 hl, jI_succ]
    · rw [q2, e1]
      rfl
    · rw [q3, e1, e2]
      show cond (ovM (Int64.ofInt (M i k)) (X k) || ovA (tlN (fun j => Int64.ofInt (M i j)) X k).1 (Int64.ofInt (M i k) * X k)) 1 (cond (tlN (fun j => Int64.ofInt (M i j)) X k).2 1 0) = cond ((tlN (fun j => Int64.ofInt (M i j)) X k).2 || (ovM (Int64.ofInt (M i k)) (X k) || ovA (tlN (fun j => Int64.ofInt (M i j)) X k).1 (Int64.ofInt (M i k) * X k))) 1 0
      cases (tlN (fun j => Int64.ofInt (M i j)) X k).2 <;> cases (ovM (Int64.ofInt (M i k)) (X k) || ovA (tlN (fun j => Int64.ofInt (M i j)) X k).1 (Int64.ofInt (M i k) * X k)) <;> rfl) (a0 := uI (uJ a 2 0) 9 0) ⟨tfr_0, by simp only [gI_uI, gI_uJ, gI_uA, gI_uB, gJ_uI, gJ_uJ, gJ_uA, gJ_uB, gA_uI, gA_uJ, gA_uA, gA_uB, gB_uI, gB_uJ, gB_uA, gB_uB, reduceIte]; rfl, by simp only [gI_uI, gI_uJ, gI_uA, gI_uB, gJ_uI, gJ_uJ, gJ_uA, gJ_uB, gA_uI, gA_uJ, gA_uA, gA_uB, gB_uI, gB_uJ, gB_uA, gB_uB, reduceIte]; rfl⟩
  have r1 := RC_tfr hr hn6 h2
  obtain ⟨b2, p1, p2, p3, p4⟩ := C_addP0 (L := L) (xs := xs) (d := d) (a := uI (uJ b1 2 0) 9 0) (s := bl) (t := (tlN (fun j => Int64.ofInt (M i j)) X n).1) (by simp only [gI_uI, gI_uJ, gI_uA, gI_uB, gJ_uI, gJ_uJ, gJ_uA, gJ_uB, gA_uI, gA_uJ, gA_uA, gA_uB, gB_uI, gB_uJ, gB_uA, gB_uB, reduceIte]) (by simp only [gI_uI, gI_uJ, gI_uA, gI_uB, gJ_uI, gJ_uJ, gJ_uA, gJ_uB, gA_uI, gA_uJ, gA_uA, gA_uB, gB_uI, gB_uJ, gB_uA, gB_uB, reduceIte])
  obtain ⟨b3, g1, g2, g3, g4⟩ := C_addP0 (L := L) (xs := xs) (d := d) (a := uI (uJ b2 2 0) 9 0) (s := R i) (t := X0) (by simp only [gI_uI, gI_uJ, gI_uA, gI_uB, gJ_uI, gJ_uJ, gJ_uA, gJ_uB, gA_uI, gA_uJ, gA_uA, gA_uB, gB_uI, gB_uJ, gB_uA, gB_uB, reduceIte]) (by simp only [gI_uI, gI_uJ, gI_uA, gI_uB, gJ_uI, gJ_uJ, gJ_uA, gJ_uB, gA_uI, gA_uJ, gA_uA, gA_uB, gB_uI, gB_uJ, gB_uA, gB_uB, reduceIte])
  have f2 := tfr_trans h2 (tfr_trans tfr_0 p4)
  have f3 := tfr_trans f2 (tfr_trans tfr_0 g4)
  have r2 := RC_tfr hr hn6 (tfr_trans f2 (tfr_0 (a := b2)))
  have e3 : gJ (uI (uJ b1 2 0) 9 0) 3 = bl := (RC_tfr hr hn6 (tfr_trans h2 (tfr_0 (a := b1)))).2.2.1
  have e97 : RR (pv_X0 L xs) (d + 1) 120 97 [some (.ref 22), some (.ref (50 + l)), some (.int (jI B)), some (.int (jI i)), some (.int (cond (tlN (fun j => Int64.ofInt (M i j)) X n).2 1 0)), some (.long (tlN (fun j => Int64.ofInt (M i j)) X n).1), none, x7, none] [] (enc b2) = RR (pv_X0 L xs) (d + 1) 120 135 [some (.ref 22), some (.ref (50 + l)), some (.int (jI B)), some (.int (jI i)), some (.int (cond ((tlN (fun j => Int64.ofInt (M i j)) X n).2 || ovM bl (tlN (fun j => Int64.ofInt (M i j)) X n).1) 1 0)), some (.long (tlN (fun j => Int64.ofInt (M i j)) X n).1), none, some (.long (bl * (tlN (fun j => Int64.ofInt (M i j)) X n).1)), none] [] (enc (uI (uJ b2 2 0) 9 0)) := by
    rw [B120_97 hl, B44_0]
    simp only [pv_bd_some, p2, p3]
    cases (tlN (fun j => Int64.ofInt (M i j)) X n).2 with
    | true =>
      rw [if_neg (show ¬ cond true (1 : Int32) 0 = 0 by decide), Bool.true_or]
      rfl
    | false =>
      rw [if_pos (show cond false (1 : Int32) 0 = 0 from rfl), Bool.false_or]
      cases ovM bl (tlN (fun j => Int64.ofInt (M i j)) X n).1 with
      | true => rw [if_neg (show ¬ cond true (1 : Int32) 0 = 0 by decide)]; rfl
      | false => rw [if_pos (show cond false (1 : Int32) 0 = 0 from rfl)]; rfl
  have e135 : RR (pv_X0 L xs) (d + 1) 120 135 [some (.ref 22), some (.ref (50 + l)), some (.int (jI B)), some (.int (jI i)), some (.int (cond ((tlN (fun j => Int64.ofInt (M i j)) X n).2 || ovM bl (tlN (fun j => Int64.ofInt (M i j)) X n).1) 1 0)), some (.long (tlN (fun j => Int64.ofInt (M i j)) X n).1), none, some (.long (bl * (tlN (fun j => Int64.ofInt (M i j)) X n).1)), none] [] (enc (uI (uJ b2 2 0) 9 0)) = RR (pv_X0 L xs) (d + 1) 120 151 [some (.ref 22), some (.ref (50 + l)), some (.int (jI B)), some (.int (jI i)), some (.int (cond ((tlN (fun j => Int64.ofInt (M i j)) X n).2 || ovM bl (tlN (fun j => Int64.ofInt (M i j)) X n).1) 1 0)), some (.long (tlN (fun j => Int64.ofInt (M i j)) X n).1), none, some (.long (bl * (tlN (fun j => Int64.ofInt (M i j)) X n).1)), none] [] (enc b3) := by
    rw [B120_135 hl, pv_ixn (by omega) (by decide), pv_ixn (by omega) (by decide), (r2.2.2.2 i hi).2.1, show gB (uI (uJ b2 2 0) 9 0) (13 + l) = gB a (13 + l) from (tfr_trans f2 (tfr_0 (a := b2))).2.2.2 (13 + l) (by omega), hX0, g1, pv_bd_some]
    rfl
  refine ⟨b3, some (.int (cond ((tlN (fun j => Int64.ofInt (M i j)) X n).2 || ovM bl (tlN (fun j => Int64.ofInt (M i j)) X n).1) 1 0)), some (.long (tlN (fun j => Int64.ofInt (M i j)) X n).1), some (.long (bl * (tlN (fun j => Int64.ofInt (M i j)) X n).1)), ?_, f3⟩
  rw [B120_2 hl, hr.2.1, if_neg (jI_run hi (by omega)), B44_0, pv_bd_some]
  simp only [Option.toList_none, List.nil_append]
  rw [B120_17 hl]
  refine h1.trans ?_
  show RR (pv_X0 L xs) (d + 1) 120 20 _ _ _ = _
  rw [B120_20 hl, r1.2.1, if_pos jI_end, B44_0, pv_bd_some, h3, h4]
  simp only [Option.toList_none, List.nil_append]
  rw [B120_84 hl, e3, p1, pv_bd_some]
  simp only [Option.toList_none, List.nil_append]
  rw [e97, e135, B120_151 hl, g2, g3]
  unfold jRow
  rw [← Bool.or_assoc]
  cases ((tlN (fun j => Int64.ofInt (M i j)) X n).2 || ovM bl (tlN (fun j => Int64.ofInt (M i j)) X n).1) with
  | true =>
    rw [if_neg (show ¬ cond true (1 : Int32) 0 = 0 by decide), Bool.true_or, if_pos rfl]
  | false =>
    rw [if_pos (show cond false (1 : Int32) 0 = 0 from rfl), Bool.false_or]
    cases ovM (R i) X0 with
    | true => rw [if_neg (show ¬ cond true (1 : Int32) 0 = 0 by decide), if_pos rfl]
    | false =>
      rw [if_pos (show cond false (1 : Int32) 0 = 0 from rfl), if_neg Bool.false_ne_true]
      by_cases e : bl * (tlN (fun j => Int64.ofInt (M i j)) X n).1 = R i * X0
      · rw [if_pos (lg_eq.mpr e), if_pos e, jI_succ]
      · rw [if_neg (fun q => e (lg_eq.mp q)), if_neg e]
theorem C_jrows (hr : RC u a n bl mt pl M R) (hn6 : n ≤ 6) (hl : l < 4) (hB : B + n < 20) (hX : ∀ j, j < n → gB a (13 + l) (B + 1 + j) = X j) (hX0 : gB a (13 + l) B = X0) : ∃ b, RR (pv_X0 L xs) (d + 1) 120 0 [some (.ref 22), some (.ref (50 + l)), some (.int (jI B)), none, none, none, none, none, none] [] (enc a) = some (some (.int ((jAll bl M R X X0 n n).getD (-5))), enc b) ∧ tfr a b := by
  rcases pv_loopQ (R := fun k (t : Option Value × Option Value × Option Value × pv_U) => RR (pv_X0 L xs) (d + 1) 120 2 [some (.ref 22), some (.ref (50 + l)), some (.int (jI B)), some (.int (jI k)), t.1, t.2.1, none, t.2.2.1, none] [] (enc t.2.2.2)) (P := fun k t => tfr a t.2.2.2 ∧ jAll bl M R X X0 n k = none) (Q := fun r => ∃ e b, r = some (some (.int e), enc b) ∧ tfr a b ∧ jAll bl M R X X0 n n = some e) (N := n) (fun k t hk ht => by
    obtain ⟨x4, x5, x7, b⟩ := t
    obtain ⟨f, g⟩ := ht
    have f : tfr a b := f
    obtain ⟨b', y4, y5, y7, p1, p2⟩ := C_jrow (L := L) (xs := xs) (d := d) (B := B) (X := X) (X0 := X0) (RC_tfr hr hn6 f) hn6 hl hk hB (fun j hj => by rw [f.2.2.2 (13 + l) (by omega)]; exact hX j hj) (by rw [f.2.2.2 (13 + l) (by omega)]; exact hX0) x4 x5 x7
    have js : jAll bl M R X X0 n (k + 1) = jRow bl M R X X0 n k := by
      show (if jAll bl M R X X0 n k = none then jRow bl M R X X0 n k else jAll bl M R X X0 n k) = _
      rw [if_pos g]
    cases e : jRow bl M R X X0 n k with
    | some v =>
      rw [e] at p1
      exact Or.inl ⟨v, b', p1, tfr_trans f p2, jAll_mono (js.trans e) n (by omega)⟩
    | none =>
      rw [e] at p1
      exact Or.inr ⟨(y4, y5, y7, b'), p1, tfr_trans f p2, js.trans e⟩) (a0 := (none, none, none, a)) ⟨tfr_refl, rfl⟩ with ⟨e, b, q1, q2, q3⟩ | ⟨⟨x4, x5, x7, b⟩, h1, h2, h3⟩
  · refine ⟨b, ?_, q2⟩
    rw [B120_0 hl, q3]
    exact q1
  · refine ⟨b, ?_, h2⟩
    rw [B120_0 hl, h3]
    refine h1.trans ?_
    show RR (pv_X0 L xs) (d + 1) 120 2 _ _ _ = _
    rw [B120_2 hl, (RC_tfr hr hn6 h2).2.1, if_pos jI_end]
    rfl
end JUDGE
