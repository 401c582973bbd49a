/-! told, image, undo (printed by wip/whole/ops/p58.py and pp.py) -/
section OPS7
variable {L : Nat} {xs : Nat → Int32} {u : pv_U} {d k r i n N j : Nat} {x y z w : Int32}
theorem jIN (h0 : 0 ≤ x.toInt) : x = jI x.toInt.toNat := i32_nat h0
/-- a loop's end and its going on -/
theorem jI_run {k N : Nat} (h : k < N) (hN : N < 1000000) : ¬ jI N ≤ jI k := by rw [jI_le hN (by omega)]; omega
theorem jI_end {N : Nat} : jI N ≤ jI N := by rw [Int32.le_iff_toInt_le]; omega
theorem run_lit {c : Int32} {k N : Nat} (hc : c = jI N) (h : k < N) (hN : N < 1000000) : ¬ c ≤ jI k := hc ▸ jI_run h hN
theorem end_lit {c : Int32} {N : Nat} (hc : c = jI N) : c ≤ jI N := hc ▸ jI_end
theorem C_voided (hN : gI u 2 = jI N) (h30 : N ≤ 30) (hv : ∀ k, k < N → chOk (gA u 4 k)) : RR (pv_X0 L xs) d 110 0 [some (.ref 1), none, none] [] (enc u) = some (some (.int (sV u N)), enc u) := by
  rw [B110_0]
  obtain ⟨a, h1, h2⟩ := pv_loop (R := fun k a => RR (pv_X0 L xs) d 110 4 [some (.ref 1), some (.int a), some (.int (jI k))] [] (enc u)) (P := fun k a => a = sV u k) (N := N) (fun k a hk ha => ⟨sV u (k + 1), by
    subst ha
    show RR (pv_X0 L xs) d 110 4 _ _ _ = _
    rw [B110_4, hN, if_neg (jI_run hk (by omega)), pv_ixn (by omega) (by decide), jI_succ]
    rcases i32_01 (hv k hk) with e | e
    · rw [if_pos e, sV, e]
    · rw [if_neg (by rw [e]; decide), sV, e], rfl⟩) (a0 := 0) rfl
  subst h2
  refine h1.trans ?_
  show RR (pv_X0 L xs) d 110 4 _ _ _ = _
  rw [B110_4, hN, if_pos jI_end]
theorem C_greatest (hN : gI u 2 = jI N) (h30 : N ≤ 30) : RR (pv_X0 L xs) (d + 1) 112 0 [some (.ref 1), none, none] [] (enc u) = some (some (.int (mD u N)), enc u) := by
  rw [B112_0]
  obtain ⟨a, h1, h2⟩ := pv_loop (R := fun k a => RR (pv_X0 L xs) (d + 1) 112 4 [some (.ref 1), some (.int a), some (.int (jI k))] [] (enc u)) (P := fun k a => a = mD u k) (N := N) (fun k a hk ha => ⟨mD u (k + 1), by
    subst ha
    show RR (pv_X0 L xs) (d + 1) 112 4 _ _ _ = _
    rw [B112_4, hN, if_neg (jI_run hk (by omega)), pv_ixn (by omega) (by decide), jI_succ]
    rfl, rfl⟩) (a0 := -1) rfl
  subst h2
  refine h1.trans ?_
  show RR (pv_X0 L xs) (d + 1) 112 4 _ _ _ = _
  rw [B112_4, hN, if_pos jI_end]
theorem M_told7 (hN : gI u 16 = jI N) (h30 : N ≤ 30) (hv : ∀ k, k < N → gA u 4 k = gA u 30 k ∧ gA u 2 k = gA u 28 k) : RR (pv_X0 L xs) (d + 1) 205 0 [some (.ref 55), some (.int x), none, none, none] [] (enc u) = some (some (.int (if x = 2 then sV u N else mD u N)), enc u) := by
  rw [B205_0]
  obtain ⟨a, h1, h2⟩ := pv_loop (R := fun k (a : Int32 × Int32) => RR (pv_X0 L xs) (d + 1) 205 7 [some (.ref 55), some (.int x), some (.int a.1), some (.int a.2), some (.int (jI k))] [] (enc u)) (P := fun k a => a = (sV u k, mD u k)) (N := N) (fun k a hk ha => ⟨(sV u (k + 1), mD u (k + 1)), by
    subst ha
    show RR (pv_X0 L xs) (d + 1) 205 7 _ _ _ = _
    rw [B205_7, hN, if_neg (jI_run hk (by omega)), pv_ixn (by omega) (by decide), pv_ixn (by omega) (by decide), jI_succ, ← (hv k hk).1, ← (hv k hk).2]
    rfl, rfl⟩) (a0 := (0, -1)) rfl
  subst h2
  refine h1.trans ?_
  show RR (pv_X0 L xs) (d + 1) 205 7 _ _ _ = _
  rw [B205_7, hN, if_pos jI_end]
  split <;> rfl
/-- the DAY of a GAME -/
def dyN (u : pv_U) (k : Nat) : Nat := (gA u 2 k).toInt.toNat
theorem dyN_eq {a b : Nat} (ha : dyOk (gA u 2 a)) (hb : dyOk (gA u 2 b)) : gA u 2 a = gA u 2 b ↔ dyN u a = dyN u b := by
  rw [← Int32.toInt_inj]
  unfold dyN
  omega
theorem C_days (hN : gI u 2 = jI N) (h30 : N ≤ 30) (hv : ∀ k, k < N → dyOk (gA u 2 k)) : RR (pv_X0 L xs) d 111 0 [some (.ref 1), none, none, none, none] [] (enc u) = some (some (.int (jI (cntN (fun g => !(anyN (fun e => decide (dyN u e = dyN u g)) g)) N))), enc u) := by
  rw [B111_0]
  have inner : ∀ k, k < N → ∀ x1 : Int32, RR (pv_X0 L xs) d 111 17 [some (.ref 1), some (.int x1), some (.int (jI k)), some (.int 1), some (.int 0)] [] (enc u) = RR (pv_X0 L xs) d 111 17 [some (.ref 1), some (.int x1), some (.int (jI k)), some (.int (if anyN (fun e => decide (dyN u e = dyN u k)) k then 0 else 1)), some (.int (jI k))] [] (enc u) := by
    intro k hk x1
    obtain ⟨a, h1, h2⟩ := pv_loop (R := fun e (a : Int32) => RR (pv_X0 L xs) d 111 17 [some (.ref 1), some (.int x1), some (.int (jI k)), some (.int a), some (.int (jI e))] [] (enc u)) (P := fun e a => a = if anyN (fun e => decide (dyN u e = dyN u k)) e then 0 else 1) (N := k) (fun e a he ha => ⟨if anyN (fun e => decide (dyN u e = dyN u k)) (e + 1) then 0 else 1, by
      show RR (pv_X0 L xs) d 111 17 _ _ _ = _
      rw [B111_17, if_neg (jI_run he (by omega)), pv_ixn (by omega) (by decide), pv_ixn (by omega) (by decide), jI_succ]
      simp only [dyN_eq (hv e (by omega)) (hv k hk), anyN, Bool.or_eq_true, decide_eq_true_eq]
      cases hb : anyN (fun e => decide (dyN u e = dyN u k)) e with
      | true =>
        rw [hb, if_pos rfl] at ha
        rw [ha, if_pos rfl, if_pos (Or.inl rfl)]
      | false =>
        rw [hb, if_neg (by decide)] at ha
        rw [ha, if_neg (by decide)]
        by_cases hd : dyN u e = dyN u k
        · rw [if_pos hd, if_pos (Or.inr hd)]
        · rw [if_neg hd, if_neg (by rintro (h | h); exact absurd h (by decide); exact hd h)], rfl⟩) (a0 := 1) rfl
    subst h2
    exact h1
  obtain ⟨a, h1, h2⟩ := pv_loop (R := fun k (a : Int32 × Option Value × Option Value) => RR (pv_X0 L xs) d 111 4 [some (.ref 1), some (.int a.1), some (.int (jI k)), a.2.1, a.2.2] [] (enc u)) (P := fun k a => a.1 = jI (cntN (fun g => !(anyN (fun e => decide (dyN u e = dyN u g)) g)) k)) (N := N) (fun k a hk ha => ⟨(jI (cntN (fun g => !(anyN (fun e => decide (dyN u e = dyN u g)) g)) (k + 1)), some (.int (if anyN (fun e => decide (dyN u e = dyN u k)) k then 0 else 1)), some (.int (jI k))), by
    show RR (pv_X0 L xs) d 111 4 _ _ _ = _
    rw [B111_4, hN, if_neg (jI_run hk (by omega)), inner k hk, B111_17, if_pos jI_end, jI_succ, ha, cntN]
    cases hb : anyN (fun e => decide (dyN u e = dyN u k)) k with
    | true =>
      rw [if_pos rfl, if_pos rfl, Int32.add_zero]
      rfl
    | false =>
      rw [if_neg Bool.false_ne_true, if_neg (by decide), jI_succ]
      rfl, rfl⟩) (a0 := (0, none, none)) rfl
  refine h1.trans ?_
  show RR (pv_X0 L xs) d 111 4 _ _ _ = _
  rw [B111_4, hN, if_pos jI_end, h2]
theorem M_days (hN : gI u 16 = jI N) (h30 : N ≤ 30) (he : ∀ k, k < N → gA u 2 k = gA u 28 k) (hv : ∀ k, k < N → dyOk (gA u 2 k)) : RR (pv_X0 L xs) d 206 0 [some (.ref 55), none, none, none, none] [] (enc u) = some (some (.int (jI (cntN (fun day => anyN (fun g => decide (dyN u g = day)) N) 100))), enc u) := by
  rw [B206_0]
  have inner : ∀ k, k < 100 → ∀ x1 : Int32, RR (pv_X0 L xs) d 206 15 [some (.ref 55), some (.int x1), some (.int (jI k)), some (.int 0), some (.int 0)] [] (enc u) = RR (pv_X0 L xs) d 206 15 [some (.ref 55), some (.int x1), some (.int (jI k)), some (.int (if anyN (fun g => decide (dyN u g = k)) N then 1 else 0)), some (.int (jI N))] [] (enc u) := by
    intro k hk x1
    obtain ⟨a, h1, h2⟩ := pv_loop (R := fun e (a : Int32) => RR (pv_X0 L xs) d 206 15 [some (.ref 55), some (.int x1), some (.int (jI k)), some (.int a), some (.int (jI e))] [] (enc u)) (P := fun e a => a = if anyN (fun g => decide (dyN u g = k)) e then 1 else 0) (N := N) (fun e a hE ha => ⟨if anyN (fun g => decide (dyN u g = k)) (e + 1) then 1 else 0, by
      show RR (pv_X0 L xs) d 206 15 _ _ _ = _
      have hd : gA u 2 e = jI k ↔ dyN u e = k := by
        rw [← Int32.toInt_inj, jI_toInt (by omega)]
        have := hv e hE
        unfold dyN
        omega
      rw [B206_15, hN, if_neg (jI_run hE (by omega)), pv_ixn (by omega) (by decide), jI_succ, ← he e hE]
      simp only [hd, anyN, Bool.or_eq_true, decide_eq_true_eq]
      cases hb : anyN (fun g => decide (dyN u g = k)) e with
      | true =>
        rw [hb, if_pos rfl] at ha
        rw [ha, if_neg (by decide), if_pos (Or.inl rfl)]
      | false =>
        rw [hb, if_neg (by decide)] at ha
        rw [ha, if_pos rfl]
        by_cases hd : dyN u e = k
        · rw [if_pos hd, if_pos (Or.inr hd)]
        · rw [if_neg hd, if_neg (by rintro (h | h); exact absurd h (by decide); exact hd h)], rfl⟩) (a0 := 0) rfl
    subst h2
    exact h1
  obtain ⟨a, h1, h2⟩ := pv_loop (R := fun k (a : Int32 × Option Value × Option Value) => RR (pv_X0 L xs) d 206 4 [some (.ref 55), some (.int a.1), some (.int (jI k)), a.2.1, a.2.2] [] (enc u)) (P := fun k a => a.1 = jI (cntN (fun day => anyN (fun g => decide (dyN u g = day)) N) k)) (N := 100) (fun k a hk ha => ⟨(jI (cntN (fun day => anyN (fun g => decide (dyN u g = day)) N) (k + 1)), some (.int (if anyN (fun g => decide (dyN u g = k)) N then 1 else 0)), some (.int (jI N))), by
    show RR (pv_X0 L xs) d 206 4 _ _ _ = _
    rw [B206_4, if_neg (run_lit (c := 100) (N := 100) rfl hk (by omega)), inner k hk, B206_15, hN, if_pos jI_end, jI_succ, ha, cntN]
    cases hb : anyN (fun g => decide (dyN u g = k)) N with
    | true =>
      rw [if_pos rfl, if_neg (by decide), jI_succ]
      rfl
    | false =>
      rw [if_neg Bool.false_ne_true, if_pos rfl, Int32.add_zero]
      rfl, rfl⟩) (a0 := (0, none, none)) rfl
  refine h1.trans ?_
  show RR (pv_X0 L xs) d 206 4 _ _ _ = _
  rw [B206_4, if_pos (end_lit (c := 100) (N := 100) rfl), h2]
theorem i32_9 {x : Int32} (h0 : 0 ≤ x.toInt) (h : x.toInt ≤ 8) : x = 0 ∨ x = 1 ∨ x = 2 ∨ x = 3 ∨ x = 4 ∨ x = 5 ∨ x = 6 ∨ x = 7 ∨ x = 8 := by
  by_cases h7 : x.toInt ≤ 7
  · rcases i32_8 h0 h7 with h | h | h | h | h | h | h | h <;> simp [h]
  · have : x = 8 := Int32.toInt_inj.mp (by rw [z8]; omega)
    simp [this]
theorem P_told (h : Inv u) : Both L xs 109 204 [some (.ref 0), some (.int x)] [some (.ref 55), some (.int x)] u := by
  have h0 := h
  obtain ⟨⟨b1, b2, b3, b4, b5, b6, b7, b8, b9, b10⟩, ⟨g1, g2⟩, ⟨f1, f2⟩, ⟨t1, t2, t3⟩, ⟨p1, p2, p3⟩, hL, ⟨k1, k2, k3⟩⟩ := h
  have hN := i32_nat b4.1
  have h30 : (gI u 2).toInt.toNat ≤ 30 := by omega
  have hNt : (gI u 2).toInt.toNat = (gI u 2).toInt := by omega
  have hN' := b3.symm.trans hN
  generalize (gI u 2).toInt.toNat = N at *
  have gd : ∀ k, k < N → dyOk (gA u 2 k) := fun k hk => (g2 k (by omega) (Or.inl (by omega))).2.2.2.2.2.2.2.1
  by_cases q1 : 0 ≤ x.toInt ∧ x.toInt ≤ 8
  case neg =>
    have q2 : x.toInt < 0 ∨ 8 < x.toInt := by omega
    exact ⟨.int (-1), u, u, by rw [B109_0, B109_1_out q2, B109_132], by rw [B204_0, B204_1_out q2, B204_108], h0, rfl⟩
  rcases i32_9 q1.1 q1.2 with e | e | e | e | e | e | e | e | e <;> subst e
  · exact ⟨.int (gI u 1), u, u, by rw [B109_0, B109_1_0, B109_52], by rw [B204_0, B204_1_0, B204_52, b1], h0, rfl⟩
  · exact ⟨.int (gI u 2), u, u, by rw [B109_0, B109_1_1, B109_60], by rw [B204_0, B204_1_1, B204_57, b3], h0, rfl⟩
  · refine ⟨.int (sV u N), u, u, ?_, ?_, h0, rfl⟩
    · rw [B109_0, B109_1_2, B109_68, C_voided hN h30 (fun k hk => (g2 k (by omega) (Or.inl (by omega))).2.2.2.2.2.2.2.2.2)]
      exact B109_75
    · rw [B204_0, B204_1_2, B204_62, M_told7 hN' h30 (fun k hk => ⟨(g1 k).2.2.2.2.2.2, (g1 k).2.2.2.2.1⟩), if_pos rfl]
      exact B204_67
  · exact ⟨.int (gI u 3), u, u, by rw [B109_0, B109_1_3, B109_76], by rw [B204_0, B204_1_3, B204_68, b5], h0, rfl⟩
  · refine ⟨.int (if gI u 4 = 0 then 0 else 1), u, u, ?_, ?_, h0, rfl⟩
    · rw [B109_0, B109_1_4, B109_84]
      split <;> rfl
    · rw [B204_0, B204_1_4, B204_73, ← b7]
      split <;> rfl
  · exact ⟨.int (gI u 11), u, u, by rw [B109_0, B109_1_5, B109_100], by rw [B204_0, B204_1_5, B204_86, t1], h0, rfl⟩
  · exact ⟨.int (gI u 14), u, u, by rw [B109_0, B109_1_6, B109_108], by rw [B204_0, B204_1_6, B204_91, p1], h0, rfl⟩
  · refine ⟨.int (jI (cntN (fun g => !(anyN (fun e => decide (dyN u e = dyN u g)) g)) N)), u, u, ?_, ?_, h0, rfl⟩
    · rw [B109_0, B109_1_7, B109_116, C_days hN h30 gd]
      exact B109_123
    · rw [B204_0, B204_1_7, B204_96, M_days hN' h30 (fun k hk => (g1 k).2.2.2.2.1) gd, cnt_days (fun k hk => by have := gd k hk; unfold dyN; omega)]
      exact B204_100
  · refine ⟨.int (mD u N), u, u, ?_, ?_, h0, rfl⟩
    · rw [B109_0, B109_1_8, B109_124, C_greatest hN h30]
      exact B109_131
    · rw [B204_0, B204_1_8, B204_101, M_told7 hN' h30 (fun k hk => ⟨(g1 k).2.2.2.2.2.2, (g1 k).2.2.2.2.1⟩), if_neg (by decide)]
      exact B204_107
end OPS7
