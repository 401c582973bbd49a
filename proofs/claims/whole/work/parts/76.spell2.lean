/-! spell: a GAME written, on both sides; put together (printed by wip/whole/ops/p76.py and pp.py) -/
/-- the PAPER's text of the first k GAMES -/
def n0 (u : pv_U) (k : Nat) : Nat := (gA u 0 k).toInt.toNat
def n1 (u : pv_U) (k : Nat) : Nat := (gA u 1 k).toInt.toNat
def n2 (u : pv_U) (k : Nat) : Nat := (gA u 2 k).toInt.toNat
def n3 (u : pv_U) (k : Nat) : Nat := (gA u 3 k).toInt.toNat
def m0 (u : pv_U) (k : Nat) : Nat := (gB u 0 k).toInt.toNat
def m1 (u : pv_U) (k : Nat) : Nat := (gB u 1 k).toInt.toNat
def spT (u : pv_U) : Nat → List Int32
  | 0 => []
  | k + 1 => if gA u 4 k = 0 ∧ ¬ 9999 < gB u 0 k ∧ ¬ 9999 < gB u 1 k then spT u k ++ gmT (decide (0 < (spT u k).length)) (n0 u k) (n1 u k) (m0 u k) (m1 u k) (n2 u k) (n3 u k) else spT u k
section SPELL2
variable {L : Nat} {xs : Nat → Int32} {u : pv_U} {d k n N : Nat} {x y z : Int32} {l : List Int32} {h a f g dy wt : Nat}
theorem C_writeGame (hk : k < 31) (eh : gA u 0 k = jI h) (ea : gA u 1 k = jI a) (ef : gB u 0 k = jL f) (eg : gB u 1 k = jL g) (ed : gA u 2 k = jI dy) (ew : gA u 3 k = jI wt) (bh : h < 6) (ba : a < 6) (bf : f < 10000) (bg : g < 10000) (bd : dy < 100) (bw : wt < 4) (hl : l.length + 19 ≤ 570) : RR (pv_X0 L xs) (d + 2) 105 0 [some (.ref 46), some (.ref 1), some (.int (jI k))] [] (enc (ppC u l)) = some (none, enc (ppC u (l ++ gmT (decide (0 < l.length)) h a f g dy wt))) := by
  have l1 := dg_len1 (show h < 10 by omega)
  have l2 := dg_len1 (show a < 10 by omega)
  have l3 := dg_len4 (m := f)
  have l4 := dg_len4 (m := g)
  have l5 := dg_len2 bd
  have l6 := dg_len1 (show wt < 10 by omega)
  have e14 : gI (ppC u l) 14 = jI l.length := by rw [gI_ppC, if_pos rfl]
  have rA : ∀ (l : List Int32) (q : Nat), ¬ q = 24 → gA (ppC u l) q k = gA u q k := fun l q h => gA_ppC h
  have rB : ∀ (l : List Int32) (q : Nat), gB (ppC u l) q k = gB u q k := fun l q => rfl
  have st : RR (pv_X0 L xs) (d + 2) 105 0 [some (.ref 46), some (.ref 1), some (.int (jI k))] [] (enc (ppC u l)) = RR (pv_X0 L xs) (d + 2) 105 13 [some (.ref 46), some (.ref 1), some (.int (jI k))] [] (enc (ppC u (l ++ if decide (0 < l.length) = true then [59] else []))) := by
    rw [B105_0, e14]
    by_cases q : 0 < l.length
    · rw [if_neg (show ¬ jI l.length ≤ 0 by show ¬ jI l.length ≤ jI 0; rw [jI_le (by omega) (by omega)]; omega), decide_eq_true q, if_pos (rfl : true = true)]
      have w := C_write (L := L) (xs := xs) (u := u) (l := l) (d := d + 1) (m := 59) (by omega) (by omega)
      have w' : RR (pv_X0 L xs) (d + 1) 106 0 [some (.ref 46), some (.int 59)] [] (enc (ppC u l)) = some (none, enc (ppC u (l ++ [59]))) := w
      rw [w', pv_bd_some]
      rfl
    · rw [if_pos (show jI l.length ≤ 0 by show jI l.length ≤ jI 0; rw [jI_le (by omega) (by omega)]; omega), decide_eq_false q, if_neg Bool.false_ne_true, List.append_nil]
  have l0 : (if decide (0 < l.length) = true then [(59 : Int32)] else []).length ≤ 1 := by split <;> exact Nat.le_of_ble_eq_true rfl
  rw [st]
  unfold gmT
  rw [← List.append_assoc]
  generalize (if decide (0 < l.length) = true then [(59 : Int32)] else []) = z0 at *
  have hz : (l ++ z0).length + 18 ≤ 570 := by rw [List.length_append]; omega
  generalize l ++ z0 = l at *
  have c45 : ∀ l : List Int32, l.length < 570 → RR (pv_X0 L xs) (d + 1) 106 0 [some (.ref 46), some (.int 45)] [] (enc (ppC u l)) = some (none, enc (ppC u (l ++ [45]))) := fun l h => C_write (m := 45) h (by omega)
  have c58 : ∀ l : List Int32, l.length < 570 → RR (pv_X0 L xs) (d + 1) 106 0 [some (.ref 46), some (.int 58)] [] (enc (ppC u l)) = some (none, enc (ppC u (l ++ [58]))) := fun l h => C_write (m := 58) h (by omega)
  have c64 : ∀ l : List Int32, l.length < 570 → RR (pv_X0 L xs) (d + 1) 106 0 [some (.ref 46), some (.int 64)] [] (enc (ppC u l)) = some (none, enc (ppC u (l ++ [64]))) := fun l h => C_write (m := 64) h (by omega)
  have c120 : ∀ l : List Int32, l.length < 570 → RR (pv_X0 L xs) (d + 1) 106 0 [some (.ref 46), some (.int 120)] [] (enc (ppC u l)) = some (none, enc (ppC u (l ++ [120]))) := fun l h => C_write (m := 120) h (by omega)
  rw [B105_13, pv_ixn hk (by decide), rA _ 0 (by decide), eh, C_writeNumber (by first | omega | (simp only [List.length_append, List.length_cons, List.length_nil]; omega)) (by omega), pv_bd_some]
  simp only [Option.toList_none, List.nil_append]
  rw [B105_23, c45 _ (by first | omega | (simp only [List.length_append, List.length_cons, List.length_nil]; omega)), pv_bd_some]
  simp only [Option.toList_none, List.nil_append]
  rw [B105_29, pv_ixn hk (by decide), rA _ 1 (by decide), ea, C_writeNumber (by first | omega | (simp only [List.length_append, List.length_cons, List.length_nil]; omega)) (by omega), pv_bd_some]
  simp only [Option.toList_none, List.nil_append]
  rw [B105_39, c58 _ (by first | omega | (simp only [List.length_append, List.length_cons, List.length_nil]; omega)), pv_bd_some]
  simp only [Option.toList_none, List.nil_append]
  rw [B105_45, pv_ixn hk (by decide), rB _ 0, ef, jL_32, C_writeNumber (by first | omega | (simp only [List.length_append, List.length_cons, List.length_nil]; omega)) (by omega), pv_bd_some]
  simp only [Option.toList_none, List.nil_append]
  rw [B105_56, c45 _ (by first | omega | (simp only [List.length_append, List.length_cons, List.length_nil]; omega)), pv_bd_some]
  simp only [Option.toList_none, List.nil_append]
  rw [B105_62, pv_ixn hk (by decide), rB _ 1, eg, jL_32, C_writeNumber (by first | omega | (simp only [List.length_append, List.length_cons, List.length_nil]; omega)) (by omega), pv_bd_some]
  simp only [Option.toList_none, List.nil_append]
  rw [B105_73, c64 _ (by first | omega | (simp only [List.length_append, List.length_cons, List.length_nil]; omega)), pv_bd_some]
  simp only [Option.toList_none, List.nil_append]
  rw [B105_79, pv_ixn hk (by decide), rA _ 2 (by decide), ed, C_writeNumber (by first | omega | (simp only [List.length_append, List.length_cons, List.length_nil]; omega)) (by omega), pv_bd_some]
  simp only [Option.toList_none, List.nil_append]
  rw [B105_89, pv_ixn hk (by decide), rA _ 3 (by decide), ew]
  by_cases q : wt = 1
  · rw [if_pos (show jI wt = 1 by rw [q]; rfl), if_pos q, B105_115]
    simp only [List.append_assoc, List.append_nil]
  · rw [if_neg (show ¬ jI wt = 1 by show ¬ jI wt = jI 1; rw [jI_eq (by omega) (by omega)]; exact q), if_neg q, c120 _ (by first | omega | (simp only [List.length_append, List.length_cons, List.length_nil]; omega)), pv_bd_some]
    simp only [Option.toList_none, List.nil_append]
    rw [B105_105, pv_ixn hk (by decide), rA _ 3 (by decide), ew, C_writeNumber (by first | omega | (simp only [List.length_append, List.length_cons, List.length_nil]; omega)) (by omega), pv_bd_some]
    simp only [Option.toList_none, List.nil_append]
    rw [B105_115]
    simp only [List.append_assoc]
theorem M_writeGame (hk : k < 31) (eh : gA u 26 k = jI h) (ea : gA u 27 k = jI a) (ef : gB u 17 k = jL f) (eg : gB u 18 k = jL g) (ed : gA u 28 k = jI dy) (ew : gA u 29 k = jI wt) (bh : h < 6) (ba : a < 6) (bf : f < 10000) (bg : g < 10000) (bd : dy < 100) (bw : wt < 4) (hl : l.length + 18 ≤ 570) : RR (pv_X0 L xs) (d + 5) 200 63 [some (.ref 55), some (.int (jI k))] [] (enc (ppM u l)) = RR (pv_X0 L xs) (d + 5) 200 167 [some (.ref 55), some (.int (jI k))] [] (enc (ppM u (l ++ (dg h ++ ([45] ++ (dg a ++ ([58] ++ (dg f ++ ([45] ++ (dg g ++ ([64] ++ (dg dy ++ (if wt = 1 then [] else [120] ++ dg wt))))))))))))) := by
  have l1 := dg_len1 (show h < 10 by omega)
  have l2 := dg_len1 (show a < 10 by omega)
  have l3 := dg_len4 (m := f)
  have l4 := dg_len4 (m := g)
  have l5 := dg_len2 bd
  have l6 := dg_len1 (show wt < 10 by omega)
  have rA : ∀ (l : List Int32) (q : Nat), ¬ q = 34 → gA (ppM u l) q k = gA u q k := fun l q h => gA_ppM h
  have rB : ∀ (l : List Int32) (q : Nat), gB (ppM u l) q k = gB u q k := fun l q => rfl
  have mw : ∀ (l : List Int32) (x : Int32), l.length < 570 → RR (pv_X0 L xs) (d + 4) 201 0 [some (.ref 55), some (.int x)] [] (enc (ppM u l)) = some (none, enc (ppM u (l ++ [x]))) := fun l x h => M_write (by omega)
  have mn : ∀ (l : List Int32) (m : Nat), l.length < 570 → m < 10000 → RR (pv_X0 L xs) (d + 4) 202 0 [some (.ref 55), some (.long (jL m)), none] [] (enc (ppM u l)) = some (none, enc (ppM u (l ++ dg m))) := fun l m h1 h2 => M_writeNumber (d := d) (j := 3) (by omega) (by omega) h2
  rw [B200_63, pv_ixn hk (by decide), rA _ 26 (by decide), eh, jI_64 (by omega), mn _ _ (by first | omega | (simp only [List.length_append, List.length_cons, List.length_nil]; omega)) (by omega), pv_bd_some]
  simp only [Option.toList_none, List.nil_append]
  rw [B200_74, mw _ _ (by first | omega | (simp only [List.length_append, List.length_cons, List.length_nil]; omega)), pv_bd_some]
  simp only [Option.toList_none, List.nil_append]
  rw [B200_80, pv_ixn hk (by decide), rA _ 27 (by decide), ea, jI_64 (by omega), mn _ _ (by first | omega | (simp only [List.length_append, List.length_cons, List.length_nil]; omega)) (by omega), pv_bd_some]
  simp only [Option.toList_none, List.nil_append]
  rw [B200_91, mw _ _ (by first | omega | (simp only [List.length_append, List.length_cons, List.length_nil]; omega)), pv_bd_some]
  simp only [Option.toList_none, List.nil_append]
  rw [B200_97, pv_ixn hk (by decide), rB _ 17, ef, mn _ _ (by first | omega | (simp only [List.length_append, List.length_cons, List.length_nil]; omega)) (by omega), pv_bd_some]
  simp only [Option.toList_none, List.nil_append]
  rw [B200_107, mw _ _ (by first | omega | (simp only [List.length_append, List.length_cons, List.length_nil]; omega)), pv_bd_some]
  simp only [Option.toList_none, List.nil_append]
  rw [B200_113, pv_ixn hk (by decide), rB _ 18, eg, mn _ _ (by first | omega | (simp only [List.length_append, List.length_cons, List.length_nil]; omega)) (by omega), pv_bd_some]
  simp only [Option.toList_none, List.nil_append]
  rw [B200_123, mw _ _ (by first | omega | (simp only [List.length_append, List.length_cons, List.length_nil]; omega)), pv_bd_some]
  simp only [Option.toList_none, List.nil_append]
  rw [B200_129, pv_ixn hk (by decide), rA _ 28 (by decide), ed, jI_64 (by omega), mn _ _ (by first | omega | (simp only [List.length_append, List.length_cons, List.length_nil]; omega)) (by omega), pv_bd_some]
  simp only [Option.toList_none, List.nil_append]
  rw [B200_140, pv_ixn hk (by decide), rA _ 29 (by decide), ew]
  by_cases q : wt = 1
  · rw [if_pos (show jI wt = 1 by rw [q]; rfl), if_pos q]
    simp only [List.append_assoc, List.append_nil]
  · rw [if_neg (show ¬ jI wt = 1 by show ¬ jI wt = jI 1; rw [jI_eq (by omega) (by omega)]; exact q), if_neg q, mw _ _ (by first | omega | (simp only [List.length_append, List.length_cons, List.length_nil]; omega)), pv_bd_some]
    simp only [Option.toList_none, List.nil_append]
    rw [B200_156, pv_ixn hk (by decide), rA _ 29 (by decide), ew, jI_64 (by omega), mn _ _ (by first | omega | (simp only [List.length_append, List.length_cons, List.length_nil]; omega)) (by omega), pv_bd_some]
    simp only [Option.toList_none, List.nil_append, List.append_assoc]
theorem spT_len (hb : ∀ j, j < N → n0 u j < 6 ∧ n1 u j < 6 ∧ n2 u j < 100 ∧ n3 u j < 4) (hk : k ≤ N) : (spT u k).length ≤ 19 * k := by
  induction k with
  | zero => exact Nat.le_refl _
  | succ k ih =>
    have := ih (by omega)
    obtain ⟨h1, h2, h3, h4⟩ := hb k (by omega)
    have hg := gmT_len (b := decide (0 < (spT u k).length)) (h := n0 u k) (a := n1 u k) (f := m0 u k) (g := m1 u k) (dy := n2 u k) (w := n3 u k) (by omega) (by omega) h3 (by omega)
    unfold spT
    split
    · rw [List.length_append]
      omega
    · omega
theorem pp0C : uI u 14 0 = ppC u [] := by
  unfold ppC
  show _ = uI (cA u 24 0 0 _) 14 0
  rw [cA_zero]
theorem pp0M : uI u 23 0 = ppM u [] := by
  unfold ppM
  show _ = uI (cA u 34 0 0 _) 23 0
  rw [cA_zero]
theorem C_spell (hN : gI u 2 = jI N) (h30 : N ≤ 30) (hv : ∀ k, k < N → okG (gI u 1) (gA u 0 k) (gA u 1 k) (gB u 0 k) (gB u 1 k) (gA u 2 k) (gA u 3 k) (gA u 4 k)) (h6 : (gI u 1).toInt ≤ 6) : RR (pv_X0 L xs) (d + 3) 104 0 [some (.ref 0), none] [] (enc u) = some (some (.int (jI (spT u N).length)), enc (ppC u (spT u N))) := by
  have hb : ∀ j, j < N → n0 u j < 6 ∧ n1 u j < 6 ∧ n2 u j < 100 ∧ n3 u j < 4 := fun j hj => by
    obtain ⟨w1, w2, w3, w4, w5, w6, w7, w8, w9, v1⟩ := hv j hj
    unfold n0 n1 n2 n3
    omega
  rw [B104_0, pp0C]
  obtain ⟨a, h1, h2⟩ := pv_loop (R := fun k a => RR (pv_X0 L xs) (d + 3) 104 10 [some (.ref 0), some (.int (jI k))] [] (enc a)) (P := fun k a => a = ppC u (spT u k)) (N := N) (fun k a hk ha => ⟨ppC u (spT u (k + 1)), by
    subst ha
    have e2 : gI (ppC u (spT u k)) 2 = jI N := by rw [gI_ppC, if_neg (by decide)]; exact hN
    have e4 : gA (ppC u (spT u k)) 4 k = gA u 4 k := gA_ppC (by decide)
    have e0 : ∀ q, gB (ppC u (spT u k)) q k = gB u q k := fun q => rfl
    have es : spT u (k + 1) = if gA u 4 k = 0 ∧ ¬ 9999 < gB u 0 k ∧ ¬ 9999 < gB u 1 k then spT u k ++ gmT (decide (0 < (spT u k).length)) (n0 u k) (n1 u k) (m0 u k) (m1 u k) (n2 u k) (n3 u k) else spT u k := rfl
    have hlen := spT_len hb (k := k) (by omega)
    obtain ⟨w1, w2, w3, w4, w5, w6, w7, w8, w9, v1⟩ := hv k hk
    obtain ⟨b1, b2, b3, b4⟩ := hb k hk
    have ix : ∀ F : Nat → pv_R, pv_ix (jI k) 31 F = F k := fun F => pv_ixn (by omega) (by decide)
    show RR (pv_X0 L xs) (d + 3) 104 10 _ _ _ = RR (pv_X0 L xs) (d + 3) 104 10 [some (.ref 0), some (.int (jI (k + 1)))] [] _
    rw [B104_10, e2, if_neg (jI_run hk (by omega)), es]
    simp only [ix, lg_gt, e4, e0]
    have fin : ∀ l, RR (pv_X0 L xs) (d + 3) 104 77 [some (.ref 0), some (.int (jI k))] [] (enc (ppC u l)) = RR (pv_X0 L xs) (d + 3) 104 10 [some (.ref 0), some (.int (jI (k + 1)))] [] (enc (ppC u l)) := fun l => by rw [B104_77, jI_succ]
    by_cases c1 : gA u 4 k = 0
    case neg => rw [if_neg c1, if_neg (show ¬ (gA u 4 k = 0 ∧ ¬ 9999 < gB u 0 k ∧ ¬ 9999 < gB u 1 k) from fun q => c1 q.1), fin]
    by_cases c2 : 9999 < gB u 0 k
    · rw [if_pos c1, if_pos c2, if_neg (show ¬ (gA u 4 k = 0 ∧ ¬ 9999 < gB u 0 k ∧ ¬ 9999 < gB u 1 k) from fun q => q.2.1 c2), fin]
    by_cases c3 : 9999 < gB u 1 k
    · rw [if_pos c1, if_neg c2, if_pos c3, if_neg (show ¬ (gA u 4 k = 0 ∧ ¬ 9999 < gB u 0 k ∧ ¬ 9999 < gB u 1 k) from fun q => q.2.2 c3), fin]
    have k2 : (gB u 0 k).toInt < 10000 := by rw [Int64.lt_iff_toInt_lt, show (9999 : Int64).toInt = 9999 from rfl] at c2; omega
    have k3 : (gB u 1 k).toInt < 10000 := by rw [Int64.lt_iff_toInt_lt, show (9999 : Int64).toInt = 9999 from rfl] at c3; omega
    rw [if_pos c1, if_neg c2, if_neg c3, if_pos (show gA u 4 k = 0 ∧ ¬ 9999 < gB u 0 k ∧ ¬ 9999 < gB u 1 k from ⟨c1, c2, c3⟩)]
    rw [C_writeGame (L := L) (xs := xs) (u := u) (d := d) (h := n0 u k) (a := n1 u k) (f := m0 u k) (g := m1 u k) (dy := n2 u k) (wt := n3 u k) (show k < 31 by omega) (i32_nat w1) (i32_nat w3) (i64_nat w6.1) (i64_nat w7.1) (i32_nat w8.1) (i32_nat (by omega)) b1 b2 (by unfold m0; omega) (by unfold m1; omega) b3 b4 (by omega), pv_bd_some]
    exact fin _, rfl⟩) (a0 := ppC u []) rfl
  subst h2
  refine h1.trans ?_
  show RR (pv_X0 L xs) (d + 3) 104 10 _ _ _ = _
  have e2 : gI (ppC u (spT u N)) 2 = jI N := by rw [gI_ppC, if_neg (by decide)]; exact hN
  rw [B104_10, e2, if_pos jI_end, gI_ppC, if_pos rfl]
/-- the reference, from a world v whose rows are u's -/
theorem M_spell {v : pv_U} (hN : gI v 16 = jI N) (h30 : N ≤ 30) (hv : ∀ k, k < N → okG (gI u 1) (gA u 0 k) (gA u 1 k) (gB u 0 k) (gB u 1 k) (gA u 2 k) (gA u 3 k) (gA u 4 k)) (h6 : (gI u 1).toInt ≤ 6) (hr : ∀ k, gA u 0 k = gA v 26 k ∧ gA u 1 k = gA v 27 k ∧ gB u 0 k = gB v 17 k ∧ gB u 1 k = gB v 18 k ∧ gA u 2 k = gA v 28 k ∧ gA u 3 k = gA v 29 k ∧ gA u 4 k = gA v 30 k) : RR (pv_X0 L xs) (d + 5) 200 0 [some (.ref 55), none] [] (enc v) = some (some (.int (jI (spT u N).length)), enc (ppM v (spT u N))) := by
  have hb : ∀ j, j < N → n0 u j < 6 ∧ n1 u j < 6 ∧ n2 u j < 100 ∧ n3 u j < 4 := fun j hj => by
    obtain ⟨w1, w2, w3, w4, w5, w6, w7, w8, w9, v1⟩ := hv j hj
    unfold n0 n1 n2 n3
    omega
  rw [B200_0, pp0M]
  obtain ⟨a, h1, h2⟩ := pv_loop (R := fun k a => RR (pv_X0 L xs) (d + 5) 200 7 [some (.ref 55), some (.int (jI k))] [] (enc a)) (P := fun k a => a = ppM v (spT u k)) (N := N) (fun k a hk ha => ⟨ppM v (spT u (k + 1)), by
    subst ha
    have e16 : gI (ppM v (spT u k)) 16 = jI N := by rw [gI_ppM, if_neg (by decide)]; exact hN
    have e23 : gI (ppM v (spT u k)) 23 = jI (spT u k).length := by rw [gI_ppM, if_pos rfl]
    have e4 : gA (ppM v (spT u k)) 30 k = gA u 4 k := (gA_ppM (by decide)).trans (hr k).2.2.2.2.2.2.symm
    have e0 : gB (ppM v (spT u k)) 17 k = gB u 0 k := (hr k).2.2.1.symm
    have e1 : gB (ppM v (spT u k)) 18 k = gB u 1 k := (hr k).2.2.2.1.symm
    have es : spT u (k + 1) = if gA u 4 k = 0 ∧ ¬ 9999 < gB u 0 k ∧ ¬ 9999 < gB u 1 k then spT u k ++ gmT (decide (0 < (spT u k).length)) (n0 u k) (n1 u k) (m0 u k) (m1 u k) (n2 u k) (n3 u k) else spT u k := rfl
    have hlen := spT_len hb (k := k) (by omega)
    obtain ⟨w1, w2, w3, w4, w5, w6, w7, w8, w9, v1⟩ := hv k hk
    obtain ⟨b1, b2, b3, b4⟩ := hb k hk
    obtain ⟨r1, r2, r3, r4, r5, r6, r7⟩ := hr k
    have ix : ∀ F : Nat → pv_R, pv_ix (jI k) 31 F = F k := fun F => pv_ixn (by omega) (by decide)
    have t0 : gB u 0 k < 10000 ↔ ¬ 9999 < gB u 0 k := by rw [Int64.lt_iff_toInt_lt, Int64.lt_iff_toInt_lt, show (9999 : Int64).toInt = 9999 from rfl, show (10000 : Int64).toInt = 10000 from rfl]; omega
    have t1 : gB u 1 k < 10000 ↔ ¬ 9999 < gB u 1 k := by rw [Int64.lt_iff_toInt_lt, Int64.lt_iff_toInt_lt, show (9999 : Int64).toInt = 9999 from rfl, show (10000 : Int64).toInt = 10000 from rfl]; omega
    show RR (pv_X0 L xs) (d + 5) 200 7 _ _ _ = RR (pv_X0 L xs) (d + 5) 200 7 [some (.ref 55), some (.int (jI (k + 1)))] [] _
    rw [B200_7, e16, if_neg (jI_run hk (by omega)), es]
    simp only [ix, lg_ge, e4, e0, e1, e23, t0, t1]
    have fin : ∀ l, RR (pv_X0 L xs) (d + 5) 200 167 [some (.ref 55), some (.int (jI k))] [] (enc (ppM v l)) = RR (pv_X0 L xs) (d + 5) 200 7 [some (.ref 55), some (.int (jI (k + 1)))] [] (enc (ppM v l)) := fun l => by rw [B200_167, jI_succ]
    by_cases c1 : gA u 4 k = 0
    case neg => rw [if_neg c1, if_neg (show ¬ (gA u 4 k = 0 ∧ ¬ 9999 < gB u 0 k ∧ ¬ 9999 < gB u 1 k) from fun q => c1 q.1), fin]
    by_cases c2 : 9999 < gB u 0 k
    · rw [if_pos c1, if_pos (show ¬ ¬ 9999 < gB u 0 k from fun q => q c2), if_neg (show ¬ (gA u 4 k = 0 ∧ ¬ 9999 < gB u 0 k ∧ ¬ 9999 < gB u 1 k) from fun q => q.2.1 c2), fin]
    by_cases c3 : 9999 < gB u 1 k
    · rw [if_pos c1, if_neg (show ¬ ¬ ¬ 9999 < gB u 0 k from fun q => q c2), if_pos (show ¬ ¬ 9999 < gB u 1 k from fun q => q c3), if_neg (show ¬ (gA u 4 k = 0 ∧ ¬ 9999 < gB u 0 k ∧ ¬ 9999 < gB u 1 k) from fun q => q.2.2 c3), fin]
    have k2 : (gB u 0 k).toInt < 10000 := by rw [Int64.lt_iff_toInt_lt, show (9999 : Int64).toInt = 9999 from rfl] at c2; omega
    have k3 : (gB u 1 k).toInt < 10000 := by rw [Int64.lt_iff_toInt_lt, show (9999 : Int64).toInt = 9999 from rfl] at c3; omega
    rw [if_pos c1, if_neg (show ¬ ¬ ¬ 9999 < gB u 0 k from fun q => q c2), if_neg (show ¬ ¬ ¬ 9999 < gB u 1 k from fun q => q c3), if_pos (show gA u 4 k = 0 ∧ ¬ 9999 < gB u 0 k ∧ ¬ 9999 < gB u 1 k from ⟨c1, c2, c3⟩)]
    have wg : ∀ l : List Int32, l.length + 18 ≤ 570 → RR (pv_X0 L xs) (d + 5) 200 63 [some (.ref 55), some (.int (jI k))] [] (enc (ppM v l)) = _ := fun l hl => (M_writeGame (L := L) (xs := xs) (u := v) (d := d) (h := n0 u k) (a := n1 u k) (f := m0 u k) (g := m1 u k) (dy := n2 u k) (wt := n3 u k) (l := l) (show k < 31 by omega) (r1 ▸ i32_nat w1) (r2 ▸ i32_nat w3) (r3 ▸ i64_nat w6.1) (r4 ▸ i64_nat w7.1) (r5 ▸ i32_nat w8.1) (r6 ▸ i32_nat (by omega)) b1 b2 (by unfold m0; omega) (by unfold m1; omega) b3 b4 hl).trans (fin _)
    unfold gmT
    by_cases q : 0 < (spT u k).length
    · rw [if_neg (show ¬ jI (spT u k).length ≤ 0 by show ¬ jI (spT u k).length ≤ jI 0; rw [jI_le (by omega) (by omega)]; omega), M_write (by omega), pv_bd_some, decide_eq_true q, if_pos (rfl : true = true)]
      refine (wg _ (by rw [List.length_append]; show (spT u k).length + 1 + 18 ≤ 570; omega)).trans ?_
      rw [List.append_assoc]
    · rw [if_pos (show jI (spT u k).length ≤ 0 by show jI (spT u k).length ≤ jI 0; rw [jI_le (by omega) (by omega)]; omega), decide_eq_false q, if_neg Bool.false_ne_true, List.nil_append]
      exact wg _ (by omega), rfl⟩) (a0 := ppM v []) rfl
  subst h2
  refine h1.trans ?_
  show RR (pv_X0 L xs) (d + 5) 200 7 _ _ _ = _
  have e16 : gI (ppM v (spT u N)) 16 = jI N := by rw [gI_ppM, if_neg (by decide)]; exact hN
  rw [B200_7, e16, if_pos jI_end, gI_ppM, if_pos rfl]
theorem gA_ppC24 (h : k < l.length) : gA (ppC u l) 24 k = l.getD k 0 := by
  unfold ppC
  rw [gA_uI, gA_cA, if_pos rfl, if_pos ⟨by omega, by omega⟩, Nat.sub_zero]
theorem gA_ppM34 (h : k < l.length) : gA (ppM u l) 34 k = l.getD k 0 := by
  unfold ppM
  rw [gA_uI, gA_cA, if_pos rfl, if_pos ⟨by omega, by omega⟩, Nat.sub_zero]
theorem gJ_ppC {j : Nat} : gJ (ppC u l) j = gJ u j := rfl
theorem gJ_ppM {j : Nat} : gJ (ppM u l) j = gJ u j := rfl
theorem gB_ppC {q j : Nat} : gB (ppC u l) q j = gB u q j := rfl
theorem gB_ppM {q j : Nat} : gB (ppM u l) q j = gB u q j := rfl
theorem P_spell (h : Inv u) : Both L xs 104 200 [some (.ref 0), none] [some (.ref 55), none] u := by
  have h0 := h
  obtain ⟨⟨b1, b2, b3, b4, b5, b6, b7, b8, b9, b10⟩, ⟨g1, g2⟩, ⟨f1, f2⟩, ⟨t1, t2, t3⟩, ⟨p1, p2, p3⟩, hL, ⟨k1, k2, k3⟩⟩ := h
  have hN := i32_nat b4.1
  have h30 : (gI u 2).toInt.toNat ≤ 30 := by omega
  have hNt : (gI u 2).toInt.toNat = (gI u 2).toInt := by omega
  have hN' := b3.symm.trans hN
  generalize (gI u 2).toInt.toNat = N at *
  have hv : ∀ k, k < N → okG (gI u 1) (gA u 0 k) (gA u 1 k) (gB u 0 k) (gB u 1 k) (gA u 2 k) (gA u 3 k) (gA u 4 k) := fun k hk => g2 k (by omega) (Or.inl (by omega))
  have hb : ∀ j, j < N → n0 u j < 6 ∧ n1 u j < 6 ∧ n2 u j < 100 ∧ n3 u j < 4 := fun j hj => by
    obtain ⟨w1, w2, w3, w4, w5, w6, w7, w8, w9, v1⟩ := hv j hj
    unfold n0 n1 n2 n3
    omega
  have hlen := spT_len hb (k := N) (Nat.le_refl _)
  have eN : (jI (spT u N).length).toInt = ((spT u N).length : Int) := jI_toInt (by omega)
  refine ⟨.int (jI (spT u N).length), ppC u (spT u N), ppM (ppC u (spT u N)) (spT u N), C_spell (d := 96) hN h30 hv b2.2, M_spell (d := 94) (v := ppC u (spT u N)) (by rw [gI_ppC, if_neg (by decide)]; exact hN') h30 hv b2.2 (fun k => ?_), ?_, rfl⟩
  · rw [gA_ppC (by decide), gA_ppC (by decide), gA_ppC (by decide), gA_ppC (by decide), gA_ppC (by decide)]
    exact g1 k
  · generalize spT u N = l at *
    refine ⟨?_, ?_, ?_, ?_, ⟨?_, ?_, fun k hk => ?_⟩, ?_, ?_⟩
    · simp only [invB, gI_ppM, gI_ppC, gJ_ppM, gJ_ppC, Nat.reduceEqDiff, reduceIte]
      exact h0.1
    · simp only [invG, gI_ppM, gI_ppC, gB_ppM, gB_ppC, gA_ppM, gA_ppC, Nat.reduceEqDiff, not_false_eq_true, reduceIte]
      exact h0.2.1
    · simp only [invF, gI_ppM, gI_ppC, gA_ppM, gA_ppC, Nat.reduceEqDiff, not_false_eq_true, reduceIte]
      exact h0.2.2.1
    · simp only [invT, gI_ppM, gI_ppC, gA_ppM, gA_ppC, Nat.reduceEqDiff, not_false_eq_true, reduceIte]
      exact h0.2.2.2.1
    · simp only [gI_ppM, gI_ppC, Nat.reduceEqDiff, reduceIte]
    · simp only [gI_ppM, gI_ppC, Nat.reduceEqDiff, reduceIte]
      rw [inR, eN]
      omega
    · simp only [gI_ppM, gI_ppC, Nat.reduceEqDiff, reduceIte, eN] at hk
      rw [gA_ppM (by decide), gA_ppC24 (by omega), gA_ppM34 (by omega)]
    · simp only [invL, invL1, gB_ppM, gB_ppC, gA_ppM, gA_ppC, Nat.reduceEqDiff, not_false_eq_true, reduceIte]
      exact hL
    · simp only [invK, gI_ppM, gI_ppC, gJ_ppM, gJ_ppC, gB_ppM, gB_ppC, gA_ppM, gA_ppC, Nat.reduceEqDiff, not_false_eq_true, reduceIte]
      exact h0.2.2.2.2.2.2
end SPELL2
