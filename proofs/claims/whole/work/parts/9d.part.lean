/-! the determinant's sign; parts of fractions (printed by wip/whole/ops/pp.py) -/
def fbN : Nat → Nat × Nat
  | 0 => (0, 1)
  | m + 1 => ((fbN m).2, (fbN m).1 + (fbN m).2)
section PART
variable {L : Nat} {xs : Nat → Int32} {u v a b c : pv_U} {d k n N i j r q S p l B : Nat} {x y z w m day lo w4 x4 : Int32} {is1 : Bool} {mt : Nat → Nat → Nat} {pl : Nat → Nat} {s t : Int64}
theorem sI_one {P : Int} : ∀ {n}, i < n → sI (fun s => if i = s then P else 0) n = P := by
  intro n
  induction n with
  | zero => exact fun h => absurd h (by omega)
  | succ n ih =>
    intro h
    show sI (fun s => if i = s then P else 0) n + (if i = n then P else 0) = P
    by_cases e : i = n
    · rw [if_pos e, sI_congr (g := fun _ => 0) (fun s hs => if_neg (by omega)), sI_zero]
      omega
    · rw [if_neg e, ih (by omega)]
      omega
theorem sI_sN {f : Nat → Nat} : ∀ {n}, sI (fun s => (f s : Int)) n = (sN f n : Int) := by
  intro n
  induction n with
  | zero => rfl
  | succ n ih =>
    show sI (fun s => (f s : Int)) n + (f n : Int) = ((sN f n + f n : Nat) : Int)
    rw [ih]
    omega
theorem row_sum {P : Int} (hi : i < n) (h0 : mt i i = 0) : sI (fun s => if i = s then P else -(mt i s : Int)) n = P - (sN (fun s => mt i s) n : Int) := by
  rw [sI_congr (g := fun s => (if i = s then P else 0) + -(mt i s : Int)) (fun s hs => by
    by_cases e : i = s
    · subst e
      rw [if_pos rfl, if_pos rfl, h0]
      omega
    · rw [if_neg e, if_neg e]
      omega), sI_add, sI_one hi, sI_neg, sI_sN]
  show P + -((sN (mt i) n : Nat) : Int) = P - ((sN (mt i) n : Nat) : Int)
  omega
theorem dtm_nn (h2n : 2 ≤ n) (hs : ∀ i, i < n → sN (fun s => mt i s) n = pl i) (h0 : ∀ i, i < n → mt i i = 0) : 0 ≤ dtm (MI is1 n mt pl) n := by
  unfold dtm
  cases is1 with
  | false =>
    have e : ∀ i t, MI false n mt pl i t = if i = t then (pl i : Int) + 2 else -(mt i t : Int) := fun i t => by
      unfold MI
      rw [if_neg (fun q => Bool.false_ne_true q.1), if_neg Bool.false_ne_true]
    refine DI_nn (fun i hi s hs' hsi => ?_) (fun i hi => ?_)
    · show MI false n mt pl i s ≤ 0
      rw [e, if_neg (fun q => hsi q.symm)]
      omega
    · rw [sI_congr (g := fun s => if i = s then (pl i : Int) + 2 else -(mt i s : Int)) (fun s _ => e i s), row_sum hi (h0 i hi), hs i hi]
      omega
  | true =>
    obtain ⟨k, rfl⟩ : ∃ k, n = k + 1 := ⟨n - 1, by omega⟩
    have e : ∀ i t, i < k → MI true (k + 1) mt pl i t = if i = t then (pl i : Int) else -(mt i t : Int) := fun i t hi => by
      unfold MI
      rw [if_neg (fun q => by have := q.2; omega), if_pos rfl, Int.add_zero]
    have e1 : ∀ t, MI true (k + 1) mt pl k t = 1 := fun t => if_pos ⟨rfl, by omega⟩
    have rs : ∀ i, i < k → sI (fun s => MI true (k + 1) mt pl i s) (k + 1) = 0 := fun i hi => by
      rw [sI_congr (g := fun s => if i = s then (pl i : Int) else -(mt i s : Int)) (fun s _ => e i s hi), row_sum (by omega) (h0 i (by omega)), hs i (by omega)]
      omega
    rw [DI_E]
    have z : ∀ t, t < k → -(MI true (k + 1) mt pl k t) * DI k (upC (fun t i => MI true (k + 1) mt pl i t) t (fun i => MI true (k + 1) mt pl i t + MI true (k + 1) mt pl i k)) = 0 := fun t ht => by
      rw [DI_z (by omega) (fun i hi => by
        rw [sI_upd (c := fun t i => MI true (k + 1) mt pl i t) (w := fun i => MI true (k + 1) mt pl i k) ht]
        exact rs i hi), Int.mul_zero]
    rw [sI_congr (g := fun _ => 0) z, sI_zero, Int.add_zero]
    refine Int.mul_nonneg (sI_nn fun t ht => by rw [e1]; decide) (DI_nn (fun i hi s hs' hsi => ?_) (fun i hi => ?_))
    · show MI true (k + 1) mt pl i s ≤ 0
      rw [e i s hi, if_neg (fun q => hsi q.symm)]
      omega
    · have h1 : sI (fun s => MI true (k + 1) mt pl i s) k + MI true (k + 1) mt pl i k = 0 := rs i hi
      rw [e i k hi, if_neg (by omega)] at h1
      omega
theorem dtm_bd (hm : ∀ i j, mt i j ≤ 93) (hp : ∀ i, pl i ≤ 93) : dtm (MI is1 n mt pl) n ≤ dB n := (DI_bd (fun s i hs hi => by
  show -95 ≤ MI is1 n mt pl i s ∧ MI is1 n mt pl i s ≤ 95
  have h1 := hm i s
  have h2 := hp i
  unfold MI
  split
  · decide
  · split
    · split <;> omega
    · omega)).2
theorem dB_6 (hn6 : n ≤ 6) : dB n ≤ 529266150000000 + 73395000000000 := by
  have : ∀ n, n < 7 → dB n ≤ 529266150000000 + 73395000000000 := by decide
  exact this n (by omega)
theorem bm64s {x : Int} (h1 : -9223372036854775808 ≤ x) (h2 : x < 9223372036854775808) : x.bmod Int64.size = x := bm64 h1 h2
theorem ofT64 {x : Int64} : Int64.ofInt x.toInt = x := Int64.toInt_inj.mp (by
  have l1 := x.le_toInt
  have l2 := x.toInt_lt
  rw [Int64.toInt_ofInt]
  exact bm64s (by omega) (by omega))
theorem div64 {x y : Int64} : x / y = Int64.ofInt (x.toInt.tdiv y.toInt) := Int64.toInt_inj.mp (by rw [Int64.toInt_div, Int64.toInt_ofInt])
theorem rem64 {x y : Int64} (h : ¬ y.toInt = 0) : (x - x / y * y).toInt = x.toInt.tmod y.toInt := by
  have e : x - x / y * y = Int64.ofInt (x.toInt.tmod y.toInt) := by
    rw [div64]
    have e1 : x = Int64.ofInt x.toInt := ofT64.symm
    have e2 : y = Int64.ofInt y.toInt := ofT64.symm
    have e3 := Int.mul_tdiv_add_tmod x.toInt y.toInt
    have e4 : x.toInt.tmod y.toInt = x.toInt - x.toInt.tdiv y.toInt * y.toInt := by
      rw [Int.mul_comm] at e3
      omega
    rw [e4, Int64.ofInt_sub, Int64.ofInt_mul, ← e1, ← e2]
  have h1 : (x.toInt.tmod y.toInt).natAbs < y.toInt.natAbs := by
    rw [Int.natAbs_tmod]
    exact Nat.mod_lt _ (by omega)
  have l1 := y.le_toInt
  have l2 := y.toInt_lt
  rw [e, Int64.toInt_ofInt]
  exact bm64s (by omega) (by omega)
theorem fb_pos : ∀ m, 1 ≤ (fbN m).2 := by
  intro m
  induction m with
  | zero => decide
  | succ m ih =>
    show 1 ≤ (fbN m).1 + (fbN m).2
    omega
theorem fb_100 : 9223372036854775808 ≤ (fbN 100).2 := by decide +kernel
theorem ngJ64 {x : Int64} (h : ¬ x.toInt = -9223372036854775808) : (-x).toInt = -x.toInt := by
  have l1 := x.le_toInt
  have l2 := x.toInt_lt
  rw [Int64.toInt_neg]
  exact Int.bmod_eq_of_le (by omega) (by omega)
theorem part_loop {above below : Int64} {A0 : Nat} (hA0 : A0 < 9223372036854775808) : ∀ (B A m : Nat) (cm rs x5 x7 : Int64), cm.toInt = A → rs.toInt = B → x5.toInt.natAbs = A → x7.toInt.natAbs = B → B < A → (fbN m).2 * A + (fbN m).1 * B ≤ A0 → ∃ v : Int64, (∀ (d : Nat) (u : pv_U) (y : Option Value), RR (pv_X0 L xs) d 46 24 [some (.long above), none, some (.long below), none, some (.int x4), some (.long cm), none, some (.long rs), none, some (.int (jI m)), y, none] [] (enc u) = some (some (.long v), enc u)) ∧ ∀ (d : Nat) (u : pv_U) (y : Option Value), RR (pv_X0 L xs) d 157 6 [some (.long above), none, some (.long below), none, some (.int x4), some (.long x5), none, some (.long x7), none, y, none] [] (enc u) = some (some (.long v), enc u) := by
  intro B
  induction B using Nat.strongRecOn with
  | ind B ih =>
    intro A m cm rs x5 x7 h1 h2 h3 h4 h5 h6
    have hm : m < 100 := by
      refine Nat.lt_of_not_le fun hm => ?_
      have mono : ∀ q, (fbN 100).2 ≤ (fbN (100 + q)).2 := by
        intro q
        induction q with
        | zero => exact Nat.le_refl _
        | succ q ih =>
          show (fbN 100).2 ≤ (fbN (100 + q)).1 + (fbN (100 + q)).2
          omega
      have e1 := mono (m - 100)
      rw [show 100 + (m - 100) = m by omega] at e1
      have e2 := fb_100
      have e3 : (fbN m).2 * 1 ≤ (fbN m).2 * A := Nat.mul_le_mul_left _ (by omega)
      omega
    have hlt : ¬ (100 : Int32) ≤ jI m := run_lit (c := 100) (N := 100) rfl hm (by omega)
    have c0 : ¬ cm = 0 := fun q => by
      subst q
      have : (0 : Int) = A := h1
      omega
    by_cases e0 : B = 0
    · subst e0
      have r0 : rs = 0 := Int64.toInt_inj.mp h2
      have s0 : x7 = 0 := Int64.toInt_inj.mp (by
        show x7.toInt = 0
        omega)
      have g : (if ¬ x5 < 0 then x5 else -x5) = cm := by
        refine Int64.toInt_inj.mp ?_
        have l1 := cm.toInt_lt
        by_cases q : x5 < 0
        · rw [if_neg (fun r => r q)]
          rw [Int64.lt_iff_toInt_lt] at q
          have q : x5.toInt < 0 := q
          rw [ngJ64 (by omega)]
          omega
        · rw [if_pos q]
          rw [Int64.lt_iff_toInt_lt] at q
          have q : ¬ x5.toInt < 0 := q
          omega
      refine ⟨if x4 = 0 then above / cm else below / cm, fun d u y => ?_, fun d u y => ?_⟩
      · rw [B46_24, if_neg hlt, if_pos (lg_eq.mpr r0)]
        by_cases e : x4 = 0
        · rw [if_pos e, if_pos e, if_neg c0]
        · rw [if_neg e, if_neg e, if_neg c0]
      · rw [B157_6, if_pos (lg_eq.mpr s0)]
        by_cases q : x5 < 0
        · rw [if_neg (fun r => r q)] at g
          rw [if_neg (fun r => lg_ge.mp r q), g]
          by_cases e : x4 = 0
          · rw [if_pos e, if_pos e, if_neg c0]
          · rw [if_neg e, if_neg e, if_neg c0]
        · rw [if_pos q] at g
          rw [if_pos (lg_ge.mpr q), g]
          by_cases e : x4 = 0
          · rw [if_pos e, if_pos e, if_neg c0]
          · rw [if_neg e, if_neg e, if_neg c0]
    · have nr : ¬ rs.toInt = 0 := by omega
      have nx : ¬ x7.toInt = 0 := by omega
      have f1 : (cm - cm / rs * rs).toInt = ((A % B : Nat) : Int) := by
        rw [rem64 nr, h1, h2]
        have g1 : ((A : Int).tmod B).natAbs = A % B := by
          rw [Int.natAbs_tmod]
          rfl
        have g2 : 0 ≤ (A : Int).tmod B := Int.tmod_nonneg _ (by omega)
        omega
      have f2 : (x5 - x5 / x7 * x7).toInt.natAbs = A % B := by
        rw [rem64 nx, Int.natAbs_tmod, h3, h4]
      have hB : A % B < B := Nat.mod_lt _ (by omega)
      have hd : B + A % B ≤ A := by
        have e1 := Nat.div_add_mod A B
        have e2 : 1 ≤ A / B := (Nat.one_le_div_iff (by omega)).mpr (by omega)
        have e3 : B * 1 ≤ B * (A / B) := Nat.mul_le_mul_left _ e2
        omega
      obtain ⟨v, p1, p2⟩ := ih (A % B) hB B (m + 1) rs (cm - cm / rs * rs) x7 (x5 - x5 / x7 * x7) h2 f1 h4 f2 hB (by
        show ((fbN m).1 + (fbN m).2) * B + (fbN m).2 * (A % B) ≤ A0
        have e1 : (fbN m).2 * (B + A % B) ≤ (fbN m).2 * A := Nat.mul_le_mul_left _ hd
        rw [Nat.mul_add] at e1
        rw [Nat.add_mul]
        omega)
      refine ⟨v, fun d u y => ?_, fun d u y => ?_⟩
      · rw [B46_24, if_neg hlt, if_neg (fun q => nr (by rw [lg_eq.mp q]; rfl)), if_neg (fun q => nr (by rw [q]; rfl)), jI_succ]
        exact p1 d u _
      · rw [B157_6, if_neg (fun q => nx (by rw [lg_eq.mp q]; rfl)), if_neg (fun q => nx (by rw [q]; rfl))]
        exact p2 d u _
theorem part_eq {above below : Int64} (hb : 0 < below.toInt) : ∃ v : Int64, (∀ (d : Nat) (u : pv_U), RR (pv_X0 L xs) (d + 1) 46 0 [some (.long above), none, some (.long below), none, some (.int x4), none, none, none, none, none, none, none] [] (enc u) = some (some (.long v), enc u)) ∧ ∀ (d : Nat) (u : pv_U), RR (pv_X0 L xs) d 157 0 [some (.long above), none, some (.long below), none, some (.int x4), none, none, none, none, none, none] [] (enc u) = some (some (.long v), enc u) := by
  have nb : ¬ below.toInt = 0 := by omega
  have l2 := below.toInt_lt
  have e1 := rem64 (x := above) nb
  have e2 : (above - above / below * below).toInt.natAbs < below.toInt.natAbs := by
    rw [e1, Int.natAbs_tmod]
    exact Nat.mod_lt _ (by omega)
  generalize hr : above - above / below * below = r at *
  have e3 : (if (0 : Int64) < r then r else -r).toInt = (r.toInt.natAbs : Int) := by
    by_cases q : (0 : Int64) < r
    · rw [if_pos q]
      rw [Int64.lt_iff_toInt_lt] at q
      have q : 0 < r.toInt := q
      omega
    · rw [if_neg q]
      rw [Int64.lt_iff_toInt_lt] at q
      have q : ¬ 0 < r.toInt := q
      rw [ngJ64 (by omega)]
      omega
  obtain ⟨v, p1, p2⟩ := part_loop (L := L) (xs := xs) (x4 := x4) (above := above) (below := below) (A0 := below.toInt.natAbs) (by omega) r.toInt.natAbs below.toInt.natAbs 0 below (if (0 : Int64) < r then r else -r) below r (by omega) e3 rfl rfl e2 (by
    show 1 * below.toInt.natAbs + 0 * r.toInt.natAbs ≤ _
    omega)
  have b0 : ¬ below = 0 := fun q => nb (by rw [q]; rfl)
  refine ⟨v, fun d u => ?_, fun d u => ?_⟩
  · rw [B46_0, if_pos (lg_ge.mpr (by
      rw [Int64.lt_iff_toInt_lt]
      show ¬ below.toInt < 1
      omega)), if_neg b0, hr]
    exact p1 _ _ _
  · rw [B157_0, B157_6, if_neg (fun q => b0 (lg_eq.mp q)), if_neg b0, hr]
    exact p2 _ _ _
end PART
