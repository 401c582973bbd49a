/-! the law: one step after another (printed by wip/whole/law.py) -/
section LAW
variable {L : Nat} {xs : Nat → Int32} {u : pv_U} {i k : Nat} {kC kM A B C : Nat} {lC lM : pv_L}
abbrev lwL (i : Nat) : pv_L := [some (.ref 2000000), some (.ref 0), some (.ref 55), some (.int (jI i))]
theorem kd_int {v : Value} (h : kd k v = true) (hl : kdL k = false) : ∃ s, v = .int s := by
  cases v with
  | int s => exact ⟨s, rfl⟩
  | long s => exact absurd ((show kdL k = true from h).symm.trans hl) (by decide)
  | _ => exact absurd (show false = true from h) (by decide)
theorem kd_long {v : Value} (h : kd k v = true) (hl : kdL k = true) : ∃ s, v = .long s := by
  cases v with
  | int s => exact absurd ((show (!(kdL k)) = true from h).symm.trans (congrArg not hl)) (by decide)
  | long s => exact ⟨s, rfl⟩
  | _ => exact absurd (show false = true from h) (by decide)
theorem lx {o : Int32} (ho : o = jI k) (hk : k < 9) (h : i + 9 ≤ L) (hL : L ≤ 4608) {K : Nat → pv_R} : pv_ix (jI i + o) L K = K (i + k) := by
  rw [ho, jI_add]
  exact pv_ixn (by omega) (by omega)
theorem law_int (hb : Both L xs kC kM lC lM u) (hk : kdL kC = false) (s1 : RR (pv_X0 L xs) 100 0 A (lwL i) [] (enc u) = pv_bd (RR (pv_X0 L xs) 99 kC 0 lC [] (enc u)) fun v w => RR (pv_X0 L xs) 100 0 B (lwL i) (v.toList ++ []) w) (s2 : ∀ u s, RR (pv_X0 L xs) 100 0 B (lwL i) [.int s] (enc u) = pv_bd (RR (pv_X0 L xs) 99 kM 0 lM [] (enc u)) fun v w => RR (pv_X0 L xs) 100 0 C (lwL i) (v.toList ++ [.int s]) w) (s3 : ∀ u s, RR (pv_X0 L xs) 100 0 C (lwL i) [.int s, .int s] (enc u) = RR (pv_X0 L xs) 100 0 1797 (lwL i) [] (enc u)) : ∃ u2, RR (pv_X0 L xs) 100 0 A (lwL i) [] (enc u) = RR (pv_X0 L xs) 100 0 1797 (lwL i) [] (enc u2) ∧ Inv u2 := by
  obtain ⟨v, u1, u2, e1, e2, hi, hv⟩ := hb
  obtain ⟨s, rfl⟩ := kd_int hv hk
  refine ⟨u2, ?_, hi⟩
  rw [s1, e1, pv_bd_some]
  simp only [Option.toList_some, List.cons_append, List.nil_append]
  rw [s2, e2, pv_bd_some]
  exact s3 u2 s
theorem law_long (hb : Both L xs kC kM lC lM u) (hk : kdL kC = true) (s1 : RR (pv_X0 L xs) 100 0 A (lwL i) [] (enc u) = pv_bd (RR (pv_X0 L xs) 99 kC 0 lC [] (enc u)) fun v w => RR (pv_X0 L xs) 100 0 B (lwL i) (v.toList ++ []) w) (s2 : ∀ u s, RR (pv_X0 L xs) 100 0 B (lwL i) [.long s] (enc u) = pv_bd (RR (pv_X0 L xs) 99 kM 0 lM [] (enc u)) fun v w => RR (pv_X0 L xs) 100 0 C (lwL i) (v.toList ++ [.long s]) w) (s3 : ∀ u s, RR (pv_X0 L xs) 100 0 C (lwL i) [.long s, .long s] (enc u) = RR (pv_X0 L xs) 100 0 1797 (lwL i) [] (enc u)) : ∃ u2, RR (pv_X0 L xs) 100 0 A (lwL i) [] (enc u) = RR (pv_X0 L xs) 100 0 1797 (lwL i) [] (enc u2) ∧ Inv u2 := by
  obtain ⟨v, u1, u2, e1, e2, hi, hv⟩ := hb
  obtain ⟨s, rfl⟩ := kd_long hv hk
  refine ⟨u2, ?_, hi⟩
  rw [s1, e1, pv_bd_some]
  simp only [Option.toList_some, List.cons_append, List.nil_append]
  rw [s2, e2, pv_bd_some]
  exact s3 u2 s
theorem law_c0 (hi : Inv u) (h : i + 9 ≤ L) (hL : L ≤ 4608) : ∃ u2, RR (pv_X0 L xs) 100 0 33 (lwL i) [.int (jI 0)] (enc u) = RR (pv_X0 L xs) 100 0 1797 (lwL i) [] (enc u2) ∧ Inv u2 := by
  obtain ⟨u2, e, h2⟩ := law_int (A := 208) (B := 217) (C := 226) (i := i) (P_teams (L := L) (xs := xs) (x := (xs (i + 1))) hi) rfl (by show RR (pv_X0 L xs) (99 + 1) 0 208 _ _ _ = _; rw [B0_208, lx (o := (1 : Int32)) (k := 1) rfl (by decide) h hL]) (fun u s => by show RR (pv_X0 L xs) (99 + 1) 0 217 _ _ _ = _; rw [B0_217, lx (o := (1 : Int32)) (k := 1) rfl (by decide) h hL]) (fun u s => by rw [B0_226, if_pos rfl])
  exact ⟨u2, Eq.trans B0_33_0 e, h2⟩
theorem law_c1 (hi : Inv u) (h : i + 9 ≤ L) (hL : L ≤ 4608) : ∃ u2, RR (pv_X0 L xs) 100 0 33 (lwL i) [.int (jI 1)] (enc u) = RR (pv_X0 L xs) 100 0 1797 (lwL i) [] (enc u2) ∧ Inv u2 := by
  obtain ⟨u2, e, h2⟩ := law_int (A := 231) (B := 298) (C := 365) (i := i) (P_game (L := L) (xs := xs) (x := (xs (i + 1))) (y := (xs (i + 2))) (p := ((((xs (i + 3))).toInt64 <<< (((32 : Int32)).toInt64 &&& 63)) ||| (((xs (i + 4))).toInt64 &&& (4294967295 : Int64)))) (q := ((((xs (i + 5))).toInt64 <<< (((32 : Int32)).toInt64 &&& 63)) ||| (((xs (i + 6))).toInt64 &&& (4294967295 : Int64)))) (z := (xs (i + 7))) (w := (xs (i + 8))) hi) rfl (by show RR (pv_X0 L xs) (99 + 1) 0 231 _ _ _ = _; rw [B0_231, lx (o := (1 : Int32)) (k := 1) rfl (by decide) h hL, lx (o := (2 : Int32)) (k := 2) rfl (by decide) h hL, lx (o := (3 : Int32)) (k := 3) rfl (by decide) h hL, lx (o := (4 : Int32)) (k := 4) rfl (by decide) h hL, lx (o := (5 : Int32)) (k := 5) rfl (by decide) h hL, lx (o := (6 : Int32)) (k := 6) rfl (by decide) h hL, lx (o := (7 : Int32)) (k := 7) rfl (by decide) h hL, lx (o := (8 : Int32)) (k := 8) rfl (by decide) h hL]) (fun u s => by show RR (pv_X0 L xs) (99 + 1) 0 298 _ _ _ = _; rw [B0_298, lx (o := (1 : Int32)) (k := 1) rfl (by decide) h hL, lx (o := (2 : Int32)) (k := 2) rfl (by decide) h hL, lx (o := (3 : Int32)) (k := 3) rfl (by decide) h hL, lx (o := (4 : Int32)) (k := 4) rfl (by decide) h hL, lx (o := (5 : Int32)) (k := 5) rfl (by decide) h hL, lx (o := (6 : Int32)) (k := 6) rfl (by decide) h hL, lx (o := (7 : Int32)) (k := 7) rfl (by decide) h hL, lx (o := (8 : Int32)) (k := 8) rfl (by decide) h hL]) (fun u s => by rw [B0_365, if_pos rfl])
  exact ⟨u2, Eq.trans B0_33_1 e, h2⟩
theorem law_c2 (hi : Inv u) (h : i + 9 ≤ L) (hL : L ≤ 4608) : ∃ u2, RR (pv_X0 L xs) 100 0 33 (lwL i) [.int (jI 2)] (enc u) = RR (pv_X0 L xs) 100 0 1797 (lwL i) [] (enc u2) ∧ Inv u2 := by
  obtain ⟨u2, e, h2⟩ := law_long (A := 370) (B := 384) (C := 398) (i := i) (P_of (L := L) (xs := xs) (x := (xs (i + 1))) (y := (xs (i + 2))) hi) rfl (by show RR (pv_X0 L xs) (99 + 1) 0 370 _ _ _ = _; rw [B0_370, lx (o := (1 : Int32)) (k := 1) rfl (by decide) h hL, lx (o := (2 : Int32)) (k := 2) rfl (by decide) h hL]) (fun u s => by show RR (pv_X0 L xs) (99 + 1) 0 384 _ _ _ = _; rw [B0_384, lx (o := (1 : Int32)) (k := 1) rfl (by decide) h hL, lx (o := (2 : Int32)) (k := 2) rfl (by decide) h hL]) (fun u s => by rw [B0_398, if_pos (lg_eq.mpr rfl)])
  exact ⟨u2, Eq.trans B0_33_2 e, h2⟩
theorem law_c3 (hi : Inv u) (h : i + 9 ≤ L) (hL : L ≤ 4608) : ∃ u2, RR (pv_X0 L xs) 100 0 33 (lwL i) [.int (jI 3)] (enc u) = RR (pv_X0 L xs) 100 0 1797 (lwL i) [] (enc u2) ∧ Inv u2 := by
  obtain ⟨u2, e, h2⟩ := law_int (A := 404) (B := 418) (C := 432) (i := i) (P_voids (L := L) (xs := xs) (x := (xs (i + 1))) (y := (xs (i + 2))) hi) rfl (by show RR (pv_X0 L xs) (99 + 1) 0 404 _ _ _ = _; rw [B0_404, lx (o := (1 : Int32)) (k := 1) rfl (by decide) h hL, lx (o := (2 : Int32)) (k := 2) rfl (by decide) h hL]) (fun u s => by show RR (pv_X0 L xs) (99 + 1) 0 418 _ _ _ = _; rw [B0_418, lx (o := (1 : Int32)) (k := 1) rfl (by decide) h hL, lx (o := (2 : Int32)) (k := 2) rfl (by decide) h hL]) (fun u s => by rw [B0_432, if_pos rfl])
  exact ⟨u2, Eq.trans B0_33_3 e, h2⟩
theorem law_c4 (hi : Inv u) (h : i + 9 ≤ L) (hL : L ≤ 4608) : ∃ u2, RR (pv_X0 L xs) 100 0 33 (lwL i) [.int (jI 4)] (enc u) = RR (pv_X0 L xs) 100 0 1797 (lwL i) [] (enc u2) ∧ Inv u2 := by
  obtain ⟨u2, e, h2⟩ := law_long (A := 437) (B := 461) (C := 485) (i := i) (P_cap (L := L) (xs := xs) (x := ((((xs (i + 1))).toInt64 <<< (((32 : Int32)).toInt64 &&& 63)) ||| (((xs (i + 2))).toInt64 &&& (4294967295 : Int64)))) hi) rfl (by show RR (pv_X0 L xs) (99 + 1) 0 437 _ _ _ = _; rw [B0_437, lx (o := (1 : Int32)) (k := 1) rfl (by decide) h hL, lx (o := (2 : Int32)) (k := 2) rfl (by decide) h hL]) (fun u s => by show RR (pv_X0 L xs) (99 + 1) 0 461 _ _ _ = _; rw [B0_461, lx (o := (1 : Int32)) (k := 1) rfl (by decide) h hL, lx (o := (2 : Int32)) (k := 2) rfl (by decide) h hL]) (fun u s => by rw [B0_485, if_pos (lg_eq.mpr rfl)])
  exact ⟨u2, Eq.trans B0_33_4 e, h2⟩
theorem law_c5 (hi : Inv u) (h : i + 9 ≤ L) (hL : L ≤ 4608) : ∃ u2, RR (pv_X0 L xs) 100 0 33 (lwL i) [.int (jI 5)] (enc u) = RR (pv_X0 L xs) 100 0 1797 (lwL i) [] (enc u2) ∧ Inv u2 := by
  obtain ⟨u2, e, h2⟩ := law_int (A := 491) (B := 495) (C := 499) (i := i) (P_drop (L := L) (xs := xs)  hi) rfl (by show RR (pv_X0 L xs) (99 + 1) 0 491 _ _ _ = _; rw [B0_491]) (fun u s => by show RR (pv_X0 L xs) (99 + 1) 0 495 _ _ _ = _; rw [B0_495]) (fun u s => by rw [B0_499, if_pos rfl])
  exact ⟨u2, Eq.trans B0_33_5 e, h2⟩
theorem law_c6 (hi : Inv u) (h : i + 9 ≤ L) (hL : L ≤ 4608) : ∃ u2, RR (pv_X0 L xs) 100 0 33 (lwL i) [.int (jI 6)] (enc u) = RR (pv_X0 L xs) 100 0 1797 (lwL i) [] (enc u2) ∧ Inv u2 := by
  obtain ⟨u2, e, h2⟩ := law_long (A := 504) (B := 528) (C := 552) (i := i) (P_matrix (L := L) (xs := xs) (x := (xs (i + 1))) (y := (xs (i + 2))) (z := (xs (i + 3))) (w := (xs (i + 4))) hi) rfl (by show RR (pv_X0 L xs) (99 + 1) 0 504 _ _ _ = _; rw [B0_504, lx (o := (1 : Int32)) (k := 1) rfl (by decide) h hL, lx (o := (2 : Int32)) (k := 2) rfl (by decide) h hL, lx (o := (3 : Int32)) (k := 3) rfl (by decide) h hL, lx (o := (4 : Int32)) (k := 4) rfl (by decide) h hL]) (fun u s => by show RR (pv_X0 L xs) (99 + 1) 0 528 _ _ _ = _; rw [B0_528, lx (o := (1 : Int32)) (k := 1) rfl (by decide) h hL, lx (o := (2 : Int32)) (k := 2) rfl (by decide) h hL, lx (o := (3 : Int32)) (k := 3) rfl (by decide) h hL, lx (o := (4 : Int32)) (k := 4) rfl (by decide) h hL]) (fun u s => by rw [B0_552, if_pos (lg_eq.mpr rfl)])
  exact ⟨u2, Eq.trans B0_33_6 e, h2⟩
theorem law_c7 (hi : Inv u) (h : i + 9 ≤ L) (hL : L ≤ 4608) : ∃ u2, RR (pv_X0 L xs) 100 0 33 (lwL i) [.int (jI 7)] (enc u) = RR (pv_X0 L xs) 100 0 1797 (lwL i) [] (enc u2) ∧ Inv u2 := by
  obtain ⟨u2, e, h2⟩ := law_long (A := 558) (B := 577) (C := 596) (i := i) (P_right (L := L) (xs := xs) (x := (xs (i + 1))) (y := (xs (i + 2))) (z := (xs (i + 3))) hi) rfl (by show RR (pv_X0 L xs) (99 + 1) 0 558 _ _ _ = _; rw [B0_558, lx (o := (1 : Int32)) (k := 1) rfl (by decide) h hL, lx (o := (2 : Int32)) (k := 2) rfl (by decide) h hL, lx (o := (3 : Int32)) (k := 3) rfl (by decide) h hL]) (fun u s => by show RR (pv_X0 L xs) (99 + 1) 0 577 _ _ _ = _; rw [B0_577, lx (o := (1 : Int32)) (k := 1) rfl (by decide) h hL, lx (o := (2 : Int32)) (k := 2) rfl (by decide) h hL, lx (o := (3 : Int32)) (k := 3) rfl (by decide) h hL]) (fun u s => by rw [B0_596, if_pos (lg_eq.mpr rfl)])
  exact ⟨u2, Eq.trans B0_33_7 e, h2⟩
theorem law_c8 (hi : Inv u) (h : i + 9 ≤ L) (hL : L ≤ 4608) : ∃ u2, RR (pv_X0 L xs) 100 0 33 (lwL i) [.int (jI 8)] (enc u) = RR (pv_X0 L xs) 100 0 1797 (lwL i) [] (enc u2) ∧ Inv u2 := by
  obtain ⟨u2, e, h2⟩ := law_long (A := 602) (B := 616) (C := 630) (i := i) (P_det (L := L) (xs := xs) (x := (xs (i + 1))) (y := (xs (i + 2))) hi) rfl (by show RR (pv_X0 L xs) (99 + 1) 0 602 _ _ _ = _; rw [B0_602, lx (o := (1 : Int32)) (k := 1) rfl (by decide) h hL, lx (o := (2 : Int32)) (k := 2) rfl (by decide) h hL]) (fun u s => by show RR (pv_X0 L xs) (99 + 1) 0 616 _ _ _ = _; rw [B0_616, lx (o := (1 : Int32)) (k := 1) rfl (by decide) h hL, lx (o := (2 : Int32)) (k := 2) rfl (by decide) h hL]) (fun u s => by rw [B0_630, if_pos (lg_eq.mpr rfl)])
  exact ⟨u2, Eq.trans B0_33_8 e, h2⟩
theorem law_c9 (hi : Inv u) (h : i + 9 ≤ L) (hL : L ≤ 4608) : ∃ u2, RR (pv_X0 L xs) 100 0 33 (lwL i) [.int (jI 9)] (enc u) = RR (pv_X0 L xs) 100 0 1797 (lwL i) [] (enc u2) ∧ Inv u2 := by
  obtain ⟨u2, e, h2⟩ := law_long (A := 636) (B := 660) (C := 684) (i := i) (P_cofactor (L := L) (xs := xs) (x := (xs (i + 1))) (y := (xs (i + 2))) (z := (xs (i + 3))) (w := (xs (i + 4))) hi) rfl (by show RR (pv_X0 L xs) (99 + 1) 0 636 _ _ _ = _; rw [B0_636, lx (o := (1 : Int32)) (k := 1) rfl (by decide) h hL, lx (o := (2 : Int32)) (k := 2) rfl (by decide) h hL, lx (o := (3 : Int32)) (k := 3) rfl (by decide) h hL, lx (o := (4 : Int32)) (k := 4) rfl (by decide) h hL]) (fun u s => by show RR (pv_X0 L xs) (99 + 1) 0 660 _ _ _ = _; rw [B0_660, lx (o := (1 : Int32)) (k := 1) rfl (by decide) h hL, lx (o := (2 : Int32)) (k := 2) rfl (by decide) h hL, lx (o := (3 : Int32)) (k := 3) rfl (by decide) h hL, lx (o := (4 : Int32)) (k := 4) rfl (by decide) h hL]) (fun u s => by rw [B0_684, if_pos (lg_eq.mpr rfl)])
  exact ⟨u2, Eq.trans B0_33_9 e, h2⟩
theorem law_c10 (hi : Inv u) (h : i + 9 ≤ L) (hL : L ≤ 4608) : ∃ u2, RR (pv_X0 L xs) 100 0 33 (lwL i) [.int (jI 10)] (enc u) = RR (pv_X0 L xs) 100 0 1797 (lwL i) [] (enc u2) ∧ Inv u2 := by
  obtain ⟨u2, e, h2⟩ := law_long (A := 690) (B := 714) (C := 738) (i := i) (P_rating (L := L) (xs := xs) (x := (xs (i + 1))) (y := (xs (i + 2))) (z := (xs (i + 3))) (w := (xs (i + 4))) hi) rfl (by show RR (pv_X0 L xs) (99 + 1) 0 690 _ _ _ = _; rw [B0_690, lx (o := (1 : Int32)) (k := 1) rfl (by decide) h hL, lx (o := (2 : Int32)) (k := 2) rfl (by decide) h hL, lx (o := (3 : Int32)) (k := 3) rfl (by decide) h hL, lx (o := (4 : Int32)) (k := 4) rfl (by decide) h hL]) (fun u s => by show RR (pv_X0 L xs) (99 + 1) 0 714 _ _ _ = _; rw [B0_714, lx (o := (1 : Int32)) (k := 1) rfl (by decide) h hL, lx (o := (2 : Int32)) (k := 2) rfl (by decide) h hL, lx (o := (3 : Int32)) (k := 3) rfl (by decide) h hL, lx (o := (4 : Int32)) (k := 4) rfl (by decide) h hL]) (fun u s => by rw [B0_738, if_pos (lg_eq.mpr rfl)])
  exact ⟨u2, Eq.trans B0_33_10 e, h2⟩
theorem law_c11 (hi : Inv u) (h : i + 9 ≤ L) (hL : L ≤ 4608) : ∃ u2, RR (pv_X0 L xs) 100 0 33 (lwL i) [.int (jI 11)] (enc u) = RR (pv_X0 L xs) 100 0 1797 (lwL i) [] (enc u2) ∧ Inv u2 := by
  obtain ⟨u2, e, h2⟩ := law_int (A := 744) (B := 763) (C := 782) (i := i) (P_rank (L := L) (xs := xs) (x := (xs (i + 1))) (y := (xs (i + 2))) (z := (xs (i + 3))) hi) rfl (by show RR (pv_X0 L xs) (99 + 1) 0 744 _ _ _ = _; rw [B0_744, lx (o := (1 : Int32)) (k := 1) rfl (by decide) h hL, lx (o := (2 : Int32)) (k := 2) rfl (by decide) h hL, lx (o := (3 : Int32)) (k := 3) rfl (by decide) h hL]) (fun u s => by show RR (pv_X0 L xs) (99 + 1) 0 763 _ _ _ = _; rw [B0_763, lx (o := (1 : Int32)) (k := 1) rfl (by decide) h hL, lx (o := (2 : Int32)) (k := 2) rfl (by decide) h hL, lx (o := (3 : Int32)) (k := 3) rfl (by decide) h hL]) (fun u s => by rw [B0_782, if_pos rfl])
  exact ⟨u2, Eq.trans B0_33_11 e, h2⟩
theorem law_c12 (hi : Inv u) (h : i + 9 ≤ L) (hL : L ≤ 4608) : ∃ u2, RR (pv_X0 L xs) 100 0 33 (lwL i) [.int (jI 12)] (enc u) = RR (pv_X0 L xs) 100 0 1797 (lwL i) [] (enc u2) ∧ Inv u2 := by
  obtain ⟨u2, e, h2⟩ := law_long (A := 787) (B := 811) (C := 835) (i := i) (P_schedule (L := L) (xs := xs) (x := (xs (i + 1))) (y := (xs (i + 2))) (z := (xs (i + 3))) (w := (xs (i + 4))) hi) rfl (by show RR (pv_X0 L xs) (99 + 1) 0 787 _ _ _ = _; rw [B0_787, lx (o := (1 : Int32)) (k := 1) rfl (by decide) h hL, lx (o := (2 : Int32)) (k := 2) rfl (by decide) h hL, lx (o := (3 : Int32)) (k := 3) rfl (by decide) h hL, lx (o := (4 : Int32)) (k := 4) rfl (by decide) h hL]) (fun u s => by show RR (pv_X0 L xs) (99 + 1) 0 811 _ _ _ = _; rw [B0_811, lx (o := (1 : Int32)) (k := 1) rfl (by decide) h hL, lx (o := (2 : Int32)) (k := 2) rfl (by decide) h hL, lx (o := (3 : Int32)) (k := 3) rfl (by decide) h hL, lx (o := (4 : Int32)) (k := 4) rfl (by decide) h hL]) (fun u s => by rw [B0_835, if_pos (lg_eq.mpr rfl)])
  exact ⟨u2, Eq.trans B0_33_12 e, h2⟩
theorem law_c13 (hi : Inv u) (h : i + 9 ≤ L) (hL : L ≤ 4608) : ∃ u2, RR (pv_X0 L xs) 100 0 33 (lwL i) [.int (jI 13)] (enc u) = RR (pv_X0 L xs) 100 0 1797 (lwL i) [] (enc u2) ∧ Inv u2 := by
  obtain ⟨u2, e, h2⟩ := law_int (A := 841) (B := 865) (C := 889) (i := i) (P_predict (L := L) (xs := xs) (x := (xs (i + 1))) (y := (xs (i + 2))) (z := (xs (i + 3))) (w := (xs (i + 4))) hi) rfl (by show RR (pv_X0 L xs) (99 + 1) 0 841 _ _ _ = _; rw [B0_841, lx (o := (1 : Int32)) (k := 1) rfl (by decide) h hL, lx (o := (2 : Int32)) (k := 2) rfl (by decide) h hL, lx (o := (3 : Int32)) (k := 3) rfl (by decide) h hL, lx (o := (4 : Int32)) (k := 4) rfl (by decide) h hL]) (fun u s => by show RR (pv_X0 L xs) (99 + 1) 0 865 _ _ _ = _; rw [B0_865, lx (o := (1 : Int32)) (k := 1) rfl (by decide) h hL, lx (o := (2 : Int32)) (k := 2) rfl (by decide) h hL, lx (o := (3 : Int32)) (k := 3) rfl (by decide) h hL, lx (o := (4 : Int32)) (k := 4) rfl (by decide) h hL]) (fun u s => by rw [B0_889, if_pos rfl])
  exact ⟨u2, Eq.trans B0_33_13 e, h2⟩
theorem law_c14 (hi : Inv u) (h : i + 9 ≤ L) (hL : L ≤ 4608) : ∃ u2, RR (pv_X0 L xs) 100 0 33 (lwL i) [.int (jI 14)] (enc u) = RR (pv_X0 L xs) 100 0 1797 (lwL i) [] (enc u2) ∧ Inv u2 := by
  obtain ⟨u2, e, h2⟩ := law_int (A := 894) (B := 908) (C := 922) (i := i) (P_upsets (L := L) (xs := xs) (x := (xs (i + 1))) (y := (xs (i + 2))) hi) rfl (by show RR (pv_X0 L xs) (99 + 1) 0 894 _ _ _ = _; rw [B0_894, lx (o := (1 : Int32)) (k := 1) rfl (by decide) h hL, lx (o := (2 : Int32)) (k := 2) rfl (by decide) h hL]) (fun u s => by show RR (pv_X0 L xs) (99 + 1) 0 908 _ _ _ = _; rw [B0_908, lx (o := (1 : Int32)) (k := 1) rfl (by decide) h hL, lx (o := (2 : Int32)) (k := 2) rfl (by decide) h hL]) (fun u s => by rw [B0_922, if_pos rfl])
  exact ⟨u2, Eq.trans B0_33_14 e, h2⟩
theorem law_c15 (hi : Inv u) (h : i + 9 ≤ L) (hL : L ≤ 4608) : ∃ u2, RR (pv_X0 L xs) 100 0 33 (lwL i) [.int (jI 15)] (enc u) = RR (pv_X0 L xs) 100 0 1797 (lwL i) [] (enc u2) ∧ Inv u2 := by
  obtain ⟨u2, e, h2⟩ := law_int (A := 927) (B := 982) (C := 1037) (i := i) (P_guess (L := L) (xs := xs) (x := (xs (i + 1))) (y := (xs (i + 2))) (p := ((((xs (i + 3))).toInt64 <<< (((32 : Int32)).toInt64 &&& 63)) ||| (((xs (i + 4))).toInt64 &&& (4294967295 : Int64)))) (q := ((((xs (i + 5))).toInt64 <<< (((32 : Int32)).toInt64 &&& 63)) ||| (((xs (i + 6))).toInt64 &&& (4294967295 : Int64)))) hi) rfl (by show RR (pv_X0 L xs) (99 + 1) 0 927 _ _ _ = _; rw [B0_927, lx (o := (1 : Int32)) (k := 1) rfl (by decide) h hL, lx (o := (2 : Int32)) (k := 2) rfl (by decide) h hL, lx (o := (3 : Int32)) (k := 3) rfl (by decide) h hL, lx (o := (4 : Int32)) (k := 4) rfl (by decide) h hL, lx (o := (5 : Int32)) (k := 5) rfl (by decide) h hL, lx (o := (6 : Int32)) (k := 6) rfl (by decide) h hL]) (fun u s => by show RR (pv_X0 L xs) (99 + 1) 0 982 _ _ _ = _; rw [B0_982, lx (o := (1 : Int32)) (k := 1) rfl (by decide) h hL, lx (o := (2 : Int32)) (k := 2) rfl (by decide) h hL, lx (o := (3 : Int32)) (k := 3) rfl (by decide) h hL, lx (o := (4 : Int32)) (k := 4) rfl (by decide) h hL, lx (o := (5 : Int32)) (k := 5) rfl (by decide) h hL, lx (o := (6 : Int32)) (k := 6) rfl (by decide) h hL]) (fun u s => by rw [B0_1037, if_pos rfl])
  exact ⟨u2, Eq.trans B0_33_15 e, h2⟩
theorem law_c16 (hi : Inv u) (h : i + 9 ≤ L) (hL : L ≤ 4608) : ∃ u2, RR (pv_X0 L xs) 100 0 33 (lwL i) [.int (jI 16)] (enc u) = RR (pv_X0 L xs) 100 0 1797 (lwL i) [] (enc u2) ∧ Inv u2 := by
  obtain ⟨u2, e, h2⟩ := law_long (A := 1042) (B := 1066) (C := 1090) (i := i) (P_would (L := L) (xs := xs) (x := (xs (i + 1))) (y := (xs (i + 2))) (z := (xs (i + 3))) (w := (xs (i + 4))) hi) rfl (by show RR (pv_X0 L xs) (99 + 1) 0 1042 _ _ _ = _; rw [B0_1042, lx (o := (1 : Int32)) (k := 1) rfl (by decide) h hL, lx (o := (2 : Int32)) (k := 2) rfl (by decide) h hL, lx (o := (3 : Int32)) (k := 3) rfl (by decide) h hL, lx (o := (4 : Int32)) (k := 4) rfl (by decide) h hL]) (fun u s => by show RR (pv_X0 L xs) (99 + 1) 0 1066 _ _ _ = _; rw [B0_1066, lx (o := (1 : Int32)) (k := 1) rfl (by decide) h hL, lx (o := (2 : Int32)) (k := 2) rfl (by decide) h hL, lx (o := (3 : Int32)) (k := 3) rfl (by decide) h hL, lx (o := (4 : Int32)) (k := 4) rfl (by decide) h hL]) (fun u s => by rw [B0_1090, if_pos (lg_eq.mpr rfl)])
  exact ⟨u2, Eq.trans B0_33_16 e, h2⟩
theorem law_c17 (hi : Inv u) (h : i + 9 ≤ L) (hL : L ≤ 4608) : ∃ u2, RR (pv_X0 L xs) 100 0 33 (lwL i) [.int (jI 17)] (enc u) = RR (pv_X0 L xs) 100 0 1797 (lwL i) [] (enc u2) ∧ Inv u2 := by
  obtain ⟨u2, e, h2⟩ := law_long (A := 1096) (B := 1125) (C := 1154) (i := i) (P_without (L := L) (xs := xs) (x := (xs (i + 1))) (y := (xs (i + 2))) (e := (xs (i + 3))) (z := (xs (i + 4))) (w := (xs (i + 5))) hi) rfl (by show RR (pv_X0 L xs) (99 + 1) 0 1096 _ _ _ = _; rw [B0_1096, lx (o := (1 : Int32)) (k := 1) rfl (by decide) h hL, lx (o := (2 : Int32)) (k := 2) rfl (by decide) h hL, lx (o := (3 : Int32)) (k := 3) rfl (by decide) h hL, lx (o := (4 : Int32)) (k := 4) rfl (by decide) h hL, lx (o := (5 : Int32)) (k := 5) rfl (by decide) h hL]) (fun u s => by show RR (pv_X0 L xs) (99 + 1) 0 1125 _ _ _ = _; rw [B0_1125, lx (o := (1 : Int32)) (k := 1) rfl (by decide) h hL, lx (o := (2 : Int32)) (k := 2) rfl (by decide) h hL, lx (o := (3 : Int32)) (k := 3) rfl (by decide) h hL, lx (o := (4 : Int32)) (k := 4) rfl (by decide) h hL, lx (o := (5 : Int32)) (k := 5) rfl (by decide) h hL]) (fun u s => by rw [B0_1154, if_pos (lg_eq.mpr rfl)])
  exact ⟨u2, Eq.trans B0_33_17 e, h2⟩
theorem law_c18 (hi : Inv u) (h : i + 9 ≤ L) (hL : L ≤ 4608) : ∃ u2, RR (pv_X0 L xs) 100 0 33 (lwL i) [.int (jI 18)] (enc u) = RR (pv_X0 L xs) 100 0 1797 (lwL i) [] (enc u2) ∧ Inv u2 := by
  obtain ⟨u2, e, h2⟩ := law_int (A := 1160) (B := 1179) (C := 1198) (i := i) (P_upturns (L := L) (xs := xs) (x := (xs (i + 1))) (y := (xs (i + 2))) (z := (xs (i + 3))) hi) rfl (by show RR (pv_X0 L xs) (99 + 1) 0 1160 _ _ _ = _; rw [B0_1160, lx (o := (1 : Int32)) (k := 1) rfl (by decide) h hL, lx (o := (2 : Int32)) (k := 2) rfl (by decide) h hL, lx (o := (3 : Int32)) (k := 3) rfl (by decide) h hL]) (fun u s => by show RR (pv_X0 L xs) (99 + 1) 0 1179 _ _ _ = _; rw [B0_1179, lx (o := (1 : Int32)) (k := 1) rfl (by decide) h hL, lx (o := (2 : Int32)) (k := 2) rfl (by decide) h hL, lx (o := (3 : Int32)) (k := 3) rfl (by decide) h hL]) (fun u s => by rw [B0_1198, if_pos rfl])
  exact ⟨u2, Eq.trans B0_33_18 e, h2⟩
theorem law_c19 (hi : Inv u) (h : i + 9 ≤ L) (hL : L ≤ 4608) : ∃ u2, RR (pv_X0 L xs) 100 0 33 (lwL i) [.int (jI 19)] (enc u) = RR (pv_X0 L xs) 100 0 1797 (lwL i) [] (enc u2) ∧ Inv u2 := by
  obtain ⟨u2, e, h2⟩ := law_int (A := 1203) (B := 1217) (C := 1231) (i := i) (P_duel (L := L) (xs := xs) (x := (xs (i + 1))) (y := (xs (i + 2))) hi) rfl (by show RR (pv_X0 L xs) (99 + 1) 0 1203 _ _ _ = _; rw [B0_1203, lx (o := (1 : Int32)) (k := 1) rfl (by decide) h hL, lx (o := (2 : Int32)) (k := 2) rfl (by decide) h hL]) (fun u s => by show RR (pv_X0 L xs) (99 + 1) 0 1217 _ _ _ = _; rw [B0_1217, lx (o := (1 : Int32)) (k := 1) rfl (by decide) h hL, lx (o := (2 : Int32)) (k := 2) rfl (by decide) h hL]) (fun u s => by rw [B0_1231, if_pos rfl])
  exact ⟨u2, Eq.trans B0_33_19 e, h2⟩
theorem law_c20 (hi : Inv u) (h : i + 9 ≤ L) (hL : L ≤ 4608) : ∃ u2, RR (pv_X0 L xs) 100 0 33 (lwL i) [.int (jI 20)] (enc u) = RR (pv_X0 L xs) 100 0 1797 (lwL i) [] (enc u2) ∧ Inv u2 := by
  obtain ⟨u2, e, h2⟩ := law_int (A := 1236) (B := 1255) (C := 1274) (i := i) (P_beaten (L := L) (xs := xs) (z := (xs (i + 1))) (x := (xs (i + 2))) (y := (xs (i + 3))) hi) rfl (by show RR (pv_X0 L xs) (99 + 1) 0 1236 _ _ _ = _; rw [B0_1236, lx (o := (1 : Int32)) (k := 1) rfl (by decide) h hL, lx (o := (2 : Int32)) (k := 2) rfl (by decide) h hL, lx (o := (3 : Int32)) (k := 3) rfl (by decide) h hL]) (fun u s => by show RR (pv_X0 L xs) (99 + 1) 0 1255 _ _ _ = _; rw [B0_1255, lx (o := (1 : Int32)) (k := 1) rfl (by decide) h hL, lx (o := (2 : Int32)) (k := 2) rfl (by decide) h hL, lx (o := (3 : Int32)) (k := 3) rfl (by decide) h hL]) (fun u s => by rw [B0_1274, if_pos rfl])
  exact ⟨u2, Eq.trans B0_33_20 e, h2⟩
theorem law_c21 (hi : Inv u) (h : i + 9 ≤ L) (hL : L ≤ 4608) : ∃ u2, RR (pv_X0 L xs) 100 0 33 (lwL i) [.int (jI 21)] (enc u) = RR (pv_X0 L xs) 100 0 1797 (lwL i) [] (enc u2) ∧ Inv u2 := by
  obtain ⟨u2, e, h2⟩ := law_int (A := 1279) (B := 1288) (C := 1297) (i := i) (P_rings (L := L) (xs := xs) (z := (xs (i + 1))) hi) rfl (by show RR (pv_X0 L xs) (99 + 1) 0 1279 _ _ _ = _; rw [B0_1279, lx (o := (1 : Int32)) (k := 1) rfl (by decide) h hL]) (fun u s => by show RR (pv_X0 L xs) (99 + 1) 0 1288 _ _ _ = _; rw [B0_1288, lx (o := (1 : Int32)) (k := 1) rfl (by decide) h hL]) (fun u s => by rw [B0_1297, if_pos rfl])
  exact ⟨u2, Eq.trans B0_33_21 e, h2⟩
theorem law_c22 (hi : Inv u) (h : i + 9 ≤ L) (hL : L ≤ 4608) : ∃ u2, RR (pv_X0 L xs) 100 0 33 (lwL i) [.int (jI 22)] (enc u) = RR (pv_X0 L xs) 100 0 1797 (lwL i) [] (enc u2) ∧ Inv u2 := by
  obtain ⟨u2, e, h2⟩ := law_int (A := 1302) (B := 1316) (C := 1330) (i := i) (P_fixture (L := L) (xs := xs) (x := (xs (i + 1))) (y := (xs (i + 2))) hi) rfl (by show RR (pv_X0 L xs) (99 + 1) 0 1302 _ _ _ = _; rw [B0_1302, lx (o := (1 : Int32)) (k := 1) rfl (by decide) h hL, lx (o := (2 : Int32)) (k := 2) rfl (by decide) h hL]) (fun u s => by show RR (pv_X0 L xs) (99 + 1) 0 1316 _ _ _ = _; rw [B0_1316, lx (o := (1 : Int32)) (k := 1) rfl (by decide) h hL, lx (o := (2 : Int32)) (k := 2) rfl (by decide) h hL]) (fun u s => by rw [B0_1330, if_pos rfl])
  exact ⟨u2, Eq.trans B0_33_22 e, h2⟩
theorem law_c23 (hi : Inv u) (h : i + 9 ≤ L) (hL : L ≤ 4608) : ∃ u2, RR (pv_X0 L xs) 100 0 33 (lwL i) [.int (jI 23)] (enc u) = RR (pv_X0 L xs) 100 0 1797 (lwL i) [] (enc u2) ∧ Inv u2 := by
  obtain ⟨u2, e, h2⟩ := law_int (A := 1335) (B := 1339) (C := 1343) (i := i) (P_clears (L := L) (xs := xs)  hi) rfl (by show RR (pv_X0 L xs) (99 + 1) 0 1335 _ _ _ = _; rw [B0_1335]) (fun u s => by show RR (pv_X0 L xs) (99 + 1) 0 1339 _ _ _ = _; rw [B0_1339]) (fun u s => by rw [B0_1343, if_pos rfl])
  exact ⟨u2, Eq.trans B0_33_23 e, h2⟩
theorem law_c24 (hi : Inv u) (h : i + 9 ≤ L) (hL : L ≤ 4608) : ∃ u2, RR (pv_X0 L xs) 100 0 33 (lwL i) [.int (jI 24)] (enc u) = RR (pv_X0 L xs) 100 0 1797 (lwL i) [] (enc u2) ∧ Inv u2 := by
  obtain ⟨u2, e, h2⟩ := law_int (A := 1348) (B := 1367) (C := 1386) (i := i) (P_score (L := L) (xs := xs) (x := (xs (i + 1))) (y := (xs (i + 2))) (z := (xs (i + 3))) hi) rfl (by show RR (pv_X0 L xs) (99 + 1) 0 1348 _ _ _ = _; rw [B0_1348, lx (o := (1 : Int32)) (k := 1) rfl (by decide) h hL, lx (o := (2 : Int32)) (k := 2) rfl (by decide) h hL, lx (o := (3 : Int32)) (k := 3) rfl (by decide) h hL]) (fun u s => by show RR (pv_X0 L xs) (99 + 1) 0 1367 _ _ _ = _; rw [B0_1367, lx (o := (1 : Int32)) (k := 1) rfl (by decide) h hL, lx (o := (2 : Int32)) (k := 2) rfl (by decide) h hL, lx (o := (3 : Int32)) (k := 3) rfl (by decide) h hL]) (fun u s => by rw [B0_1386, if_pos rfl])
  exact ⟨u2, Eq.trans B0_33_24 e, h2⟩
theorem law_c25 (hi : Inv u) (h : i + 9 ≤ L) (hL : L ≤ 4608) : ∃ u2, RR (pv_X0 L xs) 100 0 33 (lwL i) [.int (jI 25)] (enc u) = RR (pv_X0 L xs) 100 0 1797 (lwL i) [] (enc u2) ∧ Inv u2 := by
  obtain ⟨u2, e, h2⟩ := law_int (A := 1391) (B := 1410) (C := 1429) (i := i) (P_place (L := L) (xs := xs) (x := (xs (i + 1))) (y := (xs (i + 2))) (z := (xs (i + 3))) hi) rfl (by show RR (pv_X0 L xs) (99 + 1) 0 1391 _ _ _ = _; rw [B0_1391, lx (o := (1 : Int32)) (k := 1) rfl (by decide) h hL, lx (o := (2 : Int32)) (k := 2) rfl (by decide) h hL, lx (o := (3 : Int32)) (k := 3) rfl (by decide) h hL]) (fun u s => by show RR (pv_X0 L xs) (99 + 1) 0 1410 _ _ _ = _; rw [B0_1410, lx (o := (1 : Int32)) (k := 1) rfl (by decide) h hL, lx (o := (2 : Int32)) (k := 2) rfl (by decide) h hL, lx (o := (3 : Int32)) (k := 3) rfl (by decide) h hL]) (fun u s => by rw [B0_1429, if_pos rfl])
  exact ⟨u2, Eq.trans B0_33_25 e, h2⟩
theorem law_c26 (hi : Inv u) (h : i + 9 ≤ L) (hL : L ≤ 4608) : ∃ u2, RR (pv_X0 L xs) 100 0 33 (lwL i) [.int (jI 26)] (enc u) = RR (pv_X0 L xs) 100 0 1797 (lwL i) [] (enc u2) ∧ Inv u2 := by
  obtain ⟨u2, e, h2⟩ := law_int (A := 1434) (B := 1443) (C := 1452) (i := i) (P_feed (L := L) (xs := xs) (x := (xs (i + 1))) hi) rfl (by show RR (pv_X0 L xs) (99 + 1) 0 1434 _ _ _ = _; rw [B0_1434, lx (o := (1 : Int32)) (k := 1) rfl (by decide) h hL]) (fun u s => by show RR (pv_X0 L xs) (99 + 1) 0 1443 _ _ _ = _; rw [B0_1443, lx (o := (1 : Int32)) (k := 1) rfl (by decide) h hL]) (fun u s => by rw [B0_1452, if_pos rfl])
  exact ⟨u2, Eq.trans B0_33_26 e, h2⟩
theorem law_c27 (hi : Inv u) (h : i + 9 ≤ L) (hL : L ≤ 4608) : ∃ u2, RR (pv_X0 L xs) 100 0 33 (lwL i) [.int (jI 27)] (enc u) = RR (pv_X0 L xs) 100 0 1797 (lwL i) [] (enc u2) ∧ Inv u2 := by
  obtain ⟨u2, e, h2⟩ := law_int (A := 1457) (B := 1461) (C := 1465) (i := i) (P_clear (L := L) (xs := xs)  hi) rfl (by show RR (pv_X0 L xs) (99 + 1) 0 1457 _ _ _ = _; rw [B0_1457]) (fun u s => by show RR (pv_X0 L xs) (99 + 1) 0 1461 _ _ _ = _; rw [B0_1461]) (fun u s => by rw [B0_1465, if_pos rfl])
  exact ⟨u2, Eq.trans B0_33_27 e, h2⟩
theorem law_c28 (hi : Inv u) (h : i + 9 ≤ L) (hL : L ≤ 4608) : ∃ u2, RR (pv_X0 L xs) 100 0 33 (lwL i) [.int (jI 28)] (enc u) = RR (pv_X0 L xs) 100 0 1797 (lwL i) [] (enc u2) ∧ Inv u2 := by
  obtain ⟨u2, e, h2⟩ := law_int (A := 1470) (B := 1474) (C := 1478) (i := i) (P_results (L := L) (xs := xs)  hi) rfl (by show RR (pv_X0 L xs) (99 + 1) 0 1470 _ _ _ = _; rw [B0_1470]) (fun u s => by show RR (pv_X0 L xs) (99 + 1) 0 1474 _ _ _ = _; rw [B0_1474]) (fun u s => by rw [B0_1478, if_pos rfl])
  exact ⟨u2, Eq.trans B0_33_28 e, h2⟩
theorem law_c29 (hi : Inv u) (h : i + 9 ≤ L) (hL : L ≤ 4608) : ∃ u2, RR (pv_X0 L xs) 100 0 33 (lwL i) [.int (jI 29)] (enc u) = RR (pv_X0 L xs) 100 0 1797 (lwL i) [] (enc u2) ∧ Inv u2 := by
  obtain ⟨u2, e, h2⟩ := law_int (A := 1483) (B := 1487) (C := 1491) (i := i) (P_pick (L := L) (xs := xs)  hi) rfl (by show RR (pv_X0 L xs) (99 + 1) 0 1483 _ _ _ = _; rw [B0_1483]) (fun u s => by show RR (pv_X0 L xs) (99 + 1) 0 1487 _ _ _ = _; rw [B0_1487]) (fun u s => by rw [B0_1491, if_pos rfl])
  exact ⟨u2, Eq.trans B0_33_29 e, h2⟩
theorem law_c30 (hi : Inv u) (h : i + 9 ≤ L) (hL : L ≤ 4608) : ∃ u2, RR (pv_X0 L xs) 100 0 33 (lwL i) [.int (jI 30)] (enc u) = RR (pv_X0 L xs) 100 0 1797 (lwL i) [] (enc u2) ∧ Inv u2 := by
  obtain ⟨u2, e, h2⟩ := law_int (A := 1496) (B := 1505) (C := 1514) (i := i) (P_voidAll (L := L) (xs := xs) (x := (xs (i + 1))) hi) rfl (by show RR (pv_X0 L xs) (99 + 1) 0 1496 _ _ _ = _; rw [B0_1496, lx (o := (1 : Int32)) (k := 1) rfl (by decide) h hL]) (fun u s => by show RR (pv_X0 L xs) (99 + 1) 0 1505 _ _ _ = _; rw [B0_1505, lx (o := (1 : Int32)) (k := 1) rfl (by decide) h hL]) (fun u s => by rw [B0_1514, if_pos rfl])
  exact ⟨u2, Eq.trans B0_33_30 e, h2⟩
theorem law_c31 (hi : Inv u) (h : i + 9 ≤ L) (hL : L ≤ 4608) : ∃ u2, RR (pv_X0 L xs) 100 0 33 (lwL i) [.int (jI 31)] (enc u) = RR (pv_X0 L xs) 100 0 1797 (lwL i) [] (enc u2) ∧ Inv u2 := by
  obtain ⟨u2, e, h2⟩ := law_int (A := 1519) (B := 1523) (C := 1527) (i := i) (P_spell (L := L) (xs := xs)  hi) rfl (by show RR (pv_X0 L xs) (99 + 1) 0 1519 _ _ _ = _; rw [B0_1519]) (fun u s => by show RR (pv_X0 L xs) (99 + 1) 0 1523 _ _ _ = _; rw [B0_1523]) (fun u s => by rw [B0_1527, if_pos rfl])
  exact ⟨u2, Eq.trans B0_33_31 e, h2⟩
theorem law_c32 (hi : Inv u) (h : i + 9 ≤ L) (hL : L ≤ 4608) : ∃ u2, RR (pv_X0 L xs) 100 0 33 (lwL i) [.int (jI 32)] (enc u) = RR (pv_X0 L xs) 100 0 1797 (lwL i) [] (enc u2) ∧ Inv u2 := by
  obtain ⟨u2, e, h2⟩ := law_int (A := 1532) (B := 1541) (C := 1550) (i := i) (P_paper (L := L) (xs := xs) (x := (xs (i + 1))) hi) rfl (by show RR (pv_X0 L xs) (99 + 1) 0 1532 _ _ _ = _; rw [B0_1532, lx (o := (1 : Int32)) (k := 1) rfl (by decide) h hL]) (fun u s => by show RR (pv_X0 L xs) (99 + 1) 0 1541 _ _ _ = _; rw [B0_1541, lx (o := (1 : Int32)) (k := 1) rfl (by decide) h hL]) (fun u s => by rw [B0_1550, if_pos rfl])
  exact ⟨u2, Eq.trans B0_33_32 e, h2⟩
theorem law_c33 (hi : Inv u) (h : i + 9 ≤ L) (hL : L ≤ 4608) : ∃ u2, RR (pv_X0 L xs) 100 0 33 (lwL i) [.int (jI 33)] (enc u) = RR (pv_X0 L xs) 100 0 1797 (lwL i) [] (enc u2) ∧ Inv u2 := by
  obtain ⟨u2, e, h2⟩ := law_int (A := 1555) (B := 1564) (C := 1573) (i := i) (P_told (L := L) (xs := xs) (x := (xs (i + 1))) hi) rfl (by show RR (pv_X0 L xs) (99 + 1) 0 1555 _ _ _ = _; rw [B0_1555, lx (o := (1 : Int32)) (k := 1) rfl (by decide) h hL]) (fun u s => by show RR (pv_X0 L xs) (99 + 1) 0 1564 _ _ _ = _; rw [B0_1564, lx (o := (1 : Int32)) (k := 1) rfl (by decide) h hL]) (fun u s => by rw [B0_1573, if_pos rfl])
  exact ⟨u2, Eq.trans B0_33_33 e, h2⟩
theorem law_c34 (hi : Inv u) (h : i + 9 ≤ L) (hL : L ≤ 4608) : ∃ u2, RR (pv_X0 L xs) 100 0 33 (lwL i) [.int (jI 34)] (enc u) = RR (pv_X0 L xs) 100 0 1797 (lwL i) [] (enc u2) ∧ Inv u2 := by
  obtain ⟨u2, e, h2⟩ := law_int (A := 1578) (B := 1592) (C := 1606) (i := i) (P_list (L := L) (xs := xs) (x := (xs (i + 1))) (y := (xs (i + 2))) hi) rfl (by show RR (pv_X0 L xs) (99 + 1) 0 1578 _ _ _ = _; rw [B0_1578, lx (o := (1 : Int32)) (k := 1) rfl (by decide) h hL, lx (o := (2 : Int32)) (k := 2) rfl (by decide) h hL]) (fun u s => by show RR (pv_X0 L xs) (99 + 1) 0 1592 _ _ _ = _; rw [B0_1592, lx (o := (1 : Int32)) (k := 1) rfl (by decide) h hL, lx (o := (2 : Int32)) (k := 2) rfl (by decide) h hL]) (fun u s => by rw [B0_1606, if_pos rfl])
  exact ⟨u2, Eq.trans B0_33_34 e, h2⟩
theorem law_c35 (hi : Inv u) (h : i + 9 ≤ L) (hL : L ≤ 4608) : ∃ u2, RR (pv_X0 L xs) 100 0 33 (lwL i) [.int (jI 35)] (enc u) = RR (pv_X0 L xs) 100 0 1797 (lwL i) [] (enc u2) ∧ Inv u2 := by
  obtain ⟨u2, e, h2⟩ := law_int (A := 1611) (B := 1645) (C := 1679) (i := i) (P_set (L := L) (xs := xs) (x := (xs (i + 1))) (y := (xs (i + 2))) (p := ((((xs (i + 3))).toInt64 <<< (((32 : Int32)).toInt64 &&& 63)) ||| (((xs (i + 4))).toInt64 &&& (4294967295 : Int64)))) hi) rfl (by show RR (pv_X0 L xs) (99 + 1) 0 1611 _ _ _ = _; rw [B0_1611, lx (o := (1 : Int32)) (k := 1) rfl (by decide) h hL, lx (o := (2 : Int32)) (k := 2) rfl (by decide) h hL, lx (o := (3 : Int32)) (k := 3) rfl (by decide) h hL, lx (o := (4 : Int32)) (k := 4) rfl (by decide) h hL]) (fun u s => by show RR (pv_X0 L xs) (99 + 1) 0 1645 _ _ _ = _; rw [B0_1645, lx (o := (1 : Int32)) (k := 1) rfl (by decide) h hL, lx (o := (2 : Int32)) (k := 2) rfl (by decide) h hL, lx (o := (3 : Int32)) (k := 3) rfl (by decide) h hL, lx (o := (4 : Int32)) (k := 4) rfl (by decide) h hL]) (fun u s => by rw [B0_1679, if_pos rfl])
  exact ⟨u2, Eq.trans B0_33_35 e, h2⟩
theorem law_c36 (hi : Inv u) (h : i + 9 ≤ L) (hL : L ≤ 4608) : ∃ u2, RR (pv_X0 L xs) 100 0 33 (lwL i) [.int (jI 36)] (enc u) = RR (pv_X0 L xs) 100 0 1797 (lwL i) [] (enc u2) ∧ Inv u2 := by
  obtain ⟨u2, e, h2⟩ := law_long (A := 1684) (B := 1698) (C := 1712) (i := i) (P_get (L := L) (xs := xs) (x := (xs (i + 1))) (y := (xs (i + 2))) hi) rfl (by show RR (pv_X0 L xs) (99 + 1) 0 1684 _ _ _ = _; rw [B0_1684, lx (o := (1 : Int32)) (k := 1) rfl (by decide) h hL, lx (o := (2 : Int32)) (k := 2) rfl (by decide) h hL]) (fun u s => by show RR (pv_X0 L xs) (99 + 1) 0 1698 _ _ _ = _; rw [B0_1698, lx (o := (1 : Int32)) (k := 1) rfl (by decide) h hL, lx (o := (2 : Int32)) (k := 2) rfl (by decide) h hL]) (fun u s => by rw [B0_1712, if_pos (lg_eq.mpr rfl)])
  exact ⟨u2, Eq.trans B0_33_36 e, h2⟩
theorem law_c37 (hi : Inv u) (h : i + 9 ≤ L) (hL : L ≤ 4608) : ∃ u2, RR (pv_X0 L xs) 100 0 33 (lwL i) [.int (jI 37)] (enc u) = RR (pv_X0 L xs) 100 0 1797 (lwL i) [] (enc u2) ∧ Inv u2 := by
  obtain ⟨u2, e, h2⟩ := law_int (A := 1718) (B := 1742) (C := 1766) (i := i) (P_judge (L := L) (xs := xs) (x := (xs (i + 1))) (y := (xs (i + 2))) (z := (xs (i + 3))) (w := (xs (i + 4))) hi) rfl (by show RR (pv_X0 L xs) (99 + 1) 0 1718 _ _ _ = _; rw [B0_1718, lx (o := (1 : Int32)) (k := 1) rfl (by decide) h hL, lx (o := (2 : Int32)) (k := 2) rfl (by decide) h hL, lx (o := (3 : Int32)) (k := 3) rfl (by decide) h hL, lx (o := (4 : Int32)) (k := 4) rfl (by decide) h hL]) (fun u s => by show RR (pv_X0 L xs) (99 + 1) 0 1742 _ _ _ = _; rw [B0_1742, lx (o := (1 : Int32)) (k := 1) rfl (by decide) h hL, lx (o := (2 : Int32)) (k := 2) rfl (by decide) h hL, lx (o := (3 : Int32)) (k := 3) rfl (by decide) h hL, lx (o := (4 : Int32)) (k := 4) rfl (by decide) h hL]) (fun u s => by rw [B0_1766, if_pos rfl])
  exact ⟨u2, Eq.trans B0_33_37 e, h2⟩
theorem law_c38 (hi : Inv u) (h : i + 9 ≤ L) (hL : L ≤ 4608) : ∃ u2, RR (pv_X0 L xs) 100 0 33 (lwL i) [.int (jI 38)] (enc u) = RR (pv_X0 L xs) 100 0 1797 (lwL i) [] (enc u2) ∧ Inv u2 := by
  obtain ⟨u2, e, h2⟩ := law_int (A := 1771) (B := 1775) (C := 1779) (i := i) (P_image (L := L) (xs := xs)  hi) rfl (by show RR (pv_X0 L xs) (99 + 1) 0 1771 _ _ _ = _; rw [B0_1771]) (fun u s => by show RR (pv_X0 L xs) (99 + 1) 0 1775 _ _ _ = _; rw [B0_1775]) (fun u s => by rw [B0_1779, if_pos rfl])
  exact ⟨u2, Eq.trans B0_33_38 e, h2⟩
theorem law_c39 (hi : Inv u) (h : i + 9 ≤ L) (hL : L ≤ 4608) : ∃ u2, RR (pv_X0 L xs) 100 0 33 (lwL i) [.int (jI 39)] (enc u) = RR (pv_X0 L xs) 100 0 1797 (lwL i) [] (enc u2) ∧ Inv u2 := by
  obtain ⟨u2, e, h2⟩ := law_int (A := 1784) (B := 1788) (C := 1792) (i := i) (P_undo (L := L) (xs := xs)  hi) rfl (by show RR (pv_X0 L xs) (99 + 1) 0 1784 _ _ _ = _; rw [B0_1784]) (fun u s => by show RR (pv_X0 L xs) (99 + 1) 0 1788 _ _ _ = _; rw [B0_1788]) (fun u s => by rw [B0_1792, if_pos rfl])
  exact ⟨u2, Eq.trans B0_33_39 e, h2⟩
theorem law_step (hi : Inv u) (h : i + 9 ≤ L) (hL : L ≤ 4608) {c : Int32} : ∃ u2, RR (pv_X0 L xs) 100 0 33 (lwL i) [.int c] (enc u) = RR (pv_X0 L xs) 100 0 1797 (lwL i) [] (enc u2) ∧ Inv u2 := by
  by_cases ho : c.toInt < 0 ∨ 39 < c.toInt
  · exact ⟨u, B0_33_out ho, hi⟩
  · have ec : c = jI c.toInt.toNat := i32_nat (by omega)
    have hk : c.toInt.toNat < 40 := by omega
    generalize c.toInt.toNat = k at *
    subst ec
    match k, hk with
    | 0, _ => exact law_c0 hi h hL
    | 1, _ => exact law_c1 hi h hL
    | 2, _ => exact law_c2 hi h hL
    | 3, _ => exact law_c3 hi h hL
    | 4, _ => exact law_c4 hi h hL
    | 5, _ => exact law_c5 hi h hL
    | 6, _ => exact law_c6 hi h hL
    | 7, _ => exact law_c7 hi h hL
    | 8, _ => exact law_c8 hi h hL
    | 9, _ => exact law_c9 hi h hL
    | 10, _ => exact law_c10 hi h hL
    | 11, _ => exact law_c11 hi h hL
    | 12, _ => exact law_c12 hi h hL
    | 13, _ => exact law_c13 hi h hL
    | 14, _ => exact law_c14 hi h hL
    | 15, _ => exact law_c15 hi h hL
    | 16, _ => exact law_c16 hi h hL
    | 17, _ => exact law_c17 hi h hL
    | 18, _ => exact law_c18 hi h hL
    | 19, _ => exact law_c19 hi h hL
    | 20, _ => exact law_c20 hi h hL
    | 21, _ => exact law_c21 hi h hL
    | 22, _ => exact law_c22 hi h hL
    | 23, _ => exact law_c23 hi h hL
    | 24, _ => exact law_c24 hi h hL
    | 25, _ => exact law_c25 hi h hL
    | 26, _ => exact law_c26 hi h hL
    | 27, _ => exact law_c27 hi h hL
    | 28, _ => exact law_c28 hi h hL
    | 29, _ => exact law_c29 hi h hL
    | 30, _ => exact law_c30 hi h hL
    | 31, _ => exact law_c31 hi h hL
    | 32, _ => exact law_c32 hi h hL
    | 33, _ => exact law_c33 hi h hL
    | 34, _ => exact law_c34 hi h hL
    | 35, _ => exact law_c35 hi h hL
    | 36, _ => exact law_c36 hi h hL
    | 37, _ => exact law_c37 hi h hL
    | 38, _ => exact law_c38 hi h hL
    | 39, _ => exact law_c39 hi h hL
    | k + 40, h => exact absurd h (by omega)
theorem law_run (hL : L ≤ 4608) : ∀ (f i : Nat) (u : pv_U), L ≤ i + f → i ≤ 5000 → Inv u → ∃ u2, RR (pv_X0 L xs) 100 0 18 (lwL i) [] (enc u) = some (some (.int 1), enc u2) := by
  intro f
  have sub : (jI L - 9).toInt = (L : Int) - 9 := by
    rw [Int32.toInt_sub, jI_toInt (by omega)]
    exact Int.bmod_eq_of_le (by have : (9 : Int32).toInt = 9 := rfl; omega) (by have : (9 : Int32).toInt = 9 := rfl; omega)
  have out : ∀ (i : Nat) (u : pv_U), i ≤ 5000 → ¬ i + 9 ≤ L → RR (pv_X0 L xs) 100 0 18 (lwL i) [] (enc u) = some (some (.int 1), enc u) := fun i u h5 h => by
    have c : jI L - 9 < jI i := by
      rw [Int32.lt_iff_toInt_lt, sub, jI_toInt (by omega)]
      omega
    rw [B0_18, if_pos c]
  induction f using Nat.strongRecOn with
  | ind f ih =>
    intro i u hf h5 hi
    by_cases h : i + 9 ≤ L
    · have c : ¬ jI L - 9 < jI i := by
        rw [Int32.lt_iff_toInt_lt, sub, jI_toInt (by omega)]
        omega
      obtain ⟨u2, e, h2⟩ := law_step (xs := xs) hi h hL (c := xs i &&& 63)
      obtain ⟨u3, e3⟩ := ih (f - 9) (by omega) (i + 9) u2 (by omega) (by omega) h2
      refine ⟨u3, ?_⟩
      rw [B0_18, if_neg c, pv_ixn (by omega) (by omega)]
      refine e.trans ?_
      have em : jI i + 9 = jI (i + 9) := jI_add (b := 9)
      rw [B0_1797, em]
      exact e3
    · exact ⟨u, out i u h5 h⟩
end LAW
