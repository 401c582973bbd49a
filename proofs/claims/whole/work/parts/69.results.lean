/-! results, put together (printed by wip/whole/ops/pp.py) -/
section RESULTS
variable {L : Nat} {xs : Nat → Int32} {u : pv_U} {d k n p r i N : Nat} {x y z c nT : Int32} {T : Nat → Int32} {s t : pS} {G : pG}
/-- THE TAPE of both sides -/
def tpT (u : pv_U) (n : Nat) (k : Nat) : Int32 := if k < n then gA u 23 k else 0
theorem inv_tape (h : Inv u) : ∃ n, n ≤ 120 ∧ gI u 11 = jI n ∧ tpe u 23 11 (tpT u n) n ∧ tpe u 33 20 (tpT u n) n := by
  obtain ⟨_, _, _, ⟨t1, t2, t3⟩, _⟩ := h
  have hn := i32_nat t2.1
  refine ⟨(gI u 11).toInt.toNat, by omega, hn, ⟨by omega, hn, fun k hk => ?_, fun k hk => if_neg (by omega)⟩, ⟨by omega, t1 ▸ hn, fun k hk => ?_, fun k hk => if_neg (by omega)⟩⟩
  · have := t3 k (by omega)
    unfold tpT
    rw [if_pos hk]
    exact ⟨rfl, this.2⟩
  · have := t3 k (by omega)
    unfold tpT
    rw [if_pos hk]
    exact ⟨this.1.symm, this.2⟩
theorem rew_tC : uI (uI u 12 0) 13 (-1) = tC u (0, none) := rfl
theorem rew_tM : uI (uI u 21 0) 22 (-1) = tM u (0, none) := rfl
theorem P_results (h : Inv u) : Both L xs 79 185 [some (.ref 0), none, none, none] [some (.ref 55), none] u := by
  have h0 := h
  obtain ⟨n, hn, hn11, htC, htM⟩ := inv_tape h
  obtain ⟨⟨b1, b2, b3, b4, b5, b6, b7, b8, b9, b10⟩, ⟨g1, g2⟩, ⟨f1, f2⟩, ⟨t1, t2, t3⟩, ⟨p1, p2, p3⟩, hL, ⟨k1, k2, k3⟩⟩ := h
  have h15 : 0 ≤ (gI u 15).toInt := by rw [← b1]; omega
  have hN := i32_nat b4.1
  have h30 : (gI u 2).toInt.toNat ≤ 30 := by omega
  have hNt : (gI u 2).toInt.toNat = (gI u 2).toInt := by omega
  have hN' := b3.symm.trans hN
  generalize (gI u 2).toInt.toNat = N at *
  generalize tpT u n = T at *
  have w0 : wfS n (0, none) := ⟨Nat.zero_le _, fun p e => nomatch e⟩
  have hG : grM u = grC u := by
    unfold grM grC
    rw [funext fun k => (g1 k).1, funext fun k => (g1 k).2.1, funext fun k => (g1 k).2.2.1, funext fun k => (g1 k).2.2.2.1, funext fun k => (g1 k).2.2.2.2.1, funext fun k => (g1 k).2.2.2.2.2.1, funext fun k => (g1 k).2.2.2.2.2.2]
  have ok := rsF_ok (T := T) (nT := gI u 1) (N := N) (k := 0) (s := (0, none)) (G := grC u) b2.2 (m := 30 - N + 1) (fun g hg => g2 g (by omega) (Or.inl (by omega))) rfl
  have vd := rsF_vd (T := T) (nT := gI u 1) (N := N) (k := 0) (s := (0, none)) (G := grC u) (m := 30 - N + 1) (fun g hg => (k1.2 g hg).1)
  have ws := wf_rsF (T := T) (nT := gI u 1) (N := N) (k := 0) (G := grC u) (m := 30 - N + 1) htC w0
  have cl := C_resL (L := L) (xs := xs) (d := 94) (k := 0) (s := (0, none)) (G := grC u) htC hN (m := 30 - N) (by omega) w0
  rw [sRC_self] at cl
  have eC : RR (pv_X0 L xs) 99 79 0 [some (.ref 0), none, none, none] [] (enc u) = RR (pv_X0 L xs) 99 79 13 [some (.ref 0), some (.int (jI 0)), some (.int 1), some (.int (jI 0))] [] (enc (tC u (0, none))) := by
    rw [B79_0, B80_0, pv_bd_some, rew_tC]
    exact B79_7
  have cl2 := eC.trans cl
  -- the reference's way, from any world that the class may leave
  have rf : ∀ v : pv_U, gI v 15 = gI u 15 → gI v 16 = jI N → tpe v 33 20 T n → grM v = grC u → ∃ x : Int32, ((rsF T (gI u 1) N (30 - N + 1) 0 (0, none) (grC u)).2.1.2 = none → x = jI (N + (rsF T (gI u 1) N (30 - N + 1) 0 (0, none) (grC u)).1)) ∧ RR (pv_X0 L xs) 99 185 0 [some (.ref 55), none] [] (enc v) = RR (pv_X0 L xs) 99 185 81 [some (.ref 55), none] [] (enc (tM (uI (sRM v (rsF T (gI u 1) N (30 - N + 1) 0 (0, none) (grC u)).2.2) 24 x) (sE n (rsF T (gI u 1) N (30 - N + 1) 0 (0, none) (grC u)).2.1))) := by
    intro v v15 v16 vt vg
    have ml := M_resL (L := L) (xs := xs) (d := 95) (u := v) (N := N) (k := 0) (s := (0, none)) (G := grC u) vt (by rw [v15]; exact h15) (m := 30 - N) (by omega) w0
    rw [v15, ← b1] at ml
    obtain ⟨x, m1, m2⟩ := ml
    refine ⟨x, m1, ?_⟩
    have e1 : uI (tM v (0, none)) 24 (jI N) = tM (uI (sRM v (grC u)) 24 (jI N)) (0, none) := by
      rw [← vg, sRM_self]
      refine pv_ext (fun j => ?_) (fun _ => rfl) (fun _ _ => rfl) (fun _ _ => rfl)
      simp only [gI_uI, gI_tM]
      grind
    have rg := M_readGame (L := L) (xs := xs) (d := 95) (u := v) (k := N) (s := (0, none)) (G := grC u) vt w0 (by rw [v15]; exact h15) h30
    rw [v15, ← b1] at rg
    rw [B185_0, rew_tM, v16, e1, rg, pv_bd_some]
    exact m2
  generalize hF : rsF T (gI u 1) N (30 - N + 1) 0 (0, none) (grC u) = F at *
  obtain ⟨K, S, G⟩ := F
  have hK : K ≤ 31 := by have : K ≤ 0 + (30 - N + 1) := ok.2.2; omega
  have we := wf_sE ws
  have cE : RR (pv_X0 L xs) 99 79 0 [some (.ref 0), none, none, none] [] (enc u) = RR (pv_X0 L xs) 99 79 62 [some (.ref 0), some (.int (jI K)), some (.int 0), some (.int (jI K))] [.int (if (sE n S).2 = none then 1 else 0)] (enc (tC (uI (sRC u G) 11 0) (sE n S))) := by
    refine cl2.trans ?_
    show RR (pv_X0 L xs) 99 79 13 [some (.ref 0), some (.int (jI K)), some (.int 0), some (.int (jI K))] [] (enc (tC (sRC u G) S)) = _
    rw [B79_13, if_neg (by show ¬ jI 120 ≤ jI K; rw [jI_le (by omega) (by omega)]; omega), if_pos rfl, C_endsWell (tpe_sRC htC) ws, pv_bd_some]
    rfl
  by_cases q : (sE n S).2 = none
  · have hS : S.2 = none := by
      unfold sE at q
      split at q
      · exact absurd q fl_some
      · exact q
    obtain ⟨x, hx, hr⟩ := rf (uI (tC (uI (sRC u G) 11 0) (sE n S)) 2 (jI (N + K))) (by simp only [gI_uI, gI_tC, gI_sRC, Nat.reduceEqDiff, reduceIte]) (by simp only [gI_uI, gI_tC, gI_sRC, Nat.reduceEqDiff, reduceIte]; exact hN') (by
      obtain ⟨a1, a2, a3, a4⟩ := htM
      exact ⟨a1, by simp only [gI_uI, gI_tC, gI_sRC, Nat.reduceEqDiff, reduceIte]; exact a2, a3, a4⟩) hG
    have hx := hx hS
    have okS := ok.1 hS
    have hNK : N + K ≤ 30 := by
      by_cases hz : N + K ≤ 30
      · exact hz
      · exfalso
        have := rsF_lim (T := T) (nT := gI u 1) (N := N) (k := 0) (m := 30 - N + 1) (s := (0, none)) (G := grC u) (by rw [hF]; exact hS)
        rw [hF] at this
        exact hz (this (by omega))
    refine ⟨.int (jI K), uI (tC (uI (sRC u G) 11 0) (sE n S)) 2 (jI (N + K)), uI (uI (tM (uI (sRM (uI (tC (uI (sRC u G) 11 0) (sE n S)) 2 (jI (N + K))) G) 24 x) (sE n S)) 20 0) 16 (jI (N + K)), ?_, ?_, ?_, rfl⟩
    · rw [cE, if_pos q, B79_62, if_neg (by decide)]
      simp only [gI_tC, gI_uI, gI_sRC, Nat.reduceEqDiff, reduceIte, hN, jI_add]
    · rw [hr, B185_81]
      rw [if_pos (by rw [gI_tM, if_pos rfl, q]; decide)]
      simp only [gI_tM, gI_tC, gI_uI, gI_sRC, gI_sRM, Nat.reduceEqDiff, reduceIte, hN', hx]
      rw [jI_sub (by omega), show N + K - N = K by omega]
    · have eN : (jI (N + K)).toInt = ((N + K : Nat) : Int) := jI_toInt (by omega)
      simp only [Inv, invB, invG, invF, invT, invP, invL, invL1, invK, gI_uI, gI_uJ, gI_uA, gI_uB, gJ_uI, gJ_uJ, gJ_uA, gJ_uB, gA_uI, gA_uJ, gA_uA, gA_uB, gB_uI, gB_uJ, gB_uA, gB_uB, gI_tC, gI_tM, gI_sRC, gI_sRM, gJ_tC, gJ_tM, gJ_sRC, gJ_sRM, gA_tC, gA_tM, gA_sRC, gA_sRM, gB_tC, gB_tM, gB_sRC, gB_sRM] at *
      simp only [Nat.reduceEqDiff, reduceIte]
      rw [eN]
      refine ⟨⟨b1, b2, trivial, ⟨by omega, by omega⟩, b5, b6, b7, b8, b9, b10⟩, ⟨fun k => ⟨rfl, rfl, rfl, rfl, rfl, rfl, rfl⟩, fun k hk hq => ?_⟩, ⟨f1, f2⟩, ⟨trivial, ⟨by decide, by decide⟩, fun k hk => ?_⟩, ⟨p1, p2, p3⟩, hL, ⟨⟨k1.1, fun j hj => ⟨vd j hj, (k1.2 j hj).2⟩⟩, k2, k3⟩⟩
      · rcases hq with hq | hq
        · exact okS k (by omega)
        · exact ok.2.1 k (g2 k hk (Or.inr hq))
      · rw [z0] at hk
        omega
  · obtain ⟨x, hx, hr⟩ := rf (tC (uI (sRC u G) 11 0) (sE n S)) (by simp only [gI_uI, gI_tC, gI_sRC, Nat.reduceEqDiff, reduceIte]) (by simp only [gI_uI, gI_tC, gI_sRC, Nat.reduceEqDiff, reduceIte]; exact hN') (by
      obtain ⟨a1, a2, a3, a4⟩ := htM
      exact ⟨a1, by simp only [gI_uI, gI_tC, gI_sRC, Nat.reduceEqDiff, reduceIte]; exact a2, a3, a4⟩) hG
    refine ⟨.int (-100 - fI (sE n S).2), tC (uI (sRC u G) 11 0) (sE n S), uI (tM (uI (sRM (tC (uI (sRC u G) 11 0) (sE n S)) G) 24 x) (sE n S)) 20 0, ?_, ?_, ?_, rfl⟩
    · rw [cE, if_neg q, B79_62, if_pos rfl, gI_tC, if_pos rfl]
    · rw [hr, B185_81, if_neg (by rw [gI_tM, if_pos rfl, fI_lt we hn]; exact q), gI_tM, if_pos rfl]
    · simp only [Inv, invB, invG, invF, invT, invP, invL, invL1, invK, gI_uI, gI_uJ, gI_uA, gI_uB, gJ_uI, gJ_uJ, gJ_uA, gJ_uB, gA_uI, gA_uJ, gA_uA, gA_uB, gB_uI, gB_uJ, gB_uA, gB_uB, gI_tC, gI_tM, gI_sRC, gI_sRM, gJ_tC, gJ_tM, gJ_sRC, gJ_sRM, gA_tC, gA_tM, gA_sRC, gA_sRM, gB_tC, gB_tM, gB_sRC, gB_sRM] at *
      simp only [Nat.reduceEqDiff, reduceIte]
      refine ⟨⟨b1, b2, b3, b4, b5, b6, b7, b8, b9, b10⟩, ⟨fun k => ⟨rfl, rfl, rfl, rfl, rfl, rfl, rfl⟩, fun k hk hq => ?_⟩, ⟨f1, f2⟩, ⟨trivial, ⟨by decide, by decide⟩, fun k hk => ?_⟩, ⟨p1, p2, p3⟩, hL, ⟨⟨k1.1, fun j hj => ⟨vd j hj, (k1.2 j hj).2⟩⟩, k2, k3⟩⟩
      · exact ok.2.1 k (g2 k hk hq)
      · rw [z0] at hk
        omega
end RESULTS
