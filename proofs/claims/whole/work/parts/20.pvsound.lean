/-! PV: a run of PV is a run of the machine -/
theorem pv_lay_len {ad : Nat → Nat} : ∀ As : List Value, (lg_sl (As.map (pv_cv ad))).length = (pv_lay As).length
  | [] => rfl
  | v :: As => by
    have ih := pv_lay_len (ad := ad) As
    have e : lg_sl ((v :: As).map (pv_cv ad)) = (if v.category = 2 then [Slot.val (pv_cv ad v), .second] else [Slot.val (pv_cv ad v)]) ++ lg_sl (As.map (pv_cv ad)) := by
      simp only [lg_sl, List.map_cons, List.flatMap_cons, pv_cat_cv]
    rw [e, List.length_append, ih]
    cases v <;> simp [pv_lay, Value.category] <;> omega
theorem pv_lay_mem {ad : Nat → Nat} : ∀ (As : List Value) (i j : Nat) (v : Value), (pv_lay As)[j]? = some (some v) → (i + j, pv_cv ad v) ∈ lv_args i (As.map (pv_cv ad))
  | [], i, j, v, h => by simp [pv_lay] at h
  | u :: As, i, j, v, h => by
    have ih := pv_lay_mem (ad := ad) As
    show (i + j, pv_cv ad v) ∈ (i, pv_cv ad u) :: lv_args (if (pv_cv ad u).category = 2 then i + 2 else i + 1) (As.map (pv_cv ad))
    rw [pv_cat_cv]
    cases u with
    | long x =>
      match j, h with
      | 0, h =>
        simp [pv_lay] at h
        subst h
        exact List.mem_cons_self
      | 1, h => simp [pv_lay] at h
      | j + 2, h =>
        have h2 := ih (i + 2) j v (by simpa [pv_lay] using h)
        refine List.mem_cons_of_mem _ ?_
        rw [if_pos (by rfl), show i + (j + 2) = i + 2 + j by omega]
        exact h2
    | double x =>
      match j, h with
      | 0, h =>
        simp [pv_lay] at h
        subst h
        exact List.mem_cons_self
      | 1, h => simp [pv_lay] at h
      | j + 2, h =>
        have h2 := ih (i + 2) j v (by simpa [pv_lay] using h)
        refine List.mem_cons_of_mem _ ?_
        rw [if_pos (by rfl), show i + (j + 2) = i + 2 + j by omega]
        exact h2
    | int x =>
      match j, h with
      | 0, h =>
        simp [pv_lay] at h
        subst h
        exact List.mem_cons_self
      | j + 1, h =>
        have h2 := ih (i + 1) j v (by simpa [pv_lay] using h)
        refine List.mem_cons_of_mem _ ?_
        rw [if_neg (by simp [Value.category]), show i + (j + 1) = i + 1 + j by omega]
        exact h2
    | float x =>
      match j, h with
      | 0, h =>
        simp [pv_lay] at h
        subst h
        exact List.mem_cons_self
      | j + 1, h =>
        have h2 := ih (i + 1) j v (by simpa [pv_lay] using h)
        refine List.mem_cons_of_mem _ ?_
        rw [if_neg (by simp [Value.category]), show i + (j + 1) = i + 1 + j by omega]
        exact h2
    | null =>
      match j, h with
      | 0, h =>
        simp [pv_lay] at h
        subst h
        exact List.mem_cons_self
      | j + 1, h =>
        have h2 := ih (i + 1) j v (by simpa [pv_lay] using h)
        refine List.mem_cons_of_mem _ ?_
        rw [if_neg (by simp [Value.category]), show i + (j + 1) = i + 1 + j by omega]
        exact h2
    | ref x =>
      match j, h with
      | 0, h =>
        simp [pv_lay] at h
        subst h
        exact List.mem_cons_self
      | j + 1, h =>
        have h2 := ih (i + 1) j v (by simpa [pv_lay] using h)
        refine List.mem_cons_of_mem _ ?_
        rw [if_neg (by simp [Value.category]), show i + (j + 1) = i + 1 + j by omega]
        exact h2
    | retAddr x =>
      match j, h with
      | 0, h =>
        simp [pv_lay] at h
        subst h
        exact List.mem_cons_self
      | j + 1, h =>
        have h2 := ih (i + 1) j v (by simpa [pv_lay] using h)
        refine List.mem_cons_of_mem _ ?_
        rw [if_neg (by simp [Value.category]), show i + (j + 1) = i + 1 + j by omega]
        exact h2
theorem pv_ent_lh {ad : Nat → Nat} {n : Nat} {As : List Value} (h : (pv_lay As).length ≤ n) : pv_lh ad ((lg_sl (As.map (pv_cv ad)) ++ List.replicate (n - (lg_sl (As.map (pv_cv ad))).length) Slot.unset).toArray) n (pv_ent n As) := by
  have h0 : (lg_sl (As.map (pv_cv ad))).length ≤ n := by rw [pv_lay_len]; exact h
  obtain ⟨h1, h2, h3⟩ := lv_entry (As.map (pv_cv ad)) h0
  refine ⟨?_, h1, h2, fun i v hi => ?_⟩
  · unfold pv_ent
    rw [List.length_append, List.length_replicate]
    omega
  · unfold pv_ent at hi
    by_cases hl : i < (pv_lay As).length
    · rw [List.getElem?_append_left hl] at hi
      have h4 := pv_lay_mem (ad := ad) As 0 i v hi
      rw [Nat.zero_add] at h4
      exact h3 _ h4
    · rw [List.getElem?_append_right (by omega)] at hi
      obtain ⟨h5, h6⟩ := List.getElem?_eq_some_iff.mp hi
      rw [List.getElem_replicate] at h6
      cases h6
section PVS
variable {b base : Nat} {sa sv : Nat → Nat} {ad : Nat → Nat} {cid : Nat → ClassId} {D : va_G} {cl : List vw_C} {l : Launch} {X : pv_X} {GW NW : List Jvm.Cond} {SK : List (String × Nat × String)}
/-- what a method's run says at any place of it -/
def pv_HB (b base : Nat) (sa sv : Nat → Nat) (ad : Nat → Nat) (D : va_G) (cl : List vw_C) (cid : Nat → ClassId) (NW : List Jvm.Cond) (SK : List (String × Nat × String)) (GW : List Jvm.Cond) (X : pv_X) (l : Launch) (g : pv_G) : Prop :=
  ∀ (d k : Nat) (M : pv_M) (pc : Nat) (lo : pv_L) (st : pv_S) (w : pv_W) (res : Option Value × pv_W), X.2.1 k = some M → g d k pc lo st w = some res →
    ∀ (w0 : pv_W) (p : Program) (e : Env) (R : Room) (s : State) (m : MethodId) (args : Array Value) (below : List Frame) (meth : Method) (c : Code) (Q : State → Prop), pv_Mc GW M (pv_Kn b base sa sv D cl cid X.2.2.2.1 X.2.2.2.2 NW SK) p s m args meth c → d ≤ R.frames ∧ 64 * d ≤ R.locals → res.2.2.length ≤ R.cells + w0.2.length ∧ res.2.1 ≤ R.slots + w0.1 → pv_Rt base ad cid D cl M res p l e R s m args below meth c Q →
      pv_Ok base ad cid D cl w0 M.2.2.1 p l e R s m args below meth c Q pc lo st w
theorem pv_HC_of {g : pv_G} (hPl : ∀ k M, X.2.1 k = some M → plainName M.1.cls = true) (hle : ∀ d k pc lo st w res, g d k pc lo st w = some res → pv_le w res.2) (hB : pv_HB b base sa sv ad D cl cid NW SK GW X l g) : pv_HC b base sa sv ad D cl cid NW SK GW X l g := by
  intro d k M As w v w1 hM hlay hrun
  have hpl := hPl _ _ hM
  have hm := hle _ _ _ _ _ _ _ hrun
  refine Met.ofW (cc := M.2.1) (maxL := M.2.2.1) (ret := M.2.2.2.1) hpl rfl ?_
  intro p e s m args below meth c s₁ B hml hv
  obtain ⟨rfl, hHW, hKn⟩ := hv
  have hts := atoms_spec (ws := Cond.code M.1 M.2.1 M.2.2.1 M.2.2.2.1 :: GW) B.pre
  have hown : s.vm.findClass M.1.cls = some m.cls := findClass_of_methodNamed B.named
  have hnm : meth.name = M.1.name := (name_of_methodNamed B.named B.method).1
  have hMc : pv_Mc GW M (pv_Kn b base sa sv D cl cid X.2.2.2.1 X.2.2.2.2 NW SK) p s m (As.map (pv_cv ad)).toArray meth c := ⟨B.exec, B.bytes, hml, hown, fun x hx => hts x (List.mem_cons_of_mem _ hx), hKn, fun h => hnm.trans h⟩
  rw [lg_entry_eq]
  have hm1 : w.2.length ≤ w1.2.length := hm.1
  have hm2 : w.1 ≤ w1.1 := hm.2
  refine hB d k M 0 _ [] w (v, w1) hM hrun w p e _ s m _ below meth c _ hMc ⟨Nat.le_refl _, Nat.le_refl _⟩ ⟨?_, ?_⟩ ?_ s.heap [] _ 0 0 hHW va_S.rf (pv_ent_lh hlay) (Nat.zero_add _) (Nat.zero_add _)
  · show w1.2.length ≤ w1.2.length - w.2.length + w.2.length
    omega
  · show w1.1 ≤ w1.1 - w.1 + w.1
    omega
  · intro op pc H locs ls hdg hcase hHW1 hS
    rcases hcase with ⟨rfl, x, ty, h1, h2, h3⟩ | ⟨rfl, x, ty, h1, h2, h3⟩ | ⟨rfl, h1, h2⟩
    · simp only at h1
      subst h1
      exact W.zret (v := x) B.exec B.bytes (B.returns.trans h2) (pv_fit_ok (ad := ad) h3).1 (fun t ht hW => ⟨rfl, by rw [ht]; exact hHW1, hS.F ht⟩) hS.2.2 hdg B.notSynchronized
    · simp only at h1
      subst h1
      have hty : ty = .long := by
        unfold pv_fit at h3
        cases ty <;> simp at h3
        rfl
      subst hty
      exact W.lret (v := x) B.exec B.bytes (B.returns.trans h2) (fun t ht hW => ⟨rfl, by rw [ht]; exact hHW1, hS.F ht⟩) hS.2.2 hdg B.notSynchronized
    · simp only at h1
      subst h1
      exact W.vret B.exec B.bytes (B.returns.trans h2) (fun t ht hW => ⟨rfl, by rw [ht]; exact hHW1, hS.F ht⟩) hS.2.2 hdg B.notSynchronized
theorem pv_sound (hN : ∀ x ∈ NW, pv_isN x = true) (hGood : ∀ x ∈ GW, goodWord x = true) (hPl : ∀ k M, X.2.1 k = some M → plainName M.1.cls = true) (hcls : pv_clsOk GW cl X.2.2.1) (hHS : pv_HS b base sa sv ad D cl cid NW SK GW X l) (hSK : SK.length = 10) (had : ∀ a : Nat, a < 1000000 → ad a = base + a) (hadS : ∀ i : Nat, i < 10 → ad (1000000 + i) = sa i) (hadX : ad 2000000 = b) (hcode : ∀ (k : Nat) (M : pv_M) (pc : Nat) (x : pv_E), X.2.1 k = some M → X.1 k pc = some x → decode M.2.1 pc = .ok (x.1, x.2.1) ∧ pv_iw X GW NW cl SK M pc x.1 x.2.1 x.2.2) : ∀ n : Nat, pv_HB b base sa sv ad D cl cid NW SK GW X l (pv_run X n)
  | 0 => by
    intro d k M pc lo st w res hM h
    cases h
  | n + 1 => by
    have ih := pv_sound hN hGood hPl hcls hHS hSK had hadS hadX hcode n
    have ihc := pv_HC_of hPl (pv_run_le X n) ih
    intro d k M pc lo st w res hM h w0 p e R s m args below meth c Q hMc hR hRc hrt
    unfold pv_run pv_step at h
    split at h
    · cases h
    · rename_i x hxe
      obtain ⟨h1, h2⟩ := hcode k M pc x hM hxe
      exact pv_s_op hN hGood hcls hHS hSK had hadS hadX hMc hM ihc (pv_run_le X n) (pv_run_le X n) hR hRc (fun pc lo st w h => ih d k M pc lo st w res hM h w0 p e R s m args below meth c Q hMc hR hRc hrt) hrt h2 h1 h
end PVS
