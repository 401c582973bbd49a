def pv_Mc (GW : List Jvm.Cond) (M : pv_M) (Kn : State → Prop) (p : Program) (s : State) (m : MethodId) (args : Array Value) (meth : Method) (c : Code) : Prop := p.tables.exec = Jvm.exec ∧ c.code = M.2.1 ∧ c.maxLocals = M.2.2.1 ∧ s.vm.findClass M.1.cls = some m.cls ∧ (∀ x ∈ GW, x.before args s = true) ∧ Kn s ∧ (M.1.name = "<init>" → meth.name = "<init>")
/-- the method's return -/
def pv_Rt (base : Nat) (ad : Nat → Nat) (cid : Nat → ClassId) (D : va_G) (cl : List vw_C) (M : pv_M) (res : Option Value × pv_W) (p : Program) (l : Launch) (e : Env) (R : Room) (s : State) (m : MethodId) (args : Array Value) (below : List Frame) (meth : Method) (c : Code) (Q : State → Prop) : Prop :=
  ∀ (op : Instr) (pc : Nat) (H : Heap) (locs : List Loc) (ls : Array Slot), decode M.2.1 pc = .ok (op, 1) → ((op = .ireturn ∧ ∃ x ty, res.1 = some (.int x) ∧ M.2.2.2.1 = some ty ∧ pv_fit ty (.int x) = true) ∨ (op = .lreturn ∧ ∃ x ty, res.1 = some (.long x) ∧ M.2.2.2.1 = some ty ∧ pv_fit ty (.long x) = true) ∨ (op = .return_ ∧ res.1 = none ∧ M.2.2.2.1 = none)) →
    pv_HW base ad cid D cl res.2 H → va_S (fun q : Nat => base ≤ q) s.heap H locs → W p l e R s m args below meth c H locs R.cells R.slots Q (F0 m pc ls (res.1.toList.map (pv_cv ad)))
/-! PV: calls and returns against the machine -/
section PVC
variable {b base : Nat} {sa sv : Nat → Nat} {ad : Nat → Nat} {cid : Nat → ClassId} {D : va_G} {cl : List vw_C} {w0 : pv_W} {p : Program} {l : Launch} {e : Env} {R : Room} {s : State} {m : MethodId} {args : Array Value} {below : List Frame} {meth : Method} {c : Code} {Q : State → Prop} {pc : Nat} {lo : pv_L} {st : pv_S} {w : pv_W} {res : Option Value × pv_W} {X : pv_X} {GW NW : List Jvm.Cond} {SK : List (String × Nat × String)} {M : pv_M} {d k : Nat} {gc gk : pv_G} {aux : Nat × Nat × Nat}
theorem W.ldcSW {H : Heap} {locs : List Loc} {cells slots : Nat} {cc : ByteArray} {ls : Array Slot} {rest : List Value} (hexec : p.tables.exec = Jvm.exec) (hb : c.code = cc) {own tx : String} {index q : Nat} (hown : s.vm.findClass own = some m.cls) (hZ : vk_R own index tx q s) (hdg : decode cc pc = .ok (.ldc_w index, 3))
    (k : W p l e R s m args below meth c H locs cells slots Q (F0 m (pc + 3) ls (.ref q :: rest))) : W p l e R s m args below meth c H locs cells slots Q (F0 m pc ls rest) := by
  intro T hT X
  obtain ⟨t, a1, b1⟩ := k T hT X
  have hev : (Jvm.Term.string own index).eval args s none [] s = some (.ref q) := hZ.2
  exact ⟨t, X.ldcStringW hexec hown (text := tx) (a := q) hZ.1 hev (g := F0 m pc ls rest) rfl (by rw [hb]; exact hdg) t a1, b1⟩
/-- the callees' contracts -/
def pv_HC (b base : Nat) (sa sv : Nat → Nat) (ad : Nat → Nat) (D : va_G) (cl : List vw_C) (cid : Nat → ClassId) (NW : List Jvm.Cond) (SK : List (String × Nat × String)) (GW : List Jvm.Cond) (X : pv_X) (l : Launch) (gc : pv_G) : Prop := ∀ (d k : Nat) (M : pv_M) (As : List Value) (w : pv_W) (v : Option Value) (w1 : pv_W), X.2.1 k = some M → (pv_lay As).length ≤ M.2.2.1 → gc d k 0 (pv_ent M.2.2.1 As) [] w = some (v, w1) →
  Met l M.1 (Cond.code M.1 M.2.1 M.2.2.1 M.2.2.2.1 :: GW) ({ frames := d, cells := w1.2.length - w.2.length, slots := w1.1 - w.1, locals := 64 * d } : Room) (pv_Pc b base sa sv ad D cl cid X.2.2.2.1 X.2.2.2.2 NW SK As w) (pv_Qc base ad D cl cid v w1) (w1.2.length - w.2.length) (w1.1 - w.1) (fun q : Nat => base ≤ q)
theorem pv_pre {Kn : State → Prop} (hKw : ∀ U : State, s.WarmedH U.vm → s.heap.size ≤ U.heap.size → (∀ q : Nat, q < s.heap.size → ¬ base ≤ q → U.heap[q]? = s.heap[q]?) → Kn U) {H : Heap} {locs : List Loc} (a2 : va_S (fun q : Nat => base ≤ q) s.heap H locs) : ∀ U : State, U.heap = H → s.WarmedH U.vm → Kn U := fun U hU hW => hKw U hW (by rw [hU]; exact a2.1) (fun q h1 h2 => by rw [hU]; exact a2.2.1 q h1 h2)
set_option maxHeartbeats 4000000 in
theorem pv_s_call {op : Instr} {i : Nat} (hN : ∀ x ∈ NW, pv_isN x = true) (hGood : ∀ x ∈ GW, goodWord x = true) (Mc : pv_Mc GW M (pv_Kn b base sa sv D cl cid X.2.2.2.1 X.2.2.2.2 NW SK) p s m args meth c) (had : ∀ a : Nat, a < 1000000 → ad a = base + a)
    (hgc : pv_HC b base sa sv ad D cl cid NW SK GW X l gc) (hcle : ∀ d k pc lo st w res, gc d k pc lo st w = some res → pv_le w res.2) (hkle : ∀ d k pc lo st w res, gk d k pc lo st w = some res → pv_le w res.2) (hR : d ≤ R.frames ∧ 64 * d ≤ R.locals) (hRc : res.2.2.length ≤ R.cells + w0.2.length ∧ res.2.1 ≤ R.slots + w0.1)
    (hk : ∀ pc lo st w, gk d k pc lo st w = some res → pv_Ok base ad cid D cl w0 M.2.2.1 p l e R s m args below meth c Q pc lo st w) (hcw : pv_cw X GW NW cl M.1.cls i aux) (hop : (op = .invokevirtual i ∧ (aux.1 = 0 ∨ aux.1 = 3)) ∨ (op = .invokestatic i ∧ (aux.1 = 1 ∨ aux.1 = 4)) ∨ (op = .invokespecial i ∧ (aux.1 = 2 ∨ aux.1 = 5)))
    (hdg : decode M.2.1 pc = .ok (op, 3)) (h : pv_call X gc gk d k pc lo st w aux = some res) : pv_Ok base ad cid D cl w0 M.2.2.1 p l e R s m args below meth c Q pc lo st w := by
  obtain ⟨hx, hb, hml, hown, hgw, hKn, hnm⟩ := Mc
  obtain ⟨M1, hM1, ⟨hpl, hcode, hd, hmaxL⟩, hini, hkind⟩ := hcw
  have hG : GoodIn GW (Cond.code M1.1 M1.2.1 M1.2.2.1 M1.2.2.2.1 :: GW) := fun x hx => by
    rcases List.mem_cons.mp hx with rfl | hx
    · exact ⟨hcode, good_of_word (hGood _ hcode)⟩
    · exact ⟨hx, good_of_word (hGood _ hx)⟩
  have hlt : aux.1 < 6 := by rcases hop with ⟨-, h1 | h1⟩ | ⟨-, h1 | h1⟩ | ⟨-, h1 | h1⟩ <;> omega
  obtain ⟨M2, As, r, hM2, hpop, hcall⟩ := pv_call_inv h hlt
  cases hM1.symm.trans hM2
  obtain ⟨vs, hvl, rfl, rfl⟩ := pv_pop_inv hpop
  intro H locs ls cells slots a1 a2 a3 a4 a5
  have hKw : ∀ U : State, U.heap = H → s.WarmedH U.vm → pv_Kn b base sa sv D cl cid X.2.2.2.1 X.2.2.2.2 NW SK U := pv_pre (fun U h1 h2 h3 => hKn.warm hN h1 h2 h3) a2
  have S : CallFix p m c M.2.1 M.2.2.1 s args GW M.1.cls := ⟨hx, hb, hml, hown, hgw⟩
  have hsize : (F0 m pc ls ((vs ++ r).map (pv_cv ad))).locals.size = M.2.2.1 := a3.2.1
  rcases hcall with ⟨hst, hcat, v, w1, hrun1, hgo⟩ | ⟨hnst, a, r1, rfl, hcat, ha, ⟨fs, hw⟩, v, w1, hrun1, hgo⟩
  · obtain ⟨d', rfl, hlay, hgo1⟩ := pv_run1_inv hrun1
    have hm1 := hcle _ _ _ _ _ _ _ hgo1
    have hm2 := hkle _ _ _ _ _ _ _ hgo
    have hM := hgc d' aux.2.1 M1 _ w v w1 hM1 hlay hgo1
    have hP : PreS s H (pv_Pc b base sa sv ad D cl cid X.2.2.2.1 X.2.2.2.2 NW SK (vs.reverse ++ []) w) ((vs.reverse ++ []).map (pv_cv ad)) := ⟨pv_Pc_blind hN, fun U hU hW => ⟨rfl, by rw [hU]; exact a1, hKw U hU hW⟩⟩
    have hf : cells + (w1.2.length - w.2.length) ≤ R.cells ∧ slots + (w1.1 - w.1) ≤ R.slots := by
      have h1 := hm1.1; have h2 := hm1.2; have h3 := hm2.1; have h4 := hm2.2; have h5 := hRc.1; have h6 := hRc.2
      simp only at h1 h2 h3 h4
      omega
    have hstk : (F0 m pc ls ((vs ++ r).map (pv_cv ad))).stack = ((vs.reverse ++ []).map (pv_cv ad)).reverse ++ r.map (pv_cv ad) := by simp
    have hcat8 : 2 * (F0 m pc ls ((vs ++ r).map (pv_cv ad))).monitorRoom + ((r.map (pv_cv ad)).map fun v => v.category).sum ≤ 8 := by rw [pv_cat_sum]; show 2 * 0 + pv_cat r ≤ 8; omega
    have hlen : ((vs.reverse ++ []).map (pv_cv ad)).length = M1.2.2.2.2 := by simp [hvl]
    have hRR : d' + 1 ≤ R.frames ∧ 8 + (M1.2.2.1 + 11) + 64 * d' ≤ R.locals := by omega
    rcases hst with h1 | h1
    · rcases hop with ⟨-, h2 | h2⟩ | ⟨rfl, -⟩ | ⟨-, h2 | h2⟩ <;> first | omega | skip
      rcases hkind with ⟨h3, -⟩ | ⟨-, hl, hstat⟩ | ⟨h3, -⟩ | ⟨h3, -⟩ | ⟨h3, -⟩ | ⟨h3, -⟩ <;> first | omega | skip
      exact pv_use_run (va_runS S hM ⟨callB_of _ hgw hG rfl rfl rfl (hgw _ hini) (hgw _ hl) hd hRR, hgw _ hstat⟩ hP rfl hlen hsize hstk hcat8 hdg hf) a2 a3 a4 a5 hm1 (hk _ _ _ _ hgo)
    · rcases hop with ⟨-, h2 | h2⟩ | ⟨rfl, -⟩ | ⟨-, h2 | h2⟩ <;> first | omega | skip
      rcases hkind with ⟨h3, -⟩ | ⟨h3, -⟩ | ⟨h3, -⟩ | ⟨h3, -⟩ | ⟨-, ⟨host, hl⟩, hstat⟩ | ⟨h3, -⟩ <;> first | omega | skip
      exact pv_use_run (va_runSN S hM ⟨va_cnB _ hgw hG rfl rfl rfl (hKn.2.1 _ hl) (hgw _ hini) hd hRR, hgw _ hstat, trivial⟩ hP rfl hlen hsize hstk hcat8 hdg hf) a2 a3 a4 a5 hm1 (hk _ _ _ _ hgo)
  · obtain ⟨d', rfl, hlay, hgo1⟩ := pv_run1_inv hrun1
    have hm1 := hcle _ _ _ _ _ _ _ hgo1
    have hm2 := hkle _ _ _ _ _ _ _ hgo
    have hM := hgc d' aux.2.1 M1 _ w v w1 hM1 hlay hgo1
    have hP0 : ∀ U : State, U.heap = H → s.WarmedH U.vm → pv_Pc b base sa sv ad D cl cid X.2.2.2.1 X.2.2.2.2 NW SK (.ref a :: (vs.reverse ++ [])) w (Value.ref (ad a) :: (vs.reverse ++ []).map (pv_cv ad)).toArray U := fun U hU hW => ⟨rfl, by rw [hU]; exact a1, hKw U hU hW⟩
    have hP : PreS s H (pv_Pc b base sa sv ad D cl cid X.2.2.2.1 X.2.2.2.2 NW SK (.ref a :: (vs.reverse ++ [])) w) (Value.ref (ad a) :: (vs.reverse ++ []).map (pv_cv ad)) := ⟨pv_Pc_blind hN, hP0⟩
    have hf : cells + (w1.2.length - w.2.length) ≤ R.cells ∧ slots + (w1.1 - w.1) ≤ R.slots := by
      have h1 := hm1.1; have h2 := hm1.2; have h3 := hm2.1; have h4 := hm2.2; have h5 := hRc.1; have h6 := hRc.2
      simp only at h1 h2 h3 h4
      omega
    have hstk : (F0 m pc ls ((vs ++ .ref a :: r1).map (pv_cv ad))).stack = ((vs.reverse ++ []).map (pv_cv ad)).reverse ++ Value.ref (ad a) :: r1.map (pv_cv ad) := by simp [pv_cv]
    have hcat8 : 2 * (F0 m pc ls ((vs ++ .ref a :: r1).map (pv_cv ad))).monitorRoom + ((r1.map (pv_cv ad)).map fun v => v.category).sum ≤ 8 := by rw [pv_cat_sum]; show 2 * 0 + pv_cat r1 ≤ 8; omega
    have hlen : ((vs.reverse ++ []).map (pv_cv ad)).length = M1.2.2.2.2 := by simp [hvl]
    have hRR : d' + 1 ≤ R.frames ∧ 8 + (M1.2.2.1 + 11) + 64 * d' ≤ R.locals := by omega
    have hrecv : ∀ T N, cl[aux.2.2]? = some (M1.1.cls, T, N) → PreV s H M1.1.cls (ad a) (pv_Pc b base sa sv ad D cl cid X.2.2.2.1 X.2.2.2.2 NW SK (.ref a :: (vs.reverse ++ [])) w) ((vs.reverse ++ []).map (pv_cv ad)) := fun T N hc => by
      refine ⟨pv_Pc_blind hN, ?_, hP0⟩
      rw [had a ha]
      exact va_recv hKn.1 a1.1 hc (pv_ws_get hw)
    rcases hkind with ⟨h1, hl, hinst, hsel, T, N, hc⟩ | ⟨h1, -⟩ | ⟨h1, hl, hinst, hnm1, hret⟩ | ⟨h1, ⟨host, hl⟩, hinst, hsel, T, N, hc⟩ | ⟨h1, -⟩ | ⟨h1, ⟨host, hl⟩, hinst, hnm1, hret⟩
    · rcases hop with ⟨rfl, -⟩ | ⟨-, h2 | h2⟩ | ⟨-, h2 | h2⟩ <;> first | omega | skip
      exact pv_use_run (va_runV S hM ⟨callB_of _ hgw hG rfl rfl rfl (hgw _ hini) (hgw _ hl) hd hRR, hgw _ hinst, hgw _ hsel⟩ (hrecv T N hc) rfl hlen hsize hstk hcat8 hdg hf) a2 a3 a4 a5 hm1 (hk _ _ _ _ hgo)
    · exact absurd (Or.inl h1) hnst
    · rcases hop with ⟨-, h2 | h2⟩ | ⟨-, h2 | h2⟩ | ⟨rfl, -⟩ <;> first | omega | skip
      rw [hret] at hM hG
      exact pv_use_run (va_runI S hM ⟨callB_of _ hgw hG rfl rfl rfl (hgw _ hini) (hgw _ hl) hd hRR, hnm1, hgw _ hinst⟩ hP rfl hlen hsize hstk hcat8 hdg hf) a2 a3 a4 a5 hm1 (hk _ _ _ _ hgo)
    · rcases hop with ⟨rfl, -⟩ | ⟨-, h2 | h2⟩ | ⟨-, h2 | h2⟩ <;> first | omega | skip
      exact pv_use_run (va_runVN S hM ⟨va_cnB _ hgw hG rfl rfl rfl (hKn.2.1 _ hl) (hgw _ hini) hd hRR, hgw _ hinst, hgw _ hsel⟩ (hrecv T N hc) rfl hlen hsize hstk hcat8 hdg hf) a2 a3 a4 a5 hm1 (hk _ _ _ _ hgo)
    · exact absurd (Or.inr h1) hnst
    · rcases hop with ⟨-, h2 | h2⟩ | ⟨-, h2 | h2⟩ | ⟨rfl, -⟩ <;> first | omega | skip
      rw [hret] at hM hG
      exact pv_use_run (va_runIN S hM ⟨va_cnB _ hgw hG rfl rfl rfl (hKn.2.1 _ hl) (hgw _ hini) hd hRR, hnm1, hgw _ hinst⟩ hP rfl hlen hsize hstk hcat8 hdg hf) a2 a3 a4 a5 hm1 (hk _ _ _ _ hgo)
/-- Object's constructor -/
theorem pv_s_obj {i a : Nat} {r : pv_S} (Mc : pv_Mc GW M (pv_Kn b base sa sv D cl cid X.2.2.2.1 X.2.2.2.2 NW SK) p s m args meth c) (hR : d ≤ R.frames ∧ 64 * d ≤ R.locals) (h1 : Cond.methodLink M.1.cls i objectInit ∈ GW) (h2 : Cond.instanceMethod objectInit ∈ GW) (h3 : Cond.code objectInit ⟨#[0xb1]⟩ 1 none ∈ GW) (hdg : decode M.2.1 pc = .ok (.invokespecial i, 3)) (hd : 0 < d) (hc : pv_cat r ≤ 8)
    (hk : pv_Ok base ad cid D cl w0 M.2.2.1 p l e R s m args below meth c Q (pc + 3) lo r w) : pv_Ok base ad cid D cl w0 M.2.2.1 p l e R s m args below meth c Q pc lo (.ref a :: r) w := by
  obtain ⟨hx, hb, hml, hown, hgw, hKn, hnm⟩ := Mc
  intro H locs ls cells slots a1 a2 a3 a4 a5
  refine W.objInit hx hb hown (hgw _ h1) (hgw _ h2) (hgw _ h3) rfl (by rw [hml]; exact a3.2.1) rfl hdg (by omega) ?_ (hk H locs ls cells slots a1 a2 a3 a4 a5)
  rw [pv_cat_sum]
  show 2 * 0 + pv_cat r + 12 ≤ R.locals
  omega
end PVC
