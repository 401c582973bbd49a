/-! PV: new cells, calls -/
def pv_len : List Nat := (List.range 10).map fun i => (pv_txt i).length
def pv_byt : List (List Int32) := (List.range 10).map pv_txt
theorem pv_over {t : FieldType} {a a' : Array Value} {U U' : State} (hal : U.vm.Alike U'.vm) (h : (Cond.arrayOver (.array t)).before a U = true) : (Cond.arrayOver (.array t)).before a' U' = true := by
  simp only [Cond.before, Cond.holds, Cond.value] at h ⊢
  rw [hal.findClass]
  cases hf : U.vm.findClass (FieldType.array t).toString with
  | none => rw [hf] at h; simp at h
  | some comp =>
    rw [hf] at h
    simp only [Option.bind_some] at h ⊢
    rw [hal.findIdx_congr _ (fun _ _ _ _ => rfl)]
    generalize hF : (U.vm.classes.findIdx? fun (x : Class) => match x.kind with | .array component _ => component == comp | _ => false) = fi at h ⊢
    cases fi with
    | none => simp at h
    | some c =>
      simp only [Option.bind_some] at h ⊢
      cases hk : U.vm.classes[c]? with
      | none => rw [hk] at h; simp at h
      | some k =>
        obtain ⟨k', hk', ek⟩ := hal.2.2 _ _ hk
        rw [hk] at h
        rw [hk', hal.findClass]
        have ekind : k'.kind = k.kind := by rw [ek]
        simp only [Option.map_some] at h ⊢
        rw [ekind]
        exact h
/-- what stands of the tables, the script and the texts, in every state -/
def pv_Kn (b base : Nat) (sa sv : Nat → Nat) (D : va_G) (cl : List vw_C) (cid : Nat → ClassId) (L : Nat) (xs : Nat → Int32) (NW : List Jvm.Cond) (SK : List (String × Nat × String)) (U : State) : Prop :=
  va_K D cl (pv_tys cid) U ∧ (∀ x ∈ NW, va_Nw x U) ∧ va_X b L xs U U.heap ∧ b < base ∧ (∀ (i : Nat) (q : String × Nat × String), SK[i]? = some q → vk_R q.1 q.2.1 q.2.2 (sa i) U) ∧ vk_S 10 pv_len pv_byt sa sv (fun q : Nat => base ≤ q) U U.heap ∧ base ≤ U.heap.size ∧ (∀ t : Nat, t ≤ 1 → (Cond.arrayOver (.array (pv_ty t))).before #[] U = true) ∧
  ∃ v : Value, v.category = 1 ∧ va_Z "java/lang/String" "COMPACT_STRINGS" "Z" (.int 1) (fun q : Nat => base ≤ q) U U.heap ∧ va_Z "jdk/internal/util/Preconditions" "SIOOBE_FORMATTER" "Ljava/util/function/BiFunction;" v (fun q : Nat => base ≤ q) U U.heap
theorem pv_Nw_warm {x : Jvm.Cond} (hx : pv_isN x = true) {s U : State} (hW : s.WarmedH U.vm) (h : va_Nw x s) : va_Nw x U := by
  cases x <;> first | (cases hx; done) | exact va_Nw.warmF hW h | exact va_Nw.warmM hW h
theorem pv_isN_on {x : Jvm.Cond} (hx : pv_isN x = true) : x.onTables = true := by
  cases x <;> first | (cases hx; done) | rfl
theorem pv_Kn.warm {b base : Nat} {sa sv : Nat → Nat} {D : va_G} {cl : List vw_C} {cid : Nat → ClassId} {L : Nat} {xs : Nat → Int32} {NW : List Jvm.Cond} {SK : List (String × Nat × String)} {s U : State} (hN : ∀ x ∈ NW, pv_isN x = true) (h : pv_Kn b base sa sv D cl cid L xs NW SK s) (hW : s.WarmedH U.vm) (hz : s.heap.size ≤ U.heap.size) (hq : ∀ q : Nat, q < s.heap.size → ¬ base ≤ q → U.heap[q]? = s.heap[q]?) : pv_Kn b base sa sv D cl cid L xs NW SK U := by
  obtain ⟨h1, h2, h3, h4, h5, h6, h7, h8, v, hv, h9, h10⟩ := h
  refine ⟨va_K.moved hW.alike h1, fun x hx => pv_Nw_warm (hN x hx) hW (h2 x hx), va_X.kept (va_X.moved hW.alike h3) (hq b (by omega) (by omega)), h4, fun i q hi => vk_R.warm hW (h5 i q hi), vk_S.kept (vk_S.moved hW.alike h6) hq, by omega, fun t ht => pv_over hW.alike (h8 t ht), v, hv, va_Z.kept (va_Z.moved hW.alike h9) hq, va_Z.kept (va_Z.moved hW.alike h10) hq⟩
theorem pv_Kn.blind {b base : Nat} {sa sv : Nat → Nat} {D : va_G} {cl : List vw_C} {cid : Nat → ClassId} {L : Nat} {xs : Nat → Int32} {NW : List Jvm.Cond} {SK : List (String × Nat × String)} {U : State} {g : JFrame} {mk : MethodId} {a : Array Value} (hN : ∀ x ∈ NW, pv_isN x = true) (h : pv_Kn b base sa sv D cl cid L xs NW SK U) : pv_Kn b base sa sv D cl cid L xs NW SK (U.calling g mk a) := by
  obtain ⟨h1, h2, h3, h4, h5, h6, h7, h8, v, hv, h9, h10⟩ := h
  exact ⟨va_K.moved (u := U) (U := U.calling g mk a) (Vm.Alike.refl U.vm) h1, fun x hx => va_Nw.same (pv_isN_on (hN x hx)) (u := U) rfl (h2 x hx), va_X.moved (u := U) (U := U.calling g mk a) (Vm.Alike.refl U.vm) h3, h4, fun i q hi => vk_R.same (u := U) rfl (h5 i q hi), vk_S.moved (u := U) (U := U.calling g mk a) (Vm.Alike.refl U.vm) h6, h7, fun t ht => pv_over (U := U) (U' := U.calling g mk a) (Vm.Alike.refl U.vm) (h8 t ht), v, hv, va_Z.moved (u := U) (U := U.calling g mk a) (Vm.Alike.refl U.vm) h9, va_Z.moved (u := U) (U := U.calling g mk a) (Vm.Alike.refl U.vm) h10⟩
def pv_Pc (b base : Nat) (sa sv : Nat → Nat) (ad : Nat → Nat) (D : va_G) (cl : List vw_C) (cid : Nat → ClassId) (L : Nat) (xs : Nat → Int32) (NW : List Jvm.Cond) (SK : List (String × Nat × String)) (As : List Value) (w : pv_W) : Array Value → State → Prop := fun a U => a = (As.map (pv_cv ad)).toArray ∧ pv_HW base ad cid D cl w U.heap ∧ pv_Kn b base sa sv D cl cid L xs NW SK U
def pv_Qc (base : Nat) (ad : Nat → Nat) (D : va_G) (cl : List vw_C) (cid : Nat → ClassId) (v : Option Value) (w : pv_W) : Array Value → State → Outcome → State → Prop := fun _ st o t => o = .returned (v.map (pv_cv ad)) ∧ pv_HW base ad cid D cl w t.heap ∧ va_F (fun q : Nat => base ≤ q) st t
theorem pv_Pc_blind {b base : Nat} {sa sv : Nat → Nat} {ad : Nat → Nat} {D : va_G} {cl : List vw_C} {cid : Nat → ClassId} {L : Nat} {xs : Nat → Int32} {NW : List Jvm.Cond} {SK : List (String × Nat × String)} {As : List Value} {w : pv_W} (hN : ∀ x ∈ NW, pv_isN x = true) : FrameBlind (pv_Pc b base sa sv ad D cl cid L xs NW SK As w) := fun a U g mk h => ⟨h.1, h.2.1, h.2.2.blind hN⟩
theorem pv_cv_dfl {ad : Nat → Nat} {t : FieldType} : pv_cv ad (defaultValue t) = defaultValue t := by cases t <;> rfl
theorem pv_HW_apps {base : Nat} {ad : Nat → Nat} {cid : Nat → ClassId} {D : va_G} {cl : List vw_C} {w : pv_W} {H H1 : Heap} {n : Nat} {es : List pv_K} (hW : pv_HW base ad cid D cl w H) (hat : ∀ (j : Nat) (x : pv_K), es[j]? = some x → va_at D cl (H.size + j, pv_ck ad cid x) H1) (hz : H1.size = H.size + es.length) (oq : ∀ q : Nat, q < H.size → H1[q]? = H[q]?) : pv_HW base ad cid D cl (n, w.2 ++ es) H1 := by
  refine ⟨fun k q hk => ?_, ?_⟩
  · show va_at D cl q H1
    have hk0 := hk
    unfold pv_ws at hk
    rw [List.getElem?_mapIdx] at hk
    cases hx : (w.2 ++ es)[k]? with
    | none => rw [show ((n, w.2 ++ es) : pv_W).2 = w.2 ++ es from rfl, hx] at hk; cases hk
    | some x =>
      rw [show ((n, w.2 ++ es) : pv_W).2 = w.2 ++ es from rfl, hx] at hk
      cases hk
      by_cases hl : k < w.2.length
      · rw [List.getElem?_append_left hl] at hx
        have h9 := hW.1 k _ (pv_ws_get hx)
        exact h9.kept (oq _ h9.lt)
      · rw [List.getElem?_append_right (by omega)] at hx
        have h9 := hat _ _ hx
        rw [show H.size + (k - w.2.length) = base + k by have := hW.2; omega] at h9
        exact h9
  · show H1.size = base + (w.2 ++ es).length
    rw [List.length_append, hz, hW.2]
    omega
theorem va_S.grow {A : Nat → Prop} {H0 H H1 : Heap} {locs : List Loc} (hS : va_S A H0 H locs) (hz : H.size ≤ H1.size) (oq : ∀ q : Nat, q < H.size → H1[q]? = H[q]?) : va_S A H0 H1 locs := ⟨Nat.le_trans hS.1 hz, fun x h1 h2 => (oq x (Nat.lt_of_lt_of_le h1 hS.1)).trans (hS.2.1 x h1 h2), hS.2.2⟩
theorem pv_outer (c : ClassId) (N h0 : Nat) : ∀ i : Nat, Jvm.Free.Multi.outerC c N h0 i = arrV c N (fun j => va_rf (if j < i then some (h0 + 1 + j) else none))
  | 0 => by
    show ({ cls := c, slots := Array.replicate N .null, vm := .none } : Cell) = _
    rw [arrV_new]
    refine congrArg (arrV c N) (funext fun j => ?_)
    simp [va_rf]
  | i + 1 => by
    show (Jvm.Free.Multi.outerC c N h0 i).setSlot i (.ref (h0 + 1 + i)) = _
    rw [pv_outer c N h0 i, arrV_store]
    refine congrArg (arrV c N) (funext fun j => ?_)
    by_cases e : j = i
    · subst e
      simp [updV, va_rf]
    · by_cases h : j < i
      · simp [updV, e, h, Nat.lt_succ_of_lt h]
      · simp [updV, e, h, show ¬ j < i + 1 by omega]
theorem pv_zero_cell {ad : Nat → Nat} {t n : Nat} (ht : t < 4) (c : ClassId) : vp_cell c (pv_cA ad (n, pv_zero t)) = arrV c n (fun _ => defaultValue (pv_ty t)) := by
  match t, ht with
  | 0, _ => rfl
  | 1, _ => rfl
  | 2, _ => rfl
  | 3, _ => rfl
section PVN
variable {base : Nat} {ad : Nat → Nat} {cid : Nat → ClassId} {D : va_G} {cl : List vw_C} {w0 : pv_W} {nL : Nat} {p : Program} {l : Launch} {e : Env} {R : Room} {s : State} {m : MethodId} {args : Array Value} {below : List Frame} {meth : Method} {c : Code} {Q : State → Prop} {pc pc' : Nat} {lo : pv_L} {st : pv_S} {w w9 : pv_W} {res : Option Value × pv_W} {Ts : List Jvm.Cond} {FD : Nat → List FieldType} {cc : ByteArray} {own : String} {idx : Nat}
theorem pv_s_new {ci : Nat} {C : String} {T : u_T} {N : Nat} (hx : p.tables.exec = Jvm.exec) (hb : c.code = cc) (hts : ∀ w ∈ Ts, w.before args s = true) (hown : s.vm.findClass own = some m.cls) (hK : va_K D cl (pv_tys cid) s) (hcls : pv_clsOk Ts cl FD) (had : ∀ a : Nat, a < 1000000 → ad a = base + a) (hc : cl[ci]? = some (C, T, N))
    (hl : (Cond.classLink own idx C).before args s = true) (hinst : (Cond.instantiable C N).before args s = true) (hini : (Cond.initialized C).before args s = true) (hdg : decode cc pc = .ok (.new idx, 3)) (hlen : w.2.length < 1000000)
    (hm : w.2.length + 1 ≤ w9.2.length ∧ w.1 + (FD ci).length ≤ w9.1) (hR : w9.2.length ≤ R.cells + w0.2.length ∧ w9.1 ≤ R.slots + w0.1) (hk : pv_Ok base ad cid D cl w0 nL p l e R s m args below meth c Q (pc + 3) lo (.ref w.2.length :: st) (w.1 + (FD ci).length, w.2 ++ [.inr (ci, (FD ci).map defaultValue)])) : pv_Ok base ad cid D cl w0 nL p l e R s m args below meth c Q pc lo st w := by
  obtain ⟨hin, hN, hty, hnm, hdecl⟩ := hcls ci C T N hc
  have hKn := hK.1 ci _ hc
  intro H locs ls cells slots a1 a2 a3 a4 a5
  refine W.newcK hx hb hown hl hinst hini rfl hdg (by omega) (by omega) hKn.2.1 rfl fun H1 kC hkC e1 z1 o1 => ?_
  have h9 := hk H1 locs ls (cells + 1) (slots + N) ?_ (a2.grow (by omega) o1) a3 (by rw [List.length_append]; simp only [List.length_singleton]; omega) (by show _ = w.1 + (FD ci).length; omega)
  · show W p l e R s m args below meth c H1 locs (cells + 1) (slots + N) Q (F0 m (pc + 3) ls (.ref H.size :: st.map (pv_cv ad)))
    rw [List.map_cons, show pv_cv ad (.ref w.2.length) = .ref (ad w.2.length) from rfl, had _ hlen, ← a1.2] at h9
    exact h9
  · refine pv_HW_apps a1 (fun j x hj => ?_) (by rw [z1]; rfl) o1
    have h0 : j < 1 := (List.getElem?_eq_some_iff.mp hj).1
    rw [show j = 0 by omega] at hj ⊢
    cases hj
    refine ⟨_, hc, ?_⟩
    show t_OB H.size (D.1 ci) N (D.2 ci) H1 (vp_V (((FD ci).map defaultValue).map (pv_cv ad)))
    refine (u_born (fun k => ((FD ci)[k]?).getD .int) hts hin hKn hkC e1 (fun k hk => by
      rw [hty k hk]
      have : k < (FD ci).length := by omega
      simp [this])).to fun k hk => ?_
    have : k < (FD ci).length := by omega
    simp [vp_V, this, pv_cv_dfl]
theorem pv_s_newa {n : Int32} {t : Nat} {r : pv_S} {aty : ArrayType} (hx : p.tables.exec = Jvm.exec) (hb : c.code = cc) (hK : va_K D cl (pv_tys cid) s) (had : ∀ a : Nat, a < 1000000 → ad a = base + a) (ht : t < 4) (haty : newarray.typeOf aty = pv_ty t)
    (harr : (Cond.arrayClass (pv_ty t)).before args s = true) (hdg : decode cc pc = .ok (.newarray aty, 2)) (hlen : w.2.length < 1000000) (hn : ¬ n < 0) (hn2 : n.toNatClampNeg ≤ 1000000)
    (hm : w.2.length + 1 ≤ w9.2.length ∧ w.1 + n.toNatClampNeg ≤ w9.1) (hR : w9.2.length ≤ R.cells + w0.2.length ∧ w9.1 ≤ R.slots + w0.1) (hk : pv_Ok base ad cid D cl w0 nL p l e R s m args below meth c Q (pc + 2) lo (.ref w.2.length :: r) (w.1 + n.toNatClampNeg, w.2 ++ [.inl (t, n.toNatClampNeg, pv_zero t)])) : pv_Ok base ad cid D cl w0 nL p l e R s m args below meth c Q pc lo (.int n :: r) w := by
  intro H locs ls cells slots a1 a2 a3 a4 a5
  refine va_newaK hx hb (atype := aty) (by rw [haty]; exact harr) rfl hdg rfl hn rfl ?_ (by omega) (by omega) rfl fun H1 cA e1 z1 o1 hAr hNm => ?_
  · rw [haty]
    match t, ht with
    | 0, _ => show n.toNatClampNeg * 4 ≤ 536870912; omega
    | 1, _ => show n.toNatClampNeg * 8 ≤ 536870912; omega
    | 2, _ => show n.toNatClampNeg * 1 ≤ 536870912; omega
    | 3, _ => show n.toNatClampNeg * 1 ≤ 536870912; omega
  rw [haty] at e1 hNm
  have hcA : cA = cid t := by
    have h1 := (hK.2 t _ (pv_tys_get (by omega))).2
    match t, ht with
    | 0, _ => exact Option.some.inj (hNm.symm.trans h1)
    | 1, _ => exact Option.some.inj (hNm.symm.trans h1)
    | 2, _ => exact Option.some.inj (hNm.symm.trans h1)
    | 3, _ => exact Option.some.inj (hNm.symm.trans h1)
  subst hcA
  have h9 := hk H1 locs ls (cells + 1) (slots + n.toNatClampNeg) ?_ (a2.grow (by omega) o1) a3 (by rw [List.length_append]; simp only [List.length_singleton]; omega) (by show _ = w.1 + n.toNatClampNeg; omega)
  · show W p l e R s m args below meth c H1 locs (cells + 1) (slots + n.toNatClampNeg) Q (F0 m (pc + 2) ls (.ref H.size :: r.map (pv_cv ad)))
    rw [List.map_cons, show pv_cv ad (.ref w.2.length) = .ref (ad w.2.length) from rfl, had _ hlen, ← a1.2] at h9
    exact h9
  · refine pv_HW_apps a1 (fun j x hj => ?_) (by rw [z1]; rfl) o1
    have h0 : j < 1 := (List.getElem?_eq_some_iff.mp hj).1
    rw [show j = 0 by omega] at hj ⊢
    cases hj
    show H1[H.size + 0]? = some (vp_cell (cid t) (pv_cA ad (n.toNatClampNeg, pv_zero t)))
    rw [pv_zero_cell ht]
    exact e1
end PVN
