/-! the law's frame (the skeleton's), and its start out of a pure claim -/
def R_law : String := "ScheduleDeskLaw"
def lw_P (b : Addr) (xs : List Int32) (args : Array Value) (s : State) : Prop := args = #[.ref b] ∧ s.IntsAt b xs ∧ xs.length ≤ 4608 ∧ (Jvm.Cond.and given_1 narrow_1).before args s = true
def lw_Q (_ : Array Value) (s : State) (o : Outcome) (t : State) : Prop := o = .returned (some (.int 1)) ∧ Framed s o t [] 600000 7302250
def lw_Z (below : List Frame) (a : Array Value) (s : State) : State → Prop := fun t => ∃ o, t.status = .running ∧ Ended t below o ∧ lw_Q a s o t
/-- the law's own end, with 1 on the stack, nothing written that was there before, its room as the claim has it -/
theorem lw_ret {p : Program} {l : Launch} {e : Env} {s : State} {m : MethodId} {below : List Frame} {meth : Method} {c : Code} {b : Nat} (hx : p.tables.exec = Jvm.exec) (hb : c.code = code) (hr : meth.sig.returnType = ret) (hlocks : meth.locks = false) {pc : Nat} {H : Heap} {ls : Array Slot} (hdg : decode code pc = .ok (.ireturn, 1)) : W p l e room_1 s m #[Value.ref b] below meth c H [] 600000 7302250 (lw_Z below #[Value.ref b] s) (F0 m pc ls [.int 1]) := by
  intro T hT X
  obtain ⟨fs, hret, hrun, hended, hW, hframe⟩ := X.leave (v := some (.int 1)) (hlocks := hlocks) (fun h => by rw [hr] at h; cases h)
  have hmeth' : T.vm.method? m = some meth := X.method'
  refine ⟨T.setFrames fs, ?_, .returned (some (.int 1)), hrun, hended, rfl, ⟨_, rfl⟩, hW, hframe⟩
  jvm_step X.here [X.here.top, hx, hb, hdg, hmeth', hr, ret, narrow_b1]
  (try refine ⟨rfl, ?_⟩); (try refine ⟨rfl, ?_⟩)
  first | (intro acts; rw [hret _ acts rfl rfl rfl]) | rw [hret _ _ rfl rfl rfl]
  exact Steps.refl _
/-- what holds at the law's entry: the machine, the code, the tables' words (any of lw_tbl by 'hts w (by decide +kernel)'), the script of L ints xs at the cell b, what the Statement gives of the start (any of its parts by flat_of_before) -/
def lw_At (p : Program) (s : State) (m : MethodId) (meth : Method) (c : Code) (b L : Nat) (xs : Nat → Int32) : Prop :=
  p.tables.exec = Jvm.exec ∧ c.code = code ∧ meth.sig.returnType = ret ∧ c.maxLocals = 4 ∧ s.vm.findClass R_law = some m.cls ∧ (∀ w ∈ lw_tbl, w.before #[Value.ref b] s = true) ∧ va_X b L xs s s.heap ∧ b < s.heap.size ∧ meth.locks = false ∧ (Jvm.Cond.and given_1 narrow_1).before #[Value.ref b] s = true
def pv_tm (i : Nat) : Jvm.Term := match pv_SK[i]? with
  | some q => .string q.1 q.2.1
  | none => .arg 0
def pv_pred : Jvm.Cond := Jvm.Cond.and given_1 narrow_1
/-- what the law's run is to come to -/
def pv_Pure : Prop := ∀ (L : Nat) (xs : Nat → Int32), L ≤ 4608 → ∃ (n : Nat) (w : pv_W), pv_run (pv_X0 L xs) n 100 0 0 [some (.ref 2000000), none, none, none] [] (0, []) = some (some (.int 1), w) ∧ w.2.length ≤ 600000 ∧ w.1 ≤ 7302250
theorem pv_f1 : ∀ i, i < 10 → Cond.exactly (pv_tm i) "java/lang/String" ∈ flatC pv_pred := by decide +kernel
theorem pv_f2 : ∀ i, i < 10 → Cond.eq (.field (pv_tm i) "java/lang/String" "coder" "B") (.int 0) ∈ flatC pv_pred := by decide +kernel
theorem pv_f3 : ∀ i, i < 10 → Cond.arrayOf (.field (pv_tm i) "java/lang/String" "value" "[B") .byte ∈ flatC pv_pred := by decide +kernel
theorem pv_f4 : ∀ i, i < 10 → Cond.eq (.length (.field (pv_tm i) "java/lang/String" "value" "[B")) (.int (Int32.ofNat (pv_len.getD i 0))) ∈ flatC pv_pred := by decide +kernel
theorem pv_f5 : ∀ i, i < 10 → ∀ j, j < pv_len.getD i 0 → Cond.eq (.elem (.field (pv_tm i) "java/lang/String" "value" "[B") (.int (Int32.ofNat j))) (.int ((pv_byt.getD i []).getD j 0)) ∈ flatC pv_pred := by decide +kernel
theorem pv_f6 : ∀ i, i < 10 → ∀ j, j < 10 → i ≠ j → Cond.not (Cond.eq (pv_tm i) (pv_tm j)) ∈ flatC pv_pred ∨ Cond.not (Cond.eq (pv_tm j) (pv_tm i)) ∈ flatC pv_pred := by decide +kernel
theorem pv_f7 : ∀ i, i < 10 → pv_len.getD i 0 < 2 ^ 31 := by decide +kernel
theorem pv_tw {n : Nat} {x : Jvm.Cond} (h : tables_1[n]? = some x) : x ∈ lw_tbl := List.mem_append_right _ (List.mem_of_getElem? h)
theorem pv_sref : ∀ (i : Nat) (q : String × Nat × String), pv_SK[i]? = some q → i < 10 ∧ pv_tm i = .string q.1 q.2.1 ∧ Cond.stringRef q.1 q.2.1 q.2.2 ∈ lw_tbl := by
  intro i q h
  match i, h with
  | 0, h =>
    cases h
    exact ⟨by decide, rfl, pv_tw (n := 654) (by decide +kernel)⟩
  | 1, h =>
    cases h
    exact ⟨by decide, rfl, pv_tw (n := 707) (by decide +kernel)⟩
  | 2, h =>
    cases h
    exact ⟨by decide, rfl, pv_tw (n := 708) (by decide +kernel)⟩
  | 3, h =>
    cases h
    exact ⟨by decide, rfl, pv_tw (n := 709) (by decide +kernel)⟩
  | 4, h =>
    cases h
    exact ⟨by decide, rfl, pv_tw (n := 710) (by decide +kernel)⟩
  | 5, h =>
    cases h
    exact ⟨by decide, rfl, pv_tw (n := 711) (by decide +kernel)⟩
  | 6, h =>
    cases h
    exact ⟨by decide, rfl, pv_tw (n := 712) (by decide +kernel)⟩
  | 7, h =>
    cases h
    exact ⟨by decide, rfl, pv_tw (n := 713) (by decide +kernel)⟩
  | 8, h =>
    cases h
    exact ⟨by decide, rfl, pv_tw (n := 714) (by decide +kernel)⟩
  | 9, h =>
    cases h
    exact ⟨by decide, rfl, pv_tw (n := 1221) (by decide +kernel)⟩
  | n + 10, h => cases h
theorem pv_classes {s : State} {args : Array Value} (hts : ∀ w ∈ lw_tbl, w.before args s = true) : ∀ c : Nat, ∃ q : ClassId × (Nat → Nat), ∀ (C : String) (T : u_T) (N : Nat), pv_cl[c]? = some (C, T, N) → u_Kn s C T N q.1 q.2 := by
  have hgw : ∀ x ∈ pv_GW, x.before args s = true := fun x hx => hts x (List.mem_filter.mp hx).1
  intro c
  match c with
  | 0 =>
    obtain ⟨cC, iS, h⟩ := u_known (C := pv_R0) (T := pv_T0) (N := 9) (n := 9) hgw pv_u0 (hts _ (pv_tw (n := 122) (by decide +kernel)))
    exact ⟨(cC, iS), fun C T N h9 => by cases h9; exact h⟩
  | 1 =>
    obtain ⟨cC, iS, h⟩ := u_known (C := pv_R1) (T := pv_T1) (N := 14) (n := 14) hgw pv_u1 (hts _ (pv_tw (n := 26) (by decide +kernel)))
    exact ⟨(cC, iS), fun C T N h9 => by cases h9; exact h⟩
  | 2 =>
    obtain ⟨cC, iS, h⟩ := u_known (C := pv_R2) (T := pv_T2) (N := 2) (n := 2) hgw pv_u2 (hts _ (pv_tw (n := 203) (by decide +kernel)))
    exact ⟨(cC, iS), fun C T N h9 => by cases h9; exact h⟩
  | 3 =>
    obtain ⟨cC, iS, h⟩ := u_known (C := pv_R3) (T := pv_T3) (N := 2) (n := 2) hgw pv_u3 (hts _ (pv_tw (n := 218) (by decide +kernel)))
    exact ⟨(cC, iS), fun C T N h9 => by cases h9; exact h⟩
  | 4 =>
    obtain ⟨cC, iS, h⟩ := u_known (C := pv_R4) (T := pv_T4) (N := 2) (n := 2) hgw pv_u4 (hts _ (pv_tw (n := 164) (by decide +kernel)))
    exact ⟨(cC, iS), fun C T N h9 => by cases h9; exact h⟩
  | 5 =>
    obtain ⟨cC, iS, h⟩ := u_known (C := pv_R5) (T := pv_T5) (N := 2) (n := 2) hgw pv_u5 (hts _ (pv_tw (n := 107) (by decide +kernel)))
    exact ⟨(cC, iS), fun C T N h9 => by cases h9; exact h⟩
  | 6 =>
    obtain ⟨cC, iS, h⟩ := u_known (C := pv_R6) (T := pv_T6) (N := 4) (n := 4) hgw pv_u6 (hts _ (pv_tw (n := 179) (by decide +kernel)))
    exact ⟨(cC, iS), fun C T N h9 => by cases h9; exact h⟩
  | 7 =>
    obtain ⟨cC, iS, h⟩ := u_known (C := pv_R7) (T := pv_T7) (N := 9) (n := 9) hgw pv_u7 (hts _ (pv_tw (n := 18) (by decide +kernel)))
    exact ⟨(cC, iS), fun C T N h9 => by cases h9; exact h⟩
  | 8 =>
    obtain ⟨cC, iS, h⟩ := u_known (C := pv_R8) (T := pv_T8) (N := 34) (n := 34) hgw pv_u8 (hts _ (pv_tw (n := 811) (by decide +kernel)))
    exact ⟨(cC, iS), fun C T N h9 => by cases h9; exact h⟩
  | n + 9 => exact ⟨(0, fun _ => 0), fun C T N h => by cases h⟩
theorem pv_arrT {s : State} {args : Array Value} (hts : ∀ w ∈ lw_tbl, w.before args s = true) (hover : ∀ t : Nat, t ≤ 1 → (Cond.arrayOver (.array (pv_ty t))).before args s = true) : ∀ t : Nat, ∃ cA : ClassId, t < 6 → ArrOfT s cA (pv_ty t) ∧ va_RA s cA (pv_ty t) := by
  have hgw : ∀ x ∈ pv_GW, x.before args s = true := fun x hx => hts x (List.mem_filter.mp hx).1
  have prim : ∀ ty : FieldType, (∀ C, ty ≠ .object C) → (∀ q : FieldType, ty = q → True) → (Cond.arrayClass ty).before args s = true → ∃ cA : ClassId, ArrOfT s cA ty ∧ s.vm.findClass ("[" ++ ty.toString) = some cA := by
    intro ty _ _ h
    obtain ⟨cA, kA, comp, h1, h2, h3⟩ := Cond.arrayClass_spec h
    exact ⟨cA, fun n z => ⟨fun k h => (by cases h), kA, h2, comp, h3⟩, h1⟩
  intro t
  match t with
  | 0 =>
    obtain ⟨cA, h1, h2⟩ := prim .int (fun C h => by cases h) (fun _ _ => trivial) (hgw _ (pv_ac 0 (by decide)))
    exact ⟨cA, fun _ => ⟨h1, h2⟩⟩
  | 1 =>
    obtain ⟨cA, h1, h2⟩ := prim .long (fun C h => by cases h) (fun _ _ => trivial) (hgw _ (pv_ac 1 (by decide)))
    exact ⟨cA, fun _ => ⟨h1, h2⟩⟩
  | 2 =>
    obtain ⟨cA, h1, h2⟩ := prim .byte (fun C h => by cases h) (fun _ _ => trivial) (hgw _ (pv_ac 2 (by decide)))
    exact ⟨cA, fun _ => ⟨h1, h2⟩⟩
  | 3 =>
    obtain ⟨cA, h1, h2⟩ := prim .boolean (fun C h => by cases h) (fun _ _ => trivial) (hgw _ (pv_ac 3 (by decide)))
    exact ⟨cA, fun _ => ⟨h1, h2⟩⟩
  | 4 =>
    obtain ⟨comp, cA, kA, h1, h2, h3, h4, h5⟩ := arrayOverA_spec (hover 0 (by decide))
    exact ⟨cA, fun _ => ⟨fun n z => ⟨fun k h => (by cases h), kA, h3, comp, h4⟩, h5⟩⟩
  | 5 =>
    obtain ⟨comp, cA, kA, h1, h2, h3, h4, h5⟩ := arrayOverA_spec (hover 1 (by decide))
    exact ⟨cA, fun _ => ⟨fun n z => ⟨fun k h => (by cases h), kA, h3, comp, h4⟩, h5⟩⟩
  | n + 6 => exact ⟨0, fun h => by omega⟩
set_option maxHeartbeats 4000000 in
theorem pv_start (HP : pv_Pure) {p : Program} {e : Env} {s : State} {m : MethodId} {below : List Frame} {meth : Method} {c : Code} (l : Launch) {b L : Nat} {xs : Nat → Int32} (hL : L ≤ 4608) (C0 : lw_At p s m meth c b L xs) : W p l e room_1 s m #[Value.ref b] below meth c s.heap [] 0 0 (lw_Z below #[Value.ref b] s) (entryFrame m ([Value.ref b] : List Value).toArray 4) := by
  obtain ⟨hx, hb, hr, hml, hown, hts, hX, hbl, hlk, hpre⟩ := C0
  have hgw : ∀ x ∈ pv_GW, x.before #[Value.ref b] s = true := fun x hx => hts x (List.mem_filter.mp hx).1
  have hfl : ∀ x ∈ flatC pv_pred, x.before #[Value.ref b] s = true := flat_of_before _ hpre
  have hA : ∀ a : Nat, a < s.heap.size → ¬ (fun q : Nat => s.heap.size ≤ q) a := fun a ha q => absurd ha (Nat.not_lt.mpr q)
  have hover : ∀ t : Nat, t ≤ 1 → (Cond.arrayOver (.array (pv_ty t))).before #[Value.ref b] s = true := fun t ht => by
    match t, ht with
    | 0, _ => exact hts _ (pv_tw (n := 130) (by decide +kernel))
    | 1, _ => exact hts _ (pv_tw (n := 128) (by decide +kernel))
  obtain ⟨dD, hdD⟩ := Classical.axiomOfChoice (pv_classes hts)
  obtain ⟨cid, hcid⟩ := Classical.axiomOfChoice (pv_arrT hts hover)
  obtain ⟨sa, sv, hvk, hev⟩ := vk_Sof (args := #[Value.ref b]) (s := s) (N := 10) (tm := pv_tm) (len := pv_len) (byt := pv_byt) (A := fun q : Nat => s.heap.size ≤ q) pv_f7 (fun i hi => hfl _ (pv_f1 i hi)) (fun i hi => hfl _ (pv_f2 i hi)) (fun i hi => hfl _ (pv_f3 i hi)) (fun i hi => hfl _ (pv_f4 i hi)) (fun i hi j hj => hfl _ (pv_f5 i hi j hj)) (fun i j hi hj hij => (pv_f6 i hi j hj hij).elim (fun h => Or.inl (hfl _ h)) (fun h => Or.inr (hfl _ h))) hA
  have hZ1 := va_Zof (C := "java/lang/String") (n := "COMPACT_STRINGS") (d := "Z") (v := .int 1) (hts _ (pv_tw (n := 668) (by decide +kernel))) (hts _ (pv_tw (n := 13) (by decide +kernel))) (va_eqi (hfl _ (by decide +kernel))) hA
  have hZ2 := va_Zqof (C := "jdk/internal/util/Preconditions") (n := "SIOOBE_FORMATTER") (d := "Ljava/util/function/BiFunction;") (hts _ (pv_tw (n := 684) (by decide +kernel))) (hts _ (pv_tw (n := 15) (by decide +kernel))) (hfl _ (by decide +kernel)) hA
  have hZ : ∃ v : Value, v.category = 1 ∧ va_Z "java/lang/String" "COMPACT_STRINGS" "Z" (.int 1) (fun q : Nat => s.heap.size ≤ q) s s.heap ∧ va_Z "jdk/internal/util/Preconditions" "SIOOBE_FORMATTER" "Ljava/util/function/BiFunction;" v (fun q : Nat => s.heap.size ≤ q) s s.heap := by
    rcases hZ2 with h | ⟨t, h⟩
    · exact ⟨.null, rfl, hZ1, h⟩
    · exact ⟨.ref t, rfl, hZ1, h⟩
  have hKn : pv_Kn b s.heap.size sa sv (fun c => (dD c).1, fun c => (dD c).2) pv_cl cid L xs pv_NW pv_SK s := by
    refine ⟨⟨fun c q hq => hdD c q.1 q.2.1 q.2.2 hq, fun k q hk => ?_⟩, fun x hx => va_Nw.of (pv_isN_on (pv_NW_n x hx)) (hts x (List.mem_append_right _ (List.mem_filter.mp hx).1)), hX, hbl, fun i q hi => ?_, hvk, Nat.le_refl _, fun t ht => pv_over (Vm.Alike.refl s.vm) (hover t ht), hZ⟩
    · have hk6 : k < 6 := (List.getElem?_eq_some_iff.mp hk).1
      rw [pv_tys_get hk6] at hk
      cases hk
      exact hcid k hk6
    · obtain ⟨h1, h2, h3⟩ := pv_sref i q hi
      have h4 := hev i h1
      rw [h2] at h4
      exact vk_R.of (hts _ h3) h4
  generalize hbase : s.heap.size = base at hKn hA
  obtain ⟨n, w, hrun, hw1, hw2⟩ := HP L xs hL
  have had : ∀ a : Nat, a < 1000000 → pv_ad b base sa a = base + a := fun a ha => if_pos ha
  have hadX : pv_ad b base sa 2000000 = b := by
    unfold pv_ad
    rw [if_neg (by omega), if_pos rfl]
  have hadS : ∀ i : Nat, i < 10 → pv_ad b base sa (1000000 + i) = sa i := fun i hi => by
    unfold pv_ad
    rw [if_neg (by omega), if_neg (by omega), Nat.add_sub_cancel_left]
  have hB := pv_sound (X := pv_X0 L xs) (GW := pv_GW) (NW := pv_NW) (cl := pv_cl) (SK := pv_SK) (l := l) (b := b) (base := base) (sa := sa) (sv := sv) (ad := pv_ad b base sa) (cid := cid) (D := (fun c => (dD c).1, fun c => (dD c).2)) pv_NW_n pv_GW_good pv_pl pv_cls_ok (pv_HS_ok rfl rfl hadS) rfl had hadS hadX (fun k M pc x hM hx => pv_code_ok k M pc x hM hx) n
  have hMc : pv_Mc pv_GW pv_m0 (pv_Kn b base sa sv (fun c => (dD c).1, fun c => (dD c).2) pv_cl cid L xs pv_NW pv_SK) p s m #[Value.ref b] meth c := ⟨hx, hb, hml, hown, hgw, hKn, fun h => absurd h (by decide)⟩
  have hlay : (pv_lay [Value.ref 2000000]).length ≤ 4 := Nat.le_of_ble_eq_true rfl
  have hlh := pv_ent_lh (ad := pv_ad b base sa) hlay
  have hcv : [Value.ref 2000000].map (pv_cv (pv_ad b base sa)) = [Value.ref b] := by
    show [Value.ref (pv_ad b base sa 2000000)] = _
    rw [hadX]
  rw [hcv] at hlh
  rw [lg_entry_eq]
  have hHW : pv_HW base (pv_ad b base sa) cid (fun c => (dD c).1, fun c => (dD c).2) pv_cl (0, []) s.heap := ⟨fun k q hk => (by cases hk), hbase⟩
  refine hB 100 0 pv_m0 0 _ [] (0, []) (some (.int 1), w) rfl hrun (0, []) p e room_1 s m _ below meth c _ hMc (by decide) ⟨by show w.2.length ≤ 600000 + 0; omega, by show w.1 ≤ 7302250 + 0; omega⟩ ?_ s.heap [] _ 0 0 hHW va_S.rf hlh rfl rfl
  intro op pc H locs ls hdg hcase hHW1 hS
  rcases hcase with ⟨rfl, x, ty, h1, h2, h3⟩ | ⟨rfl, x, ty, h1, h2, h3⟩ | ⟨rfl, h1, h2⟩
  · cases h1
    refine va_forget (fun q hq => ?_) (lw_ret hx hb hr hlk hdg)
    have h9 := hS.2.2 q hq
    rw [hbase]
    exact h9
  · cases h1
  · cases h1
