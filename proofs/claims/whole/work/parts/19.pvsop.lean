/-! PV: any instruction against the machine -/
section PVO
variable {b base : Nat} {sa sv : Nat → Nat} {ad : Nat → Nat} {cid : Nat → ClassId} {D : va_G} {cl : List vw_C} {w0 : pv_W} {p : Program} {l : Launch} {e : Env} {R : Room} {s : State} {m : MethodId} {args : Array Value} {below : List Frame} {meth : Method} {c : Code} {Q : State → Prop} {pc : Nat} {lo : pv_L} {st : pv_S} {w : pv_W} {res : Option Value × pv_W} {X : pv_X} {GW NW : List Jvm.Cond} {SK : List (String × Nat × String)} {M : pv_M} {d k : Nat} {gc gk : pv_G} {aux : Nat × Nat × Nat}
/-- the two methods of a text -/
def pv_HS (b base : Nat) (sa sv : Nat → Nat) (ad : Nat → Nat) (D : va_G) (cl : List vw_C) (cid : Nat → ClassId) (NW : List Jvm.Cond) (SK : List (String × Nat × String)) (GW : List Jvm.Cond) (X : pv_X) (l : Launch) : Prop :=
  ∃ (bL bC : ByteArray) (nL nC : Nat) (rL rC : Option FieldType), nL ≤ 45 ∧ nC ≤ 45 ∧ Cond.code pv_yLen bL nL rL ∈ GW ∧ Cond.code pv_yChar bC nC rC ∈ GW ∧ Cond.initialized "java/lang/String" ∈ GW ∧ (Cond.instanceMethod pv_yLen ∈ GW ∧ Cond.selects "java/lang/String" pv_yLen pv_yLen ∈ GW) ∧ (Cond.instanceMethod pv_yChar ∈ GW ∧ Cond.selects "java/lang/String" pv_yChar pv_yChar ∈ GW) ∧
  (∀ (i : Nat) (w : pv_W), i < 10 → Met l pv_yLen (Cond.code pv_yLen bL nL rL :: GW) ({ frames := 3, cells := 0, slots := 0, locals := 192 } : Room) (pv_Pc b base sa sv ad D cl cid X.2.2.2.1 X.2.2.2.2 NW SK [.ref (1000000 + i)] w) (pv_Qc base ad D cl cid (some (.int (Int32.ofNat (pv_txt i).length))) w) 0 0 (fun q : Nat => base ≤ q)) ∧
  (∀ (i : Nat) (j : Int32) (w : pv_W), i < 10 → vp_in j (pv_txt i).length → Met l pv_yChar (Cond.code pv_yChar bC nC rC :: GW) ({ frames := 3, cells := 0, slots := 0, locals := 192 } : Room) (pv_Pc b base sa sv ad D cl cid X.2.2.2.1 X.2.2.2.2 NW SK [.ref (1000000 + i), .int j] w) (pv_Qc base ad D cl cid (some (.int ((pv_txt i).getD j.toNatClampNeg 0))) w) 0 0 (fun q : Nat => base ≤ q))
theorem pv_s_len {i q : Nat} {r : pv_S} (hN : ∀ x ∈ NW, pv_isN x = true) (hGood : ∀ x ∈ GW, goodWord x = true) (hHS : pv_HS b base sa sv ad D cl cid NW SK GW X l) (Mc : pv_Mc GW M (pv_Kn b base sa sv D cl cid X.2.2.2.1 X.2.2.2.2 NW SK) p s m args meth c) (hadS : ∀ i : Nat, i < 10 → ad (1000000 + i) = sa i)
    (hkle : ∀ d k pc lo st w res, gk d k pc lo st w = some res → pv_le w res.2) (hR : d ≤ R.frames ∧ 64 * d ≤ R.locals) (hRc : res.2.2.length ≤ R.cells + w0.2.length ∧ res.2.1 ≤ R.slots + w0.1) (hl : Cond.methodLink M.1.cls q pv_yLen ∈ GW) (hdg : decode M.2.1 pc = .ok (.invokevirtual q, 3)) (hi : i < 10) (hcat : pv_cat r ≤ 8) (hd : 3 < d)
    (hgo : gk d k (pc + 3) lo (.int (Int32.ofNat (pv_txt i).length) :: r) w = some res) (hk : pv_Ok base ad cid D cl w0 M.2.2.1 p l e R s m args below meth c Q (pc + 3) lo (.int (Int32.ofNat (pv_txt i).length) :: r) w) : pv_Ok base ad cid D cl w0 M.2.2.1 p l e R s m args below meth c Q pc lo (.ref (1000000 + i) :: r) w := by
  obtain ⟨hx, hb, hml, hown, hgw, hKn, hnm⟩ := Mc
  obtain ⟨bL, bC, nL, nC, rL, rC, hnL, hnC, hcL, hcC, hini, ⟨hin1, hse1⟩, ⟨hin2, hse2⟩, hmL, hmC⟩ := hHS
  have hG : GoodIn GW (Cond.code pv_yLen bL nL rL :: GW) := fun x hx => by
    rcases List.mem_cons.mp hx with rfl | hx
    · exact ⟨hcL, good_of_word (hGood _ hcL)⟩
    · exact ⟨hx, good_of_word (hGood _ hx)⟩
  intro H locs ls cells slots a1 a2 a3 a4 a5
  have hKw : ∀ U : State, U.heap = H → s.WarmedH U.vm → pv_Kn b base sa sv D cl cid X.2.2.2.1 X.2.2.2.2 NW SK U := pv_pre (fun U h1 h2 h3 => hKn.warm hN h1 h2 h3) a2
  have hm2 := hkle _ _ _ _ _ _ _ hgo
  have hcat8 : 2 * (F0 m pc ls ((.ref (1000000 + i) :: r).map (pv_cv ad))).monitorRoom + ((r.map (pv_cv ad)).map fun v => v.category).sum ≤ 8 := by rw [pv_cat_sum]; show 2 * 0 + pv_cat r ≤ 8; omega
  refine pv_use_run (w9 := w) (v := some (.int (Int32.ofNat (pv_txt i).length))) (a := #[.ref (ad (1000000 + i))]) ?_ a2 a3 a4 a5 pv_le.rf hk
  rw [Nat.sub_self, Nat.sub_self]
  refine va_runV (C := "java/lang/String") (b := ad (1000000 + i)) (As := []) (n := 0) ⟨hx, hb, hml, hown, hgw⟩ (hmL i w hi) ⟨callB_of 0 hgw hG rfl rfl rfl (hgw _ hini) (hgw _ hl) (by decide +kernel) (by show 3 + 1 ≤ R.frames ∧ 8 + (nL + 11) + 192 ≤ R.locals; omega), hgw _ hin1, hgw _ hse1⟩ ⟨pv_Pc_blind hN, ?_, fun U hU hW => ⟨rfl, by rw [hU]; exact a1, hKw U hU hW⟩⟩ rfl rfl a3.2.1 rfl hcat8 hdg (by have h1 := hm2.1; have h2 := hm2.2; omega)
  rw [hadS i hi]
  exact vk_recv hKn.2.2.2.2.2.1 hi a2
theorem pv_s_char {i q : Nat} {j : Int32} {r : pv_S} (hN : ∀ x ∈ NW, pv_isN x = true) (hGood : ∀ x ∈ GW, goodWord x = true) (hHS : pv_HS b base sa sv ad D cl cid NW SK GW X l) (Mc : pv_Mc GW M (pv_Kn b base sa sv D cl cid X.2.2.2.1 X.2.2.2.2 NW SK) p s m args meth c) (hadS : ∀ i : Nat, i < 10 → ad (1000000 + i) = sa i)
    (hkle : ∀ d k pc lo st w res, gk d k pc lo st w = some res → pv_le w res.2) (hR : d ≤ R.frames ∧ 64 * d ≤ R.locals) (hRc : res.2.2.length ≤ R.cells + w0.2.length ∧ res.2.1 ≤ R.slots + w0.1) (hl : Cond.methodLink M.1.cls q pv_yChar ∈ GW) (hdg : decode M.2.1 pc = .ok (.invokevirtual q, 3)) (hi : i < 10) (hj : vp_in j (pv_txt i).length) (hcat : pv_cat r ≤ 8) (hd : 3 < d)
    (hgo : gk d k (pc + 3) lo (.int ((pv_txt i).getD j.toNatClampNeg 0) :: r) w = some res) (hk : pv_Ok base ad cid D cl w0 M.2.2.1 p l e R s m args below meth c Q (pc + 3) lo (.int ((pv_txt i).getD j.toNatClampNeg 0) :: r) w) : pv_Ok base ad cid D cl w0 M.2.2.1 p l e R s m args below meth c Q pc lo (.int j :: .ref (1000000 + i) :: r) w := by
  obtain ⟨hx, hb, hml, hown, hgw, hKn, hnm⟩ := Mc
  obtain ⟨bL, bC, nL, nC, rL, rC, hnL, hnC, hcL, hcC, hini, ⟨hin1, hse1⟩, ⟨hin2, hse2⟩, hmL, hmC⟩ := hHS
  have hG : GoodIn GW (Cond.code pv_yChar bC nC rC :: GW) := fun x hx => by
    rcases List.mem_cons.mp hx with rfl | hx
    · exact ⟨hcC, good_of_word (hGood _ hcC)⟩
    · exact ⟨hx, good_of_word (hGood _ hx)⟩
  intro H locs ls cells slots a1 a2 a3 a4 a5
  have hKw : ∀ U : State, U.heap = H → s.WarmedH U.vm → pv_Kn b base sa sv D cl cid X.2.2.2.1 X.2.2.2.2 NW SK U := pv_pre (fun U h1 h2 h3 => hKn.warm hN h1 h2 h3) a2
  have hm2 := hkle _ _ _ _ _ _ _ hgo
  have hcat8 : 2 * (F0 m pc ls ((.int j :: .ref (1000000 + i) :: r).map (pv_cv ad))).monitorRoom + ((r.map (pv_cv ad)).map fun v => v.category).sum ≤ 8 := by rw [pv_cat_sum]; show 2 * 0 + pv_cat r ≤ 8; omega
  refine pv_use_run (w9 := w) (v := some (.int ((pv_txt i).getD j.toNatClampNeg 0))) (a := #[.ref (ad (1000000 + i)), .int j]) ?_ a2 a3 a4 a5 pv_le.rf hk
  rw [Nat.sub_self, Nat.sub_self]
  refine va_runV (C := "java/lang/String") (b := ad (1000000 + i)) (As := [.int j]) (n := 1) ⟨hx, hb, hml, hown, hgw⟩ (hmC i j w hi hj) ⟨callB_of 1 hgw hG rfl rfl rfl (hgw _ hini) (hgw _ hl) (by decide +kernel) (by show 3 + 1 ≤ R.frames ∧ 8 + (nC + 11) + 192 ≤ R.locals; omega), hgw _ hin2, hgw _ hse2⟩ ⟨pv_Pc_blind hN, ?_, fun U hU hW => ⟨rfl, by rw [hU]; exact a1, hKw U hU hW⟩⟩ rfl rfl a3.2.1 rfl hcat8 hdg (by have h1 := hm2.1; have h2 := hm2.2; omega)
  rw [hadS i hi]
  exact vk_recv hKn.2.2.2.2.2.1 hi a2
set_option maxHeartbeats 8000000 in
theorem pv_s_op {op : Instr} {len : Nat} (hN : ∀ x ∈ NW, pv_isN x = true) (hGood : ∀ x ∈ GW, goodWord x = true) (hcls : pv_clsOk GW cl X.2.2.1) (hHS : pv_HS b base sa sv ad D cl cid NW SK GW X l) (hSK : SK.length = 10) (had : ∀ a : Nat, a < 1000000 → ad a = base + a) (hadS : ∀ i : Nat, i < 10 → ad (1000000 + i) = sa i) (hadX : ad 2000000 = b) (Mc : pv_Mc GW M (pv_Kn b base sa sv D cl cid X.2.2.2.1 X.2.2.2.2 NW SK) p s m args meth c) (hkM : X.2.1 k = some M)
    (hgc : pv_HC b base sa sv ad D cl cid NW SK GW X l gc) (hcle : ∀ d k pc lo st w res, gc d k pc lo st w = some res → pv_le w res.2) (hkle : ∀ d k pc lo st w res, gk d k pc lo st w = some res → pv_le w res.2) (hR : d ≤ R.frames ∧ 64 * d ≤ R.locals) (hRc : res.2.2.length ≤ R.cells + w0.2.length ∧ res.2.1 ≤ R.slots + w0.1)
    (hk : ∀ pc lo st w, gk d k pc lo st w = some res → pv_Ok base ad cid D cl w0 M.2.2.1 p l e R s m args below meth c Q pc lo st w) (hrt : pv_Rt base ad cid D cl M res p l e R s m args below meth c Q) (hiw : pv_iw X GW NW cl SK M pc op len aux) (hdg : decode M.2.1 pc = .ok (op, len)) (h : pv_op X gc gk d k pc lo st w op len aux = some res) : pv_Ok base ad cid D cl w0 M.2.2.1 p l e R s m args below meth c Q pc lo st w := by
  have hx := Mc.1
  have hb := Mc.2.1
  have hown := Mc.2.2.2.1
  have hgw := Mc.2.2.2.2.1
  have hKn := Mc.2.2.2.2.2.1
  have hK := hKn.1
  cases op <;> simp only [pv_op] at h <;> simp only [pv_iw] at hiw <;> try (cases h; done)
  case iconst n =>
    subst hiw
    exact pv_s_push (v := .int (Int32.ofInt n)) rfl (fun H locs cells slots ls r k => lv_iconst hx hb hdg rfl k) (hk _ _ _ _ h)
  case bipush n =>
    subst hiw
    exact pv_s_push (v := .int ((Int8.ofInt n).toInt32)) rfl (fun H locs cells slots ls r k => lv_bipush hx hb hdg rfl k) (hk _ _ _ _ h)
  case sipush n =>
    subst hiw
    exact pv_s_push (v := .int ((Int16.ofInt n).toInt32)) rfl (fun H locs cells slots ls r k => lv_sipush hx hb hdg rfl k) (hk _ _ _ _ h)
  case lconst n =>
    subst hiw
    exact pv_s_push (v := .long (Int64.ofNat n.val)) rfl (fun H locs cells slots ls r k => lv_lconst hx hb hdg rfl k) (hk _ _ _ _ h)
  case iload_n i =>
    subst hiw
    exact pv_s_ldI (fun H locs cells slots ls r x hl k => lv_iload_n hx hb hdg rfl hl k) h (fun x h => hk _ _ _ _ h)
  case iload i =>
    subst hiw
    exact pv_s_ldI (fun H locs cells slots ls r x hl k => lv_iload hx hb hdg hl k) h (fun x h => hk _ _ _ _ h)
  case lload_n i =>
    subst hiw
    exact pv_s_ldJ (fun H locs cells slots ls r x hl k => lv_lload_n hx hb hdg rfl hl k) h (fun x h => hk _ _ _ _ h)
  case lload i =>
    subst hiw
    exact pv_s_ldJ (fun H locs cells slots ls r x hl k => lv_lload hx hb hdg hl k) h (fun x h => hk _ _ _ _ h)
  case aload_n i =>
    subst hiw
    exact pv_s_ldA (fun H locs cells slots ls r x hl k => lv_aload_n hx hb hdg rfl hl k) h (fun x h => hk _ _ _ _ h)
  case aload i =>
    subst hiw
    exact pv_s_ldA (fun H locs cells slots ls r x hl k => lv_aload hx hb hdg hl k) h (fun x h => hk _ _ _ _ h)
  case istore_n i =>
    subst hiw
    exact pv_s_stI (fun H locs cells slots ls r x lv hl hn k => lv_istore_n hx hb hdg rfl hl hn rfl k) h (fun lo st h => hk _ _ _ _ h)
  case istore i =>
    subst hiw
    exact pv_s_stI (fun H locs cells slots ls r x lv hl hn k => lv_istore hx hb hdg hl hn rfl k) h (fun lo st h => hk _ _ _ _ h)
  case lstore_n i =>
    subst hiw
    exact pv_s_stJ (fun H locs cells slots ls r x lv hl hn k => lv_lstore_n hx hb hdg rfl hl hn rfl k) h (fun lo st h => hk _ _ _ _ h)
  case lstore i =>
    subst hiw
    exact pv_s_stJ (fun H locs cells slots ls r x lv hl hn k => lv_lstore hx hb hdg hl hn rfl k) h (fun lo st h => hk _ _ _ _ h)
  case astore_n i =>
    subst hiw
    exact pv_s_stA (fun H locs cells slots ls r x lv hl hn k => lv_astore_n hx hb hdg rfl hl hn rfl k) h (fun lo st h => hk _ _ _ _ h)
  case astore i =>
    subst hiw
    exact pv_s_stA (fun H locs cells slots ls r x lv hl hn k => lv_astore hx hb hdg hl hn rfl k) h (fun lo st h => hk _ _ _ _ h)
  case iadd =>
    subst hiw
    exact pv_s_i2 (fun H locs cells slots ls r x y k => lv_iadd hx hb hdg k) h (fun st h => hk _ _ _ _ h)
  case isub =>
    subst hiw
    exact pv_s_i2 (fun H locs cells slots ls r x y k => lv_isub hx hb hdg k) h (fun st h => hk _ _ _ _ h)
  case imul =>
    subst hiw
    exact pv_s_i2 (fun H locs cells slots ls r x y k => lv_imul hx hb hdg k) h (fun st h => hk _ _ _ _ h)
  case iand =>
    subst hiw
    exact pv_s_i2 (fun H locs cells slots ls r x y k => lv_iand hx hb hdg k) h (fun st h => hk _ _ _ _ h)
  case ior =>
    subst hiw
    exact pv_s_i2 (fun H locs cells slots ls r x y k => lv_ior hx hb hdg k) h (fun st h => hk _ _ _ _ h)
  case ixor =>
    subst hiw
    exact pv_s_i2 (fun H locs cells slots ls r x y k => lv_ixor hx hb hdg k) h (fun st h => hk _ _ _ _ h)
  case ishl =>
    subst hiw
    exact pv_s_i2 (fun H locs cells slots ls r x y k => lv_ishl hx hb hdg k) h (fun st h => hk _ _ _ _ h)
  case ishr =>
    subst hiw
    exact pv_s_i2 (fun H locs cells slots ls r x y k => lv_ishr hx hb hdg k) h (fun st h => hk _ _ _ _ h)
  case iushr =>
    subst hiw
    exact pv_s_i2 (fun H locs cells slots ls r x y k => lv_iushr hx hb hdg rfl k) h (fun st h => hk _ _ _ _ h)
  case idiv =>
    subst hiw
    exact pv_s_i2z (fun H locs cells slots ls r x y hz k => lv_idiv hx hb hdg hz k) h (fun st h => hk _ _ _ _ h)
  case irem =>
    subst hiw
    exact pv_s_i2z (fun H locs cells slots ls r x y hz k => lv_irem hx hb hdg hz k) h (fun st h => hk _ _ _ _ h)
  case ladd =>
    subst hiw
    exact pv_s_l2 (fun H locs cells slots ls r x y k => lv_ladd hx hb hdg k) h (fun st h => hk _ _ _ _ h)
  case lsub =>
    subst hiw
    exact pv_s_l2 (fun H locs cells slots ls r x y k => lv_lsub hx hb hdg k) h (fun st h => hk _ _ _ _ h)
  case lmul =>
    subst hiw
    exact pv_s_l2 (fun H locs cells slots ls r x y k => lv_lmul hx hb hdg k) h (fun st h => hk _ _ _ _ h)
  case land =>
    subst hiw
    exact pv_s_l2 (fun H locs cells slots ls r x y k => lv_land hx hb hdg k) h (fun st h => hk _ _ _ _ h)
  case lor =>
    subst hiw
    exact pv_s_l2 (fun H locs cells slots ls r x y k => lv_lor hx hb hdg k) h (fun st h => hk _ _ _ _ h)
  case lxor =>
    subst hiw
    exact pv_s_l2 (fun H locs cells slots ls r x y k => lv_lxor hx hb hdg k) h (fun st h => hk _ _ _ _ h)
  case ldiv =>
    subst hiw
    exact pv_s_l2z (fun H locs cells slots ls r x y hz k => lv_ldiv hx hb hdg hz k) h (fun st h => hk _ _ _ _ h)
  case lrem =>
    subst hiw
    exact pv_s_l2z (fun H locs cells slots ls r x y hz k => lv_lrem hx hb hdg hz k) h (fun st h => hk _ _ _ _ h)
  case ineg =>
    subst hiw
    exact pv_s_i1 (fun H locs cells slots ls r x k => lv_ineg hx hb hdg k) h (fun st h => hk _ _ _ _ h)
  case i2b =>
    subst hiw
    exact pv_s_i1 (fun H locs cells slots ls r x k => lv_i2b hx hb hdg rfl k) h (fun st h => hk _ _ _ _ h)
  case i2c =>
    subst hiw
    exact pv_s_i1 (fun H locs cells slots ls r x k => lv_i2c hx hb hdg rfl k) h (fun st h => hk _ _ _ _ h)
  case lneg =>
    subst hiw
    exact pv_s_l1 (fun H locs cells slots ls r x k => lv_lneg hx hb hdg k) h (fun st h => hk _ _ _ _ h)
  case i2l =>
    subst hiw
    exact pv_s_il (fun H locs cells slots ls r x k => lv_i2l hx hb hdg rfl k) h (fun st h => hk _ _ _ _ h)
  case l2i =>
    subst hiw
    exact pv_s_li (fun H locs cells slots ls r x k => lv_l2i hx hb hdg rfl k) h (fun st h => hk _ _ _ _ h)
  case lshl =>
    subst hiw
    exact pv_s_ls (fun H locs cells slots ls r x y k => lv_lshl hx hb hdg rfl k) h (fun st h => hk _ _ _ _ h)
  case lcmp =>
    subst hiw
    exact pv_s_lc (fun H locs cells slots ls r x y k => W.lcmp hx hb hdg k) h (fun st h => hk _ _ _ _ h)
  case iinc i n =>
    subst hiw
    obtain ⟨-, h⟩ := pv_bif h
    unfold pv_ldI at h
    split at h
    · rename_i x hl
      obtain ⟨h1, h2⟩ := pv_bif h
      intro H locs ls cells slots a1 a2 a3 a4 a5
      have hmem := pv_lv_mem (ad := ad) hl
      obtain ⟨q, hq⟩ := List.getElem?_of_mem hmem
      refine lv_iinc hx hb hdg a3.has hq rfl (by rw [← a3.1]; exact Nat.le_of_ble_eq_true h1) rfl fun ls' h' => ?_
      exact hk _ _ _ _ h2 H locs ls' cells slots a1 a2 (a3.s1 (v := .int (x + Int32.ofInt n)) h') a4 a5
    · cases h
  case dup =>
    subst hiw
    split at h
    · intro H locs ls cells slots a1 a2 a3 a4 a5
      exact lv_dup hx hb hdg rfl (hk _ _ _ _ h H locs ls cells slots a1 a2 a3 a4 a5)
    · intro H locs ls cells slots a1 a2 a3 a4 a5
      exact lv_dup hx hb hdg rfl (hk _ _ _ _ h H locs ls cells slots a1 a2 a3 a4 a5)
    · cases h
  case dup2 =>
    subst hiw
    split at h
    · intro H locs ls cells slots a1 a2 a3 a4 a5
      exact lv_dup2_2 hx hb hdg rfl (hk _ _ _ _ h H locs ls cells slots a1 a2 a3 a4 a5)
    · intro H locs ls cells slots a1 a2 a3 a4 a5
      exact lv_dup2_11 hx hb hdg rfl rfl (hk _ _ _ _ h H locs ls cells slots a1 a2 a3 a4 a5)
    · cases h
  case pop =>
    subst hiw
    split at h
    · intro H locs ls cells slots a1 a2 a3 a4 a5
      exact lv_pop hx hb hdg rfl (hk _ _ _ _ h H locs ls cells slots a1 a2 a3 a4 a5)
    · intro H locs ls cells slots a1 a2 a3 a4 a5
      exact lv_pop hx hb hdg rfl (hk _ _ _ _ h H locs ls cells slots a1 a2 a3 a4 a5)
    · cases h
  case goto off =>
    obtain ⟨rfl, ht⟩ := hiw
    intro H locs ls cells slots a1 a2 a3 a4 a5
    exact lv_goto hx hb hdg ht (hk _ _ _ _ h H locs ls cells slots a1 a2 a3 a4 a5)
  case ifCond c1 off =>
    obtain ⟨rfl, ht⟩ := hiw
    split at h
    · rename_i x r
      intro H locs ls cells slots a1 a2 a3 a4 a5
      unfold pv_if at h
      cases c1 <;> simp only at h <;> split at h
      · rename_i hc
        exact lv_if_eq hx hb hdg ht (fun _ => hk _ _ _ _ h H locs ls cells slots a1 a2 a3 a4 a5) (fun z => absurd hc z)
      · rename_i hc
        exact lv_if_eq hx hb hdg ht (fun z => absurd z hc) (fun _ => hk _ _ _ _ h H locs ls cells slots a1 a2 a3 a4 a5)
      · rename_i hc
        exact lv_if_ne hx hb hdg ht (fun z => absurd hc z) (fun _ => hk _ _ _ _ h H locs ls cells slots a1 a2 a3 a4 a5)
      · rename_i hc
        exact lv_if_ne hx hb hdg ht (fun _ => hk _ _ _ _ h H locs ls cells slots a1 a2 a3 a4 a5) (fun z => absurd z hc)
      · rename_i hc
        exact lv_if_lt hx hb hdg ht (fun _ => hk _ _ _ _ h H locs ls cells slots a1 a2 a3 a4 a5) (fun z => absurd hc z)
      · rename_i hc
        exact lv_if_lt hx hb hdg ht (fun z => absurd z hc) (fun _ => hk _ _ _ _ h H locs ls cells slots a1 a2 a3 a4 a5)
      · rename_i hc
        exact lv_if_ge hx hb hdg ht (fun _ => hk _ _ _ _ h H locs ls cells slots a1 a2 a3 a4 a5) (fun z => absurd hc z)
      · rename_i hc
        exact lv_if_ge hx hb hdg ht (fun z => absurd z hc) (fun _ => hk _ _ _ _ h H locs ls cells slots a1 a2 a3 a4 a5)
      · rename_i hc
        exact lv_if_gt hx hb hdg ht (fun _ => hk _ _ _ _ h H locs ls cells slots a1 a2 a3 a4 a5) (fun z => absurd hc z)
      · rename_i hc
        exact lv_if_gt hx hb hdg ht (fun z => absurd z hc) (fun _ => hk _ _ _ _ h H locs ls cells slots a1 a2 a3 a4 a5)
      · rename_i hc
        exact lv_if_le hx hb hdg ht (fun _ => hk _ _ _ _ h H locs ls cells slots a1 a2 a3 a4 a5) (fun z => absurd hc z)
      · rename_i hc
        exact lv_if_le hx hb hdg ht (fun z => absurd z hc) (fun _ => hk _ _ _ _ h H locs ls cells slots a1 a2 a3 a4 a5)
    · cases h
  case if_icmp c1 off =>
    obtain ⟨rfl, ht⟩ := hiw
    split at h
    · rename_i y x r
      intro H locs ls cells slots a1 a2 a3 a4 a5
      unfold pv_ic at h
      cases c1 <;> simp only at h <;> split at h
      · rename_i hc
        exact lv_icmp_eq hx hb hdg ht (fun _ => hk _ _ _ _ h H locs ls cells slots a1 a2 a3 a4 a5) (fun z => absurd hc z)
      · rename_i hc
        exact lv_icmp_eq hx hb hdg ht (fun z => absurd z hc) (fun _ => hk _ _ _ _ h H locs ls cells slots a1 a2 a3 a4 a5)
      · rename_i hc
        exact lv_icmp_ne hx hb hdg ht (fun z => absurd hc z) (fun _ => hk _ _ _ _ h H locs ls cells slots a1 a2 a3 a4 a5)
      · rename_i hc
        exact lv_icmp_ne hx hb hdg ht (fun _ => hk _ _ _ _ h H locs ls cells slots a1 a2 a3 a4 a5) (fun z => absurd z hc)
      · rename_i hc
        exact lv_icmp_lt hx hb hdg ht (fun _ => hk _ _ _ _ h H locs ls cells slots a1 a2 a3 a4 a5) (fun z => absurd hc z)
      · rename_i hc
        exact lv_icmp_lt hx hb hdg ht (fun z => absurd z hc) (fun _ => hk _ _ _ _ h H locs ls cells slots a1 a2 a3 a4 a5)
      · rename_i hc
        exact lv_icmp_ge hx hb hdg ht (fun _ => hk _ _ _ _ h H locs ls cells slots a1 a2 a3 a4 a5) (fun z => absurd hc z)
      · rename_i hc
        exact lv_icmp_ge hx hb hdg ht (fun z => absurd z hc) (fun _ => hk _ _ _ _ h H locs ls cells slots a1 a2 a3 a4 a5)
      · rename_i hc
        exact lv_icmp_gt hx hb hdg ht (fun _ => hk _ _ _ _ h H locs ls cells slots a1 a2 a3 a4 a5) (fun z => absurd hc z)
      · rename_i hc
        exact lv_icmp_gt hx hb hdg ht (fun z => absurd z hc) (fun _ => hk _ _ _ _ h H locs ls cells slots a1 a2 a3 a4 a5)
      · rename_i hc
        exact lv_icmp_le hx hb hdg ht (fun _ => hk _ _ _ _ h H locs ls cells slots a1 a2 a3 a4 a5) (fun z => absurd hc z)
      · rename_i hc
        exact lv_icmp_le hx hb hdg ht (fun z => absurd z hc) (fun _ => hk _ _ _ _ h H locs ls cells slots a1 a2 a3 a4 a5)
    · cases h
  case tableswitch dflt lo1 hi1 offs =>
    split at h
    · rename_i x r
      intro H locs ls cells slots a1 a2 a3 a4 a5
      unfold pv_sw at h
      split at h
      · rename_i hc
        split at h
        · rename_i hz
          exact lv_tableOut hx hb hdg hc (Int.toNat_of_nonneg hz).symm (hk _ _ _ _ h H locs ls cells slots a1 a2 a3 a4 a5)
        · cases h
      · rename_i hc
        split at h
        · rename_i off hoff
          split at h
          · rename_i hz
            exact lv_tableIn hx hb hdg (fun z => hc (Or.inl z)) (fun z => hc (Or.inr z)) hoff (Int.toNat_of_nonneg hz).symm (hk _ _ _ _ h H locs ls cells slots a1 a2 a3 a4 a5)
          · cases h
        · cases h
    · cases h
  case ldc i =>
    obtain ⟨rfl, ⟨h0, hc⟩ | ⟨h0, tx, hc⟩⟩ := hiw
    · rw [h0] at h
      exact pv_s_push (v := .int (Int32.ofNat aux.2.1)) rfl (fun H locs cells slots ls r k => lv_ldc hx hb hown (hgw _ hc) hdg k) (hk _ _ _ _ h)
    · rw [h0] at h
      have hi : aux.2.1 < 10 := by have := (List.getElem?_eq_some_iff.mp hc).1; omega
      have h9 := hk _ _ _ _ h
      intro H locs ls cells slots a1 a2 a3 a4 a5
      have h8 := h9 H locs ls cells slots a1 a2 a3 a4 a5
      rw [List.map_cons, show pv_cv ad (.ref (1000000 + aux.2.1)) = .ref (ad (1000000 + aux.2.1)) from rfl, hadS _ hi] at h8
      exact va_ldcS hx hb hown (hKn.2.2.2.2.1 _ _ hc) hdg h8
  case ldc_w i =>
    obtain ⟨rfl, ⟨h0, hc⟩ | ⟨h0, tx, hc⟩⟩ := hiw
    · rw [h0] at h
      exact pv_s_push (v := .int (Int32.ofNat aux.2.1)) rfl (fun H locs cells slots ls r k => lv_ldcw hx hb hown (hgw _ hc) hdg k) (hk _ _ _ _ h)
    · rw [h0] at h
      have hi : aux.2.1 < 10 := by have := (List.getElem?_eq_some_iff.mp hc).1; omega
      have h9 := hk _ _ _ _ h
      intro H locs ls cells slots a1 a2 a3 a4 a5
      have h8 := h9 H locs ls cells slots a1 a2 a3 a4 a5
      rw [List.map_cons, show pv_cv ad (.ref (1000000 + aux.2.1)) = .ref (ad (1000000 + aux.2.1)) from rfl, hadS _ hi] at h8
      exact W.ldcSW hx hb hown (hKn.2.2.2.2.1 _ _ hc) hdg h8
  case ldc2_w i =>
    obtain ⟨rfl, hc⟩ := hiw
    exact pv_s_push (v := .long (Int64.ofNat aux.2.1)) rfl (fun H locs cells slots ls r k => lv_ldc2 hx hb hown (hgw _ hc) hdg k) (hk _ _ _ _ h)
  case getfield i =>
    obtain ⟨rfl, C, T, N, hc, hf, hl⟩ := hiw
    split at h
    · refine pv_s_get hx hb hgw hown hK hcls had hc hf ?_ hdg h (fun v h => hk _ _ _ _ h)
      rcases hl with ⟨-, hl⟩ | ⟨-, host, hl⟩
      · exact Or.inl (hgw _ hl)
      · exact Or.inr ⟨host, va_Nw.use rfl (hKn.2.1 _ hl)⟩
    · cases h
  case putfield i =>
    obtain ⟨rfl, ⟨C, T, N, hc, hf, hl⟩, C2, T2, N2, hc2, hfin⟩ := hiw
    cases hc.symm.trans hc2
    split at h
    · refine pv_s_put (K := fun fs => gk d k (pc + 3) lo _ (w.1, w.2.set _ (.inr (aux.2.1, fs)))) hx hb hgw hown hK hcls had hc hf ?_ hdg h (fun v h => hk _ _ _ _ h)
      rcases hl with ⟨-, hl⟩ | ⟨h0, host, hl⟩
      · rcases hfin with h1 | ⟨-, h2, h3, h4⟩
        · exact Or.inl ⟨hgw _ hl, h1⟩
        · exact Or.inr (Or.inr ⟨hgw _ hl, h2, Mc.2.2.2.2.2.2 h3, h4⟩)
      · rcases hfin with h1 | ⟨h0', -⟩
        · exact Or.inr (Or.inl ⟨host, va_Nw.use rfl (hKn.2.1 _ hl), h1⟩)
        · omega
    · cases h
  case iaload =>
    subst hiw
    split at h
    · rename_i i a r
      cases hb2 : Nat.beq a 2000000 with
      | true =>
        rw [hb2] at h
        cases Nat.eq_of_beq_eq_true hb2
        simp only [cond_true] at h
        obtain ⟨h1, h2⟩ := pv_ix_inv h
        intro H locs ls cells slots a1 a2 a3 a4 a5
        show W p l e R s m args below meth c H locs cells slots Q (F0 m pc ls (.int i :: .ref (ad 2000000) :: r.map (pv_cv ad)))
        rw [hadX]
        have hbb := hKn.2.2.2.1
        have hbz := hKn.2.2.2.2.2.2.1
        exact va_sld hx hb hKn.2.2.1 (by omega) (show ¬ base ≤ b by omega) a2 h1 hdg (hk _ _ _ _ h2 H locs ls cells slots a1 a2 a3 a4 a5)
      | false =>
        rw [hb2] at h
        exact pv_s_iald (K := fun v => gk d k (pc + 1) lo (.int v :: r) w) hx hb hK had hdg h (fun v h => hk _ _ _ _ h)
    · cases h
  case laload =>
    subst hiw
    split at h
    · rename_i i a r
      exact pv_s_lald (K := fun v => gk d k (pc + 1) lo (.long v :: r) w) hx hb hK had hdg h (fun v h => hk _ _ _ _ h)
    · cases h
  case baload =>
    subst hiw
    split at h
    · rename_i i a r
      exact pv_s_bald (K := fun v => gk d k (pc + 1) lo (.int v :: r) w) hx hb hK had hdg h (fun v h => hk _ _ _ _ h)
    · cases h
  case aaload =>
    subst hiw
    split at h
    · rename_i i a r
      exact pv_s_aald (K := fun v => gk d k (pc + 1) lo (.ref v :: r) w) hx hb hK had hdg h (fun v h => hk _ _ _ _ h)
    · cases h
  case iastore =>
    subst hiw
    split at h
    · rename_i v i a r
      exact pv_s_iast (K := fun x => gk d k (pc + 1) lo r (w.1, w.2.set a (.inl (0, x)))) hx hb hK had hdg h (fun v h => hk _ _ _ _ h)
    · cases h
  case lastore =>
    subst hiw
    split at h
    · rename_i v i a r
      exact pv_s_last (K := fun x => gk d k (pc + 1) lo r (w.1, w.2.set a (.inl (1, x)))) hx hb hK had hdg h (fun v h => hk _ _ _ _ h)
    · cases h
  case bastore =>
    subst hiw
    split at h
    · rename_i v i a r
      exact pv_s_bast (K := fun t x => gk d k (pc + 1) lo r (w.1, w.2.set a (.inl (t, x)))) hx hb hK had hdg h (fun t v h => hk _ _ _ _ h)
    · cases h
  case arraylength =>
    subst hiw
    split at h
    · rename_i a r
      cases hb2 : Nat.beq a 2000000 with
      | true =>
        rw [hb2] at h
        cases Nat.eq_of_beq_eq_true hb2
        intro H locs ls cells slots a1 a2 a3 a4 a5
        show W p l e R s m args below meth c H locs cells slots Q (F0 m pc ls (.ref (ad 2000000) :: r.map (pv_cv ad)))
        rw [hadX]
        have hbb := hKn.2.2.2.1
        have hbz := hKn.2.2.2.2.2.2.1
        exact va_slen hx hb hKn.2.2.1 (by omega) (show ¬ base ≤ b by omega) a2 hdg (hk _ _ _ _ h H locs ls cells slots a1 a2 a3 a4 a5)
      | false =>
        rw [hb2] at h
        obtain ⟨h1, h⟩ := pv_bif h
        split at h
        · rename_i t x hw
          obtain ⟨h2, h⟩ := pv_bif h
          exact pv_s_alen hx hb hK had hdg (Nat.le_of_ble_eq_true h1) (Nat.le_of_ble_eq_true h2) hw (hk _ _ _ _ h)
        · cases h
    · cases h
  case new i =>
    obtain ⟨rfl, C, T, N, hc, h1, h2, h3⟩ := hiw
    obtain ⟨h4, h⟩ := pv_bif h
    have h9 := hkle _ _ _ _ _ _ _ h
    simp only [pv_le, List.length_append, List.length_singleton] at h9
    exact pv_s_new hx hb hgw hown hK hcls had hc (hgw _ h1) (hgw _ h2) (hgw _ h3) hdg (Nat.le_of_ble_eq_true h4) h9 hRc (hk _ _ _ _ h)
  case newarray aty =>
    obtain ⟨rfl, h1, h2⟩ := hiw
    split at h
    · rename_i n r
      obtain ⟨h4, h⟩ := pv_bif h
      split at h
      · cases h
      · rename_i hn
        simp only [Bool.and_eq_true] at h4
        have h9 := hkle _ _ _ _ _ _ _ h
        simp only [pv_le, List.length_append, List.length_singleton] at h9
        exact pv_s_newa hx hb hK had (Nat.le_of_ble_eq_true h4.2) h1 (hgw _ h2) hdg (Nat.le_of_ble_eq_true h4.1.1) hn (Nat.le_of_ble_eq_true h4.1.2) h9 hRc (hk _ _ _ _ h)
    · cases h
  case multianewarray i n9 =>
    obtain ⟨rfl, rfl, h1, h3⟩ := hiw
    split at h
    · rename_i q n r
      obtain ⟨h4, h⟩ := pv_bif h
      split at h
      · cases h
      · rename_i hn
        simp only [Bool.and_eq_true] at h4
        have h9 := hkle _ _ _ _ _ _ _ h
        simp only [pv_le, List.length_append, List.length_singleton, List.length_replicate] at h9
        exact pv_s_multi hx hb hown hK had (Nat.le_of_ble_eq_true h4.2) (hgw _ h1) (pv_over (Vm.Alike.refl s.vm) (hKn.2.2.2.2.2.2.2.1 _ (Nat.le_of_ble_eq_true h4.2))) (hgw _ h3) hdg (Nat.le_of_ble_eq_true h4.1.1.1) (fun z => hn (Or.inl z)) (fun z => hn (Or.inr z)) (Nat.le_of_ble_eq_true h4.1.1.2) (Nat.le_of_ble_eq_true h4.1.2) (by omega) hRc (hk _ _ _ _ h)
    · cases h
  case invokevirtual i =>
    obtain ⟨rfl, ⟨hcw, hop⟩ | ⟨h7, hl⟩ | ⟨h8, hl⟩⟩ := hiw
    · exact pv_s_call hN hGood Mc had hgc hcle hkle hR hRc hk hcw (Or.inl ⟨rfl, hop⟩) hdg h
    · obtain ⟨i1, r, rfl, h1, h2, h3, h4⟩ := pv_call7_inv h h7
      exact pv_s_len hN hGood hHS Mc hadS hkle hR hRc hl hdg h1 h2 h3 h4 (hk _ _ _ _ h4)
    · obtain ⟨i1, j, r, rfl, h1, h2, h3, h4, h5⟩ := pv_call8_inv h h8
      exact pv_s_char hN hGood hHS Mc hadS hkle hR hRc hl hdg h1 h4 h2 h3 h5 (hk _ _ _ _ h5)
  case invokestatic i =>
    obtain ⟨rfl, hiw⟩ := hiw
    have hml := Mc.2.2.1
    have hcl8 : ∀ (H : Heap) (locs : List Loc) (cells slots : Nat) (st' : pv_S), gk d k (pc + 3) lo st' w = some res → cells + w0.2.length = w.2.length → slots + w0.1 = w.1 → cells ≤ R.cells ∧ slots ≤ R.slots := fun H locs cells slots st' h a4 a5 => by
      have h9 := hkle _ _ _ _ _ _ _ h
      have h1 := h9.1
      have h2 := h9.2
      omega
    rcases hiw with ⟨hcw, hop⟩ | ⟨h9, h1, h2, h3, h4⟩ | ⟨h9, h1, h2, h3, h4⟩ | ⟨h9, h1, h2, h3, h4⟩
    · have hb9 : Nat.ble 9 aux.1 = false := by rcases hop with h1 | h1 <;> rw [h1] <;> rfl
      rw [hb9] at h
      exact pv_s_call hN hGood Mc had hgc hcle hkle hR hRc hk hcw (Or.inr (Or.inl ⟨rfl, hop⟩)) hdg h
    · rw [h9] at h
      simp only [show Nat.ble 9 9 = true from rfl, cond_true] at h
      obtain ⟨h5, ⟨x, y, r, rfl, h6, -, h⟩ | ⟨x, y, r, rfl, h6, h7, h⟩ | ⟨x, r, rfl, h6, h7, h⟩⟩ := pv_math_inv h
      · intro H locs ls cells slots a1 a2 a3 a4 a5
        obtain ⟨g1, g2⟩ := hcl8 H locs cells slots _ h a4 a5
        exact va_mmax hx hb (by rw [hml]; exact a3.2.1.symm) hown (hgw _ h1) (hgw _ h2) (hgw _ h3) (hgw _ h4) (by omega) (by rw [pv_cat_sum]; omega) g1 g2 hdg (hk _ _ _ _ h H locs ls cells slots a1 a2 a3 a4 a5)
      · cases h7
      · cases h7
    · rw [h9] at h
      simp only [show Nat.ble 9 10 = true from rfl, cond_true] at h
      obtain ⟨h5, ⟨x, y, r, rfl, h6, h7, h⟩ | ⟨x, y, r, rfl, h6, -, h⟩ | ⟨x, r, rfl, h6, h7, h⟩⟩ := pv_math_inv h
      · cases h7
      · intro H locs ls cells slots a1 a2 a3 a4 a5
        obtain ⟨g1, g2⟩ := hcl8 H locs cells slots _ h a4 a5
        exact va_mmin hx hb (by rw [hml]; exact a3.2.1.symm) hown (hgw _ h1) (hgw _ h2) (hgw _ h3) (hgw _ h4) (by omega) (by rw [pv_cat_sum]; omega) g1 g2 hdg (hk _ _ _ _ h H locs ls cells slots a1 a2 a3 a4 a5)
      · cases h7
    · rw [h9] at h
      simp only [show Nat.ble 9 11 = true from rfl, cond_true] at h
      obtain ⟨h5, ⟨x, y, r, rfl, h6, h7, h⟩ | ⟨x, y, r, rfl, h6, h7, h⟩ | ⟨x, r, rfl, h6, -, h⟩⟩ := pv_math_inv h
      · cases h7
      · cases h7
      · intro H locs ls cells slots a1 a2 a3 a4 a5
        obtain ⟨g1, g2⟩ := hcl8 H locs cells slots _ h a4 a5
        exact va_mabs_long hx hb (by rw [hml]; exact a3.2.1.symm) hown (hgw _ h1) (hgw _ h2) (hgw _ h3) (hgw _ h4) (by omega) (by rw [pv_cat_sum]; omega) g1 g2 hdg (hk _ _ _ _ h H locs ls cells slots a1 a2 a3 a4 a5)
  case invokespecial i =>
    obtain ⟨rfl, ⟨hcw, hop⟩ | ⟨h6, hl, h2, h3⟩⟩ := hiw
    · exact pv_s_call hN hGood Mc had hgc hcle hkle hR hRc hk hcw (Or.inr (Or.inr ⟨rfl, hop⟩)) hdg h
    · obtain ⟨a, r, rfl, h4, h5, h⟩ := pv_call6_inv h h6
      exact pv_s_obj (X := X) Mc hR hl h2 h3 hdg h5 h4 (hk _ _ _ _ h)
  case ireturn =>
    subst hiw
    split at h
    · rename_i x
      obtain ⟨M1, hM1, rfl, ⟨-, h1⟩ | ⟨ty, x1, h1, h2, h3⟩⟩ := pv_ret_inv h
      · cases h1
      · cases hkM.symm.trans hM1
        cases h2
        intro H locs ls cells slots a1 a2 a3 a4 a5
        have e1 : cells ≤ R.cells := by have := hRc.1; simp only at this; omega
        have e2 : slots ≤ R.slots := by have := hRc.2; simp only at this; omega
        exact W.widen e1 e2 <| hrt _ pc H locs ls hdg (Or.inl ⟨rfl, x, ty, rfl, h1, h3⟩) a1 a2
    · cases h
  case lreturn =>
    subst hiw
    split at h
    · rename_i x
      obtain ⟨M1, hM1, rfl, ⟨-, h1⟩ | ⟨ty, x1, h1, h2, h3⟩⟩ := pv_ret_inv h
      · cases h1
      · cases hkM.symm.trans hM1
        cases h2
        intro H locs ls cells slots a1 a2 a3 a4 a5
        have e1 : cells ≤ R.cells := by have := hRc.1; simp only at this; omega
        have e2 : slots ≤ R.slots := by have := hRc.2; simp only at this; omega
        exact W.widen e1 e2 <| hrt _ pc H locs ls hdg (Or.inr (Or.inl ⟨rfl, x, ty, rfl, h1, h3⟩)) a1 a2
    · cases h
  case return_ =>
    subst hiw
    split at h
    · obtain ⟨M1, hM1, rfl, ⟨h1, -⟩ | ⟨ty, x1, h1, h2, h3⟩⟩ := pv_ret_inv h
      · cases hkM.symm.trans hM1
        intro H locs ls cells slots a1 a2 a3 a4 a5
        have e1 : cells ≤ R.cells := by have := hRc.1; simp only at this; omega
        have e2 : slots ≤ R.slots := by have := hRc.2; simp only at this; omega
        exact W.widen e1 e2 <| hrt _ pc H locs ls hdg (Or.inr (Or.inr ⟨rfl, rfl, h1⟩)) a1 a2
      · cases h2
    · cases h
end PVO
