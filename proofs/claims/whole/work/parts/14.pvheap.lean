/-! PV: instructions on cells -/
theorem pv_ix_inv {i : Int32} {n : Nat} {K : Nat → pv_R} {res : Option Value × pv_W} (h : pv_ix i n K = some res) : vp_in i n ∧ K i.toNatClampNeg = some res := by
  unfold pv_ix at h
  split at h
  · rename_i h1
    exact ⟨h1, h⟩
  · cases h
theorem pv_obj_inv {w : pv_W} {a ci : Nat} {K : List Value → pv_R} {res : Option Value × pv_W} (h : pv_obj w a ci K = some res) : a < 1000000 ∧ ∃ fs, w.2[a]? = some (.inr (ci, fs)) ∧ K fs = some res := by
  unfold pv_obj at h
  cases hb : Nat.blt a 1000000 with
  | false => rw [hb] at h; cases h
  | true =>
    rw [hb] at h
    refine ⟨Nat.le_of_ble_eq_true hb, ?_⟩
    simp only [cond_true] at h
    split at h
    · rename_i c fs hw
      cases hc : Nat.beq c ci with
      | false => rw [hc] at h; cases h
      | true =>
        rw [hc] at h
        cases Nat.eq_of_beq_eq_true hc
        exact ⟨fs, hw, h⟩
    · cases h
theorem pv_arr_inv {w : pv_W} {a t : Nat} {K : vp_A → pv_R} {res : Option Value × pv_W} (h : pv_arr w a t K = some res) : a < 1000000 ∧ ∃ x, w.2[a]? = some (.inl (t, x)) ∧ K x = some res := by
  unfold pv_arr at h
  cases hb : Nat.blt a 1000000 with
  | false => rw [hb] at h; cases h
  | true =>
    rw [hb] at h
    refine ⟨Nat.le_of_ble_eq_true hb, ?_⟩
    simp only [cond_true] at h
    split at h
    · rename_i c fs hw
      cases hc : Nat.beq c t with
      | false => rw [hc] at h; cases h
      | true =>
        rw [hc] at h
        cases Nat.eq_of_beq_eq_true hc
        exact ⟨fs, hw, h⟩
    · cases h
theorem pv_arrB_inv {w : pv_W} {a : Nat} {K : Nat → vp_A → pv_R} {res : Option Value × pv_W} (h : pv_arrB w a K = some res) : a < 1000000 ∧ ∃ t x, (t = 2 ∨ t = 3) ∧ w.2[a]? = some (.inl (t, x)) ∧ K t x = some res := by
  unfold pv_arrB at h
  cases hb : Nat.blt a 1000000 with
  | false => rw [hb] at h; cases h
  | true =>
    rw [hb] at h
    refine ⟨Nat.le_of_ble_eq_true hb, ?_⟩
    simp only [cond_true] at h
    split at h
    · rename_i c fs hw
      cases hc : Nat.beq c 2 with
      | true =>
        rw [hc] at h
        cases Nat.eq_of_beq_eq_true hc
        exact ⟨2, fs, Or.inl rfl, hw, h⟩
      | false =>
        rw [hc] at h
        cases hd : Nat.beq c 3 with
        | true =>
          rw [hd] at h
          cases Nat.eq_of_beq_eq_true hd
          exact ⟨3, fs, Or.inr rfl, hw, h⟩
        | false => rw [hd] at h; cases h
    · cases h
theorem pv_arrQ_inv {w : pv_W} {a : Nat} {K : Nat → vp_A → pv_R} {res : Option Value × pv_W} (h : pv_arrQ w a K = some res) : a < 1000000 ∧ ∃ t x, (t = 4 ∨ t = 5) ∧ w.2[a]? = some (.inl (t, x)) ∧ K t x = some res := by
  unfold pv_arrQ at h
  cases hb : Nat.blt a 1000000 with
  | false => rw [hb] at h; cases h
  | true =>
    rw [hb] at h
    refine ⟨Nat.le_of_ble_eq_true hb, ?_⟩
    simp only [cond_true] at h
    split at h
    · rename_i c fs hw
      cases hc : Nat.beq c 4 with
      | true =>
        rw [hc] at h
        cases Nat.eq_of_beq_eq_true hc
        exact ⟨4, fs, Or.inl rfl, hw, h⟩
      | false =>
        rw [hc] at h
        cases hd : Nat.beq c 5 with
        | true =>
          rw [hd] at h
          cases Nat.eq_of_beq_eq_true hd
          exact ⟨5, fs, Or.inr rfl, hw, h⟩
        | false => rw [hd] at h; cases h
    · cases h
theorem pv_fit_ok {ad : Nat → Nat} {ty : FieldType} {v : Value} (h : pv_fit ty v = true) : narrow ty (pv_cv ad v) = pv_cv ad v ∧ fits ty (pv_cv ad v) = true := by
  unfold pv_fit at h
  cases ty <;> cases v <;> first | (exact ⟨rfl, rfl⟩) | (cases h; done) | skip
  rename_i x
  simp at h
  rcases h with rfl | rfl
  · exact ⟨rfl, rfl⟩
  · exact ⟨rfl, rfl⟩
theorem pv_HW_set {base : Nat} {ad : Nat → Nat} {cid : Nat → ClassId} {D : va_G} {cl : List vw_C} {w : pv_W} {H H1 : Heap} {a : Nat} {e0 e : pv_K} (hW : pv_HW base ad cid D cl w H) (he : w.2[a]? = some e0) (hat : va_at D cl (base + a, pv_ck ad cid e) H1) (hz : H1.size = H.size) (oq : ∀ q : Nat, q ≠ base + a → H1[q]? = H[q]?) : pv_HW base ad cid D cl (w.1, w.2.set a e) H1 := by
  refine ⟨?_, ?_⟩
  · show va_P D cl (pv_ws base ad cid (w.2.set a e)) H1
    rw [pv_ws_set]
    exact hW.1.set pv_ws_D (pv_ws_get he) hat oq
  · show H1.size = base + (w.2.set a e).length
    rw [List.length_set, hz]
    exact hW.2
theorem pv_HW_app {base : Nat} {ad : Nat → Nat} {cid : Nat → ClassId} {D : va_G} {cl : List vw_C} {w : pv_W} {H H1 : Heap} {n : Nat} {e : pv_K} (hW : pv_HW base ad cid D cl w H) (hat : va_at D cl (H.size, pv_ck ad cid e) H1) (hz : H1.size = H.size + 1) (oq : ∀ q : Nat, q < H.size → H1[q]? = H[q]?) : pv_HW base ad cid D cl (n, w.2 ++ [e]) H1 := by
  refine ⟨?_, ?_⟩
  · show va_P D cl (pv_ws base ad cid (w.2 ++ [e])) H1
    rw [pv_ws_app]
    refine (hW.1.kept fun k q hk => oq q.1 ((hW.1 k q hk).lt)).app fun k q hk => ?_
    have h0 : k < 1 := (List.getElem?_eq_some_iff.mp hk).1
    rw [show k = 0 by omega] at hk
    cases hk
    rw [← hW.2]
    exact hat
  · show H1.size = base + (w.2 ++ [e]).length
    rw [List.length_append, hz, hW.2]
    rfl
section PVH
variable {base : Nat} {ad : Nat → Nat} {cid : Nat → ClassId} {D : va_G} {cl : List vw_C} {w0 : pv_W} {nL : Nat} {p : Program} {l : Launch} {e : Env} {R : Room} {s : State} {m : MethodId} {args : Array Value} {below : List Frame} {meth : Method} {c : Code} {Q : State → Prop} {pc pc' : Nat} {lo : pv_L} {st : pv_S} {w : pv_W} {res : Option Value × pv_W} {Ts : List Jvm.Cond} {FD : Nat → List FieldType} {cc : ByteArray} {own : String} {idx : Nat}
theorem pv_obj_facts {H : Heap} {a ci f : Nat} {fs : List Value} {C : String} {T : u_T} {N : Nat} (hK : va_K D cl (pv_tys cid) s) (hcls : pv_clsOk Ts cl FD) (hts : ∀ w ∈ Ts, w.before args s = true) (hW : pv_HW base ad cid D cl w H) (ha : w.2[a]? = some (.inr (ci, fs))) (hc : cl[ci]? = some (C, T, N)) (hf : f < N) :
    ∃ (cell : Cell) (cf fi : Nat) (kf : Class) (fd : Field) (kC : Class), H[base + a]? = some cell ∧ cell.cls = D.1 ci ∧ cell.vm = .none ∧ (∀ k, k < N → cell.slots[D.2 ci k]? = some (vp_V (fs.map (pv_cv ad)) k)) ∧ s.fieldFound? (T f).1 (T f).2.1 (T f).2.2.1 = some (cf, kf, fi, fd) ∧ fd.slot = D.2 ci f ∧ fd.isStatic = false ∧ s.vm.findClass C = some (D.1 ci) ∧ s.vm.classes[D.1 ci]? = some kC ∧ kC.kind = .ordinary ∧ ∀ x y, x < N → y < N → x ≠ y → D.2 ci x ≠ D.2 ci y := by
  obtain ⟨hin, hN, hty, hnm, hown⟩ := hcls ci C T N hc
  obtain ⟨r, h1, cell, q1, q2, q3, q4⟩ := hW.1 a _ (pv_ws_get ha)
  have hr : r = (C, T, N) := Option.some.inj (h1.symm.trans hc)
  subst hr
  obtain ⟨hS, hfc, kC, hkC, hkind⟩ := hK.1 ci _ hc
  obtain ⟨cf, kf, fi, fd, hi, hsl⟩ := hS f hf
  refine ⟨cell, cf, fi, kf, fd, kC, q1, q2, q3, q4, hi, hsl, (u_facts hfc hkC (u_lays hts hin hf) hi).1, hfc, hkC, hkind, ?_⟩
  exact va_apart (own := C) hts hin (fun k => ((FD ci)[k]?).getD .int) (fun k hk => by
    rw [hty k hk]
    have : k < (FD ci).length := by omega
    simp [this]) hnm hK hc
theorem pv_s_get {a ci f : Nat} {r : pv_S} {K : Value → pv_R} {C : String} {T : u_T} {N : Nat} (hx : p.tables.exec = Jvm.exec) (hb : c.code = cc) (hts : ∀ w ∈ Ts, w.before args s = true) (hown : s.vm.findClass own = some m.cls) (hK : va_K D cl (pv_tys cid) s) (hcls : pv_clsOk Ts cl FD) (had : ∀ a : Nat, a < 1000000 → ad a = base + a) (hc : cl[ci]? = some (C, T, N)) (hf : f < N)
    (hlink : (Cond.fieldLink own idx (T f).1 (T f).2.1 (T f).2.2.1).before args s = true ∨ ∃ host, (Cond.fieldLinkNest own idx (T f).1 (T f).2.1 (T f).2.2.1 host).before args s = true) (hdg : decode cc pc = .ok (.getfield idx, 3))
    (h : pv_obj w a ci (fun fs => match fs[f]? with | some v => K v | none => none) = some res) (hk : ∀ v, K v = some res → pv_Ok base ad cid D cl w0 nL p l e R s m args below meth c Q (pc + 3) lo (v :: r) w) : pv_Ok base ad cid D cl w0 nL p l e R s m args below meth c Q pc lo (.ref a :: r) w := by
  obtain ⟨ha, fs, hw, h⟩ := pv_obj_inv h
  split at h
  · rename_i v hv
    intro H locs ls cells slots a1 a2 a3 a4 a5
    obtain ⟨cell, cf, fi, kf, fd, kC, q1, q2, q3, q4, q5, q6, q7, -⟩ := pv_obj_facts (f := f) hK hcls hts a1 hw hc hf
    have hk := hk v h H locs ls cells slots a1 a2 a3 a4 a5
    have hsl : cell.slots[fd.slot]? = some (pv_cv ad v) := by
      rw [q6, q4 f hf]
      simp [vp_V, hv]
    show W p l e R s m args below meth c H locs cells slots Q (F0 m pc ls (.ref (ad a) :: r.map (pv_cv ad)))
    rw [had a ha]
    rcases hlink with hl | ⟨host, hl⟩
    · exact W.getf hx hb hown hl q5 q7 q1 (by rw [q3]; exact fun h => by cases h) hsl rfl rfl hdg hk
    · exact va_Wgetf hx hb hown hl q5 q7 q1 (by rw [q3]; exact fun h => by cases h) hsl rfl rfl hdg hk
  · cases h
theorem pv_s_put {a ci f : Nat} {v : Value} {r : pv_S} {K : List Value → pv_R} {C : String} {T : u_T} {N : Nat} (hx : p.tables.exec = Jvm.exec) (hb : c.code = cc) (hts : ∀ w ∈ Ts, w.before args s = true) (hown : s.vm.findClass own = some m.cls) (hK : va_K D cl (pv_tys cid) s) (hcls : pv_clsOk Ts cl FD) (had : ∀ a : Nat, a < 1000000 → ad a = base + a) (hc : cl[ci]? = some (C, T, N)) (hf : f < N)
    (hlink : ((Cond.fieldLink own idx (T f).1 (T f).2.1 (T f).2.2.1).before args s = true ∧ (T f).2.2.2 = false) ∨ (∃ host, (Cond.fieldLinkNest own idx (T f).1 (T f).2.1 (T f).2.2.1 host).before args s = true ∧ (T f).2.2.2 = false) ∨ ((Cond.fieldLink own idx (T f).1 (T f).2.1 (T f).2.2.1).before args s = true ∧ (T f).2.2.2 = true ∧ meth.name = "<init>" ∧ C = own)) (hdg : decode cc pc = .ok (.putfield idx, 3))
    (h : pv_obj w a ci (fun fs => match (FD ci)[f]?, fs[f]? with | some ty, some _ => bif pv_fit ty v then K (fs.set f v) else none | _, _ => none) = some res) (hk : ∀ fs, K fs = some res → pv_Ok base ad cid D cl w0 nL p l e R s m args below meth c Q (pc + 3) lo r (w.1, w.2.set a (.inr (ci, fs)))) : pv_Ok base ad cid D cl w0 nL p l e R s m args below meth c Q pc lo (v :: .ref a :: r) w := by
  obtain ⟨ha, fs, hw, h⟩ := pv_obj_inv h
  obtain ⟨hin, hN, hty, hnm, hdecl⟩ := hcls ci C T N hc
  split at h
  · rename_i ty v0 hty1 hv0
    cases hft : pv_fit ty v with
    | false => rw [hft] at h; cases h
    | true =>
      rw [hft] at h
      intro H locs ls cells slots a1 a2 a3 a4 a5
      obtain ⟨cell, cf, fi, kf, fd, kC, q1, q2, q3, q4, q5, q6, q7, q8, q9, q10, q11⟩ := pv_obj_facts (f := f) hK hcls hts a1 hw hc hf
      obtain ⟨hn, hfit⟩ := pv_fit_ok (ad := ad) hft
      have hpd : parseFieldDescriptor (T f).2.2.1 = some ty := (hty f hf).trans hty1
      have hfl : f < (fs.map (pv_cv ad)).length := by
        rw [List.length_map]
        exact (List.getElem?_eq_some_iff.mp hv0).1
      have go : ∀ H' : Heap, H'[base + a]? = some (cell.setSlot fd.slot (pv_cv ad v)) → H'.size = H.size → (∀ q, q ≠ base + a → H'[q]? = H[q]?) → W p l e R s m args below meth c H' (locs ++ [⟨base + a, fd.slot⟩]) cells slots Q (F0 m (pc + 3) ls (r.map (pv_cv ad))) := fun H' e1 e2 e3 => by
        refine hk _ h H' _ ls cells slots (pv_HW_set a1 hw ?_ e2 e3) (a2.put e2 e3 (Nat.le_add_right base a)) a3 (by rw [a4]; simp) a5
        refine ⟨_, hc, ?_⟩
        rw [q6] at e1
        show t_OB (base + a) (D.1 ci) N (D.2 ci) H' (vp_V ((fs.set f v).map (pv_cv ad)))
        rw [List.map_set]
        exact t_OB.to (V := updV (vp_V (fs.map (pv_cv ad))) f (pv_cv ad v)) ⟨_, e1, q2, q3, t_set q4 q11 hf (pv_cv ad v)⟩ (fun j _ => vp_updV_set hfl (pv_cv ad v) j)
      show W p l e R s m args below meth c H locs cells slots Q (F0 m pc ls (pv_cv ad v :: .ref (ad a) :: r.map (pv_cv ad)))
      rw [had a ha]
      have hslt : fd.slot < cell.slots.size := by rw [q6]; exact k2_hasslot (q4 f hf)
      have hlay := hts _ (hin _ (u_in_lay hf))
      unfold u_lay at hlay
      rcases hlink with ⟨hl, hfin⟩ | ⟨host, hl, hfin⟩ | ⟨hl, hfin, hini, hCo⟩
      · rw [if_neg (by rw [hfin]; decide)] at hlay
        have h6 := u_store q8 q9 q10 hlay q5 hpd hn hfit
        exact W.putK hx hb (f := fd) ⟨hown, hl, ⟨_, _, _, q5⟩, q7⟩ (by rw [q2]; exact h6) q1 q3 hslt rfl rfl hdg go
      · rw [if_neg (by rw [hfin]; decide)] at hlay
        have h6 := u_store q8 q9 q10 hlay q5 hpd hn hfit
        exact va_WputK hx hb (f := fd) hown hl q5 q7 (by rw [q2]; exact h6) q1 q3 hslt rfl rfl hdg go
      · rw [if_pos hfin] at hlay
        have hcf : m.cls = cf := by
          obtain ⟨_, _, c', _, _, _, -, -, hf', -, -, -, hown2, -⟩ := Cond.laysFinal_spec hlay
          have e1 : c' = cf := by have := q5.symm.trans hf'; simp at this; exact this.1.symm
          rw [hdecl f hf, hCo] at hown2
          rw [← e1]; exact Option.some.inj (hown.symm.trans hown2)
        have h6 := u_fits q8 q9 q10 (Or.inr hlay) q5 hpd hn hfit
        exact W.putFinK hx hb hown hl q5 q7 hcf hini (by rw [q2]; exact h6) q1 q3 hslt rfl rfl hdg go
  · cases h
theorem pv_s_iald {a : Nat} {i : Int32} {r : pv_S} {K : Int32 → pv_R} (hx : p.tables.exec = Jvm.exec) (hb : c.code = cc) (hK : va_K D cl (pv_tys cid) s) (had : ∀ a : Nat, a < 1000000 → ad a = base + a) (hdg : decode cc pc = .ok (.iaload, 1))
    (h : pv_arr w a 0 (fun x => match x.2 with | .inl f => pv_ix i x.1 fun j => K (f j) | _ => none) = some res) (hk : ∀ v, K v = some res → pv_Ok base ad cid D cl w0 nL p l e R s m args below meth c Q (pc + 1) lo (.int v :: r) w) : pv_Ok base ad cid D cl w0 nL p l e R s m args below meth c Q pc lo (.int i :: .ref a :: r) w := by
  obtain ⟨ha, ⟨n, f | f | f | f | f⟩, hw, h⟩ := pv_arr_inv h <;> first | (cases h; done) | skip
  obtain ⟨h1, h⟩ := pv_ix_inv h
  intro H locs ls cells slots a1 a2 a3 a4 a5
  show W p l e R s m args below meth c H locs cells slots Q (F0 m pc ls (.int i :: .ref (ad a) :: r.map (pv_cv ad)))
  rw [had a ha]
  exact va_iald hx hb hK a1.1 a 0 (pv_ws_get hw) rfl h1 hdg (hk _ h H locs ls cells slots a1 a2 a3 a4 a5)
theorem pv_s_lald {a : Nat} {i : Int32} {r : pv_S} {K : Int64 → pv_R} (hx : p.tables.exec = Jvm.exec) (hb : c.code = cc) (hK : va_K D cl (pv_tys cid) s) (had : ∀ a : Nat, a < 1000000 → ad a = base + a) (hdg : decode cc pc = .ok (.laload, 1))
    (h : pv_arr w a 1 (fun x => match x.2 with | .inr (.inl f) => pv_ix i x.1 fun j => K (f j) | _ => none) = some res) (hk : ∀ v, K v = some res → pv_Ok base ad cid D cl w0 nL p l e R s m args below meth c Q (pc + 1) lo (.long v :: r) w) : pv_Ok base ad cid D cl w0 nL p l e R s m args below meth c Q pc lo (.int i :: .ref a :: r) w := by
  obtain ⟨ha, ⟨n, f | f | f | f | f⟩, hw, h⟩ := pv_arr_inv h <;> first | (cases h; done) | skip
  obtain ⟨h1, h⟩ := pv_ix_inv h
  intro H locs ls cells slots a1 a2 a3 a4 a5
  show W p l e R s m args below meth c H locs cells slots Q (F0 m pc ls (.int i :: .ref (ad a) :: r.map (pv_cv ad)))
  rw [had a ha]
  exact va_lald hx hb hK a1.1 a 1 (pv_ws_get hw) rfl h1 hdg (hk _ h H locs ls cells slots a1 a2 a3 a4 a5)
theorem pv_s_bald {a : Nat} {i : Int32} {r : pv_S} {K : Int32 → pv_R} (hx : p.tables.exec = Jvm.exec) (hb : c.code = cc) (hK : va_K D cl (pv_tys cid) s) (had : ∀ a : Nat, a < 1000000 → ad a = base + a) (hdg : decode cc pc = .ok (.baload, 1))
    (h : pv_arrB w a (fun _ x => match x.2 with | .inl f => pv_ix i x.1 fun j => K (f j) | _ => none) = some res) (hk : ∀ v, K v = some res → pv_Ok base ad cid D cl w0 nL p l e R s m args below meth c Q (pc + 1) lo (.int v :: r) w) : pv_Ok base ad cid D cl w0 nL p l e R s m args below meth c Q pc lo (.int i :: .ref a :: r) w := by
  obtain ⟨ha, t, ⟨n, f | f | f | f | f⟩, ht, hw, h⟩ := pv_arrB_inv h <;> first | (cases h; done) | skip
  obtain ⟨h1, h⟩ := pv_ix_inv h
  intro H locs ls cells slots a1 a2 a3 a4 a5
  show W p l e R s m args below meth c H locs cells slots Q (F0 m pc ls (.int i :: .ref (ad a) :: r.map (pv_cv ad)))
  rw [had a ha]
  rcases ht with rfl | rfl
  · exact va_bald hx hb hK a1.1 a 2 (pv_ws_get hw) rfl h1 hdg (hk _ h H locs ls cells slots a1 a2 a3 a4 a5)
  · exact va_zald hx hb hK a1.1 a 3 (pv_ws_get hw) rfl h1 hdg (hk _ h H locs ls cells slots a1 a2 a3 a4 a5)
theorem pv_s_aald {a : Nat} {i : Int32} {r : pv_S} {K : Nat → pv_R} (hx : p.tables.exec = Jvm.exec) (hb : c.code = cc) (hK : va_K D cl (pv_tys cid) s) (had : ∀ a : Nat, a < 1000000 → ad a = base + a) (hdg : decode cc pc = .ok (.aaload, 1))
    (h : pv_arrQ w a (fun _ x => match x.2 with | .inr (.inr (.inr (.inr f))) => pv_ix i x.1 (fun j => match f j with | some b => K b | none => none) | _ => none) = some res) (hk : ∀ v, K v = some res → pv_Ok base ad cid D cl w0 nL p l e R s m args below meth c Q (pc + 1) lo (.ref v :: r) w) : pv_Ok base ad cid D cl w0 nL p l e R s m args below meth c Q pc lo (.int i :: .ref a :: r) w := by
  obtain ⟨ha, t, ⟨n, f | f | f | f | f⟩, ht, hw, h⟩ := pv_arrQ_inv h <;> first | (cases h; done) | skip
  obtain ⟨h1, h⟩ := pv_ix_inv h
  split at h
  · rename_i b hfb
    intro H locs ls cells slots a1 a2 a3 a4 a5
    show W p l e R s m args below meth c H locs cells slots Q (F0 m pc ls (.int i :: .ref (ad a) :: r.map (pv_cv ad)))
    rw [had a ha]
    have hlt : i.toNatClampNeg < n := Nat.not_le.mp fun q => h1 (Or.inr q)
    have hv : (arrV (cid t) n (fun j => va_rf ((f j).map ad))).slots[i.toNatClampNeg]? = some (.ref (ad b)) := by
      rw [arrV_read _ _ hlt, hfb]
      rfl
    have hat := a1.1 a _ (pv_ws_get hw)
    have ht6 : t < 6 := by omega
    refine W.aald (ty := pv_ty t) hx hb hat ((hK.2 t _ (pv_tys_get ht6)).1 n (fun j => va_rf ((f j).map ad))) (by rcases ht with rfl | rfl <;> rfl) (fun q => by cases q) (by show ¬ (i < 0 ∨ (arrV _ _ _).slots.size ≤ _); rw [arrV_size]; exact h1) hv rfl rfl hdg (hk _ h H locs ls cells slots a1 a2 a3 a4 a5)
  · cases h
theorem pv_s_alen {a t : Nat} {x : vp_A} {r : pv_S} (hx : p.tables.exec = Jvm.exec) (hb : c.code = cc) (hK : va_K D cl (pv_tys cid) s) (had : ∀ a : Nat, a < 1000000 → ad a = base + a) (hdg : decode cc pc = .ok (.arraylength, 1))
    (ha : a < 1000000) (ht : t < 6) (hw : w.2[a]? = some (.inl (t, x))) (hk : pv_Ok base ad cid D cl w0 nL p l e R s m args below meth c Q (pc + 1) lo (.int (Int32.ofNat x.1) :: r) w) : pv_Ok base ad cid D cl w0 nL p l e R s m args below meth c Q pc lo (.ref a :: r) w := by
  intro H locs ls cells slots a1 a2 a3 a4 a5
  show W p l e R s m args below meth c H locs cells slots Q (F0 m pc ls (.ref (ad a) :: r.map (pv_cv ad)))
  rw [had a ha]
  refine va_alen hx hb hK a1.1 a t (pv_ws_get hw) (pv_tys_get ht) ?_ hdg (hk H locs ls cells slots a1 a2 a3 a4 a5)
  obtain ⟨n, f | f | f | f | f⟩ := x <;> rfl
theorem pv_s_iast {a : Nat} {i v : Int32} {r : pv_S} {K : vp_A → pv_R} (hx : p.tables.exec = Jvm.exec) (hb : c.code = cc) (hK : va_K D cl (pv_tys cid) s) (had : ∀ a : Nat, a < 1000000 → ad a = base + a) (hdg : decode cc pc = .ok (.iastore, 1))
    (h : pv_arr w a 0 (fun x => match x.2 with | .inl f => pv_ix i x.1 (fun j => K (x.1, .inl (upd f j v))) | _ => none) = some res) (hk : ∀ x, K x = some res → pv_Ok base ad cid D cl w0 nL p l e R s m args below meth c Q (pc + 1) lo r (w.1, w.2.set a (.inl (0, x)))) : pv_Ok base ad cid D cl w0 nL p l e R s m args below meth c Q pc lo (.int v :: .int i :: .ref a :: r) w := by
  obtain ⟨ha, ⟨n, f | f | f | f | f⟩, hw, h⟩ := pv_arr_inv h <;> first | (cases h; done) | skip
  obtain ⟨h1, h⟩ := pv_ix_inv h
  intro H locs ls cells slots a1 a2 a3 a4 a5
  show W p l e R s m args below meth c H locs cells slots Q (F0 m pc ls (.int v :: .int i :: .ref (ad a) :: r.map (pv_cv ad)))
  rw [had a ha]
  refine W.iast hx hb (a1.1 a _ (pv_ws_get hw)) ((hK.2 0 _ rfl).1 n (fun j => .int (f j))) (fun q => by cases q) (by show ¬ (i < 0 ∨ (arrV _ _ _).slots.size ≤ _); rw [arrV_size]; exact h1) rfl rfl hdg fun H' e1 e2 e3 => ?_
  refine hk _ h H' _ ls cells slots (pv_HW_set a1 hw ?_ e2 e3) (a2.put e2 e3 (Nat.le_add_right base a)) a3 (by rw [a4]; simp) a5
  show H'[base + a]? = some (arrV (cid 0) n (fun j => .int (upd f i.toNatClampNeg v j)))
  rw [e1]
  show some ((arrV (cid 0) n (fun j => .int (f j))).setSlot _ _) = _
  rw [arrV_store]
  congr 2
  funext q
  by_cases hq : q = i.toNatClampNeg
  · subst hq
    simp [updV, upd]
  · simp [updV, upd, hq]
theorem pv_s_last {a : Nat} {i : Int32} {v : Int64} {r : pv_S} {K : vp_A → pv_R} (hx : p.tables.exec = Jvm.exec) (hb : c.code = cc) (hK : va_K D cl (pv_tys cid) s) (had : ∀ a : Nat, a < 1000000 → ad a = base + a) (hdg : decode cc pc = .ok (.lastore, 1))
    (h : pv_arr w a 1 (fun x => match x.2 with | .inr (.inl f) => pv_ix i x.1 (fun j => K (x.1, .inr (.inl (vp_updL f j v)))) | _ => none) = some res) (hk : ∀ x, K x = some res → pv_Ok base ad cid D cl w0 nL p l e R s m args below meth c Q (pc + 1) lo r (w.1, w.2.set a (.inl (1, x)))) : pv_Ok base ad cid D cl w0 nL p l e R s m args below meth c Q pc lo (.long v :: .int i :: .ref a :: r) w := by
  obtain ⟨ha, ⟨n, f | f | f | f | f⟩, hw, h⟩ := pv_arr_inv h <;> first | (cases h; done) | skip
  obtain ⟨h1, h⟩ := pv_ix_inv h
  intro H locs ls cells slots a1 a2 a3 a4 a5
  show W p l e R s m args below meth c H locs cells slots Q (F0 m pc ls (.long v :: .int i :: .ref (ad a) :: r.map (pv_cv ad)))
  rw [had a ha]
  refine W.last hx hb (a1.1 a _ (pv_ws_get hw)) ((hK.2 1 _ rfl).1 n (fun j => .long (f j))) (fun q => by cases q) (by show ¬ (i < 0 ∨ (arrV _ _ _).slots.size ≤ _); rw [arrV_size]; exact h1) rfl rfl hdg fun H' e1 e2 e3 => ?_
  refine hk _ h H' _ ls cells slots (pv_HW_set a1 hw ?_ e2 e3) (a2.put e2 e3 (Nat.le_add_right base a)) a3 (by rw [a4]; simp) a5
  show H'[base + a]? = some (arrV (cid 1) n (fun j => .long (vp_updL f i.toNatClampNeg v j)))
  rw [e1]
  show some ((arrV (cid 1) n (fun j => .long (f j))).setSlot _ _) = _
  rw [arrV_store]
  congr 2
  funext q
  by_cases hq : q = i.toNatClampNeg
  · subst hq
    simp [updV, vp_updL]
  · simp [updV, vp_updL, hq]
theorem pv_s_bast {a : Nat} {i v : Int32} {r : pv_S} {K : Nat → vp_A → pv_R} (hx : p.tables.exec = Jvm.exec) (hb : c.code = cc) (hK : va_K D cl (pv_tys cid) s) (had : ∀ a : Nat, a < 1000000 → ad a = base + a) (hdg : decode cc pc = .ok (.bastore, 1))
    (h : pv_arrB w a (fun t x => match x.2 with | .inl f => pv_ix i x.1 (fun j => K t (x.1, .inl (upd f j (vp_nar (pv_ty t) v)))) | _ => none) = some res) (hk : ∀ t x, K t x = some res → pv_Ok base ad cid D cl w0 nL p l e R s m args below meth c Q (pc + 1) lo r (w.1, w.2.set a (.inl (t, x)))) : pv_Ok base ad cid D cl w0 nL p l e R s m args below meth c Q pc lo (.int v :: .int i :: .ref a :: r) w := by
  obtain ⟨ha, t, ⟨n, f | f | f | f | f⟩, ht, hw, h⟩ := pv_arrB_inv h <;> first | (cases h; done) | skip
  obtain ⟨h1, h⟩ := pv_ix_inv h
  intro H locs ls cells slots a1 a2 a3 a4 a5
  show W p l e R s m args below meth c H locs cells slots Q (F0 m pc ls (.int v :: .int i :: .ref (ad a) :: r.map (pv_cv ad)))
  rw [had a ha]
  rcases ht with rfl | rfl
  · refine W.bast hx hb (a1.1 a _ (pv_ws_get hw)) ((hK.2 2 _ rfl).1 n (fun j => .int (f j))) (fun q => by cases q) (by show ¬ (i < 0 ∨ (arrV _ _ _).slots.size ≤ _); rw [arrV_size]; exact h1) rfl rfl hdg fun H' e1 e2 e3 => ?_
    refine hk _ _ h H' _ ls cells slots (pv_HW_set a1 hw ?_ e2 e3) (a2.put e2 e3 (Nat.le_add_right base a)) a3 (by rw [a4]; simp) a5
    show H'[base + a]? = some (arrV (cid 2) n (fun j => .int (upd f i.toNatClampNeg (vp_nar .byte v) j)))
    rw [e1]
    show some ((arrV (cid 2) n (fun j => .int (f j))).setSlot _ _) = _
    rw [arrV_store]
    congr 2
    funext q
    by_cases hq : q = i.toNatClampNeg
    · subst hq
      simp [updV, upd, vp_nar]
      try rfl
    · simp [updV, upd, hq]
  · refine W.zast hx hb (a1.1 a _ (pv_ws_get hw)) ((hK.2 3 _ rfl).1 n (fun j => .int (f j))) (fun q => by cases q) (by show ¬ (i < 0 ∨ (arrV _ _ _).slots.size ≤ _); rw [arrV_size]; exact h1) rfl rfl hdg fun H' e1 e2 e3 => ?_
    refine hk _ _ h H' _ ls cells slots (pv_HW_set a1 hw ?_ e2 e3) (a2.put e2 e3 (Nat.le_add_right base a)) a3 (by rw [a4]; simp) a5
    show H'[base + a]? = some (arrV (cid 3) n (fun j => .int (upd f i.toNatClampNeg (vp_nar .boolean v) j)))
    rw [e1]
    show some ((arrV (cid 3) n (fun j => .int (f j))).setSlot _ _) = _
    rw [arrV_store]
    congr 2
    funext q
    by_cases hq : q = i.toNatClampNeg
    · subst hq
      simp [updV, upd, vp_nar]
      try rfl
    · simp [updV, upd, hq]
end PVH
