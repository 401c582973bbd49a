/-! PV: rows of rows; calls -/
section PVM
variable {base : Nat} {ad : Nat → Nat} {cid : Nat → ClassId} {D : va_G} {cl : List vw_C} {w0 : pv_W} {nL : Nat} {p : Program} {l : Launch} {e : Env} {R : Room} {s : State} {m : MethodId} {args : Array Value} {below : List Frame} {meth : Method} {c : Code} {Q : State → Prop} {pc pc' : Nat} {lo : pv_L} {st : pv_S} {w w9 : pv_W} {res : Option Value × pv_W} {Ts : List Jvm.Cond} {FD : Nat → List FieldType} {cc : ByteArray} {own : String} {idx : Nat}
theorem pv_s_multi {n q : Int32} {t : Nat} {r : pv_S} (hx : p.tables.exec = Jvm.exec) (hb : c.code = cc) (hown : s.vm.findClass own = some m.cls) (hK : va_K D cl (pv_tys cid) s) (had : ∀ a : Nat, a < 1000000 → ad a = base + a) (ht : t ≤ 1)
    (hclink : (Cond.classLink own idx ("[" ++ (FieldType.array (pv_ty t)).toString)).before args s = true) (hover : (Cond.arrayOver (.array (pv_ty t))).before args s = true) (harr : (Cond.arrayClass (pv_ty t)).before args s = true) (hdg : decode cc pc = .ok (.multianewarray idx 2, 4)) (hlen : w.2.length + 1 + n.toNatClampNeg < 1000000) (hn : ¬ n < 0) (hq : ¬ q < 0) (hn2 : n.toNatClampNeg ≤ 1000000) (hq2 : q.toNatClampNeg ≤ 1000000)
    (hm : w.2.length + (1 + n.toNatClampNeg) ≤ w9.2.length ∧ w.1 + (n.toNatClampNeg + n.toNatClampNeg * q.toNatClampNeg) ≤ w9.1) (hR : w9.2.length ≤ R.cells + w0.2.length ∧ w9.1 ≤ R.slots + w0.1) (hk : pv_Ok base ad cid D cl w0 nL p l e R s m args below meth c Q (pc + 4) lo (.ref w.2.length :: r) (w.1 + (n.toNatClampNeg + n.toNatClampNeg * q.toNatClampNeg), (w.2 ++ [.inl (t + 4, n.toNatClampNeg, .inr (.inr (.inr (.inr fun i => if i < n.toNatClampNeg then some (w.2.length + 1 + i) else none))))]) ++ List.replicate n.toNatClampNeg (.inl (t, q.toNatClampNeg, pv_zero t)))) : pv_Ok base ad cid D cl w0 nL p l e R s m args below meth c Q pc lo (.int q :: .int n :: r) w := by
  intro H locs ls cells slots a1 a2 a3 a4 a5
  intro T hT Xs
  have ht4 : t < 4 := by omega
  obtain ⟨vm₁, cA, comp, hW1, fA, fC, hO, hI, X', step⟩ := Xs.multianewarray2F hx hown hclink hover harr (g := F0 m pc ls (.int q :: .int n :: r.map (pv_cv ad))) rfl (by rw [hb]; exact hdg) rfl hn hq (by omega) (by
    match t, ht with
    | 0, _ => show q.toNatClampNeg * 4 ≤ 536870912; omega
    | 1, _ => show q.toNatClampNeg * 8 ≤ 536870912; omega) (by omega) (by
    match t, ht with
    | 0, _ => rfl
    | 1, _ => rfl) (by
    match t, ht with
    | 0, _ => rfl
    | 1, _ => rfl) (by omega) (by omega)
  have hcA : cA = cid (t + 4) := by
    have h1 := (hK.2 (t + 4) _ (pv_tys_get (by omega))).2
    rcases (show t = 0 ∨ t = 1 by omega) with rfl | rfl
    · exact Option.some.inj (fA.symm.trans h1)
    · exact Option.some.inj (fA.symm.trans h1)
  have hcC : comp = cid t := by
    have h1 := (hK.2 t _ (pv_tys_get (by omega))).2
    rcases (show t = 0 ∨ t = 1 by omega) with rfl | rfl
    · exact Option.some.inj (fC.symm.trans h1)
    · exact Option.some.inj (fC.symm.trans h1)
  subst hcA
  subst hcC
  generalize hF : Jvm.Free.Multi.fill (T.setVm vm₁) (cid (t + 4)) (cid t) n.toNatClampNeg q.toNatClampNeg (defaultValue (pv_ty t)) n.toNatClampNeg = F at X' step
  have hTh : (T.setVm vm₁).heap = H := hT
  obtain ⟨f1, f2, -, -⟩ := Jvm.Free.Multi.fill_facts (T.setVm vm₁) (cid (t + 4)) (cid t) n.toNatClampNeg q.toNatClampNeg (defaultValue (pv_ty t)) n.toNatClampNeg
  rw [hF, hTh] at f1 f2
  have hold : ∀ x : Nat, x < H.size → F.heap[x]? = H[x]? := fun x hx => by
    have := Jvm.Free.Multi.fill_old (T.setVm vm₁) (cid (t + 4)) (cid t) n.toNatClampNeg q.toNatClampNeg (defaultValue (pv_ty t)) (a := x) (by rw [hTh]; exact hx) n.toNatClampNeg
    rw [hF, hTh] at this
    exact this
  have hrow : ∀ j : Nat, j < n.toNatClampNeg → F.heap[H.size + 1 + j]? = some (arrV (cid t) q.toNatClampNeg (fun _ => defaultValue (pv_ty t))) := fun j hj => by
    have := Jvm.Free.Multi.fill_inner (T.setVm vm₁) (cid (t + 4)) (cid t) n.toNatClampNeg q.toNatClampNeg (defaultValue (pv_ty t)) n.toNatClampNeg j hj
    rw [hF, hTh] at this
    rw [this, ← arrV_new]
    rfl
  have h9 := hk F.heap locs ls (cells + 1 + n.toNatClampNeg) (slots + n.toNatClampNeg + n.toNatClampNeg * q.toNatClampNeg) ?_ (a2.grow (by omega) hold) a3 (by simp only [List.length_append, List.length_singleton, List.length_replicate]; omega) (by show _ = w.1 + _; omega)
  · rw [List.map_cons, show pv_cv ad (.ref w.2.length) = .ref (ad w.2.length) from rfl, had _ (by omega), ← a1.2, ← hTh] at h9
    obtain ⟨t2, b1, b2⟩ := h9 F rfl X'
    exact ⟨t2, step t2 b1, b2⟩
  · rw [List.append_assoc]
    refine pv_HW_apps a1 (fun j x hj => ?_) (by rw [f1]; simp only [List.length_append, List.length_singleton, List.length_replicate]; omega) hold
    by_cases hj0 : j = 0
    · subst hj0
      simp at hj
      subst hj
      show F.heap[H.size + 0]? = some (vp_cell (cid (t + 4)) (n.toNatClampNeg, .inr (.inr (.inr (.inr fun i => (if i < n.toNatClampNeg then some (w.2.length + 1 + i) else none).map ad)))))
      rw [vp_cell_q]
      refine f2.trans ?_
      rw [pv_outer]
      congr 2
      funext i
      by_cases hi : i < n.toNatClampNeg
      · rw [if_pos hi, if_pos hi]
        show va_rf (some _) = va_rf (some (ad (w.2.length + 1 + i)))
        rw [had _ (by omega), a1.2]
        congr 2
        omega
      · rw [if_neg hi, if_neg hi]
        rfl
    · rw [List.getElem?_append_right (by simp only [List.length_singleton]; omega)] at hj
      simp only [List.length_singleton] at hj
      have hj2 := List.getElem?_eq_some_iff.mp hj
      obtain ⟨hj3, hj4⟩ := hj2
      rw [List.getElem_replicate] at hj4
      subst hj4
      rw [List.length_replicate] at hj3
      show F.heap[H.size + j]? = some (vp_cell (cid t) (pv_cA ad (q.toNatClampNeg, pv_zero t)))
      rw [pv_zero_cell ht4]
      have h8 := hrow (j - 1) hj3
      rw [show H.size + 1 + (j - 1) = H.size + j by omega] at h8
      exact h8
/-- behind a call's run -/
theorem pv_use_run {a : Array Value} {v : Option Value} {r : pv_S} {st9 : List Value} {H : Heap} {locs : List Loc} {ls : Array Slot} {cells slots : Nat} (hrun : va_Run p l e R s m args below meth c H locs cells slots (w9.2.length - w.2.length) (w9.1 - w.1) (F0 m pc ls st9) (r.map (pv_cv ad)) (pv_Qc base ad D cl cid v w9 a) (fun q : Nat => base ≤ q)) (a2 : va_S (fun q : Nat => base ≤ q) s.heap H locs) (a3 : pv_lh ad ls nL lo) (a4 : cells + w0.2.length = w.2.length) (a5 : slots + w0.1 = w.1) (hm : w.2.length ≤ w9.2.length ∧ w.1 ≤ w9.1)
    (hk : pv_Ok base ad cid D cl w0 nL p l e R s m args below meth c Q (pc + 3) lo (v.toList ++ r) w9) : W p l e R s m args below meth c H locs cells slots Q (F0 m pc ls st9) := by
  intro T hT X
  obtain ⟨v1, st₀, t, T', L, h0, X', hL, e1, e2, ⟨hv, hHW, hF⟩, gs⟩ := hrun T hT X
  have hv1 : v1 = v.map (pv_cv ad) := by
    cases hv
    rfl
  subst hv1
  have hS : va_S (fun q : Nat => base ≤ q) s.heap t.heap (locs ++ L) := by
    have hF1 := hF.1
    rw [h0] at hF1
    refine ⟨Nat.le_trans a2.1 hF1, fun q q1 q2 => ?_, fun q hq => ?_⟩
    · have h5 := hF.2 q (by rw [h0]; exact Nat.lt_of_lt_of_le q1 a2.1) q2
      rw [h5, h0]
      exact a2.2.1 q q1 q2
    · rcases List.mem_append.mp hq with h5 | h5
      · exact a2.2.2 q h5
      · exact hL q h5
  have h9 := hk t.heap (locs ++ L) ls (cells + (w9.2.length - w.2.length)) (slots + (w9.1 - w.1)) hHW hS a3 (by omega) (by omega)
  obtain ⟨t2, b1, b2⟩ := h9 T' e1 X'
  refine ⟨t2, gs t2 ?_, b2⟩
  have e5 : (v.map (pv_cv ad)).toList ++ r.map (pv_cv ad) = (v.toList ++ r).map (pv_cv ad) := by cases v <;> simp
  show Steps p.tables e below (T'.setTop (F0 m (pc + 3) ls ((v.map (pv_cv ad)).toList ++ r.map (pv_cv ad)))) t2
  rw [e5]
  exact b1
theorem pv_pop_inv : ∀ {n : Nat} {st : pv_S} {acc As : List Value} {r : pv_S}, pv_pop n st acc = some (As, r) → ∃ v : List Value, v.length = n ∧ st = v ++ r ∧ As = v.reverse ++ acc
  | 0, st, acc, As, r, h => by
    cases h
    exact ⟨[], rfl, rfl, rfl⟩
  | n + 1, [], acc, As, r, h => by cases h
  | n + 1, v :: st, acc, As, r, h => by
    obtain ⟨u, h1, h2, h3⟩ := pv_pop_inv (n := n) (st := st) h
    refine ⟨v :: u, by simp [h1], by simp [h2], by simp [h3]⟩
theorem pv_cat_sum {r : pv_S} : ((r.map (pv_cv ad)).map fun v => v.category).sum = pv_cat r := by
  induction r with
  | nil => rfl
  | cons v r ih => simp only [List.map_cons, List.sum_cons, pv_cat, pv_cat_cv]; rw [← ih]
end PVM
