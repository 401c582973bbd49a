/-! PV against the machine: what a state of PV says of the machine's, and the families of instructions. -/
def pv_ad (b base : Nat) (sa : Nat → Nat) (a : Nat) : Nat := if a < 1000000 then base + a else if a = 2000000 then b else sa (a - 1000000)
def pv_cv (ad : Nat → Nat) : Value → Value
  | .ref a => .ref (ad a)
  | v => v
def pv_cA (ad : Nat → Nat) (x : vp_A) : vp_A := match x with
  | (n, .inr (.inr (.inr (.inr f)))) => (n, .inr (.inr (.inr (.inr fun i => (f i).map ad))))
  | (n, .inl f) => (n, .inl f)
  | (n, .inr (.inl f)) => (n, .inr (.inl f))
  | (n, .inr (.inr (.inl f))) => (n, .inr (.inr (.inl f)))
  | (n, .inr (.inr (.inr (.inl f)))) => (n, .inr (.inr (.inr (.inl f))))
def pv_ck (ad : Nat → Nat) (cid : Nat → ClassId) (e : pv_K) : va_E := match e with
  | .inl x => .inl (cid x.1, pv_cA ad x.2)
  | .inr o => .inr (o.1, o.2.map (pv_cv ad))
def pv_ws (base : Nat) (ad : Nat → Nat) (cid : Nat → ClassId) (w : List pv_K) : va_W := w.mapIdx fun k e => (base + k, pv_ck ad cid e)
theorem pv_ws_get {base : Nat} {ad : Nat → Nat} {cid : Nat → ClassId} {w : List pv_K} {k : Nat} {e : pv_K} (h : w[k]? = some e) : (pv_ws base ad cid w)[k]? = some (base + k, pv_ck ad cid e) := by
  unfold pv_ws
  rw [List.getElem?_mapIdx, h]
  rfl
theorem pv_ws_inv {base : Nat} {ad : Nat → Nat} {cid : Nat → ClassId} {w : List pv_K} {k : Nat} {q : Nat × va_E} (h : (pv_ws base ad cid w)[k]? = some q) : k < w.length ∧ q.1 = base + k := by
  unfold pv_ws at h
  rw [List.getElem?_mapIdx] at h
  cases hw : w[k]? with
  | none => rw [hw] at h; cases h
  | some e =>
    rw [hw] at h
    cases h
    exact ⟨(List.getElem?_eq_some_iff.mp hw).1, rfl⟩
theorem pv_ws_set {base : Nat} {ad : Nat → Nat} {cid : Nat → ClassId} {w : List pv_K} {k : Nat} {e : pv_K} : pv_ws base ad cid (w.set k e) = (pv_ws base ad cid w).set k (base + k, pv_ck ad cid e) := by
  unfold pv_ws
  apply List.ext_getElem?
  intro i
  rw [List.getElem?_mapIdx, List.getElem?_set, List.getElem?_set, List.getElem?_mapIdx, List.length_mapIdx]
  by_cases h : k = i
  · subst h
    by_cases h2 : k < w.length <;> simp [h2]
  · simp [h]
theorem pv_ws_app {base : Nat} {ad : Nat → Nat} {cid : Nat → ClassId} {w : List pv_K} {e : pv_K} : pv_ws base ad cid (w ++ [e]) = pv_ws base ad cid w ++ [(base + w.length, pv_ck ad cid e)] := by
  unfold pv_ws
  rw [List.mapIdx_append]
  simp
theorem pv_ws_D {base : Nat} {ad : Nat → Nat} {cid : Nat → ClassId} {w : List pv_K} : va_D (fun q : Nat => base ≤ q) (pv_ws base ad cid w) := by
  refine ⟨fun i j x y hi hj hxy => ?_, fun k q hk => ?_⟩
  · have h1 := (pv_ws_inv hi).2
    have h2 := (pv_ws_inv hj).2
    omega
  · have h1 := (pv_ws_inv hk).2
    show base ≤ q.1
    omega
/-- the world is in the heap: cell k at base + k, and nothing comes behind it -/
def pv_HW (base : Nat) (ad : Nat → Nat) (cid : Nat → ClassId) (D : va_G) (cl : List vw_C) (w : pv_W) (H : Heap) : Prop := va_P D cl (pv_ws base ad cid w.2) H ∧ H.size = base + w.2.length
def pv_lv (ad : Nat → Nat) (l : pv_L) : List (Nat × Value) := (List.range l.length).filterMap fun i => match l[i]? with
  | some (some v) => some (i, pv_cv ad v)
  | _ => none
/-- the locals -/
def pv_lh (ad : Nat → Nat) (ls : Array Slot) (nL : Nat) (l : pv_L) : Prop := l.length = nL ∧ ls.size = nL ∧ lv_wf ls ∧ ∀ (i : Nat) (v : Value), l[i]? = some (some v) → ls[i]? = some (.val (pv_cv ad v))
theorem pv_lv_mem {ad : Nat → Nat} {l : pv_L} {i : Nat} {v : Value} (h : l[i]? = some (some v)) : (i, pv_cv ad v) ∈ pv_lv ad l := by
  unfold pv_lv
  refine List.mem_filterMap.mpr ⟨i, List.mem_range.mpr (List.getElem?_eq_some_iff.mp h).1, ?_⟩
  rw [h]
theorem pv_lv_inv {ad : Nat → Nat} {l : pv_L} {q : Nat × Value} (h : q ∈ pv_lv ad l) : ∃ v, l[q.1]? = some (some v) ∧ q.2 = pv_cv ad v := by
  unfold pv_lv at h
  obtain ⟨i, -, h⟩ := List.mem_filterMap.mp h
  split at h
  · rename_i v hv
    cases h
    exact ⟨v, hv, rfl⟩
  · cases h
theorem pv_lh.has {ad : Nat → Nat} {ls : Array Slot} {nL : Nat} {l : pv_L} (h : pv_lh ad ls nL l) : lv_has ls nL (pv_lv ad l) := by
  refine ⟨h.2.1, h.2.2.1, fun q hq => ?_⟩
  obtain ⟨v, h1, h2⟩ := pv_lv_inv hq
  rw [h2]
  exact h.2.2.2 _ _ h1
theorem pv_cat_cv {ad : Nat → Nat} {v : Value} : (pv_cv ad v).category = v.category := by cases v <;> rfl
theorem pv_clr_get {l : pv_L} {i j : Nat} {v : Value} (hj : ¬ j = i) (h : (pv_clr l i)[j]? = some (some v)) : l[j]? = some (some v) ∧ ¬ (j + 1 = i ∧ v.category = 2) := by
  unfold pv_clr at h
  cases i with
  | zero => exact ⟨h, fun q => by omega⟩
  | succ k =>
    simp only at h
    by_cases hk : j = k
    · subst hk
      split at h
      · rw [List.getElem?_set] at h
        simp at h
      · rw [List.getElem?_set] at h
        simp at h
      · rename_i h1 h2
        refine ⟨h, fun q => ?_⟩
        cases v <;> first | (exact h1 _ h) | (exact h2 _ h) | (have q2 := q.2; simp [Value.category] at q2)
    · have hne : ¬ k = j := fun q => hk q.symm
      split at h
      · rw [List.getElem?_set_ne hne] at h
        exact ⟨h, fun q => by omega⟩
      · rw [List.getElem?_set_ne hne] at h
        exact ⟨h, fun q => by omega⟩
      · exact ⟨h, fun q => by omega⟩
theorem pv_clr_len {l : pv_L} {i : Nat} : (pv_clr l i).length = l.length := by
  unfold pv_clr
  split
  · rfl
  · split <;> simp
theorem pv_lh.s1 {ad : Nat → Nat} {ls ls' : Array Slot} {nL i : Nat} {l : pv_L} {v : Value} (h : pv_lh ad ls nL l) (h2 : lv_has ls' nL ((i, pv_cv ad v) :: (pv_lv ad l).filter (fun q => !(q.1 == i) && !(q.1 + 1 == i && q.2.category == 2)))) : pv_lh ad ls' nL (pv_s1 l i v) := by
  refine ⟨by unfold pv_s1; rw [List.length_set, pv_clr_len]; exact h.1, h2.1, h2.2.1, fun j u hj => ?_⟩
  unfold pv_s1 at hj
  by_cases hji : j = i
  · subst hji
    rw [List.getElem?_set] at hj
    simp at hj
    obtain ⟨-, rfl⟩ := hj
    exact h2.2.2 _ List.mem_cons_self
  · rw [List.getElem?_set_ne (fun q => hji q.symm)] at hj
    obtain ⟨h3, h4⟩ := pv_clr_get hji hj
    refine h2.2.2 (j, pv_cv ad u) (List.mem_cons_of_mem _ (List.mem_filter.mpr ⟨pv_lv_mem h3, ?_⟩))
    simp only [pv_cat_cv]
    simp only [Bool.and_eq_true, Bool.not_eq_true', beq_eq_false_iff_ne, ne_eq, Bool.and_eq_false_iff, hji, not_false_eq_true, true_and]
    by_cases h5 : j + 1 = i
    · exact Or.inr (fun q => h4 ⟨h5, q⟩)
    · exact Or.inl h5
theorem pv_lh.s2 {ad : Nat → Nat} {ls ls' : Array Slot} {nL i : Nat} {l : pv_L} {v : Value} (h : pv_lh ad ls nL l) (h2 : lv_has ls' nL ((i, pv_cv ad v) :: (pv_lv ad l).filter (fun q => !(q.1 == i) && (!(q.1 == i + 1) && !(q.1 + 1 == i && q.2.category == 2))))) : pv_lh ad ls' nL (pv_s2 l i v) := by
  refine ⟨by unfold pv_s2; rw [List.length_set, List.length_set, pv_clr_len]; exact h.1, h2.1, h2.2.1, fun j u hj => ?_⟩
  unfold pv_s2 at hj
  by_cases hj1 : j = i + 1
  · subst hj1
    rw [List.getElem?_set] at hj
    simp at hj
  · rw [List.getElem?_set_ne (fun q => hj1 q.symm)] at hj
    by_cases hji : j = i
    · subst hji
      rw [List.getElem?_set] at hj
      simp at hj
      obtain ⟨-, rfl⟩ := hj
      exact h2.2.2 _ List.mem_cons_self
    · rw [List.getElem?_set_ne (fun q => hji q.symm)] at hj
      obtain ⟨h3, h4⟩ := pv_clr_get hji hj
      refine h2.2.2 (j, pv_cv ad u) (List.mem_cons_of_mem _ (List.mem_filter.mpr ⟨pv_lv_mem h3, ?_⟩))
      simp only [pv_cat_cv]
      simp only [Bool.and_eq_true, Bool.not_eq_true', beq_eq_false_iff_ne, ne_eq, Bool.and_eq_false_iff, hji, hj1, not_false_eq_true, true_and]
      by_cases h5 : j + 1 = i
      · exact Or.inr (fun q => h4 ⟨h5, q⟩)
      · exact Or.inl h5
def pv_tys (cid : Nat → ClassId) : List (ClassId × FieldType) := [(cid 0, .int), (cid 1, .long), (cid 2, .byte), (cid 3, .boolean), (cid 4, .array .int), (cid 5, .array .long)]
theorem pv_tys_get {cid : Nat → ClassId} {t : Nat} (h : t < 6) : (pv_tys cid)[t]? = some (cid t, pv_ty t) := by
  match t, h with
  | 0, _ => rfl
  | 1, _ => rfl
  | 2, _ => rfl
  | 3, _ => rfl
  | 4, _ => rfl
  | 5, _ => rfl
/-- from here the machine comes to Q, whatever heap and locals it has that hold what PV says -/
def pv_Ok (base : Nat) (ad : Nat → Nat) (cid : Nat → ClassId) (D : va_G) (cl : List vw_C) (w0 : pv_W) (nL : Nat) (p : Program) (l : Launch) (e : Env) (R : Room) (s : State) (m : MethodId) (args : Array Value) (below : List Frame) (meth : Method) (c : Code) (Q : State → Prop) (pc : Nat) (lo : pv_L) (st : pv_S) (w : pv_W) : Prop :=
  ∀ (H : Heap) (locs : List Loc) (ls : Array Slot) (cells slots : Nat), pv_HW base ad cid D cl w H → va_S (fun q : Nat => base ≤ q) s.heap H locs → pv_lh ad ls nL lo → cells + w0.2.length = w.2.length → slots + w0.1 = w.1 → W p l e R s m args below meth c H locs cells slots Q (F0 m pc ls (st.map (pv_cv ad)))
section PVF
variable {base : Nat} {ad : Nat → Nat} {cid : Nat → ClassId} {D : va_G} {cl : List vw_C} {w0 : pv_W} {nL : Nat} {p : Program} {l : Launch} {e : Env} {R : Room} {s : State} {m : MethodId} {args : Array Value} {below : List Frame} {meth : Method} {c : Code} {Q : State → Prop} {pc pc' : Nat} {lo : pv_L} {st : pv_S} {w : pv_W} {res : Option Value × pv_W} {K : pv_S → pv_R}
theorem pv_s_i2 {f : Int32 → Int32 → Int32} (row : ∀ (H : Heap) (locs : List Loc) (cells slots : Nat) (ls : Array Slot) (r : List Value) (x y : Int32), W p l e R s m args below meth c H locs cells slots Q (F0 m pc' ls (.int (f x y) :: r)) → W p l e R s m args below meth c H locs cells slots Q (F0 m pc ls (.int y :: .int x :: r)))
    (h : pv_i2 f st K = some res) (hk : ∀ st', K st' = some res → pv_Ok base ad cid D cl w0 nL p l e R s m args below meth c Q pc' lo st' w) : pv_Ok base ad cid D cl w0 nL p l e R s m args below meth c Q pc lo st w := by
  unfold pv_i2 at h
  split at h
  · intro H locs ls cells slots a1 a2 a3 a4 a5
    exact row _ _ _ _ _ _ _ _ (hk _ h H locs ls cells slots a1 a2 a3 a4 a5)
  · cases h
theorem pv_s_i2z {f : Int32 → Int32 → Int32} (row : ∀ (H : Heap) (locs : List Loc) (cells slots : Nat) (ls : Array Slot) (r : List Value) (x y : Int32), ¬ y = 0 → W p l e R s m args below meth c H locs cells slots Q (F0 m pc' ls (.int (f x y) :: r)) → W p l e R s m args below meth c H locs cells slots Q (F0 m pc ls (.int y :: .int x :: r)))
    (h : pv_i2z f st K = some res) (hk : ∀ st', K st' = some res → pv_Ok base ad cid D cl w0 nL p l e R s m args below meth c Q pc' lo st' w) : pv_Ok base ad cid D cl w0 nL p l e R s m args below meth c Q pc lo st w := by
  unfold pv_i2z at h
  split at h
  · split at h
    · cases h
    · rename_i hz
      intro H locs ls cells slots a1 a2 a3 a4 a5
      exact row _ _ _ _ _ _ _ _ hz (hk _ h H locs ls cells slots a1 a2 a3 a4 a5)
  · cases h
theorem pv_s_l2 {f : Int64 → Int64 → Int64} (row : ∀ (H : Heap) (locs : List Loc) (cells slots : Nat) (ls : Array Slot) (r : List Value) (x y : Int64), W p l e R s m args below meth c H locs cells slots Q (F0 m pc' ls (.long (f x y) :: r)) → W p l e R s m args below meth c H locs cells slots Q (F0 m pc ls (.long y :: .long x :: r)))
    (h : pv_l2 f st K = some res) (hk : ∀ st', K st' = some res → pv_Ok base ad cid D cl w0 nL p l e R s m args below meth c Q pc' lo st' w) : pv_Ok base ad cid D cl w0 nL p l e R s m args below meth c Q pc lo st w := by
  unfold pv_l2 at h
  split at h
  · intro H locs ls cells slots a1 a2 a3 a4 a5
    exact row _ _ _ _ _ _ _ _ (hk _ h H locs ls cells slots a1 a2 a3 a4 a5)
  · cases h
theorem pv_s_l2z {f : Int64 → Int64 → Int64} (row : ∀ (H : Heap) (locs : List Loc) (cells slots : Nat) (ls : Array Slot) (r : List Value) (x y : Int64), ¬ y = 0 → W p l e R s m args below meth c H locs cells slots Q (F0 m pc' ls (.long (f x y) :: r)) → W p l e R s m args below meth c H locs cells slots Q (F0 m pc ls (.long y :: .long x :: r)))
    (h : pv_l2z f st K = some res) (hk : ∀ st', K st' = some res → pv_Ok base ad cid D cl w0 nL p l e R s m args below meth c Q pc' lo st' w) : pv_Ok base ad cid D cl w0 nL p l e R s m args below meth c Q pc lo st w := by
  unfold pv_l2z at h
  split at h
  · split at h
    · cases h
    · rename_i hz
      intro H locs ls cells slots a1 a2 a3 a4 a5
      exact row _ _ _ _ _ _ _ _ hz (hk _ h H locs ls cells slots a1 a2 a3 a4 a5)
  · cases h
theorem pv_s_lc {f : Int64 → Int64 → Int32} (row : ∀ (H : Heap) (locs : List Loc) (cells slots : Nat) (ls : Array Slot) (r : List Value) (x y : Int64), W p l e R s m args below meth c H locs cells slots Q (F0 m pc' ls (.int (f x y) :: r)) → W p l e R s m args below meth c H locs cells slots Q (F0 m pc ls (.long y :: .long x :: r)))
    (h : pv_lc f st K = some res) (hk : ∀ st', K st' = some res → pv_Ok base ad cid D cl w0 nL p l e R s m args below meth c Q pc' lo st' w) : pv_Ok base ad cid D cl w0 nL p l e R s m args below meth c Q pc lo st w := by
  unfold pv_lc at h
  split at h
  · intro H locs ls cells slots a1 a2 a3 a4 a5
    exact row _ _ _ _ _ _ _ _ (hk _ h H locs ls cells slots a1 a2 a3 a4 a5)
  · cases h
theorem pv_s_ls {f : Int64 → Int32 → Int64} (row : ∀ (H : Heap) (locs : List Loc) (cells slots : Nat) (ls : Array Slot) (r : List Value) (x : Int64) (y : Int32), W p l e R s m args below meth c H locs cells slots Q (F0 m pc' ls (.long (f x y) :: r)) → W p l e R s m args below meth c H locs cells slots Q (F0 m pc ls (.int y :: .long x :: r)))
    (h : pv_ls f st K = some res) (hk : ∀ st', K st' = some res → pv_Ok base ad cid D cl w0 nL p l e R s m args below meth c Q pc' lo st' w) : pv_Ok base ad cid D cl w0 nL p l e R s m args below meth c Q pc lo st w := by
  unfold pv_ls at h
  split at h
  · intro H locs ls cells slots a1 a2 a3 a4 a5
    exact row _ _ _ _ _ _ _ _ (hk _ h H locs ls cells slots a1 a2 a3 a4 a5)
  · cases h
theorem pv_s_i1 {f : Int32 → Int32} (row : ∀ (H : Heap) (locs : List Loc) (cells slots : Nat) (ls : Array Slot) (r : List Value) (x : Int32), W p l e R s m args below meth c H locs cells slots Q (F0 m pc' ls (.int (f x) :: r)) → W p l e R s m args below meth c H locs cells slots Q (F0 m pc ls (.int x :: r)))
    (h : pv_i1 f st K = some res) (hk : ∀ st', K st' = some res → pv_Ok base ad cid D cl w0 nL p l e R s m args below meth c Q pc' lo st' w) : pv_Ok base ad cid D cl w0 nL p l e R s m args below meth c Q pc lo st w := by
  unfold pv_i1 at h
  split at h
  · intro H locs ls cells slots a1 a2 a3 a4 a5
    exact row _ _ _ _ _ _ _ (hk _ h H locs ls cells slots a1 a2 a3 a4 a5)
  · cases h
theorem pv_s_l1 {f : Int64 → Int64} (row : ∀ (H : Heap) (locs : List Loc) (cells slots : Nat) (ls : Array Slot) (r : List Value) (x : Int64), W p l e R s m args below meth c H locs cells slots Q (F0 m pc' ls (.long (f x) :: r)) → W p l e R s m args below meth c H locs cells slots Q (F0 m pc ls (.long x :: r)))
    (h : pv_l1 f st K = some res) (hk : ∀ st', K st' = some res → pv_Ok base ad cid D cl w0 nL p l e R s m args below meth c Q pc' lo st' w) : pv_Ok base ad cid D cl w0 nL p l e R s m args below meth c Q pc lo st w := by
  unfold pv_l1 at h
  split at h
  · intro H locs ls cells slots a1 a2 a3 a4 a5
    exact row _ _ _ _ _ _ _ (hk _ h H locs ls cells slots a1 a2 a3 a4 a5)
  · cases h
theorem pv_s_il {f : Int32 → Int64} (row : ∀ (H : Heap) (locs : List Loc) (cells slots : Nat) (ls : Array Slot) (r : List Value) (x : Int32), W p l e R s m args below meth c H locs cells slots Q (F0 m pc' ls (.long (f x) :: r)) → W p l e R s m args below meth c H locs cells slots Q (F0 m pc ls (.int x :: r)))
    (h : pv_il f st K = some res) (hk : ∀ st', K st' = some res → pv_Ok base ad cid D cl w0 nL p l e R s m args below meth c Q pc' lo st' w) : pv_Ok base ad cid D cl w0 nL p l e R s m args below meth c Q pc lo st w := by
  unfold pv_il at h
  split at h
  · intro H locs ls cells slots a1 a2 a3 a4 a5
    exact row _ _ _ _ _ _ _ (hk _ h H locs ls cells slots a1 a2 a3 a4 a5)
  · cases h
theorem pv_s_li {f : Int64 → Int32} (row : ∀ (H : Heap) (locs : List Loc) (cells slots : Nat) (ls : Array Slot) (r : List Value) (x : Int64), W p l e R s m args below meth c H locs cells slots Q (F0 m pc' ls (.int (f x) :: r)) → W p l e R s m args below meth c H locs cells slots Q (F0 m pc ls (.long x :: r)))
    (h : pv_li f st K = some res) (hk : ∀ st', K st' = some res → pv_Ok base ad cid D cl w0 nL p l e R s m args below meth c Q pc' lo st' w) : pv_Ok base ad cid D cl w0 nL p l e R s m args below meth c Q pc lo st w := by
  unfold pv_li at h
  split at h
  · intro H locs ls cells slots a1 a2 a3 a4 a5
    exact row _ _ _ _ _ _ _ (hk _ h H locs ls cells slots a1 a2 a3 a4 a5)
  · cases h
/-- a row that pushes one value that is no reference -/
theorem pv_s_push {v : Value} (hv : pv_cv ad v = v) (row : ∀ (H : Heap) (locs : List Loc) (cells slots : Nat) (ls : Array Slot) (r : List Value), W p l e R s m args below meth c H locs cells slots Q (F0 m pc' ls (v :: r)) → W p l e R s m args below meth c H locs cells slots Q (F0 m pc ls r))
    (hk : pv_Ok base ad cid D cl w0 nL p l e R s m args below meth c Q pc' lo (v :: st) w) : pv_Ok base ad cid D cl w0 nL p l e R s m args below meth c Q pc lo st w := by
  intro H locs ls cells slots a1 a2 a3 a4 a5
  refine row _ _ _ _ _ _ ?_
  have h := hk H locs ls cells slots a1 a2 a3 a4 a5
  rw [List.map_cons, hv] at h
  exact h
theorem pv_s_ldI {i : Nat} {K : Int32 → pv_R} (row : ∀ (H : Heap) (locs : List Loc) (cells slots : Nat) (ls : Array Slot) (r : List Value) (x : Int32), ls[i]? = some (.val (.int x)) → W p l e R s m args below meth c H locs cells slots Q (F0 m pc' ls (.int x :: r)) → W p l e R s m args below meth c H locs cells slots Q (F0 m pc ls r))
    (h : pv_ldI lo i K = some res) (hk : ∀ x, K x = some res → pv_Ok base ad cid D cl w0 nL p l e R s m args below meth c Q pc' lo (.int x :: st) w) : pv_Ok base ad cid D cl w0 nL p l e R s m args below meth c Q pc lo st w := by
  unfold pv_ldI at h
  split at h
  · rename_i x hx
    intro H locs ls cells slots a1 a2 a3 a4 a5
    exact row _ _ _ _ _ _ _ (a3.2.2.2 _ _ hx) (hk _ h H locs ls cells slots a1 a2 a3 a4 a5)
  · cases h
theorem pv_s_ldJ {i : Nat} {K : Int64 → pv_R} (row : ∀ (H : Heap) (locs : List Loc) (cells slots : Nat) (ls : Array Slot) (r : List Value) (x : Int64), ls[i]? = some (.val (.long x)) → W p l e R s m args below meth c H locs cells slots Q (F0 m pc' ls (.long x :: r)) → W p l e R s m args below meth c H locs cells slots Q (F0 m pc ls r))
    (h : pv_ldJ lo i K = some res) (hk : ∀ x, K x = some res → pv_Ok base ad cid D cl w0 nL p l e R s m args below meth c Q pc' lo (.long x :: st) w) : pv_Ok base ad cid D cl w0 nL p l e R s m args below meth c Q pc lo st w := by
  unfold pv_ldJ at h
  split at h
  · rename_i x hx
    intro H locs ls cells slots a1 a2 a3 a4 a5
    exact row _ _ _ _ _ _ _ (a3.2.2.2 _ _ hx) (hk _ h H locs ls cells slots a1 a2 a3 a4 a5)
  · cases h
theorem pv_s_ldA {i : Nat} {K : Nat → pv_R} (row : ∀ (H : Heap) (locs : List Loc) (cells slots : Nat) (ls : Array Slot) (r : List Value) (x : Nat), ls[i]? = some (.val (.ref x)) → W p l e R s m args below meth c H locs cells slots Q (F0 m pc' ls (.ref x :: r)) → W p l e R s m args below meth c H locs cells slots Q (F0 m pc ls r))
    (h : pv_ldA lo i K = some res) (hk : ∀ x, K x = some res → pv_Ok base ad cid D cl w0 nL p l e R s m args below meth c Q pc' lo (.ref x :: st) w) : pv_Ok base ad cid D cl w0 nL p l e R s m args below meth c Q pc lo st w := by
  unfold pv_ldA at h
  split at h
  · rename_i x hx
    intro H locs ls cells slots a1 a2 a3 a4 a5
    exact row _ _ _ _ _ _ (ad x) (a3.2.2.2 _ _ hx) (hk _ h H locs ls cells slots a1 a2 a3 a4 a5)
  · cases h
theorem pv_s_stI {i : Nat} {K : pv_L → pv_S → pv_R} (row : ∀ (H : Heap) (locs : List Loc) (cells slots : Nat) (ls : Array Slot) (r : List Value) (x : Int32) (lv : List (Nat × Value)), lv_has ls nL lv → i < nL → (∀ ls' : Array Slot, lv_has ls' nL ((i, .int x) :: lv.filter (fun q => !(q.1 == i) && !(q.1 + 1 == i && q.2.category == 2))) → W p l e R s m args below meth c H locs cells slots Q (F0 m pc' ls' r)) → W p l e R s m args below meth c H locs cells slots Q (F0 m pc ls (.int x :: r)))
    (h : pv_stI lo i st K = some res) (hk : ∀ lo' st', K lo' st' = some res → pv_Ok base ad cid D cl w0 nL p l e R s m args below meth c Q pc' lo' st' w) : pv_Ok base ad cid D cl w0 nL p l e R s m args below meth c Q pc lo st w := by
  unfold pv_stI at h
  split at h
  · rename_i x r
    cases hb : Nat.blt i lo.length with
    | false => rw [hb] at h; cases h
    | true =>
      rw [hb] at h
      intro H locs ls cells slots a1 a2 a3 a4 a5
      refine row _ _ _ _ _ _ _ _ a3.has (by rw [← a3.1]; exact Nat.le_of_ble_eq_true hb) fun ls' h' => ?_
      exact hk _ _ h H locs ls' cells slots a1 a2 (a3.s1 (v := .int x) h') a4 a5
  · cases h
theorem pv_s_stA {i : Nat} {K : pv_L → pv_S → pv_R} (row : ∀ (H : Heap) (locs : List Loc) (cells slots : Nat) (ls : Array Slot) (r : List Value) (x : Nat) (lv : List (Nat × Value)), lv_has ls nL lv → i < nL → (∀ ls' : Array Slot, lv_has ls' nL ((i, .ref x) :: lv.filter (fun q => !(q.1 == i) && !(q.1 + 1 == i && q.2.category == 2))) → W p l e R s m args below meth c H locs cells slots Q (F0 m pc' ls' r)) → W p l e R s m args below meth c H locs cells slots Q (F0 m pc ls (.ref x :: r)))
    (h : pv_stA lo i st K = some res) (hk : ∀ lo' st', K lo' st' = some res → pv_Ok base ad cid D cl w0 nL p l e R s m args below meth c Q pc' lo' st' w) : pv_Ok base ad cid D cl w0 nL p l e R s m args below meth c Q pc lo st w := by
  unfold pv_stA at h
  split at h
  · rename_i x r
    cases hb : Nat.blt i lo.length with
    | false => rw [hb] at h; cases h
    | true =>
      rw [hb] at h
      intro H locs ls cells slots a1 a2 a3 a4 a5
      refine row _ _ _ _ _ _ (ad x) _ a3.has (by rw [← a3.1]; exact Nat.le_of_ble_eq_true hb) fun ls' h' => ?_
      exact hk _ _ h H locs ls' cells slots a1 a2 (a3.s1 (v := .ref x) h') a4 a5
  · cases h
theorem pv_s_stJ {i : Nat} {K : pv_L → pv_S → pv_R} (row : ∀ (H : Heap) (locs : List Loc) (cells slots : Nat) (ls : Array Slot) (r : List Value) (x : Int64) (lv : List (Nat × Value)), lv_has ls nL lv → i + 1 < nL → (∀ ls' : Array Slot, lv_has ls' nL ((i, .long x) :: lv.filter (fun q => !(q.1 == i) && (!(q.1 == i + 1) && !(q.1 + 1 == i && q.2.category == 2)))) → W p l e R s m args below meth c H locs cells slots Q (F0 m pc' ls' r)) → W p l e R s m args below meth c H locs cells slots Q (F0 m pc ls (.long x :: r)))
    (h : pv_stJ lo i st K = some res) (hk : ∀ lo' st', K lo' st' = some res → pv_Ok base ad cid D cl w0 nL p l e R s m args below meth c Q pc' lo' st' w) : pv_Ok base ad cid D cl w0 nL p l e R s m args below meth c Q pc lo st w := by
  unfold pv_stJ at h
  split at h
  · rename_i x r
    cases hb : Nat.blt (i + 1) lo.length with
    | false => rw [hb] at h; cases h
    | true =>
      rw [hb] at h
      intro H locs ls cells slots a1 a2 a3 a4 a5
      refine row _ _ _ _ _ _ _ _ a3.has (by rw [← a3.1]; exact Nat.le_of_ble_eq_true hb) fun ls' h' => ?_
      exact hk _ _ h H locs ls' cells slots a1 a2 (a3.s2 (v := .long x) h') a4 a5
  · cases h
end PVF
