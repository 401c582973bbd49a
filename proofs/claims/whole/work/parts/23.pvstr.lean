/-! PV: the texts' two methods against the machine -/
section PVT
variable {b base : Nat} {sa sv : Nat → Nat} {ad : Nat → Nat} {cid : Nat → ClassId} {D : va_G} {L : Nat} {xs : Nat → Int32} {l : Launch} {w : pv_W}
/-- a method's start, arguments as the machine has them -/
def pv_PcR (b base : Nat) (sa sv : Nat → Nat) (ad : Nat → Nat) (D : va_G) (cid : Nat → ClassId) (L : Nat) (xs : Nat → Int32) (av : List Value) (w : pv_W) : Array Value → State → Prop := fun a U => a = av.toArray ∧ pv_HW base ad cid D pv_cl w U.heap ∧ pv_Kn b base sa sv D pv_cl cid L xs pv_NW pv_SK U
theorem pv_PcR_blind {av : List Value} : FrameBlind (pv_PcR b base sa sv ad D cid L xs av w) := fun a U g mk h => ⟨h.1, h.2.1, h.2.2.blind pv_NW_n⟩
theorem pv_goodG {x : Jvm.Cond} (h : x ∈ pv_GW) : GoodIn pv_GW (x :: pv_GW) := fun y hy => by
  rcases List.mem_cons.mp hy with rfl | hy
  · exact ⟨h, good_of_word (pv_GW_good _ h)⟩
  · exact ⟨hy, good_of_word (pv_GW_good _ hy)⟩
theorem pv_met0 {y : MethodName} {bytes : ByteArray} {nL d : Nat} {ret : Option FieldType} {av : List Value} {v : Option Value} (hpl : plainName y.cls = true) (hlay : (lg_sl av).length ≤ nL)
    (body : ∀ (p : Program) (e : Env) (s : State) (m : MethodId) (args : Array Value) (below : List Frame) (meth : Method) (c : Code) (ls : Array Slot), p.tables.exec = Jvm.exec → c.code = bytes → c.maxLocals = nL → s.vm.findClass y.cls = some m.cls → (∀ x ∈ pv_GW, x.before args s = true) → pv_Kn b base sa sv D pv_cl cid L xs pv_NW pv_SK s → pv_HW base ad cid D pv_cl w s.heap → meth.sig.returnType = ret → meth.locks = false → lv_has ls nL (lv_args 0 av) →
      W p l e ({ frames := d, cells := 0, slots := 0, locals := 64 * d } : Room) s m args below meth c s.heap [] 0 0 (MQ below (pv_Qc base ad D pv_cl cid v w) args s 0 0 (fun q : Nat => base ≤ q)) (F0 m 0 ls [])) :
    Met l y (Cond.code y bytes nL ret :: pv_GW) ({ frames := d, cells := 0, slots := 0, locals := 64 * d } : Room) (pv_PcR b base sa sv ad D cid L xs av w) (pv_Qc base ad D pv_cl cid v w) 0 0 (fun q : Nat => base ≤ q) := by
  refine Met.ofW (cc := bytes) (maxL := nL) (ret := ret) hpl rfl ?_
  intro p e s m args below meth c s₁ B hml hv
  obtain ⟨rfl, hHW, hKn⟩ := hv
  have hts := atoms_spec (ws := Cond.code y bytes nL ret :: pv_GW) B.pre
  have hl := lv_entry av hlay
  rw [lg_entry_eq]
  exact body p e s m _ below meth c _ B.exec B.bytes hml (findClass_of_methodNamed B.named) (fun x hx => hts x (List.mem_cons_of_mem _ hx)) hKn hHW B.returns B.notSynchronized hl
theorem pv_use0 {p : Program} {e : Env} {R : Room} {s : State} {m : MethodId} {args : Array Value} {below : List Frame} {meth : Method} {c : Code} {Q : State → Prop} {pc : Nat} {ls : Array Slot} {H : Heap} {locs : List Loc} {v : Option Value} {a : Array Value} {st9 rest : List Value} (hrun : va_Run p l e R s m args below meth c H locs 0 0 0 0 (F0 m pc ls st9) rest (pv_Qc base ad D pv_cl cid v w a) (fun q : Nat => base ≤ q)) (a2 : va_S (fun q : Nat => base ≤ q) s.heap H locs)
    (hk : ∀ (H : Heap) (locs : List Loc), pv_HW base ad cid D pv_cl w H → va_S (fun q : Nat => base ≤ q) s.heap H locs → W p l e R s m args below meth c H locs 0 0 Q (F0 m (pc + 3) ls ((v.map (pv_cv ad)).toList ++ rest))) : W p l e R s m args below meth c H locs 0 0 Q (F0 m pc ls st9) := by
  intro T hT X
  obtain ⟨v1, st₀, t, T', Lc, h0, X', hL, e1, e2, ⟨hv, hHW, hF⟩, gs⟩ := hrun T hT X
  have hv1 : v1 = v.map (pv_cv ad) := by
    cases hv
    rfl
  subst hv1
  have hS : va_S (fun q : Nat => base ≤ q) s.heap t.heap (locs ++ Lc) := by
    have hF1 := hF.1
    rw [h0] at hF1
    refine ⟨Nat.le_trans a2.1 hF1, fun q q1 q2 => ?_, fun q hq => ?_⟩
    · have h5 := hF.2 q (by rw [h0]; exact Nat.lt_of_lt_of_le q1 a2.1) q2
      rw [h5, h0]
      exact a2.2.1 q q1 q2
    · rcases List.mem_append.mp hq with h5 | h5
      · exact a2.2.2 q h5
      · exact hL q h5
  obtain ⟨t2, b1, b2⟩ := hk t.heap (locs ++ Lc) hHW hS T' e1 X'
  exact ⟨t2, gs t2 b1, b2⟩
def yS_coder : MethodName := ⟨"java/lang/String", "coder", "()B"⟩
def yS_isLatin1 : MethodName := ⟨"java/lang/String", "isLatin1", "()Z"⟩
def yS_check : MethodName := ⟨"java/lang/String", "checkIndex", "(II)V"⟩
def yL_char : MethodName := ⟨"java/lang/StringLatin1", "charAt", "([BI)C"⟩
def yP_check : MethodName := ⟨"jdk/internal/util/Preconditions", "checkIndex", "(IILjava/util/function/BiFunction;)I"⟩
theorem m_coder {i : Nat} (hi : i < 10) : Met l yS_coder (Cond.code yS_coder prog_14_method_152_code 1 (some .byte) :: pv_GW) ({ frames := 0, cells := 0, slots := 0, locals := 64 * 0 } : Room) (pv_PcR b base sa sv ad D cid L xs [.ref (sa i)] w) (pv_Qc base ad D pv_cl cid (some (.int 0)) w) 0 0 (fun q : Nat => base ≤ q) := by
  refine pv_met0 (by decide +kernel) (Nat.le_of_ble_eq_true rfl) ?_
  intro p e s m args below meth c ls hx hb hml hown hgw hKn hHW hr hlk hl
  obtain ⟨h1, h2, h3, h4, h5, h6, h7, h8, t, hv9, hZ1, hZ2⟩ := hKn
  obtain ⟨hO, hC, hV, hT⟩ := h6.1 i hi
  have hS : va_S (fun q : Nat => base ≤ q) s.heap s.heap [] := va_S.rf
  refine va_gets hx hb hZ1 hS hown (hgw _ (pv_gw (n := 667) (by decide +kernel) rfl)) (fun _ h => h) (by decide +kernel : decode prog_14_method_152_code 0 = .ok (.getstatic 38, 3)) ?_
  refine lv_if_eq hx hb (by decide +kernel : decode prog_14_method_152_code 3 = .ok (.ifCond .eq 10, 3)) (tgt := 13) rfl (fun h => absurd h (by decide)) (fun _ => ?_)
  refine lv_aload_n hx hb (by decide +kernel : decode prog_14_method_152_code 6 = .ok (.aload_n 0, 1)) rfl (lv_at hl 0 rfl) ?_
  refine vk_getf hx hb hC hS hown (hgw _ (pv_gw (n := 1303) (by decide +kernel) rfl)) (fun _ h => h) (by decide +kernel : decode prog_14_method_152_code 7 = .ok (.getfield 15, 3)) ?_
  refine lv_goto hx hb (by decide +kernel : decode prog_14_method_152_code 10 = .ok (.goto 4, 3)) (tgt := 14) rfl ?_
  exact W.zret (v := 0) hx hb hr rfl (fun t ht hW => ⟨rfl, by rw [ht]; exact hHW, hS.F ht⟩) hS.2.2 (by decide +kernel : decode prog_14_method_152_code 14 = .ok (.ireturn, 1)) hlk
theorem m_isLatin1 {i : Nat} (hi : i < 10) : Met l yS_isLatin1 (Cond.code yS_isLatin1 prog_14_method_154_code 1 (some .boolean) :: pv_GW) ({ frames := 0, cells := 0, slots := 0, locals := 64 * 0 } : Room) (pv_PcR b base sa sv ad D cid L xs [.ref (sa i)] w) (pv_Qc base ad D pv_cl cid (some (.int 1)) w) 0 0 (fun q : Nat => base ≤ q) := by
  refine pv_met0 (by decide +kernel) (Nat.le_of_ble_eq_true rfl) ?_
  intro p e s m args below meth c ls hx hb hml hown hgw hKn hHW hr hlk hl
  obtain ⟨h1, h2, h3, h4, h5, h6, h7, h8, t, hv9, hZ1, hZ2⟩ := hKn
  obtain ⟨hO, hC, hV, hT⟩ := h6.1 i hi
  have hS : va_S (fun q : Nat => base ≤ q) s.heap s.heap [] := va_S.rf
  refine va_gets hx hb hZ1 hS hown (hgw _ (pv_gw (n := 667) (by decide +kernel) rfl)) (fun _ h => h) (by decide +kernel : decode prog_14_method_154_code 0 = .ok (.getstatic 38, 3)) ?_
  refine lv_if_eq hx hb (by decide +kernel : decode prog_14_method_154_code 3 = .ok (.ifCond .eq 14, 3)) (tgt := 17) rfl (fun h => absurd h (by decide)) (fun _ => ?_)
  refine lv_aload_n hx hb (by decide +kernel : decode prog_14_method_154_code 6 = .ok (.aload_n 0, 1)) rfl (lv_at hl 0 rfl) ?_
  refine vk_getf hx hb hC hS hown (hgw _ (pv_gw (n := 1303) (by decide +kernel) rfl)) (fun _ h => h) (by decide +kernel : decode prog_14_method_154_code 7 = .ok (.getfield 15, 3)) ?_
  refine lv_if_ne hx hb (by decide +kernel : decode prog_14_method_154_code 10 = .ok (.ifCond .ne 7, 3)) (tgt := 17) rfl (fun h => absurd rfl h) (fun _ => ?_)
  refine lv_iconst hx hb (by decide +kernel : decode prog_14_method_154_code 13 = .ok (.iconst 1, 1)) (v := 1) rfl ?_
  refine lv_goto hx hb (by decide +kernel : decode prog_14_method_154_code 14 = .ok (.goto 4, 3)) (tgt := 18) rfl ?_
  exact W.zret (v := 1) hx hb hr rfl (fun t ht hW => ⟨rfl, by rw [ht]; exact hHW, hS.F ht⟩) hS.2.2 (by decide +kernel : decode prog_14_method_154_code 18 = .ok (.ireturn, 1)) hlk
theorem m_pcheck {j n : Int32} {t : Value} (hv9 : t.category = 1) (h0 : ¬ j < 0) (h1 : j < n) : Met l yP_check (Cond.code yP_check prog_17_method_11_code 3 (some .int) :: pv_GW) ({ frames := 0, cells := 0, slots := 0, locals := 64 * 0 } : Room) (pv_PcR b base sa sv ad D cid L xs [.int j, .int n, t] w) (pv_Qc base ad D pv_cl cid (some (.int j)) w) 0 0 (fun q : Nat => base ≤ q) := by
  refine pv_met0 (by decide +kernel) (by cases t <;> simp_all [lg_sl, Value.category]) ?_
  intro p e s m args below meth c ls hx hb hml hown hgw hKn hHW hr hlk hl
  have hS : va_S (fun q : Nat => base ≤ q) s.heap s.heap [] := va_S.rf
  refine lv_iload_n hx hb (by decide +kernel : decode prog_17_method_11_code 0 = .ok (.iload_n 0, 1)) rfl (lv_at hl 0 rfl) ?_
  refine lv_if_lt hx hb (by decide +kernel : decode prog_17_method_11_code 1 = .ok (.ifCond .lt 8, 3)) (tgt := 9) rfl (fun h => absurd h h0) (fun _ => ?_)
  refine lv_iload_n hx hb (by decide +kernel : decode prog_17_method_11_code 4 = .ok (.iload_n 0, 1)) rfl (lv_at hl 0 rfl) ?_
  refine lv_iload_n hx hb (by decide +kernel : decode prog_17_method_11_code 5 = .ok (.iload_n 1, 1)) rfl (lv_at hl 1 rfl) ?_
  refine lv_icmp_lt hx hb (by decide +kernel : decode prog_17_method_11_code 6 = .ok (.if_icmp .lt 10, 3)) (tgt := 16) rfl (fun _ => ?_) (fun h => absurd h1 h)
  refine lv_iload_n hx hb (by decide +kernel : decode prog_17_method_11_code 16 = .ok (.iload_n 0, 1)) rfl (lv_at hl 0 rfl) ?_
  exact W.iret (v := j) hx hb hr (fun t ht hW => ⟨rfl, by rw [ht]; exact hHW, hS.F ht⟩) hS.2.2 (by decide +kernel : decode prog_17_method_11_code 17 = .ok (.ireturn, 1)) hlk
theorem pv_hkw {s : State} {H : Heap} {locs : List Loc} (hKn : pv_Kn b base sa sv D pv_cl cid L xs pv_NW pv_SK s) (a2 : va_S (fun q : Nat => base ≤ q) s.heap H locs) : ∀ U : State, U.heap = H → s.WarmedH U.vm → pv_Kn b base sa sv D pv_cl cid L xs pv_NW pv_SK U := pv_pre (fun U h1 h2 h3 => hKn.warm pv_NW_n h1 h2 h3) a2
theorem m_scheck {j n : Int32} (h0 : ¬ j < 0) (h1 : j < n) : Met l yS_check (Cond.code yS_check prog_14_method_155_code 2 none :: pv_GW) ({ frames := 1, cells := 0, slots := 0, locals := 64 * 1 } : Room) (pv_PcR b base sa sv ad D cid L xs [.int j, .int n] w) (pv_Qc base ad D pv_cl cid none w) 0 0 (fun q : Nat => base ≤ q) := by
  refine pv_met0 (by decide +kernel) (Nat.le_of_ble_eq_true rfl) ?_
  intro p e s m args below meth c ls hx hb hml hown hgw hKn hHW hr hlk hl
  have hKn0 := hKn
  obtain ⟨-, -, -, -, -, -, -, -, t, hv9, hZ1, hZ2⟩ := hKn
  have hS : va_S (fun q : Nat => base ≤ q) s.heap s.heap [] := va_S.rf
  refine lv_iload_n hx hb (by decide +kernel : decode prog_14_method_155_code 0 = .ok (.iload_n 0, 1)) rfl (lv_at hl 0 rfl) ?_
  refine lv_iload_n hx hb (by decide +kernel : decode prog_14_method_155_code 1 = .ok (.iload_n 1, 1)) rfl (lv_at hl 1 rfl) ?_
  refine va_gets hx hb hZ2 hS hown (hgw _ (pv_gw (n := 683) (by decide +kernel) rfl)) (fun _ h => h) (by decide +kernel : decode prog_14_method_155_code 2 = .ok (.getstatic 1053, 3)) ?_
  refine pv_use0 (v := some (.int j)) (rest := []) (va_runS (As := [.int j, .int n, t]) (rest := []) ⟨hx, hb, hml, hown, hgw⟩ (m_pcheck (b := b) (sa := sa) (sv := sv) (L := L) (xs := xs) hv9 h0 h1) ⟨callB_of 3 hgw (pv_goodG (pv_gw (n := 687) (by decide +kernel) rfl)) rfl rfl rfl (hgw _ (pv_gw (n := 15) (by decide +kernel) rfl)) (hgw _ (pv_gw (n := 685) (by decide +kernel) rfl)) (by decide +kernel) ⟨Nat.le_of_ble_eq_true rfl, Nat.le_of_ble_eq_true rfl⟩, hgw _ (pv_gw (n := 686) (by decide +kernel) rfl)⟩ ⟨pv_PcR_blind, fun U hU hW => ⟨rfl, by rw [hU]; exact hHW, pv_hkw hKn0 hS U hU hW⟩⟩ rfl rfl hl.1 rfl (Nat.le_of_ble_eq_true rfl) (by decide +kernel : decode prog_14_method_155_code 5 = .ok (.invokestatic 1059, 3)) ⟨Nat.le_refl _, Nat.le_refl _⟩) hS fun H locs hHW1 hS1 => ?_
  refine lv_pop hx hb (by decide +kernel : decode prog_14_method_155_code 8 = .ok (.pop, 1)) rfl ?_
  exact W.vret hx hb hr (fun t ht hW => ⟨rfl, by rw [ht]; exact hHW1, hS1.F ht⟩) hS1.2.2 (by decide +kernel : decode prog_14_method_155_code 9 = .ok (.return_, 1)) hlk
theorem pv_chr : ∀ i, i < 10 → ∀ k, k < (pv_txt i).length → ((((pv_byt.getD i []).getD k 0) &&& (Int16.ofInt 255).toInt32).toUInt32 % 65536).toInt32 = (pv_txt i).getD k 0 ∧ narrow .char (.int ((pv_txt i).getD k 0)) = .int ((pv_txt i).getD k 0) := by decide +kernel
theorem pv_lens : ∀ i, i < 10 → pv_len.getD i 0 = (pv_txt i).length ∧ Int32.ofNat (pv_len.getD i 0) >>> ((0 : Int32) &&& 31) = Int32.ofNat (pv_txt i).length ∧ (pv_txt i).length < 100 := by decide +kernel
theorem m_lchar {i : Nat} {j : Int32} (hi : i < 10) (hj : vp_in j (pv_txt i).length) : Met l yL_char (Cond.code yL_char prog_15_method_2_code 2 (some .char) :: pv_GW) ({ frames := 2, cells := 0, slots := 0, locals := 64 * 2 } : Room) (pv_PcR b base sa sv ad D cid L xs [.ref (sv i), .int j] w) (pv_Qc base ad D pv_cl cid (some (.int ((pv_txt i).getD j.toNatClampNeg 0))) w) 0 0 (fun q : Nat => base ≤ q) := by
  obtain ⟨e1, e2, e3⟩ := pv_lens i hi
  have hlt : j.toNatClampNeg < (pv_txt i).length := Nat.not_le.mp fun q => hj (Or.inr q)
  obtain ⟨c1, c2⟩ := pv_chr i hi _ hlt
  have h0 : ¬ j < 0 := fun q => hj (Or.inl q)
  have h1 : j < Int32.ofNat (pv_len.getD i 0) := by
    rw [e1]
    have g0 : (0 : Int) ≤ j.toInt := by
      have := Int32.not_lt.mp h0
      simpa [Int32.le_iff_toInt_le] using this
    rw [Int32.lt_iff_toInt_lt, Int32.toInt_ofNat_of_lt (by omega)]
    have g1 : j.toNatClampNeg = j.toInt.toNat := rfl
    omega
  refine pv_met0 (by decide +kernel) (Nat.le_of_ble_eq_true rfl) ?_
  intro p e s m args below meth c ls hx hb hml hown hgw hKn hHW hr hlk hl
  have hKn0 := hKn
  obtain ⟨-, -, -, -, -, h6, -⟩ := hKn
  obtain ⟨hO, hC, hV, hT⟩ := h6.1 i hi
  have hS : va_S (fun q : Nat => base ≤ q) s.heap s.heap [] := va_S.rf
  refine lv_iload_n hx hb (by decide +kernel : decode prog_15_method_2_code 0 = .ok (.iload_n 1, 1)) rfl (lv_at hl 1 rfl) ?_
  refine lv_aload_n hx hb (by decide +kernel : decode prog_15_method_2_code 1 = .ok (.aload_n 0, 1)) rfl (lv_at hl 0 rfl) ?_
  refine va_tlen hx hb hT hS rfl (by decide +kernel : decode prog_15_method_2_code 2 = .ok (.arraylength, 1)) ?_
  refine pv_use0 (v := none) (rest := []) (va_runS (As := [.int j, .int (Int32.ofNat (pv_len.getD i 0))]) (rest := []) ⟨hx, hb, hml, hown, hgw⟩ (m_scheck (b := b) (sa := sa) (sv := sv) (L := L) (xs := xs) h0 h1) ⟨callB_of 2 hgw (pv_goodG (pv_gw (n := 682) (by decide +kernel) rfl)) rfl rfl rfl (hgw _ (pv_gw (n := 13) (by decide +kernel) rfl)) (hgw _ (pv_gw (n := 680) (by decide +kernel) rfl)) (by decide +kernel) ⟨Nat.le_of_ble_eq_true rfl, Nat.le_of_ble_eq_true rfl⟩, hgw _ (pv_gw (n := 681) (by decide +kernel) rfl)⟩ ⟨pv_PcR_blind, fun U hU hW => ⟨rfl, by rw [hU]; exact hHW, pv_hkw hKn0 hS U hU hW⟩⟩ rfl rfl hl.1 rfl (Nat.le_of_ble_eq_true rfl) (by decide +kernel : decode prog_15_method_2_code 3 = .ok (.invokestatic 9, 3)) ⟨Nat.le_refl _, Nat.le_refl _⟩) hS fun H locs hHW1 hS1 => ?_
  refine lv_aload_n hx hb (by decide +kernel : decode prog_15_method_2_code 6 = .ok (.aload_n 0, 1)) rfl (lv_at hl 0 rfl) ?_
  refine lv_iload_n hx hb (by decide +kernel : decode prog_15_method_2_code 7 = .ok (.iload_n 1, 1)) rfl (lv_at hl 1 rfl) ?_
  refine va_tb hx hb hT hS1 (by rw [e1]; exact hj) rfl (by decide +kernel : decode prog_15_method_2_code 8 = .ok (.baload, 1)) ?_
  refine lv_sipush hx hb (by decide +kernel : decode prog_15_method_2_code 9 = .ok (.sipush 255, 3)) rfl ?_
  refine lv_iand hx hb (by decide +kernel : decode prog_15_method_2_code 12 = .ok (.iand, 1)) ?_
  refine lv_i2c hx hb (by decide +kernel : decode prog_15_method_2_code 13 = .ok (.i2c, 1)) c1 ?_
  exact W.zret (v := (pv_txt i).getD j.toNatClampNeg 0) hx hb hr c2 (fun t ht hW => ⟨rfl, by rw [ht]; exact hHW1, hS1.F ht⟩) hS1.2.2 (by decide +kernel : decode prog_15_method_2_code 14 = .ok (.ireturn, 1)) hlk
theorem m_length {i : Nat} (hi : i < 10) : Met l pv_yLen (Cond.code pv_yLen prog_14_method_54_code 1 (some .int) :: pv_GW) ({ frames := 3, cells := 0, slots := 0, locals := 64 * 3 } : Room) (pv_PcR b base sa sv ad D cid L xs [.ref (sa i)] w) (pv_Qc base ad D pv_cl cid (some (.int (Int32.ofNat (pv_txt i).length))) w) 0 0 (fun q : Nat => base ≤ q) := by
  obtain ⟨e1, e2, e3⟩ := pv_lens i hi
  refine pv_met0 (by decide +kernel) (Nat.le_of_ble_eq_true rfl) ?_
  intro p e s m args below meth c ls hx hb hml hown hgw hKn hHW hr hlk hl
  have hKn0 := hKn
  obtain ⟨-, -, -, -, -, h6, -⟩ := hKn
  obtain ⟨hO, hC, hV, hT⟩ := h6.1 i hi
  have hS : va_S (fun q : Nat => base ≤ q) s.heap s.heap [] := va_S.rf
  refine lv_aload_n hx hb (by decide +kernel : decode prog_14_method_54_code 0 = .ok (.aload_n 0, 1)) rfl (lv_at hl 0 rfl) ?_
  refine vk_getf hx hb hV hS hown (hgw _ (pv_gw (n := 1302) (by decide +kernel) rfl)) (fun _ h => h) (by decide +kernel : decode prog_14_method_54_code 1 = .ok (.getfield 9, 3)) ?_
  refine va_tlen hx hb hT hS rfl (by decide +kernel : decode prog_14_method_54_code 4 = .ok (.arraylength, 1)) ?_
  refine lv_aload_n hx hb (by decide +kernel : decode prog_14_method_54_code 5 = .ok (.aload_n 0, 1)) rfl (lv_at hl 0 rfl) ?_
  refine pv_use0 (v := some (.int 0)) (va_runV (C := "java/lang/String") (b := sa i) (As := []) (rest := [.int (Int32.ofNat (pv_len.getD i 0))]) (n := 0) ⟨hx, hb, hml, hown, hgw⟩ (m_coder (b := b) (sa := sa) (sv := sv) (L := L) (xs := xs) hi) ⟨callB_of 0 hgw (pv_goodG (pv_gw (n := 666) (by decide +kernel) rfl)) rfl rfl rfl (hgw _ (pv_gw (n := 13) (by decide +kernel) rfl)) (hgw _ (pv_gw (n := 663) (by decide +kernel) rfl)) (by decide +kernel) ⟨Nat.le_of_ble_eq_true rfl, Nat.le_of_ble_eq_true rfl⟩, hgw _ (pv_gw (n := 664) (by decide +kernel) rfl), hgw _ (pv_gw (n := 665) (by decide +kernel) rfl)⟩ ⟨pv_PcR_blind, vk_recv h6 hi hS, fun U hU hW => ⟨rfl, by rw [hU]; exact hHW, pv_hkw hKn0 hS U hU hW⟩⟩ rfl rfl hl.1 rfl (Nat.le_of_ble_eq_true rfl) (by decide +kernel : decode prog_14_method_54_code 6 = .ok (.invokevirtual 335, 3)) ⟨Nat.le_refl _, Nat.le_refl _⟩) hS fun H locs hHW1 hS1 => ?_
  refine lv_ishr hx hb (by decide +kernel : decode prog_14_method_54_code 9 = .ok (.ishr, 1)) ?_
  rw [e2]
  exact W.iret hx hb hr (fun t ht hW => ⟨rfl, by rw [ht]; exact hHW1, hS1.F ht⟩) hS1.2.2 (by decide +kernel : decode prog_14_method_54_code 10 = .ok (.ireturn, 1)) hlk
theorem m_charAt {i : Nat} {j : Int32} (hi : i < 10) (hj : vp_in j (pv_txt i).length) : Met l pv_yChar (Cond.code pv_yChar prog_14_method_56_code 2 (some .char) :: pv_GW) ({ frames := 3, cells := 0, slots := 0, locals := 64 * 3 } : Room) (pv_PcR b base sa sv ad D cid L xs [.ref (sa i), .int j] w) (pv_Qc base ad D pv_cl cid (some (.int ((pv_txt i).getD j.toNatClampNeg 0))) w) 0 0 (fun q : Nat => base ≤ q) := by
  have hlt : j.toNatClampNeg < (pv_txt i).length := Nat.not_le.mp fun q => hj (Or.inr q)
  obtain ⟨c1, c2⟩ := pv_chr i hi _ hlt
  refine pv_met0 (by decide +kernel) (Nat.le_of_ble_eq_true rfl) ?_
  intro p e s m args below meth c ls hx hb hml hown hgw hKn hHW hr hlk hl
  have hKn0 := hKn
  obtain ⟨-, -, -, -, -, h6, -⟩ := hKn
  obtain ⟨hO, hC, hV, hT⟩ := h6.1 i hi
  have hS : va_S (fun q : Nat => base ≤ q) s.heap s.heap [] := va_S.rf
  refine lv_aload_n hx hb (by decide +kernel : decode prog_14_method_56_code 0 = .ok (.aload_n 0, 1)) rfl (lv_at hl 0 rfl) ?_
  refine pv_use0 (v := some (.int 1)) (va_runV (C := "java/lang/String") (b := sa i) (As := []) (rest := []) (n := 0) ⟨hx, hb, hml, hown, hgw⟩ (m_isLatin1 (b := b) (sa := sa) (sv := sv) (L := L) (xs := xs) hi) ⟨callB_of 0 hgw (pv_goodG (pv_gw (n := 676) (by decide +kernel) rfl)) rfl rfl rfl (hgw _ (pv_gw (n := 13) (by decide +kernel) rfl)) (hgw _ (pv_gw (n := 673) (by decide +kernel) rfl)) (by decide +kernel) ⟨Nat.le_of_ble_eq_true rfl, Nat.le_of_ble_eq_true rfl⟩, hgw _ (pv_gw (n := 674) (by decide +kernel) rfl), hgw _ (pv_gw (n := 675) (by decide +kernel) rfl)⟩ ⟨pv_PcR_blind, vk_recv h6 hi hS, fun U hU hW => ⟨rfl, by rw [hU]; exact hHW, pv_hkw hKn0 hS U hU hW⟩⟩ rfl rfl hl.1 rfl (Nat.le_of_ble_eq_true rfl) (by decide +kernel : decode prog_14_method_56_code 1 = .ok (.invokevirtual 492, 3)) ⟨Nat.le_refl _, Nat.le_refl _⟩) hS fun H locs hHW1 hS1 => ?_
  refine lv_if_eq hx hb (by decide +kernel : decode prog_14_method_56_code 4 = .ok (.ifCond .eq 12, 3)) (tgt := 16) rfl (fun h => absurd h (by decide)) (fun _ => ?_)
  refine lv_aload_n hx hb (by decide +kernel : decode prog_14_method_56_code 7 = .ok (.aload_n 0, 1)) rfl (lv_at hl 0 rfl) ?_
  refine vk_getf hx hb hV hS1 hown (hgw _ (pv_gw (n := 1302) (by decide +kernel) rfl)) (fun _ h => h) (by decide +kernel : decode prog_14_method_56_code 8 = .ok (.getfield 9, 3)) ?_
  refine lv_iload_n hx hb (by decide +kernel : decode prog_14_method_56_code 11 = .ok (.iload_n 1, 1)) rfl (lv_at hl 1 rfl) ?_
  refine pv_use0 (v := some (.int ((pv_txt i).getD j.toNatClampNeg 0))) (rest := []) (va_runS (As := [.ref (sv i), .int j]) (rest := []) ⟨hx, hb, hml, hown, hgw⟩ (m_lchar (b := b) (sa := sa) (sv := sv) (L := L) (xs := xs) hi hj) ⟨callB_of 2 hgw (pv_goodG (pv_gw (n := 679) (by decide +kernel) rfl)) rfl rfl rfl (hgw _ (pv_gw (n := 14) (by decide +kernel) rfl)) (hgw _ (pv_gw (n := 677) (by decide +kernel) rfl)) (by decide +kernel) ⟨Nat.le_of_ble_eq_true rfl, Nat.le_of_ble_eq_true rfl⟩, hgw _ (pv_gw (n := 678) (by decide +kernel) rfl)⟩ ⟨pv_PcR_blind, fun U hU hW => ⟨rfl, by rw [hU]; exact hHW1, pv_hkw hKn0 hS1 U hU hW⟩⟩ rfl rfl hl.1 rfl (Nat.le_of_ble_eq_true rfl) (by decide +kernel : decode prog_14_method_56_code 12 = .ok (.invokestatic 495, 3)) ⟨Nat.le_refl _, Nat.le_refl _⟩) hS1 fun H2 locs2 hHW2 hS2 => ?_
  exact W.zret (v := (pv_txt i).getD j.toNatClampNeg 0) hx hb hr c2 (fun t ht hW => ⟨rfl, by rw [ht]; exact hHW2, hS2.F ht⟩) hS2.2.2 (by decide +kernel : decode prog_14_method_56_code 15 = .ok (.ireturn, 1)) hlk
theorem pv_HS_ok {X : pv_X} (hL : X.2.2.2.1 = L) (hx : X.2.2.2.2 = xs) (hadS : ∀ i : Nat, i < 10 → ad (1000000 + i) = sa i) : pv_HS b base sa sv ad D pv_cl cid pv_NW pv_SK pv_GW X l := by
  subst hL
  subst hx
  refine ⟨prog_14_method_54_code, prog_14_method_56_code, 1, 2, some .int, some .char, by decide, by decide, pv_gw (n := 662) (by decide +kernel) rfl, pv_gw (n := 672) (by decide +kernel) rfl, pv_gw (n := 13) (by decide +kernel) rfl, ⟨pv_gw (n := 660) (by decide +kernel) rfl, pv_gw (n := 661) (by decide +kernel) rfl⟩, ⟨pv_gw (n := 670) (by decide +kernel) rfl, pv_gw (n := 671) (by decide +kernel) rfl⟩, fun i w hi => ?_, fun i j w hi hj => ?_⟩
  · have h := m_length (l := l) (b := b) (base := base) (sa := sa) (sv := sv) (ad := ad) (cid := cid) (D := D) (L := X.2.2.2.1) (xs := X.2.2.2.2) (w := w) hi
    rw [← hadS i hi] at h
    exact h
  · have h := m_charAt (l := l) (b := b) (base := base) (sa := sa) (sv := sv) (ad := ad) (cid := cid) (D := D) (L := X.2.2.2.1) (xs := X.2.2.2.2) (w := w) hi hj
    rw [← hadS i hi] at h
    exact h
end PVT
