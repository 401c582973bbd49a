def pv_X0 (L : Nat) (xs : Nat → Int32) : pv_X := (pv_CD, pv_MI, pv_FD, L, xs)
theorem t1 : (fun (G : pv_G) (L : Nat) (xs : Nat → Int32) (d : Nat) (w : pv_W) (v a b : Int64) => pv_blk (pv_X0 L xs) G (fun _ _ => false) 20 d 126 0 [some (.long v), none, some (.long a), none, some (.long b), none] [] w) = (fun G L xs d w v a b => if lg_cmp v a < 0 then some (some (.int 0), w) else if 0 < lg_cmp v b then some (some (.int 0), w) else some (some (.int 1), w)) := by rfl
theorem t2 (L : Nat) (xs : Nat → Int32) (d : Nat) (w : pv_W) (v a b : Int64) : RR (pv_X0 L xs) d 126 0 [some (.long v), none, some (.long a), none, some (.long b), none] [] w = if lg_cmp v a < 0 then some (some (.int 0), w) else if 0 < lg_cmp v b then some (some (.int 0), w) else some (some (.int 1), w) := by
  rw [← pv_blk_eq (pv_X0 L xs) (fun _ _ => false) 20]
  exact congrFun (congrFun (congrFun (congrFun (congrFun (congrFun (congrFun (congrFun t1 (RR (pv_X0 L xs))) L) xs) d) w) v) a) b
