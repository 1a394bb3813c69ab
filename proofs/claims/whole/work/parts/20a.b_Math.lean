def bt_Math_min : BtT := [(0, [0, 1], true, [(0, .iload_n 0, 1, 0, 0, 0, m0),
   (1, .iload_n 1, 1, 0, 0, 0, m0),
   (2, .if_icmp .gt 7, 3, 9, 0, 0, m0),
   (5, .nop, 0, 0, 0, 0, m0)]),
  (5, [], false, [(5, .iload_n 0, 1, 0, 0, 0, m0),
   (6, .goto 4, 3, 10, 0, 0, m0)]),
  (9, [], false, [(9, .iload_n 1, 1, 0, 0, 0, m0),
   (10, .nop, 0, 0, 0, 0, m0)]),
  (10, [], false, [(10, .ireturn, 1, 0, 0, 0, m0)])]
theorem ok_Math_min : okBt m_Math_min bt_Math_min = true := by decide +kernel
set_option maxRecDepth 100000 in
theorem b_Math_min_0 {l : Launch} {E : EnvT} {d : Nat} {K : AV → Mem → Prop} {M : Mem} {x0 : Int32} {x1 : Int32} (hd : 1 ≤ d)
  (h : ((x1 < x0 →
   K (.int x1, 0) M) ∧
  (¬ x1 < x0 →
   K (.int x0, 0) M))) :
  G l E d m_Math_min 0 [(0, (.int x0, 0)), (1, (.int x1, 0))] [] M K := G.blk 60 _ hd ok_Math_min rfl h
def bt_Math_max : BtT := [(0, [0, 1], true, [(0, .iload_n 0, 1, 0, 0, 0, m0),
   (1, .iload_n 1, 1, 0, 0, 0, m0),
   (2, .if_icmp .lt 7, 3, 9, 0, 0, m0),
   (5, .nop, 0, 0, 0, 0, m0)]),
  (5, [], false, [(5, .iload_n 0, 1, 0, 0, 0, m0),
   (6, .goto 4, 3, 10, 0, 0, m0)]),
  (9, [], false, [(9, .iload_n 1, 1, 0, 0, 0, m0),
   (10, .nop, 0, 0, 0, 0, m0)]),
  (10, [], false, [(10, .ireturn, 1, 0, 0, 0, m0)])]
theorem ok_Math_max : okBt m_Math_max bt_Math_max = true := by decide +kernel
set_option maxRecDepth 100000 in
theorem b_Math_max_0 {l : Launch} {E : EnvT} {d : Nat} {K : AV → Mem → Prop} {M : Mem} {x0 : Int32} {x1 : Int32} (hd : 1 ≤ d)
  (h : ((x0 < x1 →
   K (.int x1, 0) M) ∧
  (¬ x0 < x1 →
   K (.int x0, 0) M))) :
  G l E d m_Math_max 0 [(0, (.int x0, 0)), (1, (.int x1, 0))] [] M K := G.blk 60 _ hd ok_Math_max rfl h
