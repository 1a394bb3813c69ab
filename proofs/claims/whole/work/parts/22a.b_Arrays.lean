def bt_Arrays_fill0 : BtT := [(0, [0, 1], true, [(0, .iconst 0, 1, 0, 0, 0, m0),
   (1, .istore_n 3, 1, 0, 0, 0, m0),
   (2, .aload_n 0, 1, 0, 0, 0, m0),
   (3, .arraylength, 1, 0, 0, 0, m0),
   (4, .istore 4, 2, 0, 0, 0, m0),
   (6, .nop, 0, 0, 0, 0, m0)]),
  (6, [0, 1, 3, 4], true, [(6, .iload_n 3, 1, 0, 0, 0, m0),
   (7, .iload 4, 2, 0, 0, 0, m0),
   (9, .if_icmp .ge 13, 3, 22, 0, 0, m0),
   (12, .nop, 0, 0, 0, 0, m0)]),
  (12, [], false, [(12, .aload_n 0, 1, 0, 0, 0, m0),
   (13, .iload_n 3, 1, 0, 0, 0, m0),
   (14, .lload_n 1, 1, 0, 0, 0, m0),
   (15, .lastore, 1, 0, 0, 0, m0),
   (16, .iinc 3 1, 3, 0, 0, 0, m0),
   (19, .goto (-13), 3, 6, 0, 0, m0)]),
  (22, [], false, [(22, .return_, 1, 0, 0, 0, m0)])]
theorem ok_Arrays_fill0 : okBt m_Arrays_fill0 bt_Arrays_fill0 = true := by decide +kernel
set_option maxRecDepth 100000 in
theorem b_Arrays_fill0_cells_0 {l : Launch} {E : EnvT} {d : Nat} {K : AV → Mem → Prop} {M : Mem} {r2 : Nat} {x1 : Int64} (hd : 1 ≤ d)
  (h : G l E d m_Arrays_fill0 6 [(0, (.ref r2, 40)), (1, (.long x1, 0)), (3, (.int (iN 0), 0)), (4, (.int (iN 60), 0))] [] M K) :
  G l E d m_Arrays_fill0 0 [(0, (.ref r2, 40)), (1, (.long x1, 0))] [] M K := G.blk 60 _ hd ok_Arrays_fill0 rfl h
set_option maxRecDepth 100000 in
theorem b_Arrays_fill0_cells_6 {l : Launch} {E : EnvT} {d : Nat} {K : AV → Mem → Prop} {M : Mem} {r2 : Nat} {x1 : Int64} {x3 : Int32} {x4 : Int32} (hd : 1 ≤ d)
  (h : ((x4 ≤ x3 →
   K (.null, 0) M) ∧
  (¬ x4 ≤ x3 →
   (vp_in x3 60 ∧ G l E d m_Arrays_fill0 6 [(0, (.ref r2, 40)), (1, (.long x1, 0)), (3, (.int (x3 + iN 1), 0)), (4, (.int x4, 0))] [] (upd3 M r2 1 (x3).toNatClampNeg (x1).toInt) K)))) :
  G l E d m_Arrays_fill0 6 [(0, (.ref r2, 40)), (1, (.long x1, 0)), (3, (.int x3, 0)), (4, (.int x4, 0))] [] M K := G.blk 60 _ hd ok_Arrays_fill0 rfl h
def bt_Arrays_fill1 : BtT := [(0, [0, 1], true, [(0, .iconst 0, 1, 0, 0, 0, m0),
   (1, .istore_n 2, 1, 0, 0, 0, m0),
   (2, .aload_n 0, 1, 0, 0, 0, m0),
   (3, .arraylength, 1, 0, 0, 0, m0),
   (4, .istore_n 3, 1, 0, 0, 0, m0),
   (5, .nop, 0, 0, 0, 0, m0)]),
  (5, [0, 1, 2, 3], true, [(5, .iload_n 2, 1, 0, 0, 0, m0),
   (6, .iload_n 3, 1, 0, 0, 0, m0),
   (7, .if_icmp .ge 13, 3, 20, 0, 0, m0),
   (10, .nop, 0, 0, 0, 0, m0)]),
  (10, [], false, [(10, .aload_n 0, 1, 0, 0, 0, m0),
   (11, .iload_n 2, 1, 0, 0, 0, m0),
   (12, .iload_n 1, 1, 0, 0, 0, m0),
   (13, .iastore, 1, 0, 0, 0, m0),
   (14, .iinc 2 1, 3, 0, 0, 0, m0),
   (17, .goto (-12), 3, 5, 0, 0, m0)]),
  (20, [], false, [(20, .return_, 1, 0, 0, 0, m0)])]
theorem ok_Arrays_fill1 : okBt m_Arrays_fill1 bt_Arrays_fill1 = true := by decide +kernel
set_option maxRecDepth 100000 in
theorem b_Arrays_fill1_holders_0 {l : Launch} {E : EnvT} {d : Nat} {K : AV → Mem → Prop} {M : Mem} {r2 : Nat} {x1 : Int32} (hd : 1 ≤ d)
  (h : G l E d m_Arrays_fill1 5 [(0, (.ref r2, 17)), (1, (.int x1, 0)), (2, (.int (iN 0), 0)), (3, (.int (iN 48), 0))] [] M K) :
  G l E d m_Arrays_fill1 0 [(0, (.ref r2, 17)), (1, (.int x1, 0))] [] M K := G.blk 60 _ hd ok_Arrays_fill1 rfl h
set_option maxRecDepth 100000 in
theorem b_Arrays_fill1_holders_5 {l : Launch} {E : EnvT} {d : Nat} {K : AV → Mem → Prop} {M : Mem} {r2 : Nat} {x1 : Int32} {x2 : Int32} {x3 : Int32} (hd : 1 ≤ d)
  (h : ((x3 ≤ x2 →
   K (.null, 0) M) ∧
  (¬ x3 ≤ x2 →
   (vp_in x2 48 ∧ G l E d m_Arrays_fill1 5 [(0, (.ref r2, 17)), (1, (.int x1, 0)), (2, (.int (x2 + iN 1), 0)), (3, (.int x3, 0))] [] (upd3 M r2 6 (x2).toNatClampNeg (x1).toInt) K)))) :
  G l E d m_Arrays_fill1 5 [(0, (.ref r2, 17)), (1, (.int x1, 0)), (2, (.int x2, 0)), (3, (.int x3, 0))] [] M K := G.blk 60 _ hd ok_Arrays_fill1 rfl h
set_option maxRecDepth 100000 in
theorem b_Arrays_fill1_debts_0 {l : Launch} {E : EnvT} {d : Nat} {K : AV → Mem → Prop} {M : Mem} {r2 : Nat} {x1 : Int32} (hd : 1 ≤ d)
  (h : G l E d m_Arrays_fill1 5 [(0, (.ref r2, 18)), (1, (.int x1, 0)), (2, (.int (iN 0), 0)), (3, (.int (iN 48), 0))] [] M K) :
  G l E d m_Arrays_fill1 0 [(0, (.ref r2, 18)), (1, (.int x1, 0))] [] M K := G.blk 60 _ hd ok_Arrays_fill1 rfl h
set_option maxRecDepth 100000 in
theorem b_Arrays_fill1_debts_5 {l : Launch} {E : EnvT} {d : Nat} {K : AV → Mem → Prop} {M : Mem} {r2 : Nat} {x1 : Int32} {x2 : Int32} {x3 : Int32} (hd : 1 ≤ d)
  (h : ((x3 ≤ x2 →
   K (.null, 0) M) ∧
  (¬ x3 ≤ x2 →
   (vp_in x2 48 ∧ G l E d m_Arrays_fill1 5 [(0, (.ref r2, 18)), (1, (.int x1, 0)), (2, (.int (x2 + iN 1), 0)), (3, (.int x3, 0))] [] (upd3 M r2 7 (x2).toNatClampNeg (x1).toInt) K)))) :
  G l E d m_Arrays_fill1 5 [(0, (.ref r2, 18)), (1, (.int x1, 0)), (2, (.int x2, 0)), (3, (.int x3, 0))] [] M K := G.blk 60 _ hd ok_Arrays_fill1 rfl h
set_option maxRecDepth 100000 in
theorem b_Arrays_fill1_bests_0 {l : Launch} {E : EnvT} {d : Nat} {K : AV → Mem → Prop} {M : Mem} {r2 : Nat} {x1 : Int32} (hd : 1 ≤ d)
  (h : G l E d m_Arrays_fill1 5 [(0, (.ref r2, 36)), (1, (.int x1, 0)), (2, (.int (iN 0), 0)), (3, (.int (iN 256), 0))] [] M K) :
  G l E d m_Arrays_fill1 0 [(0, (.ref r2, 36)), (1, (.int x1, 0))] [] M K := G.blk 60 _ hd ok_Arrays_fill1 rfl h
set_option maxRecDepth 100000 in
theorem b_Arrays_fill1_bests_5 {l : Launch} {E : EnvT} {d : Nat} {K : AV → Mem → Prop} {M : Mem} {r2 : Nat} {x1 : Int32} {x2 : Int32} {x3 : Int32} (hd : 1 ≤ d)
  (h : ((x3 ≤ x2 →
   K (.null, 0) M) ∧
  (¬ x3 ≤ x2 →
   (vp_in x2 256 ∧ G l E d m_Arrays_fill1 5 [(0, (.ref r2, 36)), (1, (.int x1, 0)), (2, (.int (x2 + iN 1), 0)), (3, (.int x3, 0))] [] (upd3 M r2 6 (x2).toNatClampNeg (x1).toInt) K)))) :
  G l E d m_Arrays_fill1 5 [(0, (.ref r2, 36)), (1, (.int x1, 0)), (2, (.int x2, 0)), (3, (.int x3, 0))] [] M K := G.blk 60 _ hd ok_Arrays_fill1 rfl h
