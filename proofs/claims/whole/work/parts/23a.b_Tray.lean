def bt_Tray_make : BtT := [(0, [0, 1, 2], true, [(0, .aload_n 0, 1, 0, 0, 0, m0),
   (1, .getfield 11, 3, 0, 6, 479, m0),
   (4, .lconst 0, 1, 0, 0, 0, m0),
   (5, .invokestatic 22, 3, 0, 0, 577, m_Arrays_fill0),
   (8, .aload_n 0, 1, 0, 0, 0, m0),
   (9, .iload_n 1, 1, 0, 0, 0, m0),
   (10, .putfield 15, 3, 1, 6, 481, m0),
   (13, .aload_n 0, 1, 0, 0, 0, m0),
   (14, .iload_n 2, 1, 0, 0, 0, m0),
   (15, .putfield 19, 3, 2, 6, 483, m0),
   (18, .return_, 1, 0, 0, 0, m0)])]
theorem ok_Tray_make : okBt m_Tray_make bt_Tray_make = true := by decide +kernel
set_option maxRecDepth 100000 in
theorem b_Tray_make_0 {l : Launch} {E : EnvT} {d : Nat} {K : AV → Mem → Prop} {M : Mem} {r : Nat} {x1 : Int32} {x2 : Int32} (hd : 1 ≤ d)
  (h : CT l E (d - 1) m_Arrays_fill0 [(.ref r, 40), (.long (lI 0), 0)] M (fun v1 M1 =>
   K (.null, 0) (upd3 (upd3 M1 r 0 1 (x1).toInt) r 0 2 (x2).toInt))) :
  G l E d m_Tray_make 0 [(0, (.ref r, 39)), (1, (.int x1, 0)), (2, (.int x2, 0))] [] M K := G.blk 60 _ hd ok_Tray_make rfl h
def bt_Tray_isMissing : BtT := [(0, [0], true, [(0, .aload_n 0, 1, 0, 0, 0, m0),
   (1, .getfield 19, 3, 2, 6, 483, m0),
   (4, .iconst (-1), 1, 0, 0, 0, m0),
   (5, .if_icmp .ne 7, 3, 12, 0, 0, m0),
   (8, .nop, 0, 0, 0, 0, m0)]),
  (8, [], false, [(8, .iconst 1, 1, 0, 0, 0, m0),
   (9, .goto 4, 3, 13, 0, 0, m0)]),
  (12, [], false, [(12, .iconst 0, 1, 0, 0, 0, m0),
   (13, .nop, 0, 0, 0, 0, m0)]),
  (13, [], false, [(13, .ireturn, 1, 0, 0, 0, m0)])]
theorem ok_Tray_isMissing : okBt m_Tray_isMissing bt_Tray_isMissing = true := by decide +kernel
set_option maxRecDepth 100000 in
theorem b_Tray_isMissing_0 {l : Launch} {E : EnvT} {d : Nat} {K : AV → Mem → Prop} {M : Mem} {r : Nat}  (hd : 1 ≤ d)
  (h : ((¬ (iN (M r 0 2)) = (iN (-1)) →
   ((((iN 0) = 0 ∨ (iN 0) = 1)) ∧ K (.int (iN 0), 0) M)) ∧
  ((iN (M r 0 2)) = (iN (-1)) →
   ((((iN 1) = 0 ∨ (iN 1) = 1)) ∧ K (.int (iN 1), 0) M)))) :
  G l E d m_Tray_isMissing 0 [(0, (.ref r, 39))] [] M K := G.blk 60 _ hd ok_Tray_isMissing rfl h
def bt_Tray_cut : BtT := [(0, [0, 1], true, [(0, .aload_n 0, 1, 0, 0, 0, m0),
   (1, .getfield 15, 3, 1, 6, 481, m0),
   (4, .tableswitch 42 0 2 #[28, 33, 38], 28, 0, 0, 0, m0)]),
  (32, [], false, [(32, .lload_n 1, 1, 0, 0, 0, m0),
   (33, .l2i, 1, 0, 0, 0, m0),
   (34, .i2b, 1, 0, 0, 0, m0),
   (35, .i2l, 1, 0, 0, 0, m0),
   (36, .lreturn, 1, 0, 0, 0, m0)]),
  (37, [], false, [(37, .lload_n 1, 1, 0, 0, 0, m0),
   (38, .l2i, 1, 0, 0, 0, m0),
   (39, .i2s, 1, 0, 0, 0, m0),
   (40, .i2l, 1, 0, 0, 0, m0),
   (41, .lreturn, 1, 0, 0, 0, m0)]),
  (42, [], false, [(42, .lload_n 1, 1, 0, 0, 0, m0),
   (43, .l2i, 1, 0, 0, 0, m0),
   (44, .i2l, 1, 0, 0, 0, m0),
   (45, .lreturn, 1, 0, 0, 0, m0)]),
  (46, [], false, [(46, .lload_n 1, 1, 0, 0, 0, m0),
   (47, .lreturn, 1, 0, 0, 0, m0)])]
theorem ok_Tray_cut : okBt m_Tray_cut bt_Tray_cut = true := by decide +kernel
set_option maxRecDepth 100000 in
theorem b_Tray_cut_0 {l : Launch} {E : EnvT} {d : Nat} {K : AV → Mem → Prop} {M : Mem} {r : Nat} {x1 : Int64} (hd : 1 ≤ d)
  (h : (((iN (M r 0 1)) = iN 0 →
   K (.long (((x1).toInt32).toInt8.toInt32).toInt64, 0) M) ∧
  (¬ (iN (M r 0 1)) = iN 0 →
   (((iN (M r 0 1)) = iN 1 →
   K (.long (((x1).toInt32).toInt16.toInt32).toInt64, 0) M) ∧
  (¬ (iN (M r 0 1)) = iN 1 →
   (((iN (M r 0 1)) = iN 2 →
   K (.long ((x1).toInt32).toInt64, 0) M) ∧
  (¬ (iN (M r 0 1)) = iN 2 →
   K (.long x1, 0) M))))))) :
  G l E d m_Tray_cut 0 [(0, (.ref r, 39)), (1, (.long x1, 0))] [] M K := G.blk 60 _ hd ok_Tray_cut rfl h
def bt_Tray_put : BtT := [(0, [0, 1, 2], true, [(0, .aload_n 0, 1, 0, 0, 0, m0),
   (1, .getfield 11, 3, 0, 6, 479, m0),
   (4, .iload_n 1, 1, 0, 0, 0, m0),
   (5, .aload_n 0, 1, 0, 0, 0, m0),
   (6, .lload_n 2, 1, 0, 0, 0, m0),
   (7, .invokevirtual 28, 3, 0, 0, 600, m_Tray_cut),
   (10, .lastore, 1, 0, 0, 0, m0),
   (11, .return_, 1, 0, 0, 0, m0)])]
theorem ok_Tray_put : okBt m_Tray_put bt_Tray_put = true := by decide +kernel
set_option maxRecDepth 100000 in
theorem b_Tray_put_0 {l : Launch} {E : EnvT} {d : Nat} {K : AV → Mem → Prop} {M : Mem} {r : Nat} {x1 : Int32} {x2 : Int64} (hd : 1 ≤ d)
  (h : CT l E (d - 1) m_Tray_cut [(.ref r, 39), (.long x2, 0)] M (fun v1 M1 =>
   (vp_in x1 60 ∧ K (.null, 0) (upd3 M1 r 1 (x1).toNatClampNeg ((toL v1)).toInt)))) :
  G l E d m_Tray_put 0 [(0, (.ref r, 39)), (1, (.int x1, 0)), (2, (.long x2, 0))] [] M K := G.blk 60 _ hd ok_Tray_put rfl h
def bt_Tray_hasRow : BtT := [(0, [0, 1, 2], true, [(0, .iload_n 1, 1, 0, 0, 0, m0),
   (1, .i2l, 1, 0, 0, 0, m0),
   (2, .iload_n 2, 1, 0, 0, 0, m0),
   (3, .i2l, 1, 0, 0, 0, m0),
   (4, .ladd, 1, 0, 0, 0, m0),
   (5, .aload_n 0, 1, 0, 0, 0, m0),
   (6, .getfield 19, 3, 2, 6, 483, m0),
   (9, .i2l, 1, 0, 0, 0, m0),
   (10, .lcmp, 1, 0, 0, 0, m0),
   (11, .ifCond .gt 7, 3, 18, 0, 0, m0),
   (14, .nop, 0, 0, 0, 0, m0)]),
  (14, [], false, [(14, .iconst 1, 1, 0, 0, 0, m0),
   (15, .goto 4, 3, 19, 0, 0, m0)]),
  (18, [], false, [(18, .iconst 0, 1, 0, 0, 0, m0),
   (19, .nop, 0, 0, 0, 0, m0)]),
  (19, [], false, [(19, .ireturn, 1, 0, 0, 0, m0)])]
theorem ok_Tray_hasRow : okBt m_Tray_hasRow bt_Tray_hasRow = true := by decide +kernel
set_option maxRecDepth 100000 in
theorem b_Tray_hasRow_0 {l : Launch} {E : EnvT} {d : Nat} {K : AV → Mem → Prop} {M : Mem} {r : Nat} {x1 : Int32} {x2 : Int32} (hd : 1 ≤ d)
  (h : ((0 < (lg_cmp ((x1).toInt64 + (x2).toInt64) ((iN (M r 0 2))).toInt64) →
   ((((iN 0) = 0 ∨ (iN 0) = 1)) ∧ K (.int (iN 0), 0) M)) ∧
  (¬ 0 < (lg_cmp ((x1).toInt64 + (x2).toInt64) ((iN (M r 0 2))).toInt64) →
   ((((iN 1) = 0 ∨ (iN 1) = 1)) ∧ K (.int (iN 1), 0) M)))) :
  G l E d m_Tray_hasRow 0 [(0, (.ref r, 39)), (1, (.int x1, 0)), (2, (.int x2, 0))] [] M K := G.blk 60 _ hd ok_Tray_hasRow rfl h
