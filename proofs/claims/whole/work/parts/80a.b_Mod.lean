def bt_Mod_status : BtT := [(0, [0], true, [(0, .aload_n 0, 1, 0, 0, 0, m0),
   (1, .getfield 66, 3, 2, 11, 1449, m0),
   (4, .ireturn, 1, 0, 0, 0, m0)])]
theorem ok_Mod_status : okBt m_Mod_status bt_Mod_status = true := by decide +kernel
set_option maxRecDepth 100000 in
theorem b_Mod_status_0 {l : Launch} {E : EnvT} {d : Nat} {K : AV → Mem → Prop} {M : Mem}  (hd : 1 ≤ d)
  (h : K (.int (iN (M 24 0 2)), 0) M) :
  G l E d m_Mod_status 0 [(0, (.ref 24, 41))] [] M K := G.blk 60 _ hd ok_Mod_status rfl h
def bt_Mod_top : BtT := [(0, [0], true, [(0, .aload_n 0, 1, 0, 0, 0, m0),
   (1, .getfield 69, 3, 3, 11, 1450, m0),
   (4, .lreturn, 1, 0, 0, 0, m0)])]
theorem ok_Mod_top : okBt m_Mod_top bt_Mod_top = true := by decide +kernel
set_option maxRecDepth 100000 in
theorem b_Mod_top_0 {l : Launch} {E : EnvT} {d : Nat} {K : AV → Mem → Prop} {M : Mem}  (hd : 1 ≤ d)
  (h : K (.long (lI (M 24 0 3)), 0) M) :
  G l E d m_Mod_top 0 [(0, (.ref 24, 41))] [] M K := G.blk 60 _ hd ok_Mod_top rfl h
def bt_Mod_bottom : BtT := [(0, [0], true, [(0, .aload_n 0, 1, 0, 0, 0, m0),
   (1, .getfield 17, 3, 4, 11, 1451, m0),
   (4, .lreturn, 1, 0, 0, 0, m0)])]
theorem ok_Mod_bottom : okBt m_Mod_bottom bt_Mod_bottom = true := by decide +kernel
set_option maxRecDepth 100000 in
theorem b_Mod_bottom_0 {l : Launch} {E : EnvT} {d : Nat} {K : AV → Mem → Prop} {M : Mem}  (hd : 1 ≤ d)
  (h : K (.long (lI (M 24 0 4)), 0) M) :
  G l E d m_Mod_bottom 0 [(0, (.ref 24, 41))] [] M K := G.blk 60 _ hd ok_Mod_bottom rfl h
def bt_Mod_isTray : BtT := [(0, [0], true, [(0, .iload_n 0, 1, 0, 0, 0, m0),
   (1, .ifCond .lt 12, 3, 13, 0, 0, m0),
   (4, .nop, 0, 0, 0, 0, m0)]),
  (4, [], false, [(4, .iload_n 0, 1, 0, 0, 0, m0),
   (5, .iconst 4, 1, 0, 0, 0, m0),
   (6, .if_icmp .ge 7, 3, 13, 0, 0, m0),
   (9, .nop, 0, 0, 0, 0, m0)]),
  (9, [], false, [(9, .iconst 1, 1, 0, 0, 0, m0),
   (10, .goto 4, 3, 14, 0, 0, m0)]),
  (13, [], false, [(13, .iconst 0, 1, 0, 0, 0, m0),
   (14, .nop, 0, 0, 0, 0, m0)]),
  (14, [], false, [(14, .ireturn, 1, 0, 0, 0, m0)])]
theorem ok_Mod_isTray : okBt m_Mod_isTray bt_Mod_isTray = true := by decide +kernel
set_option maxRecDepth 100000 in
theorem b_Mod_isTray_0 {l : Launch} {E : EnvT} {d : Nat} {K : AV → Mem → Prop} {M : Mem} {x0 : Int32} (hd : 1 ≤ d)
  (h : ((x0 < 0 →
   ((((iN 0) = 0 ∨ (iN 0) = 1)) ∧ K (.int (iN 0), 0) M)) ∧
  (¬ x0 < 0 →
   (((iN 4) ≤ x0 →
    ((((iN 0) = 0 ∨ (iN 0) = 1)) ∧ K (.int (iN 0), 0) M)) ∧
   (¬ (iN 4) ≤ x0 →
    ((((iN 1) = 0 ∨ (iN 1) = 1)) ∧ K (.int (iN 1), 0) M)))))) :
  G l E d m_Mod_isTray 0 [(0, (.int x0, 0))] [] M K := G.blk 60 _ hd ok_Mod_isTray rfl h
def bt_Mod_is : BtT := [(0, [0, 1], true, [(0, .aload_n 0, 1, 0, 0, 0, m0),
   (1, .iload_n 1, 1, 0, 0, 0, m0),
   (2, .putfield 66, 3, 2, 11, 1449, m0),
   (5, .iload_n 1, 1, 0, 0, 0, m0),
   (6, .ifCond .ne 7, 3, 13, 0, 0, m0),
   (9, .nop, 0, 0, 0, 0, m0)]),
  (9, [], false, [(9, .iconst 1, 1, 0, 0, 0, m0),
   (10, .goto 4, 3, 14, 0, 0, m0)]),
  (13, [], false, [(13, .iconst 0, 1, 0, 0, 0, m0),
   (14, .nop, 0, 0, 0, 0, m0)]),
  (14, [], false, [(14, .ireturn, 1, 0, 0, 0, m0)])]
theorem ok_Mod_is : okBt m_Mod_is bt_Mod_is = true := by decide +kernel
set_option maxRecDepth 100000 in
theorem b_Mod_is_0 {l : Launch} {E : EnvT} {d : Nat} {K : AV → Mem → Prop} {M : Mem} {x1 : Int32} (hd : 1 ≤ d)
  (h : ((¬ x1 = 0 →
   ((((iN 0) = 0 ∨ (iN 0) = 1)) ∧ K (.int (iN 0), 0) (upd3 M 24 0 2 (x1).toInt))) ∧
  (x1 = 0 →
   ((((iN 1) = 0 ∨ (iN 1) = 1)) ∧ K (.int (iN 1), 0) (upd3 M 24 0 2 (x1).toInt))))) :
  G l E d m_Mod_is 0 [(0, (.ref 24, 41)), (1, (.int x1, 0))] [] M K := G.blk 60 _ hd ok_Mod_is rfl h
def bt_Mod_tray : BtT := [(0, [0, 1, 2, 3], true, [(0, .iload_n 1, 1, 0, 0, 0, m0),
   (1, .invokestatic 83, 3, 0, 0, 1566, m_Mod_isTray),
   (4, .ifCond .eq 22, 3, 26, 0, 0, m0),
   (7, .nop, 0, 0, 0, 0, m0)]),
  (7, [], false, [(7, .iload_n 2, 1, 0, 0, 0, m0),
   (8, .ifCond .lt 18, 3, 26, 0, 0, m0),
   (11, .nop, 0, 0, 0, 0, m0)]),
  (11, [], false, [(11, .iload_n 2, 1, 0, 0, 0, m0),
   (12, .iconst 3, 1, 0, 0, 0, m0),
   (13, .if_icmp .gt 13, 3, 26, 0, 0, m0),
   (16, .nop, 0, 0, 0, 0, m0)]),
  (16, [], false, [(16, .iload_n 3, 1, 0, 0, 0, m0),
   (17, .ifCond .lt 9, 3, 26, 0, 0, m0),
   (20, .nop, 0, 0, 0, 0, m0)]),
  (20, [], false, [(20, .iload_n 3, 1, 0, 0, 0, m0),
   (21, .bipush 60, 2, 0, 0, 0, m0),
   (23, .if_icmp .le 9, 3, 32, 0, 0, m0),
   (26, .nop, 0, 0, 0, 0, m0)]),
  (26, [], false, [(26, .aload_n 0, 1, 0, 0, 0, m0),
   (27, .iconst 1, 1, 0, 0, 0, m0),
   (28, .invokevirtual 79, 3, 0, 0, 1569, m_Mod_is),
   (31, .ireturn, 1, 0, 0, 0, m0)]),
  (32, [], false, [(32, .aload_n 0, 1, 0, 0, 0, m0),
   (33, .getfield 21, 3, 5, 11, 1452, m0),
   (36, .iload_n 1, 1, 0, 0, 0, m0),
   (37, .iload_n 2, 1, 0, 0, 0, m0),
   (38, .iastore, 1, 0, 0, 0, m0),
   (39, .aload_n 0, 1, 0, 0, 0, m0),
   (40, .getfield 24, 3, 6, 11, 1453, m0),
   (43, .iload_n 1, 1, 0, 0, 0, m0),
   (44, .iload_n 3, 1, 0, 0, 0, m0),
   (45, .iastore, 1, 0, 0, 0, m0),
   (46, .iconst 0, 1, 0, 0, 0, m0),
   (47, .istore 4, 2, 0, 0, 0, m0),
   (49, .nop, 0, 0, 0, 0, m0)]),
  (49, [0, 1, 3, 4], true, [(49, .iload 4, 2, 0, 0, 0, m0),
   (51, .iload_n 3, 1, 0, 0, 0, m0),
   (52, .if_icmp .ge 22, 3, 74, 0, 0, m0),
   (55, .nop, 0, 0, 0, 0, m0)]),
  (55, [], false, [(55, .aload_n 0, 1, 0, 0, 0, m0),
   (56, .getfield 27, 3, 7, 11, 1454, m0),
   (59, .bipush 60, 2, 0, 0, 0, m0),
   (61, .iload_n 1, 1, 0, 0, 0, m0),
   (62, .imul, 1, 0, 0, 0, m0),
   (63, .iload 4, 2, 0, 0, 0, m0),
   (65, .iadd, 1, 0, 0, 0, m0),
   (66, .lconst 0, 1, 0, 0, 0, m0),
   (67, .lastore, 1, 0, 0, 0, m0),
   (68, .iinc 4 1, 3, 0, 0, 0, m0),
   (71, .goto (-22), 3, 49, 0, 0, m0)]),
  (74, [], false, [(74, .aload_n 0, 1, 0, 0, 0, m0),
   (75, .iconst 0, 1, 0, 0, 0, m0),
   (76, .invokevirtual 79, 3, 0, 0, 1569, m_Mod_is),
   (79, .ireturn, 1, 0, 0, 0, m0)])]
theorem ok_Mod_tray : okBt m_Mod_tray bt_Mod_tray = true := by decide +kernel
set_option maxRecDepth 100000 in
theorem b_Mod_tray_0 {l : Launch} {E : EnvT} {d : Nat} {K : AV → Mem → Prop} {M : Mem} {x1 : Int32} {x2 : Int32} {x3 : Int32} (hd : 1 ≤ d)
  (h : CT l E (d - 1) m_Mod_isTray [(.int x1, 0)] M (fun v1 M1 =>
   (((toI v1) = 0 →
    CT l E (d - 1) m_Mod_is [(.ref 24, 41), (.int (iN 1), 0)] M1 (fun v2 M2 =>
     ((((toI v2) = 0 ∨ (toI v2) = 1)) ∧ K (.int (toI v2), 0) M2))) ∧
   (¬ (toI v1) = 0 →
    ((x2 < 0 →
     CT l E (d - 1) m_Mod_is [(.ref 24, 41), (.int (iN 1), 0)] M1 (fun v3 M3 =>
      ((((toI v3) = 0 ∨ (toI v3) = 1)) ∧ K (.int (toI v3), 0) M3))) ∧
    (¬ x2 < 0 →
     (((iN 3) < x2 →
      CT l E (d - 1) m_Mod_is [(.ref 24, 41), (.int (iN 1), 0)] M1 (fun v4 M4 =>
       ((((toI v4) = 0 ∨ (toI v4) = 1)) ∧ K (.int (toI v4), 0) M4))) ∧
     (¬ (iN 3) < x2 →
      ((x3 < 0 →
       CT l E (d - 1) m_Mod_is [(.ref 24, 41), (.int (iN 1), 0)] M1 (fun v5 M5 =>
        ((((toI v5) = 0 ∨ (toI v5) = 1)) ∧ K (.int (toI v5), 0) M5))) ∧
      (¬ x3 < 0 →
       ((x3 ≤ (iN 60) →
        (vp_in x1 4 ∧ vp_in x1 4 ∧ G l E d m_Mod_tray 49 [(0, (.ref 24, 41)), (1, (.int x1, 0)), (3, (.int x3, 0)), (4, (.int (iN 0), 0))] [] (upd3 (upd3 M1 24 3 (x1).toNatClampNeg (x2).toInt) 24 4 (x1).toNatClampNeg (x3).toInt) K)) ∧
       (¬ x3 ≤ (iN 60) →
        CT l E (d - 1) m_Mod_is [(.ref 24, 41), (.int (iN 1), 0)] M1 (fun v6 M6 =>
         ((((toI v6) = 0 ∨ (toI v6) = 1)) ∧ K (.int (toI v6), 0) M6)))))))))))))) :
  G l E d m_Mod_tray 0 [(0, (.ref 24, 41)), (1, (.int x1, 0)), (2, (.int x2, 0)), (3, (.int x3, 0))] [] M K := G.blk 60 _ hd ok_Mod_tray rfl h
set_option maxRecDepth 100000 in
theorem b_Mod_tray_49 {l : Launch} {E : EnvT} {d : Nat} {K : AV → Mem → Prop} {M : Mem} {x1 : Int32} {x3 : Int32} {x4 : Int32} (hd : 1 ≤ d)
  (h : ((x3 ≤ x4 →
   CT l E (d - 1) m_Mod_is [(.ref 24, 41), (.int (iN 0), 0)] M (fun v1 M1 =>
    ((((toI v1) = 0 ∨ (toI v1) = 1)) ∧ K (.int (toI v1), 0) M1))) ∧
  (¬ x3 ≤ x4 →
   (vp_in (((iN 60) * x1) + x4) 240 ∧ G l E d m_Mod_tray 49 [(0, (.ref 24, 41)), (1, (.int x1, 0)), (3, (.int x3, 0)), (4, (.int (x4 + iN 1), 0))] [] (upd3 M 24 5 ((((iN 60) * x1) + x4)).toNatClampNeg ((lI 0)).toInt) K)))) :
  G l E d m_Mod_tray 49 [(0, (.ref 24, 41)), (1, (.int x1, 0)), (3, (.int x3, 0)), (4, (.int x4, 0))] [] M K := G.blk 60 _ hd ok_Mod_tray rfl h
def bt_Mod_wrongPlace : BtT := [(0, [0, 1, 2], true, [(0, .iload_n 1, 1, 0, 0, 0, m0),
   (1, .invokestatic 83, 3, 0, 0, 1566, m_Mod_isTray),
   (4, .ifCond .ne 7, 3, 11, 0, 0, m0),
   (7, .nop, 0, 0, 0, 0, m0)]),
  (7, [], false, [(7, .iconst 1, 1, 0, 0, 0, m0),
   (8, .goto 36, 3, 44, 0, 0, m0)]),
  (11, [], false, [(11, .aload_n 0, 1, 0, 0, 0, m0),
   (12, .getfield 24, 3, 6, 11, 1453, m0),
   (15, .iload_n 1, 1, 0, 0, 0, m0),
   (16, .iaload, 1, 0, 0, 0, m0),
   (17, .iconst (-1), 1, 0, 0, 0, m0),
   (18, .if_icmp .ne 7, 3, 25, 0, 0, m0),
   (21, .nop, 0, 0, 0, 0, m0)]),
  (21, [], false, [(21, .iconst 2, 1, 0, 0, 0, m0),
   (22, .goto 22, 3, 44, 0, 0, m0)]),
  (25, [], false, [(25, .iload_n 2, 1, 0, 0, 0, m0),
   (26, .ifCond .lt 13, 3, 39, 0, 0, m0),
   (29, .nop, 0, 0, 0, 0, m0)]),
  (29, [], false, [(29, .iload_n 2, 1, 0, 0, 0, m0),
   (30, .aload_n 0, 1, 0, 0, 0, m0),
   (31, .getfield 24, 3, 6, 11, 1453, m0),
   (34, .iload_n 1, 1, 0, 0, 0, m0),
   (35, .iaload, 1, 0, 0, 0, m0),
   (36, .if_icmp .lt 7, 3, 43, 0, 0, m0),
   (39, .nop, 0, 0, 0, 0, m0)]),
  (39, [], false, [(39, .iconst 3, 1, 0, 0, 0, m0),
   (40, .goto 4, 3, 44, 0, 0, m0)]),
  (43, [], false, [(43, .iconst 0, 1, 0, 0, 0, m0),
   (44, .nop, 0, 0, 0, 0, m0)]),
  (44, [], false, [(44, .ireturn, 1, 0, 0, 0, m0)])]
theorem ok_Mod_wrongPlace : okBt m_Mod_wrongPlace bt_Mod_wrongPlace = true := by decide +kernel
set_option maxRecDepth 100000 in
theorem b_Mod_wrongPlace_0 {l : Launch} {E : EnvT} {d : Nat} {K : AV → Mem → Prop} {M : Mem} {x1 : Int32} {x2 : Int32} (hd : 1 ≤ d)
  (h : CT l E (d - 1) m_Mod_isTray [(.int x1, 0)] M (fun v1 M1 =>
   ((¬ (toI v1) = 0 →
    (vp_in x1 4 ∧ ((¬ (iN (M1 24 4 (x1).toNatClampNeg)) = (iN (-1)) →
     ((x2 < 0 →
      K (.int (iN 3), 0) M1) ∧
     (¬ x2 < 0 →
      (vp_in x1 4 ∧ ((x2 < (iN (M1 24 4 (x1).toNatClampNeg)) →
       K (.int (iN 0), 0) M1) ∧
      (¬ x2 < (iN (M1 24 4 (x1).toNatClampNeg)) →
       K (.int (iN 3), 0) M1)))))) ∧
    ((iN (M1 24 4 (x1).toNatClampNeg)) = (iN (-1)) →
     K (.int (iN 2), 0) M1)))) ∧
   ((toI v1) = 0 →
    K (.int (iN 1), 0) M1)))) :
  G l E d m_Mod_wrongPlace 0 [(0, (.ref 24, 41)), (1, (.int x1, 0)), (2, (.int x2, 0))] [] M K := G.blk 60 _ hd ok_Mod_wrongPlace rfl h
def bt_Mod_cut : BtT := [(0, [0, 2], true, [(0, .iload_n 2, 1, 0, 0, 0, m0),
   (1, .ifCond .ne 10, 3, 11, 0, 0, m0),
   (4, .nop, 0, 0, 0, 0, m0)]),
  (4, [], false, [(4, .lload_n 0, 1, 0, 0, 0, m0),
   (5, .l2i, 1, 0, 0, 0, m0),
   (6, .i2b, 1, 0, 0, 0, m0),
   (7, .i2l, 1, 0, 0, 0, m0),
   (8, .goto 27, 3, 35, 0, 0, m0)]),
  (11, [], false, [(11, .iload_n 2, 1, 0, 0, 0, m0),
   (12, .iconst 1, 1, 0, 0, 0, m0),
   (13, .if_icmp .ne 10, 3, 23, 0, 0, m0),
   (16, .nop, 0, 0, 0, 0, m0)]),
  (16, [], false, [(16, .lload_n 0, 1, 0, 0, 0, m0),
   (17, .l2i, 1, 0, 0, 0, m0),
   (18, .i2s, 1, 0, 0, 0, m0),
   (19, .i2l, 1, 0, 0, 0, m0),
   (20, .goto 15, 3, 35, 0, 0, m0)]),
  (23, [], false, [(23, .iload_n 2, 1, 0, 0, 0, m0),
   (24, .iconst 2, 1, 0, 0, 0, m0),
   (25, .if_icmp .ne 9, 3, 34, 0, 0, m0),
   (28, .nop, 0, 0, 0, 0, m0)]),
  (28, [], false, [(28, .lload_n 0, 1, 0, 0, 0, m0),
   (29, .l2i, 1, 0, 0, 0, m0),
   (30, .i2l, 1, 0, 0, 0, m0),
   (31, .goto 4, 3, 35, 0, 0, m0)]),
  (34, [], false, [(34, .lload_n 0, 1, 0, 0, 0, m0),
   (35, .nop, 0, 0, 0, 0, m0)]),
  (35, [], false, [(35, .lreturn, 1, 0, 0, 0, m0)])]
theorem ok_Mod_cut : okBt m_Mod_cut bt_Mod_cut = true := by decide +kernel
set_option maxRecDepth 100000 in
theorem b_Mod_cut_0 {l : Launch} {E : EnvT} {d : Nat} {K : AV → Mem → Prop} {M : Mem} {x0 : Int64} {x2 : Int32} (hd : 1 ≤ d)
  (h : ((¬ x2 = 0 →
   ((¬ x2 = (iN 1) →
    ((¬ x2 = (iN 2) →
     K (.long x0, 0) M) ∧
    (x2 = (iN 2) →
     K (.long ((x0).toInt32).toInt64, 0) M))) ∧
   (x2 = (iN 1) →
    K (.long (((x0).toInt32).toInt16.toInt32).toInt64, 0) M))) ∧
  (x2 = 0 →
   K (.long (((x0).toInt32).toInt8.toInt32).toInt64, 0) M))) :
  G l E d m_Mod_cut 0 [(0, (.long x0, 0)), (2, (.int x2, 0))] [] M K := G.blk 60 _ hd ok_Mod_cut rfl h
def bt_Mod_write : BtT := [(0, [0, 1, 2, 3], true, [(0, .aload_n 0, 1, 0, 0, 0, m0),
   (1, .iload_n 1, 1, 0, 0, 0, m0),
   (2, .iload_n 2, 1, 0, 0, 0, m0),
   (3, .invokevirtual 86, 3, 0, 0, 1577, m_Mod_wrongPlace),
   (6, .istore 5, 2, 0, 0, 0, m0),
   (8, .iload 5, 2, 0, 0, 0, m0),
   (10, .ifCond .ne 24, 3, 34, 0, 0, m0),
   (13, .nop, 0, 0, 0, 0, m0)]),
  (13, [], false, [(13, .aload_n 0, 1, 0, 0, 0, m0),
   (14, .getfield 27, 3, 7, 11, 1454, m0),
   (17, .bipush 60, 2, 0, 0, 0, m0),
   (19, .iload_n 1, 1, 0, 0, 0, m0),
   (20, .imul, 1, 0, 0, 0, m0),
   (21, .iload_n 2, 1, 0, 0, 0, m0),
   (22, .iadd, 1, 0, 0, 0, m0),
   (23, .lload_n 3, 1, 0, 0, 0, m0),
   (24, .aload_n 0, 1, 0, 0, 0, m0),
   (25, .getfield 21, 3, 5, 11, 1452, m0),
   (28, .iload_n 1, 1, 0, 0, 0, m0),
   (29, .iaload, 1, 0, 0, 0, m0),
   (30, .invokestatic 90, 3, 0, 0, 1581, m_Mod_cut),
   (33, .lastore, 1, 0, 0, 0, m0),
   (34, .nop, 0, 0, 0, 0, m0)]),
  (34, [], false, [(34, .aload_n 0, 1, 0, 0, 0, m0),
   (35, .iload 5, 2, 0, 0, 0, m0),
   (37, .invokevirtual 79, 3, 0, 0, 1569, m_Mod_is),
   (40, .ireturn, 1, 0, 0, 0, m0)])]
theorem ok_Mod_write : okBt m_Mod_write bt_Mod_write = true := by decide +kernel
set_option maxRecDepth 100000 in
theorem b_Mod_write_0 {l : Launch} {E : EnvT} {d : Nat} {K : AV → Mem → Prop} {M : Mem} {x1 : Int32} {x2 : Int32} {x3 : Int64} (hd : 1 ≤ d)
  (h : CT l E (d - 1) m_Mod_wrongPlace [(.ref 24, 41), (.int x1, 0), (.int x2, 0)] M (fun v1 M1 =>
   ((¬ (toI v1) = 0 →
    CT l E (d - 1) m_Mod_is [(.ref 24, 41), (.int (toI v1), 0)] M1 (fun v2 M2 =>
     ((((toI v2) = 0 ∨ (toI v2) = 1)) ∧ K (.int (toI v2), 0) M2))) ∧
   ((toI v1) = 0 →
    (vp_in x1 4 ∧ CT l E (d - 1) m_Mod_cut [(.long x3, 0), (.int (iN (M1 24 3 (x1).toNatClampNeg)), 0)] M1 (fun v3 M3 =>
     (vp_in (((iN 60) * x1) + x2) 240 ∧ CT l E (d - 1) m_Mod_is [(.ref 24, 41), (.int (toI v1), 0)] (upd3 M3 24 5 ((((iN 60) * x1) + x2)).toNatClampNeg ((toL v3)).toInt) (fun v4 M4 =>
      ((((toI v4) = 0 ∨ (toI v4) = 1)) ∧ K (.int (toI v4), 0) M4))))))))) :
  G l E d m_Mod_write 0 [(0, (.ref 24, 41)), (1, (.int x1, 0)), (2, (.int x2, 0)), (3, (.long x3, 0))] [] M K := G.blk 60 _ hd ok_Mod_write rfl h
def bt_Mod_read : BtT := [(0, [0, 1, 2], true, [(0, .aload_n 0, 1, 0, 0, 0, m0),
   (1, .aload_n 0, 1, 0, 0, 0, m0),
   (2, .iload_n 1, 1, 0, 0, 0, m0),
   (3, .iload_n 2, 1, 0, 0, 0, m0),
   (4, .invokevirtual 86, 3, 0, 0, 1577, m_Mod_wrongPlace),
   (7, .putfield 66, 3, 2, 11, 1449, m0),
   (10, .aload_n 0, 1, 0, 0, 0, m0),
   (11, .getfield 66, 3, 2, 11, 1449, m0),
   (14, .ifCond .le 9, 3, 23, 0, 0, m0),
   (17, .nop, 0, 0, 0, 0, m0)]),
  (17, [], false, [(17, .ldc2_w 94, 3, 1, (-1), 1588, m0),
   (20, .goto 14, 3, 34, 0, 0, m0)]),
  (23, [], false, [(23, .aload_n 0, 1, 0, 0, 0, m0),
   (24, .getfield 27, 3, 7, 11, 1454, m0),
   (27, .bipush 60, 2, 0, 0, 0, m0),
   (29, .iload_n 1, 1, 0, 0, 0, m0),
   (30, .imul, 1, 0, 0, 0, m0),
   (31, .iload_n 2, 1, 0, 0, 0, m0),
   (32, .iadd, 1, 0, 0, 0, m0),
   (33, .laload, 1, 0, 0, 0, m0),
   (34, .nop, 0, 0, 0, 0, m0)]),
  (34, [], false, [(34, .lreturn, 1, 0, 0, 0, m0)])]
theorem ok_Mod_read : okBt m_Mod_read bt_Mod_read = true := by decide +kernel
set_option maxRecDepth 100000 in
theorem b_Mod_read_0 {l : Launch} {E : EnvT} {d : Nat} {K : AV → Mem → Prop} {M : Mem} {x1 : Int32} {x2 : Int32} (hd : 1 ≤ d)
  (h : CT l E (d - 1) m_Mod_wrongPlace [(.ref 24, 41), (.int x1, 0), (.int x2, 0)] M (fun v1 M1 =>
   (((iN ((upd3 M1 24 0 2 ((toI v1)).toInt) 24 0 2)) ≤ 0 →
    (vp_in (((iN 60) * x1) + x2) 240 ∧ K (.long (lI ((upd3 M1 24 0 2 ((toI v1)).toInt) 24 5 ((((iN 60) * x1) + x2)).toNatClampNeg)), 0) (upd3 M1 24 0 2 ((toI v1)).toInt))) ∧
   (¬ (iN ((upd3 M1 24 0 2 ((toI v1)).toInt) 24 0 2)) ≤ 0 →
    K (.long (lI (-1)), 0) (upd3 M1 24 0 2 ((toI v1)).toInt))))) :
  G l E d m_Mod_read 0 [(0, (.ref 24, 41)), (1, (.int x1, 0)), (2, (.int x2, 0))] [] M K := G.blk 60 _ hd ok_Mod_read rfl h
def bt_Mod_pour : BtT := [(0, [0, 1, 2, 3, 4, 5], true, [(0, .iload_n 1, 1, 0, 0, 0, m0),
   (1, .invokestatic 83, 3, 0, 0, 1566, m_Mod_isTray),
   (4, .ifCond .eq 24, 3, 28, 0, 0, m0),
   (7, .nop, 0, 0, 0, 0, m0)]),
  (7, [], false, [(7, .iload_n 3, 1, 0, 0, 0, m0),
   (8, .invokestatic 83, 3, 0, 0, 1566, m_Mod_isTray),
   (11, .ifCond .eq 17, 3, 28, 0, 0, m0),
   (14, .nop, 0, 0, 0, 0, m0)]),
  (14, [], false, [(14, .iload_n 2, 1, 0, 0, 0, m0),
   (15, .ifCond .lt 13, 3, 28, 0, 0, m0),
   (18, .nop, 0, 0, 0, 0, m0)]),
  (18, [], false, [(18, .iload 4, 2, 0, 0, 0, m0),
   (20, .ifCond .lt 8, 3, 28, 0, 0, m0),
   (23, .nop, 0, 0, 0, 0, m0)]),
  (23, [], false, [(23, .iload 5, 2, 0, 0, 0, m0),
   (25, .ifCond .ge 9, 3, 34, 0, 0, m0),
   (28, .nop, 0, 0, 0, 0, m0)]),
  (28, [], false, [(28, .aload_n 0, 1, 0, 0, 0, m0),
   (29, .iconst 1, 1, 0, 0, 0, m0),
   (30, .invokevirtual 79, 3, 0, 0, 1569, m_Mod_is),
   (33, .ireturn, 1, 0, 0, 0, m0)]),
  (34, [], false, [(34, .aload_n 0, 1, 0, 0, 0, m0),
   (35, .getfield 24, 3, 6, 11, 1453, m0),
   (38, .iload_n 1, 1, 0, 0, 0, m0),
   (39, .iaload, 1, 0, 0, 0, m0),
   (40, .iconst (-1), 1, 0, 0, 0, m0),
   (41, .if_icmp .eq 13, 3, 54, 0, 0, m0),
   (44, .nop, 0, 0, 0, 0, m0)]),
  (44, [], false, [(44, .aload_n 0, 1, 0, 0, 0, m0),
   (45, .getfield 24, 3, 6, 11, 1453, m0),
   (48, .iload_n 3, 1, 0, 0, 0, m0),
   (49, .iaload, 1, 0, 0, 0, m0),
   (50, .iconst (-1), 1, 0, 0, 0, m0),
   (51, .if_icmp .ne 9, 3, 60, 0, 0, m0),
   (54, .nop, 0, 0, 0, 0, m0)]),
  (54, [], false, [(54, .aload_n 0, 1, 0, 0, 0, m0),
   (55, .iconst 2, 1, 0, 0, 0, m0),
   (56, .invokevirtual 79, 3, 0, 0, 1569, m_Mod_is),
   (59, .ireturn, 1, 0, 0, 0, m0)]),
  (60, [], false, [(60, .aload_n 0, 1, 0, 0, 0, m0),
   (61, .getfield 21, 3, 5, 11, 1452, m0),
   (64, .iload_n 1, 1, 0, 0, 0, m0),
   (65, .iaload, 1, 0, 0, 0, m0),
   (66, .aload_n 0, 1, 0, 0, 0, m0),
   (67, .getfield 21, 3, 5, 11, 1452, m0),
   (70, .iload_n 3, 1, 0, 0, 0, m0),
   (71, .iaload, 1, 0, 0, 0, m0),
   (72, .if_icmp .eq 10, 3, 82, 0, 0, m0),
   (75, .nop, 0, 0, 0, 0, m0)]),
  (75, [], false, [(75, .aload_n 0, 1, 0, 0, 0, m0),
   (76, .bipush 8, 2, 0, 0, 0, m0),
   (78, .invokevirtual 79, 3, 0, 0, 1569, m_Mod_is),
   (81, .ireturn, 1, 0, 0, 0, m0)]),
  (82, [], false, [(82, .iload 5, 2, 0, 0, 0, m0),
   (84, .aload_n 0, 1, 0, 0, 0, m0),
   (85, .getfield 24, 3, 6, 11, 1453, m0),
   (88, .iload_n 1, 1, 0, 0, 0, m0),
   (89, .iaload, 1, 0, 0, 0, m0),
   (90, .iload_n 2, 1, 0, 0, 0, m0),
   (91, .isub, 1, 0, 0, 0, m0),
   (92, .if_icmp .gt 17, 3, 109, 0, 0, m0),
   (95, .nop, 0, 0, 0, 0, m0)]),
  (95, [], false, [(95, .iload 5, 2, 0, 0, 0, m0),
   (97, .aload_n 0, 1, 0, 0, 0, m0),
   (98, .getfield 24, 3, 6, 11, 1453, m0),
   (101, .iload_n 3, 1, 0, 0, 0, m0),
   (102, .iaload, 1, 0, 0, 0, m0),
   (103, .iload 4, 2, 0, 0, 0, m0),
   (105, .isub, 1, 0, 0, 0, m0),
   (106, .if_icmp .le 9, 3, 115, 0, 0, m0),
   (109, .nop, 0, 0, 0, 0, m0)]),
  (109, [], false, [(109, .aload_n 0, 1, 0, 0, 0, m0),
   (110, .iconst 3, 1, 0, 0, 0, m0),
   (111, .invokevirtual 79, 3, 0, 0, 1569, m_Mod_is),
   (114, .ireturn, 1, 0, 0, 0, m0)]),
  (115, [], false, [(115, .iconst 0, 1, 0, 0, 0, m0),
   (116, .istore 6, 2, 0, 0, 0, m0),
   (118, .nop, 0, 0, 0, 0, m0)]),
  (118, [0, 1, 2, 3, 4, 5, 6], true, [(118, .iload 6, 2, 0, 0, 0, m0),
   (120, .iload 5, 2, 0, 0, 0, m0),
   (122, .if_icmp .ge 58, 3, 180, 0, 0, m0),
   (125, .nop, 0, 0, 0, 0, m0)]),
  (125, [], false, [(125, .iload_n 2, 1, 0, 0, 0, m0),
   (126, .iload 4, 2, 0, 0, 0, m0),
   (128, .if_icmp .ge 13, 3, 141, 0, 0, m0),
   (131, .nop, 0, 0, 0, 0, m0)]),
  (131, [], false, [(131, .iload 5, 2, 0, 0, 0, m0),
   (133, .iconst 1, 1, 0, 0, 0, m0),
   (134, .isub, 1, 0, 0, 0, m0),
   (135, .iload 6, 2, 0, 0, 0, m0),
   (137, .isub, 1, 0, 0, 0, m0),
   (138, .goto 5, 3, 143, 0, 0, m0)]),
  (141, [], false, [(141, .iload 6, 2, 0, 0, 0, m0),
   (143, .nop, 0, 0, 0, 0, m0)]),
  (143, [], false, [(143, .istore 7, 2, 0, 0, 0, m0),
   (145, .aload_n 0, 1, 0, 0, 0, m0),
   (146, .getfield 27, 3, 7, 11, 1454, m0),
   (149, .bipush 60, 2, 0, 0, 0, m0),
   (151, .iload_n 3, 1, 0, 0, 0, m0),
   (152, .imul, 1, 0, 0, 0, m0),
   (153, .iload 4, 2, 0, 0, 0, m0),
   (155, .iadd, 1, 0, 0, 0, m0),
   (156, .iload 7, 2, 0, 0, 0, m0),
   (158, .iadd, 1, 0, 0, 0, m0),
   (159, .aload_n 0, 1, 0, 0, 0, m0),
   (160, .getfield 27, 3, 7, 11, 1454, m0),
   (163, .bipush 60, 2, 0, 0, 0, m0),
   (165, .iload_n 1, 1, 0, 0, 0, m0),
   (166, .imul, 1, 0, 0, 0, m0),
   (167, .iload_n 2, 1, 0, 0, 0, m0),
   (168, .iadd, 1, 0, 0, 0, m0),
   (169, .iload 7, 2, 0, 0, 0, m0),
   (171, .iadd, 1, 0, 0, 0, m0),
   (172, .laload, 1, 0, 0, 0, m0),
   (173, .lastore, 1, 0, 0, 0, m0),
   (174, .iinc 6 1, 3, 0, 0, 0, m0),
   (177, .goto (-59), 3, 118, 0, 0, m0)]),
  (180, [], false, [(180, .aload_n 0, 1, 0, 0, 0, m0),
   (181, .iconst 0, 1, 0, 0, 0, m0),
   (182, .invokevirtual 79, 3, 0, 0, 1569, m_Mod_is),
   (185, .ireturn, 1, 0, 0, 0, m0)])]
theorem ok_Mod_pour : okBt m_Mod_pour bt_Mod_pour = true := by decide +kernel
set_option maxRecDepth 100000 in
theorem b_Mod_pour_0 {l : Launch} {E : EnvT} {d : Nat} {K : AV → Mem → Prop} {M : Mem} {x1 : Int32} {x2 : Int32} {x3 : Int32} {x4 : Int32} {x5 : Int32} (hd : 1 ≤ d)
  (h : CT l E (d - 1) m_Mod_isTray [(.int x1, 0)] M (fun v1 M1 =>
   (((toI v1) = 0 →
    CT l E (d - 1) m_Mod_is [(.ref 24, 41), (.int (iN 1), 0)] M1 (fun v2 M2 =>
     ((((toI v2) = 0 ∨ (toI v2) = 1)) ∧ K (.int (toI v2), 0) M2))) ∧
   (¬ (toI v1) = 0 →
    CT l E (d - 1) m_Mod_isTray [(.int x3, 0)] M1 (fun v3 M3 =>
     (((toI v3) = 0 →
      CT l E (d - 1) m_Mod_is [(.ref 24, 41), (.int (iN 1), 0)] M3 (fun v4 M4 =>
       ((((toI v4) = 0 ∨ (toI v4) = 1)) ∧ K (.int (toI v4), 0) M4))) ∧
     (¬ (toI v3) = 0 →
      ((x2 < 0 →
       CT l E (d - 1) m_Mod_is [(.ref 24, 41), (.int (iN 1), 0)] M3 (fun v5 M5 =>
        ((((toI v5) = 0 ∨ (toI v5) = 1)) ∧ K (.int (toI v5), 0) M5))) ∧
      (¬ x2 < 0 →
       ((x4 < 0 →
        CT l E (d - 1) m_Mod_is [(.ref 24, 41), (.int (iN 1), 0)] M3 (fun v6 M6 =>
         ((((toI v6) = 0 ∨ (toI v6) = 1)) ∧ K (.int (toI v6), 0) M6))) ∧
       (¬ x4 < 0 →
        ((0 ≤ x5 →
         (vp_in x1 4 ∧ (((iN (M3 24 4 (x1).toNatClampNeg)) = (iN (-1)) →
          CT l E (d - 1) m_Mod_is [(.ref 24, 41), (.int (iN 2), 0)] M3 (fun v7 M7 =>
           ((((toI v7) = 0 ∨ (toI v7) = 1)) ∧ K (.int (toI v7), 0) M7))) ∧
         (¬ (iN (M3 24 4 (x1).toNatClampNeg)) = (iN (-1)) →
          (vp_in x3 4 ∧ ((¬ (iN (M3 24 4 (x3).toNatClampNeg)) = (iN (-1)) →
           (vp_in x1 4 ∧ vp_in x3 4 ∧ (((iN (M3 24 3 (x1).toNatClampNeg)) = (iN (M3 24 3 (x3).toNatClampNeg)) →
            (vp_in x1 4 ∧ ((((iN (M3 24 4 (x1).toNatClampNeg)) - x2) < x5 →
             CT l E (d - 1) m_Mod_is [(.ref 24, 41), (.int (iN 3), 0)] M3 (fun v8 M8 =>
              ((((toI v8) = 0 ∨ (toI v8) = 1)) ∧ K (.int (toI v8), 0) M8))) ∧
            (¬ ((iN (M3 24 4 (x1).toNatClampNeg)) - x2) < x5 →
             (vp_in x3 4 ∧ ((x5 ≤ ((iN (M3 24 4 (x3).toNatClampNeg)) - x4) →
              G l E d m_Mod_pour 118 [(0, (.ref 24, 41)), (1, (.int x1, 0)), (2, (.int x2, 0)), (3, (.int x3, 0)), (4, (.int x4, 0)), (5, (.int x5, 0)), (6, (.int (iN 0), 0))] [] M3 K) ∧
             (¬ x5 ≤ ((iN (M3 24 4 (x3).toNatClampNeg)) - x4) →
              CT l E (d - 1) m_Mod_is [(.ref 24, 41), (.int (iN 3), 0)] M3 (fun v9 M9 =>
               ((((toI v9) = 0 ∨ (toI v9) = 1)) ∧ K (.int (toI v9), 0) M9))))))))) ∧
           (¬ (iN (M3 24 3 (x1).toNatClampNeg)) = (iN (M3 24 3 (x3).toNatClampNeg)) →
            CT l E (d - 1) m_Mod_is [(.ref 24, 41), (.int (iN 8), 0)] M3 (fun v10 M10 =>
             ((((toI v10) = 0 ∨ (toI v10) = 1)) ∧ K (.int (toI v10), 0) M10)))))) ∧
          ((iN (M3 24 4 (x3).toNatClampNeg)) = (iN (-1)) →
           CT l E (d - 1) m_Mod_is [(.ref 24, 41), (.int (iN 2), 0)] M3 (fun v11 M11 =>
            ((((toI v11) = 0 ∨ (toI v11) = 1)) ∧ K (.int (toI v11), 0) M11))))))))) ∧
        (¬ 0 ≤ x5 →
         CT l E (d - 1) m_Mod_is [(.ref 24, 41), (.int (iN 1), 0)] M3 (fun v12 M12 =>
          ((((toI v12) = 0 ∨ (toI v12) = 1)) ∧ K (.int (toI v12), 0) M12))))))))))))))) :
  G l E d m_Mod_pour 0 [(0, (.ref 24, 41)), (1, (.int x1, 0)), (2, (.int x2, 0)), (3, (.int x3, 0)), (4, (.int x4, 0)), (5, (.int x5, 0))] [] M K := G.blk 60 _ hd ok_Mod_pour rfl h
set_option maxRecDepth 100000 in
theorem b_Mod_pour_118 {l : Launch} {E : EnvT} {d : Nat} {K : AV → Mem → Prop} {M : Mem} {x1 : Int32} {x2 : Int32} {x3 : Int32} {x4 : Int32} {x5 : Int32} {x6 : Int32} (hd : 1 ≤ d)
  (h : ((x5 ≤ x6 →
   CT l E (d - 1) m_Mod_is [(.ref 24, 41), (.int (iN 0), 0)] M (fun v1 M1 =>
    ((((toI v1) = 0 ∨ (toI v1) = 1)) ∧ K (.int (toI v1), 0) M1))) ∧
  (¬ x5 ≤ x6 →
   ((x4 ≤ x2 →
    (vp_in ((((iN 60) * x1) + x2) + x6) 240 ∧ vp_in ((((iN 60) * x3) + x4) + x6) 240 ∧ G l E d m_Mod_pour 118 [(0, (.ref 24, 41)), (1, (.int x1, 0)), (2, (.int x2, 0)), (3, (.int x3, 0)), (4, (.int x4, 0)), (5, (.int x5, 0)), (6, (.int (x6 + iN 1), 0))] [] (upd3 M 24 5 (((((iN 60) * x3) + x4) + x6)).toNatClampNeg ((lI (M 24 5 (((((iN 60) * x1) + x2) + x6)).toNatClampNeg))).toInt) K)) ∧
   (¬ x4 ≤ x2 →
    (vp_in ((((iN 60) * x1) + x2) + ((x5 - (iN 1)) - x6)) 240 ∧ vp_in ((((iN 60) * x3) + x4) + ((x5 - (iN 1)) - x6)) 240 ∧ G l E d m_Mod_pour 118 [(0, (.ref 24, 41)), (1, (.int x1, 0)), (2, (.int x2, 0)), (3, (.int x3, 0)), (4, (.int x4, 0)), (5, (.int x5, 0)), (6, (.int (x6 + iN 1), 0))] [] (upd3 M 24 5 (((((iN 60) * x3) + x4) + ((x5 - (iN 1)) - x6))).toNatClampNeg ((lI (M 24 5 (((((iN 60) * x1) + x2) + ((x5 - (iN 1)) - x6))).toNatClampNeg))).toInt) K)))))) :
  G l E d m_Mod_pour 118 [(0, (.ref 24, 41)), (1, (.int x1, 0)), (2, (.int x2, 0)), (3, (.int x3, 0)), (4, (.int x4, 0)), (5, (.int x5, 0)), (6, (.int x6, 0))] [] M K := G.blk 60 _ hd ok_Mod_pour rfl h
def bt_Mod_four : BtT := [(0, [0, 1], true, [(0, .bipush 24, 2, 0, 0, 0, m0),
   (2, .istore_n 2, 1, 0, 0, 0, m0),
   (3, .nop, 0, 0, 0, 0, m0)]),
  (3, [0, 1, 2], true, [(3, .iload_n 2, 1, 0, 0, 0, m0),
   (4, .ifCond .lt 32, 3, 36, 0, 0, m0),
   (7, .nop, 0, 0, 0, 0, m0)]),
  (7, [], false, [(7, .aload_n 0, 1, 0, 0, 0, m0),
   (8, .getfield 30, 3, 8, 11, 1455, m0),
   (11, .aload_n 0, 1, 0, 0, 0, m0),
   (12, .getfield 96, 3, 10, 11, 1457, m0),
   (15, .iload_n 1, 1, 0, 0, 0, m0),
   (16, .iload_n 2, 1, 0, 0, 0, m0),
   (17, .ishr, 1, 0, 0, 0, m0),
   (18, .i2b, 1, 0, 0, 0, m0),
   (19, .bastore, 1, 0, 0, 0, m0),
   (20, .aload_n 0, 1, 0, 0, 0, m0),
   (21, .dup, 1, 0, 0, 0, m0),
   (22, .getfield 96, 3, 10, 11, 1457, m0),
   (25, .iconst 1, 1, 0, 0, 0, m0),
   (26, .iadd, 1, 0, 0, 0, m0),
   (27, .putfield 96, 3, 10, 11, 1457, m0),
   (30, .iinc 2 (-8), 3, 0, 0, 0, m0),
   (33, .goto (-30), 3, 3, 0, 0, m0)]),
  (36, [], false, [(36, .return_, 1, 0, 0, 0, m0)])]
theorem ok_Mod_four : okBt m_Mod_four bt_Mod_four = true := by decide +kernel
set_option maxRecDepth 100000 in
theorem b_Mod_four_0 {l : Launch} {E : EnvT} {d : Nat} {K : AV → Mem → Prop} {M : Mem} {x1 : Int32} (hd : 1 ≤ d)
  (h : G l E d m_Mod_four 3 [(0, (.ref 24, 41)), (1, (.int x1, 0)), (2, (.int (iN 24), 0))] [] M K) :
  G l E d m_Mod_four 0 [(0, (.ref 24, 41)), (1, (.int x1, 0))] [] M K := G.blk 60 _ hd ok_Mod_four rfl h
set_option maxRecDepth 100000 in
theorem b_Mod_four_3 {l : Launch} {E : EnvT} {d : Nat} {K : AV → Mem → Prop} {M : Mem} {x1 : Int32} {x2 : Int32} (hd : 1 ≤ d)
  (h : ((x2 < 0 →
   K (.null, 0) M) ∧
  (¬ x2 < 0 →
   (vp_in (iN (M 24 0 10)) 900 ∧ G l E d m_Mod_four 3 [(0, (.ref 24, 41)), (1, (.int x1, 0)), (2, (.int (x2 + iN (-8)), 0))] [] (upd3 (upd3 M 24 6 ((iN (M 24 0 10))).toNatClampNeg (((x1 >>> (x2 &&& 31))).toInt8.toInt32).toInt8.toInt32.toInt) 24 0 10 (((iN ((upd3 M 24 6 ((iN (M 24 0 10))).toNatClampNeg (((x1 >>> (x2 &&& 31))).toInt8.toInt32).toInt8.toInt32.toInt) 24 0 10)) + (iN 1))).toInt) K)))) :
  G l E d m_Mod_four 3 [(0, (.ref 24, 41)), (1, (.int x1, 0)), (2, (.int x2, 0))] [] M K := G.blk 60 _ hd ok_Mod_four rfl h
def bt_Mod_feed : BtT := [(0, [0, 1, 2, 3, 4, 5], true, [(0, .aload_n 0, 1, 0, 0, 0, m0),
   (1, .getfield 96, 3, 10, 11, 1457, m0),
   (4, .bipush 20, 2, 0, 0, 0, m0),
   (6, .iadd, 1, 0, 0, 0, m0),
   (7, .sipush 900, 3, 0, 0, 0, m0),
   (10, .if_icmp .le 5, 3, 15, 0, 0, m0),
   (13, .nop, 0, 0, 0, 0, m0)]),
  (13, [], false, [(13, .iconst (-1), 1, 0, 0, 0, m0),
   (14, .ireturn, 1, 0, 0, 0, m0)]),
  (15, [], false, [(15, .aload_n 0, 1, 0, 0, 0, m0),
   (16, .iload_n 1, 1, 0, 0, 0, m0),
   (17, .invokevirtual 99, 3, 0, 0, 1597, m_Mod_four),
   (20, .aload_n 0, 1, 0, 0, 0, m0),
   (21, .iload_n 2, 1, 0, 0, 0, m0),
   (22, .invokevirtual 99, 3, 0, 0, 1597, m_Mod_four),
   (25, .aload_n 0, 1, 0, 0, 0, m0),
   (26, .iload_n 3, 1, 0, 0, 0, m0),
   (27, .invokevirtual 99, 3, 0, 0, 1597, m_Mod_four),
   (30, .aload_n 0, 1, 0, 0, 0, m0),
   (31, .iload 4, 2, 0, 0, 0, m0),
   (33, .invokevirtual 99, 3, 0, 0, 1597, m_Mod_four),
   (36, .aload_n 0, 1, 0, 0, 0, m0),
   (37, .iload 5, 2, 0, 0, 0, m0),
   (39, .invokevirtual 99, 3, 0, 0, 1597, m_Mod_four),
   (42, .aload_n 0, 1, 0, 0, 0, m0),
   (43, .getfield 96, 3, 10, 11, 1457, m0),
   (46, .ireturn, 1, 0, 0, 0, m0)])]
theorem ok_Mod_feed : okBt m_Mod_feed bt_Mod_feed = true := by decide +kernel
set_option maxRecDepth 100000 in
theorem b_Mod_feed_0 {l : Launch} {E : EnvT} {d : Nat} {K : AV → Mem → Prop} {M : Mem} {x1 : Int32} {x2 : Int32} {x3 : Int32} {x4 : Int32} {x5 : Int32} (hd : 1 ≤ d)
  (h : ((((iN (M 24 0 10)) + (iN 20)) ≤ (iN 900) →
   CT l E (d - 1) m_Mod_four [(.ref 24, 41), (.int x1, 0)] M (fun v1 M1 =>
    CT l E (d - 1) m_Mod_four [(.ref 24, 41), (.int x2, 0)] M1 (fun v2 M2 =>
     CT l E (d - 1) m_Mod_four [(.ref 24, 41), (.int x3, 0)] M2 (fun v3 M3 =>
      CT l E (d - 1) m_Mod_four [(.ref 24, 41), (.int x4, 0)] M3 (fun v4 M4 =>
       CT l E (d - 1) m_Mod_four [(.ref 24, 41), (.int x5, 0)] M4 (fun v5 M5 =>
        K (.int (iN (M5 24 0 10)), 0) M5)))))) ∧
  (¬ ((iN (M 24 0 10)) + (iN 20)) ≤ (iN 900) →
   K (.int (iN (-1)), 0) M))) :
  G l E d m_Mod_feed 0 [(0, (.ref 24, 41)), (1, (.int x1, 0)), (2, (.int x2, 0)), (3, (.int x3, 0)), (4, (.int x4, 0)), (5, (.int x5, 0))] [] M K := G.blk 60 _ hd ok_Mod_feed rfl h
def bt_Mod_byteAt : BtT := [(0, [0, 1], true, [(0, .iload_n 1, 1, 0, 0, 0, m0),
   (1, .aload_n 0, 1, 0, 0, 0, m0),
   (2, .getfield 102, 3, 11, 11, 1458, m0),
   (5, .if_icmp .ge 16, 3, 21, 0, 0, m0),
   (8, .nop, 0, 0, 0, 0, m0)]),
  (8, [], false, [(8, .aload_n 0, 1, 0, 0, 0, m0),
   (9, .getfield 34, 3, 9, 11, 1456, m0),
   (12, .iload_n 1, 1, 0, 0, 0, m0),
   (13, .baload, 1, 0, 0, 0, m0),
   (14, .sipush 255, 3, 0, 0, 0, m0),
   (17, .iand, 1, 0, 0, 0, m0),
   (18, .goto 4, 3, 22, 0, 0, m0)]),
  (21, [], false, [(21, .iconst (-1), 1, 0, 0, 0, m0),
   (22, .nop, 0, 0, 0, 0, m0)]),
  (22, [], false, [(22, .ireturn, 1, 0, 0, 0, m0)])]
theorem ok_Mod_byteAt : okBt m_Mod_byteAt bt_Mod_byteAt = true := by decide +kernel
set_option maxRecDepth 100000 in
theorem b_Mod_byteAt_0 {l : Launch} {E : EnvT} {d : Nat} {K : AV → Mem → Prop} {M : Mem} {x1 : Int32} (hd : 1 ≤ d)
  (h : (((iN (M 24 0 11)) ≤ x1 →
   K (.int (iN (-1)), 0) M) ∧
  (¬ (iN (M 24 0 11)) ≤ x1 →
   (vp_in x1 900 ∧ K (.int ((iN (M 24 7 (x1).toNatClampNeg)) &&& (iN 255)), 0) M)))) :
  G l E d m_Mod_byteAt 0 [(0, (.ref 24, 41)), (1, (.int x1, 0))] [] M K := G.blk 60 _ hd ok_Mod_byteAt rfl h
def bt_Mod_isSmall : BtT := [(0, [0], true, [(0, .iload_n 0, 1, 0, 0, 0, m0),
   (1, .bipush 97, 2, 0, 0, 0, m0),
   (3, .if_icmp .lt 13, 3, 16, 0, 0, m0),
   (6, .nop, 0, 0, 0, 0, m0)]),
  (6, [], false, [(6, .iload_n 0, 1, 0, 0, 0, m0),
   (7, .bipush 122, 2, 0, 0, 0, m0),
   (9, .if_icmp .gt 7, 3, 16, 0, 0, m0),
   (12, .nop, 0, 0, 0, 0, m0)]),
  (12, [], false, [(12, .iconst 1, 1, 0, 0, 0, m0),
   (13, .goto 4, 3, 17, 0, 0, m0)]),
  (16, [], false, [(16, .iconst 0, 1, 0, 0, 0, m0),
   (17, .nop, 0, 0, 0, 0, m0)]),
  (17, [], false, [(17, .ireturn, 1, 0, 0, 0, m0)])]
theorem ok_Mod_isSmall : okBt m_Mod_isSmall bt_Mod_isSmall = true := by decide +kernel
set_option maxRecDepth 100000 in
theorem b_Mod_isSmall_0 {l : Launch} {E : EnvT} {d : Nat} {K : AV → Mem → Prop} {M : Mem} {x0 : Int32} (hd : 1 ≤ d)
  (h : ((x0 < (iN 97) →
   ((((iN 0) = 0 ∨ (iN 0) = 1)) ∧ K (.int (iN 0), 0) M)) ∧
  (¬ x0 < (iN 97) →
   (((iN 122) < x0 →
    ((((iN 0) = 0 ∨ (iN 0) = 1)) ∧ K (.int (iN 0), 0) M)) ∧
   (¬ (iN 122) < x0 →
    ((((iN 1) = 0 ∨ (iN 1) = 1)) ∧ K (.int (iN 1), 0) M)))))) :
  G l E d m_Mod_isSmall 0 [(0, (.int x0, 0))] [] M K := G.blk 60 _ hd ok_Mod_isSmall rfl h
def bt_Mod_isDigit : BtT := [(0, [0], true, [(0, .iload_n 0, 1, 0, 0, 0, m0),
   (1, .bipush 48, 2, 0, 0, 0, m0),
   (3, .if_icmp .lt 13, 3, 16, 0, 0, m0),
   (6, .nop, 0, 0, 0, 0, m0)]),
  (6, [], false, [(6, .iload_n 0, 1, 0, 0, 0, m0),
   (7, .bipush 57, 2, 0, 0, 0, m0),
   (9, .if_icmp .gt 7, 3, 16, 0, 0, m0),
   (12, .nop, 0, 0, 0, 0, m0)]),
  (12, [], false, [(12, .iconst 1, 1, 0, 0, 0, m0),
   (13, .goto 4, 3, 17, 0, 0, m0)]),
  (16, [], false, [(16, .iconst 0, 1, 0, 0, 0, m0),
   (17, .nop, 0, 0, 0, 0, m0)]),
  (17, [], false, [(17, .ireturn, 1, 0, 0, 0, m0)])]
theorem ok_Mod_isDigit : okBt m_Mod_isDigit bt_Mod_isDigit = true := by decide +kernel
set_option maxRecDepth 100000 in
theorem b_Mod_isDigit_0 {l : Launch} {E : EnvT} {d : Nat} {K : AV → Mem → Prop} {M : Mem} {x0 : Int32} (hd : 1 ≤ d)
  (h : ((x0 < (iN 48) →
   ((((iN 0) = 0 ∨ (iN 0) = 1)) ∧ K (.int (iN 0), 0) M)) ∧
  (¬ x0 < (iN 48) →
   (((iN 57) < x0 →
    ((((iN 0) = 0 ∨ (iN 0) = 1)) ∧ K (.int (iN 0), 0) M)) ∧
   (¬ (iN 57) < x0 →
    ((((iN 1) = 0 ∨ (iN 1) = 1)) ∧ K (.int (iN 1), 0) M)))))) :
  G l E d m_Mod_isDigit 0 [(0, (.int x0, 0))] [] M K := G.blk 60 _ hd ok_Mod_isDigit rfl h
def bt_Mod_ahead : BtT := [(0, [0], true, [(0, .aload_n 0, 1, 0, 0, 0, m0),
   (1, .aload_n 0, 1, 0, 0, 0, m0),
   (2, .getfield 105, 3, 14, 11, 1461, m0),
   (5, .invokevirtual 108, 3, 0, 0, 1617, m_Mod_byteAt),
   (8, .bipush 32, 2, 0, 0, 0, m0),
   (10, .if_icmp .eq 16, 3, 26, 0, 0, m0),
   (13, .nop, 0, 0, 0, 0, m0)]),
  (13, [], false, [(13, .aload_n 0, 1, 0, 0, 0, m0),
   (14, .aload_n 0, 1, 0, 0, 0, m0),
   (15, .getfield 105, 3, 14, 11, 1461, m0),
   (18, .invokevirtual 108, 3, 0, 0, 1617, m_Mod_byteAt),
   (21, .bipush 10, 2, 0, 0, 0, m0),
   (23, .if_icmp .ne 16, 3, 39, 0, 0, m0),
   (26, .nop, 0, 0, 0, 0, m0)]),
  (26, [], false, [(26, .aload_n 0, 1, 0, 0, 0, m0),
   (27, .dup, 1, 0, 0, 0, m0),
   (28, .getfield 105, 3, 14, 11, 1461, m0),
   (31, .iconst 1, 1, 0, 0, 0, m0),
   (32, .iadd, 1, 0, 0, 0, m0),
   (33, .putfield 105, 3, 14, 11, 1461, m0),
   (36, .goto (-36), 3, 0, 0, 0, m0)]),
  (39, [], false, [(39, .aload_n 0, 1, 0, 0, 0, m0),
   (40, .aload_n 0, 1, 0, 0, 0, m0),
   (41, .getfield 105, 3, 14, 11, 1461, m0),
   (44, .putfield 111, 3, 13, 11, 1460, m0),
   (47, .aload_n 0, 1, 0, 0, 0, m0),
   (48, .aload_n 0, 1, 0, 0, 0, m0),
   (49, .getfield 105, 3, 14, 11, 1461, m0),
   (52, .invokevirtual 108, 3, 0, 0, 1617, m_Mod_byteAt),
   (55, .istore_n 1, 1, 0, 0, 0, m0),
   (56, .aload_n 0, 1, 0, 0, 0, m0),
   (57, .iload_n 1, 1, 0, 0, 0, m0),
   (58, .putfield 114, 3, 15, 11, 1462, m0),
   (61, .iload_n 1, 1, 0, 0, 0, m0),
   (62, .iconst (-1), 1, 0, 0, 0, m0),
   (63, .if_icmp .ne 11, 3, 74, 0, 0, m0),
   (66, .nop, 0, 0, 0, 0, m0)]),
  (66, [], false, [(66, .aload_n 0, 1, 0, 0, 0, m0),
   (67, .iconst 0, 1, 0, 0, 0, m0),
   (68, .putfield 117, 3, 12, 11, 1459, m0),
   (71, .goto 180, 3, 251, 0, 0, m0)]),
  (74, [], false, [(74, .iload_n 1, 1, 0, 0, 0, m0),
   (75, .invokestatic 120, 3, 0, 0, 1621, m_Mod_isSmall),
   (78, .ifCond .eq 38, 3, 116, 0, 0, m0),
   (81, .nop, 0, 0, 0, 0, m0)]),
  (81, [0], true, [(81, .aload_n 0, 1, 0, 0, 0, m0),
   (82, .aload_n 0, 1, 0, 0, 0, m0),
   (83, .getfield 105, 3, 14, 11, 1461, m0),
   (86, .invokevirtual 108, 3, 0, 0, 1617, m_Mod_byteAt),
   (89, .invokestatic 120, 3, 0, 0, 1621, m_Mod_isSmall),
   (92, .ifCond .eq 16, 3, 108, 0, 0, m0),
   (95, .nop, 0, 0, 0, 0, m0)]),
  (95, [], false, [(95, .aload_n 0, 1, 0, 0, 0, m0),
   (96, .dup, 1, 0, 0, 0, m0),
   (97, .getfield 105, 3, 14, 11, 1461, m0),
   (100, .iconst 1, 1, 0, 0, 0, m0),
   (101, .iadd, 1, 0, 0, 0, m0),
   (102, .putfield 105, 3, 14, 11, 1461, m0),
   (105, .goto (-24), 3, 81, 0, 0, m0)]),
  (108, [], false, [(108, .aload_n 0, 1, 0, 0, 0, m0),
   (109, .iconst 2, 1, 0, 0, 0, m0),
   (110, .putfield 117, 3, 12, 11, 1459, m0),
   (113, .goto 138, 3, 251, 0, 0, m0)]),
  (116, [], false, [(116, .iload_n 1, 1, 0, 0, 0, m0),
   (117, .invokestatic 123, 3, 0, 0, 1624, m_Mod_isDigit),
   (120, .ifCond .eq 88, 3, 208, 0, 0, m0),
   (123, .nop, 0, 0, 0, 0, m0)]),
  (123, [], false, [(123, .aload_n 0, 1, 0, 0, 0, m0),
   (124, .iconst 0, 1, 0, 0, 0, m0),
   (125, .putfield 114, 3, 15, 11, 1462, m0),
   (128, .nop, 0, 0, 0, 0, m0)]),
  (128, [0], true, [(128, .aload_n 0, 1, 0, 0, 0, m0),
   (129, .aload_n 0, 1, 0, 0, 0, m0),
   (130, .getfield 105, 3, 14, 11, 1461, m0),
   (133, .invokevirtual 108, 3, 0, 0, 1617, m_Mod_byteAt),
   (136, .invokestatic 123, 3, 0, 0, 1624, m_Mod_isDigit),
   (139, .ifCond .eq 44, 3, 183, 0, 0, m0),
   (142, .nop, 0, 0, 0, 0, m0)]),
  (142, [], false, [(142, .aload_n 0, 1, 0, 0, 0, m0),
   (143, .ldc 126, 2, 1, 100000, 1627, m0),
   (145, .bipush 10, 2, 0, 0, 0, m0),
   (147, .aload_n 0, 1, 0, 0, 0, m0),
   (148, .getfield 114, 3, 15, 11, 1462, m0),
   (151, .imul, 1, 0, 0, 0, m0),
   (152, .aload_n 0, 1, 0, 0, 0, m0),
   (153, .aload_n 0, 1, 0, 0, 0, m0),
   (154, .getfield 105, 3, 14, 11, 1461, m0),
   (157, .invokevirtual 108, 3, 0, 0, 1617, m_Mod_byteAt),
   (160, .iadd, 1, 0, 0, 0, m0),
   (161, .bipush 48, 2, 0, 0, 0, m0),
   (163, .isub, 1, 0, 0, 0, m0),
   (164, .invokestatic 127, 3, 0, 0, 1628, m_Math_min),
   (167, .putfield 114, 3, 15, 11, 1462, m0),
   (170, .aload_n 0, 1, 0, 0, 0, m0),
   (171, .dup, 1, 0, 0, 0, m0),
   (172, .getfield 105, 3, 14, 11, 1461, m0),
   (175, .iconst 1, 1, 0, 0, 0, m0),
   (176, .iadd, 1, 0, 0, 0, m0),
   (177, .putfield 105, 3, 14, 11, 1461, m0),
   (180, .goto (-52), 3, 128, 0, 0, m0)]),
  (183, [], false, [(183, .aload_n 0, 1, 0, 0, 0, m0),
   (184, .aload_n 0, 1, 0, 0, 0, m0),
   (185, .getfield 105, 3, 14, 11, 1461, m0),
   (188, .aload_n 0, 1, 0, 0, 0, m0),
   (189, .getfield 111, 3, 13, 11, 1460, m0),
   (192, .isub, 1, 0, 0, 0, m0),
   (193, .iconst 4, 1, 0, 0, 0, m0),
   (194, .if_icmp .le 7, 3, 201, 0, 0, m0),
   (197, .nop, 0, 0, 0, 0, m0)]),
  (197, [], false, [(197, .iconst 1, 1, 0, 0, 0, m0),
   (198, .goto 4, 3, 202, 0, 0, m0)]),
  (201, [], false, [(201, .iconst 3, 1, 0, 0, 0, m0),
   (202, .nop, 0, 0, 0, 0, m0)]),
  (202, [], false, [(202, .putfield 117, 3, 12, 11, 1459, m0),
   (205, .goto 46, 3, 251, 0, 0, m0)]),
  (208, [], false, [(208, .aload_n 0, 1, 0, 0, 0, m0),
   (209, .dup, 1, 0, 0, 0, m0),
   (210, .getfield 105, 3, 14, 11, 1461, m0),
   (213, .iconst 1, 1, 0, 0, 0, m0),
   (214, .iadd, 1, 0, 0, 0, m0),
   (215, .putfield 105, 3, 14, 11, 1461, m0),
   (218, .aload_n 0, 1, 0, 0, 0, m0),
   (219, .iload_n 1, 1, 0, 0, 0, m0),
   (220, .bipush 59, 2, 0, 0, 0, m0),
   (222, .if_icmp .eq 21, 3, 243, 0, 0, m0),
   (225, .nop, 0, 0, 0, 0, m0)]),
  (225, [], false, [(225, .iload_n 1, 1, 0, 0, 0, m0),
   (226, .bipush 60, 2, 0, 0, 0, m0),
   (228, .if_icmp .eq 15, 3, 243, 0, 0, m0),
   (231, .nop, 0, 0, 0, 0, m0)]),
  (231, [], false, [(231, .iload_n 1, 1, 0, 0, 0, m0),
   (232, .bipush 62, 2, 0, 0, 0, m0),
   (234, .if_icmp .eq 9, 3, 243, 0, 0, m0),
   (237, .nop, 0, 0, 0, 0, m0)]),
  (237, [], false, [(237, .iload_n 1, 1, 0, 0, 0, m0),
   (238, .bipush 61, 2, 0, 0, 0, m0),
   (240, .if_icmp .ne 7, 3, 247, 0, 0, m0),
   (243, .nop, 0, 0, 0, 0, m0)]),
  (243, [], false, [(243, .iconst 4, 1, 0, 0, 0, m0),
   (244, .goto 4, 3, 248, 0, 0, m0)]),
  (247, [], false, [(247, .iconst 1, 1, 0, 0, 0, m0),
   (248, .nop, 0, 0, 0, 0, m0)]),
  (248, [], false, [(248, .putfield 117, 3, 12, 11, 1459, m0),
   (251, .nop, 0, 0, 0, 0, m0)]),
  (251, [], false, [(251, .return_, 1, 0, 0, 0, m0)])]
theorem ok_Mod_ahead : okBt m_Mod_ahead bt_Mod_ahead = true := by decide +kernel
set_option maxRecDepth 100000 in
theorem b_Mod_ahead_0 {l : Launch} {E : EnvT} {d : Nat} {K : AV → Mem → Prop} {M : Mem}  (hd : 1 ≤ d)
  (h : CT l E (d - 1) m_Mod_byteAt [(.ref 24, 41), (.int (iN (M 24 0 14)), 0)] M (fun v1 M1 =>
   (((toI v1) = (iN 32) →
    G l E d m_Mod_ahead 0 [(0, (.ref 24, 41))] [] (upd3 M1 24 0 14 (((iN (M1 24 0 14)) + (iN 1))).toInt) K) ∧
   (¬ (toI v1) = (iN 32) →
    CT l E (d - 1) m_Mod_byteAt [(.ref 24, 41), (.int (iN (M1 24 0 14)), 0)] M1 (fun v2 M2 =>
     ((¬ (toI v2) = (iN 10) →
      CT l E (d - 1) m_Mod_byteAt [(.ref 24, 41), (.int (iN ((upd3 M2 24 0 13 ((iN (M2 24 0 14))).toInt) 24 0 14)), 0)] (upd3 M2 24 0 13 ((iN (M2 24 0 14))).toInt) (fun v3 M3 =>
       ((¬ (toI v3) = (iN (-1)) →
        CT l E (d - 1) m_Mod_isSmall [(.int (toI v3), 0)] (upd3 M3 24 0 15 ((toI v3)).toInt) (fun v4 M4 =>
         (((toI v4) = 0 →
          CT l E (d - 1) m_Mod_isDigit [(.int (toI v3), 0)] M4 (fun v5 M5 =>
           (((toI v5) = 0 →
            (((toI v3) = (iN 59) →
             K (.null, 0) (upd3 (upd3 M5 24 0 14 (((iN (M5 24 0 14)) + (iN 1))).toInt) 24 0 12 ((iN 4)).toInt)) ∧
            (¬ (toI v3) = (iN 59) →
             (((toI v3) = (iN 60) →
              K (.null, 0) (upd3 (upd3 M5 24 0 14 (((iN (M5 24 0 14)) + (iN 1))).toInt) 24 0 12 ((iN 4)).toInt)) ∧
             (¬ (toI v3) = (iN 60) →
              (((toI v3) = (iN 62) →
               K (.null, 0) (upd3 (upd3 M5 24 0 14 (((iN (M5 24 0 14)) + (iN 1))).toInt) 24 0 12 ((iN 4)).toInt)) ∧
              (¬ (toI v3) = (iN 62) →
               ((¬ (toI v3) = (iN 61) →
                K (.null, 0) (upd3 (upd3 M5 24 0 14 (((iN (M5 24 0 14)) + (iN 1))).toInt) 24 0 12 ((iN 1)).toInt)) ∧
               ((toI v3) = (iN 61) →
                K (.null, 0) (upd3 (upd3 M5 24 0 14 (((iN (M5 24 0 14)) + (iN 1))).toInt) 24 0 12 ((iN 4)).toInt)))))))))) ∧
           (¬ (toI v5) = 0 →
            G l E d m_Mod_ahead 128 [(0, (.ref 24, 41))] [] (upd3 M5 24 0 15 ((iN 0)).toInt) K)))) ∧
         (¬ (toI v4) = 0 →
          G l E d m_Mod_ahead 81 [(0, (.ref 24, 41))] [] M4 K)))) ∧
       ((toI v3) = (iN (-1)) →
        K (.null, 0) (upd3 (upd3 M3 24 0 15 ((toI v3)).toInt) 24 0 12 ((iN 0)).toInt))))) ∧
     ((toI v2) = (iN 10) →
      G l E d m_Mod_ahead 0 [(0, (.ref 24, 41))] [] (upd3 M2 24 0 14 (((iN (M2 24 0 14)) + (iN 1))).toInt) K))))))) :
  G l E d m_Mod_ahead 0 [(0, (.ref 24, 41))] [] M K := G.blk 60 _ hd ok_Mod_ahead rfl h
set_option maxRecDepth 100000 in
theorem b_Mod_ahead_81 {l : Launch} {E : EnvT} {d : Nat} {K : AV → Mem → Prop} {M : Mem}  (hd : 1 ≤ d)
  (h : CT l E (d - 1) m_Mod_byteAt [(.ref 24, 41), (.int (iN (M 24 0 14)), 0)] M (fun v1 M1 =>
   CT l E (d - 1) m_Mod_isSmall [(.int (toI v1), 0)] M1 (fun v2 M2 =>
    (((toI v2) = 0 →
     K (.null, 0) (upd3 M2 24 0 12 ((iN 2)).toInt)) ∧
    (¬ (toI v2) = 0 →
     G l E d m_Mod_ahead 81 [(0, (.ref 24, 41))] [] (upd3 M2 24 0 14 (((iN (M2 24 0 14)) + (iN 1))).toInt) K))))) :
  G l E d m_Mod_ahead 81 [(0, (.ref 24, 41))] [] M K := G.blk 60 _ hd ok_Mod_ahead rfl h
set_option maxRecDepth 100000 in
theorem b_Mod_ahead_128 {l : Launch} {E : EnvT} {d : Nat} {K : AV → Mem → Prop} {M : Mem}  (hd : 1 ≤ d)
  (h : CT l E (d - 1) m_Mod_byteAt [(.ref 24, 41), (.int (iN (M 24 0 14)), 0)] M (fun v1 M1 =>
   CT l E (d - 1) m_Mod_isDigit [(.int (toI v1), 0)] M1 (fun v2 M2 =>
    (((toI v2) = 0 →
     ((((iN (M2 24 0 14)) - (iN (M2 24 0 13))) ≤ (iN 4) →
      K (.null, 0) (upd3 M2 24 0 12 ((iN 3)).toInt)) ∧
     (¬ ((iN (M2 24 0 14)) - (iN (M2 24 0 13))) ≤ (iN 4) →
      K (.null, 0) (upd3 M2 24 0 12 ((iN 1)).toInt)))) ∧
    (¬ (toI v2) = 0 →
     CT l E (d - 1) m_Mod_byteAt [(.ref 24, 41), (.int (iN (M2 24 0 14)), 0)] M2 (fun v3 M3 =>
      CT l E (d - 1) m_Math_min [(.int (iN 100000), 0), (.int ((((iN 10) * (iN (M2 24 0 15))) + (toI v3)) - (iN 48)), 0)] M3 (fun v4 M4 =>
       G l E d m_Mod_ahead 128 [(0, (.ref 24, 41))] [] (upd3 (upd3 M4 24 0 15 ((toI v4)).toInt) 24 0 14 (((iN ((upd3 M4 24 0 15 ((toI v4)).toInt) 24 0 14)) + (iN 1))).toInt) K))))))) :
  G l E d m_Mod_ahead 128 [(0, (.ref 24, 41))] [] M K := G.blk 60 _ hd ok_Mod_ahead rfl h
def bt_Mod_begins : BtT := [(0, [0, 1, 2], true, [(0, .iload_n 1, 1, 0, 0, 0, m0),
   (1, .ifCond .lt 16, 3, 17, 0, 0, m0),
   (4, .nop, 0, 0, 0, 0, m0)]),
  (4, [], false, [(4, .iload_n 1, 1, 0, 0, 0, m0),
   (5, .aload_n 0, 1, 0, 0, 0, m0),
   (6, .getfield 96, 3, 10, 11, 1457, m0),
   (9, .if_icmp .gt 8, 3, 17, 0, 0, m0),
   (12, .nop, 0, 0, 0, 0, m0)]),
  (12, [], false, [(12, .iload_n 1, 1, 0, 0, 0, m0),
   (13, .iload_n 2, 1, 0, 0, 0, m0),
   (14, .if_icmp .le 5, 3, 19, 0, 0, m0),
   (17, .nop, 0, 0, 0, 0, m0)]),
  (17, [], false, [(17, .iconst 0, 1, 0, 0, 0, m0),
   (18, .ireturn, 1, 0, 0, 0, m0)]),
  (19, [], false, [(19, .aload_n 0, 1, 0, 0, 0, m0),
   (20, .iload_n 1, 1, 0, 0, 0, m0),
   (21, .putfield 102, 3, 11, 11, 1458, m0),
   (24, .iconst 0, 1, 0, 0, 0, m0),
   (25, .istore_n 3, 1, 0, 0, 0, m0),
   (26, .nop, 0, 0, 0, 0, m0)]),
  (26, [0, 1, 3], true, [(26, .iload_n 3, 1, 0, 0, 0, m0),
   (27, .iload_n 1, 1, 0, 0, 0, m0),
   (28, .if_icmp .ge 21, 3, 49, 0, 0, m0),
   (31, .nop, 0, 0, 0, 0, m0)]),
  (31, [], false, [(31, .aload_n 0, 1, 0, 0, 0, m0),
   (32, .getfield 34, 3, 9, 11, 1456, m0),
   (35, .iload_n 3, 1, 0, 0, 0, m0),
   (36, .aload_n 0, 1, 0, 0, 0, m0),
   (37, .getfield 30, 3, 8, 11, 1455, m0),
   (40, .iload_n 3, 1, 0, 0, 0, m0),
   (41, .baload, 1, 0, 0, 0, m0),
   (42, .bastore, 1, 0, 0, 0, m0),
   (43, .iinc 3 1, 3, 0, 0, 0, m0),
   (46, .goto (-20), 3, 26, 0, 0, m0)]),
  (49, [], false, [(49, .aload_n 0, 1, 0, 0, 0, m0),
   (50, .iconst 0, 1, 0, 0, 0, m0),
   (51, .putfield 96, 3, 10, 11, 1457, m0),
   (54, .aload_n 0, 1, 0, 0, 0, m0),
   (55, .iconst 0, 1, 0, 0, 0, m0),
   (56, .putfield 142, 3, 18, 11, 1465, m0),
   (59, .aload_n 0, 1, 0, 0, 0, m0),
   (60, .iconst (-1), 1, 0, 0, 0, m0),
   (61, .putfield 41, 3, 17, 11, 1464, m0),
   (64, .aload_n 0, 1, 0, 0, 0, m0),
   (65, .iconst 0, 1, 0, 0, 0, m0),
   (66, .putfield 105, 3, 14, 11, 1461, m0),
   (69, .aload_n 0, 1, 0, 0, 0, m0),
   (70, .iconst 0, 1, 0, 0, 0, m0),
   (71, .putfield 145, 3, 19, 11, 1466, m0),
   (74, .aload_n 0, 1, 0, 0, 0, m0),
   (75, .invokevirtual 148, 3, 0, 0, 1613, m_Mod_ahead),
   (78, .iconst 1, 1, 0, 0, 0, m0),
   (79, .ireturn, 1, 0, 0, 0, m0)])]
theorem ok_Mod_begins : okBt m_Mod_begins bt_Mod_begins = true := by decide +kernel
set_option maxRecDepth 100000 in
theorem b_Mod_begins_0 {l : Launch} {E : EnvT} {d : Nat} {K : AV → Mem → Prop} {M : Mem} {x1 : Int32} {x2 : Int32} (hd : 1 ≤ d)
  (h : ((x1 < 0 →
   ((((iN 0) = 0 ∨ (iN 0) = 1)) ∧ K (.int (iN 0), 0) M)) ∧
  (¬ x1 < 0 →
   (((iN (M 24 0 10)) < x1 →
    ((((iN 0) = 0 ∨ (iN 0) = 1)) ∧ K (.int (iN 0), 0) M)) ∧
   (¬ (iN (M 24 0 10)) < x1 →
    ((x1 ≤ x2 →
     G l E d m_Mod_begins 26 [(0, (.ref 24, 41)), (1, (.int x1, 0)), (3, (.int (iN 0), 0))] [] (upd3 M 24 0 11 (x1).toInt) K) ∧
    (¬ x1 ≤ x2 →
     ((((iN 0) = 0 ∨ (iN 0) = 1)) ∧ K (.int (iN 0), 0) M)))))))) :
  G l E d m_Mod_begins 0 [(0, (.ref 24, 41)), (1, (.int x1, 0)), (2, (.int x2, 0))] [] M K := G.blk 60 _ hd ok_Mod_begins rfl h
set_option maxRecDepth 100000 in
theorem b_Mod_begins_26 {l : Launch} {E : EnvT} {d : Nat} {K : AV → Mem → Prop} {M : Mem} {x1 : Int32} {x3 : Int32} (hd : 1 ≤ d)
  (h : ((x1 ≤ x3 →
   CT l E (d - 1) m_Mod_ahead [(.ref 24, 41)] (upd3 (upd3 (upd3 (upd3 (upd3 M 24 0 10 ((iN 0)).toInt) 24 0 18 ((iN 0)).toInt) 24 0 17 ((iN (-1))).toInt) 24 0 14 ((iN 0)).toInt) 24 0 19 ((iN 0)).toInt) (fun v1 M1 =>
    ((((iN 1) = 0 ∨ (iN 1) = 1)) ∧ K (.int (iN 1), 0) M1))) ∧
  (¬ x1 ≤ x3 →
   (vp_in x3 900 ∧ vp_in x3 900 ∧ G l E d m_Mod_begins 26 [(0, (.ref 24, 41)), (1, (.int x1, 0)), (3, (.int (x3 + iN 1), 0))] [] (upd3 M 24 7 (x3).toNatClampNeg ((iN (M 24 6 (x3).toNatClampNeg))).toInt8.toInt32.toInt) K)))) :
  G l E d m_Mod_begins 26 [(0, (.ref 24, 41)), (1, (.int x1, 0)), (3, (.int x3, 0))] [] M K := G.blk 60 _ hd ok_Mod_begins rfl h
def bt_Mod_refuse : BtT := [(0, [0, 1], true, [(0, .aload_n 0, 1, 0, 0, 0, m0),
   (1, .iload_n 1, 1, 0, 0, 0, m0),
   (2, .putfield 66, 3, 2, 11, 1449, m0),
   (5, .iconst (-1), 1, 0, 0, 0, m0),
   (6, .ireturn, 1, 0, 0, 0, m0)])]
theorem ok_Mod_refuse : okBt m_Mod_refuse bt_Mod_refuse = true := by decide +kernel
set_option maxRecDepth 100000 in
theorem b_Mod_refuse_0 {l : Launch} {E : EnvT} {d : Nat} {K : AV → Mem → Prop} {M : Mem} {x1 : Int32} (hd : 1 ≤ d)
  (h : K (.int (iN (-1)), 0) (upd3 M 24 0 2 (x1).toInt)) :
  G l E d m_Mod_refuse 0 [(0, (.ref 24, 41)), (1, (.int x1, 0))] [] M K := G.blk 60 _ hd ok_Mod_refuse rfl h
def bt_Mod_plain : BtT := [(0, [0, 1], true, [(0, .iconst 0, 1, 0, 0, 0, m0),
   (1, .istore_n 2, 1, 0, 0, 0, m0),
   (2, .nop, 0, 0, 0, 0, m0)]),
  (2, [0, 1, 2], true, [(2, .iload_n 2, 1, 0, 0, 0, m0),
   (3, .sipush 602, 3, 0, 0, 0, m0),
   (6, .if_icmp .ge 18, 3, 24, 0, 0, m0),
   (9, .nop, 0, 0, 0, 0, m0)]),
  (9, [], false, [(9, .aload_n 0, 1, 0, 0, 0, m0),
   (10, .getfield 7, 3, 0, 11, 1447, m0),
   (13, .iload_n 1, 1, 0, 0, 0, m0),
   (14, .iload_n 2, 1, 0, 0, 0, m0),
   (15, .iadd, 1, 0, 0, 0, m0),
   (16, .iconst 0, 1, 0, 0, 0, m0),
   (17, .iastore, 1, 0, 0, 0, m0),
   (18, .iinc 2 1, 3, 0, 0, 0, m0),
   (21, .goto (-19), 3, 2, 0, 0, m0)]),
  (24, [], false, [(24, .iconst 0, 1, 0, 0, 0, m0),
   (25, .istore_n 2, 1, 0, 0, 0, m0),
   (26, .nop, 0, 0, 0, 0, m0)]),
  (26, [0, 1, 2], true, [(26, .iload_n 2, 1, 0, 0, 0, m0),
   (27, .bipush 48, 2, 0, 0, 0, m0),
   (29, .if_icmp .ge 21, 3, 50, 0, 0, m0),
   (32, .nop, 0, 0, 0, 0, m0)]),
  (32, [], false, [(32, .aload_n 0, 1, 0, 0, 0, m0),
   (33, .getfield 7, 3, 0, 11, 1447, m0),
   (36, .iload_n 1, 1, 0, 0, 0, m0),
   (37, .bipush 118, 2, 0, 0, 0, m0),
   (39, .iadd, 1, 0, 0, 0, m0),
   (40, .iload_n 2, 1, 0, 0, 0, m0),
   (41, .iadd, 1, 0, 0, 0, m0),
   (42, .iconst (-1), 1, 0, 0, 0, m0),
   (43, .iastore, 1, 0, 0, 0, m0),
   (44, .iinc 2 1, 3, 0, 0, 0, m0),
   (47, .goto (-21), 3, 26, 0, 0, m0)]),
  (50, [], false, [(50, .aload_n 0, 1, 0, 0, 0, m0),
   (51, .getfield 7, 3, 0, 11, 1447, m0),
   (54, .iload_n 1, 1, 0, 0, 0, m0),
   (55, .iconst 4, 1, 0, 0, 0, m0),
   (56, .iadd, 1, 0, 0, 0, m0),
   (57, .iconst (-1), 1, 0, 0, 0, m0),
   (58, .iastore, 1, 0, 0, 0, m0),
   (59, .return_, 1, 0, 0, 0, m0)])]
theorem ok_Mod_plain : okBt m_Mod_plain bt_Mod_plain = true := by decide +kernel
set_option maxRecDepth 100000 in
theorem b_Mod_plain_0 {l : Launch} {E : EnvT} {d : Nat} {K : AV → Mem → Prop} {M : Mem} {x1 : Int32} (hd : 1 ≤ d)
  (h : G l E d m_Mod_plain 2 [(0, (.ref 24, 41)), (1, (.int x1, 0)), (2, (.int (iN 0), 0))] [] M K) :
  G l E d m_Mod_plain 0 [(0, (.ref 24, 41)), (1, (.int x1, 0))] [] M K := G.blk 60 _ hd ok_Mod_plain rfl h
set_option maxRecDepth 100000 in
theorem b_Mod_plain_2 {l : Launch} {E : EnvT} {d : Nat} {K : AV → Mem → Prop} {M : Mem} {x1 : Int32} {x2 : Int32} (hd : 1 ≤ d)
  (h : (((iN 602) ≤ x2 →
   G l E d m_Mod_plain 26 [(0, (.ref 24, 41)), (1, (.int x1, 0)), (2, (.int (iN 0), 0))] [] M K) ∧
  (¬ (iN 602) ≤ x2 →
   (vp_in (x1 + x2) 3612 ∧ G l E d m_Mod_plain 2 [(0, (.ref 24, 41)), (1, (.int x1, 0)), (2, (.int (x2 + iN 1), 0))] [] (upd3 M 24 1 ((x1 + x2)).toNatClampNeg ((iN 0)).toInt) K)))) :
  G l E d m_Mod_plain 2 [(0, (.ref 24, 41)), (1, (.int x1, 0)), (2, (.int x2, 0))] [] M K := G.blk 60 _ hd ok_Mod_plain rfl h
set_option maxRecDepth 100000 in
theorem b_Mod_plain_26 {l : Launch} {E : EnvT} {d : Nat} {K : AV → Mem → Prop} {M : Mem} {x1 : Int32} {x2 : Int32} (hd : 1 ≤ d)
  (h : (((iN 48) ≤ x2 →
   (vp_in (x1 + (iN 4)) 3612 ∧ K (.null, 0) (upd3 M 24 1 ((x1 + (iN 4))).toNatClampNeg ((iN (-1))).toInt))) ∧
  (¬ (iN 48) ≤ x2 →
   (vp_in ((x1 + (iN 118)) + x2) 3612 ∧ G l E d m_Mod_plain 26 [(0, (.ref 24, 41)), (1, (.int x1, 0)), (2, (.int (x2 + iN 1), 0))] [] (upd3 M 24 1 (((x1 + (iN 118)) + x2)).toNatClampNeg ((iN (-1))).toInt) K)))) :
  G l E d m_Mod_plain 26 [(0, (.ref 24, 41)), (1, (.int x1, 0)), (2, (.int x2, 0))] [] M K := G.blk 60 _ hd ok_Mod_plain rfl h
def bt_Mod_inWords : BtT := [(0, [0, 1], true, [(0, .aload_n 0, 1, 0, 0, 0, m0),
   (1, .getfield 117, 3, 12, 11, 1459, m0),
   (4, .iconst 2, 1, 0, 0, 0, m0),
   (5, .if_icmp .eq 5, 3, 10, 0, 0, m0),
   (8, .nop, 0, 0, 0, 0, m0)]),
  (8, [], false, [(8, .iconst (-1), 1, 0, 0, 0, m0),
   (9, .ireturn, 1, 0, 0, 0, m0)]),
  (10, [], false, [(10, .iconst 0, 1, 0, 0, 0, m0),
   (11, .istore_n 2, 1, 0, 0, 0, m0),
   (12, .iconst 1, 1, 0, 0, 0, m0),
   (13, .istore_n 3, 1, 0, 0, 0, m0),
   (14, .nop, 0, 0, 0, 0, m0)]),
  (14, [0, 1, 2, 3], true, [(14, .iload_n 3, 1, 0, 0, 0, m0),
   (15, .aload_n 1, 1, 0, 0, 0, m0),
   (16, .invokevirtual 132, 3, 0, 0, 1642, m_Str_length),
   (19, .if_icmp .ge 114, 3, 133, 0, 0, m0),
   (22, .nop, 0, 0, 0, 0, m0)]),
  (22, [], false, [(22, .iload_n 3, 1, 0, 0, 0, m0),
   (23, .istore 4, 2, 0, 0, 0, m0),
   (25, .nop, 0, 0, 0, 0, m0)]),
  (25, [0, 1, 2, 3, 4], true, [(25, .aload_n 1, 1, 0, 0, 0, m0),
   (26, .iload 4, 2, 0, 0, 0, m0),
   (28, .invokevirtual 138, 3, 0, 0, 1643, m_Str_charAt),
   (31, .bipush 32, 2, 0, 0, 0, m0),
   (33, .if_icmp .eq 9, 3, 42, 0, 0, m0),
   (36, .nop, 0, 0, 0, 0, m0)]),
  (36, [], false, [(36, .iinc 4 1, 3, 0, 0, 0, m0),
   (39, .goto (-14), 3, 25, 0, 0, m0)]),
  (42, [], false, [(42, .iload 4, 2, 0, 0, 0, m0),
   (44, .iload_n 3, 1, 0, 0, 0, m0),
   (45, .isub, 1, 0, 0, 0, m0),
   (46, .aload_n 0, 1, 0, 0, 0, m0),
   (47, .getfield 105, 3, 14, 11, 1461, m0),
   (50, .aload_n 0, 1, 0, 0, 0, m0),
   (51, .getfield 111, 3, 13, 11, 1460, m0),
   (54, .isub, 1, 0, 0, 0, m0),
   (55, .if_icmp .ne 7, 3, 62, 0, 0, m0),
   (58, .nop, 0, 0, 0, 0, m0)]),
  (58, [], false, [(58, .iconst 1, 1, 0, 0, 0, m0),
   (59, .goto 4, 3, 63, 0, 0, m0)]),
  (62, [], false, [(62, .iconst 0, 1, 0, 0, 0, m0),
   (63, .nop, 0, 0, 0, 0, m0)]),
  (63, [], false, [(63, .istore 5, 2, 0, 0, 0, m0),
   (65, .iload_n 3, 1, 0, 0, 0, m0),
   (66, .istore 6, 2, 0, 0, 0, m0),
   (68, .nop, 0, 0, 0, 0, m0)]),
  (68, [0, 1, 2, 3, 4, 5, 6], true, [(68, .iload 6, 2, 0, 0, 0, m0),
   (70, .iload 4, 2, 0, 0, 0, m0),
   (72, .if_icmp .ge 43, 3, 115, 0, 0, m0),
   (75, .nop, 0, 0, 0, 0, m0)]),
  (75, [], false, [(75, .iload 5, 2, 0, 0, 0, m0),
   (77, .ifCond .eq 38, 3, 115, 0, 0, m0),
   (80, .nop, 0, 0, 0, 0, m0)]),
  (80, [], false, [(80, .aload_n 1, 1, 0, 0, 0, m0),
   (81, .iload 6, 2, 0, 0, 0, m0),
   (83, .invokevirtual 138, 3, 0, 0, 1643, m_Str_charAt),
   (86, .aload_n 0, 1, 0, 0, 0, m0),
   (87, .aload_n 0, 1, 0, 0, 0, m0),
   (88, .getfield 111, 3, 13, 11, 1460, m0),
   (91, .iload 6, 2, 0, 0, 0, m0),
   (93, .iadd, 1, 0, 0, 0, m0),
   (94, .iload_n 3, 1, 0, 0, 0, m0),
   (95, .isub, 1, 0, 0, 0, m0),
   (96, .invokevirtual 108, 3, 0, 0, 1617, m_Mod_byteAt),
   (99, .if_icmp .ne 7, 3, 106, 0, 0, m0),
   (102, .nop, 0, 0, 0, 0, m0)]),
  (102, [], false, [(102, .iconst 1, 1, 0, 0, 0, m0),
   (103, .goto 4, 3, 107, 0, 0, m0)]),
  (106, [], false, [(106, .iconst 0, 1, 0, 0, 0, m0),
   (107, .nop, 0, 0, 0, 0, m0)]),
  (107, [], false, [(107, .istore 5, 2, 0, 0, 0, m0),
   (109, .iinc 6 1, 3, 0, 0, 0, m0),
   (112, .goto (-44), 3, 68, 0, 0, m0)]),
  (115, [], false, [(115, .iload 5, 2, 0, 0, 0, m0),
   (117, .ifCond .eq 5, 3, 122, 0, 0, m0),
   (120, .nop, 0, 0, 0, 0, m0)]),
  (120, [], false, [(120, .iload_n 2, 1, 0, 0, 0, m0),
   (121, .ireturn, 1, 0, 0, 0, m0)]),
  (122, [], false, [(122, .iinc 2 1, 3, 0, 0, 0, m0),
   (125, .iload 4, 2, 0, 0, 0, m0),
   (127, .iconst 1, 1, 0, 0, 0, m0),
   (128, .iadd, 1, 0, 0, 0, m0),
   (129, .istore_n 3, 1, 0, 0, 0, m0),
   (130, .goto (-116), 3, 14, 0, 0, m0)]),
  (133, [], false, [(133, .iconst (-1), 1, 0, 0, 0, m0),
   (134, .ireturn, 1, 0, 0, 0, m0)])]
theorem ok_Mod_inWords : okBt m_Mod_inWords bt_Mod_inWords = true := by decide +kernel
set_option maxRecDepth 100000 in
theorem b_Mod_inWords_0 {l : Launch} {E : EnvT} {d : Nat} {K : AV → Mem → Prop} {M : Mem} {r2 : Nat}  (hd : 1 ≤ d)
  (h : (((iN (M 24 0 12)) = (iN 2) →
   G l E d m_Mod_inWords 14 [(0, (.ref 24, 41)), (1, (.ref r2, 999)), (2, (.int (iN 0), 0)), (3, (.int (iN 1), 0))] [] M K) ∧
  (¬ (iN (M 24 0 12)) = (iN 2) →
   K (.int (iN (-1)), 0) M))) :
  G l E d m_Mod_inWords 0 [(0, (.ref 24, 41)), (1, (.ref r2, 999))] [] M K := G.blk 60 _ hd ok_Mod_inWords rfl h
set_option maxRecDepth 100000 in
theorem b_Mod_inWords_14 {l : Launch} {E : EnvT} {d : Nat} {K : AV → Mem → Prop} {M : Mem} {r2 : Nat} {x2 : Int32} {x3 : Int32} (hd : 1 ≤ d)
  (h : CT l E (d - 1) m_Str_length [(.ref r2, 999)] M (fun v1 M1 =>
   (((toI v1) ≤ x3 →
    K (.int (iN (-1)), 0) M1) ∧
   (¬ (toI v1) ≤ x3 →
    G l E d m_Mod_inWords 25 [(0, (.ref 24, 41)), (1, (.ref r2, 999)), (2, (.int x2, 0)), (3, (.int x3, 0)), (4, (.int x3, 0))] [] M1 K)))) :
  G l E d m_Mod_inWords 14 [(0, (.ref 24, 41)), (1, (.ref r2, 999)), (2, (.int x2, 0)), (3, (.int x3, 0))] [] M K := G.blk 60 _ hd ok_Mod_inWords rfl h
set_option maxRecDepth 100000 in
theorem b_Mod_inWords_25 {l : Launch} {E : EnvT} {d : Nat} {K : AV → Mem → Prop} {M : Mem} {r2 : Nat} {x2 : Int32} {x3 : Int32} {x4 : Int32} (hd : 1 ≤ d)
  (h : CT l E (d - 1) m_Str_charAt [(.ref r2, 999), (.int x4, 0)] M (fun v1 M1 =>
   (((toI v1) = (iN 32) →
    ((¬ (x4 - x3) = ((iN (M1 24 0 14)) - (iN (M1 24 0 13))) →
     G l E d m_Mod_inWords 68 [(0, (.ref 24, 41)), (1, (.ref r2, 999)), (2, (.int x2, 0)), (3, (.int x3, 0)), (4, (.int x4, 0)), (5, (.int (iN 0), 0)), (6, (.int x3, 0))] [] M1 K) ∧
    ((x4 - x3) = ((iN (M1 24 0 14)) - (iN (M1 24 0 13))) →
     G l E d m_Mod_inWords 68 [(0, (.ref 24, 41)), (1, (.ref r2, 999)), (2, (.int x2, 0)), (3, (.int x3, 0)), (4, (.int x4, 0)), (5, (.int (iN 1), 0)), (6, (.int x3, 0))] [] M1 K))) ∧
   (¬ (toI v1) = (iN 32) →
    G l E d m_Mod_inWords 25 [(0, (.ref 24, 41)), (1, (.ref r2, 999)), (2, (.int x2, 0)), (3, (.int x3, 0)), (4, (.int (x4 + iN 1), 0))] [] M1 K)))) :
  G l E d m_Mod_inWords 25 [(0, (.ref 24, 41)), (1, (.ref r2, 999)), (2, (.int x2, 0)), (3, (.int x3, 0)), (4, (.int x4, 0))] [] M K := G.blk 60 _ hd ok_Mod_inWords rfl h
set_option maxRecDepth 100000 in
theorem b_Mod_inWords_68 {l : Launch} {E : EnvT} {d : Nat} {K : AV → Mem → Prop} {M : Mem} {r2 : Nat} {x2 : Int32} {x3 : Int32} {x4 : Int32} {x5 : Int32} {x6 : Int32} (hd : 1 ≤ d)
  (h : ((x4 ≤ x6 →
   ((x5 = 0 →
    G l E d m_Mod_inWords 14 [(0, (.ref 24, 41)), (1, (.ref r2, 999)), (2, (.int (x2 + iN 1), 0)), (3, (.int (x4 + (iN 1)), 0))] [] M K) ∧
   (¬ x5 = 0 →
    K (.int x2, 0) M))) ∧
  (¬ x4 ≤ x6 →
   ((x5 = 0 →
    ((x5 = 0 →
     G l E d m_Mod_inWords 14 [(0, (.ref 24, 41)), (1, (.ref r2, 999)), (2, (.int (x2 + iN 1), 0)), (3, (.int (x4 + (iN 1)), 0))] [] M K) ∧
    (¬ x5 = 0 →
     K (.int x2, 0) M))) ∧
   (¬ x5 = 0 →
    CT l E (d - 1) m_Str_charAt [(.ref r2, 999), (.int x6, 0)] M (fun v1 M1 =>
     CT l E (d - 1) m_Mod_byteAt [(.ref 24, 41), (.int (((iN (M1 24 0 13)) + x6) - x3), 0)] M1 (fun v2 M2 =>
      ((¬ (toI v1) = (toI v2) →
       G l E d m_Mod_inWords 68 [(0, (.ref 24, 41)), (1, (.ref r2, 999)), (2, (.int x2, 0)), (3, (.int x3, 0)), (4, (.int x4, 0)), (5, (.int (iN 0), 0)), (6, (.int (x6 + iN 1), 0))] [] M2 K) ∧
      ((toI v1) = (toI v2) →
       G l E d m_Mod_inWords 68 [(0, (.ref 24, 41)), (1, (.ref r2, 999)), (2, (.int x2, 0)), (3, (.int x3, 0)), (4, (.int x4, 0)), (5, (.int (iN 1), 0)), (6, (.int (x6 + iN 1), 0))] [] M2 K))))))))) :
  G l E d m_Mod_inWords 68 [(0, (.ref 24, 41)), (1, (.ref r2, 999)), (2, (.int x2, 0)), (3, (.int x3, 0)), (4, (.int x4, 0)), (5, (.int x5, 0)), (6, (.int x6, 0))] [] M K := G.blk 60 _ hd ok_Mod_inWords rfl h
def bt_Mod_singerRow : BtT := [(0, [0], true, [(0, .bipush 6, 2, 0, 0, 0, m0),
   (2, .bipush 8, 2, 0, 0, 0, m0),
   (4, .iload_n 0, 1, 0, 0, 0, m0),
   (5, .imul, 1, 0, 0, 0, m0),
   (6, .iadd, 1, 0, 0, 0, m0),
   (7, .ireturn, 1, 0, 0, 0, m0)])]
theorem ok_Mod_singerRow : okBt m_Mod_singerRow bt_Mod_singerRow = true := by decide +kernel
set_option maxRecDepth 100000 in
theorem b_Mod_singerRow_0 {l : Launch} {E : EnvT} {d : Nat} {K : AV → Mem → Prop} {M : Mem} {x0 : Int32} (hd : 1 ≤ d)
  (h : K (.int ((iN 6) + ((iN 8) * x0)), 0) M) :
  G l E d m_Mod_singerRow 0 [(0, (.int x0, 0))] [] M K := G.blk 60 _ hd ok_Mod_singerRow rfl h
def bt_Mod_fails : BtT := [(0, [0, 1], true, [(0, .aload_n 0, 1, 0, 0, 0, m0),
   (1, .getfield 142, 3, 18, 11, 1465, m0),
   (4, .ifCond .ne 28, 3, 32, 0, 0, m0),
   (7, .nop, 0, 0, 0, 0, m0)]),
  (7, [], false, [(7, .aload_n 0, 1, 0, 0, 0, m0),
   (8, .aload_n 0, 1, 0, 0, 0, m0),
   (9, .getfield 117, 3, 12, 11, 1459, m0),
   (12, .iconst 1, 1, 0, 0, 0, m0),
   (13, .if_icmp .ne 7, 3, 20, 0, 0, m0),
   (16, .nop, 0, 0, 0, 0, m0)]),
  (16, [], false, [(16, .iconst 1, 1, 0, 0, 0, m0),
   (17, .goto 4, 3, 21, 0, 0, m0)]),
  (20, [], false, [(20, .iload_n 1, 1, 0, 0, 0, m0),
   (21, .nop, 0, 0, 0, 0, m0)]),
  (21, [], false, [(21, .putfield 142, 3, 18, 11, 1465, m0),
   (24, .aload_n 0, 1, 0, 0, 0, m0),
   (25, .aload_n 0, 1, 0, 0, 0, m0),
   (26, .getfield 111, 3, 13, 11, 1460, m0),
   (29, .putfield 41, 3, 17, 11, 1464, m0),
   (32, .nop, 0, 0, 0, 0, m0)]),
  (32, [], false, [(32, .iconst 0, 1, 0, 0, 0, m0),
   (33, .ireturn, 1, 0, 0, 0, m0)])]
theorem ok_Mod_fails : okBt m_Mod_fails bt_Mod_fails = true := by decide +kernel
set_option maxRecDepth 100000 in
theorem b_Mod_fails_0 {l : Launch} {E : EnvT} {d : Nat} {K : AV → Mem → Prop} {M : Mem} {x1 : Int32} (hd : 1 ≤ d)
  (h : ((¬ (iN (M 24 0 18)) = 0 →
   ((((iN 0) = 0 ∨ (iN 0) = 1)) ∧ K (.int (iN 0), 0) M)) ∧
  ((iN (M 24 0 18)) = 0 →
   ((¬ (iN (M 24 0 12)) = (iN 1) →
    ((((iN 0) = 0 ∨ (iN 0) = 1)) ∧ K (.int (iN 0), 0) (upd3 (upd3 M 24 0 18 (x1).toInt) 24 0 17 ((iN ((upd3 M 24 0 18 (x1).toInt) 24 0 13))).toInt))) ∧
   ((iN (M 24 0 12)) = (iN 1) →
    ((((iN 0) = 0 ∨ (iN 0) = 1)) ∧ K (.int (iN 0), 0) (upd3 (upd3 M 24 0 18 ((iN 1)).toInt) 24 0 17 ((iN ((upd3 M 24 0 18 ((iN 1)).toInt) 24 0 13))).toInt))))))) :
  G l E d m_Mod_fails 0 [(0, (.ref 24, 41)), (1, (.int x1, 0))] [] M K := G.blk 60 _ hd ok_Mod_fails rfl h
def bt_Mod_isName : BtT := [(0, [0, 1], true, [(0, .aload_n 0, 1, 0, 0, 0, m0),
   (1, .getfield 117, 3, 12, 11, 1459, m0),
   (4, .iconst 2, 1, 0, 0, 0, m0),
   (5, .if_icmp .ne 30, 3, 35, 0, 0, m0),
   (8, .nop, 0, 0, 0, 0, m0)]),
  (8, [], false, [(8, .aload_n 0, 1, 0, 0, 0, m0),
   (9, .getfield 105, 3, 14, 11, 1461, m0),
   (12, .aload_n 0, 1, 0, 0, 0, m0),
   (13, .getfield 111, 3, 13, 11, 1460, m0),
   (16, .isub, 1, 0, 0, 0, m0),
   (17, .bipush 8, 2, 0, 0, 0, m0),
   (19, .if_icmp .gt 16, 3, 35, 0, 0, m0),
   (22, .nop, 0, 0, 0, 0, m0)]),
  (22, [], false, [(22, .aload_n 0, 1, 0, 0, 0, m0),
   (23, .aload_n 1, 1, 0, 0, 0, m0),
   (24, .invokevirtual 157, 3, 0, 0, 1638, m_Mod_inWords),
   (27, .iconst (-1), 1, 0, 0, 0, m0),
   (28, .if_icmp .ne 7, 3, 35, 0, 0, m0),
   (31, .nop, 0, 0, 0, 0, m0)]),
  (31, [], false, [(31, .iconst 1, 1, 0, 0, 0, m0),
   (32, .goto 4, 3, 36, 0, 0, m0)]),
  (35, [], false, [(35, .iconst 0, 1, 0, 0, 0, m0),
   (36, .nop, 0, 0, 0, 0, m0)]),
  (36, [], false, [(36, .ireturn, 1, 0, 0, 0, m0)])]
theorem ok_Mod_isName : okBt m_Mod_isName bt_Mod_isName = true := by decide +kernel
set_option maxRecDepth 100000 in
theorem b_Mod_isName_0 {l : Launch} {E : EnvT} {d : Nat} {K : AV → Mem → Prop} {M : Mem} {r2 : Nat}  (hd : 1 ≤ d)
  (h : ((¬ (iN (M 24 0 12)) = (iN 2) →
   ((((iN 0) = 0 ∨ (iN 0) = 1)) ∧ K (.int (iN 0), 0) M)) ∧
  ((iN (M 24 0 12)) = (iN 2) →
   (((iN 8) < ((iN (M 24 0 14)) - (iN (M 24 0 13))) →
    ((((iN 0) = 0 ∨ (iN 0) = 1)) ∧ K (.int (iN 0), 0) M)) ∧
   (¬ (iN 8) < ((iN (M 24 0 14)) - (iN (M 24 0 13))) →
    CT l E (d - 1) m_Mod_inWords [(.ref 24, 41), (.ref r2, 999)] M (fun v1 M1 =>
     ((¬ (toI v1) = (iN (-1)) →
      ((((iN 0) = 0 ∨ (iN 0) = 1)) ∧ K (.int (iN 0), 0) M1)) ∧
     ((toI v1) = (iN (-1)) →
      ((((iN 1) = 0 ∨ (iN 1) = 1)) ∧ K (.int (iN 1), 0) M1))))))))) :
  G l E d m_Mod_isName 0 [(0, (.ref 24, 41)), (1, (.ref r2, 999))] [] M K := G.blk 60 _ hd ok_Mod_isName rfl h
def bt_Mod_nameHere : BtT := [(0, [0], true, [(0, .lconst 0, 1, 0, 0, 0, m0),
   (1, .lstore_n 1, 1, 0, 0, 0, m0),
   (2, .aload_n 0, 1, 0, 0, 0, m0),
   (3, .getfield 111, 3, 13, 11, 1460, m0),
   (6, .istore_n 3, 1, 0, 0, 0, m0),
   (7, .nop, 0, 0, 0, 0, m0)]),
  (7, [0, 1, 3], true, [(7, .iload_n 3, 1, 0, 0, 0, m0),
   (8, .aload_n 0, 1, 0, 0, 0, m0),
   (9, .getfield 105, 3, 14, 11, 1461, m0),
   (12, .if_icmp .ge 21, 3, 33, 0, 0, m0),
   (15, .nop, 0, 0, 0, 0, m0)]),
  (15, [], false, [(15, .lload_n 1, 1, 0, 0, 0, m0),
   (16, .bipush 8, 2, 0, 0, 0, m0),
   (18, .lshl, 1, 0, 0, 0, m0),
   (19, .aload_n 0, 1, 0, 0, 0, m0),
   (20, .iload_n 3, 1, 0, 0, 0, m0),
   (21, .invokevirtual 108, 3, 0, 0, 1617, m_Mod_byteAt),
   (24, .i2l, 1, 0, 0, 0, m0),
   (25, .lor, 1, 0, 0, 0, m0),
   (26, .lstore_n 1, 1, 0, 0, 0, m0),
   (27, .iinc 3 1, 3, 0, 0, 0, m0),
   (30, .goto (-23), 3, 7, 0, 0, m0)]),
  (33, [], false, [(33, .lload_n 1, 1, 0, 0, 0, m0),
   (34, .lreturn, 1, 0, 0, 0, m0)])]
theorem ok_Mod_nameHere : okBt m_Mod_nameHere bt_Mod_nameHere = true := by decide +kernel
set_option maxRecDepth 100000 in
theorem b_Mod_nameHere_0 {l : Launch} {E : EnvT} {d : Nat} {K : AV → Mem → Prop} {M : Mem}  (hd : 1 ≤ d)
  (h : G l E d m_Mod_nameHere 7 [(0, (.ref 24, 41)), (1, (.long (lI 0), 0)), (3, (.int (iN (M 24 0 13)), 0))] [] M K) :
  G l E d m_Mod_nameHere 0 [(0, (.ref 24, 41))] [] M K := G.blk 60 _ hd ok_Mod_nameHere rfl h
set_option maxRecDepth 100000 in
theorem b_Mod_nameHere_7 {l : Launch} {E : EnvT} {d : Nat} {K : AV → Mem → Prop} {M : Mem} {x1 : Int64} {x3 : Int32} (hd : 1 ≤ d)
  (h : (((iN (M 24 0 14)) ≤ x3 →
   K (.long x1, 0) M) ∧
  (¬ (iN (M 24 0 14)) ≤ x3 →
   CT l E (d - 1) m_Mod_byteAt [(.ref 24, 41), (.int x3, 0)] M (fun v1 M1 =>
    G l E d m_Mod_nameHere 7 [(0, (.ref 24, 41)), (1, (.long ((x1 <<< (((iN 8)).toInt64 &&& 63)) ||| ((toI v1)).toInt64), 0)), (3, (.int (x3 + iN 1), 0))] [] M1 K)))) :
  G l E d m_Mod_nameHere 7 [(0, (.ref 24, 41)), (1, (.long x1, 0)), (3, (.int x3, 0))] [] M K := G.blk 60 _ hd ok_Mod_nameHere rfl h
def bt_Mod_findHere : BtT := [(0, [0, 1, 2], true, [(0, .iconst 0, 1, 0, 0, 0, m0),
   (1, .istore_n 3, 1, 0, 0, 0, m0),
   (2, .nop, 0, 0, 0, 0, m0)]),
  (2, [0, 1, 2, 3], true, [(2, .iload_n 3, 1, 0, 0, 0, m0),
   (3, .iload_n 2, 1, 0, 0, 0, m0),
   (4, .if_icmp .ge 27, 3, 31, 0, 0, m0),
   (7, .nop, 0, 0, 0, 0, m0)]),
  (7, [], false, [(7, .aload_n 0, 1, 0, 0, 0, m0),
   (8, .getfield 13, 3, 1, 11, 1448, m0),
   (11, .iload_n 1, 1, 0, 0, 0, m0),
   (12, .iload_n 3, 1, 0, 0, 0, m0),
   (13, .iadd, 1, 0, 0, 0, m0),
   (14, .laload, 1, 0, 0, 0, m0),
   (15, .aload_n 0, 1, 0, 0, 0, m0),
   (16, .invokevirtual 161, 3, 0, 0, 1663, m_Mod_nameHere),
   (19, .lcmp, 1, 0, 0, 0, m0),
   (20, .ifCond .ne 5, 3, 25, 0, 0, m0),
   (23, .nop, 0, 0, 0, 0, m0)]),
  (23, [], false, [(23, .iload_n 3, 1, 0, 0, 0, m0),
   (24, .ireturn, 1, 0, 0, 0, m0)]),
  (25, [], false, [(25, .iinc 3 1, 3, 0, 0, 0, m0),
   (28, .goto (-26), 3, 2, 0, 0, m0)]),
  (31, [], false, [(31, .iconst (-1), 1, 0, 0, 0, m0),
   (32, .ireturn, 1, 0, 0, 0, m0)])]
theorem ok_Mod_findHere : okBt m_Mod_findHere bt_Mod_findHere = true := by decide +kernel
set_option maxRecDepth 100000 in
theorem b_Mod_findHere_0 {l : Launch} {E : EnvT} {d : Nat} {K : AV → Mem → Prop} {M : Mem} {x1 : Int32} {x2 : Int32} (hd : 1 ≤ d)
  (h : G l E d m_Mod_findHere 2 [(0, (.ref 24, 41)), (1, (.int x1, 0)), (2, (.int x2, 0)), (3, (.int (iN 0), 0))] [] M K) :
  G l E d m_Mod_findHere 0 [(0, (.ref 24, 41)), (1, (.int x1, 0)), (2, (.int x2, 0))] [] M K := G.blk 60 _ hd ok_Mod_findHere rfl h
set_option maxRecDepth 100000 in
theorem b_Mod_findHere_2 {l : Launch} {E : EnvT} {d : Nat} {K : AV → Mem → Prop} {M : Mem} {x1 : Int32} {x2 : Int32} {x3 : Int32} (hd : 1 ≤ d)
  (h : ((x2 ≤ x3 →
   K (.int (iN (-1)), 0) M) ∧
  (¬ x2 ≤ x3 →
   (vp_in (x1 + x3) 48 ∧ CT l E (d - 1) m_Mod_nameHere [(.ref 24, 41)] M (fun v1 M1 =>
    ((¬ (lg_cmp (lI (M 24 2 ((x1 + x3)).toNatClampNeg)) (toL v1)) = 0 →
     G l E d m_Mod_findHere 2 [(0, (.ref 24, 41)), (1, (.int x1, 0)), (2, (.int x2, 0)), (3, (.int (x3 + iN 1), 0))] [] M1 K) ∧
    ((lg_cmp (lI (M 24 2 ((x1 + x3)).toNatClampNeg)) (toL v1)) = 0 →
     K (.int x3, 0) M1))))))) :
  G l E d m_Mod_findHere 2 [(0, (.ref 24, 41)), (1, (.int x1, 0)), (2, (.int x2, 0)), (3, (.int x3, 0))] [] M K := G.blk 60 _ hd ok_Mod_findHere rfl h
def bt_Mod_wantWord : BtT := [(0, [0, 1, 2], true, [(0, .aload_n 0, 1, 0, 0, 0, m0),
   (1, .aload_n 1, 1, 0, 0, 0, m0),
   (2, .invokevirtual 157, 3, 0, 0, 1638, m_Mod_inWords),
   (5, .iload_n 2, 1, 0, 0, 0, m0),
   (6, .if_icmp .eq 9, 3, 15, 0, 0, m0),
   (9, .nop, 0, 0, 0, 0, m0)]),
  (9, [], false, [(9, .aload_n 0, 1, 0, 0, 0, m0),
   (10, .iconst 2, 1, 0, 0, 0, m0),
   (11, .invokevirtual 154, 3, 0, 0, 1651, m_Mod_fails),
   (14, .ireturn, 1, 0, 0, 0, m0)]),
  (15, [], false, [(15, .aload_n 0, 1, 0, 0, 0, m0),
   (16, .invokevirtual 148, 3, 0, 0, 1613, m_Mod_ahead),
   (19, .iconst 1, 1, 0, 0, 0, m0),
   (20, .ireturn, 1, 0, 0, 0, m0)])]
theorem ok_Mod_wantWord : okBt m_Mod_wantWord bt_Mod_wantWord = true := by decide +kernel
set_option maxRecDepth 100000 in
theorem b_Mod_wantWord_0 {l : Launch} {E : EnvT} {d : Nat} {K : AV → Mem → Prop} {M : Mem} {r2 : Nat} {x2 : Int32} (hd : 1 ≤ d)
  (h : CT l E (d - 1) m_Mod_inWords [(.ref 24, 41), (.ref r2, 999)] M (fun v1 M1 =>
   (((toI v1) = x2 →
    CT l E (d - 1) m_Mod_ahead [(.ref 24, 41)] M1 (fun v2 M2 =>
     ((((iN 1) = 0 ∨ (iN 1) = 1)) ∧ K (.int (iN 1), 0) M2))) ∧
   (¬ (toI v1) = x2 →
    CT l E (d - 1) m_Mod_fails [(.ref 24, 41), (.int (iN 2), 0)] M1 (fun v3 M3 =>
     ((((toI v3) = 0 ∨ (toI v3) = 1)) ∧ K (.int (toI v3), 0) M3)))))) :
  G l E d m_Mod_wantWord 0 [(0, (.ref 24, 41)), (1, (.ref r2, 999)), (2, (.int x2, 0))] [] M K := G.blk 60 _ hd ok_Mod_wantWord rfl h
def bt_Mod_number : BtT := [(0, [0, 1, 2, 3], true, [(0, .aload_n 0, 1, 0, 0, 0, m0),
   (1, .getfield 117, 3, 12, 11, 1459, m0),
   (4, .iconst 3, 1, 0, 0, 0, m0),
   (5, .if_icmp .eq 9, 3, 14, 0, 0, m0),
   (8, .nop, 0, 0, 0, 0, m0)]),
  (8, [], false, [(8, .aload_n 0, 1, 0, 0, 0, m0),
   (9, .iconst 2, 1, 0, 0, 0, m0),
   (10, .invokevirtual 154, 3, 0, 0, 1651, m_Mod_fails),
   (13, .ireturn, 1, 0, 0, 0, m0)]),
  (14, [], false, [(14, .aload_n 0, 1, 0, 0, 0, m0),
   (15, .getfield 114, 3, 15, 11, 1462, m0),
   (18, .iload_n 2, 1, 0, 0, 0, m0),
   (19, .if_icmp .lt 11, 3, 30, 0, 0, m0),
   (22, .nop, 0, 0, 0, 0, m0)]),
  (22, [], false, [(22, .aload_n 0, 1, 0, 0, 0, m0),
   (23, .getfield 114, 3, 15, 11, 1462, m0),
   (26, .iload_n 3, 1, 0, 0, 0, m0),
   (27, .if_icmp .le 9, 3, 36, 0, 0, m0),
   (30, .nop, 0, 0, 0, 0, m0)]),
  (30, [], false, [(30, .aload_n 0, 1, 0, 0, 0, m0),
   (31, .iconst 4, 1, 0, 0, 0, m0),
   (32, .invokevirtual 154, 3, 0, 0, 1651, m_Mod_fails),
   (35, .ireturn, 1, 0, 0, 0, m0)]),
  (36, [], false, [(36, .aload_n 0, 1, 0, 0, 0, m0),
   (37, .getfield 7, 3, 0, 11, 1447, m0),
   (40, .iload_n 1, 1, 0, 0, 0, m0),
   (41, .aload_n 0, 1, 0, 0, 0, m0),
   (42, .getfield 114, 3, 15, 11, 1462, m0),
   (45, .iastore, 1, 0, 0, 0, m0),
   (46, .aload_n 0, 1, 0, 0, 0, m0),
   (47, .invokevirtual 148, 3, 0, 0, 1613, m_Mod_ahead),
   (50, .iconst 1, 1, 0, 0, 0, m0),
   (51, .ireturn, 1, 0, 0, 0, m0)])]
theorem ok_Mod_number : okBt m_Mod_number bt_Mod_number = true := by decide +kernel
set_option maxRecDepth 100000 in
theorem b_Mod_number_0 {l : Launch} {E : EnvT} {d : Nat} {K : AV → Mem → Prop} {M : Mem} {x1 : Int32} {x2 : Int32} {x3 : Int32} (hd : 1 ≤ d)
  (h : (((iN (M 24 0 12)) = (iN 3) →
   (((iN (M 24 0 15)) < x2 →
    CT l E (d - 1) m_Mod_fails [(.ref 24, 41), (.int (iN 4), 0)] M (fun v1 M1 =>
     ((((toI v1) = 0 ∨ (toI v1) = 1)) ∧ K (.int (toI v1), 0) M1))) ∧
   (¬ (iN (M 24 0 15)) < x2 →
    (((iN (M 24 0 15)) ≤ x3 →
     (vp_in x1 3612 ∧ CT l E (d - 1) m_Mod_ahead [(.ref 24, 41)] (upd3 M 24 1 (x1).toNatClampNeg ((iN (M 24 0 15))).toInt) (fun v2 M2 =>
      ((((iN 1) = 0 ∨ (iN 1) = 1)) ∧ K (.int (iN 1), 0) M2)))) ∧
    (¬ (iN (M 24 0 15)) ≤ x3 →
     CT l E (d - 1) m_Mod_fails [(.ref 24, 41), (.int (iN 4), 0)] M (fun v3 M3 =>
      ((((toI v3) = 0 ∨ (toI v3) = 1)) ∧ K (.int (toI v3), 0) M3))))))) ∧
  (¬ (iN (M 24 0 12)) = (iN 3) →
   CT l E (d - 1) m_Mod_fails [(.ref 24, 41), (.int (iN 2), 0)] M (fun v4 M4 =>
    ((((toI v4) = 0 ∨ (toI v4) = 1)) ∧ K (.int (toI v4), 0) M4))))) :
  G l E d m_Mod_number 0 [(0, (.ref 24, 41)), (1, (.int x1, 0)), (2, (.int x2, 0)), (3, (.int x3, 0))] [] M K := G.blk 60 _ hd ok_Mod_number rfl h
def bt_Mod_isThere : BtT := [(0, [0, 1], true, [(0, .aload_n 0, 1, 0, 0, 0, m0),
   (1, .ldc 193, 2, 2, 8, 0, m0),
   (3, .invokevirtual 157, 3, 0, 0, 1638, m_Mod_inWords),
   (6, .iload_n 1, 1, 0, 0, 0, m0),
   (7, .if_icmp .eq 5, 3, 12, 0, 0, m0),
   (10, .nop, 0, 0, 0, 0, m0)]),
  (10, [], false, [(10, .iconst 0, 1, 0, 0, 0, m0),
   (11, .ireturn, 1, 0, 0, 0, m0)]),
  (12, [], false, [(12, .aload_n 0, 1, 0, 0, 0, m0),
   (13, .invokevirtual 148, 3, 0, 0, 1613, m_Mod_ahead),
   (16, .iconst 1, 1, 0, 0, 0, m0),
   (17, .ireturn, 1, 0, 0, 0, m0)])]
theorem ok_Mod_isThere : okBt m_Mod_isThere bt_Mod_isThere = true := by decide +kernel
set_option maxRecDepth 100000 in
theorem b_Mod_isThere_0 {l : Launch} {E : EnvT} {d : Nat} {K : AV → Mem → Prop} {M : Mem} {x1 : Int32} (hd : 1 ≤ d)
  (h : CT l E (d - 1) m_Mod_inWords [(.ref 24, 41), (.ref 8, 999)] M (fun v1 M1 =>
   (((toI v1) = x1 →
    CT l E (d - 1) m_Mod_ahead [(.ref 24, 41)] M1 (fun v2 M2 =>
     ((((iN 1) = 0 ∨ (iN 1) = 1)) ∧ K (.int (iN 1), 0) M2))) ∧
   (¬ (toI v1) = x1 →
    ((((iN 0) = 0 ∨ (iN 0) = 1)) ∧ K (.int (iN 0), 0) M1))))) :
  G l E d m_Mod_isThere 0 [(0, (.ref 24, 41)), (1, (.int x1, 0))] [] M K := G.blk 60 _ hd ok_Mod_isThere rfl h
def bt_Mod_isFrom : BtT := [(0, [0, 2, 4], true, [(0, .lload_n 0, 1, 0, 0, 0, m0),
   (1, .lload_n 2, 1, 0, 0, 0, m0),
   (2, .lcmp, 1, 0, 0, 0, m0),
   (3, .ifCond .lt 14, 3, 17, 0, 0, m0),
   (6, .nop, 0, 0, 0, 0, m0)]),
  (6, [], false, [(6, .lload_n 0, 1, 0, 0, 0, m0),
   (7, .lload 4, 2, 0, 0, 0, m0),
   (9, .lcmp, 1, 0, 0, 0, m0),
   (10, .ifCond .gt 7, 3, 17, 0, 0, m0),
   (13, .nop, 0, 0, 0, 0, m0)]),
  (13, [], false, [(13, .iconst 1, 1, 0, 0, 0, m0),
   (14, .goto 4, 3, 18, 0, 0, m0)]),
  (17, [], false, [(17, .iconst 0, 1, 0, 0, 0, m0),
   (18, .nop, 0, 0, 0, 0, m0)]),
  (18, [], false, [(18, .ireturn, 1, 0, 0, 0, m0)])]
theorem ok_Mod_isFrom : okBt m_Mod_isFrom bt_Mod_isFrom = true := by decide +kernel
set_option maxRecDepth 100000 in
theorem b_Mod_isFrom_0 {l : Launch} {E : EnvT} {d : Nat} {K : AV → Mem → Prop} {M : Mem} {x0 : Int64} {x2 : Int64} {x4 : Int64} (hd : 1 ≤ d)
  (h : (((lg_cmp x0 x2) < 0 →
   ((((iN 0) = 0 ∨ (iN 0) = 1)) ∧ K (.int (iN 0), 0) M)) ∧
  (¬ (lg_cmp x0 x2) < 0 →
   ((0 < (lg_cmp x0 x4) →
    ((((iN 0) = 0 ∨ (iN 0) = 1)) ∧ K (.int (iN 0), 0) M)) ∧
   (¬ 0 < (lg_cmp x0 x4) →
    ((((iN 1) = 0 ∨ (iN 1) = 1)) ∧ K (.int (iN 1), 0) M)))))) :
  G l E d m_Mod_isFrom 0 [(0, (.long x0, 0)), (2, (.long x2, 0)), (4, (.long x4, 0))] [] M K := G.blk 60 _ hd ok_Mod_isFrom rfl h
def bt_Mod_aLine : BtT := [(0, [0, 1], true, [(0, .iconst 0, 1, 0, 0, 0, m0),
   (1, .istore_n 2, 1, 0, 0, 0, m0),
   (2, .nop, 0, 0, 0, 0, m0)]),
  (2, [0, 1, 2], true, [(2, .iload_n 2, 1, 0, 0, 0, m0),
   (3, .ifCond .eq 11, 3, 14, 0, 0, m0),
   (6, .nop, 0, 0, 0, 0, m0)]),
  (6, [], false, [(6, .aload_n 0, 1, 0, 0, 0, m0),
   (7, .getfield 117, 3, 12, 11, 1459, m0),
   (10, .iconst 3, 1, 0, 0, 0, m0),
   (11, .if_icmp .ne 74, 3, 85, 0, 0, m0),
   (14, .nop, 0, 0, 0, 0, m0)]),
  (14, [0, 1, 2], true, [(14, .iload_n 2, 1, 0, 0, 0, m0),
   (15, .bipush 6, 2, 0, 0, 0, m0),
   (17, .if_icmp .ne 25, 3, 42, 0, 0, m0),
   (20, .nop, 0, 0, 0, 0, m0)]),
  (20, [], false, [(20, .aload_n 0, 1, 0, 0, 0, m0),
   (21, .getfield 114, 3, 15, 11, 1462, m0),
   (24, .i2l, 1, 0, 0, 0, m0),
   (25, .lconst 0, 1, 0, 0, 0, m0),
   (26, .ldc2_w 216, 3, 1, 24, 1683, m0),
   (29, .invokestatic 218, 3, 0, 0, 1684, m_Mod_isFrom),
   (32, .ifCond .eq 10, 3, 42, 0, 0, m0),
   (35, .nop, 0, 0, 0, 0, m0)]),
  (35, [], false, [(35, .aload_n 0, 1, 0, 0, 0, m0),
   (36, .bipush 6, 2, 0, 0, 0, m0),
   (38, .invokevirtual 154, 3, 0, 0, 1651, m_Mod_fails),
   (41, .ireturn, 1, 0, 0, 0, m0)]),
  (42, [0, 1, 2], true, [(42, .aload_n 0, 1, 0, 0, 0, m0),
   (43, .sipush 2408, 3, 0, 0, 0, m0),
   (46, .iload_n 2, 1, 0, 0, 0, m0),
   (47, .bipush 6, 2, 0, 0, 0, m0),
   (49, .if_icmp .ne 9, 3, 58, 0, 0, m0),
   (52, .nop, 0, 0, 0, 0, m0)]),
  (52, [], false, [(52, .sipush 598, 3, 0, 0, 0, m0),
   (55, .goto 12, 3, 67, 0, 0, m0)]),
  (58, [], false, [(58, .bipush 70, 2, 0, 0, 0, m0),
   (60, .bipush 6, 2, 0, 0, 0, m0),
   (62, .iload_n 1, 1, 0, 0, 0, m0),
   (63, .imul, 1, 0, 0, 0, m0),
   (64, .iadd, 1, 0, 0, 0, m0),
   (65, .iload_n 2, 1, 0, 0, 0, m0),
   (66, .iadd, 1, 0, 0, 0, m0),
   (67, .nop, 0, 0, 0, 0, m0)]),
  (67, [], false, [(67, .iadd, 1, 0, 0, 0, m0),
   (68, .iconst 0, 1, 0, 0, 0, m0),
   (69, .bipush 24, 2, 0, 0, 0, m0),
   (71, .invokevirtual 206, 3, 0, 0, 1671, m_Mod_number),
   (74, .ifCond .ne 5, 3, 79, 0, 0, m0),
   (77, .nop, 0, 0, 0, 0, m0)]),
  (77, [], false, [(77, .iconst 0, 1, 0, 0, 0, m0),
   (78, .ireturn, 1, 0, 0, 0, m0)]),
  (79, [], false, [(79, .iinc 2 1, 3, 0, 0, 0, m0),
   (82, .goto (-80), 3, 2, 0, 0, m0)]),
  (85, [], false, [(85, .aload_n 0, 1, 0, 0, 0, m0),
   (86, .getfield 7, 3, 0, 11, 1447, m0),
   (89, .sipush 2408, 3, 0, 0, 0, m0),
   (92, .iload_n 1, 1, 0, 0, 0, m0),
   (93, .invokestatic 168, 3, 0, 0, 1648, m_Mod_singerRow),
   (96, .iadd, 1, 0, 0, 0, m0),
   (97, .iconst 1, 1, 0, 0, 0, m0),
   (98, .iadd, 1, 0, 0, 0, m0),
   (99, .iload_n 2, 1, 0, 0, 0, m0),
   (100, .iastore, 1, 0, 0, 0, m0),
   (101, .iconst 1, 1, 0, 0, 0, m0),
   (102, .ireturn, 1, 0, 0, 0, m0)])]
theorem ok_Mod_aLine : okBt m_Mod_aLine bt_Mod_aLine = true := by decide +kernel
set_option maxRecDepth 100000 in
theorem b_Mod_aLine_0 {l : Launch} {E : EnvT} {d : Nat} {K : AV → Mem → Prop} {M : Mem} {x1 : Int32} (hd : 1 ≤ d)
  (h : G l E d m_Mod_aLine 2 [(0, (.ref 24, 41)), (1, (.int x1, 0)), (2, (.int (iN 0), 0))] [] M K) :
  G l E d m_Mod_aLine 0 [(0, (.ref 24, 41)), (1, (.int x1, 0))] [] M K := G.blk 60 _ hd ok_Mod_aLine rfl h
set_option maxRecDepth 100000 in
theorem b_Mod_aLine_2 {l : Launch} {E : EnvT} {d : Nat} {K : AV → Mem → Prop} {M : Mem} {x1 : Int32} {x2 : Int32} (hd : 1 ≤ d)
  (h : ((x2 = 0 →
   G l E d m_Mod_aLine 14 [(0, (.ref 24, 41)), (1, (.int x1, 0)), (2, (.int x2, 0))] [] M K) ∧
  (¬ x2 = 0 →
   ((¬ (iN (M 24 0 12)) = (iN 3) →
    CT l E (d - 1) m_Mod_singerRow [(.int x1, 0)] M (fun v1 M1 =>
     (vp_in (((iN 2408) + (toI v1)) + (iN 1)) 3612 ∧ (((iN 1) = 0 ∨ (iN 1) = 1)) ∧ K (.int (iN 1), 0) (upd3 M1 24 1 ((((iN 2408) + (toI v1)) + (iN 1))).toNatClampNeg (x2).toInt)))) ∧
   ((iN (M 24 0 12)) = (iN 3) →
    G l E d m_Mod_aLine 14 [(0, (.ref 24, 41)), (1, (.int x1, 0)), (2, (.int x2, 0))] [] M K))))) :
  G l E d m_Mod_aLine 2 [(0, (.ref 24, 41)), (1, (.int x1, 0)), (2, (.int x2, 0))] [] M K := G.blk 60 _ hd ok_Mod_aLine rfl h
set_option maxRecDepth 100000 in
theorem b_Mod_aLine_14 {l : Launch} {E : EnvT} {d : Nat} {K : AV → Mem → Prop} {M : Mem} {x1 : Int32} {x2 : Int32} (hd : 1 ≤ d)
  (h : ((¬ x2 = (iN 6) →
   G l E d m_Mod_aLine 42 [(0, (.ref 24, 41)), (1, (.int x1, 0)), (2, (.int x2, 0))] [] M K) ∧
  (x2 = (iN 6) →
   CT l E (d - 1) m_Mod_isFrom [(.long ((iN (M 24 0 15))).toInt64, 0), (.long (lI 0), 0), (.long (lI 24), 0)] M (fun v1 M1 =>
    (((toI v1) = 0 →
     G l E d m_Mod_aLine 42 [(0, (.ref 24, 41)), (1, (.int x1, 0)), (2, (.int x2, 0))] [] M1 K) ∧
    (¬ (toI v1) = 0 →
     CT l E (d - 1) m_Mod_fails [(.ref 24, 41), (.int (iN 6), 0)] M1 (fun v2 M2 =>
      ((((toI v2) = 0 ∨ (toI v2) = 1)) ∧ K (.int (toI v2), 0) M2)))))))) :
  G l E d m_Mod_aLine 14 [(0, (.ref 24, 41)), (1, (.int x1, 0)), (2, (.int x2, 0))] [] M K := G.blk 60 _ hd ok_Mod_aLine rfl h
set_option maxRecDepth 100000 in
theorem b_Mod_aLine_42 {l : Launch} {E : EnvT} {d : Nat} {K : AV → Mem → Prop} {M : Mem} {x1 : Int32} {x2 : Int32} (hd : 1 ≤ d)
  (h : ((¬ x2 = (iN 6) →
   CT l E (d - 1) m_Mod_number [(.ref 24, 41), (.int ((iN 2408) + (((iN 70) + ((iN 6) * x1)) + x2)), 0), (.int (iN 0), 0), (.int (iN 24), 0)] M (fun v1 M1 =>
    ((¬ (toI v1) = 0 →
     G l E d m_Mod_aLine 2 [(0, (.ref 24, 41)), (1, (.int x1, 0)), (2, (.int (x2 + iN 1), 0))] [] M1 K) ∧
    ((toI v1) = 0 →
     ((((iN 0) = 0 ∨ (iN 0) = 1)) ∧ K (.int (iN 0), 0) M1))))) ∧
  (x2 = (iN 6) →
   CT l E (d - 1) m_Mod_number [(.ref 24, 41), (.int ((iN 2408) + (iN 598)), 0), (.int (iN 0), 0), (.int (iN 24), 0)] M (fun v2 M2 =>
    ((¬ (toI v2) = 0 →
     G l E d m_Mod_aLine 2 [(0, (.ref 24, 41)), (1, (.int x1, 0)), (2, (.int (x2 + iN 1), 0))] [] M2 K) ∧
    ((toI v2) = 0 →
     ((((iN 0) = 0 ∨ (iN 0) = 1)) ∧ K (.int (iN 0), 0) M2))))))) :
  G l E d m_Mod_aLine 42 [(0, (.ref 24, 41)), (1, (.int x1, 0)), (2, (.int x2, 0))] [] M K := G.blk 60 _ hd ok_Mod_aLine rfl h
def bt_Mod_aSinger : BtT := [(0, [0], true, [(0, .aload_n 0, 1, 0, 0, 0, m0),
   (1, .getfield 7, 3, 0, 11, 1447, m0),
   (4, .sipush 2408, 3, 0, 0, 0, m0),
   (7, .iaload, 1, 0, 0, 0, m0),
   (8, .istore_n 1, 1, 0, 0, 0, m0),
   (9, .sipush 2408, 3, 0, 0, 0, m0),
   (12, .iload_n 1, 1, 0, 0, 0, m0),
   (13, .invokestatic 168, 3, 0, 0, 1648, m_Mod_singerRow),
   (16, .iadd, 1, 0, 0, 0, m0),
   (17, .istore_n 2, 1, 0, 0, 0, m0),
   (18, .iload_n 1, 1, 0, 0, 0, m0),
   (19, .bipush 8, 2, 0, 0, 0, m0),
   (21, .if_icmp .ne 10, 3, 31, 0, 0, m0),
   (24, .nop, 0, 0, 0, 0, m0)]),
  (24, [], false, [(24, .aload_n 0, 1, 0, 0, 0, m0),
   (25, .bipush 6, 2, 0, 0, 0, m0),
   (27, .invokevirtual 154, 3, 0, 0, 1651, m_Mod_fails),
   (30, .ireturn, 1, 0, 0, 0, m0)]),
  (31, [], false, [(31, .aload_n 0, 1, 0, 0, 0, m0),
   (32, .invokevirtual 148, 3, 0, 0, 1613, m_Mod_ahead),
   (35, .aload_n 0, 1, 0, 0, 0, m0),
   (36, .ldc 193, 2, 2, 8, 0, m0),
   (38, .invokevirtual 195, 3, 0, 0, 1655, m_Mod_isName),
   (41, .ifCond .ne 9, 3, 50, 0, 0, m0),
   (44, .nop, 0, 0, 0, 0, m0)]),
  (44, [], false, [(44, .aload_n 0, 1, 0, 0, 0, m0),
   (45, .iconst 2, 1, 0, 0, 0, m0),
   (46, .invokevirtual 154, 3, 0, 0, 1651, m_Mod_fails),
   (49, .ireturn, 1, 0, 0, 0, m0)]),
  (50, [], false, [(50, .aload_n 0, 1, 0, 0, 0, m0),
   (51, .bipush 32, 2, 0, 0, 0, m0),
   (53, .iload_n 1, 1, 0, 0, 0, m0),
   (54, .invokevirtual 199, 3, 0, 0, 1659, m_Mod_findHere),
   (57, .iconst (-1), 1, 0, 0, 0, m0),
   (58, .if_icmp .eq 9, 3, 67, 0, 0, m0),
   (61, .nop, 0, 0, 0, 0, m0)]),
  (61, [], false, [(61, .aload_n 0, 1, 0, 0, 0, m0),
   (62, .iconst 3, 1, 0, 0, 0, m0),
   (63, .invokevirtual 154, 3, 0, 0, 1651, m_Mod_fails),
   (66, .ireturn, 1, 0, 0, 0, m0)]),
  (67, [], false, [(67, .aload_n 0, 1, 0, 0, 0, m0),
   (68, .getfield 13, 3, 1, 11, 1448, m0),
   (71, .bipush 32, 2, 0, 0, 0, m0),
   (73, .iload_n 1, 1, 0, 0, 0, m0),
   (74, .iadd, 1, 0, 0, 0, m0),
   (75, .aload_n 0, 1, 0, 0, 0, m0),
   (76, .invokevirtual 161, 3, 0, 0, 1663, m_Mod_nameHere),
   (79, .lastore, 1, 0, 0, 0, m0),
   (80, .aload_n 0, 1, 0, 0, 0, m0),
   (81, .invokevirtual 148, 3, 0, 0, 1613, m_Mod_ahead),
   (84, .aload_n 0, 1, 0, 0, 0, m0),
   (85, .ldc 193, 2, 2, 8, 0, m0),
   (87, .iconst 4, 1, 0, 0, 0, m0),
   (88, .invokevirtual 202, 3, 0, 0, 1667, m_Mod_wantWord),
   (91, .ifCond .eq 15, 3, 106, 0, 0, m0),
   (94, .nop, 0, 0, 0, 0, m0)]),
  (94, [], false, [(94, .aload_n 0, 1, 0, 0, 0, m0),
   (95, .iload_n 2, 1, 0, 0, 0, m0),
   (96, .iconst 0, 1, 0, 0, 0, m0),
   (97, .sipush 999, 3, 0, 0, 0, m0),
   (100, .invokevirtual 206, 3, 0, 0, 1671, m_Mod_number),
   (103, .ifCond .ne 5, 3, 108, 0, 0, m0),
   (106, .nop, 0, 0, 0, 0, m0)]),
  (106, [], false, [(106, .iconst 0, 1, 0, 0, 0, m0),
   (107, .ireturn, 1, 0, 0, 0, m0)]),
  (108, [0, 1, 2], true, [(108, .aload_n 0, 1, 0, 0, 0, m0),
   (109, .ldc 193, 2, 2, 8, 0, m0),
   (111, .invokevirtual 157, 3, 0, 0, 1638, m_Mod_inWords),
   (114, .iconst 5, 1, 0, 0, 0, m0),
   (115, .if_icmp .lt 57, 3, 172, 0, 0, m0),
   (118, .nop, 0, 0, 0, 0, m0)]),
  (118, [], false, [(118, .aload_n 0, 1, 0, 0, 0, m0),
   (119, .ldc 193, 2, 2, 8, 0, m0),
   (121, .invokevirtual 157, 3, 0, 0, 1638, m_Mod_inWords),
   (124, .bipush 7, 2, 0, 0, 0, m0),
   (126, .if_icmp .gt 46, 3, 172, 0, 0, m0),
   (129, .nop, 0, 0, 0, 0, m0)]),
  (129, [], false, [(129, .iload_n 2, 1, 0, 0, 0, m0),
   (130, .iconst 2, 1, 0, 0, 0, m0),
   (131, .iadd, 1, 0, 0, 0, m0),
   (132, .aload_n 0, 1, 0, 0, 0, m0),
   (133, .ldc 193, 2, 2, 8, 0, m0),
   (135, .invokevirtual 157, 3, 0, 0, 1638, m_Mod_inWords),
   (138, .iadd, 1, 0, 0, 0, m0),
   (139, .iconst 5, 1, 0, 0, 0, m0),
   (140, .isub, 1, 0, 0, 0, m0),
   (141, .istore_n 3, 1, 0, 0, 0, m0),
   (142, .aload_n 0, 1, 0, 0, 0, m0),
   (143, .getfield 7, 3, 0, 11, 1447, m0),
   (146, .iload_n 3, 1, 0, 0, 0, m0),
   (147, .iaload, 1, 0, 0, 0, m0),
   (148, .iconst 1, 1, 0, 0, 0, m0),
   (149, .if_icmp .ne 9, 3, 158, 0, 0, m0),
   (152, .nop, 0, 0, 0, 0, m0)]),
  (152, [], false, [(152, .aload_n 0, 1, 0, 0, 0, m0),
   (153, .iconst 5, 1, 0, 0, 0, m0),
   (154, .invokevirtual 154, 3, 0, 0, 1651, m_Mod_fails),
   (157, .ireturn, 1, 0, 0, 0, m0)]),
  (158, [], false, [(158, .aload_n 0, 1, 0, 0, 0, m0),
   (159, .getfield 7, 3, 0, 11, 1447, m0),
   (162, .iload_n 3, 1, 0, 0, 0, m0),
   (163, .iconst 1, 1, 0, 0, 0, m0),
   (164, .iastore, 1, 0, 0, 0, m0),
   (165, .aload_n 0, 1, 0, 0, 0, m0),
   (166, .invokevirtual 148, 3, 0, 0, 1613, m_Mod_ahead),
   (169, .goto (-61), 3, 108, 0, 0, m0)]),
  (172, [], false, [(172, .aload_n 0, 1, 0, 0, 0, m0),
   (173, .getfield 7, 3, 0, 11, 1447, m0),
   (176, .iload_n 2, 1, 0, 0, 0, m0),
   (177, .iconst 5, 1, 0, 0, 0, m0),
   (178, .iadd, 1, 0, 0, 0, m0),
   (179, .iconst (-1), 1, 0, 0, 0, m0),
   (180, .iastore, 1, 0, 0, 0, m0),
   (181, .aload_n 0, 1, 0, 0, 0, m0),
   (182, .getfield 7, 3, 0, 11, 1447, m0),
   (185, .iload_n 2, 1, 0, 0, 0, m0),
   (186, .iconst 1, 1, 0, 0, 0, m0),
   (187, .iadd, 1, 0, 0, 0, m0),
   (188, .iconst 3, 1, 0, 0, 0, m0),
   (189, .iastore, 1, 0, 0, 0, m0),
   (190, .iconst 0, 1, 0, 0, 0, m0),
   (191, .istore_n 3, 1, 0, 0, 0, m0),
   (192, .nop, 0, 0, 0, 0, m0)]),
  (192, [0, 1, 3], true, [(192, .iload_n 3, 1, 0, 0, 0, m0),
   (193, .iconst 3, 1, 0, 0, 0, m0),
   (194, .if_icmp .ge 30, 3, 224, 0, 0, m0),
   (197, .nop, 0, 0, 0, 0, m0)]),
  (197, [], false, [(197, .aload_n 0, 1, 0, 0, 0, m0),
   (198, .getfield 7, 3, 0, 11, 1447, m0),
   (201, .sipush 2478, 3, 0, 0, 0, m0),
   (204, .bipush 6, 2, 0, 0, 0, m0),
   (206, .iload_n 1, 1, 0, 0, 0, m0),
   (207, .imul, 1, 0, 0, 0, m0),
   (208, .iadd, 1, 0, 0, 0, m0),
   (209, .iload_n 3, 1, 0, 0, 0, m0),
   (210, .iadd, 1, 0, 0, 0, m0),
   (211, .bipush 12, 2, 0, 0, 0, m0),
   (213, .iconst 2, 1, 0, 0, 0, m0),
   (214, .iload_n 3, 1, 0, 0, 0, m0),
   (215, .imul, 1, 0, 0, 0, m0),
   (216, .iadd, 1, 0, 0, 0, m0),
   (217, .iastore, 1, 0, 0, 0, m0),
   (218, .iinc 3 1, 3, 0, 0, 0, m0),
   (221, .goto (-29), 3, 192, 0, 0, m0)]),
  (224, [], false, [(224, .aload_n 0, 1, 0, 0, 0, m0),
   (225, .bipush 8, 2, 0, 0, 0, m0),
   (227, .invokevirtual 210, 3, 0, 0, 1675, m_Mod_isThere),
   (230, .ifCond .eq 13, 3, 243, 0, 0, m0),
   (233, .nop, 0, 0, 0, 0, m0)]),
  (233, [], false, [(233, .aload_n 0, 1, 0, 0, 0, m0),
   (234, .iload_n 1, 1, 0, 0, 0, m0),
   (235, .invokevirtual 213, 3, 0, 0, 1679, m_Mod_aLine),
   (238, .ifCond .ne 5, 3, 243, 0, 0, m0),
   (241, .nop, 0, 0, 0, 0, m0)]),
  (241, [], false, [(241, .iconst 0, 1, 0, 0, 0, m0),
   (242, .ireturn, 1, 0, 0, 0, m0)]),
  (243, [], false, [(243, .aload_n 0, 1, 0, 0, 0, m0),
   (244, .getfield 7, 3, 0, 11, 1447, m0),
   (247, .sipush 2408, 3, 0, 0, 0, m0),
   (250, .dup2, 1, 0, 0, 0, m0),
   (251, .iaload, 1, 0, 0, 0, m0),
   (252, .iconst 1, 1, 0, 0, 0, m0),
   (253, .iadd, 1, 0, 0, 0, m0),
   (254, .iastore, 1, 0, 0, 0, m0),
   (255, .iconst 1, 1, 0, 0, 0, m0),
   (256, .ireturn, 1, 0, 0, 0, m0)])]
theorem ok_Mod_aSinger : okBt m_Mod_aSinger bt_Mod_aSinger = true := by decide +kernel
set_option maxRecDepth 100000 in
theorem b_Mod_aSinger_0 {l : Launch} {E : EnvT} {d : Nat} {K : AV → Mem → Prop} {M : Mem}  (hd : 1 ≤ d)
  (h : (vp_in (iN 2408) 3612 ∧ CT l E (d - 1) m_Mod_singerRow [(.int (iN (M 24 1 ((iN 2408)).toNatClampNeg)), 0)] M (fun v1 M1 =>
   ((¬ (iN (M 24 1 ((iN 2408)).toNatClampNeg)) = (iN 8) →
    CT l E (d - 1) m_Mod_ahead [(.ref 24, 41)] M1 (fun v2 M2 =>
     CT l E (d - 1) m_Mod_isName [(.ref 24, 41), (.ref 8, 999)] M2 (fun v3 M3 =>
      ((¬ (toI v3) = 0 →
       CT l E (d - 1) m_Mod_findHere [(.ref 24, 41), (.int (iN 32), 0), (.int (iN (M 24 1 ((iN 2408)).toNatClampNeg)), 0)] M3 (fun v4 M4 =>
        (((toI v4) = (iN (-1)) →
         CT l E (d - 1) m_Mod_nameHere [(.ref 24, 41)] M4 (fun v5 M5 =>
          (vp_in ((iN 32) + (iN (M 24 1 ((iN 2408)).toNatClampNeg))) 48 ∧ CT l E (d - 1) m_Mod_ahead [(.ref 24, 41)] (upd3 M5 24 2 (((iN 32) + (iN (M 24 1 ((iN 2408)).toNatClampNeg)))).toNatClampNeg ((toL v5)).toInt) (fun v6 M6 =>
           CT l E (d - 1) m_Mod_wantWord [(.ref 24, 41), (.ref 8, 999), (.int (iN 4), 0)] M6 (fun v7 M7 =>
            (((toI v7) = 0 →
             ((((iN 0) = 0 ∨ (iN 0) = 1)) ∧ K (.int (iN 0), 0) M7)) ∧
            (¬ (toI v7) = 0 →
             CT l E (d - 1) m_Mod_number [(.ref 24, 41), (.int ((iN 2408) + (toI v1)), 0), (.int (iN 0), 0), (.int (iN 999), 0)] M7 (fun v8 M8 =>
              ((¬ (toI v8) = 0 →
               G l E d m_Mod_aSinger 108 [(0, (.ref 24, 41)), (1, (.int (iN (M 24 1 ((iN 2408)).toNatClampNeg)), 0)), (2, (.int ((iN 2408) + (toI v1)), 0))] [] M8 K) ∧
              ((toI v8) = 0 →
               ((((iN 0) = 0 ∨ (iN 0) = 1)) ∧ K (.int (iN 0), 0) M8))))))))))) ∧
        (¬ (toI v4) = (iN (-1)) →
         CT l E (d - 1) m_Mod_fails [(.ref 24, 41), (.int (iN 3), 0)] M4 (fun v9 M9 =>
          ((((toI v9) = 0 ∨ (toI v9) = 1)) ∧ K (.int (toI v9), 0) M9)))))) ∧
      ((toI v3) = 0 →
       CT l E (d - 1) m_Mod_fails [(.ref 24, 41), (.int (iN 2), 0)] M3 (fun v10 M10 =>
        ((((toI v10) = 0 ∨ (toI v10) = 1)) ∧ K (.int (toI v10), 0) M10))))))) ∧
   ((iN (M 24 1 ((iN 2408)).toNatClampNeg)) = (iN 8) →
    CT l E (d - 1) m_Mod_fails [(.ref 24, 41), (.int (iN 6), 0)] M1 (fun v11 M11 =>
     ((((toI v11) = 0 ∨ (toI v11) = 1)) ∧ K (.int (toI v11), 0) M11))))))) :
  G l E d m_Mod_aSinger 0 [(0, (.ref 24, 41))] [] M K := G.blk 60 _ hd ok_Mod_aSinger rfl h
set_option maxRecDepth 100000 in
theorem b_Mod_aSinger_108 {l : Launch} {E : EnvT} {d : Nat} {K : AV → Mem → Prop} {M : Mem} {x1 : Int32} {x2 : Int32} (hd : 1 ≤ d)
  (h : CT l E (d - 1) m_Mod_inWords [(.ref 24, 41), (.ref 8, 999)] M (fun v1 M1 =>
   (((toI v1) < (iN 5) →
    (vp_in (x2 + (iN 5)) 3612 ∧ vp_in (x2 + (iN 1)) 3612 ∧ G l E d m_Mod_aSinger 192 [(0, (.ref 24, 41)), (1, (.int x1, 0)), (3, (.int (iN 0), 0))] [] (upd3 (upd3 M1 24 1 ((x2 + (iN 5))).toNatClampNeg ((iN (-1))).toInt) 24 1 ((x2 + (iN 1))).toNatClampNeg ((iN 3)).toInt) K)) ∧
   (¬ (toI v1) < (iN 5) →
    CT l E (d - 1) m_Mod_inWords [(.ref 24, 41), (.ref 8, 999)] M1 (fun v2 M2 =>
     (((iN 7) < (toI v2) →
      (vp_in (x2 + (iN 5)) 3612 ∧ vp_in (x2 + (iN 1)) 3612 ∧ G l E d m_Mod_aSinger 192 [(0, (.ref 24, 41)), (1, (.int x1, 0)), (3, (.int (iN 0), 0))] [] (upd3 (upd3 M2 24 1 ((x2 + (iN 5))).toNatClampNeg ((iN (-1))).toInt) 24 1 ((x2 + (iN 1))).toNatClampNeg ((iN 3)).toInt) K)) ∧
     (¬ (iN 7) < (toI v2) →
      CT l E (d - 1) m_Mod_inWords [(.ref 24, 41), (.ref 8, 999)] M2 (fun v3 M3 =>
       (vp_in (((x2 + (iN 2)) + (toI v3)) - (iN 5)) 3612 ∧ ((¬ (iN (M3 24 1 ((((x2 + (iN 2)) + (toI v3)) - (iN 5))).toNatClampNeg)) = (iN 1) →
        (vp_in (((x2 + (iN 2)) + (toI v3)) - (iN 5)) 3612 ∧ CT l E (d - 1) m_Mod_ahead [(.ref 24, 41)] (upd3 M3 24 1 ((((x2 + (iN 2)) + (toI v3)) - (iN 5))).toNatClampNeg ((iN 1)).toInt) (fun v4 M4 =>
         G l E d m_Mod_aSinger 108 [(0, (.ref 24, 41)), (1, (.int x1, 0)), (2, (.int x2, 0))] [] M4 K))) ∧
       ((iN (M3 24 1 ((((x2 + (iN 2)) + (toI v3)) - (iN 5))).toNatClampNeg)) = (iN 1) →
        CT l E (d - 1) m_Mod_fails [(.ref 24, 41), (.int (iN 5), 0)] M3 (fun v5 M5 =>
         ((((toI v5) = 0 ∨ (toI v5) = 1)) ∧ K (.int (toI v5), 0) M5))))))))))))) :
  G l E d m_Mod_aSinger 108 [(0, (.ref 24, 41)), (1, (.int x1, 0)), (2, (.int x2, 0))] [] M K := G.blk 60 _ hd ok_Mod_aSinger rfl h
set_option maxRecDepth 100000 in
theorem b_Mod_aSinger_192 {l : Launch} {E : EnvT} {d : Nat} {K : AV → Mem → Prop} {M : Mem} {x1 : Int32} {x3 : Int32} (hd : 1 ≤ d)
  (h : (((iN 3) ≤ x3 →
   CT l E (d - 1) m_Mod_isThere [(.ref 24, 41), (.int (iN 8), 0)] M (fun v1 M1 =>
    (((toI v1) = 0 →
     (vp_in (iN 2408) 3612 ∧ vp_in (iN 2408) 3612 ∧ (((iN 1) = 0 ∨ (iN 1) = 1)) ∧ K (.int (iN 1), 0) (upd3 M1 24 1 ((iN 2408)).toNatClampNeg (((iN (M1 24 1 ((iN 2408)).toNatClampNeg)) + (iN 1))).toInt))) ∧
    (¬ (toI v1) = 0 →
     CT l E (d - 1) m_Mod_aLine [(.ref 24, 41), (.int x1, 0)] M1 (fun v2 M2 =>
      ((¬ (toI v2) = 0 →
       (vp_in (iN 2408) 3612 ∧ vp_in (iN 2408) 3612 ∧ (((iN 1) = 0 ∨ (iN 1) = 1)) ∧ K (.int (iN 1), 0) (upd3 M2 24 1 ((iN 2408)).toNatClampNeg (((iN (M2 24 1 ((iN 2408)).toNatClampNeg)) + (iN 1))).toInt))) ∧
      ((toI v2) = 0 →
       ((((iN 0) = 0 ∨ (iN 0) = 1)) ∧ K (.int (iN 0), 0) M2)))))))) ∧
  (¬ (iN 3) ≤ x3 →
   (vp_in (((iN 2478) + ((iN 6) * x1)) + x3) 3612 ∧ G l E d m_Mod_aSinger 192 [(0, (.ref 24, 41)), (1, (.int x1, 0)), (3, (.int (x3 + iN 1), 0))] [] (upd3 M 24 1 ((((iN 2478) + ((iN 6) * x1)) + x3)).toNatClampNeg (((iN 12) + ((iN 2) * x3))).toInt) K)))) :
  G l E d m_Mod_aSinger 192 [(0, (.ref 24, 41)), (1, (.int x1, 0)), (3, (.int x3, 0))] [] M K := G.blk 60 _ hd ok_Mod_aSinger rfl h
def bt_Mod_oldOne : BtT := [(0, [0, 1, 2, 3], true, [(0, .aload_n 0, 1, 0, 0, 0, m0),
   (1, .ldc 193, 2, 2, 8, 0, m0),
   (3, .invokevirtual 195, 3, 0, 0, 1655, m_Mod_isName),
   (6, .ifCond .ne 9, 3, 15, 0, 0, m0),
   (9, .nop, 0, 0, 0, 0, m0)]),
  (9, [], false, [(9, .aload_n 0, 1, 0, 0, 0, m0),
   (10, .iconst 2, 1, 0, 0, 0, m0),
   (11, .invokevirtual 154, 3, 0, 0, 1651, m_Mod_fails),
   (14, .ireturn, 1, 0, 0, 0, m0)]),
  (15, [], false, [(15, .aload_n 0, 1, 0, 0, 0, m0),
   (16, .getfield 7, 3, 0, 11, 1447, m0),
   (19, .iload_n 3, 1, 0, 0, 0, m0),
   (20, .aload_n 0, 1, 0, 0, 0, m0),
   (21, .iload_n 1, 1, 0, 0, 0, m0),
   (22, .iload_n 2, 1, 0, 0, 0, m0),
   (23, .invokevirtual 199, 3, 0, 0, 1659, m_Mod_findHere),
   (26, .iastore, 1, 0, 0, 0, m0),
   (27, .aload_n 0, 1, 0, 0, 0, m0),
   (28, .getfield 7, 3, 0, 11, 1447, m0),
   (31, .iload_n 3, 1, 0, 0, 0, m0),
   (32, .iaload, 1, 0, 0, 0, m0),
   (33, .iconst (-1), 1, 0, 0, 0, m0),
   (34, .if_icmp .ne 9, 3, 43, 0, 0, m0),
   (37, .nop, 0, 0, 0, 0, m0)]),
  (37, [], false, [(37, .aload_n 0, 1, 0, 0, 0, m0),
   (38, .iconst 3, 1, 0, 0, 0, m0),
   (39, .invokevirtual 154, 3, 0, 0, 1651, m_Mod_fails),
   (42, .ireturn, 1, 0, 0, 0, m0)]),
  (43, [], false, [(43, .aload_n 0, 1, 0, 0, 0, m0),
   (44, .invokevirtual 148, 3, 0, 0, 1613, m_Mod_ahead),
   (47, .iconst 1, 1, 0, 0, 0, m0),
   (48, .ireturn, 1, 0, 0, 0, m0)])]
theorem ok_Mod_oldOne : okBt m_Mod_oldOne bt_Mod_oldOne = true := by decide +kernel
set_option maxRecDepth 100000 in
theorem b_Mod_oldOne_0 {l : Launch} {E : EnvT} {d : Nat} {K : AV → Mem → Prop} {M : Mem} {x1 : Int32} {x2 : Int32} {x3 : Int32} (hd : 1 ≤ d)
  (h : CT l E (d - 1) m_Mod_isName [(.ref 24, 41), (.ref 8, 999)] M (fun v1 M1 =>
   ((¬ (toI v1) = 0 →
    CT l E (d - 1) m_Mod_findHere [(.ref 24, 41), (.int x1, 0), (.int x2, 0)] M1 (fun v2 M2 =>
     (vp_in x3 3612 ∧ vp_in x3 3612 ∧ ((¬ (iN ((upd3 M2 24 1 (x3).toNatClampNeg ((toI v2)).toInt) 24 1 (x3).toNatClampNeg)) = (iN (-1)) →
      CT l E (d - 1) m_Mod_ahead [(.ref 24, 41)] (upd3 M2 24 1 (x3).toNatClampNeg ((toI v2)).toInt) (fun v3 M3 =>
       ((((iN 1) = 0 ∨ (iN 1) = 1)) ∧ K (.int (iN 1), 0) M3))) ∧
     ((iN ((upd3 M2 24 1 (x3).toNatClampNeg ((toI v2)).toInt) 24 1 (x3).toNatClampNeg)) = (iN (-1)) →
      CT l E (d - 1) m_Mod_fails [(.ref 24, 41), (.int (iN 3), 0)] (upd3 M2 24 1 (x3).toNatClampNeg ((toI v2)).toInt) (fun v4 M4 =>
       ((((toI v4) = 0 ∨ (toI v4) = 1)) ∧ K (.int (toI v4), 0) M4))))))) ∧
   ((toI v1) = 0 →
    CT l E (d - 1) m_Mod_fails [(.ref 24, 41), (.int (iN 2), 0)] M1 (fun v5 M5 =>
     ((((toI v5) = 0 ∨ (toI v5) = 1)) ∧ K (.int (toI v5), 0) M5)))))) :
  G l E d m_Mod_oldOne 0 [(0, (.ref 24, 41)), (1, (.int x1, 0)), (2, (.int x2, 0)), (3, (.int x3, 0))] [] M K := G.blk 60 _ hd ok_Mod_oldOne rfl h
def bt_Mod_twoTo : BtT := [(0, [0], true, [(0, .sipush 3006, 3, 0, 0, 0, m0),
   (3, .istore_n 1, 1, 0, 0, 0, m0),
   (4, .aload_n 0, 1, 0, 0, 0, m0),
   (5, .invokevirtual 148, 3, 0, 0, 1613, m_Mod_ahead),
   (8, .aload_n 0, 1, 0, 0, 0, m0),
   (9, .bipush 32, 2, 0, 0, 0, m0),
   (11, .aload_n 0, 1, 0, 0, 0, m0),
   (12, .getfield 7, 3, 0, 11, 1447, m0),
   (15, .sipush 2408, 3, 0, 0, 0, m0),
   (18, .iaload, 1, 0, 0, 0, m0),
   (19, .iload_n 1, 1, 0, 0, 0, m0),
   (20, .invokevirtual 222, 3, 0, 0, 1695, m_Mod_oldOne),
   (23, .ifCond .ne 5, 3, 28, 0, 0, m0),
   (26, .nop, 0, 0, 0, 0, m0)]),
  (26, [], false, [(26, .iconst 0, 1, 0, 0, 0, m0),
   (27, .ireturn, 1, 0, 0, 0, m0)]),
  (28, [], false, [(28, .aload_n 0, 1, 0, 0, 0, m0),
   (29, .ldc 193, 2, 2, 8, 0, m0),
   (31, .invokevirtual 195, 3, 0, 0, 1655, m_Mod_isName),
   (34, .ifCond .eq 32, 3, 66, 0, 0, m0),
   (37, .nop, 0, 0, 0, 0, m0)]),
  (37, [], false, [(37, .aload_n 0, 1, 0, 0, 0, m0),
   (38, .bipush 32, 2, 0, 0, 0, m0),
   (40, .aload_n 0, 1, 0, 0, 0, m0),
   (41, .getfield 7, 3, 0, 11, 1447, m0),
   (44, .sipush 2408, 3, 0, 0, 0, m0),
   (47, .iaload, 1, 0, 0, 0, m0),
   (48, .invokevirtual 199, 3, 0, 0, 1659, m_Mod_findHere),
   (51, .aload_n 0, 1, 0, 0, 0, m0),
   (52, .getfield 7, 3, 0, 11, 1447, m0),
   (55, .iload_n 1, 1, 0, 0, 0, m0),
   (56, .iaload, 1, 0, 0, 0, m0),
   (57, .if_icmp .ne 9, 3, 66, 0, 0, m0),
   (60, .nop, 0, 0, 0, 0, m0)]),
  (60, [], false, [(60, .aload_n 0, 1, 0, 0, 0, m0),
   (61, .iconst 5, 1, 0, 0, 0, m0),
   (62, .invokevirtual 154, 3, 0, 0, 1651, m_Mod_fails),
   (65, .ireturn, 1, 0, 0, 0, m0)]),
  (66, [], false, [(66, .aload_n 0, 1, 0, 0, 0, m0),
   (67, .bipush 32, 2, 0, 0, 0, m0),
   (69, .aload_n 0, 1, 0, 0, 0, m0),
   (70, .getfield 7, 3, 0, 11, 1447, m0),
   (73, .sipush 2408, 3, 0, 0, 0, m0),
   (76, .iaload, 1, 0, 0, 0, m0),
   (77, .iload_n 1, 1, 0, 0, 0, m0),
   (78, .iconst 1, 1, 0, 0, 0, m0),
   (79, .iadd, 1, 0, 0, 0, m0),
   (80, .invokevirtual 222, 3, 0, 0, 1695, m_Mod_oldOne),
   (83, .ireturn, 1, 0, 0, 0, m0)])]
theorem ok_Mod_twoTo : okBt m_Mod_twoTo bt_Mod_twoTo = true := by decide +kernel
set_option maxRecDepth 100000 in
theorem b_Mod_twoTo_0 {l : Launch} {E : EnvT} {d : Nat} {K : AV → Mem → Prop} {M : Mem}  (hd : 1 ≤ d)
  (h : CT l E (d - 1) m_Mod_ahead [(.ref 24, 41)] M (fun v1 M1 =>
   (vp_in (iN 2408) 3612 ∧ CT l E (d - 1) m_Mod_oldOne [(.ref 24, 41), (.int (iN 32), 0), (.int (iN (M1 24 1 ((iN 2408)).toNatClampNeg)), 0), (.int (iN 3006), 0)] M1 (fun v2 M2 =>
    ((¬ (toI v2) = 0 →
     CT l E (d - 1) m_Mod_isName [(.ref 24, 41), (.ref 8, 999)] M2 (fun v3 M3 =>
      (((toI v3) = 0 →
       (vp_in (iN 2408) 3612 ∧ CT l E (d - 1) m_Mod_oldOne [(.ref 24, 41), (.int (iN 32), 0), (.int (iN (M3 24 1 ((iN 2408)).toNatClampNeg)), 0), (.int ((iN 3006) + (iN 1)), 0)] M3 (fun v4 M4 =>
        ((((toI v4) = 0 ∨ (toI v4) = 1)) ∧ K (.int (toI v4), 0) M4)))) ∧
      (¬ (toI v3) = 0 →
       (vp_in (iN 2408) 3612 ∧ CT l E (d - 1) m_Mod_findHere [(.ref 24, 41), (.int (iN 32), 0), (.int (iN (M3 24 1 ((iN 2408)).toNatClampNeg)), 0)] M3 (fun v5 M5 =>
        (vp_in (iN 3006) 3612 ∧ ((¬ (toI v5) = (iN (M5 24 1 ((iN 3006)).toNatClampNeg)) →
         (vp_in (iN 2408) 3612 ∧ CT l E (d - 1) m_Mod_oldOne [(.ref 24, 41), (.int (iN 32), 0), (.int (iN (M5 24 1 ((iN 2408)).toNatClampNeg)), 0), (.int ((iN 3006) + (iN 1)), 0)] M5 (fun v6 M6 =>
          ((((toI v6) = 0 ∨ (toI v6) = 1)) ∧ K (.int (toI v6), 0) M6)))) ∧
        ((toI v5) = (iN (M5 24 1 ((iN 3006)).toNatClampNeg)) →
         CT l E (d - 1) m_Mod_fails [(.ref 24, 41), (.int (iN 5), 0)] M5 (fun v7 M7 =>
          ((((toI v7) = 0 ∨ (toI v7) = 1)) ∧ K (.int (toI v7), 0) M7))))))))))) ∧
    ((toI v2) = 0 →
     ((((iN 0) = 0 ∨ (iN 0) = 1)) ∧ K (.int (iN 0), 0) M2))))))) :
  G l E d m_Mod_twoTo 0 [(0, (.ref 24, 41))] [] M K := G.blk 60 _ hd ok_Mod_twoTo rfl h
def bt_Mod_of : BtT := [(0, [0, 1, 2], true, [(0, .aload_n 0, 1, 0, 0, 0, m0),
   (1, .getfield 7, 3, 0, 11, 1447, m0),
   (4, .aload_n 0, 1, 0, 0, 0, m0),
   (5, .getfield 165, 3, 21, 11, 1468, m0),
   (8, .iload_n 1, 1, 0, 0, 0, m0),
   (9, .invokestatic 168, 3, 0, 0, 1648, m_Mod_singerRow),
   (12, .iadd, 1, 0, 0, 0, m0),
   (13, .iload_n 2, 1, 0, 0, 0, m0),
   (14, .iadd, 1, 0, 0, 0, m0),
   (15, .iaload, 1, 0, 0, 0, m0),
   (16, .ireturn, 1, 0, 0, 0, m0)])]
theorem ok_Mod_of : okBt m_Mod_of bt_Mod_of = true := by decide +kernel
set_option maxRecDepth 100000 in
theorem b_Mod_of_0 {l : Launch} {E : EnvT} {d : Nat} {K : AV → Mem → Prop} {M : Mem} {x1 : Int32} {x2 : Int32} (hd : 1 ≤ d)
  (h : CT l E (d - 1) m_Mod_singerRow [(.int x1, 0)] M (fun v1 M1 =>
   (vp_in (((iN (M 24 0 21)) + (toI v1)) + x2) 3612 ∧ K (.int (iN (M1 24 1 ((((iN (M 24 0 21)) + (toI v1)) + x2)).toNatClampNeg)), 0) M1))) :
  G l E d m_Mod_of 0 [(0, (.ref 24, 41)), (1, (.int x1, 0)), (2, (.int x2, 0))] [] M K := G.blk 60 _ hd ok_Mod_of rfl h
def bt_Mod_holderOf : BtT := [(0, [0, 1, 2], true, [(0, .aload_n 0, 1, 0, 0, 0, m0),
   (1, .getfield 7, 3, 0, 11, 1447, m0),
   (4, .aload_n 0, 1, 0, 0, 0, m0),
   (5, .getfield 165, 3, 21, 11, 1468, m0),
   (8, .bipush 118, 2, 0, 0, 0, m0),
   (10, .iadd, 1, 0, 0, 0, m0),
   (11, .bipush 6, 2, 0, 0, 0, m0),
   (13, .iload_n 1, 1, 0, 0, 0, m0),
   (14, .imul, 1, 0, 0, 0, m0),
   (15, .iadd, 1, 0, 0, 0, m0),
   (16, .iload_n 2, 1, 0, 0, 0, m0),
   (17, .iadd, 1, 0, 0, 0, m0),
   (18, .iaload, 1, 0, 0, 0, m0),
   (19, .ireturn, 1, 0, 0, 0, m0)])]
theorem ok_Mod_holderOf : okBt m_Mod_holderOf bt_Mod_holderOf = true := by decide +kernel
set_option maxRecDepth 100000 in
theorem b_Mod_holderOf_0 {l : Launch} {E : EnvT} {d : Nat} {K : AV → Mem → Prop} {M : Mem} {x1 : Int32} {x2 : Int32} (hd : 1 ≤ d)
  (h : (vp_in ((((iN (M 24 0 21)) + (iN 118)) + ((iN 6) * x1)) + x2) 3612 ∧ K (.int (iN (M 24 1 (((((iN (M 24 0 21)) + (iN 118)) + ((iN 6) * x1)) + x2)).toNatClampNeg)), 0) M)) :
  G l E d m_Mod_holderOf 0 [(0, (.ref 24, 41)), (1, (.int x1, 0)), (2, (.int x2, 0))] [] M K := G.blk 60 _ hd ok_Mod_holderOf rfl h
def bt_Mod_noteOf : BtT := [(0, [0, 1, 2], true, [(0, .iconst 0, 1, 0, 0, 0, m0),
   (1, .istore_n 3, 1, 0, 0, 0, m0),
   (2, .nop, 0, 0, 0, 0, m0)]),
  (2, [0, 1, 2, 3], true, [(2, .iload_n 3, 1, 0, 0, 0, m0),
   (3, .aload_n 0, 1, 0, 0, 0, m0),
   (4, .iload_n 1, 1, 0, 0, 0, m0),
   (5, .iconst 1, 1, 0, 0, 0, m0),
   (6, .invokevirtual 171, 3, 0, 0, 1708, m_Mod_of),
   (9, .if_icmp .ge 21, 3, 30, 0, 0, m0),
   (12, .nop, 0, 0, 0, 0, m0)]),
  (12, [], false, [(12, .aload_n 0, 1, 0, 0, 0, m0),
   (13, .iload_n 1, 1, 0, 0, 0, m0),
   (14, .iload_n 3, 1, 0, 0, 0, m0),
   (15, .invokevirtual 174, 3, 0, 0, 1712, m_Mod_holderOf),
   (18, .iload_n 2, 1, 0, 0, 0, m0),
   (19, .if_icmp .ne 5, 3, 24, 0, 0, m0),
   (22, .nop, 0, 0, 0, 0, m0)]),
  (22, [], false, [(22, .iload_n 3, 1, 0, 0, 0, m0),
   (23, .ireturn, 1, 0, 0, 0, m0)]),
  (24, [], false, [(24, .iinc 3 1, 3, 0, 0, 0, m0),
   (27, .goto (-25), 3, 2, 0, 0, m0)]),
  (30, [], false, [(30, .iconst (-1), 1, 0, 0, 0, m0),
   (31, .ireturn, 1, 0, 0, 0, m0)])]
theorem ok_Mod_noteOf : okBt m_Mod_noteOf bt_Mod_noteOf = true := by decide +kernel
set_option maxRecDepth 100000 in
theorem b_Mod_noteOf_0 {l : Launch} {E : EnvT} {d : Nat} {K : AV → Mem → Prop} {M : Mem} {x1 : Int32} {x2 : Int32} (hd : 1 ≤ d)
  (h : G l E d m_Mod_noteOf 2 [(0, (.ref 24, 41)), (1, (.int x1, 0)), (2, (.int x2, 0)), (3, (.int (iN 0), 0))] [] M K) :
  G l E d m_Mod_noteOf 0 [(0, (.ref 24, 41)), (1, (.int x1, 0)), (2, (.int x2, 0))] [] M K := G.blk 60 _ hd ok_Mod_noteOf rfl h
set_option maxRecDepth 100000 in
theorem b_Mod_noteOf_2 {l : Launch} {E : EnvT} {d : Nat} {K : AV → Mem → Prop} {M : Mem} {x1 : Int32} {x2 : Int32} {x3 : Int32} (hd : 1 ≤ d)
  (h : CT l E (d - 1) m_Mod_of [(.ref 24, 41), (.int x1, 0), (.int (iN 1), 0)] M (fun v1 M1 =>
   (((toI v1) ≤ x3 →
    K (.int (iN (-1)), 0) M1) ∧
   (¬ (toI v1) ≤ x3 →
    CT l E (d - 1) m_Mod_holderOf [(.ref 24, 41), (.int x1, 0), (.int x3, 0)] M1 (fun v2 M2 =>
     ((¬ (toI v2) = x2 →
      G l E d m_Mod_noteOf 2 [(0, (.ref 24, 41)), (1, (.int x1, 0)), (2, (.int x2, 0)), (3, (.int (x3 + iN 1), 0))] [] M2 K) ∧
     ((toI v2) = x2 →
      K (.int x3, 0) M2))))))) :
  G l E d m_Mod_noteOf 2 [(0, (.ref 24, 41)), (1, (.int x1, 0)), (2, (.int x2, 0)), (3, (.int x3, 0))] [] M K := G.blk 60 _ hd ok_Mod_noteOf rfl h
def bt_Mod_debtAt : BtT := [(0, [0, 1, 2], true, [(0, .aload_n 0, 1, 0, 0, 0, m0),
   (1, .getfield 7, 3, 0, 11, 1447, m0),
   (4, .aload_n 0, 1, 0, 0, 0, m0),
   (5, .getfield 165, 3, 21, 11, 1468, m0),
   (8, .sipush 166, 3, 0, 0, 0, m0),
   (11, .iadd, 1, 0, 0, 0, m0),
   (12, .bipush 6, 2, 0, 0, 0, m0),
   (14, .iload_n 1, 1, 0, 0, 0, m0),
   (15, .imul, 1, 0, 0, 0, m0),
   (16, .iadd, 1, 0, 0, 0, m0),
   (17, .iload_n 2, 1, 0, 0, 0, m0),
   (18, .iadd, 1, 0, 0, 0, m0),
   (19, .iaload, 1, 0, 0, 0, m0),
   (20, .ireturn, 1, 0, 0, 0, m0)])]
theorem ok_Mod_debtAt : okBt m_Mod_debtAt bt_Mod_debtAt = true := by decide +kernel
set_option maxRecDepth 100000 in
theorem b_Mod_debtAt_0 {l : Launch} {E : EnvT} {d : Nat} {K : AV → Mem → Prop} {M : Mem} {x1 : Int32} {x2 : Int32} (hd : 1 ≤ d)
  (h : (vp_in ((((iN (M 24 0 21)) + (iN 166)) + ((iN 6) * x1)) + x2) 3612 ∧ K (.int (iN (M 24 1 (((((iN (M 24 0 21)) + (iN 166)) + ((iN 6) * x1)) + x2)).toNatClampNeg)), 0) M)) :
  G l E d m_Mod_debtAt 0 [(0, (.ref 24, 41)), (1, (.int x1, 0)), (2, (.int x2, 0))] [] M K := G.blk 60 _ hd ok_Mod_debtAt rfl h
def bt_Mod_stands : BtT := [(0, [0, 1, 2, 3, 4], true, [(0, .aload_n 0, 1, 0, 0, 0, m0),
   (1, .getfield 7, 3, 0, 11, 1447, m0),
   (4, .aload_n 0, 1, 0, 0, 0, m0),
   (5, .getfield 165, 3, 21, 11, 1468, m0),
   (8, .bipush 118, 2, 0, 0, 0, m0),
   (10, .iadd, 1, 0, 0, 0, m0),
   (11, .bipush 6, 2, 0, 0, 0, m0),
   (13, .iload_n 1, 1, 0, 0, 0, m0),
   (14, .imul, 1, 0, 0, 0, m0),
   (15, .iadd, 1, 0, 0, 0, m0),
   (16, .iload_n 2, 1, 0, 0, 0, m0),
   (17, .iadd, 1, 0, 0, 0, m0),
   (18, .iload 4, 2, 0, 0, 0, m0),
   (20, .ifCond .ne 7, 3, 27, 0, 0, m0),
   (23, .nop, 0, 0, 0, 0, m0)]),
  (23, [], false, [(23, .iconst (-1), 1, 0, 0, 0, m0),
   (24, .goto 4, 3, 28, 0, 0, m0)]),
  (27, [], false, [(27, .iload_n 3, 1, 0, 0, 0, m0),
   (28, .nop, 0, 0, 0, 0, m0)]),
  (28, [], false, [(28, .iastore, 1, 0, 0, 0, m0),
   (29, .aload_n 0, 1, 0, 0, 0, m0),
   (30, .getfield 7, 3, 0, 11, 1447, m0),
   (33, .aload_n 0, 1, 0, 0, 0, m0),
   (34, .getfield 165, 3, 21, 11, 1468, m0),
   (37, .sipush 166, 3, 0, 0, 0, m0),
   (40, .iadd, 1, 0, 0, 0, m0),
   (41, .bipush 6, 2, 0, 0, 0, m0),
   (43, .iload_n 1, 1, 0, 0, 0, m0),
   (44, .imul, 1, 0, 0, 0, m0),
   (45, .iadd, 1, 0, 0, 0, m0),
   (46, .iload_n 2, 1, 0, 0, 0, m0),
   (47, .iadd, 1, 0, 0, 0, m0),
   (48, .iload 4, 2, 0, 0, 0, m0),
   (50, .iastore, 1, 0, 0, 0, m0),
   (51, .return_, 1, 0, 0, 0, m0)])]
theorem ok_Mod_stands : okBt m_Mod_stands bt_Mod_stands = true := by decide +kernel
set_option maxRecDepth 100000 in
theorem b_Mod_stands_0 {l : Launch} {E : EnvT} {d : Nat} {K : AV → Mem → Prop} {M : Mem} {x1 : Int32} {x2 : Int32} {x3 : Int32} {x4 : Int32} (hd : 1 ≤ d)
  (h : ((¬ x4 = 0 →
   (vp_in ((((iN (M 24 0 21)) + (iN 118)) + ((iN 6) * x1)) + x2) 3612 ∧ vp_in ((((iN ((upd3 M 24 1 (((((iN (M 24 0 21)) + (iN 118)) + ((iN 6) * x1)) + x2)).toNatClampNeg (x3).toInt) 24 0 21)) + (iN 166)) + ((iN 6) * x1)) + x2) 3612 ∧ K (.null, 0) (upd3 (upd3 M 24 1 (((((iN (M 24 0 21)) + (iN 118)) + ((iN 6) * x1)) + x2)).toNatClampNeg (x3).toInt) 24 1 (((((iN ((upd3 M 24 1 (((((iN (M 24 0 21)) + (iN 118)) + ((iN 6) * x1)) + x2)).toNatClampNeg (x3).toInt) 24 0 21)) + (iN 166)) + ((iN 6) * x1)) + x2)).toNatClampNeg (x4).toInt))) ∧
  (x4 = 0 →
   (vp_in ((((iN (M 24 0 21)) + (iN 118)) + ((iN 6) * x1)) + x2) 3612 ∧ vp_in ((((iN ((upd3 M 24 1 (((((iN (M 24 0 21)) + (iN 118)) + ((iN 6) * x1)) + x2)).toNatClampNeg ((iN (-1))).toInt) 24 0 21)) + (iN 166)) + ((iN 6) * x1)) + x2) 3612 ∧ K (.null, 0) (upd3 (upd3 M 24 1 (((((iN (M 24 0 21)) + (iN 118)) + ((iN 6) * x1)) + x2)).toNatClampNeg ((iN (-1))).toInt) 24 1 (((((iN ((upd3 M 24 1 (((((iN (M 24 0 21)) + (iN 118)) + ((iN 6) * x1)) + x2)).toNatClampNeg ((iN (-1))).toInt) 24 0 21)) + (iN 166)) + ((iN 6) * x1)) + x2)).toNatClampNeg (x4).toInt))))) :
  G l E d m_Mod_stands 0 [(0, (.ref 24, 41)), (1, (.int x1, 0)), (2, (.int x2, 0)), (3, (.int x3, 0)), (4, (.int x4, 0))] [] M K := G.blk 60 _ hd ok_Mod_stands rfl h
def bt_Mod_waiterOf : BtT := [(0, [0, 1, 2], true, [(0, .iconst 0, 1, 0, 0, 0, m0),
   (1, .istore_n 3, 1, 0, 0, 0, m0),
   (2, .nop, 0, 0, 0, 0, m0)]),
  (2, [0, 1, 2, 3], true, [(2, .iload_n 3, 1, 0, 0, 0, m0),
   (3, .aload_n 0, 1, 0, 0, 0, m0),
   (4, .getfield 7, 3, 0, 11, 1447, m0),
   (7, .aload_n 0, 1, 0, 0, 0, m0),
   (8, .getfield 165, 3, 21, 11, 1468, m0),
   (11, .iconst 5, 1, 0, 0, 0, m0),
   (12, .iadd, 1, 0, 0, 0, m0),
   (13, .iaload, 1, 0, 0, 0, m0),
   (14, .if_icmp .ge 55, 3, 69, 0, 0, m0),
   (17, .nop, 0, 0, 0, 0, m0)]),
  (17, [], false, [(17, .aload_n 0, 1, 0, 0, 0, m0),
   (18, .getfield 7, 3, 0, 11, 1447, m0),
   (21, .aload_n 0, 1, 0, 0, 0, m0),
   (22, .getfield 165, 3, 21, 11, 1468, m0),
   (25, .sipush 214, 3, 0, 0, 0, m0),
   (28, .iadd, 1, 0, 0, 0, m0),
   (29, .iconst 3, 1, 0, 0, 0, m0),
   (30, .iload_n 3, 1, 0, 0, 0, m0),
   (31, .imul, 1, 0, 0, 0, m0),
   (32, .iadd, 1, 0, 0, 0, m0),
   (33, .iaload, 1, 0, 0, 0, m0),
   (34, .iload_n 1, 1, 0, 0, 0, m0),
   (35, .if_icmp .ne 28, 3, 63, 0, 0, m0),
   (38, .nop, 0, 0, 0, 0, m0)]),
  (38, [], false, [(38, .aload_n 0, 1, 0, 0, 0, m0),
   (39, .getfield 7, 3, 0, 11, 1447, m0),
   (42, .aload_n 0, 1, 0, 0, 0, m0),
   (43, .getfield 165, 3, 21, 11, 1468, m0),
   (46, .sipush 214, 3, 0, 0, 0, m0),
   (49, .iadd, 1, 0, 0, 0, m0),
   (50, .iconst 3, 1, 0, 0, 0, m0),
   (51, .iload_n 3, 1, 0, 0, 0, m0),
   (52, .imul, 1, 0, 0, 0, m0),
   (53, .iadd, 1, 0, 0, 0, m0),
   (54, .iconst 1, 1, 0, 0, 0, m0),
   (55, .iadd, 1, 0, 0, 0, m0),
   (56, .iaload, 1, 0, 0, 0, m0),
   (57, .iload_n 2, 1, 0, 0, 0, m0),
   (58, .if_icmp .ne 5, 3, 63, 0, 0, m0),
   (61, .nop, 0, 0, 0, 0, m0)]),
  (61, [], false, [(61, .iload_n 3, 1, 0, 0, 0, m0),
   (62, .ireturn, 1, 0, 0, 0, m0)]),
  (63, [], false, [(63, .iinc 3 1, 3, 0, 0, 0, m0),
   (66, .goto (-64), 3, 2, 0, 0, m0)]),
  (69, [], false, [(69, .iconst (-1), 1, 0, 0, 0, m0),
   (70, .ireturn, 1, 0, 0, 0, m0)])]
theorem ok_Mod_waiterOf : okBt m_Mod_waiterOf bt_Mod_waiterOf = true := by decide +kernel
set_option maxRecDepth 100000 in
theorem b_Mod_waiterOf_0 {l : Launch} {E : EnvT} {d : Nat} {K : AV → Mem → Prop} {M : Mem} {x1 : Int32} {x2 : Int32} (hd : 1 ≤ d)
  (h : G l E d m_Mod_waiterOf 2 [(0, (.ref 24, 41)), (1, (.int x1, 0)), (2, (.int x2, 0)), (3, (.int (iN 0), 0))] [] M K) :
  G l E d m_Mod_waiterOf 0 [(0, (.ref 24, 41)), (1, (.int x1, 0)), (2, (.int x2, 0))] [] M K := G.blk 60 _ hd ok_Mod_waiterOf rfl h
set_option maxRecDepth 100000 in
theorem b_Mod_waiterOf_2 {l : Launch} {E : EnvT} {d : Nat} {K : AV → Mem → Prop} {M : Mem} {x1 : Int32} {x2 : Int32} {x3 : Int32} (hd : 1 ≤ d)
  (h : (vp_in ((iN (M 24 0 21)) + (iN 5)) 3612 ∧ (((iN (M 24 1 (((iN (M 24 0 21)) + (iN 5))).toNatClampNeg)) ≤ x3 →
   K (.int (iN (-1)), 0) M) ∧
  (¬ (iN (M 24 1 (((iN (M 24 0 21)) + (iN 5))).toNatClampNeg)) ≤ x3 →
   (vp_in (((iN (M 24 0 21)) + (iN 214)) + ((iN 3) * x3)) 3612 ∧ ((¬ (iN (M 24 1 ((((iN (M 24 0 21)) + (iN 214)) + ((iN 3) * x3))).toNatClampNeg)) = x1 →
    G l E d m_Mod_waiterOf 2 [(0, (.ref 24, 41)), (1, (.int x1, 0)), (2, (.int x2, 0)), (3, (.int (x3 + iN 1), 0))] [] M K) ∧
   ((iN (M 24 1 ((((iN (M 24 0 21)) + (iN 214)) + ((iN 3) * x3))).toNatClampNeg)) = x1 →
    (vp_in ((((iN (M 24 0 21)) + (iN 214)) + ((iN 3) * x3)) + (iN 1)) 3612 ∧ ((¬ (iN (M 24 1 (((((iN (M 24 0 21)) + (iN 214)) + ((iN 3) * x3)) + (iN 1))).toNatClampNeg)) = x2 →
     G l E d m_Mod_waiterOf 2 [(0, (.ref 24, 41)), (1, (.int x1, 0)), (2, (.int x2, 0)), (3, (.int (x3 + iN 1), 0))] [] M K) ∧
    ((iN (M 24 1 (((((iN (M 24 0 21)) + (iN 214)) + ((iN 3) * x3)) + (iN 1))).toNatClampNeg)) = x2 →
     K (.int x3, 0) M)))))))))) :
  G l E d m_Mod_waiterOf 2 [(0, (.ref 24, 41)), (1, (.int x1, 0)), (2, (.int x2, 0)), (3, (.int x3, 0))] [] M K := G.blk 60 _ hd ok_Mod_waiterOf rfl h
