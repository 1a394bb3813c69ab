def bt_FN_status : BtT := [(0, [0], true, [(0, .aload_n 0, 1, 0, 0, 0, m0),
   (1, .getfield 80, 3, 13, 10, 505, m0),
   (4, .ireturn, 1, 0, 0, 0, m0)])]
theorem ok_FN_status : okBt m_FN_status bt_FN_status = true := by decide +kernel
set_option maxRecDepth 100000 in
theorem b_FN_status_0 {l : Launch} {E : EnvT} {d : Nat} {K : AV → Mem → Prop} {M : Mem}  (hd : 1 ≤ d)
  (h : K (.int (iN (M 0 0 13)), 0) M) :
  G l E d m_FN_status 0 [(0, (.ref 0, 0))] [] M K := G.blk 60 _ hd ok_FN_status rfl h
def bt_FN_top : BtT := [(0, [0], true, [(0, .aload_n 0, 1, 0, 0, 0, m0),
   (1, .getfield 84, 3, 14, 10, 506, m0),
   (4, .lreturn, 1, 0, 0, 0, m0)])]
theorem ok_FN_top : okBt m_FN_top bt_FN_top = true := by decide +kernel
set_option maxRecDepth 100000 in
theorem b_FN_top_0 {l : Launch} {E : EnvT} {d : Nat} {K : AV → Mem → Prop} {M : Mem}  (hd : 1 ≤ d)
  (h : K (.long (lI (M 0 0 14)), 0) M) :
  G l E d m_FN_top 0 [(0, (.ref 0, 0))] [] M K := G.blk 60 _ hd ok_FN_top rfl h
def bt_FN_bottom : BtT := [(0, [0], true, [(0, .aload_n 0, 1, 0, 0, 0, m0),
   (1, .getfield 88, 3, 15, 10, 507, m0),
   (4, .lreturn, 1, 0, 0, 0, m0)])]
theorem ok_FN_bottom : okBt m_FN_bottom bt_FN_bottom = true := by decide +kernel
set_option maxRecDepth 100000 in
theorem b_FN_bottom_0 {l : Launch} {E : EnvT} {d : Nat} {K : AV → Mem → Prop} {M : Mem}  (hd : 1 ≤ d)
  (h : K (.long (lI (M 0 0 15)), 0) M) :
  G l E d m_FN_bottom 0 [(0, (.ref 0, 0))] [] M K := G.blk 60 _ hd ok_FN_bottom rfl h
def bt_FN_isTray : BtT := [(0, [0], true, [(0, .iload_n 0, 1, 0, 0, 0, m0),
   (1, .ifCond .lt 12, 3, 13, 0, 0, m0),
   (4, .nop, 0, 0, 0, 0, m0)]),
  (4, [], false, [(4, .iload_n 0, 1, 0, 0, 0, m0),
   (5, .iconst 4, 1, 0, 0, 0, m0),
   (6, .if_icmp .ge 7, 3, 13, 0, 0, m0),
   (9, .nop, 0, 0, 0, 0, m0)]),
  (9, [], false, [(9, .iconst 1, 1, 0, 0, 0, m0),
   (10, .goto 4, 3, 14, 0, 0, m0)]),
  (13, [], false, [(13, .iconst 0, 1, 0, 0, 0, m0),
   (14, .nop, 0, 0, 0, 0, m0)]),
  (14, [], false, [(14, .ireturn, 1, 0, 0, 0, m0)])]
theorem ok_FN_isTray : okBt m_FN_isTray bt_FN_isTray = true := by decide +kernel
set_option maxRecDepth 100000 in
theorem b_FN_isTray_0 {l : Launch} {E : EnvT} {d : Nat} {K : AV → Mem → Prop} {M : Mem} {x0 : Int32} (hd : 1 ≤ d)
  (h : ((x0 < 0 →
   ((((iN 0) = 0 ∨ (iN 0) = 1)) ∧ K (.int (iN 0), 0) M)) ∧
  (¬ x0 < 0 →
   (((iN 4) ≤ x0 →
    ((((iN 0) = 0 ∨ (iN 0) = 1)) ∧ K (.int (iN 0), 0) M)) ∧
   (¬ (iN 4) ≤ x0 →
    ((((iN 1) = 0 ∨ (iN 1) = 1)) ∧ K (.int (iN 1), 0) M)))))) :
  G l E d m_FN_isTray 0 [(0, (.int x0, 0))] [] M K := G.blk 60 _ hd ok_FN_isTray rfl h
def bt_FN_deny : BtT := [(0, [0, 1], true, [(0, .aload_n 0, 1, 0, 0, 0, m0),
   (1, .iload_n 1, 1, 0, 0, 0, m0),
   (2, .putfield 80, 3, 13, 10, 505, m0),
   (5, .iconst 0, 1, 0, 0, 0, m0),
   (6, .ireturn, 1, 0, 0, 0, m0)])]
theorem ok_FN_deny : okBt m_FN_deny bt_FN_deny = true := by decide +kernel
set_option maxRecDepth 100000 in
theorem b_FN_deny_0 {l : Launch} {E : EnvT} {d : Nat} {K : AV → Mem → Prop} {M : Mem} {x1 : Int32} (hd : 1 ≤ d)
  (h : ((((iN 0) = 0 ∨ (iN 0) = 1)) ∧ K (.int (iN 0), 0) (upd3 M 0 0 13 (x1).toInt))) :
  G l E d m_FN_deny 0 [(0, (.ref 0, 0)), (1, (.int x1, 0))] [] M K := G.blk 60 _ hd ok_FN_deny rfl h
def bt_FN_agree : BtT := [(0, [0], true, [(0, .aload_n 0, 1, 0, 0, 0, m0),
   (1, .iconst 0, 1, 0, 0, 0, m0),
   (2, .putfield 80, 3, 13, 10, 505, m0),
   (5, .iconst 1, 1, 0, 0, 0, m0),
   (6, .ireturn, 1, 0, 0, 0, m0)])]
theorem ok_FN_agree : okBt m_FN_agree bt_FN_agree = true := by decide +kernel
set_option maxRecDepth 100000 in
theorem b_FN_agree_0 {l : Launch} {E : EnvT} {d : Nat} {K : AV → Mem → Prop} {M : Mem}  (hd : 1 ≤ d)
  (h : ((((iN 1) = 0 ∨ (iN 1) = 1)) ∧ K (.int (iN 1), 0) (upd3 M 0 0 13 ((iN 0)).toInt))) :
  G l E d m_FN_agree 0 [(0, (.ref 0, 0))] [] M K := G.blk 60 _ hd ok_FN_agree rfl h
def bt_FN_tray : BtT := [(0, [0, 1, 2, 3], true, [(0, .iload_n 1, 1, 0, 0, 0, m0),
   (1, .invokestatic 101, 3, 0, 0, 566, m_FN_isTray),
   (4, .ifCond .eq 22, 3, 26, 0, 0, m0),
   (7, .nop, 0, 0, 0, 0, m0)]),
  (7, [], false, [(7, .iload_n 2, 1, 0, 0, 0, m0),
   (8, .ifCond .lt 18, 3, 26, 0, 0, m0),
   (11, .nop, 0, 0, 0, 0, m0)]),
  (11, [], false, [(11, .iload_n 2, 1, 0, 0, 0, m0),
   (12, .iconst 3, 1, 0, 0, 0, m0),
   (13, .if_icmp .gt 13, 3, 26, 0, 0, m0),
   (16, .nop, 0, 0, 0, 0, m0)]),
  (16, [], false, [(16, .iload_n 3, 1, 0, 0, 0, m0),
   (17, .ifCond .lt 9, 3, 26, 0, 0, m0),
   (20, .nop, 0, 0, 0, 0, m0)]),
  (20, [], false, [(20, .iload_n 3, 1, 0, 0, 0, m0),
   (21, .bipush 60, 2, 0, 0, 0, m0),
   (23, .if_icmp .le 9, 3, 32, 0, 0, m0),
   (26, .nop, 0, 0, 0, 0, m0)]),
  (26, [], false, [(26, .aload_n 0, 1, 0, 0, 0, m0),
   (27, .iconst 1, 1, 0, 0, 0, m0),
   (28, .invokevirtual 105, 3, 0, 0, 569, m_FN_deny),
   (31, .ireturn, 1, 0, 0, 0, m0)]),
  (32, [], false, [(32, .aload_n 0, 1, 0, 0, 0, m0),
   (33, .getfield 11, 3, 0, 10, 492, m0),
   (36, .iload_n 1, 1, 0, 0, 0, m0),
   (37, .aaload, 1, 0, 0, 0, m0),
   (38, .iload_n 2, 1, 0, 0, 0, m0),
   (39, .iload_n 3, 1, 0, 0, 0, m0),
   (40, .invokevirtual 108, 3, 0, 0, 573, m_Tray_make),
   (43, .aload_n 0, 1, 0, 0, 0, m0),
   (44, .invokevirtual 112, 3, 0, 0, 580, m_FN_agree),
   (47, .ireturn, 1, 0, 0, 0, m0)])]
theorem ok_FN_tray : okBt m_FN_tray bt_FN_tray = true := by decide +kernel
set_option maxRecDepth 100000 in
theorem b_FN_tray_0 {l : Launch} {E : EnvT} {d : Nat} {K : AV → Mem → Prop} {M : Mem} {x1 : Int32} {x2 : Int32} {x3 : Int32} (hd : 1 ≤ d)
  (h : CT l E (d - 1) m_FN_isTray [(.int x1, 0)] M (fun v1 M1 =>
   (((toI v1) = 0 →
    CT l E (d - 1) m_FN_deny [(.ref 0, 0), (.int (iN 1), 0)] M1 (fun v2 M2 =>
     ((((toI v2) = 0 ∨ (toI v2) = 1)) ∧ K (.int (toI v2), 0) M2))) ∧
   (¬ (toI v1) = 0 →
    ((x2 < 0 →
     CT l E (d - 1) m_FN_deny [(.ref 0, 0), (.int (iN 1), 0)] M1 (fun v3 M3 =>
      ((((toI v3) = 0 ∨ (toI v3) = 1)) ∧ K (.int (toI v3), 0) M3))) ∧
    (¬ x2 < 0 →
     (((iN 3) < x2 →
      CT l E (d - 1) m_FN_deny [(.ref 0, 0), (.int (iN 1), 0)] M1 (fun v4 M4 =>
       ((((toI v4) = 0 ∨ (toI v4) = 1)) ∧ K (.int (toI v4), 0) M4))) ∧
     (¬ (iN 3) < x2 →
      ((x3 < 0 →
       CT l E (d - 1) m_FN_deny [(.ref 0, 0), (.int (iN 1), 0)] M1 (fun v5 M5 =>
        ((((toI v5) = 0 ∨ (toI v5) = 1)) ∧ K (.int (toI v5), 0) M5))) ∧
      (¬ x3 < 0 →
       ((x3 ≤ (iN 60) →
        (vp_in x1 4 ∧ CT l E (d - 1) m_Tray_make [(.ref ([(20, 39), (21, 39), (22, 39), (23, 39)].getD (x1).toNatClampNeg (0, 0)).1, 39), (.int x2, 0), (.int x3, 0)] M1 (fun v6 M6 =>
         CT l E (d - 1) m_FN_agree [(.ref 0, 0)] M6 (fun v7 M7 =>
          ((((toI v7) = 0 ∨ (toI v7) = 1)) ∧ K (.int (toI v7), 0) M7))))) ∧
       (¬ x3 ≤ (iN 60) →
        CT l E (d - 1) m_FN_deny [(.ref 0, 0), (.int (iN 1), 0)] M1 (fun v8 M8 =>
         ((((toI v8) = 0 ∨ (toI v8) = 1)) ∧ K (.int (toI v8), 0) M8)))))))))))))) :
  G l E d m_FN_tray 0 [(0, (.ref 0, 0)), (1, (.int x1, 0)), (2, (.int x2, 0)), (3, (.int x3, 0))] [] M K := G.blk 60 _ hd ok_FN_tray rfl h
def bt_FN_cellStatus : BtT := [(0, [0, 1, 2], true, [(0, .iload_n 1, 1, 0, 0, 0, m0),
   (1, .invokestatic 101, 3, 0, 0, 566, m_FN_isTray),
   (4, .ifCond .ne 5, 3, 9, 0, 0, m0),
   (7, .nop, 0, 0, 0, 0, m0)]),
  (7, [], false, [(7, .iconst 1, 1, 0, 0, 0, m0),
   (8, .ireturn, 1, 0, 0, 0, m0)]),
  (9, [], false, [(9, .aload_n 0, 1, 0, 0, 0, m0),
   (10, .getfield 11, 3, 0, 10, 492, m0),
   (13, .iload_n 1, 1, 0, 0, 0, m0),
   (14, .aaload, 1, 0, 0, 0, m0),
   (15, .invokevirtual 132, 3, 0, 0, 592, m_Tray_isMissing),
   (18, .ifCond .eq 5, 3, 23, 0, 0, m0),
   (21, .nop, 0, 0, 0, 0, m0)]),
  (21, [], false, [(21, .iconst 2, 1, 0, 0, 0, m0),
   (22, .ireturn, 1, 0, 0, 0, m0)]),
  (23, [], false, [(23, .iload_n 2, 1, 0, 0, 0, m0),
   (24, .ifCond .lt 20, 3, 44, 0, 0, m0),
   (27, .nop, 0, 0, 0, 0, m0)]),
  (27, [], false, [(27, .iload_n 2, 1, 0, 0, 0, m0),
   (28, .aload_n 0, 1, 0, 0, 0, m0),
   (29, .getfield 11, 3, 0, 10, 492, m0),
   (32, .iload_n 1, 1, 0, 0, 0, m0),
   (33, .aaload, 1, 0, 0, 0, m0),
   (34, .getfield 428, 3, 2, 6, 484, m0),
   (37, .if_icmp .ge 7, 3, 44, 0, 0, m0),
   (40, .nop, 0, 0, 0, 0, m0)]),
  (40, [], false, [(40, .iconst 0, 1, 0, 0, 0, m0),
   (41, .goto 4, 3, 45, 0, 0, m0)]),
  (44, [], false, [(44, .iconst 3, 1, 0, 0, 0, m0),
   (45, .nop, 0, 0, 0, 0, m0)]),
  (45, [], false, [(45, .ireturn, 1, 0, 0, 0, m0)])]
theorem ok_FN_cellStatus : okBt m_FN_cellStatus bt_FN_cellStatus = true := by decide +kernel
set_option maxRecDepth 100000 in
theorem b_FN_cellStatus_0 {l : Launch} {E : EnvT} {d : Nat} {K : AV → Mem → Prop} {M : Mem} {x1 : Int32} {x2 : Int32} (hd : 1 ≤ d)
  (h : CT l E (d - 1) m_FN_isTray [(.int x1, 0)] M (fun v1 M1 =>
   ((¬ (toI v1) = 0 →
    (vp_in x1 4 ∧ CT l E (d - 1) m_Tray_isMissing [(.ref ([(20, 39), (21, 39), (22, 39), (23, 39)].getD (x1).toNatClampNeg (0, 0)).1, 39)] M1 (fun v2 M2 =>
     (((toI v2) = 0 →
      ((x2 < 0 →
       K (.int (iN 3), 0) M2) ∧
      (¬ x2 < 0 →
       (vp_in x1 4 ∧ (((iN (M2 ([(20, 39), (21, 39), (22, 39), (23, 39)].getD (x1).toNatClampNeg (0, 0)).1 0 2)) ≤ x2 →
        K (.int (iN 3), 0) M2) ∧
       (¬ (iN (M2 ([(20, 39), (21, 39), (22, 39), (23, 39)].getD (x1).toNatClampNeg (0, 0)).1 0 2)) ≤ x2 →
        K (.int (iN 0), 0) M2)))))) ∧
     (¬ (toI v2) = 0 →
      K (.int (iN 2), 0) M2))))) ∧
   ((toI v1) = 0 →
    K (.int (iN 1), 0) M1)))) :
  G l E d m_FN_cellStatus 0 [(0, (.ref 0, 0)), (1, (.int x1, 0)), (2, (.int x2, 0))] [] M K := G.blk 60 _ hd ok_FN_cellStatus rfl h
def bt_FN_write : BtT := [(0, [0, 1, 2, 3], true, [(0, .aload_n 0, 1, 0, 0, 0, m0),
   (1, .iload_n 1, 1, 0, 0, 0, m0),
   (2, .iload_n 2, 1, 0, 0, 0, m0),
   (3, .invokevirtual 116, 3, 0, 0, 588, m_FN_cellStatus),
   (6, .istore 5, 2, 0, 0, 0, m0),
   (8, .iload 5, 2, 0, 0, 0, m0),
   (10, .ifCond .eq 10, 3, 20, 0, 0, m0),
   (13, .nop, 0, 0, 0, 0, m0)]),
  (13, [], false, [(13, .aload_n 0, 1, 0, 0, 0, m0),
   (14, .iload 5, 2, 0, 0, 0, m0),
   (16, .invokevirtual 105, 3, 0, 0, 569, m_FN_deny),
   (19, .ireturn, 1, 0, 0, 0, m0)]),
  (20, [], false, [(20, .aload_n 0, 1, 0, 0, 0, m0),
   (21, .getfield 11, 3, 0, 10, 492, m0),
   (24, .iload_n 1, 1, 0, 0, 0, m0),
   (25, .aaload, 1, 0, 0, 0, m0),
   (26, .iload_n 2, 1, 0, 0, 0, m0),
   (27, .lload_n 3, 1, 0, 0, 0, m0),
   (28, .invokevirtual 120, 3, 0, 0, 596, m_Tray_put),
   (31, .aload_n 0, 1, 0, 0, 0, m0),
   (32, .invokevirtual 112, 3, 0, 0, 580, m_FN_agree),
   (35, .ireturn, 1, 0, 0, 0, m0)])]
theorem ok_FN_write : okBt m_FN_write bt_FN_write = true := by decide +kernel
set_option maxRecDepth 100000 in
theorem b_FN_write_0 {l : Launch} {E : EnvT} {d : Nat} {K : AV → Mem → Prop} {M : Mem} {x1 : Int32} {x2 : Int32} {x3 : Int64} (hd : 1 ≤ d)
  (h : CT l E (d - 1) m_FN_cellStatus [(.ref 0, 0), (.int x1, 0), (.int x2, 0)] M (fun v1 M1 =>
   (((toI v1) = 0 →
    (vp_in x1 4 ∧ CT l E (d - 1) m_Tray_put [(.ref ([(20, 39), (21, 39), (22, 39), (23, 39)].getD (x1).toNatClampNeg (0, 0)).1, 39), (.int x2, 0), (.long x3, 0)] M1 (fun v2 M2 =>
     CT l E (d - 1) m_FN_agree [(.ref 0, 0)] M2 (fun v3 M3 =>
      ((((toI v3) = 0 ∨ (toI v3) = 1)) ∧ K (.int (toI v3), 0) M3))))) ∧
   (¬ (toI v1) = 0 →
    CT l E (d - 1) m_FN_deny [(.ref 0, 0), (.int (toI v1), 0)] M1 (fun v4 M4 =>
     ((((toI v4) = 0 ∨ (toI v4) = 1)) ∧ K (.int (toI v4), 0) M4)))))) :
  G l E d m_FN_write 0 [(0, (.ref 0, 0)), (1, (.int x1, 0)), (2, (.int x2, 0)), (3, (.long x3, 0))] [] M K := G.blk 60 _ hd ok_FN_write rfl h
def bt_FN_refuse : BtT := [(0, [0, 1], true, [(0, .aload_n 0, 1, 0, 0, 0, m0),
   (1, .iload_n 1, 1, 0, 0, 0, m0),
   (2, .putfield 80, 3, 13, 10, 505, m0),
   (5, .iconst (-1), 1, 0, 0, 0, m0),
   (6, .ireturn, 1, 0, 0, 0, m0)])]
theorem ok_FN_refuse : okBt m_FN_refuse bt_FN_refuse = true := by decide +kernel
set_option maxRecDepth 100000 in
theorem b_FN_refuse_0 {l : Launch} {E : EnvT} {d : Nat} {K : AV → Mem → Prop} {M : Mem} {x1 : Int32} (hd : 1 ≤ d)
  (h : K (.int (iN (-1)), 0) (upd3 M 0 0 13 (x1).toInt)) :
  G l E d m_FN_refuse 0 [(0, (.ref 0, 0)), (1, (.int x1, 0))] [] M K := G.blk 60 _ hd ok_FN_refuse rfl h
def bt_FN_read : BtT := [(0, [0, 1, 2], true, [(0, .aload_n 0, 1, 0, 0, 0, m0),
   (1, .iload_n 1, 1, 0, 0, 0, m0),
   (2, .iload_n 2, 1, 0, 0, 0, m0),
   (3, .invokevirtual 116, 3, 0, 0, 588, m_FN_cellStatus),
   (6, .istore_n 3, 1, 0, 0, 0, m0),
   (7, .iload_n 3, 1, 0, 0, 0, m0),
   (8, .ifCond .eq 10, 3, 18, 0, 0, m0),
   (11, .nop, 0, 0, 0, 0, m0)]),
  (11, [], false, [(11, .aload_n 0, 1, 0, 0, 0, m0),
   (12, .iload_n 3, 1, 0, 0, 0, m0),
   (13, .invokevirtual 124, 3, 0, 0, 608, m_FN_refuse),
   (16, .i2l, 1, 0, 0, 0, m0),
   (17, .lreturn, 1, 0, 0, 0, m0)]),
  (18, [], false, [(18, .aload_n 0, 1, 0, 0, 0, m0),
   (19, .iconst 0, 1, 0, 0, 0, m0),
   (20, .putfield 80, 3, 13, 10, 505, m0),
   (23, .aload_n 0, 1, 0, 0, 0, m0),
   (24, .getfield 11, 3, 0, 10, 492, m0),
   (27, .iload_n 1, 1, 0, 0, 0, m0),
   (28, .aaload, 1, 0, 0, 0, m0),
   (29, .getfield 128, 3, 0, 6, 480, m0),
   (32, .iload_n 2, 1, 0, 0, 0, m0),
   (33, .laload, 1, 0, 0, 0, m0),
   (34, .lreturn, 1, 0, 0, 0, m0)])]
theorem ok_FN_read : okBt m_FN_read bt_FN_read = true := by decide +kernel
set_option maxRecDepth 100000 in
theorem b_FN_read_0 {l : Launch} {E : EnvT} {d : Nat} {K : AV → Mem → Prop} {M : Mem} {x1 : Int32} {x2 : Int32} (hd : 1 ≤ d)
  (h : CT l E (d - 1) m_FN_cellStatus [(.ref 0, 0), (.int x1, 0), (.int x2, 0)] M (fun v1 M1 =>
   (((toI v1) = 0 →
    (vp_in x1 4 ∧ vp_in x2 60 ∧ K (.long (lI ((upd3 M1 0 0 13 ((iN 0)).toInt) ([(20, 39), (21, 39), (22, 39), (23, 39)].getD (x1).toNatClampNeg (0, 0)).1 1 (x2).toNatClampNeg)), 0) (upd3 M1 0 0 13 ((iN 0)).toInt))) ∧
   (¬ (toI v1) = 0 →
    CT l E (d - 1) m_FN_refuse [(.ref 0, 0), (.int (toI v1), 0)] M1 (fun v2 M2 =>
     K (.long ((toI v2)).toInt64, 0) M2))))) :
  G l E d m_FN_read 0 [(0, (.ref 0, 0)), (1, (.int x1, 0)), (2, (.int x2, 0))] [] M K := G.blk 60 _ hd ok_FN_read rfl h
def bt_FN_pour : BtT := [(0, [0, 1, 2, 3, 4, 5], true, [(0, .iload_n 1, 1, 0, 0, 0, m0),
   (1, .invokestatic 101, 3, 0, 0, 566, m_FN_isTray),
   (4, .ifCond .eq 24, 3, 28, 0, 0, m0),
   (7, .nop, 0, 0, 0, 0, m0)]),
  (7, [], false, [(7, .iload_n 3, 1, 0, 0, 0, m0),
   (8, .invokestatic 101, 3, 0, 0, 566, m_FN_isTray),
   (11, .ifCond .eq 17, 3, 28, 0, 0, m0),
   (14, .nop, 0, 0, 0, 0, m0)]),
  (14, [], false, [(14, .iload_n 2, 1, 0, 0, 0, m0),
   (15, .ifCond .lt 13, 3, 28, 0, 0, m0),
   (18, .nop, 0, 0, 0, 0, m0)]),
  (18, [], false, [(18, .iload 4, 2, 0, 0, 0, m0),
   (20, .ifCond .lt 8, 3, 28, 0, 0, m0),
   (23, .nop, 0, 0, 0, 0, m0)]),
  (23, [], false, [(23, .iload 5, 2, 0, 0, 0, m0),
   (25, .ifCond .ge 9, 3, 34, 0, 0, m0),
   (28, .nop, 0, 0, 0, 0, m0)]),
  (28, [], false, [(28, .aload_n 0, 1, 0, 0, 0, m0),
   (29, .iconst 1, 1, 0, 0, 0, m0),
   (30, .invokevirtual 105, 3, 0, 0, 569, m_FN_deny),
   (33, .ireturn, 1, 0, 0, 0, m0)]),
  (34, [], false, [(34, .aload_n 0, 1, 0, 0, 0, m0),
   (35, .getfield 11, 3, 0, 10, 492, m0),
   (38, .iload_n 1, 1, 0, 0, 0, m0),
   (39, .aaload, 1, 0, 0, 0, m0),
   (40, .astore 6, 2, 0, 0, 0, m0),
   (42, .aload_n 0, 1, 0, 0, 0, m0),
   (43, .getfield 11, 3, 0, 10, 492, m0),
   (46, .iload_n 3, 1, 0, 0, 0, m0),
   (47, .aaload, 1, 0, 0, 0, m0),
   (48, .astore 7, 2, 0, 0, 0, m0),
   (50, .aload 6, 2, 0, 0, 0, m0),
   (52, .invokevirtual 132, 3, 0, 0, 592, m_Tray_isMissing),
   (55, .ifCond .ne 11, 3, 66, 0, 0, m0),
   (58, .nop, 0, 0, 0, 0, m0)]),
  (58, [], false, [(58, .aload 7, 2, 0, 0, 0, m0),
   (60, .invokevirtual 132, 3, 0, 0, 592, m_Tray_isMissing),
   (63, .ifCond .eq 9, 3, 72, 0, 0, m0),
   (66, .nop, 0, 0, 0, 0, m0)]),
  (66, [], false, [(66, .aload_n 0, 1, 0, 0, 0, m0),
   (67, .iconst 2, 1, 0, 0, 0, m0),
   (68, .invokevirtual 105, 3, 0, 0, 569, m_FN_deny),
   (71, .ireturn, 1, 0, 0, 0, m0)]),
  (72, [], false, [(72, .aload 6, 2, 0, 0, 0, m0),
   (74, .getfield 135, 3, 1, 6, 482, m0),
   (77, .aload 7, 2, 0, 0, 0, m0),
   (79, .getfield 135, 3, 1, 6, 482, m0),
   (82, .if_icmp .eq 10, 3, 92, 0, 0, m0),
   (85, .nop, 0, 0, 0, 0, m0)]),
  (85, [], false, [(85, .aload_n 0, 1, 0, 0, 0, m0),
   (86, .bipush 8, 2, 0, 0, 0, m0),
   (88, .invokevirtual 105, 3, 0, 0, 569, m_FN_deny),
   (91, .ireturn, 1, 0, 0, 0, m0)]),
  (92, [], false, [(92, .aload 6, 2, 0, 0, 0, m0),
   (94, .iload_n 2, 1, 0, 0, 0, m0),
   (95, .iload 5, 2, 0, 0, 0, m0),
   (97, .invokevirtual 138, 3, 0, 0, 616, m_Tray_hasRow),
   (100, .ifCond .eq 15, 3, 115, 0, 0, m0),
   (103, .nop, 0, 0, 0, 0, m0)]),
  (103, [], false, [(103, .aload 7, 2, 0, 0, 0, m0),
   (105, .iload 4, 2, 0, 0, 0, m0),
   (107, .iload 5, 2, 0, 0, 0, m0),
   (109, .invokevirtual 138, 3, 0, 0, 616, m_Tray_hasRow),
   (112, .ifCond .ne 9, 3, 121, 0, 0, m0),
   (115, .nop, 0, 0, 0, 0, m0)]),
  (115, [], false, [(115, .aload_n 0, 1, 0, 0, 0, m0),
   (116, .iconst 3, 1, 0, 0, 0, m0),
   (117, .invokevirtual 105, 3, 0, 0, 569, m_FN_deny),
   (120, .ireturn, 1, 0, 0, 0, m0)]),
  (121, [], false, [(121, .aload 6, 2, 0, 0, 0, m0),
   (123, .getfield 128, 3, 0, 6, 480, m0),
   (126, .iload_n 2, 1, 0, 0, 0, m0),
   (127, .aload 7, 2, 0, 0, 0, m0),
   (129, .getfield 128, 3, 0, 6, 480, m0),
   (132, .iload 4, 2, 0, 0, 0, m0),
   (134, .iload 5, 2, 0, 0, 0, m0),
   (136, .invokestatic 142, 3, 0, 0, 620, m_copy),
   (139, .aload_n 0, 1, 0, 0, 0, m0),
   (140, .invokevirtual 112, 3, 0, 0, 580, m_FN_agree),
   (143, .ireturn, 1, 0, 0, 0, m0)])]
theorem ok_FN_pour : okBt m_FN_pour bt_FN_pour = true := by decide +kernel
set_option maxRecDepth 100000 in
theorem b_FN_pour_0 {l : Launch} {E : EnvT} {d : Nat} {K : AV → Mem → Prop} {M : Mem} {x1 : Int32} {x2 : Int32} {x3 : Int32} {x4 : Int32} {x5 : Int32} (hd : 1 ≤ d)
  (h : CT l E (d - 1) m_FN_isTray [(.int x1, 0)] M (fun v1 M1 =>
   (((toI v1) = 0 →
    CT l E (d - 1) m_FN_deny [(.ref 0, 0), (.int (iN 1), 0)] M1 (fun v2 M2 =>
     ((((toI v2) = 0 ∨ (toI v2) = 1)) ∧ K (.int (toI v2), 0) M2))) ∧
   (¬ (toI v1) = 0 →
    CT l E (d - 1) m_FN_isTray [(.int x3, 0)] M1 (fun v3 M3 =>
     (((toI v3) = 0 →
      CT l E (d - 1) m_FN_deny [(.ref 0, 0), (.int (iN 1), 0)] M3 (fun v4 M4 =>
       ((((toI v4) = 0 ∨ (toI v4) = 1)) ∧ K (.int (toI v4), 0) M4))) ∧
     (¬ (toI v3) = 0 →
      ((x2 < 0 →
       CT l E (d - 1) m_FN_deny [(.ref 0, 0), (.int (iN 1), 0)] M3 (fun v5 M5 =>
        ((((toI v5) = 0 ∨ (toI v5) = 1)) ∧ K (.int (toI v5), 0) M5))) ∧
      (¬ x2 < 0 →
       ((x4 < 0 →
        CT l E (d - 1) m_FN_deny [(.ref 0, 0), (.int (iN 1), 0)] M3 (fun v6 M6 =>
         ((((toI v6) = 0 ∨ (toI v6) = 1)) ∧ K (.int (toI v6), 0) M6))) ∧
       (¬ x4 < 0 →
        ((0 ≤ x5 →
         (vp_in x1 4 ∧ vp_in x3 4 ∧ CT l E (d - 1) m_Tray_isMissing [(.ref ([(20, 39), (21, 39), (22, 39), (23, 39)].getD (x1).toNatClampNeg (0, 0)).1, 39)] M3 (fun v7 M7 =>
          ((¬ (toI v7) = 0 →
           CT l E (d - 1) m_FN_deny [(.ref 0, 0), (.int (iN 2), 0)] M7 (fun v8 M8 =>
            ((((toI v8) = 0 ∨ (toI v8) = 1)) ∧ K (.int (toI v8), 0) M8))) ∧
          ((toI v7) = 0 →
           CT l E (d - 1) m_Tray_isMissing [(.ref ([(20, 39), (21, 39), (22, 39), (23, 39)].getD (x3).toNatClampNeg (0, 0)).1, 39)] M7 (fun v9 M9 =>
            (((toI v9) = 0 →
             (((iN (M9 ([(20, 39), (21, 39), (22, 39), (23, 39)].getD (x1).toNatClampNeg (0, 0)).1 0 1)) = (iN (M9 ([(20, 39), (21, 39), (22, 39), (23, 39)].getD (x3).toNatClampNeg (0, 0)).1 0 1)) →
              CT l E (d - 1) m_Tray_hasRow [(.ref ([(20, 39), (21, 39), (22, 39), (23, 39)].getD (x1).toNatClampNeg (0, 0)).1, 39), (.int x2, 0), (.int x5, 0)] M9 (fun v10 M10 =>
               (((toI v10) = 0 →
                CT l E (d - 1) m_FN_deny [(.ref 0, 0), (.int (iN 3), 0)] M10 (fun v11 M11 =>
                 ((((toI v11) = 0 ∨ (toI v11) = 1)) ∧ K (.int (toI v11), 0) M11))) ∧
               (¬ (toI v10) = 0 →
                CT l E (d - 1) m_Tray_hasRow [(.ref ([(20, 39), (21, 39), (22, 39), (23, 39)].getD (x3).toNatClampNeg (0, 0)).1, 39), (.int x4, 0), (.int x5, 0)] M10 (fun v12 M12 =>
                 ((¬ (toI v12) = 0 →
                  (¬ x2 < 0 ∧ ¬ x4 < 0 ∧ ¬ x5 < 0 ∧ (x2).toNatClampNeg + (x5).toNatClampNeg ≤ 60 ∧ (x4).toNatClampNeg + (x5).toNatClampNeg ≤ 60 ∧ CT l E (d - 1) m_FN_agree [(.ref 0, 0)] (cpyM M12 ([(20, 39), (21, 39), (22, 39), (23, 39)].getD (x1).toNatClampNeg (0, 0)).1 1 ([(20, 39), (21, 39), (22, 39), (23, 39)].getD (x3).toNatClampNeg (0, 0)).1 1 (x2).toNatClampNeg (x4).toNatClampNeg (x5).toNatClampNeg) (fun v13 M13 =>
                   ((((toI v13) = 0 ∨ (toI v13) = 1)) ∧ K (.int (toI v13), 0) M13)))) ∧
                 ((toI v12) = 0 →
                  CT l E (d - 1) m_FN_deny [(.ref 0, 0), (.int (iN 3), 0)] M12 (fun v14 M14 =>
                   ((((toI v14) = 0 ∨ (toI v14) = 1)) ∧ K (.int (toI v14), 0) M14))))))))) ∧
             (¬ (iN (M9 ([(20, 39), (21, 39), (22, 39), (23, 39)].getD (x1).toNatClampNeg (0, 0)).1 0 1)) = (iN (M9 ([(20, 39), (21, 39), (22, 39), (23, 39)].getD (x3).toNatClampNeg (0, 0)).1 0 1)) →
              CT l E (d - 1) m_FN_deny [(.ref 0, 0), (.int (iN 8), 0)] M9 (fun v15 M15 =>
               ((((toI v15) = 0 ∨ (toI v15) = 1)) ∧ K (.int (toI v15), 0) M15))))) ∧
            (¬ (toI v9) = 0 →
             CT l E (d - 1) m_FN_deny [(.ref 0, 0), (.int (iN 2), 0)] M9 (fun v16 M16 =>
              ((((toI v16) = 0 ∨ (toI v16) = 1)) ∧ K (.int (toI v16), 0) M16)))))))))) ∧
        (¬ 0 ≤ x5 →
         CT l E (d - 1) m_FN_deny [(.ref 0, 0), (.int (iN 1), 0)] M3 (fun v17 M17 =>
          ((((toI v17) = 0 ∨ (toI v17) = 1)) ∧ K (.int (toI v17), 0) M17))))))))))))))) :
  G l E d m_FN_pour 0 [(0, (.ref 0, 0)), (1, (.int x1, 0)), (2, (.int x2, 0)), (3, (.int x3, 0)), (4, (.int x4, 0)), (5, (.int x5, 0))] [] M K := G.blk 60 _ hd ok_FN_pour rfl h
def bt_FN_spool : BtT := [(0, [0, 1], true, [(0, .aload_n 0, 1, 0, 0, 0, m0),
   (1, .getfield 15, 3, 1, 10, 493, m0),
   (4, .aload_n 0, 1, 0, 0, 0, m0),
   (5, .getfield 91, 3, 16, 10, 508, m0),
   (8, .iload_n 1, 1, 0, 0, 0, m0),
   (9, .bipush 24, 2, 0, 0, 0, m0),
   (11, .ishr, 1, 0, 0, 0, m0),
   (12, .i2b, 1, 0, 0, 0, m0),
   (13, .bastore, 1, 0, 0, 0, m0),
   (14, .aload_n 0, 1, 0, 0, 0, m0),
   (15, .getfield 15, 3, 1, 10, 493, m0),
   (18, .aload_n 0, 1, 0, 0, 0, m0),
   (19, .getfield 91, 3, 16, 10, 508, m0),
   (22, .iconst 1, 1, 0, 0, 0, m0),
   (23, .iadd, 1, 0, 0, 0, m0),
   (24, .iload_n 1, 1, 0, 0, 0, m0),
   (25, .bipush 16, 2, 0, 0, 0, m0),
   (27, .ishr, 1, 0, 0, 0, m0),
   (28, .i2b, 1, 0, 0, 0, m0),
   (29, .bastore, 1, 0, 0, 0, m0),
   (30, .aload_n 0, 1, 0, 0, 0, m0),
   (31, .getfield 15, 3, 1, 10, 493, m0),
   (34, .aload_n 0, 1, 0, 0, 0, m0),
   (35, .getfield 91, 3, 16, 10, 508, m0),
   (38, .iconst 2, 1, 0, 0, 0, m0),
   (39, .iadd, 1, 0, 0, 0, m0),
   (40, .iload_n 1, 1, 0, 0, 0, m0),
   (41, .bipush 8, 2, 0, 0, 0, m0),
   (43, .ishr, 1, 0, 0, 0, m0),
   (44, .i2b, 1, 0, 0, 0, m0),
   (45, .bastore, 1, 0, 0, 0, m0),
   (46, .nop, 0, 0, 0, 0, m0)]),
  (46, [0, 1], true, [(46, .aload_n 0, 1, 0, 0, 0, m0),
   (47, .getfield 15, 3, 1, 10, 493, m0),
   (50, .aload_n 0, 1, 0, 0, 0, m0),
   (51, .getfield 91, 3, 16, 10, 508, m0),
   (54, .iconst 3, 1, 0, 0, 0, m0),
   (55, .iadd, 1, 0, 0, 0, m0),
   (56, .iload_n 1, 1, 0, 0, 0, m0),
   (57, .i2b, 1, 0, 0, 0, m0),
   (58, .bastore, 1, 0, 0, 0, m0),
   (59, .aload_n 0, 1, 0, 0, 0, m0),
   (60, .dup, 1, 0, 0, 0, m0),
   (61, .getfield 91, 3, 16, 10, 508, m0),
   (64, .iconst 4, 1, 0, 0, 0, m0),
   (65, .iadd, 1, 0, 0, 0, m0),
   (66, .putfield 91, 3, 16, 10, 508, m0),
   (69, .return_, 1, 0, 0, 0, m0)])]
theorem ok_FN_spool : okBt m_FN_spool bt_FN_spool = true := by decide +kernel
set_option maxRecDepth 100000 in
theorem b_FN_spool_0 {l : Launch} {E : EnvT} {d : Nat} {K : AV → Mem → Prop} {M : Mem} {x1 : Int32} (hd : 1 ≤ d)
  (h : (vp_in (iN (M 0 0 16)) 900 ∧ vp_in ((iN ((upd3 M 0 2 ((iN (M 0 0 16))).toNatClampNeg (((x1 >>> ((iN 24) &&& 31))).toInt8.toInt32).toInt8.toInt32.toInt) 0 0 16)) + (iN 1)) 900 ∧ vp_in ((iN ((upd3 (upd3 M 0 2 ((iN (M 0 0 16))).toNatClampNeg (((x1 >>> ((iN 24) &&& 31))).toInt8.toInt32).toInt8.toInt32.toInt) 0 2 (((iN ((upd3 M 0 2 ((iN (M 0 0 16))).toNatClampNeg (((x1 >>> ((iN 24) &&& 31))).toInt8.toInt32).toInt8.toInt32.toInt) 0 0 16)) + (iN 1))).toNatClampNeg (((x1 >>> ((iN 16) &&& 31))).toInt8.toInt32).toInt8.toInt32.toInt) 0 0 16)) + (iN 2)) 900 ∧ G l E d m_FN_spool 46 [(0, (.ref 0, 0)), (1, (.int x1, 0))] [] (upd3 (upd3 (upd3 M 0 2 ((iN (M 0 0 16))).toNatClampNeg (((x1 >>> ((iN 24) &&& 31))).toInt8.toInt32).toInt8.toInt32.toInt) 0 2 (((iN ((upd3 M 0 2 ((iN (M 0 0 16))).toNatClampNeg (((x1 >>> ((iN 24) &&& 31))).toInt8.toInt32).toInt8.toInt32.toInt) 0 0 16)) + (iN 1))).toNatClampNeg (((x1 >>> ((iN 16) &&& 31))).toInt8.toInt32).toInt8.toInt32.toInt) 0 2 (((iN ((upd3 (upd3 M 0 2 ((iN (M 0 0 16))).toNatClampNeg (((x1 >>> ((iN 24) &&& 31))).toInt8.toInt32).toInt8.toInt32.toInt) 0 2 (((iN ((upd3 M 0 2 ((iN (M 0 0 16))).toNatClampNeg (((x1 >>> ((iN 24) &&& 31))).toInt8.toInt32).toInt8.toInt32.toInt) 0 0 16)) + (iN 1))).toNatClampNeg (((x1 >>> ((iN 16) &&& 31))).toInt8.toInt32).toInt8.toInt32.toInt) 0 0 16)) + (iN 2))).toNatClampNeg (((x1 >>> ((iN 8) &&& 31))).toInt8.toInt32).toInt8.toInt32.toInt) K)) :
  G l E d m_FN_spool 0 [(0, (.ref 0, 0)), (1, (.int x1, 0))] [] M K := G.blk 60 _ hd ok_FN_spool rfl h
set_option maxRecDepth 100000 in
theorem b_FN_spool_46 {l : Launch} {E : EnvT} {d : Nat} {K : AV → Mem → Prop} {M : Mem} {x1 : Int32} (hd : 1 ≤ d)
  (h : (vp_in ((iN (M 0 0 16)) + (iN 3)) 900 ∧ K (.null, 0) (upd3 (upd3 M 0 2 (((iN (M 0 0 16)) + (iN 3))).toNatClampNeg ((x1).toInt8.toInt32).toInt8.toInt32.toInt) 0 0 16 (((iN ((upd3 M 0 2 (((iN (M 0 0 16)) + (iN 3))).toNatClampNeg ((x1).toInt8.toInt32).toInt8.toInt32.toInt) 0 0 16)) + (iN 4))).toInt))) :
  G l E d m_FN_spool 46 [(0, (.ref 0, 0)), (1, (.int x1, 0))] [] M K := G.blk 60 _ hd ok_FN_spool rfl h
def bt_FN_feed : BtT := [(0, [0, 1, 2, 3, 4, 5], true, [(0, .aload_n 0, 1, 0, 0, 0, m0),
   (1, .getfield 91, 3, 16, 10, 508, m0),
   (4, .bipush 20, 2, 0, 0, 0, m0),
   (6, .iadd, 1, 0, 0, 0, m0),
   (7, .sipush 900, 3, 0, 0, 0, m0),
   (10, .if_icmp .le 5, 3, 15, 0, 0, m0),
   (13, .nop, 0, 0, 0, 0, m0)]),
  (13, [], false, [(13, .iconst (-1), 1, 0, 0, 0, m0),
   (14, .ireturn, 1, 0, 0, 0, m0)]),
  (15, [], false, [(15, .aload_n 0, 1, 0, 0, 0, m0),
   (16, .iload_n 1, 1, 0, 0, 0, m0),
   (17, .invokevirtual 148, 3, 0, 0, 627, m_FN_spool),
   (20, .aload_n 0, 1, 0, 0, 0, m0),
   (21, .iload_n 2, 1, 0, 0, 0, m0),
   (22, .invokevirtual 148, 3, 0, 0, 627, m_FN_spool),
   (25, .aload_n 0, 1, 0, 0, 0, m0),
   (26, .iload_n 3, 1, 0, 0, 0, m0),
   (27, .invokevirtual 148, 3, 0, 0, 627, m_FN_spool),
   (30, .aload_n 0, 1, 0, 0, 0, m0),
   (31, .iload 4, 2, 0, 0, 0, m0),
   (33, .invokevirtual 148, 3, 0, 0, 627, m_FN_spool),
   (36, .aload_n 0, 1, 0, 0, 0, m0),
   (37, .iload 5, 2, 0, 0, 0, m0),
   (39, .invokevirtual 148, 3, 0, 0, 627, m_FN_spool),
   (42, .aload_n 0, 1, 0, 0, 0, m0),
   (43, .getfield 91, 3, 16, 10, 508, m0),
   (46, .ireturn, 1, 0, 0, 0, m0)])]
theorem ok_FN_feed : okBt m_FN_feed bt_FN_feed = true := by decide +kernel
set_option maxRecDepth 100000 in
theorem b_FN_feed_0 {l : Launch} {E : EnvT} {d : Nat} {K : AV → Mem → Prop} {M : Mem} {x1 : Int32} {x2 : Int32} {x3 : Int32} {x4 : Int32} {x5 : Int32} (hd : 1 ≤ d)
  (h : ((((iN (M 0 0 16)) + (iN 20)) ≤ (iN 900) →
   CT l E (d - 1) m_FN_spool [(.ref 0, 0), (.int x1, 0)] M (fun v1 M1 =>
    CT l E (d - 1) m_FN_spool [(.ref 0, 0), (.int x2, 0)] M1 (fun v2 M2 =>
     CT l E (d - 1) m_FN_spool [(.ref 0, 0), (.int x3, 0)] M2 (fun v3 M3 =>
      CT l E (d - 1) m_FN_spool [(.ref 0, 0), (.int x4, 0)] M3 (fun v4 M4 =>
       CT l E (d - 1) m_FN_spool [(.ref 0, 0), (.int x5, 0)] M4 (fun v5 M5 =>
        K (.int (iN (M5 0 0 16)), 0) M5)))))) ∧
  (¬ ((iN (M 0 0 16)) + (iN 20)) ≤ (iN 900) →
   K (.int (iN (-1)), 0) M))) :
  G l E d m_FN_feed 0 [(0, (.ref 0, 0)), (1, (.int x1, 0)), (2, (.int x2, 0)), (3, (.int x3, 0)), (4, (.int x4, 0)), (5, (.int x5, 0))] [] M K := G.blk 60 _ hd ok_FN_feed rfl h
def bt_FN_noteFault : BtT := [(0, [0, 1], true, [(0, .aload_n 0, 1, 0, 0, 0, m0),
   (1, .iconst 0, 1, 0, 0, 0, m0),
   (2, .putfield 91, 3, 16, 10, 508, m0),
   (5, .aload_n 0, 1, 0, 0, 0, m0),
   (6, .aload_n 1, 1, 0, 0, 0, m0),
   (7, .getfield 433, 3, 10, 5, 166, m0),
   (10, .putfield 94, 3, 17, 10, 509, m0),
   (13, .aload_n 0, 1, 0, 0, 0, m0),
   (14, .aload_n 1, 1, 0, 0, 0, m0),
   (15, .getfield 433, 3, 10, 5, 166, m0),
   (18, .ifCond .ne 7, 3, 25, 0, 0, m0),
   (21, .nop, 0, 0, 0, 0, m0)]),
  (21, [], false, [(21, .iconst (-1), 1, 0, 0, 0, m0),
   (22, .goto 7, 3, 29, 0, 0, m0)]),
  (25, [], false, [(25, .aload_n 1, 1, 0, 0, 0, m0),
   (26, .getfield 438, 3, 4, 5, 153, m0),
   (29, .nop, 0, 0, 0, 0, m0)]),
  (29, [], false, [(29, .putfield 97, 3, 18, 10, 510, m0),
   (32, .return_, 1, 0, 0, 0, m0)])]
theorem ok_FN_noteFault : okBt m_FN_noteFault bt_FN_noteFault = true := by decide +kernel
set_option maxRecDepth 100000 in
theorem b_FN_noteFault_0 {l : Launch} {E : EnvT} {d : Nat} {K : AV → Mem → Prop} {M : Mem} {r2 : Nat}  (hd : 1 ≤ d)
  (h : ((¬ (iN ((upd3 (upd3 M 0 0 16 ((iN 0)).toInt) 0 0 17 ((iN ((upd3 M 0 0 16 ((iN 0)).toInt) r2 0 10))).toInt) r2 0 10)) = 0 →
   K (.null, 0) (upd3 (upd3 (upd3 M 0 0 16 ((iN 0)).toInt) 0 0 17 ((iN ((upd3 M 0 0 16 ((iN 0)).toInt) r2 0 10))).toInt) 0 0 18 ((iN ((upd3 (upd3 M 0 0 16 ((iN 0)).toInt) 0 0 17 ((iN ((upd3 M 0 0 16 ((iN 0)).toInt) r2 0 10))).toInt) r2 0 4))).toInt)) ∧
  ((iN ((upd3 (upd3 M 0 0 16 ((iN 0)).toInt) 0 0 17 ((iN ((upd3 M 0 0 16 ((iN 0)).toInt) r2 0 10))).toInt) r2 0 10)) = 0 →
   K (.null, 0) (upd3 (upd3 (upd3 M 0 0 16 ((iN 0)).toInt) 0 0 17 ((iN ((upd3 M 0 0 16 ((iN 0)).toInt) r2 0 10))).toInt) 0 0 18 ((iN (-1))).toInt)))) :
  G l E d m_FN_noteFault 0 [(0, (.ref 0, 0)), (1, (.ref r2, 4))] [] M K := G.blk 60 _ hd ok_FN_noteFault rfl h
def bt_FN_answer : BtT := [(0, [0, 1], true, [(0, .aload_n 0, 1, 0, 0, 0, m0),
   (1, .iconst 0, 1, 0, 0, 0, m0),
   (2, .putfield 80, 3, 13, 10, 505, m0),
   (5, .iload_n 1, 1, 0, 0, 0, m0),
   (6, .ireturn, 1, 0, 0, 0, m0)])]
theorem ok_FN_answer : okBt m_FN_answer bt_FN_answer = true := by decide +kernel
set_option maxRecDepth 100000 in
theorem b_FN_answer_0 {l : Launch} {E : EnvT} {d : Nat} {K : AV → Mem → Prop} {M : Mem} {x1 : Int32} (hd : 1 ≤ d)
  (h : K (.int x1, 0) (upd3 M 0 0 13 ((iN 0)).toInt)) :
  G l E d m_FN_answer 0 [(0, (.ref 0, 0)), (1, (.int x1, 0))] [] M K := G.blk 60 _ hd ok_FN_answer rfl h
def bt_FN_choir : BtT := [(0, [0, 1], true, [(0, .iload_n 1, 1, 0, 0, 0, m0),
   (1, .ifCond .lt 11, 3, 12, 0, 0, m0),
   (4, .nop, 0, 0, 0, 0, m0)]),
  (4, [], false, [(4, .iload_n 1, 1, 0, 0, 0, m0),
   (5, .aload_n 0, 1, 0, 0, 0, m0),
   (6, .getfield 91, 3, 16, 10, 508, m0),
   (9, .if_icmp .le 9, 3, 18, 0, 0, m0),
   (12, .nop, 0, 0, 0, 0, m0)]),
  (12, [], false, [(12, .aload_n 0, 1, 0, 0, 0, m0),
   (13, .iconst 1, 1, 0, 0, 0, m0),
   (14, .invokevirtual 124, 3, 0, 0, 608, m_FN_refuse),
   (17, .ireturn, 1, 0, 0, 0, m0)]),
  (18, [], false, [(18, .aload_n 0, 1, 0, 0, 0, m0),
   (19, .getfield 22, 3, 2, 10, 494, m0),
   (22, .aload_n 0, 1, 0, 0, 0, m0),
   (23, .getfield 15, 3, 1, 10, 493, m0),
   (26, .iload_n 1, 1, 0, 0, 0, m0),
   (27, .aload_n 0, 1, 0, 0, 0, m0),
   (28, .getfield 67, 3, 10, 10, 502, m0),
   (31, .invokevirtual 152, 3, 0, 0, 635, m_CReader_readAll),
   (34, .istore_n 2, 1, 0, 0, 0, m0),
   (35, .aload_n 0, 1, 0, 0, 0, m0),
   (36, .aload_n 0, 1, 0, 0, 0, m0),
   (37, .getfield 22, 3, 2, 10, 494, m0),
   (40, .getfield 156, 3, 0, 1, 192, m0),
   (43, .invokevirtual 160, 3, 0, 0, 827, m_FN_noteFault),
   (46, .iload_n 2, 1, 0, 0, 0, m0),
   (47, .ifCond .ne 10, 3, 57, 0, 0, m0),
   (50, .nop, 0, 0, 0, 0, m0)]),
  (50, [], false, [(50, .aload_n 0, 1, 0, 0, 0, m0),
   (51, .bipush 9, 2, 0, 0, 0, m0),
   (53, .invokevirtual 124, 3, 0, 0, 608, m_FN_refuse),
   (56, .ireturn, 1, 0, 0, 0, m0)]),
  (57, [], false, [(57, .aload_n 0, 1, 0, 0, 0, m0),
   (58, .getfield 64, 3, 9, 10, 501, m0),
   (61, .astore_n 3, 1, 0, 0, 0, m0),
   (62, .aload_n 0, 1, 0, 0, 0, m0),
   (63, .aload_n 0, 1, 0, 0, 0, m0),
   (64, .getfield 67, 3, 10, 10, 502, m0),
   (67, .putfield 64, 3, 9, 10, 501, m0),
   (70, .aload_n 0, 1, 0, 0, 0, m0),
   (71, .aload_n 3, 1, 0, 0, 0, m0),
   (72, .putfield 67, 3, 10, 10, 502, m0),
   (75, .aload_n 0, 1, 0, 0, 0, m0),
   (76, .getfield 73, 3, 11, 10, 503, m0),
   (79, .invokevirtual 164, 3, 0, 0, 831, m_Years_forget),
   (82, .aload_n 0, 1, 0, 0, 0, m0),
   (83, .aload_n 0, 1, 0, 0, 0, m0),
   (84, .getfield 64, 3, 9, 10, 501, m0),
   (87, .getfield 167, 3, 8, 0, 283, m0),
   (90, .invokevirtual 170, 3, 0, 0, 835, m_FN_answer),
   (93, .ireturn, 1, 0, 0, 0, m0)])]
theorem ok_FN_choir : okBt m_FN_choir bt_FN_choir = true := by decide +kernel
set_option maxRecDepth 100000 in
theorem b_FN_choir_0 {l : Launch} {E : EnvT} {d : Nat} {K : AV → Mem → Prop} {M : Mem} {x1 : Int32} (hd : 1 ≤ d)
  (h : ((x1 < 0 →
   CT l E (d - 1) m_FN_refuse [(.ref 0, 0), (.int (iN 1), 0)] M (fun v1 M1 =>
    K (.int (toI v1), 0) M1)) ∧
  (¬ x1 < 0 →
   ((x1 ≤ (iN (M 0 0 16)) →
    (((M 0 0 10).toNat, 11) ∈ CL ∧ CT l E (d - 1) m_CReader_readAll [(.ref 1, 3), (.ref 0, 2), (.int x1, 0), (.ref (M 0 0 10).toNat, 11)] M (fun v2 M2 =>
     CT l E (d - 1) m_FN_noteFault [(.ref 0, 0), (.ref 2, 4)] M2 (fun v3 M3 =>
      ((¬ (toI v2) = 0 →
       (((M3 0 0 9).toNat, 11) ∈ CL ∧ ((M3 0 0 10).toNat, 11) ∈ CL ∧ (((upd3 (upd3 M3 0 0 9 ((M3 0 0 10).toNat : Int)) 0 0 10 ((M3 0 0 9).toNat : Int)) 0 0 11).toNat, 23) ∈ CL ∧ CT l E (d - 1) m_Years_forget [(.ref ((upd3 (upd3 M3 0 0 9 ((M3 0 0 10).toNat : Int)) 0 0 10 ((M3 0 0 9).toNat : Int)) 0 0 11).toNat, 23)] (upd3 (upd3 M3 0 0 9 ((M3 0 0 10).toNat : Int)) 0 0 10 ((M3 0 0 9).toNat : Int)) (fun v4 M4 =>
        (((M4 0 0 9).toNat, 11) ∈ CL ∧ CT l E (d - 1) m_FN_answer [(.ref 0, 0), (.int (iN (M4 (M4 0 0 9).toNat 0 8)), 0)] M4 (fun v5 M5 =>
         K (.int (toI v5), 0) M5))))) ∧
      ((toI v2) = 0 →
       CT l E (d - 1) m_FN_refuse [(.ref 0, 0), (.int (iN 9), 0)] M3 (fun v6 M6 =>
        K (.int (toI v6), 0) M6))))))) ∧
   (¬ x1 ≤ (iN (M 0 0 16)) →
    CT l E (d - 1) m_FN_refuse [(.ref 0, 0), (.int (iN 1), 0)] M (fun v7 M7 =>
     K (.int (toI v7), 0) M7)))))) :
  G l E d m_FN_choir 0 [(0, (.ref 0, 0)), (1, (.int x1, 0))] [] M K := G.blk 60 _ hd ok_FN_choir rfl h
def bt_FN_years : BtT := [(0, [0, 1], true, [(0, .iload_n 1, 1, 0, 0, 0, m0),
   (1, .ifCond .lt 18, 3, 19, 0, 0, m0),
   (4, .nop, 0, 0, 0, 0, m0)]),
  (4, [], false, [(4, .iload_n 1, 1, 0, 0, 0, m0),
   (5, .aload_n 0, 1, 0, 0, 0, m0),
   (6, .getfield 91, 3, 16, 10, 508, m0),
   (9, .if_icmp .gt 10, 3, 19, 0, 0, m0),
   (12, .nop, 0, 0, 0, 0, m0)]),
  (12, [], false, [(12, .iload_n 1, 1, 0, 0, 0, m0),
   (13, .sipush 300, 3, 0, 0, 0, m0),
   (16, .if_icmp .le 9, 3, 25, 0, 0, m0),
   (19, .nop, 0, 0, 0, 0, m0)]),
  (19, [], false, [(19, .aload_n 0, 1, 0, 0, 0, m0),
   (20, .iconst 1, 1, 0, 0, 0, m0),
   (21, .invokevirtual 124, 3, 0, 0, 608, m_FN_refuse),
   (24, .ireturn, 1, 0, 0, 0, m0)]),
  (25, [], false, [(25, .aload_n 0, 1, 0, 0, 0, m0),
   (26, .getfield 29, 3, 3, 10, 495, m0),
   (29, .aload_n 0, 1, 0, 0, 0, m0),
   (30, .getfield 15, 3, 1, 10, 493, m0),
   (33, .iload_n 1, 1, 0, 0, 0, m0),
   (34, .aload_n 0, 1, 0, 0, 0, m0),
   (35, .getfield 64, 3, 9, 10, 501, m0),
   (38, .aload_n 0, 1, 0, 0, 0, m0),
   (39, .getfield 77, 3, 12, 10, 504, m0),
   (42, .invokevirtual 173, 3, 0, 0, 843, m_YReader_readAll),
   (45, .istore_n 2, 1, 0, 0, 0, m0),
   (46, .aload_n 0, 1, 0, 0, 0, m0),
   (47, .aload_n 0, 1, 0, 0, 0, m0),
   (48, .getfield 29, 3, 3, 10, 495, m0),
   (51, .getfield 176, 3, 0, 9, 208, m0),
   (54, .invokevirtual 160, 3, 0, 0, 827, m_FN_noteFault),
   (57, .iload_n 2, 1, 0, 0, 0, m0),
   (58, .ifCond .ne 10, 3, 68, 0, 0, m0),
   (61, .nop, 0, 0, 0, 0, m0)]),
  (61, [], false, [(61, .aload_n 0, 1, 0, 0, 0, m0),
   (62, .bipush 9, 2, 0, 0, 0, m0),
   (64, .invokevirtual 124, 3, 0, 0, 608, m_FN_refuse),
   (67, .ireturn, 1, 0, 0, 0, m0)]),
  (68, [], false, [(68, .aload_n 0, 1, 0, 0, 0, m0),
   (69, .getfield 73, 3, 11, 10, 503, m0),
   (72, .astore_n 3, 1, 0, 0, 0, m0),
   (73, .aload_n 0, 1, 0, 0, 0, m0),
   (74, .aload_n 0, 1, 0, 0, 0, m0),
   (75, .getfield 77, 3, 12, 10, 504, m0),
   (78, .putfield 73, 3, 11, 10, 503, m0),
   (81, .aload_n 0, 1, 0, 0, 0, m0),
   (82, .aload_n 3, 1, 0, 0, 0, m0),
   (83, .putfield 77, 3, 12, 10, 504, m0),
   (86, .aload_n 0, 1, 0, 0, 0, m0),
   (87, .aload_n 0, 1, 0, 0, 0, m0),
   (88, .getfield 73, 3, 11, 10, 503, m0),
   (91, .getfield 177, 3, 7, 8, 363, m0),
   (94, .invokevirtual 170, 3, 0, 0, 835, m_FN_answer),
   (97, .ireturn, 1, 0, 0, 0, m0)])]
theorem ok_FN_years : okBt m_FN_years bt_FN_years = true := by decide +kernel
set_option maxRecDepth 100000 in
theorem b_FN_years_0 {l : Launch} {E : EnvT} {d : Nat} {K : AV → Mem → Prop} {M : Mem} {x1 : Int32} (hd : 1 ≤ d)
  (h : ((x1 < 0 →
   CT l E (d - 1) m_FN_refuse [(.ref 0, 0), (.int (iN 1), 0)] M (fun v1 M1 =>
    K (.int (toI v1), 0) M1)) ∧
  (¬ x1 < 0 →
   (((iN (M 0 0 16)) < x1 →
    CT l E (d - 1) m_FN_refuse [(.ref 0, 0), (.int (iN 1), 0)] M (fun v2 M2 =>
     K (.int (toI v2), 0) M2)) ∧
   (¬ (iN (M 0 0 16)) < x1 →
    ((x1 ≤ (iN 300) →
     (((M 0 0 9).toNat, 11) ∈ CL ∧ ((M 0 0 12).toNat, 23) ∈ CL ∧ CT l E (d - 1) m_YReader_readAll [(.ref 3, 6), (.ref 0, 2), (.int x1, 0), (.ref (M 0 0 9).toNat, 11), (.ref (M 0 0 12).toNat, 23)] M (fun v3 M3 =>
      CT l E (d - 1) m_FN_noteFault [(.ref 0, 0), (.ref 4, 4)] M3 (fun v4 M4 =>
       ((¬ (toI v3) = 0 →
        (((M4 0 0 11).toNat, 23) ∈ CL ∧ ((M4 0 0 12).toNat, 23) ∈ CL ∧ (((upd3 (upd3 M4 0 0 11 ((M4 0 0 12).toNat : Int)) 0 0 12 ((M4 0 0 11).toNat : Int)) 0 0 11).toNat, 23) ∈ CL ∧ CT l E (d - 1) m_FN_answer [(.ref 0, 0), (.int (iN ((upd3 (upd3 M4 0 0 11 ((M4 0 0 12).toNat : Int)) 0 0 12 ((M4 0 0 11).toNat : Int)) ((upd3 (upd3 M4 0 0 11 ((M4 0 0 12).toNat : Int)) 0 0 12 ((M4 0 0 11).toNat : Int)) 0 0 11).toNat 0 7)), 0)] (upd3 (upd3 M4 0 0 11 ((M4 0 0 12).toNat : Int)) 0 0 12 ((M4 0 0 11).toNat : Int)) (fun v5 M5 =>
         K (.int (toI v5), 0) M5))) ∧
       ((toI v3) = 0 →
        CT l E (d - 1) m_FN_refuse [(.ref 0, 0), (.int (iN 9), 0)] M4 (fun v6 M6 =>
         K (.int (toI v6), 0) M6))))))) ∧
    (¬ x1 ≤ (iN 300) →
     CT l E (d - 1) m_FN_refuse [(.ref 0, 0), (.int (iN 1), 0)] M (fun v7 M7 =>
      K (.int (toI v7), 0) M7)))))))) :
  G l E d m_FN_years 0 [(0, (.ref 0, 0)), (1, (.int x1, 0))] [] M K := G.blk 60 _ hd ok_FN_years rfl h
def bt_FN_fault : BtT := [(0, [0, 1], true, [(0, .iload_n 1, 1, 0, 0, 0, m0),
   (1, .ifCond .ne 8, 3, 9, 0, 0, m0),
   (4, .nop, 0, 0, 0, 0, m0)]),
  (4, [], false, [(4, .aload_n 0, 1, 0, 0, 0, m0),
   (5, .getfield 94, 3, 17, 10, 509, m0),
   (8, .ireturn, 1, 0, 0, 0, m0)]),
  (9, [], false, [(9, .iload_n 1, 1, 0, 0, 0, m0),
   (10, .iconst 1, 1, 0, 0, 0, m0),
   (11, .if_icmp .ne 10, 3, 21, 0, 0, m0),
   (14, .nop, 0, 0, 0, 0, m0)]),
  (14, [], false, [(14, .aload_n 0, 1, 0, 0, 0, m0),
   (15, .getfield 97, 3, 18, 10, 510, m0),
   (18, .goto 4, 3, 22, 0, 0, m0)]),
  (21, [], false, [(21, .iconst (-1), 1, 0, 0, 0, m0),
   (22, .nop, 0, 0, 0, 0, m0)]),
  (22, [], false, [(22, .ireturn, 1, 0, 0, 0, m0)])]
theorem ok_FN_fault : okBt m_FN_fault bt_FN_fault = true := by decide +kernel
set_option maxRecDepth 100000 in
theorem b_FN_fault_0 {l : Launch} {E : EnvT} {d : Nat} {K : AV → Mem → Prop} {M : Mem} {x1 : Int32} (hd : 1 ≤ d)
  (h : ((¬ x1 = 0 →
   ((¬ x1 = (iN 1) →
    K (.int (iN (-1)), 0) M) ∧
   (x1 = (iN 1) →
    K (.int (iN (M 0 0 18)), 0) M))) ∧
  (x1 = 0 →
   K (.int (iN (M 0 0 17)), 0) M))) :
  G l E d m_FN_fault 0 [(0, (.ref 0, 0)), (1, (.int x1, 0))] [] M K := G.blk 60 _ hd ok_FN_fault rfl h
def bt_FN_told : BtT := [(0, [0, 1], true, [(0, .iload_n 1, 1, 0, 0, 0, m0),
   (1, .tableswitch 178 0 9 #[55, 67, 79, 91, 103, 118, 130, 142, 154, 166], 55, 0, 0, 0, m0)]),
  (56, [], false, [(56, .aload_n 0, 1, 0, 0, 0, m0),
   (57, .aload_n 0, 1, 0, 0, 0, m0),
   (58, .getfield 64, 3, 9, 10, 501, m0),
   (61, .getfield 167, 3, 8, 0, 283, m0),
   (64, .invokevirtual 170, 3, 0, 0, 835, m_FN_answer),
   (67, .ireturn, 1, 0, 0, 0, m0)]),
  (68, [], false, [(68, .aload_n 0, 1, 0, 0, 0, m0),
   (69, .aload_n 0, 1, 0, 0, 0, m0),
   (70, .getfield 64, 3, 9, 10, 501, m0),
   (73, .getfield 180, 3, 13, 0, 298, m0),
   (76, .invokevirtual 170, 3, 0, 0, 835, m_FN_answer),
   (79, .ireturn, 1, 0, 0, 0, m0)]),
  (80, [], false, [(80, .aload_n 0, 1, 0, 0, 0, m0),
   (81, .aload_n 0, 1, 0, 0, 0, m0),
   (82, .getfield 64, 3, 9, 10, 501, m0),
   (85, .getfield 183, 3, 14, 0, 300, m0),
   (88, .invokevirtual 170, 3, 0, 0, 835, m_FN_answer),
   (91, .ireturn, 1, 0, 0, 0, m0)]),
  (92, [], false, [(92, .aload_n 0, 1, 0, 0, 0, m0),
   (93, .aload_n 0, 1, 0, 0, 0, m0),
   (94, .getfield 64, 3, 9, 10, 501, m0),
   (97, .invokevirtual 186, 3, 0, 0, 912, m_Choir_debtsAtNotes),
   (100, .invokevirtual 170, 3, 0, 0, 835, m_FN_answer),
   (103, .ireturn, 1, 0, 0, 0, m0)]),
  (104, [], false, [(104, .aload_n 0, 1, 0, 0, 0, m0),
   (105, .aload_n 0, 1, 0, 0, 0, m0),
   (106, .getfield 64, 3, 9, 10, 501, m0),
   (109, .getfield 190, 3, 7, 0, 279, m0),
   (112, .getfield 194, 3, 3, 7, 251, m0),
   (115, .invokevirtual 170, 3, 0, 0, 835, m_FN_answer),
   (118, .ireturn, 1, 0, 0, 0, m0)]),
  (119, [], false, [(119, .aload_n 0, 1, 0, 0, 0, m0),
   (120, .aload_n 0, 1, 0, 0, 0, m0),
   (121, .getfield 64, 3, 9, 10, 501, m0),
   (124, .invokevirtual 199, 3, 0, 0, 916, m_Choir_allOwed),
   (127, .invokevirtual 170, 3, 0, 0, 835, m_FN_answer),
   (130, .ireturn, 1, 0, 0, 0, m0)]),
  (131, [], false, [(131, .aload_n 0, 1, 0, 0, 0, m0),
   (132, .aload_n 0, 1, 0, 0, 0, m0),
   (133, .getfield 64, 3, 9, 10, 501, m0),
   (136, .invokevirtual 202, 3, 0, 0, 939, m_Choir_allCoins),
   (139, .invokevirtual 170, 3, 0, 0, 835, m_FN_answer),
   (142, .ireturn, 1, 0, 0, 0, m0)]),
  (143, [], false, [(143, .aload_n 0, 1, 0, 0, 0, m0),
   (144, .aload_n 0, 1, 0, 0, 0, m0),
   (145, .getfield 64, 3, 9, 10, 501, m0),
   (148, .getfield 205, 3, 15, 0, 303, m0),
   (151, .invokevirtual 170, 3, 0, 0, 835, m_FN_answer),
   (154, .ireturn, 1, 0, 0, 0, m0)]),
  (155, [], false, [(155, .aload_n 0, 1, 0, 0, 0, m0),
   (156, .aload_n 0, 1, 0, 0, 0, m0),
   (157, .getfield 64, 3, 9, 10, 501, m0),
   (160, .getfield 208, 3, 11, 0, 292, m0),
   (163, .invokevirtual 170, 3, 0, 0, 835, m_FN_answer),
   (166, .ireturn, 1, 0, 0, 0, m0)]),
  (167, [], false, [(167, .aload_n 0, 1, 0, 0, 0, m0),
   (168, .aload_n 0, 1, 0, 0, 0, m0),
   (169, .getfield 64, 3, 9, 10, 501, m0),
   (172, .getfield 211, 3, 12, 0, 295, m0),
   (175, .invokevirtual 170, 3, 0, 0, 835, m_FN_answer),
   (178, .ireturn, 1, 0, 0, 0, m0)]),
  (179, [], false, [(179, .aload_n 0, 1, 0, 0, 0, m0),
   (180, .iconst 1, 1, 0, 0, 0, m0),
   (181, .invokevirtual 124, 3, 0, 0, 608, m_FN_refuse),
   (184, .ireturn, 1, 0, 0, 0, m0)])]
theorem ok_FN_told : okBt m_FN_told bt_FN_told = true := by decide +kernel
set_option maxRecDepth 100000 in
theorem b_FN_told_0 {l : Launch} {E : EnvT} {d : Nat} {K : AV → Mem → Prop} {M : Mem} {x1 : Int32} (hd : 1 ≤ d)
  (h : ((x1 = iN 0 →
   (((M 0 0 9).toNat, 11) ∈ CL ∧ CT l E (d - 1) m_FN_answer [(.ref 0, 0), (.int (iN (M (M 0 0 9).toNat 0 8)), 0)] M (fun v14 M14 =>
    K (.int (toI v14), 0) M14))) ∧
  (¬ x1 = iN 0 →
   ((x1 = iN 1 →
   (((M 0 0 9).toNat, 11) ∈ CL ∧ CT l E (d - 1) m_FN_answer [(.ref 0, 0), (.int (iN (M (M 0 0 9).toNat 0 13)), 0)] M (fun v13 M13 =>
    K (.int (toI v13), 0) M13))) ∧
  (¬ x1 = iN 1 →
   ((x1 = iN 2 →
   (((M 0 0 9).toNat, 11) ∈ CL ∧ CT l E (d - 1) m_FN_answer [(.ref 0, 0), (.int (iN (M (M 0 0 9).toNat 0 14)), 0)] M (fun v12 M12 =>
    K (.int (toI v12), 0) M12))) ∧
  (¬ x1 = iN 2 →
   ((x1 = iN 3 →
   (((M 0 0 9).toNat, 11) ∈ CL ∧ CT l E (d - 1) m_Choir_debtsAtNotes [(.ref (M 0 0 9).toNat, 11)] M (fun v10 M10 =>
    CT l E (d - 1) m_FN_answer [(.ref 0, 0), (.int (toI v10), 0)] M10 (fun v11 M11 =>
     K (.int (toI v11), 0) M11)))) ∧
  (¬ x1 = iN 3 →
   ((x1 = iN 4 →
   (((M 0 0 9).toNat, 11) ∈ CL ∧ CT l E (d - 1) m_FN_answer [(.ref 0, 0), (.int (iN (M (M 0 0 9).toNat 8 3)), 0)] M (fun v9 M9 =>
    K (.int (toI v9), 0) M9))) ∧
  (¬ x1 = iN 4 →
   ((x1 = iN 5 →
   (((M 0 0 9).toNat, 11) ∈ CL ∧ CT l E (d - 1) m_Choir_allOwed [(.ref (M 0 0 9).toNat, 11)] M (fun v7 M7 =>
    CT l E (d - 1) m_FN_answer [(.ref 0, 0), (.int (toI v7), 0)] M7 (fun v8 M8 =>
     K (.int (toI v8), 0) M8)))) ∧
  (¬ x1 = iN 5 →
   ((x1 = iN 6 →
   (((M 0 0 9).toNat, 11) ∈ CL ∧ CT l E (d - 1) m_Choir_allCoins [(.ref (M 0 0 9).toNat, 11)] M (fun v5 M5 =>
    CT l E (d - 1) m_FN_answer [(.ref 0, 0), (.int (toI v5), 0)] M5 (fun v6 M6 =>
     K (.int (toI v6), 0) M6)))) ∧
  (¬ x1 = iN 6 →
   ((x1 = iN 7 →
   (((M 0 0 9).toNat, 11) ∈ CL ∧ CT l E (d - 1) m_FN_answer [(.ref 0, 0), (.int (iN (M (M 0 0 9).toNat 0 15)), 0)] M (fun v4 M4 =>
    K (.int (toI v4), 0) M4))) ∧
  (¬ x1 = iN 7 →
   ((x1 = iN 8 →
   (((M 0 0 9).toNat, 11) ∈ CL ∧ CT l E (d - 1) m_FN_answer [(.ref 0, 0), (.int (iN (M (M 0 0 9).toNat 0 11)), 0)] M (fun v3 M3 =>
    K (.int (toI v3), 0) M3))) ∧
  (¬ x1 = iN 8 →
   ((x1 = iN 9 →
   (((M 0 0 9).toNat, 11) ∈ CL ∧ CT l E (d - 1) m_FN_answer [(.ref 0, 0), (.int (iN (M (M 0 0 9).toNat 0 12)), 0)] M (fun v2 M2 =>
    K (.int (toI v2), 0) M2))) ∧
  (¬ x1 = iN 9 →
   CT l E (d - 1) m_FN_refuse [(.ref 0, 0), (.int (iN 1), 0)] M (fun v1 M1 =>
    K (.int (toI v1), 0) M1)))))))))))))))))))))) :
  G l E d m_FN_told 0 [(0, (.ref 0, 0)), (1, (.int x1, 0))] [] M K := G.blk 60 _ hd ok_FN_told rfl h
def bt_FN_answerOr : BtT := [(0, [0, 1, 2], true, [(0, .iload_n 1, 1, 0, 0, 0, m0),
   (1, .iconst (-1), 1, 0, 0, 0, m0),
   (2, .if_icmp .ne 11, 3, 13, 0, 0, m0),
   (5, .nop, 0, 0, 0, 0, m0)]),
  (5, [], false, [(5, .aload_n 0, 1, 0, 0, 0, m0),
   (6, .iload_n 2, 1, 0, 0, 0, m0),
   (7, .invokevirtual 124, 3, 0, 0, 608, m_FN_refuse),
   (10, .goto 8, 3, 18, 0, 0, m0)]),
  (13, [], false, [(13, .aload_n 0, 1, 0, 0, 0, m0),
   (14, .iload_n 1, 1, 0, 0, 0, m0),
   (15, .invokevirtual 170, 3, 0, 0, 835, m_FN_answer),
   (18, .nop, 0, 0, 0, 0, m0)]),
  (18, [], false, [(18, .ireturn, 1, 0, 0, 0, m0)])]
theorem ok_FN_answerOr : okBt m_FN_answerOr bt_FN_answerOr = true := by decide +kernel
set_option maxRecDepth 100000 in
theorem b_FN_answerOr_0 {l : Launch} {E : EnvT} {d : Nat} {K : AV → Mem → Prop} {M : Mem} {x1 : Int32} {x2 : Int32} (hd : 1 ≤ d)
  (h : ((¬ x1 = (iN (-1)) →
   CT l E (d - 1) m_FN_answer [(.ref 0, 0), (.int x1, 0)] M (fun v1 M1 =>
    K (.int (toI v1), 0) M1)) ∧
  (x1 = (iN (-1)) →
   CT l E (d - 1) m_FN_refuse [(.ref 0, 0), (.int x2, 0)] M (fun v2 M2 =>
    K (.int (toI v2), 0) M2)))) :
  G l E d m_FN_answerOr 0 [(0, (.ref 0, 0)), (1, (.int x1, 0)), (2, (.int x2, 0))] [] M K := G.blk 60 _ hd ok_FN_answerOr rfl h
def bt_FN_singer : BtT := [(0, [0, 1, 2], true, [(0, .aload_n 0, 1, 0, 0, 0, m0),
   (1, .getfield 64, 3, 9, 10, 501, m0),
   (4, .iload_n 1, 1, 0, 0, 0, m0),
   (5, .invokevirtual 214, 3, 0, 0, 947, m_Choir_knows),
   (8, .ifCond .ne 9, 3, 17, 0, 0, m0),
   (11, .nop, 0, 0, 0, 0, m0)]),
  (11, [], false, [(11, .aload_n 0, 1, 0, 0, 0, m0),
   (12, .iconst 1, 1, 0, 0, 0, m0),
   (13, .invokevirtual 124, 3, 0, 0, 608, m_FN_refuse),
   (16, .ireturn, 1, 0, 0, 0, m0)]),
  (17, [], false, [(17, .iload_n 2, 1, 0, 0, 0, m0),
   (18, .tableswitch 144 0 6 #[42, 56, 70, 86, 102, 118, 131], 42, 0, 0, 0, m0)]),
  (60, [], false, [(60, .aload_n 0, 1, 0, 0, 0, m0),
   (61, .aload_n 0, 1, 0, 0, 0, m0),
   (62, .getfield 64, 3, 9, 10, 501, m0),
   (65, .getfield 217, 3, 1, 0, 265, m0),
   (68, .iload_n 1, 1, 0, 0, 0, m0),
   (69, .iaload, 1, 0, 0, 0, m0),
   (70, .invokevirtual 170, 3, 0, 0, 835, m_FN_answer),
   (73, .ireturn, 1, 0, 0, 0, m0)]),
  (74, [], false, [(74, .aload_n 0, 1, 0, 0, 0, m0),
   (75, .aload_n 0, 1, 0, 0, 0, m0),
   (76, .getfield 64, 3, 9, 10, 501, m0),
   (79, .getfield 221, 3, 3, 0, 271, m0),
   (82, .iload_n 1, 1, 0, 0, 0, m0),
   (83, .iaload, 1, 0, 0, 0, m0),
   (84, .invokevirtual 170, 3, 0, 0, 835, m_FN_answer),
   (87, .ireturn, 1, 0, 0, 0, m0)]),
  (88, [], false, [(88, .aload_n 0, 1, 0, 0, 0, m0),
   (89, .aload_n 0, 1, 0, 0, 0, m0),
   (90, .getfield 64, 3, 9, 10, 501, m0),
   (93, .getfield 224, 3, 9, 0, 286, m0),
   (96, .iload_n 1, 1, 0, 0, 0, m0),
   (97, .invokestatic 227, 3, 0, 0, 951, m_Choir_oneIfIn),
   (100, .invokevirtual 170, 3, 0, 0, 835, m_FN_answer),
   (103, .ireturn, 1, 0, 0, 0, m0)]),
  (104, [], false, [(104, .aload_n 0, 1, 0, 0, 0, m0),
   (105, .aload_n 0, 1, 0, 0, 0, m0),
   (106, .getfield 64, 3, 9, 10, 501, m0),
   (109, .getfield 230, 3, 10, 0, 289, m0),
   (112, .iload_n 1, 1, 0, 0, 0, m0),
   (113, .invokestatic 227, 3, 0, 0, 951, m_Choir_oneIfIn),
   (116, .invokevirtual 170, 3, 0, 0, 835, m_FN_answer),
   (119, .ireturn, 1, 0, 0, 0, m0)]),
  (120, [], false, [(120, .aload_n 0, 1, 0, 0, 0, m0),
   (121, .aload_n 0, 1, 0, 0, 0, m0),
   (122, .getfield 64, 3, 9, 10, 501, m0),
   (125, .getfield 233, 3, 2, 0, 268, m0),
   (128, .iload_n 1, 1, 0, 0, 0, m0),
   (129, .iaload, 1, 0, 0, 0, m0),
   (130, .bipush 6, 2, 0, 0, 0, m0),
   (132, .invokevirtual 236, 3, 0, 0, 954, m_FN_answerOr),
   (135, .ireturn, 1, 0, 0, 0, m0)]),
  (136, [], false, [(136, .aload_n 0, 1, 0, 0, 0, m0),
   (137, .aload_n 0, 1, 0, 0, 0, m0),
   (138, .getfield 64, 3, 9, 10, 501, m0),
   (141, .iload_n 1, 1, 0, 0, 0, m0),
   (142, .invokevirtual 239, 3, 0, 0, 958, m_Choir_owesInAll),
   (145, .invokevirtual 170, 3, 0, 0, 835, m_FN_answer),
   (148, .ireturn, 1, 0, 0, 0, m0)]),
  (149, [], false, [(149, .aload_n 0, 1, 0, 0, 0, m0),
   (150, .aload_n 0, 1, 0, 0, 0, m0),
   (151, .getfield 64, 3, 9, 10, 501, m0),
   (154, .iload_n 1, 1, 0, 0, 0, m0),
   (155, .invokevirtual 242, 3, 0, 0, 962, m_Choir_isOwedInAll),
   (158, .invokevirtual 170, 3, 0, 0, 835, m_FN_answer),
   (161, .ireturn, 1, 0, 0, 0, m0)]),
  (162, [], false, [(162, .aload_n 0, 1, 0, 0, 0, m0),
   (163, .iconst 1, 1, 0, 0, 0, m0),
   (164, .invokevirtual 124, 3, 0, 0, 608, m_FN_refuse),
   (167, .ireturn, 1, 0, 0, 0, m0)])]
theorem ok_FN_singer : okBt m_FN_singer bt_FN_singer = true := by decide +kernel
set_option maxRecDepth 100000 in
theorem b_FN_singer_0 {l : Launch} {E : EnvT} {d : Nat} {K : AV → Mem → Prop} {M : Mem} {x1 : Int32} {x2 : Int32} (hd : 1 ≤ d)
  (h : (((M 0 0 9).toNat, 11) ∈ CL ∧ CT l E (d - 1) m_Choir_knows [(.ref (M 0 0 9).toNat, 11), (.int x1, 0)] M (fun v1 M1 =>
   ((¬ (toI v1) = 0 →
    ((x2 = iN 0 →
     (((M1 0 0 9).toNat, 11) ∈ CL ∧ vp_in x1 8 ∧ CT l E (d - 1) m_FN_answer [(.ref 0, 0), (.int (iN (M1 (M1 0 0 9).toNat 2 (x1).toNatClampNeg)), 0)] M1 (fun v13 M13 =>
      K (.int (toI v13), 0) M13))) ∧
    (¬ x2 = iN 0 →
     ((x2 = iN 1 →
     (((M1 0 0 9).toNat, 11) ∈ CL ∧ vp_in x1 8 ∧ CT l E (d - 1) m_FN_answer [(.ref 0, 0), (.int (iN (M1 (M1 0 0 9).toNat 4 (x1).toNatClampNeg)), 0)] M1 (fun v12 M12 =>
      K (.int (toI v12), 0) M12))) ∧
    (¬ x2 = iN 1 →
     ((x2 = iN 2 →
     (((M1 0 0 9).toNat, 11) ∈ CL ∧ CT l E (d - 1) m_Choir_oneIfIn [(.int (iN (M1 (M1 0 0 9).toNat 0 9)), 0), (.int x1, 0)] M1 (fun v10 M10 =>
      CT l E (d - 1) m_FN_answer [(.ref 0, 0), (.int (toI v10), 0)] M10 (fun v11 M11 =>
       K (.int (toI v11), 0) M11)))) ∧
    (¬ x2 = iN 2 →
     ((x2 = iN 3 →
     (((M1 0 0 9).toNat, 11) ∈ CL ∧ CT l E (d - 1) m_Choir_oneIfIn [(.int (iN (M1 (M1 0 0 9).toNat 0 10)), 0), (.int x1, 0)] M1 (fun v8 M8 =>
      CT l E (d - 1) m_FN_answer [(.ref 0, 0), (.int (toI v8), 0)] M8 (fun v9 M9 =>
       K (.int (toI v9), 0) M9)))) ∧
    (¬ x2 = iN 3 →
     ((x2 = iN 4 →
     (((M1 0 0 9).toNat, 11) ∈ CL ∧ vp_in x1 8 ∧ CT l E (d - 1) m_FN_answerOr [(.ref 0, 0), (.int (iN (M1 (M1 0 0 9).toNat 3 (x1).toNatClampNeg)), 0), (.int (iN 6), 0)] M1 (fun v7 M7 =>
      K (.int (toI v7), 0) M7))) ∧
    (¬ x2 = iN 4 →
     ((x2 = iN 5 →
     (((M1 0 0 9).toNat, 11) ∈ CL ∧ CT l E (d - 1) m_Choir_owesInAll [(.ref (M1 0 0 9).toNat, 11), (.int x1, 0)] M1 (fun v5 M5 =>
      CT l E (d - 1) m_FN_answer [(.ref 0, 0), (.int (toI v5), 0)] M5 (fun v6 M6 =>
       K (.int (toI v6), 0) M6)))) ∧
    (¬ x2 = iN 5 →
     ((x2 = iN 6 →
     (((M1 0 0 9).toNat, 11) ∈ CL ∧ CT l E (d - 1) m_Choir_isOwedInAll [(.ref (M1 0 0 9).toNat, 11), (.int x1, 0)] M1 (fun v3 M3 =>
      CT l E (d - 1) m_FN_answer [(.ref 0, 0), (.int (toI v3), 0)] M3 (fun v4 M4 =>
       K (.int (toI v4), 0) M4)))) ∧
    (¬ x2 = iN 6 →
     CT l E (d - 1) m_FN_refuse [(.ref 0, 0), (.int (iN 1), 0)] M1 (fun v2 M2 =>
      K (.int (toI v2), 0) M2)))))))))))))))) ∧
   ((toI v1) = 0 →
    CT l E (d - 1) m_FN_refuse [(.ref 0, 0), (.int (iN 1), 0)] M1 (fun v14 M14 =>
     K (.int (toI v14), 0) M14)))))) :
  G l E d m_FN_singer 0 [(0, (.ref 0, 0)), (1, (.int x1, 0)), (2, (.int x2, 0))] [] M K := G.blk 60 _ hd ok_FN_singer rfl h
def bt_FN_line : BtT := [(0, [0, 1, 2], true, [(0, .aload_n 0, 1, 0, 0, 0, m0),
   (1, .getfield 64, 3, 9, 10, 501, m0),
   (4, .iload_n 1, 1, 0, 0, 0, m0),
   (5, .invokevirtual 214, 3, 0, 0, 947, m_Choir_knows),
   (8, .ifCond .eq 15, 3, 23, 0, 0, m0),
   (11, .nop, 0, 0, 0, 0, m0)]),
  (11, [], false, [(11, .aload_n 0, 1, 0, 0, 0, m0),
   (12, .getfield 64, 3, 9, 10, 501, m0),
   (15, .iload_n 1, 1, 0, 0, 0, m0),
   (16, .iload_n 2, 1, 0, 0, 0, m0),
   (17, .invokevirtual 245, 3, 0, 0, 970, m_Choir_hasNote),
   (20, .ifCond .ne 9, 3, 29, 0, 0, m0),
   (23, .nop, 0, 0, 0, 0, m0)]),
  (23, [], false, [(23, .aload_n 0, 1, 0, 0, 0, m0),
   (24, .iconst 1, 1, 0, 0, 0, m0),
   (25, .invokevirtual 124, 3, 0, 0, 608, m_FN_refuse),
   (28, .ireturn, 1, 0, 0, 0, m0)]),
  (29, [], false, [(29, .aload_n 0, 1, 0, 0, 0, m0),
   (30, .aload_n 0, 1, 0, 0, 0, m0),
   (31, .getfield 64, 3, 9, 10, 501, m0),
   (34, .getfield 248, 3, 4, 0, 273, m0),
   (37, .iload_n 1, 1, 0, 0, 0, m0),
   (38, .iload_n 2, 1, 0, 0, 0, m0),
   (39, .invokestatic 251, 3, 0, 0, 974, m_Choir_slot),
   (42, .iaload, 1, 0, 0, 0, m0),
   (43, .invokevirtual 170, 3, 0, 0, 835, m_FN_answer),
   (46, .ireturn, 1, 0, 0, 0, m0)])]
theorem ok_FN_line : okBt m_FN_line bt_FN_line = true := by decide +kernel
set_option maxRecDepth 100000 in
theorem b_FN_line_0 {l : Launch} {E : EnvT} {d : Nat} {K : AV → Mem → Prop} {M : Mem} {x1 : Int32} {x2 : Int32} (hd : 1 ≤ d)
  (h : (((M 0 0 9).toNat, 11) ∈ CL ∧ CT l E (d - 1) m_Choir_knows [(.ref (M 0 0 9).toNat, 11), (.int x1, 0)] M (fun v1 M1 =>
   (((toI v1) = 0 →
    CT l E (d - 1) m_FN_refuse [(.ref 0, 0), (.int (iN 1), 0)] M1 (fun v2 M2 =>
     K (.int (toI v2), 0) M2)) ∧
   (¬ (toI v1) = 0 →
    (((M1 0 0 9).toNat, 11) ∈ CL ∧ CT l E (d - 1) m_Choir_hasNote [(.ref (M1 0 0 9).toNat, 11), (.int x1, 0), (.int x2, 0)] M1 (fun v3 M3 =>
     ((¬ (toI v3) = 0 →
      (((M3 0 0 9).toNat, 11) ∈ CL ∧ CT l E (d - 1) m_Choir_slot [(.int x1, 0), (.int x2, 0)] M3 (fun v4 M4 =>
       (vp_in (toI v4) 48 ∧ CT l E (d - 1) m_FN_answer [(.ref 0, 0), (.int (iN (M4 (M3 0 0 9).toNat 5 ((toI v4)).toNatClampNeg)), 0)] M4 (fun v5 M5 =>
        K (.int (toI v5), 0) M5))))) ∧
     ((toI v3) = 0 →
      CT l E (d - 1) m_FN_refuse [(.ref 0, 0), (.int (iN 1), 0)] M3 (fun v6 M6 =>
       K (.int (toI v6), 0) M6)))))))))) :
  G l E d m_FN_line 0 [(0, (.ref 0, 0)), (1, (.int x1, 0)), (2, (.int x2, 0))] [] M K := G.blk 60 _ hd ok_FN_line rfl h
def bt_FN_held : BtT := [(0, [0, 1, 2, 3], true, [(0, .aload_n 0, 1, 0, 0, 0, m0),
   (1, .getfield 64, 3, 9, 10, 501, m0),
   (4, .iload_n 1, 1, 0, 0, 0, m0),
   (5, .invokevirtual 214, 3, 0, 0, 947, m_Choir_knows),
   (8, .ifCond .eq 24, 3, 32, 0, 0, m0),
   (11, .nop, 0, 0, 0, 0, m0)]),
  (11, [], false, [(11, .aload_n 0, 1, 0, 0, 0, m0),
   (12, .getfield 64, 3, 9, 10, 501, m0),
   (15, .iload_n 1, 1, 0, 0, 0, m0),
   (16, .iload_n 2, 1, 0, 0, 0, m0),
   (17, .invokevirtual 245, 3, 0, 0, 970, m_Choir_hasNote),
   (20, .ifCond .eq 12, 3, 32, 0, 0, m0),
   (23, .nop, 0, 0, 0, 0, m0)]),
  (23, [], false, [(23, .iload_n 3, 1, 0, 0, 0, m0),
   (24, .ifCond .lt 8, 3, 32, 0, 0, m0),
   (27, .nop, 0, 0, 0, 0, m0)]),
  (27, [], false, [(27, .iload_n 3, 1, 0, 0, 0, m0),
   (28, .iconst 1, 1, 0, 0, 0, m0),
   (29, .if_icmp .le 9, 3, 38, 0, 0, m0),
   (32, .nop, 0, 0, 0, 0, m0)]),
  (32, [], false, [(32, .aload_n 0, 1, 0, 0, 0, m0),
   (33, .iconst 1, 1, 0, 0, 0, m0),
   (34, .invokevirtual 124, 3, 0, 0, 608, m_FN_refuse),
   (37, .ireturn, 1, 0, 0, 0, m0)]),
  (38, [], false, [(38, .iload_n 1, 1, 0, 0, 0, m0),
   (39, .iload_n 2, 1, 0, 0, 0, m0),
   (40, .invokestatic 251, 3, 0, 0, 974, m_Choir_slot),
   (43, .istore 4, 2, 0, 0, 0, m0),
   (45, .aload_n 0, 1, 0, 0, 0, m0),
   (46, .getfield 64, 3, 9, 10, 501, m0),
   (49, .getfield 254, 3, 5, 0, 275, m0),
   (52, .iload 4, 2, 0, 0, 0, m0),
   (54, .iaload, 1, 0, 0, 0, m0),
   (55, .iconst (-1), 1, 0, 0, 0, m0),
   (56, .if_icmp .ne 10, 3, 66, 0, 0, m0),
   (59, .nop, 0, 0, 0, 0, m0)]),
  (59, [], false, [(59, .aload_n 0, 1, 0, 0, 0, m0),
   (60, .bipush 6, 2, 0, 0, 0, m0),
   (62, .invokevirtual 124, 3, 0, 0, 608, m_FN_refuse),
   (65, .ireturn, 1, 0, 0, 0, m0)]),
  (66, [], false, [(66, .aload_n 0, 1, 0, 0, 0, m0),
   (67, .iload_n 3, 1, 0, 0, 0, m0),
   (68, .ifCond .ne 16, 3, 84, 0, 0, m0),
   (71, .nop, 0, 0, 0, 0, m0)]),
  (71, [], false, [(71, .aload_n 0, 1, 0, 0, 0, m0),
   (72, .getfield 64, 3, 9, 10, 501, m0),
   (75, .getfield 254, 3, 5, 0, 275, m0),
   (78, .iload 4, 2, 0, 0, 0, m0),
   (80, .iaload, 1, 0, 0, 0, m0),
   (81, .goto 13, 3, 94, 0, 0, m0)]),
  (84, [], false, [(84, .aload_n 0, 1, 0, 0, 0, m0),
   (85, .getfield 64, 3, 9, 10, 501, m0),
   (88, .getfield 257, 3, 6, 0, 277, m0),
   (91, .iload 4, 2, 0, 0, 0, m0),
   (93, .iaload, 1, 0, 0, 0, m0),
   (94, .nop, 0, 0, 0, 0, m0)]),
  (94, [], false, [(94, .invokevirtual 170, 3, 0, 0, 835, m_FN_answer),
   (97, .ireturn, 1, 0, 0, 0, m0)])]
theorem ok_FN_held : okBt m_FN_held bt_FN_held = true := by decide +kernel
set_option maxRecDepth 100000 in
theorem b_FN_held_0 {l : Launch} {E : EnvT} {d : Nat} {K : AV → Mem → Prop} {M : Mem} {x1 : Int32} {x2 : Int32} {x3 : Int32} (hd : 1 ≤ d)
  (h : (((M 0 0 9).toNat, 11) ∈ CL ∧ CT l E (d - 1) m_Choir_knows [(.ref (M 0 0 9).toNat, 11), (.int x1, 0)] M (fun v1 M1 =>
   (((toI v1) = 0 →
    CT l E (d - 1) m_FN_refuse [(.ref 0, 0), (.int (iN 1), 0)] M1 (fun v2 M2 =>
     K (.int (toI v2), 0) M2)) ∧
   (¬ (toI v1) = 0 →
    (((M1 0 0 9).toNat, 11) ∈ CL ∧ CT l E (d - 1) m_Choir_hasNote [(.ref (M1 0 0 9).toNat, 11), (.int x1, 0), (.int x2, 0)] M1 (fun v3 M3 =>
     (((toI v3) = 0 →
      CT l E (d - 1) m_FN_refuse [(.ref 0, 0), (.int (iN 1), 0)] M3 (fun v4 M4 =>
       K (.int (toI v4), 0) M4)) ∧
     (¬ (toI v3) = 0 →
      ((x3 < 0 →
       CT l E (d - 1) m_FN_refuse [(.ref 0, 0), (.int (iN 1), 0)] M3 (fun v5 M5 =>
        K (.int (toI v5), 0) M5)) ∧
      (¬ x3 < 0 →
       ((x3 ≤ (iN 1) →
        CT l E (d - 1) m_Choir_slot [(.int x1, 0), (.int x2, 0)] M3 (fun v6 M6 =>
         (((M6 0 0 9).toNat, 11) ∈ CL ∧ vp_in (toI v6) 48 ∧ ((¬ (iN (M6 (M6 0 0 9).toNat 6 ((toI v6)).toNatClampNeg)) = (iN (-1)) →
          ((¬ x3 = 0 →
           (((M6 0 0 9).toNat, 11) ∈ CL ∧ vp_in (toI v6) 48 ∧ CT l E (d - 1) m_FN_answer [(.ref 0, 0), (.int (iN (M6 (M6 0 0 9).toNat 7 ((toI v6)).toNatClampNeg)), 0)] M6 (fun v7 M7 =>
            K (.int (toI v7), 0) M7))) ∧
          (x3 = 0 →
           (((M6 0 0 9).toNat, 11) ∈ CL ∧ vp_in (toI v6) 48 ∧ CT l E (d - 1) m_FN_answer [(.ref 0, 0), (.int (iN (M6 (M6 0 0 9).toNat 6 ((toI v6)).toNatClampNeg)), 0)] M6 (fun v8 M8 =>
            K (.int (toI v8), 0) M8))))) ∧
         ((iN (M6 (M6 0 0 9).toNat 6 ((toI v6)).toNatClampNeg)) = (iN (-1)) →
          CT l E (d - 1) m_FN_refuse [(.ref 0, 0), (.int (iN 6), 0)] M6 (fun v9 M9 =>
           K (.int (toI v9), 0) M9)))))) ∧
       (¬ x3 ≤ (iN 1) →
        CT l E (d - 1) m_FN_refuse [(.ref 0, 0), (.int (iN 1), 0)] M3 (fun v10 M10 =>
         K (.int (toI v10), 0) M10)))))))))))))) :
  G l E d m_FN_held 0 [(0, (.ref 0, 0)), (1, (.int x1, 0)), (2, (.int x2, 0)), (3, (.int x3, 0))] [] M K := G.blk 60 _ hd ok_FN_held rfl h
def bt_FN_owed : BtT := [(0, [0, 1, 2], true, [(0, .aload_n 0, 1, 0, 0, 0, m0),
   (1, .getfield 64, 3, 9, 10, 501, m0),
   (4, .iload_n 1, 1, 0, 0, 0, m0),
   (5, .invokevirtual 214, 3, 0, 0, 947, m_Choir_knows),
   (8, .ifCond .eq 19, 3, 27, 0, 0, m0),
   (11, .nop, 0, 0, 0, 0, m0)]),
  (11, [], false, [(11, .aload_n 0, 1, 0, 0, 0, m0),
   (12, .getfield 64, 3, 9, 10, 501, m0),
   (15, .iload_n 2, 1, 0, 0, 0, m0),
   (16, .invokevirtual 214, 3, 0, 0, 947, m_Choir_knows),
   (19, .ifCond .eq 8, 3, 27, 0, 0, m0),
   (22, .nop, 0, 0, 0, 0, m0)]),
  (22, [], false, [(22, .iload_n 1, 1, 0, 0, 0, m0),
   (23, .iload_n 2, 1, 0, 0, 0, m0),
   (24, .if_icmp .ne 9, 3, 33, 0, 0, m0),
   (27, .nop, 0, 0, 0, 0, m0)]),
  (27, [], false, [(27, .aload_n 0, 1, 0, 0, 0, m0),
   (28, .iconst 1, 1, 0, 0, 0, m0),
   (29, .invokevirtual 124, 3, 0, 0, 608, m_FN_refuse),
   (32, .ireturn, 1, 0, 0, 0, m0)]),
  (33, [], false, [(33, .aload_n 0, 1, 0, 0, 0, m0),
   (34, .aload_n 0, 1, 0, 0, 0, m0),
   (35, .getfield 64, 3, 9, 10, 501, m0),
   (38, .iload_n 1, 1, 0, 0, 0, m0),
   (39, .iload_n 2, 1, 0, 0, 0, m0),
   (40, .invokevirtual 260, 3, 0, 0, 983, m_Choir_owedBetween),
   (43, .invokevirtual 170, 3, 0, 0, 835, m_FN_answer),
   (46, .ireturn, 1, 0, 0, 0, m0)])]
theorem ok_FN_owed : okBt m_FN_owed bt_FN_owed = true := by decide +kernel
set_option maxRecDepth 100000 in
theorem b_FN_owed_0 {l : Launch} {E : EnvT} {d : Nat} {K : AV → Mem → Prop} {M : Mem} {x1 : Int32} {x2 : Int32} (hd : 1 ≤ d)
  (h : (((M 0 0 9).toNat, 11) ∈ CL ∧ CT l E (d - 1) m_Choir_knows [(.ref (M 0 0 9).toNat, 11), (.int x1, 0)] M (fun v1 M1 =>
   (((toI v1) = 0 →
    CT l E (d - 1) m_FN_refuse [(.ref 0, 0), (.int (iN 1), 0)] M1 (fun v2 M2 =>
     K (.int (toI v2), 0) M2)) ∧
   (¬ (toI v1) = 0 →
    (((M1 0 0 9).toNat, 11) ∈ CL ∧ CT l E (d - 1) m_Choir_knows [(.ref (M1 0 0 9).toNat, 11), (.int x2, 0)] M1 (fun v3 M3 =>
     (((toI v3) = 0 →
      CT l E (d - 1) m_FN_refuse [(.ref 0, 0), (.int (iN 1), 0)] M3 (fun v4 M4 =>
       K (.int (toI v4), 0) M4)) ∧
     (¬ (toI v3) = 0 →
      ((¬ x1 = x2 →
       (((M3 0 0 9).toNat, 11) ∈ CL ∧ CT l E (d - 1) m_Choir_owedBetween [(.ref (M3 0 0 9).toNat, 11), (.int x1, 0), (.int x2, 0)] M3 (fun v5 M5 =>
        CT l E (d - 1) m_FN_answer [(.ref 0, 0), (.int (toI v5), 0)] M5 (fun v6 M6 =>
         K (.int (toI v6), 0) M6)))) ∧
      (x1 = x2 →
       CT l E (d - 1) m_FN_refuse [(.ref 0, 0), (.int (iN 1), 0)] M3 (fun v7 M7 =>
        K (.int (toI v7), 0) M7)))))))))))) :
  G l E d m_FN_owed 0 [(0, (.ref 0, 0)), (1, (.int x1, 0)), (2, (.int x2, 0))] [] M K := G.blk 60 _ hd ok_FN_owed rfl h
def bt_FN_waiting : BtT := [(0, [0, 1, 2], true, [(0, .iload_n 2, 1, 0, 0, 0, m0),
   (1, .ifCond .lt 8, 3, 9, 0, 0, m0),
   (4, .nop, 0, 0, 0, 0, m0)]),
  (4, [], false, [(4, .iload_n 2, 1, 0, 0, 0, m0),
   (5, .iconst 2, 1, 0, 0, 0, m0),
   (6, .if_icmp .le 9, 3, 15, 0, 0, m0),
   (9, .nop, 0, 0, 0, 0, m0)]),
  (9, [], false, [(9, .aload_n 0, 1, 0, 0, 0, m0),
   (10, .iconst 1, 1, 0, 0, 0, m0),
   (11, .invokevirtual 124, 3, 0, 0, 608, m_FN_refuse),
   (14, .ireturn, 1, 0, 0, 0, m0)]),
  (15, [], false, [(15, .aload_n 0, 1, 0, 0, 0, m0),
   (16, .getfield 64, 3, 9, 10, 501, m0),
   (19, .getfield 190, 3, 7, 0, 279, m0),
   (22, .astore_n 3, 1, 0, 0, 0, m0),
   (23, .iload_n 1, 1, 0, 0, 0, m0),
   (24, .ifCond .lt 11, 3, 35, 0, 0, m0),
   (27, .nop, 0, 0, 0, 0, m0)]),
  (27, [], false, [(27, .iload_n 1, 1, 0, 0, 0, m0),
   (28, .aload_n 3, 1, 0, 0, 0, m0),
   (29, .getfield 194, 3, 3, 7, 251, m0),
   (32, .if_icmp .lt 10, 3, 42, 0, 0, m0),
   (35, .nop, 0, 0, 0, 0, m0)]),
  (35, [], false, [(35, .aload_n 0, 1, 0, 0, 0, m0),
   (36, .bipush 6, 2, 0, 0, 0, m0),
   (38, .invokevirtual 124, 3, 0, 0, 608, m_FN_refuse),
   (41, .ireturn, 1, 0, 0, 0, m0)]),
  (42, [], false, [(42, .iload_n 2, 1, 0, 0, 0, m0),
   (43, .ifCond .ne 14, 3, 57, 0, 0, m0),
   (46, .nop, 0, 0, 0, 0, m0)]),
  (46, [], false, [(46, .aload_n 0, 1, 0, 0, 0, m0),
   (47, .aload_n 3, 1, 0, 0, 0, m0),
   (48, .getfield 263, 3, 0, 7, 241, m0),
   (51, .iload_n 1, 1, 0, 0, 0, m0),
   (52, .iaload, 1, 0, 0, 0, m0),
   (53, .invokevirtual 170, 3, 0, 0, 835, m_FN_answer),
   (56, .ireturn, 1, 0, 0, 0, m0)]),
  (57, [], false, [(57, .aload_n 0, 1, 0, 0, 0, m0),
   (58, .iload_n 2, 1, 0, 0, 0, m0),
   (59, .iconst 1, 1, 0, 0, 0, m0),
   (60, .if_icmp .ne 12, 3, 72, 0, 0, m0),
   (63, .nop, 0, 0, 0, 0, m0)]),
  (63, [], false, [(63, .aload_n 3, 1, 0, 0, 0, m0),
   (64, .getfield 266, 3, 1, 7, 244, m0),
   (67, .iload_n 1, 1, 0, 0, 0, m0),
   (68, .iaload, 1, 0, 0, 0, m0),
   (69, .goto 9, 3, 78, 0, 0, m0)]),
  (72, [], false, [(72, .aload_n 3, 1, 0, 0, 0, m0),
   (73, .getfield 269, 3, 2, 7, 247, m0),
   (76, .iload_n 1, 1, 0, 0, 0, m0),
   (77, .iaload, 1, 0, 0, 0, m0),
   (78, .nop, 0, 0, 0, 0, m0)]),
  (78, [], false, [(78, .invokevirtual 170, 3, 0, 0, 835, m_FN_answer),
   (81, .ireturn, 1, 0, 0, 0, m0)])]
theorem ok_FN_waiting : okBt m_FN_waiting bt_FN_waiting = true := by decide +kernel
set_option maxRecDepth 100000 in
theorem b_FN_waiting_0 {l : Launch} {E : EnvT} {d : Nat} {K : AV → Mem → Prop} {M : Mem} {x1 : Int32} {x2 : Int32} (hd : 1 ≤ d)
  (h : ((x2 < 0 →
   CT l E (d - 1) m_FN_refuse [(.ref 0, 0), (.int (iN 1), 0)] M (fun v1 M1 =>
    K (.int (toI v1), 0) M1)) ∧
  (¬ x2 < 0 →
   ((x2 ≤ (iN 2) →
    (((M 0 0 9).toNat, 11) ∈ CL ∧ ((x1 < 0 →
     CT l E (d - 1) m_FN_refuse [(.ref 0, 0), (.int (iN 6), 0)] M (fun v2 M2 =>
      K (.int (toI v2), 0) M2)) ∧
    (¬ x1 < 0 →
     ((x1 < (iN (M (M 0 0 9).toNat 8 3)) →
      ((¬ x2 = 0 →
       ((¬ x2 = (iN 1) →
        (vp_in x1 8 ∧ CT l E (d - 1) m_FN_answer [(.ref 0, 0), (.int (iN (M (M 0 0 9).toNat 11 (x1).toNatClampNeg)), 0)] M (fun v3 M3 =>
         K (.int (toI v3), 0) M3))) ∧
       (x2 = (iN 1) →
        (vp_in x1 8 ∧ CT l E (d - 1) m_FN_answer [(.ref 0, 0), (.int (iN (M (M 0 0 9).toNat 10 (x1).toNatClampNeg)), 0)] M (fun v4 M4 =>
         K (.int (toI v4), 0) M4))))) ∧
      (x2 = 0 →
       (vp_in x1 8 ∧ CT l E (d - 1) m_FN_answer [(.ref 0, 0), (.int (iN (M (M 0 0 9).toNat 9 (x1).toNatClampNeg)), 0)] M (fun v5 M5 =>
        K (.int (toI v5), 0) M5))))) ∧
     (¬ x1 < (iN (M (M 0 0 9).toNat 8 3)) →
      CT l E (d - 1) m_FN_refuse [(.ref 0, 0), (.int (iN 6), 0)] M (fun v6 M6 =>
       K (.int (toI v6), 0) M6))))))) ∧
   (¬ x2 ≤ (iN 2) →
    CT l E (d - 1) m_FN_refuse [(.ref 0, 0), (.int (iN 1), 0)] M (fun v7 M7 =>
     K (.int (toI v7), 0) M7)))))) :
  G l E d m_FN_waiting 0 [(0, (.ref 0, 0)), (1, (.int x1, 0)), (2, (.int x2, 0))] [] M K := G.blk 60 _ hd ok_FN_waiting rfl h
def bt_FN_sung : BtT := [(0, [0, 1, 2], true, [(0, .aload_n 0, 1, 0, 0, 0, m0),
   (1, .getfield 64, 3, 9, 10, 501, m0),
   (4, .iload_n 1, 1, 0, 0, 0, m0),
   (5, .invokevirtual 272, 3, 0, 0, 999, m_Choir_lives),
   (8, .ifCond .eq 15, 3, 23, 0, 0, m0),
   (11, .nop, 0, 0, 0, 0, m0)]),
  (11, [], false, [(11, .aload_n 0, 1, 0, 0, 0, m0),
   (12, .getfield 64, 3, 9, 10, 501, m0),
   (15, .iload_n 1, 1, 0, 0, 0, m0),
   (16, .iload_n 2, 1, 0, 0, 0, m0),
   (17, .invokevirtual 245, 3, 0, 0, 970, m_Choir_hasNote),
   (20, .ifCond .ne 9, 3, 29, 0, 0, m0),
   (23, .nop, 0, 0, 0, 0, m0)]),
  (23, [], false, [(23, .aload_n 0, 1, 0, 0, 0, m0),
   (24, .iconst 1, 1, 0, 0, 0, m0),
   (25, .invokevirtual 124, 3, 0, 0, 608, m_FN_refuse),
   (28, .ireturn, 1, 0, 0, 0, m0)]),
  (29, [], false, [(29, .aload_n 0, 1, 0, 0, 0, m0),
   (30, .aload_n 0, 1, 0, 0, 0, m0),
   (31, .getfield 64, 3, 9, 10, 501, m0),
   (34, .iload_n 1, 1, 0, 0, 0, m0),
   (35, .iload_n 2, 1, 0, 0, 0, m0),
   (36, .invokevirtual 275, 3, 0, 0, 1003, m_Choir_sungAt),
   (39, .invokevirtual 170, 3, 0, 0, 835, m_FN_answer),
   (42, .ireturn, 1, 0, 0, 0, m0)])]
theorem ok_FN_sung : okBt m_FN_sung bt_FN_sung = true := by decide +kernel
set_option maxRecDepth 100000 in
theorem b_FN_sung_0 {l : Launch} {E : EnvT} {d : Nat} {K : AV → Mem → Prop} {M : Mem} {x1 : Int32} {x2 : Int32} (hd : 1 ≤ d)
  (h : (((M 0 0 9).toNat, 11) ∈ CL ∧ CT l E (d - 1) m_Choir_lives [(.ref (M 0 0 9).toNat, 11), (.int x1, 0)] M (fun v1 M1 =>
   (((toI v1) = 0 →
    CT l E (d - 1) m_FN_refuse [(.ref 0, 0), (.int (iN 1), 0)] M1 (fun v2 M2 =>
     K (.int (toI v2), 0) M2)) ∧
   (¬ (toI v1) = 0 →
    (((M1 0 0 9).toNat, 11) ∈ CL ∧ CT l E (d - 1) m_Choir_hasNote [(.ref (M1 0 0 9).toNat, 11), (.int x1, 0), (.int x2, 0)] M1 (fun v3 M3 =>
     ((¬ (toI v3) = 0 →
      (((M3 0 0 9).toNat, 11) ∈ CL ∧ CT l E (d - 1) m_Choir_sungAt [(.ref (M3 0 0 9).toNat, 11), (.int x1, 0), (.int x2, 0)] M3 (fun v4 M4 =>
       CT l E (d - 1) m_FN_answer [(.ref 0, 0), (.int (toI v4), 0)] M4 (fun v5 M5 =>
        K (.int (toI v5), 0) M5)))) ∧
     ((toI v3) = 0 →
      CT l E (d - 1) m_FN_refuse [(.ref 0, 0), (.int (iN 1), 0)] M3 (fun v6 M6 =>
       K (.int (toI v6), 0) M6)))))))))) :
  G l E d m_FN_sung 0 [(0, (.ref 0, 0)), (1, (.int x1, 0)), (2, (.int x2, 0))] [] M K := G.blk 60 _ hd ok_FN_sung rfl h
def bt_FN_lineTrayStatus : BtT := [(0, [0, 1, 2], true, [(0, .aload_n 0, 1, 0, 0, 0, m0),
   (1, .getfield 64, 3, 9, 10, 501, m0),
   (4, .iload_n 1, 1, 0, 0, 0, m0),
   (5, .invokevirtual 272, 3, 0, 0, 999, m_Choir_lives),
   (8, .ifCond .eq 10, 3, 18, 0, 0, m0),
   (11, .nop, 0, 0, 0, 0, m0)]),
  (11, [], false, [(11, .iload_n 2, 1, 0, 0, 0, m0),
   (12, .invokestatic 101, 3, 0, 0, 566, m_FN_isTray),
   (15, .ifCond .ne 5, 3, 20, 0, 0, m0),
   (18, .nop, 0, 0, 0, 0, m0)]),
  (18, [], false, [(18, .iconst 1, 1, 0, 0, 0, m0),
   (19, .ireturn, 1, 0, 0, 0, m0)]),
  (20, [], false, [(20, .aload_n 0, 1, 0, 0, 0, m0),
   (21, .getfield 11, 3, 0, 10, 492, m0),
   (24, .iload_n 2, 1, 0, 0, 0, m0),
   (25, .aaload, 1, 0, 0, 0, m0),
   (26, .invokevirtual 132, 3, 0, 0, 592, m_Tray_isMissing),
   (29, .ifCond .eq 5, 3, 34, 0, 0, m0),
   (32, .nop, 0, 0, 0, 0, m0)]),
  (32, [], false, [(32, .iconst 2, 1, 0, 0, 0, m0),
   (33, .ireturn, 1, 0, 0, 0, m0)]),
  (34, [], false, [(34, .aload_n 0, 1, 0, 0, 0, m0),
   (35, .getfield 11, 3, 0, 10, 492, m0),
   (38, .iload_n 2, 1, 0, 0, 0, m0),
   (39, .aaload, 1, 0, 0, 0, m0),
   (40, .getfield 428, 3, 2, 6, 484, m0),
   (43, .aload_n 0, 1, 0, 0, 0, m0),
   (44, .getfield 64, 3, 9, 10, 501, m0),
   (47, .getfield 221, 3, 3, 0, 271, m0),
   (50, .iload_n 1, 1, 0, 0, 0, m0),
   (51, .iaload, 1, 0, 0, 0, m0),
   (52, .if_icmp .ge 7, 3, 59, 0, 0, m0),
   (55, .nop, 0, 0, 0, 0, m0)]),
  (55, [], false, [(55, .iconst 3, 1, 0, 0, 0, m0),
   (56, .goto 4, 3, 60, 0, 0, m0)]),
  (59, [], false, [(59, .iconst 0, 1, 0, 0, 0, m0),
   (60, .nop, 0, 0, 0, 0, m0)]),
  (60, [], false, [(60, .ireturn, 1, 0, 0, 0, m0)])]
theorem ok_FN_lineTrayStatus : okBt m_FN_lineTrayStatus bt_FN_lineTrayStatus = true := by decide +kernel
set_option maxRecDepth 100000 in
theorem b_FN_lineTrayStatus_0 {l : Launch} {E : EnvT} {d : Nat} {K : AV → Mem → Prop} {M : Mem} {x1 : Int32} {x2 : Int32} (hd : 1 ≤ d)
  (h : (((M 0 0 9).toNat, 11) ∈ CL ∧ CT l E (d - 1) m_Choir_lives [(.ref (M 0 0 9).toNat, 11), (.int x1, 0)] M (fun v1 M1 =>
   (((toI v1) = 0 →
    K (.int (iN 1), 0) M1) ∧
   (¬ (toI v1) = 0 →
    CT l E (d - 1) m_FN_isTray [(.int x2, 0)] M1 (fun v2 M2 =>
     ((¬ (toI v2) = 0 →
      (vp_in x2 4 ∧ CT l E (d - 1) m_Tray_isMissing [(.ref ([(20, 39), (21, 39), (22, 39), (23, 39)].getD (x2).toNatClampNeg (0, 0)).1, 39)] M2 (fun v3 M3 =>
       (((toI v3) = 0 →
        (vp_in x2 4 ∧ ((M3 0 0 9).toNat, 11) ∈ CL ∧ vp_in x1 8 ∧ (((iN (M3 (M3 0 0 9).toNat 4 (x1).toNatClampNeg)) ≤ (iN (M3 ([(20, 39), (21, 39), (22, 39), (23, 39)].getD (x2).toNatClampNeg (0, 0)).1 0 2)) →
         K (.int (iN 0), 0) M3) ∧
        (¬ (iN (M3 (M3 0 0 9).toNat 4 (x1).toNatClampNeg)) ≤ (iN (M3 ([(20, 39), (21, 39), (22, 39), (23, 39)].getD (x2).toNatClampNeg (0, 0)).1 0 2)) →
         K (.int (iN 3), 0) M3)))) ∧
       (¬ (toI v3) = 0 →
        K (.int (iN 2), 0) M3))))) ∧
     ((toI v2) = 0 →
      K (.int (iN 1), 0) M2)))))))) :
  G l E d m_FN_lineTrayStatus 0 [(0, (.ref 0, 0)), (1, (.int x1, 0)), (2, (.int x2, 0))] [] M K := G.blk 60 _ hd ok_FN_lineTrayStatus rfl h
def bt_FN_copySung : BtT := [(0, [0, 1, 2], true, [(0, .aload_n 0, 1, 0, 0, 0, m0),
   (1, .iload_n 1, 1, 0, 0, 0, m0),
   (2, .iload_n 2, 1, 0, 0, 0, m0),
   (3, .invokevirtual 278, 3, 0, 0, 1011, m_FN_lineTrayStatus),
   (6, .istore_n 3, 1, 0, 0, 0, m0),
   (7, .iload_n 3, 1, 0, 0, 0, m0),
   (8, .ifCond .eq 9, 3, 17, 0, 0, m0),
   (11, .nop, 0, 0, 0, 0, m0)]),
  (11, [], false, [(11, .aload_n 0, 1, 0, 0, 0, m0),
   (12, .iload_n 3, 1, 0, 0, 0, m0),
   (13, .invokevirtual 124, 3, 0, 0, 608, m_FN_refuse),
   (16, .ireturn, 1, 0, 0, 0, m0)]),
  (17, [], false, [(17, .aload_n 0, 1, 0, 0, 0, m0),
   (18, .getfield 64, 3, 9, 10, 501, m0),
   (21, .getfield 221, 3, 3, 0, 271, m0),
   (24, .iload_n 1, 1, 0, 0, 0, m0),
   (25, .iaload, 1, 0, 0, 0, m0),
   (26, .istore 4, 2, 0, 0, 0, m0),
   (28, .iconst 0, 1, 0, 0, 0, m0),
   (29, .istore 5, 2, 0, 0, 0, m0),
   (31, .nop, 0, 0, 0, 0, m0)]),
  (31, [0, 1, 2, 4, 5], true, [(31, .iload 5, 2, 0, 0, 0, m0),
   (33, .iload 4, 2, 0, 0, 0, m0),
   (35, .if_icmp .ge 31, 3, 66, 0, 0, m0),
   (38, .nop, 0, 0, 0, 0, m0)]),
  (38, [], false, [(38, .aload_n 0, 1, 0, 0, 0, m0),
   (39, .getfield 11, 3, 0, 10, 492, m0),
   (42, .iload_n 2, 1, 0, 0, 0, m0),
   (43, .aaload, 1, 0, 0, 0, m0),
   (44, .iload 5, 2, 0, 0, 0, m0),
   (46, .aload_n 0, 1, 0, 0, 0, m0),
   (47, .getfield 64, 3, 9, 10, 501, m0),
   (50, .iload_n 1, 1, 0, 0, 0, m0),
   (51, .iload 5, 2, 0, 0, 0, m0),
   (53, .invokevirtual 275, 3, 0, 0, 1003, m_Choir_sungAt),
   (56, .i2l, 1, 0, 0, 0, m0),
   (57, .invokevirtual 120, 3, 0, 0, 596, m_Tray_put),
   (60, .iinc 5 1, 3, 0, 0, 0, m0),
   (63, .goto (-32), 3, 31, 0, 0, m0)]),
  (66, [], false, [(66, .aload_n 0, 1, 0, 0, 0, m0),
   (67, .iload 4, 2, 0, 0, 0, m0),
   (69, .invokevirtual 170, 3, 0, 0, 835, m_FN_answer),
   (72, .ireturn, 1, 0, 0, 0, m0)])]
theorem ok_FN_copySung : okBt m_FN_copySung bt_FN_copySung = true := by decide +kernel
set_option maxRecDepth 100000 in
theorem b_FN_copySung_0 {l : Launch} {E : EnvT} {d : Nat} {K : AV → Mem → Prop} {M : Mem} {x1 : Int32} {x2 : Int32} (hd : 1 ≤ d)
  (h : CT l E (d - 1) m_FN_lineTrayStatus [(.ref 0, 0), (.int x1, 0), (.int x2, 0)] M (fun v1 M1 =>
   (((toI v1) = 0 →
    (((M1 0 0 9).toNat, 11) ∈ CL ∧ vp_in x1 8 ∧ G l E d m_FN_copySung 31 [(0, (.ref 0, 0)), (1, (.int x1, 0)), (2, (.int x2, 0)), (4, (.int (iN (M1 (M1 0 0 9).toNat 4 (x1).toNatClampNeg)), 0)), (5, (.int (iN 0), 0))] [] M1 K)) ∧
   (¬ (toI v1) = 0 →
    CT l E (d - 1) m_FN_refuse [(.ref 0, 0), (.int (toI v1), 0)] M1 (fun v2 M2 =>
     K (.int (toI v2), 0) M2))))) :
  G l E d m_FN_copySung 0 [(0, (.ref 0, 0)), (1, (.int x1, 0)), (2, (.int x2, 0))] [] M K := G.blk 60 _ hd ok_FN_copySung rfl h
set_option maxRecDepth 100000 in
theorem b_FN_copySung_31 {l : Launch} {E : EnvT} {d : Nat} {K : AV → Mem → Prop} {M : Mem} {x1 : Int32} {x2 : Int32} {x4 : Int32} {x5 : Int32} (hd : 1 ≤ d)
  (h : ((x4 ≤ x5 →
   CT l E (d - 1) m_FN_answer [(.ref 0, 0), (.int x4, 0)] M (fun v1 M1 =>
    K (.int (toI v1), 0) M1)) ∧
  (¬ x4 ≤ x5 →
   (vp_in x2 4 ∧ ((M 0 0 9).toNat, 11) ∈ CL ∧ CT l E (d - 1) m_Choir_sungAt [(.ref (M 0 0 9).toNat, 11), (.int x1, 0), (.int x5, 0)] M (fun v2 M2 =>
    CT l E (d - 1) m_Tray_put [(.ref ([(20, 39), (21, 39), (22, 39), (23, 39)].getD (x2).toNatClampNeg (0, 0)).1, 39), (.int x5, 0), (.long ((toI v2)).toInt64, 0)] M2 (fun v3 M3 =>
     G l E d m_FN_copySung 31 [(0, (.ref 0, 0)), (1, (.int x1, 0)), (2, (.int x2, 0)), (4, (.int x4, 0)), (5, (.int (x5 + iN 1), 0))] [] M3 K)))))) :
  G l E d m_FN_copySung 31 [(0, (.ref 0, 0)), (1, (.int x1, 0)), (2, (.int x2, 0)), (4, (.int x4, 0)), (5, (.int x5, 0))] [] M K := G.blk 60 _ hd ok_FN_copySung rfl h
def bt_FN_lend : BtT := [(0, [0, 1, 2, 3], true, [(0, .aload_n 0, 1, 0, 0, 0, m0),
   (1, .getfield 64, 3, 9, 10, 501, m0),
   (4, .iload_n 1, 1, 0, 0, 0, m0),
   (5, .iload_n 2, 1, 0, 0, 0, m0),
   (6, .invokevirtual 281, 3, 0, 0, 1019, m_Choir_areTwo),
   (9, .ifCond .eq 14, 3, 23, 0, 0, m0),
   (12, .nop, 0, 0, 0, 0, m0)]),
  (12, [], false, [(12, .iload_n 3, 1, 0, 0, 0, m0),
   (13, .iconst 1, 1, 0, 0, 0, m0),
   (14, .if_icmp .lt 9, 3, 23, 0, 0, m0),
   (17, .nop, 0, 0, 0, 0, m0)]),
  (17, [], false, [(17, .iload_n 3, 1, 0, 0, 0, m0),
   (18, .bipush 99, 2, 0, 0, 0, m0),
   (20, .if_icmp .le 9, 3, 29, 0, 0, m0),
   (23, .nop, 0, 0, 0, 0, m0)]),
  (23, [], false, [(23, .aload_n 0, 1, 0, 0, 0, m0),
   (24, .iconst 1, 1, 0, 0, 0, m0),
   (25, .invokevirtual 124, 3, 0, 0, 608, m_FN_refuse),
   (28, .ireturn, 1, 0, 0, 0, m0)]),
  (29, [], false, [(29, .aload_n 0, 1, 0, 0, 0, m0),
   (30, .getfield 64, 3, 9, 10, 501, m0),
   (33, .iload_n 1, 1, 0, 0, 0, m0),
   (34, .iload_n 2, 1, 0, 0, 0, m0),
   (35, .iload_n 3, 1, 0, 0, 0, m0),
   (36, .invokevirtual 284, 3, 0, 0, 1024, m_Choir_lendCoins),
   (39, .ifCond .ne 10, 3, 49, 0, 0, m0),
   (42, .nop, 0, 0, 0, 0, m0)]),
  (42, [], false, [(42, .aload_n 0, 1, 0, 0, 0, m0),
   (43, .bipush 7, 2, 0, 0, 0, m0),
   (45, .invokevirtual 124, 3, 0, 0, 608, m_FN_refuse),
   (48, .ireturn, 1, 0, 0, 0, m0)]),
  (49, [], false, [(49, .aload_n 0, 1, 0, 0, 0, m0),
   (50, .aload_n 0, 1, 0, 0, 0, m0),
   (51, .getfield 64, 3, 9, 10, 501, m0),
   (54, .iload_n 2, 1, 0, 0, 0, m0),
   (55, .iload_n 1, 1, 0, 0, 0, m0),
   (56, .invokevirtual 260, 3, 0, 0, 983, m_Choir_owedBetween),
   (59, .invokevirtual 170, 3, 0, 0, 835, m_FN_answer),
   (62, .ireturn, 1, 0, 0, 0, m0)])]
theorem ok_FN_lend : okBt m_FN_lend bt_FN_lend = true := by decide +kernel
set_option maxRecDepth 100000 in
theorem b_FN_lend_0 {l : Launch} {E : EnvT} {d : Nat} {K : AV → Mem → Prop} {M : Mem} {x1 : Int32} {x2 : Int32} {x3 : Int32} (hd : 1 ≤ d)
  (h : (((M 0 0 9).toNat, 11) ∈ CL ∧ CT l E (d - 1) m_Choir_areTwo [(.ref (M 0 0 9).toNat, 11), (.int x1, 0), (.int x2, 0)] M (fun v1 M1 =>
   (((toI v1) = 0 →
    CT l E (d - 1) m_FN_refuse [(.ref 0, 0), (.int (iN 1), 0)] M1 (fun v2 M2 =>
     K (.int (toI v2), 0) M2)) ∧
   (¬ (toI v1) = 0 →
    ((x3 < (iN 1) →
     CT l E (d - 1) m_FN_refuse [(.ref 0, 0), (.int (iN 1), 0)] M1 (fun v3 M3 =>
      K (.int (toI v3), 0) M3)) ∧
    (¬ x3 < (iN 1) →
     ((x3 ≤ (iN 99) →
      (((M1 0 0 9).toNat, 11) ∈ CL ∧ CT l E (d - 1) m_Choir_lendCoins [(.ref (M1 0 0 9).toNat, 11), (.int x1, 0), (.int x2, 0), (.int x3, 0)] M1 (fun v4 M4 =>
       ((¬ (toI v4) = 0 →
        (((M4 0 0 9).toNat, 11) ∈ CL ∧ CT l E (d - 1) m_Choir_owedBetween [(.ref (M4 0 0 9).toNat, 11), (.int x2, 0), (.int x1, 0)] M4 (fun v5 M5 =>
         CT l E (d - 1) m_FN_answer [(.ref 0, 0), (.int (toI v5), 0)] M5 (fun v6 M6 =>
          K (.int (toI v6), 0) M6)))) ∧
       ((toI v4) = 0 →
        CT l E (d - 1) m_FN_refuse [(.ref 0, 0), (.int (iN 7), 0)] M4 (fun v7 M7 =>
         K (.int (toI v7), 0) M7)))))) ∧
     (¬ x3 ≤ (iN 99) →
      CT l E (d - 1) m_FN_refuse [(.ref 0, 0), (.int (iN 1), 0)] M1 (fun v8 M8 =>
       K (.int (toI v8), 0) M8)))))))))) :
  G l E d m_FN_lend 0 [(0, (.ref 0, 0)), (1, (.int x1, 0)), (2, (.int x2, 0)), (3, (.int x3, 0))] [] M K := G.blk 60 _ hd ok_FN_lend rfl h
def bt_FN_pay : BtT := [(0, [0, 1, 2, 3], true, [(0, .aload_n 0, 1, 0, 0, 0, m0),
   (1, .getfield 64, 3, 9, 10, 501, m0),
   (4, .iload_n 1, 1, 0, 0, 0, m0),
   (5, .iload_n 2, 1, 0, 0, 0, m0),
   (6, .invokevirtual 281, 3, 0, 0, 1019, m_Choir_areTwo),
   (9, .ifCond .eq 15, 3, 24, 0, 0, m0),
   (12, .nop, 0, 0, 0, 0, m0)]),
  (12, [], false, [(12, .iload_n 3, 1, 0, 0, 0, m0),
   (13, .iconst 1, 1, 0, 0, 0, m0),
   (14, .if_icmp .lt 10, 3, 24, 0, 0, m0),
   (17, .nop, 0, 0, 0, 0, m0)]),
  (17, [], false, [(17, .iload_n 3, 1, 0, 0, 0, m0),
   (18, .sipush 999, 3, 0, 0, 0, m0),
   (21, .if_icmp .le 9, 3, 30, 0, 0, m0),
   (24, .nop, 0, 0, 0, 0, m0)]),
  (24, [], false, [(24, .aload_n 0, 1, 0, 0, 0, m0),
   (25, .iconst 1, 1, 0, 0, 0, m0),
   (26, .invokevirtual 124, 3, 0, 0, 608, m_FN_refuse),
   (29, .ireturn, 1, 0, 0, 0, m0)]),
  (30, [], false, [(30, .aload_n 0, 1, 0, 0, 0, m0),
   (31, .getfield 64, 3, 9, 10, 501, m0),
   (34, .iload_n 1, 1, 0, 0, 0, m0),
   (35, .iload_n 2, 1, 0, 0, 0, m0),
   (36, .iload_n 3, 1, 0, 0, 0, m0),
   (37, .invokevirtual 288, 3, 0, 0, 1034, m_Choir_payCoins),
   (40, .ifCond .ne 10, 3, 50, 0, 0, m0),
   (43, .nop, 0, 0, 0, 0, m0)]),
  (43, [], false, [(43, .aload_n 0, 1, 0, 0, 0, m0),
   (44, .bipush 7, 2, 0, 0, 0, m0),
   (46, .invokevirtual 124, 3, 0, 0, 608, m_FN_refuse),
   (49, .ireturn, 1, 0, 0, 0, m0)]),
  (50, [], false, [(50, .aload_n 0, 1, 0, 0, 0, m0),
   (51, .aload_n 0, 1, 0, 0, 0, m0),
   (52, .getfield 64, 3, 9, 10, 501, m0),
   (55, .iload_n 1, 1, 0, 0, 0, m0),
   (56, .iload_n 2, 1, 0, 0, 0, m0),
   (57, .invokevirtual 260, 3, 0, 0, 983, m_Choir_owedBetween),
   (60, .invokevirtual 170, 3, 0, 0, 835, m_FN_answer),
   (63, .ireturn, 1, 0, 0, 0, m0)])]
theorem ok_FN_pay : okBt m_FN_pay bt_FN_pay = true := by decide +kernel
set_option maxRecDepth 100000 in
theorem b_FN_pay_0 {l : Launch} {E : EnvT} {d : Nat} {K : AV → Mem → Prop} {M : Mem} {x1 : Int32} {x2 : Int32} {x3 : Int32} (hd : 1 ≤ d)
  (h : (((M 0 0 9).toNat, 11) ∈ CL ∧ CT l E (d - 1) m_Choir_areTwo [(.ref (M 0 0 9).toNat, 11), (.int x1, 0), (.int x2, 0)] M (fun v1 M1 =>
   (((toI v1) = 0 →
    CT l E (d - 1) m_FN_refuse [(.ref 0, 0), (.int (iN 1), 0)] M1 (fun v2 M2 =>
     K (.int (toI v2), 0) M2)) ∧
   (¬ (toI v1) = 0 →
    ((x3 < (iN 1) →
     CT l E (d - 1) m_FN_refuse [(.ref 0, 0), (.int (iN 1), 0)] M1 (fun v3 M3 =>
      K (.int (toI v3), 0) M3)) ∧
    (¬ x3 < (iN 1) →
     ((x3 ≤ (iN 999) →
      (((M1 0 0 9).toNat, 11) ∈ CL ∧ CT l E (d - 1) m_Choir_payCoins [(.ref (M1 0 0 9).toNat, 11), (.int x1, 0), (.int x2, 0), (.int x3, 0)] M1 (fun v4 M4 =>
       ((¬ (toI v4) = 0 →
        (((M4 0 0 9).toNat, 11) ∈ CL ∧ CT l E (d - 1) m_Choir_owedBetween [(.ref (M4 0 0 9).toNat, 11), (.int x1, 0), (.int x2, 0)] M4 (fun v5 M5 =>
         CT l E (d - 1) m_FN_answer [(.ref 0, 0), (.int (toI v5), 0)] M5 (fun v6 M6 =>
          K (.int (toI v6), 0) M6)))) ∧
       ((toI v4) = 0 →
        CT l E (d - 1) m_FN_refuse [(.ref 0, 0), (.int (iN 7), 0)] M4 (fun v7 M7 =>
         K (.int (toI v7), 0) M7)))))) ∧
     (¬ x3 ≤ (iN 999) →
      CT l E (d - 1) m_FN_refuse [(.ref 0, 0), (.int (iN 1), 0)] M1 (fun v8 M8 =>
       K (.int (toI v8), 0) M8)))))))))) :
  G l E d m_FN_pay 0 [(0, (.ref 0, 0)), (1, (.int x1, 0)), (2, (.int x2, 0)), (3, (.int x3, 0))] [] M K := G.blk 60 _ hd ok_FN_pay rfl h
def bt_FN_chord : BtT := [(0, [0, 1, 2], true, [(0, .aload_n 0, 1, 0, 0, 0, m0),
   (1, .getfield 64, 3, 9, 10, 501, m0),
   (4, .iload_n 1, 1, 0, 0, 0, m0),
   (5, .iload_n 2, 1, 0, 0, 0, m0),
   (6, .invokevirtual 281, 3, 0, 0, 1019, m_Choir_areTwo),
   (9, .ifCond .ne 9, 3, 18, 0, 0, m0),
   (12, .nop, 0, 0, 0, 0, m0)]),
  (12, [], false, [(12, .aload_n 0, 1, 0, 0, 0, m0),
   (13, .iconst 1, 1, 0, 0, 0, m0),
   (14, .invokevirtual 124, 3, 0, 0, 608, m_FN_refuse),
   (17, .ireturn, 1, 0, 0, 0, m0)]),
  (18, [], false, [(18, .aload_n 0, 1, 0, 0, 0, m0),
   (19, .getfield 64, 3, 9, 10, 501, m0),
   (22, .iload_n 1, 1, 0, 0, 0, m0),
   (23, .iload_n 2, 1, 0, 0, 0, m0),
   (24, .invokevirtual 291, 3, 0, 0, 1058, m_Choir_netTwo),
   (27, .istore_n 3, 1, 0, 0, 0, m0),
   (28, .iload_n 3, 1, 0, 0, 0, m0),
   (29, .ifCond .ne 12, 3, 41, 0, 0, m0),
   (32, .nop, 0, 0, 0, 0, m0)]),
  (32, [], false, [(32, .aload_n 0, 1, 0, 0, 0, m0),
   (33, .bipush 7, 2, 0, 0, 0, m0),
   (35, .invokevirtual 124, 3, 0, 0, 608, m_FN_refuse),
   (38, .goto 8, 3, 46, 0, 0, m0)]),
  (41, [], false, [(41, .aload_n 0, 1, 0, 0, 0, m0),
   (42, .iload_n 3, 1, 0, 0, 0, m0),
   (43, .invokevirtual 170, 3, 0, 0, 835, m_FN_answer),
   (46, .nop, 0, 0, 0, 0, m0)]),
  (46, [], false, [(46, .ireturn, 1, 0, 0, 0, m0)])]
theorem ok_FN_chord : okBt m_FN_chord bt_FN_chord = true := by decide +kernel
set_option maxRecDepth 100000 in
theorem b_FN_chord_0 {l : Launch} {E : EnvT} {d : Nat} {K : AV → Mem → Prop} {M : Mem} {x1 : Int32} {x2 : Int32} (hd : 1 ≤ d)
  (h : (((M 0 0 9).toNat, 11) ∈ CL ∧ CT l E (d - 1) m_Choir_areTwo [(.ref (M 0 0 9).toNat, 11), (.int x1, 0), (.int x2, 0)] M (fun v1 M1 =>
   ((¬ (toI v1) = 0 →
    (((M1 0 0 9).toNat, 11) ∈ CL ∧ CT l E (d - 1) m_Choir_netTwo [(.ref (M1 0 0 9).toNat, 11), (.int x1, 0), (.int x2, 0)] M1 (fun v2 M2 =>
     ((¬ (toI v2) = 0 →
      CT l E (d - 1) m_FN_answer [(.ref 0, 0), (.int (toI v2), 0)] M2 (fun v3 M3 =>
       K (.int (toI v3), 0) M3)) ∧
     ((toI v2) = 0 →
      CT l E (d - 1) m_FN_refuse [(.ref 0, 0), (.int (iN 7), 0)] M2 (fun v4 M4 =>
       K (.int (toI v4), 0) M4)))))) ∧
   ((toI v1) = 0 →
    CT l E (d - 1) m_FN_refuse [(.ref 0, 0), (.int (iN 1), 0)] M1 (fun v5 M5 =>
     K (.int (toI v5), 0) M5)))))) :
  G l E d m_FN_chord 0 [(0, (.ref 0, 0)), (1, (.int x1, 0)), (2, (.int x2, 0))] [] M K := G.blk 60 _ hd ok_FN_chord rfl h
def bt_FN_sunday : BtT := [(0, [0], true, [(0, .aload_n 0, 1, 0, 0, 0, m0),
   (1, .getfield 64, 3, 9, 10, 501, m0),
   (4, .invokevirtual 294, 3, 0, 0, 1066, m_Choir_keepSunday),
   (7, .ifCond .ne 9, 3, 16, 0, 0, m0),
   (10, .nop, 0, 0, 0, 0, m0)]),
  (10, [], false, [(10, .aload_n 0, 1, 0, 0, 0, m0),
   (11, .iconst 4, 1, 0, 0, 0, m0),
   (12, .invokevirtual 124, 3, 0, 0, 608, m_FN_refuse),
   (15, .ireturn, 1, 0, 0, 0, m0)]),
  (16, [], false, [(16, .aload_n 0, 1, 0, 0, 0, m0),
   (17, .aload_n 0, 1, 0, 0, 0, m0),
   (18, .getfield 64, 3, 9, 10, 501, m0),
   (21, .invokevirtual 199, 3, 0, 0, 916, m_Choir_allOwed),
   (24, .invokevirtual 170, 3, 0, 0, 835, m_FN_answer),
   (27, .ireturn, 1, 0, 0, 0, m0)])]
theorem ok_FN_sunday : okBt m_FN_sunday bt_FN_sunday = true := by decide +kernel
set_option maxRecDepth 100000 in
theorem b_FN_sunday_0 {l : Launch} {E : EnvT} {d : Nat} {K : AV → Mem → Prop} {M : Mem}  (hd : 1 ≤ d)
  (h : (((M 0 0 9).toNat, 11) ∈ CL ∧ CT l E (d - 1) m_Choir_keepSunday [(.ref (M 0 0 9).toNat, 11)] M (fun v1 M1 =>
   ((¬ (toI v1) = 0 →
    (((M1 0 0 9).toNat, 11) ∈ CL ∧ CT l E (d - 1) m_Choir_allOwed [(.ref (M1 0 0 9).toNat, 11)] M1 (fun v2 M2 =>
     CT l E (d - 1) m_FN_answer [(.ref 0, 0), (.int (toI v2), 0)] M2 (fun v3 M3 =>
      K (.int (toI v3), 0) M3)))) ∧
   ((toI v1) = 0 →
    CT l E (d - 1) m_FN_refuse [(.ref 0, 0), (.int (iN 4), 0)] M1 (fun v4 M4 =>
     K (.int (toI v4), 0) M4)))))) :
  G l E d m_FN_sunday 0 [(0, (.ref 0, 0))] [] M K := G.blk 60 _ hd ok_FN_sunday rfl h
def bt_FN_cold : BtT := [(0, [0, 1], true, [(0, .aload_n 0, 1, 0, 0, 0, m0),
   (1, .getfield 64, 3, 9, 10, 501, m0),
   (4, .iload_n 1, 1, 0, 0, 0, m0),
   (5, .invokevirtual 272, 3, 0, 0, 999, m_Choir_lives),
   (8, .ifCond .ne 9, 3, 17, 0, 0, m0),
   (11, .nop, 0, 0, 0, 0, m0)]),
  (11, [], false, [(11, .aload_n 0, 1, 0, 0, 0, m0),
   (12, .iconst 1, 1, 0, 0, 0, m0),
   (13, .invokevirtual 124, 3, 0, 0, 608, m_FN_refuse),
   (16, .ireturn, 1, 0, 0, 0, m0)]),
  (17, [], false, [(17, .aload_n 0, 1, 0, 0, 0, m0),
   (18, .aload_n 0, 1, 0, 0, 0, m0),
   (19, .getfield 64, 3, 9, 10, 501, m0),
   (22, .iload_n 1, 1, 0, 0, 0, m0),
   (23, .invokevirtual 297, 3, 0, 0, 1074, m_Choir_catchCold),
   (26, .bipush 7, 2, 0, 0, 0, m0),
   (28, .invokevirtual 236, 3, 0, 0, 954, m_FN_answerOr),
   (31, .ireturn, 1, 0, 0, 0, m0)])]
theorem ok_FN_cold : okBt m_FN_cold bt_FN_cold = true := by decide +kernel
set_option maxRecDepth 100000 in
theorem b_FN_cold_0 {l : Launch} {E : EnvT} {d : Nat} {K : AV → Mem → Prop} {M : Mem} {x1 : Int32} (hd : 1 ≤ d)
  (h : (((M 0 0 9).toNat, 11) ∈ CL ∧ CT l E (d - 1) m_Choir_lives [(.ref (M 0 0 9).toNat, 11), (.int x1, 0)] M (fun v1 M1 =>
   ((¬ (toI v1) = 0 →
    (((M1 0 0 9).toNat, 11) ∈ CL ∧ CT l E (d - 1) m_Choir_catchCold [(.ref (M1 0 0 9).toNat, 11), (.int x1, 0)] M1 (fun v2 M2 =>
     CT l E (d - 1) m_FN_answerOr [(.ref 0, 0), (.int (toI v2), 0), (.int (iN 7), 0)] M2 (fun v3 M3 =>
      K (.int (toI v3), 0) M3)))) ∧
   ((toI v1) = 0 →
    CT l E (d - 1) m_FN_refuse [(.ref 0, 0), (.int (iN 1), 0)] M1 (fun v4 M4 =>
     K (.int (toI v4), 0) M4)))))) :
  G l E d m_FN_cold 0 [(0, (.ref 0, 0)), (1, (.int x1, 0))] [] M K := G.blk 60 _ hd ok_FN_cold rfl h
def bt_FN_well : BtT := [(0, [0, 1], true, [(0, .aload_n 0, 1, 0, 0, 0, m0),
   (1, .getfield 64, 3, 9, 10, 501, m0),
   (4, .iload_n 1, 1, 0, 0, 0, m0),
   (5, .invokevirtual 272, 3, 0, 0, 999, m_Choir_lives),
   (8, .ifCond .ne 9, 3, 17, 0, 0, m0),
   (11, .nop, 0, 0, 0, 0, m0)]),
  (11, [], false, [(11, .aload_n 0, 1, 0, 0, 0, m0),
   (12, .iconst 1, 1, 0, 0, 0, m0),
   (13, .invokevirtual 124, 3, 0, 0, 608, m_FN_refuse),
   (16, .ireturn, 1, 0, 0, 0, m0)]),
  (17, [], false, [(17, .aload_n 0, 1, 0, 0, 0, m0),
   (18, .getfield 64, 3, 9, 10, 501, m0),
   (21, .getfield 208, 3, 11, 0, 292, m0),
   (24, .iload_n 1, 1, 0, 0, 0, m0),
   (25, .invokestatic 300, 3, 0, 0, 1082, m_Choir_isIn),
   (28, .ifCond .ne 10, 3, 38, 0, 0, m0),
   (31, .nop, 0, 0, 0, 0, m0)]),
  (31, [], false, [(31, .aload_n 0, 1, 0, 0, 0, m0),
   (32, .bipush 7, 2, 0, 0, 0, m0),
   (34, .invokevirtual 124, 3, 0, 0, 608, m_FN_refuse),
   (37, .ireturn, 1, 0, 0, 0, m0)]),
  (38, [], false, [(38, .aload_n 0, 1, 0, 0, 0, m0),
   (39, .getfield 64, 3, 9, 10, 501, m0),
   (42, .dup, 1, 0, 0, 0, m0),
   (43, .getfield 208, 3, 11, 0, 292, m0),
   (46, .iconst 1, 1, 0, 0, 0, m0),
   (47, .iload_n 1, 1, 0, 0, 0, m0),
   (48, .ishl, 1, 0, 0, 0, m0),
   (49, .iconst (-1), 1, 0, 0, 0, m0),
   (50, .ixor, 1, 0, 0, 0, m0),
   (51, .iand, 1, 0, 0, 0, m0),
   (52, .putfield 208, 3, 11, 0, 292, m0),
   (55, .aload_n 0, 1, 0, 0, 0, m0),
   (56, .aload_n 0, 1, 0, 0, 0, m0),
   (57, .getfield 64, 3, 9, 10, 501, m0),
   (60, .getfield 208, 3, 11, 0, 292, m0),
   (63, .invokestatic 303, 3, 0, 0, 1083, m_Integer_bitCount),
   (66, .invokevirtual 170, 3, 0, 0, 835, m_FN_answer),
   (69, .ireturn, 1, 0, 0, 0, m0)])]
theorem ok_FN_well : okBt m_FN_well bt_FN_well = true := by decide +kernel
set_option maxRecDepth 100000 in
theorem b_FN_well_0 {l : Launch} {E : EnvT} {d : Nat} {K : AV → Mem → Prop} {M : Mem} {x1 : Int32} (hd : 1 ≤ d)
  (h : (((M 0 0 9).toNat, 11) ∈ CL ∧ CT l E (d - 1) m_Choir_lives [(.ref (M 0 0 9).toNat, 11), (.int x1, 0)] M (fun v1 M1 =>
   ((¬ (toI v1) = 0 →
    (((M1 0 0 9).toNat, 11) ∈ CL ∧ CT l E (d - 1) m_Choir_isIn [(.int (iN (M1 (M1 0 0 9).toNat 0 11)), 0), (.int x1, 0)] M1 (fun v2 M2 =>
     ((¬ (toI v2) = 0 →
      (((M2 0 0 9).toNat, 11) ∈ CL ∧ (((upd3 M2 (M2 0 0 9).toNat 0 11 (((iN (M2 (M2 0 0 9).toNat 0 11)) &&& (((iN 1) <<< (x1 &&& 31)) ^^^ (iN (-1))))).toInt) 0 0 9).toNat, 11) ∈ CL ∧ CT l E (d - 1) m_Integer_bitCount [(.int (iN ((upd3 M2 (M2 0 0 9).toNat 0 11 (((iN (M2 (M2 0 0 9).toNat 0 11)) &&& (((iN 1) <<< (x1 &&& 31)) ^^^ (iN (-1))))).toInt) ((upd3 M2 (M2 0 0 9).toNat 0 11 (((iN (M2 (M2 0 0 9).toNat 0 11)) &&& (((iN 1) <<< (x1 &&& 31)) ^^^ (iN (-1))))).toInt) 0 0 9).toNat 0 11)), 0)] (upd3 M2 (M2 0 0 9).toNat 0 11 (((iN (M2 (M2 0 0 9).toNat 0 11)) &&& (((iN 1) <<< (x1 &&& 31)) ^^^ (iN (-1))))).toInt) (fun v3 M3 =>
       CT l E (d - 1) m_FN_answer [(.ref 0, 0), (.int (toI v3), 0)] M3 (fun v4 M4 =>
        K (.int (toI v4), 0) M4)))) ∧
     ((toI v2) = 0 →
      CT l E (d - 1) m_FN_refuse [(.ref 0, 0), (.int (iN 7), 0)] M2 (fun v5 M5 =>
       K (.int (toI v5), 0) M5)))))) ∧
   ((toI v1) = 0 →
    CT l E (d - 1) m_FN_refuse [(.ref 0, 0), (.int (iN 1), 0)] M1 (fun v6 M6 =>
     K (.int (toI v6), 0) M6)))))) :
  G l E d m_FN_well 0 [(0, (.ref 0, 0)), (1, (.int x1, 0))] [] M K := G.blk 60 _ hd ok_FN_well rfl h
def bt_FN_die : BtT := [(0, [0, 1], true, [(0, .aload_n 0, 1, 0, 0, 0, m0),
   (1, .getfield 64, 3, 9, 10, 501, m0),
   (4, .iload_n 1, 1, 0, 0, 0, m0),
   (5, .invokevirtual 272, 3, 0, 0, 999, m_Choir_lives),
   (8, .ifCond .ne 9, 3, 17, 0, 0, m0),
   (11, .nop, 0, 0, 0, 0, m0)]),
  (11, [], false, [(11, .aload_n 0, 1, 0, 0, 0, m0),
   (12, .iconst 1, 1, 0, 0, 0, m0),
   (13, .invokevirtual 124, 3, 0, 0, 608, m_FN_refuse),
   (16, .ireturn, 1, 0, 0, 0, m0)]),
  (17, [], false, [(17, .aload_n 0, 1, 0, 0, 0, m0),
   (18, .getfield 64, 3, 9, 10, 501, m0),
   (21, .iload_n 1, 1, 0, 0, 0, m0),
   (22, .invokevirtual 308, 3, 0, 0, 1093, m_Choir_bury),
   (25, .pop, 1, 0, 0, 0, m0),
   (26, .aload_n 0, 1, 0, 0, 0, m0),
   (27, .aload_n 0, 1, 0, 0, 0, m0),
   (28, .getfield 64, 3, 9, 10, 501, m0),
   (31, .invokevirtual 311, 3, 0, 0, 1109, m_Choir_livingCount),
   (34, .invokevirtual 170, 3, 0, 0, 835, m_FN_answer),
   (37, .ireturn, 1, 0, 0, 0, m0)])]
theorem ok_FN_die : okBt m_FN_die bt_FN_die = true := by decide +kernel
set_option maxRecDepth 100000 in
theorem b_FN_die_0 {l : Launch} {E : EnvT} {d : Nat} {K : AV → Mem → Prop} {M : Mem} {x1 : Int32} (hd : 1 ≤ d)
  (h : (((M 0 0 9).toNat, 11) ∈ CL ∧ CT l E (d - 1) m_Choir_lives [(.ref (M 0 0 9).toNat, 11), (.int x1, 0)] M (fun v1 M1 =>
   ((¬ (toI v1) = 0 →
    (((M1 0 0 9).toNat, 11) ∈ CL ∧ CT l E (d - 1) m_Choir_bury [(.ref (M1 0 0 9).toNat, 11), (.int x1, 0)] M1 (fun v2 M2 =>
     (((M2 0 0 9).toNat, 11) ∈ CL ∧ CT l E (d - 1) m_Choir_livingCount [(.ref (M2 0 0 9).toNat, 11)] M2 (fun v3 M3 =>
      CT l E (d - 1) m_FN_answer [(.ref 0, 0), (.int (toI v3), 0)] M3 (fun v4 M4 =>
       K (.int (toI v4), 0) M4)))))) ∧
   ((toI v1) = 0 →
    CT l E (d - 1) m_FN_refuse [(.ref 0, 0), (.int (iN 1), 0)] M1 (fun v5 M5 =>
     K (.int (toI v5), 0) M5)))))) :
  G l E d m_FN_die 0 [(0, (.ref 0, 0)), (1, (.int x1, 0))] [] M K := G.blk 60 _ hd ok_FN_die rfl h
def bt_FN_earn : BtT := [(0, [0, 1, 2], true, [(0, .aload_n 0, 1, 0, 0, 0, m0),
   (1, .getfield 64, 3, 9, 10, 501, m0),
   (4, .iload_n 1, 1, 0, 0, 0, m0),
   (5, .invokevirtual 272, 3, 0, 0, 999, m_Choir_lives),
   (8, .ifCond .eq 15, 3, 23, 0, 0, m0),
   (11, .nop, 0, 0, 0, 0, m0)]),
  (11, [], false, [(11, .iload_n 2, 1, 0, 0, 0, m0),
   (12, .iconst 1, 1, 0, 0, 0, m0),
   (13, .if_icmp .lt 10, 3, 23, 0, 0, m0),
   (16, .nop, 0, 0, 0, 0, m0)]),
  (16, [], false, [(16, .iload_n 2, 1, 0, 0, 0, m0),
   (17, .sipush 999, 3, 0, 0, 0, m0),
   (20, .if_icmp .le 9, 3, 29, 0, 0, m0),
   (23, .nop, 0, 0, 0, 0, m0)]),
  (23, [], false, [(23, .aload_n 0, 1, 0, 0, 0, m0),
   (24, .iconst 1, 1, 0, 0, 0, m0),
   (25, .invokevirtual 124, 3, 0, 0, 608, m_FN_refuse),
   (28, .ireturn, 1, 0, 0, 0, m0)]),
  (29, [], false, [(29, .aload_n 0, 1, 0, 0, 0, m0),
   (30, .getfield 64, 3, 9, 10, 501, m0),
   (33, .getfield 217, 3, 1, 0, 265, m0),
   (36, .iload_n 1, 1, 0, 0, 0, m0),
   (37, .iaload, 1, 0, 0, 0, m0),
   (38, .iload_n 2, 1, 0, 0, 0, m0),
   (39, .iadd, 1, 0, 0, 0, m0),
   (40, .sipush 9999, 3, 0, 0, 0, m0),
   (43, .if_icmp .le 10, 3, 53, 0, 0, m0),
   (46, .nop, 0, 0, 0, 0, m0)]),
  (46, [], false, [(46, .aload_n 0, 1, 0, 0, 0, m0),
   (47, .bipush 7, 2, 0, 0, 0, m0),
   (49, .invokevirtual 124, 3, 0, 0, 608, m_FN_refuse),
   (52, .ireturn, 1, 0, 0, 0, m0)]),
  (53, [], false, [(53, .aload_n 0, 1, 0, 0, 0, m0),
   (54, .getfield 64, 3, 9, 10, 501, m0),
   (57, .getfield 217, 3, 1, 0, 265, m0),
   (60, .iload_n 1, 1, 0, 0, 0, m0),
   (61, .dup2, 1, 0, 0, 0, m0),
   (62, .iaload, 1, 0, 0, 0, m0),
   (63, .iload_n 2, 1, 0, 0, 0, m0),
   (64, .iadd, 1, 0, 0, 0, m0),
   (65, .iastore, 1, 0, 0, 0, m0),
   (66, .aload_n 0, 1, 0, 0, 0, m0),
   (67, .aload_n 0, 1, 0, 0, 0, m0),
   (68, .getfield 64, 3, 9, 10, 501, m0),
   (71, .getfield 217, 3, 1, 0, 265, m0),
   (74, .iload_n 1, 1, 0, 0, 0, m0),
   (75, .iaload, 1, 0, 0, 0, m0),
   (76, .invokevirtual 170, 3, 0, 0, 835, m_FN_answer),
   (79, .ireturn, 1, 0, 0, 0, m0)])]
theorem ok_FN_earn : okBt m_FN_earn bt_FN_earn = true := by decide +kernel
set_option maxRecDepth 100000 in
theorem b_FN_earn_0 {l : Launch} {E : EnvT} {d : Nat} {K : AV → Mem → Prop} {M : Mem} {x1 : Int32} {x2 : Int32} (hd : 1 ≤ d)
  (h : (((M 0 0 9).toNat, 11) ∈ CL ∧ CT l E (d - 1) m_Choir_lives [(.ref (M 0 0 9).toNat, 11), (.int x1, 0)] M (fun v1 M1 =>
   (((toI v1) = 0 →
    CT l E (d - 1) m_FN_refuse [(.ref 0, 0), (.int (iN 1), 0)] M1 (fun v2 M2 =>
     K (.int (toI v2), 0) M2)) ∧
   (¬ (toI v1) = 0 →
    ((x2 < (iN 1) →
     CT l E (d - 1) m_FN_refuse [(.ref 0, 0), (.int (iN 1), 0)] M1 (fun v3 M3 =>
      K (.int (toI v3), 0) M3)) ∧
    (¬ x2 < (iN 1) →
     ((x2 ≤ (iN 999) →
      (((M1 0 0 9).toNat, 11) ∈ CL ∧ vp_in x1 8 ∧ ((((iN (M1 (M1 0 0 9).toNat 2 (x1).toNatClampNeg)) + x2) ≤ (iN 9999) →
       (((M1 0 0 9).toNat, 11) ∈ CL ∧ vp_in x1 8 ∧ vp_in x1 8 ∧ (((upd3 M1 (M1 0 0 9).toNat 2 (x1).toNatClampNeg (((iN (M1 (M1 0 0 9).toNat 2 (x1).toNatClampNeg)) + x2)).toInt) 0 0 9).toNat, 11) ∈ CL ∧ vp_in x1 8 ∧ CT l E (d - 1) m_FN_answer [(.ref 0, 0), (.int (iN ((upd3 M1 (M1 0 0 9).toNat 2 (x1).toNatClampNeg (((iN (M1 (M1 0 0 9).toNat 2 (x1).toNatClampNeg)) + x2)).toInt) ((upd3 M1 (M1 0 0 9).toNat 2 (x1).toNatClampNeg (((iN (M1 (M1 0 0 9).toNat 2 (x1).toNatClampNeg)) + x2)).toInt) 0 0 9).toNat 2 (x1).toNatClampNeg)), 0)] (upd3 M1 (M1 0 0 9).toNat 2 (x1).toNatClampNeg (((iN (M1 (M1 0 0 9).toNat 2 (x1).toNatClampNeg)) + x2)).toInt) (fun v4 M4 =>
        K (.int (toI v4), 0) M4))) ∧
      (¬ ((iN (M1 (M1 0 0 9).toNat 2 (x1).toNatClampNeg)) + x2) ≤ (iN 9999) →
       CT l E (d - 1) m_FN_refuse [(.ref 0, 0), (.int (iN 7), 0)] M1 (fun v5 M5 =>
        K (.int (toI v5), 0) M5))))) ∧
     (¬ x2 ≤ (iN 999) →
      CT l E (d - 1) m_FN_refuse [(.ref 0, 0), (.int (iN 1), 0)] M1 (fun v6 M6 =>
       K (.int (toI v6), 0) M6)))))))))) :
  G l E d m_FN_earn 0 [(0, (.ref 0, 0)), (1, (.int x1, 0)), (2, (.int x2, 0))] [] M K := G.blk 60 _ hd ok_FN_earn rfl h
def bt_FN_name : BtT := [(0, [0, 1, 2], true, [(0, .aload_n 0, 1, 0, 0, 0, m0),
   (1, .getfield 64, 3, 9, 10, 501, m0),
   (4, .iload_n 1, 1, 0, 0, 0, m0),
   (5, .invokevirtual 272, 3, 0, 0, 999, m_Choir_lives),
   (8, .ifCond .eq 24, 3, 32, 0, 0, m0),
   (11, .nop, 0, 0, 0, 0, m0)]),
  (11, [], false, [(11, .iload_n 1, 1, 0, 0, 0, m0),
   (12, .iload_n 2, 1, 0, 0, 0, m0),
   (13, .if_icmp .eq 19, 3, 32, 0, 0, m0),
   (16, .nop, 0, 0, 0, 0, m0)]),
  (16, [], false, [(16, .iload_n 2, 1, 0, 0, 0, m0),
   (17, .iconst (-1), 1, 0, 0, 0, m0),
   (18, .if_icmp .eq 20, 3, 38, 0, 0, m0),
   (21, .nop, 0, 0, 0, 0, m0)]),
  (21, [], false, [(21, .aload_n 0, 1, 0, 0, 0, m0),
   (22, .getfield 64, 3, 9, 10, 501, m0),
   (25, .iload_n 2, 1, 0, 0, 0, m0),
   (26, .invokevirtual 272, 3, 0, 0, 999, m_Choir_lives),
   (29, .ifCond .ne 9, 3, 38, 0, 0, m0),
   (32, .nop, 0, 0, 0, 0, m0)]),
  (32, [], false, [(32, .aload_n 0, 1, 0, 0, 0, m0),
   (33, .iconst 1, 1, 0, 0, 0, m0),
   (34, .invokevirtual 105, 3, 0, 0, 569, m_FN_deny),
   (37, .ireturn, 1, 0, 0, 0, m0)]),
  (38, [], false, [(38, .aload_n 0, 1, 0, 0, 0, m0),
   (39, .getfield 64, 3, 9, 10, 501, m0),
   (42, .getfield 233, 3, 2, 0, 268, m0),
   (45, .iload_n 1, 1, 0, 0, 0, m0),
   (46, .iload_n 2, 1, 0, 0, 0, m0),
   (47, .iastore, 1, 0, 0, 0, m0),
   (48, .aload_n 0, 1, 0, 0, 0, m0),
   (49, .invokevirtual 112, 3, 0, 0, 580, m_FN_agree),
   (52, .ireturn, 1, 0, 0, 0, m0)])]
theorem ok_FN_name : okBt m_FN_name bt_FN_name = true := by decide +kernel
set_option maxRecDepth 100000 in
theorem b_FN_name_0 {l : Launch} {E : EnvT} {d : Nat} {K : AV → Mem → Prop} {M : Mem} {x1 : Int32} {x2 : Int32} (hd : 1 ≤ d)
  (h : (((M 0 0 9).toNat, 11) ∈ CL ∧ CT l E (d - 1) m_Choir_lives [(.ref (M 0 0 9).toNat, 11), (.int x1, 0)] M (fun v1 M1 =>
   (((toI v1) = 0 →
    CT l E (d - 1) m_FN_deny [(.ref 0, 0), (.int (iN 1), 0)] M1 (fun v2 M2 =>
     ((((toI v2) = 0 ∨ (toI v2) = 1)) ∧ K (.int (toI v2), 0) M2))) ∧
   (¬ (toI v1) = 0 →
    ((x1 = x2 →
     CT l E (d - 1) m_FN_deny [(.ref 0, 0), (.int (iN 1), 0)] M1 (fun v3 M3 =>
      ((((toI v3) = 0 ∨ (toI v3) = 1)) ∧ K (.int (toI v3), 0) M3))) ∧
    (¬ x1 = x2 →
     ((x2 = (iN (-1)) →
      (((M1 0 0 9).toNat, 11) ∈ CL ∧ vp_in x1 8 ∧ CT l E (d - 1) m_FN_agree [(.ref 0, 0)] (upd3 M1 (M1 0 0 9).toNat 3 (x1).toNatClampNeg (x2).toInt) (fun v4 M4 =>
       ((((toI v4) = 0 ∨ (toI v4) = 1)) ∧ K (.int (toI v4), 0) M4)))) ∧
     (¬ x2 = (iN (-1)) →
      (((M1 0 0 9).toNat, 11) ∈ CL ∧ CT l E (d - 1) m_Choir_lives [(.ref (M1 0 0 9).toNat, 11), (.int x2, 0)] M1 (fun v5 M5 =>
       ((¬ (toI v5) = 0 →
        (((M5 0 0 9).toNat, 11) ∈ CL ∧ vp_in x1 8 ∧ CT l E (d - 1) m_FN_agree [(.ref 0, 0)] (upd3 M5 (M5 0 0 9).toNat 3 (x1).toNatClampNeg (x2).toInt) (fun v6 M6 =>
         ((((toI v6) = 0 ∨ (toI v6) = 1)) ∧ K (.int (toI v6), 0) M6)))) ∧
       ((toI v5) = 0 →
        CT l E (d - 1) m_FN_deny [(.ref 0, 0), (.int (iN 1), 0)] M5 (fun v7 M7 =>
         ((((toI v7) = 0 ∨ (toI v7) = 1)) ∧ K (.int (toI v7), 0) M7))))))))))))))) :
  G l E d m_FN_name 0 [(0, (.ref 0, 0)), (1, (.int x1, 0)), (2, (.int x2, 0))] [] M K := G.blk 60 _ hd ok_FN_name rfl h
def bt_FN_hum : BtT := [(0, [0, 1], true, [(0, .iload_n 1, 1, 0, 0, 0, m0),
   (1, .ifCond .lt 9, 3, 10, 0, 0, m0),
   (4, .nop, 0, 0, 0, 0, m0)]),
  (4, [], false, [(4, .iload_n 1, 1, 0, 0, 0, m0),
   (5, .bipush 50, 2, 0, 0, 0, m0),
   (7, .if_icmp .le 9, 3, 16, 0, 0, m0),
   (10, .nop, 0, 0, 0, 0, m0)]),
  (10, [], false, [(10, .aload_n 0, 1, 0, 0, 0, m0),
   (11, .iconst 1, 1, 0, 0, 0, m0),
   (12, .invokevirtual 105, 3, 0, 0, 569, m_FN_deny),
   (15, .ireturn, 1, 0, 0, 0, m0)]),
  (16, [], false, [(16, .aload_n 0, 1, 0, 0, 0, m0),
   (17, .getfield 64, 3, 9, 10, 501, m0),
   (20, .iload_n 1, 1, 0, 0, 0, m0),
   (21, .putfield 180, 3, 13, 0, 298, m0),
   (24, .aload_n 0, 1, 0, 0, 0, m0),
   (25, .invokevirtual 112, 3, 0, 0, 580, m_FN_agree),
   (28, .ireturn, 1, 0, 0, 0, m0)])]
theorem ok_FN_hum : okBt m_FN_hum bt_FN_hum = true := by decide +kernel
set_option maxRecDepth 100000 in
theorem b_FN_hum_0 {l : Launch} {E : EnvT} {d : Nat} {K : AV → Mem → Prop} {M : Mem} {x1 : Int32} (hd : 1 ≤ d)
  (h : ((x1 < 0 →
   CT l E (d - 1) m_FN_deny [(.ref 0, 0), (.int (iN 1), 0)] M (fun v1 M1 =>
    ((((toI v1) = 0 ∨ (toI v1) = 1)) ∧ K (.int (toI v1), 0) M1))) ∧
  (¬ x1 < 0 →
   ((x1 ≤ (iN 50) →
    (((M 0 0 9).toNat, 11) ∈ CL ∧ CT l E (d - 1) m_FN_agree [(.ref 0, 0)] (upd3 M (M 0 0 9).toNat 0 13 (x1).toInt) (fun v2 M2 =>
     ((((toI v2) = 0 ∨ (toI v2) = 1)) ∧ K (.int (toI v2), 0) M2)))) ∧
   (¬ x1 ≤ (iN 50) →
    CT l E (d - 1) m_FN_deny [(.ref 0, 0), (.int (iN 1), 0)] M (fun v3 M3 =>
     ((((toI v3) = 0 ∨ (toI v3) = 1)) ∧ K (.int (toI v3), 0) M3))))))) :
  G l E d m_FN_hum 0 [(0, (.ref 0, 0)), (1, (.int x1, 0))] [] M K := G.blk 60 _ hd ok_FN_hum rfl h
