def bt_Waiting_placeOf : BtT := [(0, [0, 1, 2], true, [(0, .iconst 0, 1, 0, 0, 0, m0),
   (1, .istore_n 3, 1, 0, 0, 0, m0),
   (2, .nop, 0, 0, 0, 0, m0)]),
  (2, [0, 1, 2, 3], true, [(2, .iload_n 3, 1, 0, 0, 0, m0),
   (3, .aload_n 0, 1, 0, 0, 0, m0),
   (4, .getfield 21, 3, 3, 7, 249, m0),
   (7, .if_icmp .ge 31, 3, 38, 0, 0, m0),
   (10, .nop, 0, 0, 0, 0, m0)]),
  (10, [], false, [(10, .aload_n 0, 1, 0, 0, 0, m0),
   (11, .getfield 11, 3, 0, 7, 240, m0),
   (14, .iload_n 3, 1, 0, 0, 0, m0),
   (15, .iaload, 1, 0, 0, 0, m0),
   (16, .iload_n 1, 1, 0, 0, 0, m0),
   (17, .if_icmp .ne 15, 3, 32, 0, 0, m0),
   (20, .nop, 0, 0, 0, 0, m0)]),
  (20, [], false, [(20, .aload_n 0, 1, 0, 0, 0, m0),
   (21, .getfield 15, 3, 1, 7, 243, m0),
   (24, .iload_n 3, 1, 0, 0, 0, m0),
   (25, .iaload, 1, 0, 0, 0, m0),
   (26, .iload_n 2, 1, 0, 0, 0, m0),
   (27, .if_icmp .ne 5, 3, 32, 0, 0, m0),
   (30, .nop, 0, 0, 0, 0, m0)]),
  (30, [], false, [(30, .iload_n 3, 1, 0, 0, 0, m0),
   (31, .ireturn, 1, 0, 0, 0, m0)]),
  (32, [], false, [(32, .iinc 3 1, 3, 0, 0, 0, m0),
   (35, .goto (-33), 3, 2, 0, 0, m0)]),
  (38, [], false, [(38, .iconst (-1), 1, 0, 0, 0, m0),
   (39, .ireturn, 1, 0, 0, 0, m0)])]
theorem ok_Waiting_placeOf : okBt m_Waiting_placeOf bt_Waiting_placeOf = true := by decide +kernel
set_option maxRecDepth 100000 in
theorem b_Waiting_placeOf_0 {l : Launch} {E : EnvT} {d : Nat} {K : AV → Mem → Prop} {M : Mem} {r : Nat} {x1 : Int32} {x2 : Int32} (hd : 1 ≤ d)
  (h : G l E d m_Waiting_placeOf 2 [(0, (.ref r, 19)), (1, (.int x1, 0)), (2, (.int x2, 0)), (3, (.int (iN 0), 0))] [] M K) :
  G l E d m_Waiting_placeOf 0 [(0, (.ref r, 19)), (1, (.int x1, 0)), (2, (.int x2, 0))] [] M K := G.blk 60 _ hd ok_Waiting_placeOf rfl h
set_option maxRecDepth 100000 in
theorem b_Waiting_placeOf_2 {l : Launch} {E : EnvT} {d : Nat} {K : AV → Mem → Prop} {M : Mem} {r : Nat} {x1 : Int32} {x2 : Int32} {x3 : Int32} (hd : 1 ≤ d)
  (h : (((iN (M r 8 3)) ≤ x3 →
   K (.int (iN (-1)), 0) M) ∧
  (¬ (iN (M r 8 3)) ≤ x3 →
   (vp_in x3 8 ∧ ((¬ (iN (M r 9 (x3).toNatClampNeg)) = x1 →
    G l E d m_Waiting_placeOf 2 [(0, (.ref r, 19)), (1, (.int x1, 0)), (2, (.int x2, 0)), (3, (.int (x3 + iN 1), 0))] [] M K) ∧
   ((iN (M r 9 (x3).toNatClampNeg)) = x1 →
    (vp_in x3 8 ∧ ((¬ (iN (M r 10 (x3).toNatClampNeg)) = x2 →
     G l E d m_Waiting_placeOf 2 [(0, (.ref r, 19)), (1, (.int x1, 0)), (2, (.int x2, 0)), (3, (.int (x3 + iN 1), 0))] [] M K) ∧
    ((iN (M r 10 (x3).toNatClampNeg)) = x2 →
     K (.int x3, 0) M))))))))) :
  G l E d m_Waiting_placeOf 2 [(0, (.ref r, 19)), (1, (.int x1, 0)), (2, (.int x2, 0)), (3, (.int x3, 0))] [] M K := G.blk 60 _ hd ok_Waiting_placeOf rfl h
def bt_Waiting_raise : BtT := [(0, [0, 1, 2], true, [(0, .aload_n 0, 1, 0, 0, 0, m0),
   (1, .getfield 18, 3, 2, 7, 246, m0),
   (4, .iload_n 1, 1, 0, 0, 0, m0),
   (5, .iaload, 1, 0, 0, 0, m0),
   (6, .iload_n 2, 1, 0, 0, 0, m0),
   (7, .iadd, 1, 0, 0, 0, m0),
   (8, .sipush 999, 3, 0, 0, 0, m0),
   (11, .if_icmp .le 5, 3, 16, 0, 0, m0),
   (14, .nop, 0, 0, 0, 0, m0)]),
  (14, [], false, [(14, .iconst 0, 1, 0, 0, 0, m0),
   (15, .ireturn, 1, 0, 0, 0, m0)]),
  (16, [], false, [(16, .aload_n 0, 1, 0, 0, 0, m0),
   (17, .getfield 18, 3, 2, 7, 246, m0),
   (20, .iload_n 1, 1, 0, 0, 0, m0),
   (21, .dup2, 1, 0, 0, 0, m0),
   (22, .iaload, 1, 0, 0, 0, m0),
   (23, .iload_n 2, 1, 0, 0, 0, m0),
   (24, .iadd, 1, 0, 0, 0, m0),
   (25, .iastore, 1, 0, 0, 0, m0),
   (26, .iconst 1, 1, 0, 0, 0, m0),
   (27, .ireturn, 1, 0, 0, 0, m0)])]
theorem ok_Waiting_raise : okBt m_Waiting_raise bt_Waiting_raise = true := by decide +kernel
set_option maxRecDepth 100000 in
theorem b_Waiting_raise_0 {l : Launch} {E : EnvT} {d : Nat} {K : AV → Mem → Prop} {M : Mem} {r : Nat} {x1 : Int32} {x2 : Int32} (hd : 1 ≤ d)
  (h : (vp_in x1 8 ∧ ((((iN (M r 11 (x1).toNatClampNeg)) + x2) ≤ (iN 999) →
   (vp_in x1 8 ∧ vp_in x1 8 ∧ (((iN 1) = 0 ∨ (iN 1) = 1)) ∧ K (.int (iN 1), 0) (upd3 M r 11 (x1).toNatClampNeg (((iN (M r 11 (x1).toNatClampNeg)) + x2)).toInt))) ∧
  (¬ ((iN (M r 11 (x1).toNatClampNeg)) + x2) ≤ (iN 999) →
   ((((iN 0) = 0 ∨ (iN 0) = 1)) ∧ K (.int (iN 0), 0) M))))) :
  G l E d m_Waiting_raise 0 [(0, (.ref r, 19)), (1, (.int x1, 0)), (2, (.int x2, 0))] [] M K := G.blk 60 _ hd ok_Waiting_raise rfl h
def bt_Waiting_join : BtT := [(0, [0, 1, 2, 3], true, [(0, .aload_n 0, 1, 0, 0, 0, m0),
   (1, .getfield 21, 3, 3, 7, 249, m0),
   (4, .bipush 8, 2, 0, 0, 0, m0),
   (6, .if_icmp .lt 5, 3, 11, 0, 0, m0),
   (9, .nop, 0, 0, 0, 0, m0)]),
  (9, [], false, [(9, .iconst 0, 1, 0, 0, 0, m0),
   (10, .ireturn, 1, 0, 0, 0, m0)]),
  (11, [], false, [(11, .aload_n 0, 1, 0, 0, 0, m0),
   (12, .getfield 11, 3, 0, 7, 240, m0),
   (15, .aload_n 0, 1, 0, 0, 0, m0),
   (16, .getfield 21, 3, 3, 7, 249, m0),
   (19, .iload_n 1, 1, 0, 0, 0, m0),
   (20, .iastore, 1, 0, 0, 0, m0),
   (21, .aload_n 0, 1, 0, 0, 0, m0),
   (22, .getfield 15, 3, 1, 7, 243, m0),
   (25, .aload_n 0, 1, 0, 0, 0, m0),
   (26, .getfield 21, 3, 3, 7, 249, m0),
   (29, .iload_n 2, 1, 0, 0, 0, m0),
   (30, .iastore, 1, 0, 0, 0, m0),
   (31, .aload_n 0, 1, 0, 0, 0, m0),
   (32, .getfield 18, 3, 2, 7, 246, m0),
   (35, .aload_n 0, 1, 0, 0, 0, m0),
   (36, .getfield 21, 3, 3, 7, 249, m0),
   (39, .iload_n 3, 1, 0, 0, 0, m0),
   (40, .iastore, 1, 0, 0, 0, m0),
   (41, .aload_n 0, 1, 0, 0, 0, m0),
   (42, .dup, 1, 0, 0, 0, m0),
   (43, .getfield 21, 3, 3, 7, 249, m0),
   (46, .iconst 1, 1, 0, 0, 0, m0),
   (47, .iadd, 1, 0, 0, 0, m0),
   (48, .putfield 21, 3, 3, 7, 249, m0),
   (51, .iconst 1, 1, 0, 0, 0, m0),
   (52, .ireturn, 1, 0, 0, 0, m0)])]
theorem ok_Waiting_join : okBt m_Waiting_join bt_Waiting_join = true := by decide +kernel
set_option maxRecDepth 100000 in
theorem b_Waiting_join_0 {l : Launch} {E : EnvT} {d : Nat} {K : AV → Mem → Prop} {M : Mem} {r : Nat} {x1 : Int32} {x2 : Int32} {x3 : Int32} (hd : 1 ≤ d)
  (h : (((iN (M r 8 3)) < (iN 8) →
   (vp_in (iN (M r 8 3)) 8 ∧ vp_in (iN ((upd3 M r 9 ((iN (M r 8 3))).toNatClampNeg (x1).toInt) r 8 3)) 8 ∧ vp_in (iN ((upd3 (upd3 M r 9 ((iN (M r 8 3))).toNatClampNeg (x1).toInt) r 10 ((iN ((upd3 M r 9 ((iN (M r 8 3))).toNatClampNeg (x1).toInt) r 8 3))).toNatClampNeg (x2).toInt) r 8 3)) 8 ∧ (((iN 1) = 0 ∨ (iN 1) = 1)) ∧ K (.int (iN 1), 0) (upd3 (upd3 (upd3 (upd3 M r 9 ((iN (M r 8 3))).toNatClampNeg (x1).toInt) r 10 ((iN ((upd3 M r 9 ((iN (M r 8 3))).toNatClampNeg (x1).toInt) r 8 3))).toNatClampNeg (x2).toInt) r 11 ((iN ((upd3 (upd3 M r 9 ((iN (M r 8 3))).toNatClampNeg (x1).toInt) r 10 ((iN ((upd3 M r 9 ((iN (M r 8 3))).toNatClampNeg (x1).toInt) r 8 3))).toNatClampNeg (x2).toInt) r 8 3))).toNatClampNeg (x3).toInt) r 8 3 (((iN ((upd3 (upd3 (upd3 M r 9 ((iN (M r 8 3))).toNatClampNeg (x1).toInt) r 10 ((iN ((upd3 M r 9 ((iN (M r 8 3))).toNatClampNeg (x1).toInt) r 8 3))).toNatClampNeg (x2).toInt) r 11 ((iN ((upd3 (upd3 M r 9 ((iN (M r 8 3))).toNatClampNeg (x1).toInt) r 10 ((iN ((upd3 M r 9 ((iN (M r 8 3))).toNatClampNeg (x1).toInt) r 8 3))).toNatClampNeg (x2).toInt) r 8 3))).toNatClampNeg (x3).toInt) r 8 3)) + (iN 1))).toInt))) ∧
  (¬ (iN (M r 8 3)) < (iN 8) →
   ((((iN 0) = 0 ∨ (iN 0) = 1)) ∧ K (.int (iN 0), 0) M)))) :
  G l E d m_Waiting_join 0 [(0, (.ref r, 19)), (1, (.int x1, 0)), (2, (.int x2, 0)), (3, (.int x3, 0))] [] M K := G.blk 60 _ hd ok_Waiting_join rfl h
def bt_Waiting_leave : BtT := [(0, [0, 1], true, [(0, .iload_n 1, 1, 0, 0, 0, m0),
   (1, .istore_n 2, 1, 0, 0, 0, m0),
   (2, .nop, 0, 0, 0, 0, m0)]),
  (2, [0, 2], true, [(2, .iload_n 2, 1, 0, 0, 0, m0),
   (3, .iconst 1, 1, 0, 0, 0, m0),
   (4, .iadd, 1, 0, 0, 0, m0),
   (5, .aload_n 0, 1, 0, 0, 0, m0),
   (6, .getfield 21, 3, 3, 7, 249, m0),
   (9, .if_icmp .ge 51, 3, 60, 0, 0, m0),
   (12, .nop, 0, 0, 0, 0, m0)]),
  (12, [], false, [(12, .aload_n 0, 1, 0, 0, 0, m0),
   (13, .getfield 11, 3, 0, 7, 240, m0),
   (16, .iload_n 2, 1, 0, 0, 0, m0),
   (17, .aload_n 0, 1, 0, 0, 0, m0),
   (18, .getfield 11, 3, 0, 7, 240, m0),
   (21, .iload_n 2, 1, 0, 0, 0, m0),
   (22, .iconst 1, 1, 0, 0, 0, m0),
   (23, .iadd, 1, 0, 0, 0, m0),
   (24, .iaload, 1, 0, 0, 0, m0),
   (25, .iastore, 1, 0, 0, 0, m0),
   (26, .aload_n 0, 1, 0, 0, 0, m0),
   (27, .getfield 15, 3, 1, 7, 243, m0),
   (30, .iload_n 2, 1, 0, 0, 0, m0),
   (31, .aload_n 0, 1, 0, 0, 0, m0),
   (32, .getfield 15, 3, 1, 7, 243, m0),
   (35, .iload_n 2, 1, 0, 0, 0, m0),
   (36, .iconst 1, 1, 0, 0, 0, m0),
   (37, .iadd, 1, 0, 0, 0, m0),
   (38, .iaload, 1, 0, 0, 0, m0),
   (39, .iastore, 1, 0, 0, 0, m0),
   (40, .aload_n 0, 1, 0, 0, 0, m0),
   (41, .getfield 18, 3, 2, 7, 246, m0),
   (44, .iload_n 2, 1, 0, 0, 0, m0),
   (45, .aload_n 0, 1, 0, 0, 0, m0),
   (46, .getfield 18, 3, 2, 7, 246, m0),
   (49, .iload_n 2, 1, 0, 0, 0, m0),
   (50, .iconst 1, 1, 0, 0, 0, m0),
   (51, .iadd, 1, 0, 0, 0, m0),
   (52, .iaload, 1, 0, 0, 0, m0),
   (53, .iastore, 1, 0, 0, 0, m0),
   (54, .iinc 2 1, 3, 0, 0, 0, m0),
   (57, .goto (-55), 3, 2, 0, 0, m0)]),
  (60, [], false, [(60, .aload_n 0, 1, 0, 0, 0, m0),
   (61, .dup, 1, 0, 0, 0, m0),
   (62, .getfield 21, 3, 3, 7, 249, m0),
   (65, .iconst 1, 1, 0, 0, 0, m0),
   (66, .isub, 1, 0, 0, 0, m0),
   (67, .putfield 21, 3, 3, 7, 249, m0),
   (70, .return_, 1, 0, 0, 0, m0)])]
theorem ok_Waiting_leave : okBt m_Waiting_leave bt_Waiting_leave = true := by decide +kernel
set_option maxRecDepth 100000 in
theorem b_Waiting_leave_0 {l : Launch} {E : EnvT} {d : Nat} {K : AV → Mem → Prop} {M : Mem} {r : Nat} {x1 : Int32} (hd : 1 ≤ d)
  (h : G l E d m_Waiting_leave 2 [(0, (.ref r, 19)), (2, (.int x1, 0))] [] M K) :
  G l E d m_Waiting_leave 0 [(0, (.ref r, 19)), (1, (.int x1, 0))] [] M K := G.blk 60 _ hd ok_Waiting_leave rfl h
set_option maxRecDepth 100000 in
theorem b_Waiting_leave_2 {l : Launch} {E : EnvT} {d : Nat} {K : AV → Mem → Prop} {M : Mem} {r : Nat} {x2 : Int32} (hd : 1 ≤ d)
  (h : (((iN (M r 8 3)) ≤ (x2 + (iN 1)) →
   K (.null, 0) (upd3 M r 8 3 (((iN (M r 8 3)) - (iN 1))).toInt)) ∧
  (¬ (iN (M r 8 3)) ≤ (x2 + (iN 1)) →
   (vp_in (x2 + (iN 1)) 8 ∧ vp_in x2 8 ∧ vp_in (x2 + (iN 1)) 8 ∧ vp_in x2 8 ∧ vp_in (x2 + (iN 1)) 8 ∧ vp_in x2 8 ∧ G l E d m_Waiting_leave 2 [(0, (.ref r, 19)), (2, (.int (x2 + iN 1), 0))] [] (upd3 (upd3 (upd3 M r 9 (x2).toNatClampNeg ((iN (M r 9 ((x2 + (iN 1))).toNatClampNeg))).toInt) r 10 (x2).toNatClampNeg ((iN ((upd3 M r 9 (x2).toNatClampNeg ((iN (M r 9 ((x2 + (iN 1))).toNatClampNeg))).toInt) r 10 ((x2 + (iN 1))).toNatClampNeg))).toInt) r 11 (x2).toNatClampNeg ((iN ((upd3 (upd3 M r 9 (x2).toNatClampNeg ((iN (M r 9 ((x2 + (iN 1))).toNatClampNeg))).toInt) r 10 (x2).toNatClampNeg ((iN ((upd3 M r 9 (x2).toNatClampNeg ((iN (M r 9 ((x2 + (iN 1))).toNatClampNeg))).toInt) r 10 ((x2 + (iN 1))).toNatClampNeg))).toInt) r 11 ((x2 + (iN 1))).toNatClampNeg))).toInt) K)))) :
  G l E d m_Waiting_leave 2 [(0, (.ref r, 19)), (2, (.int x2, 0))] [] M K := G.blk 60 _ hd ok_Waiting_leave rfl h
def bt_Waiting_countFor : BtT := [(0, [0, 1], true, [(0, .iconst 0, 1, 0, 0, 0, m0),
   (1, .istore_n 2, 1, 0, 0, 0, m0),
   (2, .iconst 0, 1, 0, 0, 0, m0),
   (3, .istore_n 3, 1, 0, 0, 0, m0),
   (4, .nop, 0, 0, 0, 0, m0)]),
  (4, [0, 1, 2, 3], true, [(4, .iload_n 3, 1, 0, 0, 0, m0),
   (5, .aload_n 0, 1, 0, 0, 0, m0),
   (6, .getfield 21, 3, 3, 7, 249, m0),
   (9, .if_icmp .ge 22, 3, 31, 0, 0, m0),
   (12, .nop, 0, 0, 0, 0, m0)]),
  (12, [], false, [(12, .aload_n 0, 1, 0, 0, 0, m0),
   (13, .getfield 15, 3, 1, 7, 243, m0),
   (16, .iload_n 3, 1, 0, 0, 0, m0),
   (17, .iaload, 1, 0, 0, 0, m0),
   (18, .iload_n 1, 1, 0, 0, 0, m0),
   (19, .if_icmp .ne 6, 3, 25, 0, 0, m0),
   (22, .nop, 0, 0, 0, 0, m0)]),
  (22, [], false, [(22, .iinc 2 1, 3, 0, 0, 0, m0),
   (25, .nop, 0, 0, 0, 0, m0)]),
  (25, [], false, [(25, .iinc 3 1, 3, 0, 0, 0, m0),
   (28, .goto (-24), 3, 4, 0, 0, m0)]),
  (31, [], false, [(31, .iload_n 2, 1, 0, 0, 0, m0),
   (32, .ireturn, 1, 0, 0, 0, m0)])]
theorem ok_Waiting_countFor : okBt m_Waiting_countFor bt_Waiting_countFor = true := by decide +kernel
set_option maxRecDepth 100000 in
theorem b_Waiting_countFor_0 {l : Launch} {E : EnvT} {d : Nat} {K : AV → Mem → Prop} {M : Mem} {r : Nat} {x1 : Int32} (hd : 1 ≤ d)
  (h : G l E d m_Waiting_countFor 4 [(0, (.ref r, 19)), (1, (.int x1, 0)), (2, (.int (iN 0), 0)), (3, (.int (iN 0), 0))] [] M K) :
  G l E d m_Waiting_countFor 0 [(0, (.ref r, 19)), (1, (.int x1, 0))] [] M K := G.blk 60 _ hd ok_Waiting_countFor rfl h
set_option maxRecDepth 100000 in
theorem b_Waiting_countFor_4 {l : Launch} {E : EnvT} {d : Nat} {K : AV → Mem → Prop} {M : Mem} {r : Nat} {x1 : Int32} {x2 : Int32} {x3 : Int32} (hd : 1 ≤ d)
  (h : (((iN (M r 8 3)) ≤ x3 →
   K (.int x2, 0) M) ∧
  (¬ (iN (M r 8 3)) ≤ x3 →
   (vp_in x3 8 ∧ ((¬ (iN (M r 10 (x3).toNatClampNeg)) = x1 →
    G l E d m_Waiting_countFor 4 [(0, (.ref r, 19)), (1, (.int x1, 0)), (2, (.int x2, 0)), (3, (.int (x3 + iN 1), 0))] [] M K) ∧
   ((iN (M r 10 (x3).toNatClampNeg)) = x1 →
    G l E d m_Waiting_countFor 4 [(0, (.ref r, 19)), (1, (.int x1, 0)), (2, (.int (x2 + iN 1), 0)), (3, (.int (x3 + iN 1), 0))] [] M K)))))) :
  G l E d m_Waiting_countFor 4 [(0, (.ref r, 19)), (1, (.int x1, 0)), (2, (.int x2, 0)), (3, (.int x3, 0))] [] M K := G.blk 60 _ hd ok_Waiting_countFor rfl h
def bt_Waiting_takeFrom : BtT := [(0, [0, 1], true, [(0, .aload_n 1, 1, 0, 0, 0, m0),
   (1, .getfield 11, 3, 0, 7, 240, m0),
   (4, .iconst 0, 1, 0, 0, 0, m0),
   (5, .aload_n 0, 1, 0, 0, 0, m0),
   (6, .getfield 11, 3, 0, 7, 240, m0),
   (9, .iconst 0, 1, 0, 0, 0, m0),
   (10, .bipush 8, 2, 0, 0, 0, m0),
   (12, .invokestatic 25, 3, 0, 0, 1414, m_copy),
   (15, .aload_n 1, 1, 0, 0, 0, m0),
   (16, .getfield 15, 3, 1, 7, 243, m0),
   (19, .iconst 0, 1, 0, 0, 0, m0),
   (20, .aload_n 0, 1, 0, 0, 0, m0),
   (21, .getfield 15, 3, 1, 7, 243, m0),
   (24, .iconst 0, 1, 0, 0, 0, m0),
   (25, .bipush 8, 2, 0, 0, 0, m0),
   (27, .invokestatic 25, 3, 0, 0, 1414, m_copy),
   (30, .aload_n 1, 1, 0, 0, 0, m0),
   (31, .getfield 18, 3, 2, 7, 246, m0),
   (34, .iconst 0, 1, 0, 0, 0, m0),
   (35, .aload_n 0, 1, 0, 0, 0, m0),
   (36, .getfield 18, 3, 2, 7, 246, m0),
   (39, .iconst 0, 1, 0, 0, 0, m0),
   (40, .bipush 8, 2, 0, 0, 0, m0),
   (42, .invokestatic 25, 3, 0, 0, 1414, m_copy),
   (45, .aload_n 0, 1, 0, 0, 0, m0),
   (46, .aload_n 1, 1, 0, 0, 0, m0),
   (47, .getfield 21, 3, 3, 7, 249, m0),
   (50, .putfield 21, 3, 3, 7, 249, m0),
   (53, .return_, 1, 0, 0, 0, m0)])]
theorem ok_Waiting_takeFrom : okBt m_Waiting_takeFrom bt_Waiting_takeFrom = true := by decide +kernel
set_option maxRecDepth 100000 in
theorem b_Waiting_takeFrom_0 {l : Launch} {E : EnvT} {d : Nat} {K : AV → Mem → Prop} {M : Mem} {r r2 : Nat}  (hd : 1 ≤ d)
  (h : (¬ (iN 0) < 0 ∧ ¬ (iN 0) < 0 ∧ ¬ (iN 8) < 0 ∧ ((iN 0)).toNatClampNeg + ((iN 8)).toNatClampNeg ≤ 8 ∧ ((iN 0)).toNatClampNeg + ((iN 8)).toNatClampNeg ≤ 8 ∧ ¬ (iN 0) < 0 ∧ ¬ (iN 0) < 0 ∧ ¬ (iN 8) < 0 ∧ ((iN 0)).toNatClampNeg + ((iN 8)).toNatClampNeg ≤ 8 ∧ ((iN 0)).toNatClampNeg + ((iN 8)).toNatClampNeg ≤ 8 ∧ ¬ (iN 0) < 0 ∧ ¬ (iN 0) < 0 ∧ ¬ (iN 8) < 0 ∧ ((iN 0)).toNatClampNeg + ((iN 8)).toNatClampNeg ≤ 8 ∧ ((iN 0)).toNatClampNeg + ((iN 8)).toNatClampNeg ≤ 8 ∧ K (.null, 0) (upd3 (cpyM (cpyM (cpyM M r2 9 r 9 ((iN 0)).toNatClampNeg ((iN 0)).toNatClampNeg ((iN 8)).toNatClampNeg) r2 10 r 10 ((iN 0)).toNatClampNeg ((iN 0)).toNatClampNeg ((iN 8)).toNatClampNeg) r2 11 r 11 ((iN 0)).toNatClampNeg ((iN 0)).toNatClampNeg ((iN 8)).toNatClampNeg) r 8 3 ((iN ((cpyM (cpyM (cpyM M r2 9 r 9 ((iN 0)).toNatClampNeg ((iN 0)).toNatClampNeg ((iN 8)).toNatClampNeg) r2 10 r 10 ((iN 0)).toNatClampNeg ((iN 0)).toNatClampNeg ((iN 8)).toNatClampNeg) r2 11 r 11 ((iN 0)).toNatClampNeg ((iN 0)).toNatClampNeg ((iN 8)).toNatClampNeg) r2 8 3))).toInt))) :
  G l E d m_Waiting_takeFrom 0 [(0, (.ref r, 19)), (1, (.ref r2, 19))] [] M K := G.blk 60 _ hd ok_Waiting_takeFrom rfl h
