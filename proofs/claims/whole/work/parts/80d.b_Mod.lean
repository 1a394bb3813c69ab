def bt_Mod_roundAt : BtT := [(0, [0, 1], true, [(0, .iload_n 1, 1, 0, 0, 0, m0),
   (1, .ifCond .ge 9, 3, 10, 0, 0, m0),
   (4, .nop, 0, 0, 0, 0, m0)]),
  (4, [], false, [(4, .aload_n 0, 1, 0, 0, 0, m0),
   (5, .iconst 1, 1, 0, 0, 0, m0),
   (6, .invokevirtual 72, 3, 0, 0, 1629, m_Mod_refuse),
   (9, .ireturn, 1, 0, 0, 0, m0)]),
  (10, [], false, [(10, .aload_n 0, 1, 0, 0, 0, m0),
   (11, .invokevirtual 391, 3, 0, 0, 2018, m_Mod_roundOf),
   (14, .istore_n 2, 1, 0, 0, 0, m0),
   (15, .iload_n 2, 1, 0, 0, 0, m0),
   (16, .iconst (-1), 1, 0, 0, 0, m0),
   (17, .if_icmp .eq 8, 3, 25, 0, 0, m0),
   (20, .nop, 0, 0, 0, 0, m0)]),
  (20, [], false, [(20, .iload_n 1, 1, 0, 0, 0, m0),
   (21, .iload_n 2, 1, 0, 0, 0, m0),
   (22, .if_icmp .lt 12, 3, 34, 0, 0, m0),
   (25, .nop, 0, 0, 0, 0, m0)]),
  (25, [], false, [(25, .aload_n 0, 1, 0, 0, 0, m0),
   (26, .bipush 6, 2, 0, 0, 0, m0),
   (28, .invokevirtual 72, 3, 0, 0, 1629, m_Mod_refuse),
   (31, .goto 13, 3, 44, 0, 0, m0)]),
  (34, [], false, [(34, .aload_n 0, 1, 0, 0, 0, m0),
   (35, .aload_n 0, 1, 0, 0, 0, m0),
   (36, .getfield 50, 3, 26, 11, 1473, m0),
   (39, .iload_n 1, 1, 0, 0, 0, m0),
   (40, .iaload, 1, 0, 0, 0, m0),
   (41, .invokevirtual 76, 3, 0, 0, 1740, m_Mod_gives),
   (44, .nop, 0, 0, 0, 0, m0)]),
  (44, [], false, [(44, .ireturn, 1, 0, 0, 0, m0)])]
theorem ok_Mod_roundAt : okBt m_Mod_roundAt bt_Mod_roundAt = true := by decide +kernel
set_option maxRecDepth 100000 in
theorem b_Mod_roundAt_0 {l : Launch} {E : EnvT} {d : Nat} {K : AV → Mem → Prop} {M : Mem} {x1 : Int32} (hd : 1 ≤ d)
  (h : ((0 ≤ x1 →
   CT l E (d - 1) m_Mod_roundOf [(.ref 24, 41)] M (fun v1 M1 =>
    (((toI v1) = (iN (-1)) →
     CT l E (d - 1) m_Mod_refuse [(.ref 24, 41), (.int (iN 6), 0)] M1 (fun v2 M2 =>
      K (.int (toI v2), 0) M2)) ∧
    (¬ (toI v1) = (iN (-1)) →
     ((x1 < (toI v1) →
      (vp_in x1 8 ∧ CT l E (d - 1) m_Mod_gives [(.ref 24, 41), (.int (iN (M1 24 10 (x1).toNatClampNeg)), 0)] M1 (fun v3 M3 =>
       K (.int (toI v3), 0) M3))) ∧
     (¬ x1 < (toI v1) →
      CT l E (d - 1) m_Mod_refuse [(.ref 24, 41), (.int (iN 6), 0)] M1 (fun v4 M4 =>
       K (.int (toI v4), 0) M4))))))) ∧
  (¬ 0 ≤ x1 →
   CT l E (d - 1) m_Mod_refuse [(.ref 24, 41), (.int (iN 1), 0)] M (fun v5 M5 =>
    K (.int (toI v5), 0) M5)))) :
  G l E d m_Mod_roundAt 0 [(0, (.ref 24, 41)), (1, (.int x1, 0))] [] M K := G.blk 60 _ hd ok_Mod_roundAt rfl h
def bt_Mod_clear : BtT := [(0, [0], true, [(0, .aload_n 0, 1, 0, 0, 0, m0),
   (1, .invokevirtual 391, 3, 0, 0, 2018, m_Mod_roundOf),
   (4, .istore_n 1, 1, 0, 0, 0, m0),
   (5, .iload_n 1, 1, 0, 0, 0, m0),
   (6, .iconst (-1), 1, 0, 0, 0, m0),
   (7, .if_icmp .ne 10, 3, 17, 0, 0, m0),
   (10, .nop, 0, 0, 0, 0, m0)]),
  (10, [], false, [(10, .aload_n 0, 1, 0, 0, 0, m0),
   (11, .bipush 7, 2, 0, 0, 0, m0),
   (13, .invokevirtual 72, 3, 0, 0, 1629, m_Mod_refuse),
   (16, .ireturn, 1, 0, 0, 0, m0)]),
  (17, [], false, [(17, .sipush 999, 3, 0, 0, 0, m0),
   (20, .istore_n 2, 1, 0, 0, 0, m0),
   (21, .iconst 0, 1, 0, 0, 0, m0),
   (22, .istore_n 3, 1, 0, 0, 0, m0),
   (23, .nop, 0, 0, 0, 0, m0)]),
  (23, [0, 1, 2, 3], true, [(23, .iload_n 3, 1, 0, 0, 0, m0),
   (24, .iload_n 1, 1, 0, 0, 0, m0),
   (25, .if_icmp .ge 34, 3, 59, 0, 0, m0),
   (28, .nop, 0, 0, 0, 0, m0)]),
  (28, [], false, [(28, .iload_n 2, 1, 0, 0, 0, m0),
   (29, .aload_n 0, 1, 0, 0, 0, m0),
   (30, .aload_n 0, 1, 0, 0, 0, m0),
   (31, .getfield 50, 3, 26, 11, 1473, m0),
   (34, .iload_n 3, 1, 0, 0, 0, m0),
   (35, .iaload, 1, 0, 0, 0, m0),
   (36, .aload_n 0, 1, 0, 0, 0, m0),
   (37, .getfield 50, 3, 26, 11, 1473, m0),
   (40, .iload_n 3, 1, 0, 0, 0, m0),
   (41, .iconst 1, 1, 0, 0, 0, m0),
   (42, .iadd, 1, 0, 0, 0, m0),
   (43, .iload_n 1, 1, 0, 0, 0, m0),
   (44, .irem, 1, 0, 0, 0, m0),
   (45, .iaload, 1, 0, 0, 0, m0),
   (46, .invokevirtual 283, 3, 0, 0, 1784, m_Mod_noted),
   (49, .invokestatic 127, 3, 0, 0, 1628, m_Math_min),
   (52, .istore_n 2, 1, 0, 0, 0, m0),
   (53, .iinc 3 1, 3, 0, 0, 0, m0),
   (56, .goto (-33), 3, 23, 0, 0, m0)]),
  (59, [], false, [(59, .iconst 0, 1, 0, 0, 0, m0),
   (60, .istore_n 3, 1, 0, 0, 0, m0),
   (61, .nop, 0, 0, 0, 0, m0)]),
  (61, [0, 1, 2, 3], true, [(61, .iload_n 3, 1, 0, 0, 0, m0),
   (62, .iload_n 1, 1, 0, 0, 0, m0),
   (63, .if_icmp .ge 30, 3, 93, 0, 0, m0),
   (66, .nop, 0, 0, 0, 0, m0)]),
  (66, [], false, [(66, .aload_n 0, 1, 0, 0, 0, m0),
   (67, .aload_n 0, 1, 0, 0, 0, m0),
   (68, .getfield 50, 3, 26, 11, 1473, m0),
   (71, .iload_n 3, 1, 0, 0, 0, m0),
   (72, .iaload, 1, 0, 0, 0, m0),
   (73, .aload_n 0, 1, 0, 0, 0, m0),
   (74, .getfield 50, 3, 26, 11, 1473, m0),
   (77, .iload_n 3, 1, 0, 0, 0, m0),
   (78, .iconst 1, 1, 0, 0, 0, m0),
   (79, .iadd, 1, 0, 0, 0, m0),
   (80, .iload_n 1, 1, 0, 0, 0, m0),
   (81, .irem, 1, 0, 0, 0, m0),
   (82, .iaload, 1, 0, 0, 0, m0),
   (83, .iload_n 2, 1, 0, 0, 0, m0),
   (84, .invokevirtual 326, 3, 0, 0, 1877, m_Mod_goesOff),
   (87, .iinc 3 1, 3, 0, 0, 0, m0),
   (90, .goto (-29), 3, 61, 0, 0, m0)]),
  (93, [], false, [(93, .aload_n 0, 1, 0, 0, 0, m0),
   (94, .invokevirtual 332, 3, 0, 0, 1881, m_Mod_fills),
   (97, .aload_n 0, 1, 0, 0, 0, m0),
   (98, .iload_n 2, 1, 0, 0, 0, m0),
   (99, .invokevirtual 76, 3, 0, 0, 1740, m_Mod_gives),
   (102, .ireturn, 1, 0, 0, 0, m0)])]
theorem ok_Mod_clear : okBt m_Mod_clear bt_Mod_clear = true := by decide +kernel
set_option maxRecDepth 100000 in
theorem b_Mod_clear_0 {l : Launch} {E : EnvT} {d : Nat} {K : AV → Mem → Prop} {M : Mem}  (hd : 1 ≤ d)
  (h : CT l E (d - 1) m_Mod_roundOf [(.ref 24, 41)] M (fun v1 M1 =>
   ((¬ (toI v1) = (iN (-1)) →
    G l E d m_Mod_clear 23 [(0, (.ref 24, 41)), (1, (.int (toI v1), 0)), (2, (.int (iN 999), 0)), (3, (.int (iN 0), 0))] [] M1 K) ∧
   ((toI v1) = (iN (-1)) →
    CT l E (d - 1) m_Mod_refuse [(.ref 24, 41), (.int (iN 7), 0)] M1 (fun v2 M2 =>
     K (.int (toI v2), 0) M2))))) :
  G l E d m_Mod_clear 0 [(0, (.ref 24, 41))] [] M K := G.blk 60 _ hd ok_Mod_clear rfl h
set_option maxRecDepth 100000 in
theorem b_Mod_clear_23 {l : Launch} {E : EnvT} {d : Nat} {K : AV → Mem → Prop} {M : Mem} {x1 : Int32} {x2 : Int32} {x3 : Int32} (hd : 1 ≤ d)
  (h : ((x1 ≤ x3 →
   G l E d m_Mod_clear 61 [(0, (.ref 24, 41)), (1, (.int x1, 0)), (2, (.int x2, 0)), (3, (.int (iN 0), 0))] [] M K) ∧
  (¬ x1 ≤ x3 →
   (vp_in x3 8 ∧ ¬ x1 = 0 ∧ vp_in (iR (x3 + (iN 1)) x1) 8 ∧ CT l E (d - 1) m_Mod_noted [(.ref 24, 41), (.int (iN (M 24 10 (x3).toNatClampNeg)), 0), (.int (iN (M 24 10 ((iR (x3 + (iN 1)) x1)).toNatClampNeg)), 0)] M (fun v1 M1 =>
    CT l E (d - 1) m_Math_min [(.int x2, 0), (.int (toI v1), 0)] M1 (fun v2 M2 =>
     G l E d m_Mod_clear 23 [(0, (.ref 24, 41)), (1, (.int x1, 0)), (2, (.int (toI v2), 0)), (3, (.int (x3 + iN 1), 0))] [] M2 K)))))) :
  G l E d m_Mod_clear 23 [(0, (.ref 24, 41)), (1, (.int x1, 0)), (2, (.int x2, 0)), (3, (.int x3, 0))] [] M K := G.blk 60 _ hd ok_Mod_clear rfl h
set_option maxRecDepth 100000 in
theorem b_Mod_clear_61 {l : Launch} {E : EnvT} {d : Nat} {K : AV → Mem → Prop} {M : Mem} {x1 : Int32} {x2 : Int32} {x3 : Int32} (hd : 1 ≤ d)
  (h : ((x1 ≤ x3 →
   CT l E (d - 1) m_Mod_fills [(.ref 24, 41)] M (fun v1 M1 =>
    CT l E (d - 1) m_Mod_gives [(.ref 24, 41), (.int x2, 0)] M1 (fun v2 M2 =>
     K (.int (toI v2), 0) M2))) ∧
  (¬ x1 ≤ x3 →
   (vp_in x3 8 ∧ ¬ x1 = 0 ∧ vp_in (iR (x3 + (iN 1)) x1) 8 ∧ CT l E (d - 1) m_Mod_goesOff [(.ref 24, 41), (.int (iN (M 24 10 (x3).toNatClampNeg)), 0), (.int (iN (M 24 10 ((iR (x3 + (iN 1)) x1)).toNatClampNeg)), 0), (.int x2, 0)] M (fun v3 M3 =>
    G l E d m_Mod_clear 61 [(0, (.ref 24, 41)), (1, (.int x1, 0)), (2, (.int x2, 0)), (3, (.int (x3 + iN 1), 0))] [] M3 K))))) :
  G l E d m_Mod_clear 61 [(0, (.ref 24, 41)), (1, (.int x1, 0)), (2, (.int x2, 0)), (3, (.int x3, 0))] [] M K := G.blk 60 _ hd ok_Mod_clear rfl h
def bt_Mod_askOf : BtT := [(0, [0], true, [(0, .iconst (-1), 1, 0, 0, 0, m0),
   (1, .istore_n 1, 1, 0, 0, 0, m0),
   (2, .iconst 0, 1, 0, 0, 0, m0),
   (3, .istore_n 2, 1, 0, 0, 0, m0),
   (4, .nop, 0, 0, 0, 0, m0)]),
  (4, [0, 1, 2], true, [(4, .iload_n 2, 1, 0, 0, 0, m0),
   (5, .iconst 1, 1, 0, 0, 0, m0),
   (6, .aload_n 0, 1, 0, 0, 0, m0),
   (7, .getfield 7, 3, 0, 11, 1447, m0),
   (10, .iconst 0, 1, 0, 0, 0, m0),
   (11, .iaload, 1, 0, 0, 0, m0),
   (12, .ishl, 1, 0, 0, 0, m0),
   (13, .if_icmp .ge 129, 3, 142, 0, 0, m0),
   (16, .nop, 0, 0, 0, 0, m0)]),
  (16, [], false, [(16, .iload_n 1, 1, 0, 0, 0, m0),
   (17, .iconst (-1), 1, 0, 0, 0, m0),
   (18, .if_icmp .eq 14, 3, 32, 0, 0, m0),
   (21, .nop, 0, 0, 0, 0, m0)]),
  (21, [], false, [(21, .iload_n 2, 1, 0, 0, 0, m0),
   (22, .invokestatic 295, 3, 0, 0, 1922, m_Mod_bits),
   (25, .iload_n 1, 1, 0, 0, 0, m0),
   (26, .invokestatic 295, 3, 0, 0, 1922, m_Mod_bits),
   (29, .if_icmp .ge 7, 3, 36, 0, 0, m0),
   (32, .nop, 0, 0, 0, 0, m0)]),
  (32, [], false, [(32, .iconst 1, 1, 0, 0, 0, m0),
   (33, .goto 4, 3, 37, 0, 0, m0)]),
  (36, [], false, [(36, .iconst 0, 1, 0, 0, 0, m0),
   (37, .nop, 0, 0, 0, 0, m0)]),
  (37, [], false, [(37, .istore_n 3, 1, 0, 0, 0, m0),
   (38, .iconst 0, 1, 0, 0, 0, m0),
   (39, .istore 4, 2, 0, 0, 0, m0),
   (41, .nop, 0, 0, 0, 0, m0)]),
  (41, [0, 1, 2, 3, 4], true, [(41, .iload 4, 2, 0, 0, 0, m0),
   (43, .aload_n 0, 1, 0, 0, 0, m0),
   (44, .getfield 7, 3, 0, 11, 1447, m0),
   (47, .iconst 0, 1, 0, 0, 0, m0),
   (48, .iaload, 1, 0, 0, 0, m0),
   (49, .if_icmp .ge 81, 3, 130, 0, 0, m0),
   (52, .nop, 0, 0, 0, 0, m0)]),
  (52, [], false, [(52, .iload_n 3, 1, 0, 0, 0, m0),
   (53, .ifCond .eq 77, 3, 130, 0, 0, m0),
   (56, .nop, 0, 0, 0, 0, m0)]),
  (56, [], false, [(56, .iconst 0, 1, 0, 0, 0, m0),
   (57, .istore 5, 2, 0, 0, 0, m0),
   (59, .nop, 0, 0, 0, 0, m0)]),
  (59, [0, 1, 2, 3, 4, 5], true, [(59, .iload 5, 2, 0, 0, 0, m0),
   (61, .aload_n 0, 1, 0, 0, 0, m0),
   (62, .getfield 7, 3, 0, 11, 1447, m0),
   (65, .iconst 0, 1, 0, 0, 0, m0),
   (66, .iaload, 1, 0, 0, 0, m0),
   (67, .if_icmp .ge 57, 3, 124, 0, 0, m0),
   (70, .nop, 0, 0, 0, 0, m0)]),
  (70, [], false, [(70, .iload_n 3, 1, 0, 0, 0, m0),
   (71, .ifCond .eq 45, 3, 116, 0, 0, m0),
   (74, .nop, 0, 0, 0, 0, m0)]),
  (74, [], false, [(74, .iload 4, 2, 0, 0, 0, m0),
   (76, .iload 5, 2, 0, 0, 0, m0),
   (78, .if_icmp .eq 34, 3, 112, 0, 0, m0),
   (81, .nop, 0, 0, 0, 0, m0)]),
  (81, [], false, [(81, .aload_n 0, 1, 0, 0, 0, m0),
   (82, .iload_n 2, 1, 0, 0, 0, m0),
   (83, .iload 4, 2, 0, 0, 0, m0),
   (85, .invokevirtual 372, 3, 0, 0, 1978, m_Mod_isIn),
   (88, .ifCond .ne 24, 3, 112, 0, 0, m0),
   (91, .nop, 0, 0, 0, 0, m0)]),
  (91, [], false, [(91, .aload_n 0, 1, 0, 0, 0, m0),
   (92, .iload_n 2, 1, 0, 0, 0, m0),
   (93, .iload 5, 2, 0, 0, 0, m0),
   (95, .invokevirtual 372, 3, 0, 0, 1978, m_Mod_isIn),
   (98, .ifCond .ne 14, 3, 112, 0, 0, m0),
   (101, .nop, 0, 0, 0, 0, m0)]),
  (101, [], false, [(101, .aload_n 0, 1, 0, 0, 0, m0),
   (102, .iload 4, 2, 0, 0, 0, m0),
   (104, .iload 5, 2, 0, 0, 0, m0),
   (106, .invokevirtual 286, 3, 0, 0, 1780, m_Mod_owes),
   (109, .ifCond .ne 7, 3, 116, 0, 0, m0),
   (112, .nop, 0, 0, 0, 0, m0)]),
  (112, [], false, [(112, .iconst 1, 1, 0, 0, 0, m0),
   (113, .goto 4, 3, 117, 0, 0, m0)]),
  (116, [], false, [(116, .iconst 0, 1, 0, 0, 0, m0),
   (117, .nop, 0, 0, 0, 0, m0)]),
  (117, [], false, [(117, .istore_n 3, 1, 0, 0, 0, m0),
   (118, .iinc 5 1, 3, 0, 0, 0, m0),
   (121, .goto (-62), 3, 59, 0, 0, m0)]),
  (124, [], false, [(124, .iinc 4 1, 3, 0, 0, 0, m0),
   (127, .goto (-86), 3, 41, 0, 0, m0)]),
  (130, [], false, [(130, .iload_n 3, 1, 0, 0, 0, m0),
   (131, .ifCond .eq 5, 3, 136, 0, 0, m0),
   (134, .nop, 0, 0, 0, 0, m0)]),
  (134, [], false, [(134, .iload_n 2, 1, 0, 0, 0, m0),
   (135, .istore_n 1, 1, 0, 0, 0, m0),
   (136, .nop, 0, 0, 0, 0, m0)]),
  (136, [], false, [(136, .iinc 2 1, 3, 0, 0, 0, m0),
   (139, .goto (-135), 3, 4, 0, 0, m0)]),
  (142, [], false, [(142, .iload_n 1, 1, 0, 0, 0, m0),
   (143, .ireturn, 1, 0, 0, 0, m0)])]
theorem ok_Mod_askOf : okBt m_Mod_askOf bt_Mod_askOf = true := by decide +kernel
set_option maxRecDepth 100000 in
theorem b_Mod_askOf_0 {l : Launch} {E : EnvT} {d : Nat} {K : AV → Mem → Prop} {M : Mem}  (hd : 1 ≤ d)
  (h : G l E d m_Mod_askOf 4 [(0, (.ref 24, 41)), (1, (.int (iN (-1)), 0)), (2, (.int (iN 0), 0))] [] M K) :
  G l E d m_Mod_askOf 0 [(0, (.ref 24, 41))] [] M K := G.blk 60 _ hd ok_Mod_askOf rfl h
set_option maxRecDepth 100000 in
theorem b_Mod_askOf_4 {l : Launch} {E : EnvT} {d : Nat} {K : AV → Mem → Prop} {M : Mem} {x1 : Int32} {x2 : Int32} (hd : 1 ≤ d)
  (h : (vp_in (iN 0) 3612 ∧ ((((iN 1) <<< ((iN (M 24 1 ((iN 0)).toNatClampNeg)) &&& 31)) ≤ x2 →
   K (.int x1, 0) M) ∧
  (¬ ((iN 1) <<< ((iN (M 24 1 ((iN 0)).toNatClampNeg)) &&& 31)) ≤ x2 →
   ((x1 = (iN (-1)) →
    G l E d m_Mod_askOf 41 [(0, (.ref 24, 41)), (1, (.int x1, 0)), (2, (.int x2, 0)), (3, (.int (iN 1), 0)), (4, (.int (iN 0), 0))] [] M K) ∧
   (¬ x1 = (iN (-1)) →
    CT l E (d - 1) m_Mod_bits [(.int x2, 0)] M (fun v1 M1 =>
     CT l E (d - 1) m_Mod_bits [(.int x1, 0)] M1 (fun v2 M2 =>
      (((toI v2) ≤ (toI v1) →
       G l E d m_Mod_askOf 41 [(0, (.ref 24, 41)), (1, (.int x1, 0)), (2, (.int x2, 0)), (3, (.int (iN 0), 0)), (4, (.int (iN 0), 0))] [] M2 K) ∧
      (¬ (toI v2) ≤ (toI v1) →
       G l E d m_Mod_askOf 41 [(0, (.ref 24, 41)), (1, (.int x1, 0)), (2, (.int x2, 0)), (3, (.int (iN 1), 0)), (4, (.int (iN 0), 0))] [] M2 K)))))))))) :
  G l E d m_Mod_askOf 4 [(0, (.ref 24, 41)), (1, (.int x1, 0)), (2, (.int x2, 0))] [] M K := G.blk 60 _ hd ok_Mod_askOf rfl h
set_option maxRecDepth 100000 in
theorem b_Mod_askOf_41 {l : Launch} {E : EnvT} {d : Nat} {K : AV → Mem → Prop} {M : Mem} {x1 : Int32} {x2 : Int32} {x3 : Int32} {x4 : Int32} (hd : 1 ≤ d)
  (h : (vp_in (iN 0) 3612 ∧ (((iN (M 24 1 ((iN 0)).toNatClampNeg)) ≤ x4 →
   ((x3 = 0 →
    G l E d m_Mod_askOf 4 [(0, (.ref 24, 41)), (1, (.int x1, 0)), (2, (.int (x2 + iN 1), 0))] [] M K) ∧
   (¬ x3 = 0 →
    G l E d m_Mod_askOf 4 [(0, (.ref 24, 41)), (1, (.int x2, 0)), (2, (.int (x2 + iN 1), 0))] [] M K))) ∧
  (¬ (iN (M 24 1 ((iN 0)).toNatClampNeg)) ≤ x4 →
   ((x3 = 0 →
    ((x3 = 0 →
     G l E d m_Mod_askOf 4 [(0, (.ref 24, 41)), (1, (.int x1, 0)), (2, (.int (x2 + iN 1), 0))] [] M K) ∧
    (¬ x3 = 0 →
     G l E d m_Mod_askOf 4 [(0, (.ref 24, 41)), (1, (.int x2, 0)), (2, (.int (x2 + iN 1), 0))] [] M K))) ∧
   (¬ x3 = 0 →
    G l E d m_Mod_askOf 59 [(0, (.ref 24, 41)), (1, (.int x1, 0)), (2, (.int x2, 0)), (3, (.int x3, 0)), (4, (.int x4, 0)), (5, (.int (iN 0), 0))] [] M K)))))) :
  G l E d m_Mod_askOf 41 [(0, (.ref 24, 41)), (1, (.int x1, 0)), (2, (.int x2, 0)), (3, (.int x3, 0)), (4, (.int x4, 0))] [] M K := G.blk 60 _ hd ok_Mod_askOf rfl h
set_option maxRecDepth 100000 in
theorem b_Mod_askOf_59 {l : Launch} {E : EnvT} {d : Nat} {K : AV → Mem → Prop} {M : Mem} {x1 : Int32} {x2 : Int32} {x3 : Int32} {x4 : Int32} {x5 : Int32} (hd : 1 ≤ d)
  (h : (vp_in (iN 0) 3612 ∧ (((iN (M 24 1 ((iN 0)).toNatClampNeg)) ≤ x5 →
   G l E d m_Mod_askOf 41 [(0, (.ref 24, 41)), (1, (.int x1, 0)), (2, (.int x2, 0)), (3, (.int x3, 0)), (4, (.int (x4 + iN 1), 0))] [] M K) ∧
  (¬ (iN (M 24 1 ((iN 0)).toNatClampNeg)) ≤ x5 →
   ((x3 = 0 →
    G l E d m_Mod_askOf 59 [(0, (.ref 24, 41)), (1, (.int x1, 0)), (2, (.int x2, 0)), (3, (.int (iN 0), 0)), (4, (.int x4, 0)), (5, (.int (x5 + iN 1), 0))] [] M K) ∧
   (¬ x3 = 0 →
    ((x4 = x5 →
     G l E d m_Mod_askOf 59 [(0, (.ref 24, 41)), (1, (.int x1, 0)), (2, (.int x2, 0)), (3, (.int (iN 1), 0)), (4, (.int x4, 0)), (5, (.int (x5 + iN 1), 0))] [] M K) ∧
    (¬ x4 = x5 →
     CT l E (d - 1) m_Mod_isIn [(.ref 24, 41), (.int x2, 0), (.int x4, 0)] M (fun v1 M1 =>
      ((¬ (toI v1) = 0 →
       G l E d m_Mod_askOf 59 [(0, (.ref 24, 41)), (1, (.int x1, 0)), (2, (.int x2, 0)), (3, (.int (iN 1), 0)), (4, (.int x4, 0)), (5, (.int (x5 + iN 1), 0))] [] M1 K) ∧
      ((toI v1) = 0 →
       CT l E (d - 1) m_Mod_isIn [(.ref 24, 41), (.int x2, 0), (.int x5, 0)] M1 (fun v2 M2 =>
        ((¬ (toI v2) = 0 →
         G l E d m_Mod_askOf 59 [(0, (.ref 24, 41)), (1, (.int x1, 0)), (2, (.int x2, 0)), (3, (.int (iN 1), 0)), (4, (.int x4, 0)), (5, (.int (x5 + iN 1), 0))] [] M2 K) ∧
        ((toI v2) = 0 →
         CT l E (d - 1) m_Mod_owes [(.ref 24, 41), (.int x4, 0), (.int x5, 0)] M2 (fun v3 M3 =>
          ((¬ (toI v3) = 0 →
           G l E d m_Mod_askOf 59 [(0, (.ref 24, 41)), (1, (.int x1, 0)), (2, (.int x2, 0)), (3, (.int (iN 0), 0)), (4, (.int x4, 0)), (5, (.int (x5 + iN 1), 0))] [] M3 K) ∧
          ((toI v3) = 0 →
           G l E d m_Mod_askOf 59 [(0, (.ref 24, 41)), (1, (.int x1, 0)), (2, (.int x2, 0)), (3, (.int (iN 1), 0)), (4, (.int x4, 0)), (5, (.int (x5 + iN 1), 0))] [] M3 K))))))))))))))))) :
  G l E d m_Mod_askOf 59 [(0, (.ref 24, 41)), (1, (.int x1, 0)), (2, (.int x2, 0)), (3, (.int x3, 0)), (4, (.int x4, 0)), (5, (.int x5, 0))] [] M K := G.blk 60 _ hd ok_Mod_askOf rfl h
def bt_Mod_ask : BtT := [(0, [0], true, [(0, .aload_n 0, 1, 0, 0, 0, m0),
   (1, .aload_n 0, 1, 0, 0, 0, m0),
   (2, .invokevirtual 394, 3, 0, 0, 2042, m_Mod_askOf),
   (5, .invokestatic 295, 3, 0, 0, 1922, m_Mod_bits),
   (8, .invokevirtual 76, 3, 0, 0, 1740, m_Mod_gives),
   (11, .ireturn, 1, 0, 0, 0, m0)])]
theorem ok_Mod_ask : okBt m_Mod_ask bt_Mod_ask = true := by decide +kernel
set_option maxRecDepth 100000 in
theorem b_Mod_ask_0 {l : Launch} {E : EnvT} {d : Nat} {K : AV → Mem → Prop} {M : Mem}  (hd : 1 ≤ d)
  (h : CT l E (d - 1) m_Mod_askOf [(.ref 24, 41)] M (fun v1 M1 =>
   CT l E (d - 1) m_Mod_bits [(.int (toI v1), 0)] M1 (fun v2 M2 =>
    CT l E (d - 1) m_Mod_gives [(.ref 24, 41), (.int (toI v2), 0)] M2 (fun v3 M3 =>
     K (.int (toI v3), 0) M3)))) :
  G l E d m_Mod_ask 0 [(0, (.ref 24, 41))] [] M K := G.blk 60 _ hd ok_Mod_ask rfl h
def bt_Mod_askSet : BtT := [(0, [0], true, [(0, .aload_n 0, 1, 0, 0, 0, m0),
   (1, .aload_n 0, 1, 0, 0, 0, m0),
   (2, .invokevirtual 394, 3, 0, 0, 2042, m_Mod_askOf),
   (5, .invokevirtual 76, 3, 0, 0, 1740, m_Mod_gives),
   (8, .ireturn, 1, 0, 0, 0, m0)])]
theorem ok_Mod_askSet : okBt m_Mod_askSet bt_Mod_askSet = true := by decide +kernel
set_option maxRecDepth 100000 in
theorem b_Mod_askSet_0 {l : Launch} {E : EnvT} {d : Nat} {K : AV → Mem → Prop} {M : Mem}  (hd : 1 ≤ d)
  (h : CT l E (d - 1) m_Mod_askOf [(.ref 24, 41)] M (fun v1 M1 =>
   CT l E (d - 1) m_Mod_gives [(.ref 24, 41), (.int (toI v1), 0)] M1 (fun v2 M2 =>
    K (.int (toI v2), 0) M2))) :
  G l E d m_Mod_askSet 0 [(0, (.ref 24, 41))] [] M K := G.blk 60 _ hd ok_Mod_askSet rfl h
def bt_Mod_chain : BtT := [(0, [0], true, [(0, .iconst 0, 1, 0, 0, 0, m0),
   (1, .istore_n 1, 1, 0, 0, 0, m0),
   (2, .iconst 0, 1, 0, 0, 0, m0),
   (3, .istore_n 2, 1, 0, 0, 0, m0),
   (4, .aload_n 0, 1, 0, 0, 0, m0),
   (5, .getfield 50, 3, 26, 11, 1473, m0),
   (8, .iconst 0, 1, 0, 0, 0, m0),
   (9, .iconst (-1), 1, 0, 0, 0, m0),
   (10, .iastore, 1, 0, 0, 0, m0),
   (11, .nop, 0, 0, 0, 0, m0)]),
  (11, [0, 1, 2], true, [(11, .iload_n 2, 1, 0, 0, 0, m0),
   (12, .ifCond .lt 82, 3, 94, 0, 0, m0),
   (15, .nop, 0, 0, 0, 0, m0)]),
  (15, [], false, [(15, .aload_n 0, 1, 0, 0, 0, m0),
   (16, .iload_n 2, 1, 0, 0, 0, m0),
   (17, .invokevirtual 385, 3, 0, 0, 2026, m_Mod_nextAt),
   (20, .istore_n 3, 1, 0, 0, 0, m0),
   (21, .iload_n 3, 1, 0, 0, 0, m0),
   (22, .iconst (-1), 1, 0, 0, 0, m0),
   (23, .if_icmp .eq 11, 3, 34, 0, 0, m0),
   (26, .nop, 0, 0, 0, 0, m0)]),
  (26, [], false, [(26, .aload_n 0, 1, 0, 0, 0, m0),
   (27, .iload_n 3, 1, 0, 0, 0, m0),
   (28, .invokevirtual 277, 3, 0, 0, 1836, m_Mod_isDead),
   (31, .ifCond .eq 24, 3, 55, 0, 0, m0),
   (34, .nop, 0, 0, 0, 0, m0)]),
  (34, [], false, [(34, .iload_n 3, 1, 0, 0, 0, m0),
   (35, .iconst (-1), 1, 0, 0, 0, m0),
   (36, .if_icmp .ne 9, 3, 45, 0, 0, m0),
   (39, .nop, 0, 0, 0, 0, m0)]),
  (39, [], false, [(39, .iinc 2 (-1), 3, 0, 0, 0, m0),
   (42, .goto (-31), 3, 11, 0, 0, m0)]),
  (45, [], false, [(45, .aload_n 0, 1, 0, 0, 0, m0),
   (46, .getfield 50, 3, 26, 11, 1473, m0),
   (49, .iload_n 2, 1, 0, 0, 0, m0),
   (50, .iload_n 3, 1, 0, 0, 0, m0),
   (51, .iastore, 1, 0, 0, 0, m0),
   (52, .goto (-41), 3, 11, 0, 0, m0)]),
  (55, [], false, [(55, .aload_n 0, 1, 0, 0, 0, m0),
   (56, .getfield 50, 3, 26, 11, 1473, m0),
   (59, .iload_n 2, 1, 0, 0, 0, m0),
   (60, .iload_n 3, 1, 0, 0, 0, m0),
   (61, .iastore, 1, 0, 0, 0, m0),
   (62, .iload_n 1, 1, 0, 0, 0, m0),
   (63, .iload_n 2, 1, 0, 0, 0, m0),
   (64, .iconst 1, 1, 0, 0, 0, m0),
   (65, .iadd, 1, 0, 0, 0, m0),
   (66, .invokestatic 343, 3, 0, 0, 1909, m_Math_max),
   (69, .istore_n 1, 1, 0, 0, 0, m0),
   (70, .iload_n 2, 1, 0, 0, 0, m0),
   (71, .iconst 1, 1, 0, 0, 0, m0),
   (72, .iadd, 1, 0, 0, 0, m0),
   (73, .bipush 8, 2, 0, 0, 0, m0),
   (75, .if_icmp .ne 6, 3, 81, 0, 0, m0),
   (78, .nop, 0, 0, 0, 0, m0)]),
  (78, [], false, [(78, .goto (-67), 3, 11, 0, 0, m0)]),
  (81, [], false, [(81, .iinc 2 1, 3, 0, 0, 0, m0),
   (84, .aload_n 0, 1, 0, 0, 0, m0),
   (85, .getfield 50, 3, 26, 11, 1473, m0),
   (88, .iload_n 2, 1, 0, 0, 0, m0),
   (89, .iconst (-1), 1, 0, 0, 0, m0),
   (90, .iastore, 1, 0, 0, 0, m0),
   (91, .goto (-80), 3, 11, 0, 0, m0)]),
  (94, [], false, [(94, .aload_n 0, 1, 0, 0, 0, m0),
   (95, .iload_n 1, 1, 0, 0, 0, m0),
   (96, .invokevirtual 76, 3, 0, 0, 1740, m_Mod_gives),
   (99, .ireturn, 1, 0, 0, 0, m0)])]
theorem ok_Mod_chain : okBt m_Mod_chain bt_Mod_chain = true := by decide +kernel
set_option maxRecDepth 100000 in
theorem b_Mod_chain_0 {l : Launch} {E : EnvT} {d : Nat} {K : AV → Mem → Prop} {M : Mem}  (hd : 1 ≤ d)
  (h : (vp_in (iN 0) 8 ∧ G l E d m_Mod_chain 11 [(0, (.ref 24, 41)), (1, (.int (iN 0), 0)), (2, (.int (iN 0), 0))] [] (upd3 M 24 10 ((iN 0)).toNatClampNeg ((iN (-1))).toInt) K)) :
  G l E d m_Mod_chain 0 [(0, (.ref 24, 41))] [] M K := G.blk 60 _ hd ok_Mod_chain rfl h
set_option maxRecDepth 100000 in
theorem b_Mod_chain_11 {l : Launch} {E : EnvT} {d : Nat} {K : AV → Mem → Prop} {M : Mem} {x1 : Int32} {x2 : Int32} (hd : 1 ≤ d)
  (h : ((x2 < 0 →
   CT l E (d - 1) m_Mod_gives [(.ref 24, 41), (.int x1, 0)] M (fun v1 M1 =>
    K (.int (toI v1), 0) M1)) ∧
  (¬ x2 < 0 →
   CT l E (d - 1) m_Mod_nextAt [(.ref 24, 41), (.int x2, 0)] M (fun v2 M2 =>
    (((toI v2) = (iN (-1)) →
     ((¬ (toI v2) = (iN (-1)) →
      (vp_in x2 8 ∧ G l E d m_Mod_chain 11 [(0, (.ref 24, 41)), (1, (.int x1, 0)), (2, (.int x2, 0))] [] (upd3 M2 24 10 (x2).toNatClampNeg ((toI v2)).toInt) K)) ∧
     ((toI v2) = (iN (-1)) →
      G l E d m_Mod_chain 11 [(0, (.ref 24, 41)), (1, (.int x1, 0)), (2, (.int (x2 + iN (-1)), 0))] [] M2 K))) ∧
    (¬ (toI v2) = (iN (-1)) →
     CT l E (d - 1) m_Mod_isDead [(.ref 24, 41), (.int (toI v2), 0)] M2 (fun v3 M3 =>
      (((toI v3) = 0 →
       (vp_in x2 8 ∧ CT l E (d - 1) m_Math_max [(.int x1, 0), (.int (x2 + (iN 1)), 0)] (upd3 M3 24 10 (x2).toNatClampNeg ((toI v2)).toInt) (fun v4 M4 =>
        ((¬ (x2 + (iN 1)) = (iN 8) →
         (vp_in (x2 + iN 1) 8 ∧ G l E d m_Mod_chain 11 [(0, (.ref 24, 41)), (1, (.int (toI v4), 0)), (2, (.int (x2 + iN 1), 0))] [] (upd3 M4 24 10 ((x2 + iN 1)).toNatClampNeg ((iN (-1))).toInt) K)) ∧
        ((x2 + (iN 1)) = (iN 8) →
         G l E d m_Mod_chain 11 [(0, (.ref 24, 41)), (1, (.int (toI v4), 0)), (2, (.int x2, 0))] [] M4 K))))) ∧
      (¬ (toI v3) = 0 →
       ((¬ (toI v2) = (iN (-1)) →
        (vp_in x2 8 ∧ G l E d m_Mod_chain 11 [(0, (.ref 24, 41)), (1, (.int x1, 0)), (2, (.int x2, 0))] [] (upd3 M3 24 10 (x2).toNatClampNeg ((toI v2)).toInt) K)) ∧
       ((toI v2) = (iN (-1)) →
        G l E d m_Mod_chain 11 [(0, (.ref 24, 41)), (1, (.int x1, 0)), (2, (.int (x2 + iN (-1)), 0))] [] M3 K))))))))))) :
  G l E d m_Mod_chain 11 [(0, (.ref 24, 41)), (1, (.int x1, 0)), (2, (.int x2, 0))] [] M K := G.blk 60 _ hd ok_Mod_chain rfl h
def bt_Mod_behind : BtT := [(0, [0, 1], true, [(0, .aload_n 0, 1, 0, 0, 0, m0),
   (1, .iload_n 1, 1, 0, 0, 0, m0),
   (2, .invokevirtual 280, 3, 0, 0, 1832, m_Mod_isLiving),
   (5, .ifCond .ne 9, 3, 14, 0, 0, m0),
   (8, .nop, 0, 0, 0, 0, m0)]),
  (8, [], false, [(8, .aload_n 0, 1, 0, 0, 0, m0),
   (9, .iconst 1, 1, 0, 0, 0, m0),
   (10, .invokevirtual 72, 3, 0, 0, 1629, m_Mod_refuse),
   (13, .ireturn, 1, 0, 0, 0, m0)]),
  (14, [], false, [(14, .iconst 0, 1, 0, 0, 0, m0),
   (15, .istore_n 2, 1, 0, 0, 0, m0),
   (16, .iconst 0, 1, 0, 0, 0, m0),
   (17, .istore_n 3, 1, 0, 0, 0, m0),
   (18, .nop, 0, 0, 0, 0, m0)]),
  (18, [0, 1, 2, 3], true, [(18, .iload_n 3, 1, 0, 0, 0, m0),
   (19, .bipush 8, 2, 0, 0, 0, m0),
   (21, .if_icmp .ge 90, 3, 111, 0, 0, m0),
   (24, .nop, 0, 0, 0, 0, m0)]),
  (24, [], false, [(24, .iconst 0, 1, 0, 0, 0, m0),
   (25, .istore 4, 2, 0, 0, 0, m0),
   (27, .nop, 0, 0, 0, 0, m0)]),
  (27, [0, 1, 2, 3, 4], true, [(27, .iload 4, 2, 0, 0, 0, m0),
   (29, .aload_n 0, 1, 0, 0, 0, m0),
   (30, .getfield 7, 3, 0, 11, 1447, m0),
   (33, .iconst 0, 1, 0, 0, 0, m0),
   (34, .iaload, 1, 0, 0, 0, m0),
   (35, .if_icmp .ge 70, 3, 105, 0, 0, m0),
   (38, .nop, 0, 0, 0, 0, m0)]),
  (38, [], false, [(38, .iconst 0, 1, 0, 0, 0, m0),
   (39, .istore 5, 2, 0, 0, 0, m0),
   (41, .nop, 0, 0, 0, 0, m0)]),
  (41, [0, 1, 2, 3, 4, 5], true, [(41, .iload 5, 2, 0, 0, 0, m0),
   (43, .aload_n 0, 1, 0, 0, 0, m0),
   (44, .getfield 7, 3, 0, 11, 1447, m0),
   (47, .iconst 0, 1, 0, 0, 0, m0),
   (48, .iaload, 1, 0, 0, 0, m0),
   (49, .if_icmp .ge 50, 3, 99, 0, 0, m0),
   (52, .nop, 0, 0, 0, 0, m0)]),
  (52, [], false, [(52, .iload 4, 2, 0, 0, 0, m0),
   (54, .iload_n 1, 1, 0, 0, 0, m0),
   (55, .if_icmp .eq 13, 3, 68, 0, 0, m0),
   (58, .nop, 0, 0, 0, 0, m0)]),
  (58, [], false, [(58, .aload_n 0, 1, 0, 0, 0, m0),
   (59, .iload_n 2, 1, 0, 0, 0, m0),
   (60, .iload 4, 2, 0, 0, 0, m0),
   (62, .invokevirtual 372, 3, 0, 0, 1978, m_Mod_isIn),
   (65, .ifCond .eq 28, 3, 93, 0, 0, m0),
   (68, .nop, 0, 0, 0, 0, m0)]),
  (68, [], false, [(68, .iload 4, 2, 0, 0, 0, m0),
   (70, .iload 5, 2, 0, 0, 0, m0),
   (72, .if_icmp .eq 21, 3, 93, 0, 0, m0),
   (75, .nop, 0, 0, 0, 0, m0)]),
  (75, [], false, [(75, .aload_n 0, 1, 0, 0, 0, m0),
   (76, .iload 4, 2, 0, 0, 0, m0),
   (78, .iload 5, 2, 0, 0, 0, m0),
   (80, .invokevirtual 283, 3, 0, 0, 1784, m_Mod_noted),
   (83, .ifCond .le 10, 3, 93, 0, 0, m0),
   (86, .nop, 0, 0, 0, 0, m0)]),
  (86, [], false, [(86, .iload_n 2, 1, 0, 0, 0, m0),
   (87, .iconst 1, 1, 0, 0, 0, m0),
   (88, .iload 5, 2, 0, 0, 0, m0),
   (90, .ishl, 1, 0, 0, 0, m0),
   (91, .ior, 1, 0, 0, 0, m0),
   (92, .istore_n 2, 1, 0, 0, 0, m0),
   (93, .nop, 0, 0, 0, 0, m0)]),
  (93, [], false, [(93, .iinc 5 1, 3, 0, 0, 0, m0),
   (96, .goto (-55), 3, 41, 0, 0, m0)]),
  (99, [], false, [(99, .iinc 4 1, 3, 0, 0, 0, m0),
   (102, .goto (-75), 3, 27, 0, 0, m0)]),
  (105, [], false, [(105, .iinc 3 1, 3, 0, 0, 0, m0),
   (108, .goto (-90), 3, 18, 0, 0, m0)]),
  (111, [], false, [(111, .aload_n 0, 1, 0, 0, 0, m0),
   (112, .iload_n 2, 1, 0, 0, 0, m0),
   (113, .iconst 1, 1, 0, 0, 0, m0),
   (114, .iload_n 1, 1, 0, 0, 0, m0),
   (115, .ishl, 1, 0, 0, 0, m0),
   (116, .iconst (-1), 1, 0, 0, 0, m0),
   (117, .ixor, 1, 0, 0, 0, m0),
   (118, .iand, 1, 0, 0, 0, m0),
   (119, .invokevirtual 76, 3, 0, 0, 1740, m_Mod_gives),
   (122, .ireturn, 1, 0, 0, 0, m0)])]
theorem ok_Mod_behind : okBt m_Mod_behind bt_Mod_behind = true := by decide +kernel
set_option maxRecDepth 100000 in
theorem b_Mod_behind_0 {l : Launch} {E : EnvT} {d : Nat} {K : AV → Mem → Prop} {M : Mem} {x1 : Int32} (hd : 1 ≤ d)
  (h : CT l E (d - 1) m_Mod_isLiving [(.ref 24, 41), (.int x1, 0)] M (fun v1 M1 =>
   ((¬ (toI v1) = 0 →
    G l E d m_Mod_behind 18 [(0, (.ref 24, 41)), (1, (.int x1, 0)), (2, (.int (iN 0), 0)), (3, (.int (iN 0), 0))] [] M1 K) ∧
   ((toI v1) = 0 →
    CT l E (d - 1) m_Mod_refuse [(.ref 24, 41), (.int (iN 1), 0)] M1 (fun v2 M2 =>
     K (.int (toI v2), 0) M2))))) :
  G l E d m_Mod_behind 0 [(0, (.ref 24, 41)), (1, (.int x1, 0))] [] M K := G.blk 60 _ hd ok_Mod_behind rfl h
set_option maxRecDepth 100000 in
theorem b_Mod_behind_18 {l : Launch} {E : EnvT} {d : Nat} {K : AV → Mem → Prop} {M : Mem} {x1 : Int32} {x2 : Int32} {x3 : Int32} (hd : 1 ≤ d)
  (h : (((iN 8) ≤ x3 →
   CT l E (d - 1) m_Mod_gives [(.ref 24, 41), (.int (x2 &&& (((iN 1) <<< (x1 &&& 31)) ^^^ (iN (-1)))), 0)] M (fun v1 M1 =>
    K (.int (toI v1), 0) M1)) ∧
  (¬ (iN 8) ≤ x3 →
   G l E d m_Mod_behind 27 [(0, (.ref 24, 41)), (1, (.int x1, 0)), (2, (.int x2, 0)), (3, (.int x3, 0)), (4, (.int (iN 0), 0))] [] M K))) :
  G l E d m_Mod_behind 18 [(0, (.ref 24, 41)), (1, (.int x1, 0)), (2, (.int x2, 0)), (3, (.int x3, 0))] [] M K := G.blk 60 _ hd ok_Mod_behind rfl h
set_option maxRecDepth 100000 in
theorem b_Mod_behind_27 {l : Launch} {E : EnvT} {d : Nat} {K : AV → Mem → Prop} {M : Mem} {x1 : Int32} {x2 : Int32} {x3 : Int32} {x4 : Int32} (hd : 1 ≤ d)
  (h : (vp_in (iN 0) 3612 ∧ (((iN (M 24 1 ((iN 0)).toNatClampNeg)) ≤ x4 →
   G l E d m_Mod_behind 18 [(0, (.ref 24, 41)), (1, (.int x1, 0)), (2, (.int x2, 0)), (3, (.int (x3 + iN 1), 0))] [] M K) ∧
  (¬ (iN (M 24 1 ((iN 0)).toNatClampNeg)) ≤ x4 →
   G l E d m_Mod_behind 41 [(0, (.ref 24, 41)), (1, (.int x1, 0)), (2, (.int x2, 0)), (3, (.int x3, 0)), (4, (.int x4, 0)), (5, (.int (iN 0), 0))] [] M K)))) :
  G l E d m_Mod_behind 27 [(0, (.ref 24, 41)), (1, (.int x1, 0)), (2, (.int x2, 0)), (3, (.int x3, 0)), (4, (.int x4, 0))] [] M K := G.blk 60 _ hd ok_Mod_behind rfl h
set_option maxRecDepth 100000 in
theorem b_Mod_behind_41 {l : Launch} {E : EnvT} {d : Nat} {K : AV → Mem → Prop} {M : Mem} {x1 : Int32} {x2 : Int32} {x3 : Int32} {x4 : Int32} {x5 : Int32} (hd : 1 ≤ d)
  (h : (vp_in (iN 0) 3612 ∧ (((iN (M 24 1 ((iN 0)).toNatClampNeg)) ≤ x5 →
   G l E d m_Mod_behind 27 [(0, (.ref 24, 41)), (1, (.int x1, 0)), (2, (.int x2, 0)), (3, (.int x3, 0)), (4, (.int (x4 + iN 1), 0))] [] M K) ∧
  (¬ (iN (M 24 1 ((iN 0)).toNatClampNeg)) ≤ x5 →
   ((x4 = x1 →
    ((x4 = x5 →
     G l E d m_Mod_behind 41 [(0, (.ref 24, 41)), (1, (.int x1, 0)), (2, (.int x2, 0)), (3, (.int x3, 0)), (4, (.int x4, 0)), (5, (.int (x5 + iN 1), 0))] [] M K) ∧
    (¬ x4 = x5 →
     CT l E (d - 1) m_Mod_noted [(.ref 24, 41), (.int x4, 0), (.int x5, 0)] M (fun v1 M1 =>
      (((toI v1) ≤ 0 →
       G l E d m_Mod_behind 41 [(0, (.ref 24, 41)), (1, (.int x1, 0)), (2, (.int x2, 0)), (3, (.int x3, 0)), (4, (.int x4, 0)), (5, (.int (x5 + iN 1), 0))] [] M1 K) ∧
      (¬ (toI v1) ≤ 0 →
       G l E d m_Mod_behind 41 [(0, (.ref 24, 41)), (1, (.int x1, 0)), (2, (.int (x2 ||| ((iN 1) <<< (x5 &&& 31))), 0)), (3, (.int x3, 0)), (4, (.int x4, 0)), (5, (.int (x5 + iN 1), 0))] [] M1 K)))))) ∧
   (¬ x4 = x1 →
    CT l E (d - 1) m_Mod_isIn [(.ref 24, 41), (.int x2, 0), (.int x4, 0)] M (fun v2 M2 =>
     (((toI v2) = 0 →
      G l E d m_Mod_behind 41 [(0, (.ref 24, 41)), (1, (.int x1, 0)), (2, (.int x2, 0)), (3, (.int x3, 0)), (4, (.int x4, 0)), (5, (.int (x5 + iN 1), 0))] [] M2 K) ∧
     (¬ (toI v2) = 0 →
      ((x4 = x5 →
       G l E d m_Mod_behind 41 [(0, (.ref 24, 41)), (1, (.int x1, 0)), (2, (.int x2, 0)), (3, (.int x3, 0)), (4, (.int x4, 0)), (5, (.int (x5 + iN 1), 0))] [] M2 K) ∧
      (¬ x4 = x5 →
       CT l E (d - 1) m_Mod_noted [(.ref 24, 41), (.int x4, 0), (.int x5, 0)] M2 (fun v3 M3 =>
        (((toI v3) ≤ 0 →
         G l E d m_Mod_behind 41 [(0, (.ref 24, 41)), (1, (.int x1, 0)), (2, (.int x2, 0)), (3, (.int x3, 0)), (4, (.int x4, 0)), (5, (.int (x5 + iN 1), 0))] [] M3 K) ∧
        (¬ (toI v3) ≤ 0 →
         G l E d m_Mod_behind 41 [(0, (.ref 24, 41)), (1, (.int x1, 0)), (2, (.int (x2 ||| ((iN 1) <<< (x5 &&& 31))), 0)), (3, (.int x3, 0)), (4, (.int x4, 0)), (5, (.int (x5 + iN 1), 0))] [] M3 K)))))))))))))) :
  G l E d m_Mod_behind 41 [(0, (.ref 24, 41)), (1, (.int x1, 0)), (2, (.int x2, 0)), (3, (.int x3, 0)), (4, (.int x4, 0)), (5, (.int x5, 0))] [] M K := G.blk 60 _ hd ok_Mod_behind rfl h
def bt_Mod_freeOf : BtT := [(0, [0, 1], true, [(0, .iconst 0, 1, 0, 0, 0, m0),
   (1, .istore_n 2, 1, 0, 0, 0, m0),
   (2, .iconst 0, 1, 0, 0, 0, m0),
   (3, .istore_n 3, 1, 0, 0, 0, m0),
   (4, .nop, 0, 0, 0, 0, m0)]),
  (4, [0, 1, 2, 3], true, [(4, .iload_n 3, 1, 0, 0, 0, m0),
   (5, .aload_n 0, 1, 0, 0, 0, m0),
   (6, .iload_n 1, 1, 0, 0, 0, m0),
   (7, .iconst 1, 1, 0, 0, 0, m0),
   (8, .invokevirtual 171, 3, 0, 0, 1708, m_Mod_of),
   (11, .if_icmp .ge 27, 3, 38, 0, 0, m0),
   (14, .nop, 0, 0, 0, 0, m0)]),
  (14, [], false, [(14, .iload_n 2, 1, 0, 0, 0, m0),
   (15, .aload_n 0, 1, 0, 0, 0, m0),
   (16, .iload_n 1, 1, 0, 0, 0, m0),
   (17, .iload_n 3, 1, 0, 0, 0, m0),
   (18, .invokevirtual 174, 3, 0, 0, 1712, m_Mod_holderOf),
   (21, .iconst (-1), 1, 0, 0, 0, m0),
   (22, .if_icmp .ne 7, 3, 29, 0, 0, m0),
   (25, .nop, 0, 0, 0, 0, m0)]),
  (25, [], false, [(25, .iconst 1, 1, 0, 0, 0, m0),
   (26, .goto 4, 3, 30, 0, 0, m0)]),
  (29, [], false, [(29, .iconst 0, 1, 0, 0, 0, m0),
   (30, .nop, 0, 0, 0, 0, m0)]),
  (30, [], false, [(30, .iadd, 1, 0, 0, 0, m0),
   (31, .istore_n 2, 1, 0, 0, 0, m0),
   (32, .iinc 3 1, 3, 0, 0, 0, m0),
   (35, .goto (-31), 3, 4, 0, 0, m0)]),
  (38, [], false, [(38, .iload_n 2, 1, 0, 0, 0, m0),
   (39, .ireturn, 1, 0, 0, 0, m0)])]
theorem ok_Mod_freeOf : okBt m_Mod_freeOf bt_Mod_freeOf = true := by decide +kernel
set_option maxRecDepth 100000 in
theorem b_Mod_freeOf_0 {l : Launch} {E : EnvT} {d : Nat} {K : AV → Mem → Prop} {M : Mem} {x1 : Int32} (hd : 1 ≤ d)
  (h : G l E d m_Mod_freeOf 4 [(0, (.ref 24, 41)), (1, (.int x1, 0)), (2, (.int (iN 0), 0)), (3, (.int (iN 0), 0))] [] M K) :
  G l E d m_Mod_freeOf 0 [(0, (.ref 24, 41)), (1, (.int x1, 0))] [] M K := G.blk 60 _ hd ok_Mod_freeOf rfl h
set_option maxRecDepth 100000 in
theorem b_Mod_freeOf_4 {l : Launch} {E : EnvT} {d : Nat} {K : AV → Mem → Prop} {M : Mem} {x1 : Int32} {x2 : Int32} {x3 : Int32} (hd : 1 ≤ d)
  (h : CT l E (d - 1) m_Mod_of [(.ref 24, 41), (.int x1, 0), (.int (iN 1), 0)] M (fun v1 M1 =>
   (((toI v1) ≤ x3 →
    K (.int x2, 0) M1) ∧
   (¬ (toI v1) ≤ x3 →
    CT l E (d - 1) m_Mod_holderOf [(.ref 24, 41), (.int x1, 0), (.int x3, 0)] M1 (fun v2 M2 =>
     ((¬ (toI v2) = (iN (-1)) →
      G l E d m_Mod_freeOf 4 [(0, (.ref 24, 41)), (1, (.int x1, 0)), (2, (.int (x2 + (iN 0)), 0)), (3, (.int (x3 + iN 1), 0))] [] M2 K) ∧
     ((toI v2) = (iN (-1)) →
      G l E d m_Mod_freeOf 4 [(0, (.ref 24, 41)), (1, (.int x1, 0)), (2, (.int (x2 + (iN 1)), 0)), (3, (.int (x3 + iN 1), 0))] [] M2 K))))))) :
  G l E d m_Mod_freeOf 4 [(0, (.ref 24, 41)), (1, (.int x1, 0)), (2, (.int x2, 0)), (3, (.int x3, 0))] [] M K := G.blk 60 _ hd ok_Mod_freeOf rfl h
def bt_Mod_free : BtT := [(0, [0, 1], true, [(0, .aload_n 0, 1, 0, 0, 0, m0),
   (1, .iload_n 1, 1, 0, 0, 0, m0),
   (2, .invokevirtual 280, 3, 0, 0, 1832, m_Mod_isLiving),
   (5, .ifCond .eq 15, 3, 20, 0, 0, m0),
   (8, .nop, 0, 0, 0, 0, m0)]),
  (8, [], false, [(8, .aload_n 0, 1, 0, 0, 0, m0),
   (9, .aload_n 0, 1, 0, 0, 0, m0),
   (10, .iload_n 1, 1, 0, 0, 0, m0),
   (11, .invokevirtual 397, 3, 0, 0, 2062, m_Mod_freeOf),
   (14, .invokevirtual 76, 3, 0, 0, 1740, m_Mod_gives),
   (17, .goto 8, 3, 25, 0, 0, m0)]),
  (20, [], false, [(20, .aload_n 0, 1, 0, 0, 0, m0),
   (21, .iconst 1, 1, 0, 0, 0, m0),
   (22, .invokevirtual 72, 3, 0, 0, 1629, m_Mod_refuse),
   (25, .nop, 0, 0, 0, 0, m0)]),
  (25, [], false, [(25, .ireturn, 1, 0, 0, 0, m0)])]
theorem ok_Mod_free : okBt m_Mod_free bt_Mod_free = true := by decide +kernel
set_option maxRecDepth 100000 in
theorem b_Mod_free_0 {l : Launch} {E : EnvT} {d : Nat} {K : AV → Mem → Prop} {M : Mem} {x1 : Int32} (hd : 1 ≤ d)
  (h : CT l E (d - 1) m_Mod_isLiving [(.ref 24, 41), (.int x1, 0)] M (fun v1 M1 =>
   (((toI v1) = 0 →
    CT l E (d - 1) m_Mod_refuse [(.ref 24, 41), (.int (iN 1), 0)] M1 (fun v2 M2 =>
     K (.int (toI v2), 0) M2)) ∧
   (¬ (toI v1) = 0 →
    CT l E (d - 1) m_Mod_freeOf [(.ref 24, 41), (.int x1, 0)] M1 (fun v3 M3 =>
     CT l E (d - 1) m_Mod_gives [(.ref 24, 41), (.int (toI v3), 0)] M3 (fun v4 M4 =>
      K (.int (toI v4), 0) M4)))))) :
  G l E d m_Mod_free 0 [(0, (.ref 24, 41)), (1, (.int x1, 0))] [] M K := G.blk 60 _ hd ok_Mod_free rfl h
def bt_Mod_queue : BtT := [(0, [0, 1], true, [(0, .aload_n 0, 1, 0, 0, 0, m0),
   (1, .iload_n 1, 1, 0, 0, 0, m0),
   (2, .invokevirtual 280, 3, 0, 0, 1832, m_Mod_isLiving),
   (5, .ifCond .ne 9, 3, 14, 0, 0, m0),
   (8, .nop, 0, 0, 0, 0, m0)]),
  (8, [], false, [(8, .aload_n 0, 1, 0, 0, 0, m0),
   (9, .iconst 1, 1, 0, 0, 0, m0),
   (10, .invokevirtual 72, 3, 0, 0, 1629, m_Mod_refuse),
   (13, .ireturn, 1, 0, 0, 0, m0)]),
  (14, [], false, [(14, .iconst 0, 1, 0, 0, 0, m0),
   (15, .istore_n 2, 1, 0, 0, 0, m0),
   (16, .iconst 0, 1, 0, 0, 0, m0),
   (17, .istore_n 3, 1, 0, 0, 0, m0),
   (18, .nop, 0, 0, 0, 0, m0)]),
  (18, [0, 1, 2, 3], true, [(18, .iload_n 3, 1, 0, 0, 0, m0),
   (19, .aload_n 0, 1, 0, 0, 0, m0),
   (20, .getfield 7, 3, 0, 11, 1447, m0),
   (23, .iconst 5, 1, 0, 0, 0, m0),
   (24, .iaload, 1, 0, 0, 0, m0),
   (25, .if_icmp .ge 35, 3, 60, 0, 0, m0),
   (28, .nop, 0, 0, 0, 0, m0)]),
  (28, [], false, [(28, .iload_n 2, 1, 0, 0, 0, m0),
   (29, .aload_n 0, 1, 0, 0, 0, m0),
   (30, .getfield 7, 3, 0, 11, 1447, m0),
   (33, .sipush 214, 3, 0, 0, 0, m0),
   (36, .iconst 3, 1, 0, 0, 0, m0),
   (37, .iload_n 3, 1, 0, 0, 0, m0),
   (38, .imul, 1, 0, 0, 0, m0),
   (39, .iadd, 1, 0, 0, 0, m0),
   (40, .iconst 1, 1, 0, 0, 0, m0),
   (41, .iadd, 1, 0, 0, 0, m0),
   (42, .iaload, 1, 0, 0, 0, m0),
   (43, .iload_n 1, 1, 0, 0, 0, m0),
   (44, .if_icmp .ne 7, 3, 51, 0, 0, m0),
   (47, .nop, 0, 0, 0, 0, m0)]),
  (47, [], false, [(47, .iconst 1, 1, 0, 0, 0, m0),
   (48, .goto 4, 3, 52, 0, 0, m0)]),
  (51, [], false, [(51, .iconst 0, 1, 0, 0, 0, m0),
   (52, .nop, 0, 0, 0, 0, m0)]),
  (52, [], false, [(52, .iadd, 1, 0, 0, 0, m0),
   (53, .istore_n 2, 1, 0, 0, 0, m0),
   (54, .iinc 3 1, 3, 0, 0, 0, m0),
   (57, .goto (-39), 3, 18, 0, 0, m0)]),
  (60, [], false, [(60, .aload_n 0, 1, 0, 0, 0, m0),
   (61, .iload_n 2, 1, 0, 0, 0, m0),
   (62, .invokevirtual 76, 3, 0, 0, 1740, m_Mod_gives),
   (65, .ireturn, 1, 0, 0, 0, m0)])]
theorem ok_Mod_queue : okBt m_Mod_queue bt_Mod_queue = true := by decide +kernel
set_option maxRecDepth 100000 in
theorem b_Mod_queue_0 {l : Launch} {E : EnvT} {d : Nat} {K : AV → Mem → Prop} {M : Mem} {x1 : Int32} (hd : 1 ≤ d)
  (h : CT l E (d - 1) m_Mod_isLiving [(.ref 24, 41), (.int x1, 0)] M (fun v1 M1 =>
   ((¬ (toI v1) = 0 →
    G l E d m_Mod_queue 18 [(0, (.ref 24, 41)), (1, (.int x1, 0)), (2, (.int (iN 0), 0)), (3, (.int (iN 0), 0))] [] M1 K) ∧
   ((toI v1) = 0 →
    CT l E (d - 1) m_Mod_refuse [(.ref 24, 41), (.int (iN 1), 0)] M1 (fun v2 M2 =>
     K (.int (toI v2), 0) M2))))) :
  G l E d m_Mod_queue 0 [(0, (.ref 24, 41)), (1, (.int x1, 0))] [] M K := G.blk 60 _ hd ok_Mod_queue rfl h
set_option maxRecDepth 100000 in
theorem b_Mod_queue_18 {l : Launch} {E : EnvT} {d : Nat} {K : AV → Mem → Prop} {M : Mem} {x1 : Int32} {x2 : Int32} {x3 : Int32} (hd : 1 ≤ d)
  (h : (vp_in (iN 5) 3612 ∧ (((iN (M 24 1 ((iN 5)).toNatClampNeg)) ≤ x3 →
   CT l E (d - 1) m_Mod_gives [(.ref 24, 41), (.int x2, 0)] M (fun v1 M1 =>
    K (.int (toI v1), 0) M1)) ∧
  (¬ (iN (M 24 1 ((iN 5)).toNatClampNeg)) ≤ x3 →
   (vp_in (((iN 214) + ((iN 3) * x3)) + (iN 1)) 3612 ∧ ((¬ (iN (M 24 1 ((((iN 214) + ((iN 3) * x3)) + (iN 1))).toNatClampNeg)) = x1 →
    G l E d m_Mod_queue 18 [(0, (.ref 24, 41)), (1, (.int x1, 0)), (2, (.int (x2 + (iN 0)), 0)), (3, (.int (x3 + iN 1), 0))] [] M K) ∧
   ((iN (M 24 1 ((((iN 214) + ((iN 3) * x3)) + (iN 1))).toNatClampNeg)) = x1 →
    G l E d m_Mod_queue 18 [(0, (.ref 24, 41)), (1, (.int x1, 0)), (2, (.int (x2 + (iN 1)), 0)), (3, (.int (x3 + iN 1), 0))] [] M K))))))) :
  G l E d m_Mod_queue 18 [(0, (.ref 24, 41)), (1, (.int x1, 0)), (2, (.int x2, 0)), (3, (.int x3, 0))] [] M K := G.blk 60 _ hd ok_Mod_queue rfl h
def bt_Mod_roomiest : BtT := [(0, [0], true, [(0, .iconst (-1), 1, 0, 0, 0, m0),
   (1, .istore_n 1, 1, 0, 0, 0, m0),
   (2, .iconst 0, 1, 0, 0, 0, m0),
   (3, .istore_n 2, 1, 0, 0, 0, m0),
   (4, .nop, 0, 0, 0, 0, m0)]),
  (4, [0, 1, 2], true, [(4, .iload_n 2, 1, 0, 0, 0, m0),
   (5, .aload_n 0, 1, 0, 0, 0, m0),
   (6, .getfield 7, 3, 0, 11, 1447, m0),
   (9, .iconst 0, 1, 0, 0, 0, m0),
   (10, .iaload, 1, 0, 0, 0, m0),
   (11, .if_icmp .ge 41, 3, 52, 0, 0, m0),
   (14, .nop, 0, 0, 0, 0, m0)]),
  (14, [], false, [(14, .aload_n 0, 1, 0, 0, 0, m0),
   (15, .iload_n 2, 1, 0, 0, 0, m0),
   (16, .invokevirtual 277, 3, 0, 0, 1836, m_Mod_isDead),
   (19, .ifCond .ne 27, 3, 46, 0, 0, m0),
   (22, .nop, 0, 0, 0, 0, m0)]),
  (22, [], false, [(22, .aload_n 0, 1, 0, 0, 0, m0),
   (23, .iload_n 2, 1, 0, 0, 0, m0),
   (24, .invokevirtual 397, 3, 0, 0, 2062, m_Mod_freeOf),
   (27, .iload_n 1, 1, 0, 0, 0, m0),
   (28, .iconst (-1), 1, 0, 0, 0, m0),
   (29, .if_icmp .ne 7, 3, 36, 0, 0, m0),
   (32, .nop, 0, 0, 0, 0, m0)]),
  (32, [], false, [(32, .iconst 0, 1, 0, 0, 0, m0),
   (33, .goto 8, 3, 41, 0, 0, m0)]),
  (36, [], false, [(36, .aload_n 0, 1, 0, 0, 0, m0),
   (37, .iload_n 1, 1, 0, 0, 0, m0),
   (38, .invokevirtual 397, 3, 0, 0, 2062, m_Mod_freeOf),
   (41, .nop, 0, 0, 0, 0, m0)]),
  (41, [], false, [(41, .if_icmp .le 5, 3, 46, 0, 0, m0),
   (44, .nop, 0, 0, 0, 0, m0)]),
  (44, [], false, [(44, .iload_n 2, 1, 0, 0, 0, m0),
   (45, .istore_n 1, 1, 0, 0, 0, m0),
   (46, .nop, 0, 0, 0, 0, m0)]),
  (46, [], false, [(46, .iinc 2 1, 3, 0, 0, 0, m0),
   (49, .goto (-45), 3, 4, 0, 0, m0)]),
  (52, [], false, [(52, .aload_n 0, 1, 0, 0, 0, m0),
   (53, .iload_n 1, 1, 0, 0, 0, m0),
   (54, .invokevirtual 304, 3, 0, 0, 1800, m_Mod_orNone),
   (57, .ireturn, 1, 0, 0, 0, m0)])]
theorem ok_Mod_roomiest : okBt m_Mod_roomiest bt_Mod_roomiest = true := by decide +kernel
set_option maxRecDepth 100000 in
theorem b_Mod_roomiest_0 {l : Launch} {E : EnvT} {d : Nat} {K : AV → Mem → Prop} {M : Mem}  (hd : 1 ≤ d)
  (h : G l E d m_Mod_roomiest 4 [(0, (.ref 24, 41)), (1, (.int (iN (-1)), 0)), (2, (.int (iN 0), 0))] [] M K) :
  G l E d m_Mod_roomiest 0 [(0, (.ref 24, 41))] [] M K := G.blk 60 _ hd ok_Mod_roomiest rfl h
set_option maxRecDepth 100000 in
theorem b_Mod_roomiest_4 {l : Launch} {E : EnvT} {d : Nat} {K : AV → Mem → Prop} {M : Mem} {x1 : Int32} {x2 : Int32} (hd : 1 ≤ d)
  (h : (vp_in (iN 0) 3612 ∧ (((iN (M 24 1 ((iN 0)).toNatClampNeg)) ≤ x2 →
   CT l E (d - 1) m_Mod_orNone [(.ref 24, 41), (.int x1, 0)] M (fun v1 M1 =>
    K (.int (toI v1), 0) M1)) ∧
  (¬ (iN (M 24 1 ((iN 0)).toNatClampNeg)) ≤ x2 →
   CT l E (d - 1) m_Mod_isDead [(.ref 24, 41), (.int x2, 0)] M (fun v2 M2 =>
    ((¬ (toI v2) = 0 →
     G l E d m_Mod_roomiest 4 [(0, (.ref 24, 41)), (1, (.int x1, 0)), (2, (.int (x2 + iN 1), 0))] [] M2 K) ∧
    ((toI v2) = 0 →
     CT l E (d - 1) m_Mod_freeOf [(.ref 24, 41), (.int x2, 0)] M2 (fun v3 M3 =>
      ((¬ x1 = (iN (-1)) →
       CT l E (d - 1) m_Mod_freeOf [(.ref 24, 41), (.int x1, 0)] M3 (fun v4 M4 =>
        (((toI v3) ≤ (toI v4) →
         G l E d m_Mod_roomiest 4 [(0, (.ref 24, 41)), (1, (.int x1, 0)), (2, (.int (x2 + iN 1), 0))] [] M4 K) ∧
        (¬ (toI v3) ≤ (toI v4) →
         G l E d m_Mod_roomiest 4 [(0, (.ref 24, 41)), (1, (.int x2, 0)), (2, (.int (x2 + iN 1), 0))] [] M4 K)))) ∧
      (x1 = (iN (-1)) →
       (((toI v3) ≤ (iN 0) →
        G l E d m_Mod_roomiest 4 [(0, (.ref 24, 41)), (1, (.int x1, 0)), (2, (.int (x2 + iN 1), 0))] [] M3 K) ∧
       (¬ (toI v3) ≤ (iN 0) →
        G l E d m_Mod_roomiest 4 [(0, (.ref 24, 41)), (1, (.int x2, 0)), (2, (.int (x2 + iN 1), 0))] [] M3 K)))))))))))) :
  G l E d m_Mod_roomiest 4 [(0, (.ref 24, 41)), (1, (.int x1, 0)), (2, (.int x2, 0))] [] M K := G.blk 60 _ hd ok_Mod_roomiest rfl h
def bt_Mod_falsest : BtT := [(0, [0, 1], true, [(0, .aload_n 0, 1, 0, 0, 0, m0),
   (1, .iload_n 1, 1, 0, 0, 0, m0),
   (2, .invokevirtual 280, 3, 0, 0, 1832, m_Mod_isLiving),
   (5, .ifCond .ne 9, 3, 14, 0, 0, m0),
   (8, .nop, 0, 0, 0, 0, m0)]),
  (8, [], false, [(8, .aload_n 0, 1, 0, 0, 0, m0),
   (9, .iconst 1, 1, 0, 0, 0, m0),
   (10, .invokevirtual 72, 3, 0, 0, 1629, m_Mod_refuse),
   (13, .ireturn, 1, 0, 0, 0, m0)]),
  (14, [], false, [(14, .iconst (-1), 1, 0, 0, 0, m0),
   (15, .istore_n 2, 1, 0, 0, 0, m0),
   (16, .iconst 0, 1, 0, 0, 0, m0),
   (17, .istore_n 3, 1, 0, 0, 0, m0),
   (18, .nop, 0, 0, 0, 0, m0)]),
  (18, [0, 1, 2, 3], true, [(18, .iload_n 3, 1, 0, 0, 0, m0),
   (19, .aload_n 0, 1, 0, 0, 0, m0),
   (20, .iload_n 1, 1, 0, 0, 0, m0),
   (21, .iconst 1, 1, 0, 0, 0, m0),
   (22, .invokevirtual 171, 3, 0, 0, 1708, m_Mod_of),
   (25, .if_icmp .ge 35, 3, 60, 0, 0, m0),
   (28, .nop, 0, 0, 0, 0, m0)]),
  (28, [], false, [(28, .aload_n 0, 1, 0, 0, 0, m0),
   (29, .iload_n 1, 1, 0, 0, 0, m0),
   (30, .iload_n 3, 1, 0, 0, 0, m0),
   (31, .invokevirtual 180, 3, 0, 0, 1716, m_Mod_debtAt),
   (34, .iload_n 2, 1, 0, 0, 0, m0),
   (35, .iconst (-1), 1, 0, 0, 0, m0),
   (36, .if_icmp .ne 7, 3, 43, 0, 0, m0),
   (39, .nop, 0, 0, 0, 0, m0)]),
  (39, [], false, [(39, .iconst 0, 1, 0, 0, 0, m0),
   (40, .goto 9, 3, 49, 0, 0, m0)]),
  (43, [], false, [(43, .aload_n 0, 1, 0, 0, 0, m0),
   (44, .iload_n 1, 1, 0, 0, 0, m0),
   (45, .iload_n 2, 1, 0, 0, 0, m0),
   (46, .invokevirtual 180, 3, 0, 0, 1716, m_Mod_debtAt),
   (49, .nop, 0, 0, 0, 0, m0)]),
  (49, [], false, [(49, .if_icmp .le 5, 3, 54, 0, 0, m0),
   (52, .nop, 0, 0, 0, 0, m0)]),
  (52, [], false, [(52, .iload_n 3, 1, 0, 0, 0, m0),
   (53, .istore_n 2, 1, 0, 0, 0, m0),
   (54, .nop, 0, 0, 0, 0, m0)]),
  (54, [], false, [(54, .iinc 3 1, 3, 0, 0, 0, m0),
   (57, .goto (-39), 3, 18, 0, 0, m0)]),
  (60, [], false, [(60, .aload_n 0, 1, 0, 0, 0, m0),
   (61, .iload_n 2, 1, 0, 0, 0, m0),
   (62, .invokevirtual 304, 3, 0, 0, 1800, m_Mod_orNone),
   (65, .ireturn, 1, 0, 0, 0, m0)])]
theorem ok_Mod_falsest : okBt m_Mod_falsest bt_Mod_falsest = true := by decide +kernel
set_option maxRecDepth 100000 in
theorem b_Mod_falsest_0 {l : Launch} {E : EnvT} {d : Nat} {K : AV → Mem → Prop} {M : Mem} {x1 : Int32} (hd : 1 ≤ d)
  (h : CT l E (d - 1) m_Mod_isLiving [(.ref 24, 41), (.int x1, 0)] M (fun v1 M1 =>
   ((¬ (toI v1) = 0 →
    G l E d m_Mod_falsest 18 [(0, (.ref 24, 41)), (1, (.int x1, 0)), (2, (.int (iN (-1)), 0)), (3, (.int (iN 0), 0))] [] M1 K) ∧
   ((toI v1) = 0 →
    CT l E (d - 1) m_Mod_refuse [(.ref 24, 41), (.int (iN 1), 0)] M1 (fun v2 M2 =>
     K (.int (toI v2), 0) M2))))) :
  G l E d m_Mod_falsest 0 [(0, (.ref 24, 41)), (1, (.int x1, 0))] [] M K := G.blk 60 _ hd ok_Mod_falsest rfl h
set_option maxRecDepth 100000 in
theorem b_Mod_falsest_18 {l : Launch} {E : EnvT} {d : Nat} {K : AV → Mem → Prop} {M : Mem} {x1 : Int32} {x2 : Int32} {x3 : Int32} (hd : 1 ≤ d)
  (h : CT l E (d - 1) m_Mod_of [(.ref 24, 41), (.int x1, 0), (.int (iN 1), 0)] M (fun v1 M1 =>
   (((toI v1) ≤ x3 →
    CT l E (d - 1) m_Mod_orNone [(.ref 24, 41), (.int x2, 0)] M1 (fun v2 M2 =>
     K (.int (toI v2), 0) M2)) ∧
   (¬ (toI v1) ≤ x3 →
    CT l E (d - 1) m_Mod_debtAt [(.ref 24, 41), (.int x1, 0), (.int x3, 0)] M1 (fun v3 M3 =>
     ((¬ x2 = (iN (-1)) →
      CT l E (d - 1) m_Mod_debtAt [(.ref 24, 41), (.int x1, 0), (.int x2, 0)] M3 (fun v4 M4 =>
       (((toI v3) ≤ (toI v4) →
        G l E d m_Mod_falsest 18 [(0, (.ref 24, 41)), (1, (.int x1, 0)), (2, (.int x2, 0)), (3, (.int (x3 + iN 1), 0))] [] M4 K) ∧
       (¬ (toI v3) ≤ (toI v4) →
        G l E d m_Mod_falsest 18 [(0, (.ref 24, 41)), (1, (.int x1, 0)), (2, (.int x3, 0)), (3, (.int (x3 + iN 1), 0))] [] M4 K)))) ∧
     (x2 = (iN (-1)) →
      (((toI v3) ≤ (iN 0) →
       G l E d m_Mod_falsest 18 [(0, (.ref 24, 41)), (1, (.int x1, 0)), (2, (.int x2, 0)), (3, (.int (x3 + iN 1), 0))] [] M3 K) ∧
      (¬ (toI v3) ≤ (iN 0) →
       G l E d m_Mod_falsest 18 [(0, (.ref 24, 41)), (1, (.int x1, 0)), (2, (.int x3, 0)), (3, (.int (x3 + iN 1), 0))] [] M3 K))))))))) :
  G l E d m_Mod_falsest 18 [(0, (.ref 24, 41)), (1, (.int x1, 0)), (2, (.int x2, 0)), (3, (.int x3, 0))] [] M K := G.blk 60 _ hd ok_Mod_falsest rfl h
def bt_Mod_wrongTray : BtT := [(0, [0, 1, 2], true, [(0, .aload_n 0, 1, 0, 0, 0, m0),
   (1, .iload_n 1, 1, 0, 0, 0, m0),
   (2, .invokevirtual 280, 3, 0, 0, 1832, m_Mod_isLiving),
   (5, .ifCond .eq 10, 3, 15, 0, 0, m0),
   (8, .nop, 0, 0, 0, 0, m0)]),
  (8, [], false, [(8, .iload_n 2, 1, 0, 0, 0, m0),
   (9, .invokestatic 83, 3, 0, 0, 1566, m_Mod_isTray),
   (12, .ifCond .ne 5, 3, 17, 0, 0, m0),
   (15, .nop, 0, 0, 0, 0, m0)]),
  (15, [], false, [(15, .iconst 1, 1, 0, 0, 0, m0),
   (16, .ireturn, 1, 0, 0, 0, m0)]),
  (17, [], false, [(17, .aload_n 0, 1, 0, 0, 0, m0),
   (18, .getfield 24, 3, 6, 11, 1453, m0),
   (21, .iload_n 2, 1, 0, 0, 0, m0),
   (22, .iaload, 1, 0, 0, 0, m0),
   (23, .iconst (-1), 1, 0, 0, 0, m0),
   (24, .if_icmp .ne 5, 3, 29, 0, 0, m0),
   (27, .nop, 0, 0, 0, 0, m0)]),
  (27, [], false, [(27, .iconst 2, 1, 0, 0, 0, m0),
   (28, .ireturn, 1, 0, 0, 0, m0)]),
  (29, [], false, [(29, .aload_n 0, 1, 0, 0, 0, m0),
   (30, .getfield 24, 3, 6, 11, 1453, m0),
   (33, .iload_n 2, 1, 0, 0, 0, m0),
   (34, .iaload, 1, 0, 0, 0, m0),
   (35, .aload_n 0, 1, 0, 0, 0, m0),
   (36, .iload_n 1, 1, 0, 0, 0, m0),
   (37, .iconst 1, 1, 0, 0, 0, m0),
   (38, .invokevirtual 171, 3, 0, 0, 1708, m_Mod_of),
   (41, .if_icmp .ge 5, 3, 46, 0, 0, m0),
   (44, .nop, 0, 0, 0, 0, m0)]),
  (44, [], false, [(44, .iconst 3, 1, 0, 0, 0, m0),
   (45, .ireturn, 1, 0, 0, 0, m0)]),
  (46, [], false, [(46, .iconst 0, 1, 0, 0, 0, m0),
   (47, .istore_n 3, 1, 0, 0, 0, m0),
   (48, .nop, 0, 0, 0, 0, m0)]),
  (48, [0, 1, 2, 3], true, [(48, .iload_n 3, 1, 0, 0, 0, m0),
   (49, .aload_n 0, 1, 0, 0, 0, m0),
   (50, .iload_n 1, 1, 0, 0, 0, m0),
   (51, .iconst 1, 1, 0, 0, 0, m0),
   (52, .invokevirtual 171, 3, 0, 0, 1708, m_Mod_of),
   (55, .if_icmp .ge 34, 3, 89, 0, 0, m0),
   (58, .nop, 0, 0, 0, 0, m0)]),
  (58, [], false, [(58, .aload_n 0, 1, 0, 0, 0, m0),
   (59, .getfield 27, 3, 7, 11, 1454, m0),
   (62, .bipush 60, 2, 0, 0, 0, m0),
   (64, .iload_n 2, 1, 0, 0, 0, m0),
   (65, .imul, 1, 0, 0, 0, m0),
   (66, .iload_n 3, 1, 0, 0, 0, m0),
   (67, .iadd, 1, 0, 0, 0, m0),
   (68, .laload, 1, 0, 0, 0, m0),
   (69, .ldc2_w 400, 3, 1, (-12), 2086, m0),
   (72, .ldc2_w 402, 3, 1, 2000, 2087, m0),
   (75, .invokestatic 218, 3, 0, 0, 1684, m_Mod_isFrom),
   (78, .ifCond .ne 5, 3, 83, 0, 0, m0),
   (81, .nop, 0, 0, 0, 0, m0)]),
  (81, [], false, [(81, .iconst 5, 1, 0, 0, 0, m0),
   (82, .ireturn, 1, 0, 0, 0, m0)]),
  (83, [], false, [(83, .iinc 3 1, 3, 0, 0, 0, m0),
   (86, .goto (-38), 3, 48, 0, 0, m0)]),
  (89, [], false, [(89, .iconst 0, 1, 0, 0, 0, m0),
   (90, .ireturn, 1, 0, 0, 0, m0)])]
theorem ok_Mod_wrongTray : okBt m_Mod_wrongTray bt_Mod_wrongTray = true := by decide +kernel
set_option maxRecDepth 100000 in
theorem b_Mod_wrongTray_0 {l : Launch} {E : EnvT} {d : Nat} {K : AV → Mem → Prop} {M : Mem} {x1 : Int32} {x2 : Int32} (hd : 1 ≤ d)
  (h : CT l E (d - 1) m_Mod_isLiving [(.ref 24, 41), (.int x1, 0)] M (fun v1 M1 =>
   (((toI v1) = 0 →
    K (.int (iN 1), 0) M1) ∧
   (¬ (toI v1) = 0 →
    CT l E (d - 1) m_Mod_isTray [(.int x2, 0)] M1 (fun v2 M2 =>
     ((¬ (toI v2) = 0 →
      (vp_in x2 4 ∧ ((¬ (iN (M2 24 4 (x2).toNatClampNeg)) = (iN (-1)) →
       (vp_in x2 4 ∧ CT l E (d - 1) m_Mod_of [(.ref 24, 41), (.int x1, 0), (.int (iN 1), 0)] M2 (fun v3 M3 =>
        (((toI v3) ≤ (iN (M2 24 4 (x2).toNatClampNeg)) →
         G l E d m_Mod_wrongTray 48 [(0, (.ref 24, 41)), (1, (.int x1, 0)), (2, (.int x2, 0)), (3, (.int (iN 0), 0))] [] M3 K) ∧
        (¬ (toI v3) ≤ (iN (M2 24 4 (x2).toNatClampNeg)) →
         K (.int (iN 3), 0) M3))))) ∧
      ((iN (M2 24 4 (x2).toNatClampNeg)) = (iN (-1)) →
       K (.int (iN 2), 0) M2)))) ∧
     ((toI v2) = 0 →
      K (.int (iN 1), 0) M2))))))) :
  G l E d m_Mod_wrongTray 0 [(0, (.ref 24, 41)), (1, (.int x1, 0)), (2, (.int x2, 0))] [] M K := G.blk 60 _ hd ok_Mod_wrongTray rfl h
set_option maxRecDepth 100000 in
theorem b_Mod_wrongTray_48 {l : Launch} {E : EnvT} {d : Nat} {K : AV → Mem → Prop} {M : Mem} {x1 : Int32} {x2 : Int32} {x3 : Int32} (hd : 1 ≤ d)
  (h : CT l E (d - 1) m_Mod_of [(.ref 24, 41), (.int x1, 0), (.int (iN 1), 0)] M (fun v1 M1 =>
   (((toI v1) ≤ x3 →
    K (.int (iN 0), 0) M1) ∧
   (¬ (toI v1) ≤ x3 →
    (vp_in (((iN 60) * x2) + x3) 240 ∧ CT l E (d - 1) m_Mod_isFrom [(.long (lI (M1 24 5 ((((iN 60) * x2) + x3)).toNatClampNeg)), 0), (.long (lI (-12)), 0), (.long (lI 2000), 0)] M1 (fun v2 M2 =>
     ((¬ (toI v2) = 0 →
      G l E d m_Mod_wrongTray 48 [(0, (.ref 24, 41)), (1, (.int x1, 0)), (2, (.int x2, 0)), (3, (.int (x3 + iN 1), 0))] [] M2 K) ∧
     ((toI v2) = 0 →
      K (.int (iN 5), 0) M2)))))))) :
  G l E d m_Mod_wrongTray 48 [(0, (.ref 24, 41)), (1, (.int x1, 0)), (2, (.int x2, 0)), (3, (.int x3, 0))] [] M K := G.blk 60 _ hd ok_Mod_wrongTray rfl h
def bt_Mod_heard : BtT := [(0, [0, 1, 2], true, [(0, .aload_n 0, 1, 0, 0, 0, m0),
   (1, .iload_n 1, 1, 0, 0, 0, m0),
   (2, .iload_n 2, 1, 0, 0, 0, m0),
   (3, .invokevirtual 404, 3, 0, 0, 2082, m_Mod_wrongTray),
   (6, .istore_n 3, 1, 0, 0, 0, m0),
   (7, .iload_n 3, 1, 0, 0, 0, m0),
   (8, .ifCond .le 9, 3, 17, 0, 0, m0),
   (11, .nop, 0, 0, 0, 0, m0)]),
  (11, [], false, [(11, .aload_n 0, 1, 0, 0, 0, m0),
   (12, .iload_n 3, 1, 0, 0, 0, m0),
   (13, .invokevirtual 72, 3, 0, 0, 1629, m_Mod_refuse),
   (16, .ireturn, 1, 0, 0, 0, m0)]),
  (17, [], false, [(17, .iconst 0, 1, 0, 0, 0, m0),
   (18, .istore 4, 2, 0, 0, 0, m0),
   (20, .iconst 0, 1, 0, 0, 0, m0),
   (21, .istore 5, 2, 0, 0, 0, m0),
   (23, .nop, 0, 0, 0, 0, m0)]),
  (23, [0, 1, 2, 4, 5], true, [(23, .iload 5, 2, 0, 0, 0, m0),
   (25, .aload_n 0, 1, 0, 0, 0, m0),
   (26, .iload_n 1, 1, 0, 0, 0, m0),
   (27, .iconst 1, 1, 0, 0, 0, m0),
   (28, .invokevirtual 171, 3, 0, 0, 1708, m_Mod_of),
   (31, .if_icmp .ge 43, 3, 74, 0, 0, m0),
   (34, .nop, 0, 0, 0, 0, m0)]),
  (34, [], false, [(34, .iload 4, 2, 0, 0, 0, m0),
   (36, .aload_n 0, 1, 0, 0, 0, m0),
   (37, .getfield 27, 3, 7, 11, 1454, m0),
   (40, .bipush 60, 2, 0, 0, 0, m0),
   (42, .iload_n 2, 1, 0, 0, 0, m0),
   (43, .imul, 1, 0, 0, 0, m0),
   (44, .iload 5, 2, 0, 0, 0, m0),
   (46, .iadd, 1, 0, 0, 0, m0),
   (47, .laload, 1, 0, 0, 0, m0),
   (48, .l2i, 1, 0, 0, 0, m0),
   (49, .aload_n 0, 1, 0, 0, 0, m0),
   (50, .iload_n 1, 1, 0, 0, 0, m0),
   (51, .iload 5, 2, 0, 0, 0, m0),
   (53, .invokevirtual 313, 3, 0, 0, 1840, m_Mod_sungAt),
   (56, .isub, 1, 0, 0, 0, m0),
   (57, .aload_n 0, 1, 0, 0, 0, m0),
   (58, .iload_n 1, 1, 0, 0, 0, m0),
   (59, .iload 5, 2, 0, 0, 0, m0),
   (61, .invokevirtual 180, 3, 0, 0, 1716, m_Mod_debtAt),
   (64, .iadd, 1, 0, 0, 0, m0),
   (65, .iadd, 1, 0, 0, 0, m0),
   (66, .istore 4, 2, 0, 0, 0, m0),
   (68, .iinc 5 1, 3, 0, 0, 0, m0),
   (71, .goto (-48), 3, 23, 0, 0, m0)]),
  (74, [], false, [(74, .aload_n 0, 1, 0, 0, 0, m0),
   (75, .iload 4, 2, 0, 0, 0, m0),
   (77, .invokevirtual 76, 3, 0, 0, 1740, m_Mod_gives),
   (80, .ireturn, 1, 0, 0, 0, m0)])]
theorem ok_Mod_heard : okBt m_Mod_heard bt_Mod_heard = true := by decide +kernel
set_option maxRecDepth 100000 in
theorem b_Mod_heard_0 {l : Launch} {E : EnvT} {d : Nat} {K : AV → Mem → Prop} {M : Mem} {x1 : Int32} {x2 : Int32} (hd : 1 ≤ d)
  (h : CT l E (d - 1) m_Mod_wrongTray [(.ref 24, 41), (.int x1, 0), (.int x2, 0)] M (fun v1 M1 =>
   (((toI v1) ≤ 0 →
    G l E d m_Mod_heard 23 [(0, (.ref 24, 41)), (1, (.int x1, 0)), (2, (.int x2, 0)), (4, (.int (iN 0), 0)), (5, (.int (iN 0), 0))] [] M1 K) ∧
   (¬ (toI v1) ≤ 0 →
    CT l E (d - 1) m_Mod_refuse [(.ref 24, 41), (.int (toI v1), 0)] M1 (fun v2 M2 =>
     K (.int (toI v2), 0) M2))))) :
  G l E d m_Mod_heard 0 [(0, (.ref 24, 41)), (1, (.int x1, 0)), (2, (.int x2, 0))] [] M K := G.blk 60 _ hd ok_Mod_heard rfl h
set_option maxRecDepth 100000 in
theorem b_Mod_heard_23 {l : Launch} {E : EnvT} {d : Nat} {K : AV → Mem → Prop} {M : Mem} {x1 : Int32} {x2 : Int32} {x4 : Int32} {x5 : Int32} (hd : 1 ≤ d)
  (h : CT l E (d - 1) m_Mod_of [(.ref 24, 41), (.int x1, 0), (.int (iN 1), 0)] M (fun v1 M1 =>
   (((toI v1) ≤ x5 →
    CT l E (d - 1) m_Mod_gives [(.ref 24, 41), (.int x4, 0)] M1 (fun v2 M2 =>
     K (.int (toI v2), 0) M2)) ∧
   (¬ (toI v1) ≤ x5 →
    (vp_in (((iN 60) * x2) + x5) 240 ∧ CT l E (d - 1) m_Mod_sungAt [(.ref 24, 41), (.int x1, 0), (.int x5, 0)] M1 (fun v3 M3 =>
     CT l E (d - 1) m_Mod_debtAt [(.ref 24, 41), (.int x1, 0), (.int x5, 0)] M3 (fun v4 M4 =>
      G l E d m_Mod_heard 23 [(0, (.ref 24, 41)), (1, (.int x1, 0)), (2, (.int x2, 0)), (4, (.int (x4 + ((((lI (M1 24 5 ((((iN 60) * x2) + x5)).toNatClampNeg))).toInt32 - (toI v3)) + (toI v4))), 0)), (5, (.int (x5 + iN 1), 0))] [] M4 K))))))) :
  G l E d m_Mod_heard 23 [(0, (.ref 24, 41)), (1, (.int x1, 0)), (2, (.int x2, 0)), (4, (.int x4, 0)), (5, (.int x5, 0))] [] M K := G.blk 60 _ hd ok_Mod_heard rfl h
def bt_Mod_offBy : BtT := [(0, [0, 1, 2, 3], true, [(0, .aload_n 0, 1, 0, 0, 0, m0),
   (1, .getfield 27, 3, 7, 11, 1454, m0),
   (4, .bipush 60, 2, 0, 0, 0, m0),
   (6, .iload_n 2, 1, 0, 0, 0, m0),
   (7, .imul, 1, 0, 0, 0, m0),
   (8, .iload_n 3, 1, 0, 0, 0, m0),
   (9, .iadd, 1, 0, 0, 0, m0),
   (10, .laload, 1, 0, 0, 0, m0),
   (11, .l2i, 1, 0, 0, 0, m0),
   (12, .aload_n 0, 1, 0, 0, 0, m0),
   (13, .iload_n 1, 1, 0, 0, 0, m0),
   (14, .iload_n 3, 1, 0, 0, 0, m0),
   (15, .invokevirtual 313, 3, 0, 0, 1840, m_Mod_sungAt),
   (18, .isub, 1, 0, 0, 0, m0),
   (19, .ireturn, 1, 0, 0, 0, m0)])]
theorem ok_Mod_offBy : okBt m_Mod_offBy bt_Mod_offBy = true := by decide +kernel
set_option maxRecDepth 100000 in
theorem b_Mod_offBy_0 {l : Launch} {E : EnvT} {d : Nat} {K : AV → Mem → Prop} {M : Mem} {x1 : Int32} {x2 : Int32} {x3 : Int32} (hd : 1 ≤ d)
  (h : (vp_in (((iN 60) * x2) + x3) 240 ∧ CT l E (d - 1) m_Mod_sungAt [(.ref 24, 41), (.int x1, 0), (.int x3, 0)] M (fun v1 M1 =>
   K (.int (((lI (M 24 5 ((((iN 60) * x2) + x3)).toNatClampNeg))).toInt32 - (toI v1)), 0) M1))) :
  G l E d m_Mod_offBy 0 [(0, (.ref 24, 41)), (1, (.int x1, 0)), (2, (.int x2, 0)), (3, (.int x3, 0))] [] M K := G.blk 60 _ hd ok_Mod_offBy rfl h
def bt_Mod_transposed : BtT := [(0, [0, 1, 2], true, [(0, .aload_n 0, 1, 0, 0, 0, m0),
   (1, .iload_n 1, 1, 0, 0, 0, m0),
   (2, .iload_n 2, 1, 0, 0, 0, m0),
   (3, .invokevirtual 404, 3, 0, 0, 2082, m_Mod_wrongTray),
   (6, .istore_n 3, 1, 0, 0, 0, m0),
   (7, .iload_n 3, 1, 0, 0, 0, m0),
   (8, .ifCond .le 9, 3, 17, 0, 0, m0),
   (11, .nop, 0, 0, 0, 0, m0)]),
  (11, [], false, [(11, .aload_n 0, 1, 0, 0, 0, m0),
   (12, .iload_n 3, 1, 0, 0, 0, m0),
   (13, .invokevirtual 72, 3, 0, 0, 1629, m_Mod_refuse),
   (16, .ireturn, 1, 0, 0, 0, m0)]),
  (17, [], false, [(17, .iconst 1, 1, 0, 0, 0, m0),
   (18, .istore 4, 2, 0, 0, 0, m0),
   (20, .nop, 0, 0, 0, 0, m0)]),
  (20, [0, 1, 2, 4], true, [(20, .iload 4, 2, 0, 0, 0, m0),
   (22, .aload_n 0, 1, 0, 0, 0, m0),
   (23, .iload_n 1, 1, 0, 0, 0, m0),
   (24, .iconst 1, 1, 0, 0, 0, m0),
   (25, .invokevirtual 171, 3, 0, 0, 1708, m_Mod_of),
   (28, .if_icmp .ge 34, 3, 62, 0, 0, m0),
   (31, .nop, 0, 0, 0, 0, m0)]),
  (31, [], false, [(31, .aload_n 0, 1, 0, 0, 0, m0),
   (32, .iload_n 1, 1, 0, 0, 0, m0),
   (33, .iload_n 2, 1, 0, 0, 0, m0),
   (34, .iload 4, 2, 0, 0, 0, m0),
   (36, .invokevirtual 407, 3, 0, 0, 2092, m_Mod_offBy),
   (39, .aload_n 0, 1, 0, 0, 0, m0),
   (40, .iload_n 1, 1, 0, 0, 0, m0),
   (41, .iload_n 2, 1, 0, 0, 0, m0),
   (42, .iconst 0, 1, 0, 0, 0, m0),
   (43, .invokevirtual 407, 3, 0, 0, 2092, m_Mod_offBy),
   (46, .if_icmp .eq 10, 3, 56, 0, 0, m0),
   (49, .nop, 0, 0, 0, 0, m0)]),
  (49, [], false, [(49, .aload_n 0, 1, 0, 0, 0, m0),
   (50, .bipush 6, 2, 0, 0, 0, m0),
   (52, .invokevirtual 72, 3, 0, 0, 1629, m_Mod_refuse),
   (55, .ireturn, 1, 0, 0, 0, m0)]),
  (56, [], false, [(56, .iinc 4 1, 3, 0, 0, 0, m0),
   (59, .goto (-39), 3, 20, 0, 0, m0)]),
  (62, [], false, [(62, .aload_n 0, 1, 0, 0, 0, m0),
   (63, .aload_n 0, 1, 0, 0, 0, m0),
   (64, .iload_n 1, 1, 0, 0, 0, m0),
   (65, .iload_n 2, 1, 0, 0, 0, m0),
   (66, .iconst 0, 1, 0, 0, 0, m0),
   (67, .invokevirtual 407, 3, 0, 0, 2092, m_Mod_offBy),
   (70, .invokevirtual 76, 3, 0, 0, 1740, m_Mod_gives),
   (73, .ireturn, 1, 0, 0, 0, m0)])]
theorem ok_Mod_transposed : okBt m_Mod_transposed bt_Mod_transposed = true := by decide +kernel
set_option maxRecDepth 100000 in
theorem b_Mod_transposed_0 {l : Launch} {E : EnvT} {d : Nat} {K : AV → Mem → Prop} {M : Mem} {x1 : Int32} {x2 : Int32} (hd : 1 ≤ d)
  (h : CT l E (d - 1) m_Mod_wrongTray [(.ref 24, 41), (.int x1, 0), (.int x2, 0)] M (fun v1 M1 =>
   (((toI v1) ≤ 0 →
    G l E d m_Mod_transposed 20 [(0, (.ref 24, 41)), (1, (.int x1, 0)), (2, (.int x2, 0)), (4, (.int (iN 1), 0))] [] M1 K) ∧
   (¬ (toI v1) ≤ 0 →
    CT l E (d - 1) m_Mod_refuse [(.ref 24, 41), (.int (toI v1), 0)] M1 (fun v2 M2 =>
     K (.int (toI v2), 0) M2))))) :
  G l E d m_Mod_transposed 0 [(0, (.ref 24, 41)), (1, (.int x1, 0)), (2, (.int x2, 0))] [] M K := G.blk 60 _ hd ok_Mod_transposed rfl h
set_option maxRecDepth 100000 in
theorem b_Mod_transposed_20 {l : Launch} {E : EnvT} {d : Nat} {K : AV → Mem → Prop} {M : Mem} {x1 : Int32} {x2 : Int32} {x4 : Int32} (hd : 1 ≤ d)
  (h : CT l E (d - 1) m_Mod_of [(.ref 24, 41), (.int x1, 0), (.int (iN 1), 0)] M (fun v1 M1 =>
   (((toI v1) ≤ x4 →
    CT l E (d - 1) m_Mod_offBy [(.ref 24, 41), (.int x1, 0), (.int x2, 0), (.int (iN 0), 0)] M1 (fun v2 M2 =>
     CT l E (d - 1) m_Mod_gives [(.ref 24, 41), (.int (toI v2), 0)] M2 (fun v3 M3 =>
      K (.int (toI v3), 0) M3))) ∧
   (¬ (toI v1) ≤ x4 →
    CT l E (d - 1) m_Mod_offBy [(.ref 24, 41), (.int x1, 0), (.int x2, 0), (.int x4, 0)] M1 (fun v4 M4 =>
     CT l E (d - 1) m_Mod_offBy [(.ref 24, 41), (.int x1, 0), (.int x2, 0), (.int (iN 0), 0)] M4 (fun v5 M5 =>
      (((toI v4) = (toI v5) →
       G l E d m_Mod_transposed 20 [(0, (.ref 24, 41)), (1, (.int x1, 0)), (2, (.int x2, 0)), (4, (.int (x4 + iN 1), 0))] [] M5 K) ∧
      (¬ (toI v4) = (toI v5) →
       CT l E (d - 1) m_Mod_refuse [(.ref 24, 41), (.int (iN 6), 0)] M5 (fun v6 M6 =>
        K (.int (toI v6), 0) M6))))))))) :
  G l E d m_Mod_transposed 20 [(0, (.ref 24, 41)), (1, (.int x1, 0)), (2, (.int x2, 0)), (4, (.int x4, 0))] [] M K := G.blk 60 _ hd ok_Mod_transposed rfl h
def bt_Mod_forged : BtT := [(0, [0, 1, 2], true, [(0, .aload_n 0, 1, 0, 0, 0, m0),
   (1, .iload_n 1, 1, 0, 0, 0, m0),
   (2, .iload_n 2, 1, 0, 0, 0, m0),
   (3, .invokevirtual 404, 3, 0, 0, 2082, m_Mod_wrongTray),
   (6, .istore_n 3, 1, 0, 0, 0, m0),
   (7, .iload_n 3, 1, 0, 0, 0, m0),
   (8, .ifCond .le 9, 3, 17, 0, 0, m0),
   (11, .nop, 0, 0, 0, 0, m0)]),
  (11, [], false, [(11, .aload_n 0, 1, 0, 0, 0, m0),
   (12, .iload_n 3, 1, 0, 0, 0, m0),
   (13, .invokevirtual 72, 3, 0, 0, 1629, m_Mod_refuse),
   (16, .ireturn, 1, 0, 0, 0, m0)]),
  (17, [], false, [(17, .iconst (-1), 1, 0, 0, 0, m0),
   (18, .istore 4, 2, 0, 0, 0, m0),
   (20, .iconst 0, 1, 0, 0, 0, m0),
   (21, .istore 5, 2, 0, 0, 0, m0),
   (23, .nop, 0, 0, 0, 0, m0)]),
  (23, [0, 1, 2, 4, 5], true, [(23, .iload 5, 2, 0, 0, 0, m0),
   (25, .aload_n 0, 1, 0, 0, 0, m0),
   (26, .iload_n 1, 1, 0, 0, 0, m0),
   (27, .iconst 1, 1, 0, 0, 0, m0),
   (28, .invokevirtual 171, 3, 0, 0, 1708, m_Mod_of),
   (31, .if_icmp .ge 40, 3, 71, 0, 0, m0),
   (34, .nop, 0, 0, 0, 0, m0)]),
  (34, [], false, [(34, .aload_n 0, 1, 0, 0, 0, m0),
   (35, .iload_n 1, 1, 0, 0, 0, m0),
   (36, .iload_n 2, 1, 0, 0, 0, m0),
   (37, .iload 5, 2, 0, 0, 0, m0),
   (39, .invokevirtual 407, 3, 0, 0, 2092, m_Mod_offBy),
   (42, .ifCond .ne 6, 3, 48, 0, 0, m0),
   (45, .nop, 0, 0, 0, 0, m0)]),
  (45, [], false, [(45, .goto 20, 3, 65, 0, 0, m0)]),
  (48, [], false, [(48, .iload 4, 2, 0, 0, 0, m0),
   (50, .iconst (-1), 1, 0, 0, 0, m0),
   (51, .if_icmp .eq 10, 3, 61, 0, 0, m0),
   (54, .nop, 0, 0, 0, 0, m0)]),
  (54, [], false, [(54, .aload_n 0, 1, 0, 0, 0, m0),
   (55, .bipush 6, 2, 0, 0, 0, m0),
   (57, .invokevirtual 72, 3, 0, 0, 1629, m_Mod_refuse),
   (60, .ireturn, 1, 0, 0, 0, m0)]),
  (61, [], false, [(61, .iload 5, 2, 0, 0, 0, m0),
   (63, .istore 4, 2, 0, 0, 0, m0),
   (65, .nop, 0, 0, 0, 0, m0)]),
  (65, [], false, [(65, .iinc 5 1, 3, 0, 0, 0, m0),
   (68, .goto (-45), 3, 23, 0, 0, m0)]),
  (71, [], false, [(71, .aload_n 0, 1, 0, 0, 0, m0),
   (72, .iload 4, 2, 0, 0, 0, m0),
   (74, .invokevirtual 304, 3, 0, 0, 1800, m_Mod_orNone),
   (77, .ireturn, 1, 0, 0, 0, m0)])]
theorem ok_Mod_forged : okBt m_Mod_forged bt_Mod_forged = true := by decide +kernel
set_option maxRecDepth 100000 in
theorem b_Mod_forged_0 {l : Launch} {E : EnvT} {d : Nat} {K : AV → Mem → Prop} {M : Mem} {x1 : Int32} {x2 : Int32} (hd : 1 ≤ d)
  (h : CT l E (d - 1) m_Mod_wrongTray [(.ref 24, 41), (.int x1, 0), (.int x2, 0)] M (fun v1 M1 =>
   (((toI v1) ≤ 0 →
    G l E d m_Mod_forged 23 [(0, (.ref 24, 41)), (1, (.int x1, 0)), (2, (.int x2, 0)), (4, (.int (iN (-1)), 0)), (5, (.int (iN 0), 0))] [] M1 K) ∧
   (¬ (toI v1) ≤ 0 →
    CT l E (d - 1) m_Mod_refuse [(.ref 24, 41), (.int (toI v1), 0)] M1 (fun v2 M2 =>
     K (.int (toI v2), 0) M2))))) :
  G l E d m_Mod_forged 0 [(0, (.ref 24, 41)), (1, (.int x1, 0)), (2, (.int x2, 0))] [] M K := G.blk 60 _ hd ok_Mod_forged rfl h
set_option maxRecDepth 100000 in
theorem b_Mod_forged_23 {l : Launch} {E : EnvT} {d : Nat} {K : AV → Mem → Prop} {M : Mem} {x1 : Int32} {x2 : Int32} {x4 : Int32} {x5 : Int32} (hd : 1 ≤ d)
  (h : CT l E (d - 1) m_Mod_of [(.ref 24, 41), (.int x1, 0), (.int (iN 1), 0)] M (fun v1 M1 =>
   (((toI v1) ≤ x5 →
    CT l E (d - 1) m_Mod_orNone [(.ref 24, 41), (.int x4, 0)] M1 (fun v2 M2 =>
     K (.int (toI v2), 0) M2)) ∧
   (¬ (toI v1) ≤ x5 →
    CT l E (d - 1) m_Mod_offBy [(.ref 24, 41), (.int x1, 0), (.int x2, 0), (.int x5, 0)] M1 (fun v3 M3 =>
     ((¬ (toI v3) = 0 →
      ((x4 = (iN (-1)) →
       G l E d m_Mod_forged 23 [(0, (.ref 24, 41)), (1, (.int x1, 0)), (2, (.int x2, 0)), (4, (.int x5, 0)), (5, (.int (x5 + iN 1), 0))] [] M3 K) ∧
      (¬ x4 = (iN (-1)) →
       CT l E (d - 1) m_Mod_refuse [(.ref 24, 41), (.int (iN 6), 0)] M3 (fun v4 M4 =>
        K (.int (toI v4), 0) M4)))) ∧
     ((toI v3) = 0 →
      G l E d m_Mod_forged 23 [(0, (.ref 24, 41)), (1, (.int x1, 0)), (2, (.int x2, 0)), (4, (.int x4, 0)), (5, (.int (x5 + iN 1), 0))] [] M3 K))))))) :
  G l E d m_Mod_forged 23 [(0, (.ref 24, 41)), (1, (.int x1, 0)), (2, (.int x2, 0)), (4, (.int x4, 0)), (5, (.int x5, 0))] [] M K := G.blk 60 _ hd ok_Mod_forged rfl h
def bt_Mod_whose : BtT := [(0, [0, 1, 2], true, [(0, .aload_n 0, 1, 0, 0, 0, m0),
   (1, .iload_n 1, 1, 0, 0, 0, m0),
   (2, .invokevirtual 280, 3, 0, 0, 1832, m_Mod_isLiving),
   (5, .ifCond .eq 15, 3, 20, 0, 0, m0),
   (8, .nop, 0, 0, 0, 0, m0)]),
  (8, [], false, [(8, .iload_n 2, 1, 0, 0, 0, m0),
   (9, .i2l, 1, 0, 0, 0, m0),
   (10, .lconst 1, 1, 0, 0, 0, m0),
   (11, .ldc2_w 335, 3, 1, 999, 1868, m0),
   (14, .invokestatic 218, 3, 0, 0, 1684, m_Mod_isFrom),
   (17, .ifCond .ne 9, 3, 26, 0, 0, m0),
   (20, .nop, 0, 0, 0, 0, m0)]),
  (20, [], false, [(20, .aload_n 0, 1, 0, 0, 0, m0),
   (21, .iconst 1, 1, 0, 0, 0, m0),
   (22, .invokevirtual 72, 3, 0, 0, 1629, m_Mod_refuse),
   (25, .ireturn, 1, 0, 0, 0, m0)]),
  (26, [], false, [(26, .iconst 0, 1, 0, 0, 0, m0),
   (27, .istore_n 3, 1, 0, 0, 0, m0),
   (28, .nop, 0, 0, 0, 0, m0)]),
  (28, [0, 1, 2, 3], true, [(28, .iload_n 3, 1, 0, 0, 0, m0),
   (29, .aload_n 0, 1, 0, 0, 0, m0),
   (30, .iload_n 1, 1, 0, 0, 0, m0),
   (31, .iconst 1, 1, 0, 0, 0, m0),
   (32, .invokevirtual 171, 3, 0, 0, 1708, m_Mod_of),
   (35, .if_icmp .ge 30, 3, 65, 0, 0, m0),
   (38, .nop, 0, 0, 0, 0, m0)]),
  (38, [], false, [(38, .aload_n 0, 1, 0, 0, 0, m0),
   (39, .iload_n 1, 1, 0, 0, 0, m0),
   (40, .iload_n 3, 1, 0, 0, 0, m0),
   (41, .invokevirtual 180, 3, 0, 0, 1716, m_Mod_debtAt),
   (44, .iload_n 2, 1, 0, 0, 0, m0),
   (45, .if_icmp .ne 14, 3, 59, 0, 0, m0),
   (48, .nop, 0, 0, 0, 0, m0)]),
  (48, [], false, [(48, .aload_n 0, 1, 0, 0, 0, m0),
   (49, .aload_n 0, 1, 0, 0, 0, m0),
   (50, .iload_n 1, 1, 0, 0, 0, m0),
   (51, .iload_n 3, 1, 0, 0, 0, m0),
   (52, .invokevirtual 174, 3, 0, 0, 1712, m_Mod_holderOf),
   (55, .invokevirtual 76, 3, 0, 0, 1740, m_Mod_gives),
   (58, .ireturn, 1, 0, 0, 0, m0)]),
  (59, [], false, [(59, .iinc 3 1, 3, 0, 0, 0, m0),
   (62, .goto (-34), 3, 28, 0, 0, m0)]),
  (65, [], false, [(65, .aload_n 0, 1, 0, 0, 0, m0),
   (66, .bipush 6, 2, 0, 0, 0, m0),
   (68, .invokevirtual 72, 3, 0, 0, 1629, m_Mod_refuse),
   (71, .ireturn, 1, 0, 0, 0, m0)])]
theorem ok_Mod_whose : okBt m_Mod_whose bt_Mod_whose = true := by decide +kernel
set_option maxRecDepth 100000 in
theorem b_Mod_whose_0 {l : Launch} {E : EnvT} {d : Nat} {K : AV → Mem → Prop} {M : Mem} {x1 : Int32} {x2 : Int32} (hd : 1 ≤ d)
  (h : CT l E (d - 1) m_Mod_isLiving [(.ref 24, 41), (.int x1, 0)] M (fun v1 M1 =>
   (((toI v1) = 0 →
    CT l E (d - 1) m_Mod_refuse [(.ref 24, 41), (.int (iN 1), 0)] M1 (fun v2 M2 =>
     K (.int (toI v2), 0) M2)) ∧
   (¬ (toI v1) = 0 →
    CT l E (d - 1) m_Mod_isFrom [(.long (x2).toInt64, 0), (.long (lI 1), 0), (.long (lI 999), 0)] M1 (fun v3 M3 =>
     ((¬ (toI v3) = 0 →
      G l E d m_Mod_whose 28 [(0, (.ref 24, 41)), (1, (.int x1, 0)), (2, (.int x2, 0)), (3, (.int (iN 0), 0))] [] M3 K) ∧
     ((toI v3) = 0 →
      CT l E (d - 1) m_Mod_refuse [(.ref 24, 41), (.int (iN 1), 0)] M3 (fun v4 M4 =>
       K (.int (toI v4), 0) M4)))))))) :
  G l E d m_Mod_whose 0 [(0, (.ref 24, 41)), (1, (.int x1, 0)), (2, (.int x2, 0))] [] M K := G.blk 60 _ hd ok_Mod_whose rfl h
set_option maxRecDepth 100000 in
theorem b_Mod_whose_28 {l : Launch} {E : EnvT} {d : Nat} {K : AV → Mem → Prop} {M : Mem} {x1 : Int32} {x2 : Int32} {x3 : Int32} (hd : 1 ≤ d)
  (h : CT l E (d - 1) m_Mod_of [(.ref 24, 41), (.int x1, 0), (.int (iN 1), 0)] M (fun v1 M1 =>
   (((toI v1) ≤ x3 →
    CT l E (d - 1) m_Mod_refuse [(.ref 24, 41), (.int (iN 6), 0)] M1 (fun v2 M2 =>
     K (.int (toI v2), 0) M2)) ∧
   (¬ (toI v1) ≤ x3 →
    CT l E (d - 1) m_Mod_debtAt [(.ref 24, 41), (.int x1, 0), (.int x3, 0)] M1 (fun v3 M3 =>
     ((¬ (toI v3) = x2 →
      G l E d m_Mod_whose 28 [(0, (.ref 24, 41)), (1, (.int x1, 0)), (2, (.int x2, 0)), (3, (.int (x3 + iN 1), 0))] [] M3 K) ∧
     ((toI v3) = x2 →
      CT l E (d - 1) m_Mod_holderOf [(.ref 24, 41), (.int x1, 0), (.int x3, 0)] M3 (fun v4 M4 =>
       CT l E (d - 1) m_Mod_gives [(.ref 24, 41), (.int (toI v4), 0)] M4 (fun v5 M5 =>
        K (.int (toI v5), 0) M5))))))))) :
  G l E d m_Mod_whose 28 [(0, (.ref 24, 41)), (1, (.int x1, 0)), (2, (.int x2, 0)), (3, (.int x3, 0))] [] M K := G.blk 60 _ hd ok_Mod_whose rfl h
def bt_Mod_isOwed : BtT := [(0, [0], true, [(0, .iload_n 0, 1, 0, 0, 0, m0),
   (1, .i2l, 1, 0, 0, 0, m0),
   (2, .lconst 0, 1, 0, 0, 0, m0),
   (3, .ldc2_w 335, 3, 1, 999, 1868, m0),
   (6, .invokestatic 218, 3, 0, 0, 1684, m_Mod_isFrom),
   (9, .ireturn, 1, 0, 0, 0, m0)])]
theorem ok_Mod_isOwed : okBt m_Mod_isOwed bt_Mod_isOwed = true := by decide +kernel
set_option maxRecDepth 100000 in
theorem b_Mod_isOwed_0 {l : Launch} {E : EnvT} {d : Nat} {K : AV → Mem → Prop} {M : Mem} {x0 : Int32} (hd : 1 ≤ d)
  (h : CT l E (d - 1) m_Mod_isFrom [(.long (x0).toInt64, 0), (.long (lI 0), 0), (.long (lI 999), 0)] M (fun v1 M1 =>
   ((((toI v1) = 0 ∨ (toI v1) = 1)) ∧ K (.int (toI v1), 0) M1))) :
  G l E d m_Mod_isOwed 0 [(0, (.int x0, 0))] [] M K := G.blk 60 _ hd ok_Mod_isOwed rfl h
def bt_Mod_grownBy : BtT := [(0, [0, 1, 2], true, [(0, .iload_n 1, 1, 0, 0, 0, m0),
   (1, .istore_n 3, 1, 0, 0, 0, m0),
   (2, .iconst 0, 1, 0, 0, 0, m0),
   (3, .istore 4, 2, 0, 0, 0, m0),
   (5, .nop, 0, 0, 0, 0, m0)]),
  (5, [0, 2, 3, 4], true, [(5, .iload 4, 2, 0, 0, 0, m0),
   (7, .iload_n 2, 1, 0, 0, 0, m0),
   (8, .if_icmp .ge 15, 3, 23, 0, 0, m0),
   (11, .nop, 0, 0, 0, 0, m0)]),
  (11, [], false, [(11, .aload_n 0, 1, 0, 0, 0, m0),
   (12, .iload_n 3, 1, 0, 0, 0, m0),
   (13, .invokevirtual 346, 3, 0, 0, 1905, m_Mod_grown),
   (16, .istore_n 3, 1, 0, 0, 0, m0),
   (17, .iinc 4 1, 3, 0, 0, 0, m0),
   (20, .goto (-15), 3, 5, 0, 0, m0)]),
  (23, [], false, [(23, .iload_n 3, 1, 0, 0, 0, m0),
   (24, .ireturn, 1, 0, 0, 0, m0)])]
theorem ok_Mod_grownBy : okBt m_Mod_grownBy bt_Mod_grownBy = true := by decide +kernel
set_option maxRecDepth 100000 in
theorem b_Mod_grownBy_0 {l : Launch} {E : EnvT} {d : Nat} {K : AV → Mem → Prop} {M : Mem} {x1 : Int32} {x2 : Int32} (hd : 1 ≤ d)
  (h : G l E d m_Mod_grownBy 5 [(0, (.ref 24, 41)), (2, (.int x2, 0)), (3, (.int x1, 0)), (4, (.int (iN 0), 0))] [] M K) :
  G l E d m_Mod_grownBy 0 [(0, (.ref 24, 41)), (1, (.int x1, 0)), (2, (.int x2, 0))] [] M K := G.blk 60 _ hd ok_Mod_grownBy rfl h
set_option maxRecDepth 100000 in
theorem b_Mod_grownBy_5 {l : Launch} {E : EnvT} {d : Nat} {K : AV → Mem → Prop} {M : Mem} {x2 : Int32} {x3 : Int32} {x4 : Int32} (hd : 1 ≤ d)
  (h : ((x2 ≤ x4 →
   K (.int x3, 0) M) ∧
  (¬ x2 ≤ x4 →
   CT l E (d - 1) m_Mod_grown [(.ref 24, 41), (.int x3, 0)] M (fun v1 M1 =>
    G l E d m_Mod_grownBy 5 [(0, (.ref 24, 41)), (2, (.int x2, 0)), (3, (.int (toI v1), 0)), (4, (.int (x4 + iN 1), 0))] [] M1 K)))) :
  G l E d m_Mod_grownBy 5 [(0, (.ref 24, 41)), (2, (.int x2, 0)), (3, (.int x3, 0)), (4, (.int x4, 0))] [] M K := G.blk 60 _ hd ok_Mod_grownBy rfl h
def bt_Mod_grows : BtT := [(0, [0, 1, 2], true, [(0, .iload_n 1, 1, 0, 0, 0, m0),
   (1, .invokestatic 411, 3, 0, 0, 2108, m_Mod_isOwed),
   (4, .ifCond .eq 23, 3, 27, 0, 0, m0),
   (7, .nop, 0, 0, 0, 0, m0)]),
  (7, [], false, [(7, .iload_n 2, 1, 0, 0, 0, m0),
   (8, .invokestatic 411, 3, 0, 0, 2108, m_Mod_isOwed),
   (11, .ifCond .eq 16, 3, 27, 0, 0, m0),
   (14, .nop, 0, 0, 0, 0, m0)]),
  (14, [], false, [(14, .aload_n 0, 1, 0, 0, 0, m0),
   (15, .aload_n 0, 1, 0, 0, 0, m0),
   (16, .iload_n 1, 1, 0, 0, 0, m0),
   (17, .iload_n 2, 1, 0, 0, 0, m0),
   (18, .invokevirtual 414, 3, 0, 0, 2111, m_Mod_grownBy),
   (21, .invokevirtual 76, 3, 0, 0, 1740, m_Mod_gives),
   (24, .goto 8, 3, 32, 0, 0, m0)]),
  (27, [], false, [(27, .aload_n 0, 1, 0, 0, 0, m0),
   (28, .iconst 1, 1, 0, 0, 0, m0),
   (29, .invokevirtual 72, 3, 0, 0, 1629, m_Mod_refuse),
   (32, .nop, 0, 0, 0, 0, m0)]),
  (32, [], false, [(32, .ireturn, 1, 0, 0, 0, m0)])]
theorem ok_Mod_grows : okBt m_Mod_grows bt_Mod_grows = true := by decide +kernel
set_option maxRecDepth 100000 in
theorem b_Mod_grows_0 {l : Launch} {E : EnvT} {d : Nat} {K : AV → Mem → Prop} {M : Mem} {x1 : Int32} {x2 : Int32} (hd : 1 ≤ d)
  (h : CT l E (d - 1) m_Mod_isOwed [(.int x1, 0)] M (fun v1 M1 =>
   (((toI v1) = 0 →
    CT l E (d - 1) m_Mod_refuse [(.ref 24, 41), (.int (iN 1), 0)] M1 (fun v2 M2 =>
     K (.int (toI v2), 0) M2)) ∧
   (¬ (toI v1) = 0 →
    CT l E (d - 1) m_Mod_isOwed [(.int x2, 0)] M1 (fun v3 M3 =>
     (((toI v3) = 0 →
      CT l E (d - 1) m_Mod_refuse [(.ref 24, 41), (.int (iN 1), 0)] M3 (fun v4 M4 =>
       K (.int (toI v4), 0) M4)) ∧
     (¬ (toI v3) = 0 →
      CT l E (d - 1) m_Mod_grownBy [(.ref 24, 41), (.int x1, 0), (.int x2, 0)] M3 (fun v5 M5 =>
       CT l E (d - 1) m_Mod_gives [(.ref 24, 41), (.int (toI v5), 0)] M5 (fun v6 M6 =>
        K (.int (toI v6), 0) M6))))))))) :
  G l E d m_Mod_grows 0 [(0, (.ref 24, 41)), (1, (.int x1, 0)), (2, (.int x2, 0))] [] M K := G.blk 60 _ hd ok_Mod_grows rfl h
def bt_Mod_before : BtT := [(0, [0, 1, 2], true, [(0, .iload_n 1, 1, 0, 0, 0, m0),
   (1, .invokestatic 411, 3, 0, 0, 2108, m_Mod_isOwed),
   (4, .ifCond .eq 10, 3, 14, 0, 0, m0),
   (7, .nop, 0, 0, 0, 0, m0)]),
  (7, [], false, [(7, .iload_n 2, 1, 0, 0, 0, m0),
   (8, .invokestatic 411, 3, 0, 0, 2108, m_Mod_isOwed),
   (11, .ifCond .ne 9, 3, 20, 0, 0, m0),
   (14, .nop, 0, 0, 0, 0, m0)]),
  (14, [], false, [(14, .aload_n 0, 1, 0, 0, 0, m0),
   (15, .iconst 1, 1, 0, 0, 0, m0),
   (16, .invokevirtual 72, 3, 0, 0, 1629, m_Mod_refuse),
   (19, .ireturn, 1, 0, 0, 0, m0)]),
  (20, [], false, [(20, .iconst 0, 1, 0, 0, 0, m0),
   (21, .istore_n 3, 1, 0, 0, 0, m0),
   (22, .nop, 0, 0, 0, 0, m0)]),
  (22, [0, 1, 2, 3], true, [(22, .aload_n 0, 1, 0, 0, 0, m0),
   (23, .iload_n 3, 1, 0, 0, 0, m0),
   (24, .iload_n 2, 1, 0, 0, 0, m0),
   (25, .invokevirtual 414, 3, 0, 0, 2111, m_Mod_grownBy),
   (28, .iload_n 1, 1, 0, 0, 0, m0),
   (29, .if_icmp .ge 9, 3, 38, 0, 0, m0),
   (32, .nop, 0, 0, 0, 0, m0)]),
  (32, [], false, [(32, .iinc 3 1, 3, 0, 0, 0, m0),
   (35, .goto (-13), 3, 22, 0, 0, m0)]),
  (38, [], false, [(38, .aload_n 0, 1, 0, 0, 0, m0),
   (39, .iload_n 3, 1, 0, 0, 0, m0),
   (40, .invokevirtual 76, 3, 0, 0, 1740, m_Mod_gives),
   (43, .ireturn, 1, 0, 0, 0, m0)])]
theorem ok_Mod_before : okBt m_Mod_before bt_Mod_before = true := by decide +kernel
set_option maxRecDepth 100000 in
theorem b_Mod_before_0 {l : Launch} {E : EnvT} {d : Nat} {K : AV → Mem → Prop} {M : Mem} {x1 : Int32} {x2 : Int32} (hd : 1 ≤ d)
  (h : CT l E (d - 1) m_Mod_isOwed [(.int x1, 0)] M (fun v1 M1 =>
   (((toI v1) = 0 →
    CT l E (d - 1) m_Mod_refuse [(.ref 24, 41), (.int (iN 1), 0)] M1 (fun v2 M2 =>
     K (.int (toI v2), 0) M2)) ∧
   (¬ (toI v1) = 0 →
    CT l E (d - 1) m_Mod_isOwed [(.int x2, 0)] M1 (fun v3 M3 =>
     ((¬ (toI v3) = 0 →
      G l E d m_Mod_before 22 [(0, (.ref 24, 41)), (1, (.int x1, 0)), (2, (.int x2, 0)), (3, (.int (iN 0), 0))] [] M3 K) ∧
     ((toI v3) = 0 →
      CT l E (d - 1) m_Mod_refuse [(.ref 24, 41), (.int (iN 1), 0)] M3 (fun v4 M4 =>
       K (.int (toI v4), 0) M4)))))))) :
  G l E d m_Mod_before 0 [(0, (.ref 24, 41)), (1, (.int x1, 0)), (2, (.int x2, 0))] [] M K := G.blk 60 _ hd ok_Mod_before rfl h
set_option maxRecDepth 100000 in
theorem b_Mod_before_22 {l : Launch} {E : EnvT} {d : Nat} {K : AV → Mem → Prop} {M : Mem} {x1 : Int32} {x2 : Int32} {x3 : Int32} (hd : 1 ≤ d)
  (h : CT l E (d - 1) m_Mod_grownBy [(.ref 24, 41), (.int x3, 0), (.int x2, 0)] M (fun v1 M1 =>
   ((x1 ≤ (toI v1) →
    CT l E (d - 1) m_Mod_gives [(.ref 24, 41), (.int x3, 0)] M1 (fun v2 M2 =>
     K (.int (toI v2), 0) M2)) ∧
   (¬ x1 ≤ (toI v1) →
    G l E d m_Mod_before 22 [(0, (.ref 24, 41)), (1, (.int x1, 0)), (2, (.int x2, 0)), (3, (.int (x3 + iN 1), 0))] [] M1 K)))) :
  G l E d m_Mod_before 22 [(0, (.ref 24, 41)), (1, (.int x1, 0)), (2, (.int x2, 0)), (3, (.int x3, 0))] [] M K := G.blk 60 _ hd ok_Mod_before rfl h
def bt_Mod_when : BtT := [(0, [0, 1, 2], true, [(0, .iload_n 1, 1, 0, 0, 0, m0),
   (1, .invokestatic 411, 3, 0, 0, 2108, m_Mod_isOwed),
   (4, .ifCond .eq 10, 3, 14, 0, 0, m0),
   (7, .nop, 0, 0, 0, 0, m0)]),
  (7, [], false, [(7, .iload_n 2, 1, 0, 0, 0, m0),
   (8, .invokestatic 411, 3, 0, 0, 2108, m_Mod_isOwed),
   (11, .ifCond .ne 9, 3, 20, 0, 0, m0),
   (14, .nop, 0, 0, 0, 0, m0)]),
  (14, [], false, [(14, .aload_n 0, 1, 0, 0, 0, m0),
   (15, .iconst 1, 1, 0, 0, 0, m0),
   (16, .invokevirtual 72, 3, 0, 0, 1629, m_Mod_refuse),
   (19, .ireturn, 1, 0, 0, 0, m0)]),
  (20, [], false, [(20, .iload_n 1, 1, 0, 0, 0, m0),
   (21, .istore_n 3, 1, 0, 0, 0, m0),
   (22, .iconst 0, 1, 0, 0, 0, m0),
   (23, .istore 4, 2, 0, 0, 0, m0),
   (25, .nop, 0, 0, 0, 0, m0)]),
  (25, [0, 2, 3, 4], true, [(25, .iload 4, 2, 0, 0, 0, m0),
   (27, .sipush 999, 3, 0, 0, 0, m0),
   (30, .if_icmp .gt 27, 3, 57, 0, 0, m0),
   (33, .nop, 0, 0, 0, 0, m0)]),
  (33, [], false, [(33, .iload_n 3, 1, 0, 0, 0, m0),
   (34, .iload_n 2, 1, 0, 0, 0, m0),
   (35, .if_icmp .lt 10, 3, 45, 0, 0, m0),
   (38, .nop, 0, 0, 0, 0, m0)]),
  (38, [], false, [(38, .aload_n 0, 1, 0, 0, 0, m0),
   (39, .iload 4, 2, 0, 0, 0, m0),
   (41, .invokevirtual 76, 3, 0, 0, 1740, m_Mod_gives),
   (44, .ireturn, 1, 0, 0, 0, m0)]),
  (45, [], false, [(45, .aload_n 0, 1, 0, 0, 0, m0),
   (46, .iload_n 3, 1, 0, 0, 0, m0),
   (47, .invokevirtual 346, 3, 0, 0, 1905, m_Mod_grown),
   (50, .istore_n 3, 1, 0, 0, 0, m0),
   (51, .iinc 4 1, 3, 0, 0, 0, m0),
   (54, .goto (-29), 3, 25, 0, 0, m0)]),
  (57, [], false, [(57, .aload_n 0, 1, 0, 0, 0, m0),
   (58, .bipush 6, 2, 0, 0, 0, m0),
   (60, .invokevirtual 72, 3, 0, 0, 1629, m_Mod_refuse),
   (63, .ireturn, 1, 0, 0, 0, m0)])]
theorem ok_Mod_when : okBt m_Mod_when bt_Mod_when = true := by decide +kernel
set_option maxRecDepth 100000 in
theorem b_Mod_when_0 {l : Launch} {E : EnvT} {d : Nat} {K : AV → Mem → Prop} {M : Mem} {x1 : Int32} {x2 : Int32} (hd : 1 ≤ d)
  (h : CT l E (d - 1) m_Mod_isOwed [(.int x1, 0)] M (fun v1 M1 =>
   (((toI v1) = 0 →
    CT l E (d - 1) m_Mod_refuse [(.ref 24, 41), (.int (iN 1), 0)] M1 (fun v2 M2 =>
     K (.int (toI v2), 0) M2)) ∧
   (¬ (toI v1) = 0 →
    CT l E (d - 1) m_Mod_isOwed [(.int x2, 0)] M1 (fun v3 M3 =>
     ((¬ (toI v3) = 0 →
      G l E d m_Mod_when 25 [(0, (.ref 24, 41)), (2, (.int x2, 0)), (3, (.int x1, 0)), (4, (.int (iN 0), 0))] [] M3 K) ∧
     ((toI v3) = 0 →
      CT l E (d - 1) m_Mod_refuse [(.ref 24, 41), (.int (iN 1), 0)] M3 (fun v4 M4 =>
       K (.int (toI v4), 0) M4)))))))) :
  G l E d m_Mod_when 0 [(0, (.ref 24, 41)), (1, (.int x1, 0)), (2, (.int x2, 0))] [] M K := G.blk 60 _ hd ok_Mod_when rfl h
set_option maxRecDepth 100000 in
theorem b_Mod_when_25 {l : Launch} {E : EnvT} {d : Nat} {K : AV → Mem → Prop} {M : Mem} {x2 : Int32} {x3 : Int32} {x4 : Int32} (hd : 1 ≤ d)
  (h : (((iN 999) < x4 →
   CT l E (d - 1) m_Mod_refuse [(.ref 24, 41), (.int (iN 6), 0)] M (fun v1 M1 =>
    K (.int (toI v1), 0) M1)) ∧
  (¬ (iN 999) < x4 →
   ((x3 < x2 →
    CT l E (d - 1) m_Mod_grown [(.ref 24, 41), (.int x3, 0)] M (fun v2 M2 =>
     G l E d m_Mod_when 25 [(0, (.ref 24, 41)), (2, (.int x2, 0)), (3, (.int (toI v2), 0)), (4, (.int (x4 + iN 1), 0))] [] M2 K)) ∧
   (¬ x3 < x2 →
    CT l E (d - 1) m_Mod_gives [(.ref 24, 41), (.int x4, 0)] M (fun v3 M3 =>
     K (.int (toI v3), 0) M3)))))) :
  G l E d m_Mod_when 25 [(0, (.ref 24, 41)), (2, (.int x2, 0)), (3, (.int x3, 0)), (4, (.int x4, 0))] [] M K := G.blk 60 _ hd ok_Mod_when rfl h
def bt_Mod_owedIn : BtT := [(0, [0, 1], true, [(0, .iload_n 1, 1, 0, 0, 0, m0),
   (1, .invokestatic 411, 3, 0, 0, 2108, m_Mod_isOwed),
   (4, .ifCond .ne 9, 3, 13, 0, 0, m0),
   (7, .nop, 0, 0, 0, 0, m0)]),
  (7, [], false, [(7, .aload_n 0, 1, 0, 0, 0, m0),
   (8, .iconst 1, 1, 0, 0, 0, m0),
   (9, .invokevirtual 72, 3, 0, 0, 1629, m_Mod_refuse),
   (12, .ireturn, 1, 0, 0, 0, m0)]),
  (13, [], false, [(13, .aload_n 0, 1, 0, 0, 0, m0),
   (14, .invokevirtual 301, 3, 0, 0, 1772, m_Mod_allOwed),
   (17, .istore_n 2, 1, 0, 0, 0, m0),
   (18, .iconst 0, 1, 0, 0, 0, m0),
   (19, .istore_n 3, 1, 0, 0, 0, m0),
   (20, .nop, 0, 0, 0, 0, m0)]),
  (20, [0, 1, 2, 3], true, [(20, .iload_n 3, 1, 0, 0, 0, m0),
   (21, .aload_n 0, 1, 0, 0, 0, m0),
   (22, .getfield 7, 3, 0, 11, 1447, m0),
   (25, .iconst 0, 1, 0, 0, 0, m0),
   (26, .iaload, 1, 0, 0, 0, m0),
   (27, .if_icmp .ge 61, 3, 88, 0, 0, m0),
   (30, .nop, 0, 0, 0, 0, m0)]),
  (30, [], false, [(30, .iconst 0, 1, 0, 0, 0, m0),
   (31, .istore 4, 2, 0, 0, 0, m0),
   (33, .nop, 0, 0, 0, 0, m0)]),
  (33, [0, 1, 2, 3, 4], true, [(33, .iload 4, 2, 0, 0, 0, m0),
   (35, .aload_n 0, 1, 0, 0, 0, m0),
   (36, .iload_n 3, 1, 0, 0, 0, m0),
   (37, .iconst 1, 1, 0, 0, 0, m0),
   (38, .invokevirtual 171, 3, 0, 0, 1708, m_Mod_of),
   (41, .if_icmp .ge 41, 3, 82, 0, 0, m0),
   (44, .nop, 0, 0, 0, 0, m0)]),
  (44, [], false, [(44, .aload_n 0, 1, 0, 0, 0, m0),
   (45, .iload_n 3, 1, 0, 0, 0, m0),
   (46, .iconst 4, 1, 0, 0, 0, m0),
   (47, .invokevirtual 171, 3, 0, 0, 1708, m_Mod_of),
   (50, .ifCond .ne 26, 3, 76, 0, 0, m0),
   (53, .nop, 0, 0, 0, 0, m0)]),
  (53, [], false, [(53, .iload_n 2, 1, 0, 0, 0, m0),
   (54, .aload_n 0, 1, 0, 0, 0, m0),
   (55, .aload_n 0, 1, 0, 0, 0, m0),
   (56, .iload_n 3, 1, 0, 0, 0, m0),
   (57, .iload 4, 2, 0, 0, 0, m0),
   (59, .invokevirtual 180, 3, 0, 0, 1716, m_Mod_debtAt),
   (62, .iload_n 1, 1, 0, 0, 0, m0),
   (63, .invokevirtual 414, 3, 0, 0, 2111, m_Mod_grownBy),
   (66, .aload_n 0, 1, 0, 0, 0, m0),
   (67, .iload_n 3, 1, 0, 0, 0, m0),
   (68, .iload 4, 2, 0, 0, 0, m0),
   (70, .invokevirtual 180, 3, 0, 0, 1716, m_Mod_debtAt),
   (73, .isub, 1, 0, 0, 0, m0),
   (74, .iadd, 1, 0, 0, 0, m0),
   (75, .istore_n 2, 1, 0, 0, 0, m0),
   (76, .nop, 0, 0, 0, 0, m0)]),
  (76, [], false, [(76, .iinc 4 1, 3, 0, 0, 0, m0),
   (79, .goto (-46), 3, 33, 0, 0, m0)]),
  (82, [], false, [(82, .iinc 3 1, 3, 0, 0, 0, m0),
   (85, .goto (-65), 3, 20, 0, 0, m0)]),
  (88, [], false, [(88, .aload_n 0, 1, 0, 0, 0, m0),
   (89, .iload_n 2, 1, 0, 0, 0, m0),
   (90, .invokevirtual 76, 3, 0, 0, 1740, m_Mod_gives),
   (93, .ireturn, 1, 0, 0, 0, m0)])]
theorem ok_Mod_owedIn : okBt m_Mod_owedIn bt_Mod_owedIn = true := by decide +kernel
set_option maxRecDepth 100000 in
theorem b_Mod_owedIn_0 {l : Launch} {E : EnvT} {d : Nat} {K : AV → Mem → Prop} {M : Mem} {x1 : Int32} (hd : 1 ≤ d)
  (h : CT l E (d - 1) m_Mod_isOwed [(.int x1, 0)] M (fun v1 M1 =>
   ((¬ (toI v1) = 0 →
    CT l E (d - 1) m_Mod_allOwed [(.ref 24, 41)] M1 (fun v2 M2 =>
     G l E d m_Mod_owedIn 20 [(0, (.ref 24, 41)), (1, (.int x1, 0)), (2, (.int (toI v2), 0)), (3, (.int (iN 0), 0))] [] M2 K)) ∧
   ((toI v1) = 0 →
    CT l E (d - 1) m_Mod_refuse [(.ref 24, 41), (.int (iN 1), 0)] M1 (fun v3 M3 =>
     K (.int (toI v3), 0) M3))))) :
  G l E d m_Mod_owedIn 0 [(0, (.ref 24, 41)), (1, (.int x1, 0))] [] M K := G.blk 60 _ hd ok_Mod_owedIn rfl h
set_option maxRecDepth 100000 in
theorem b_Mod_owedIn_20 {l : Launch} {E : EnvT} {d : Nat} {K : AV → Mem → Prop} {M : Mem} {x1 : Int32} {x2 : Int32} {x3 : Int32} (hd : 1 ≤ d)
  (h : (vp_in (iN 0) 3612 ∧ (((iN (M 24 1 ((iN 0)).toNatClampNeg)) ≤ x3 →
   CT l E (d - 1) m_Mod_gives [(.ref 24, 41), (.int x2, 0)] M (fun v1 M1 =>
    K (.int (toI v1), 0) M1)) ∧
  (¬ (iN (M 24 1 ((iN 0)).toNatClampNeg)) ≤ x3 →
   G l E d m_Mod_owedIn 33 [(0, (.ref 24, 41)), (1, (.int x1, 0)), (2, (.int x2, 0)), (3, (.int x3, 0)), (4, (.int (iN 0), 0))] [] M K)))) :
  G l E d m_Mod_owedIn 20 [(0, (.ref 24, 41)), (1, (.int x1, 0)), (2, (.int x2, 0)), (3, (.int x3, 0))] [] M K := G.blk 60 _ hd ok_Mod_owedIn rfl h
set_option maxRecDepth 100000 in
theorem b_Mod_owedIn_33 {l : Launch} {E : EnvT} {d : Nat} {K : AV → Mem → Prop} {M : Mem} {x1 : Int32} {x2 : Int32} {x3 : Int32} {x4 : Int32} (hd : 1 ≤ d)
  (h : CT l E (d - 1) m_Mod_of [(.ref 24, 41), (.int x3, 0), (.int (iN 1), 0)] M (fun v1 M1 =>
   (((toI v1) ≤ x4 →
    G l E d m_Mod_owedIn 20 [(0, (.ref 24, 41)), (1, (.int x1, 0)), (2, (.int x2, 0)), (3, (.int (x3 + iN 1), 0))] [] M1 K) ∧
   (¬ (toI v1) ≤ x4 →
    CT l E (d - 1) m_Mod_of [(.ref 24, 41), (.int x3, 0), (.int (iN 4), 0)] M1 (fun v2 M2 =>
     ((¬ (toI v2) = 0 →
      G l E d m_Mod_owedIn 33 [(0, (.ref 24, 41)), (1, (.int x1, 0)), (2, (.int x2, 0)), (3, (.int x3, 0)), (4, (.int (x4 + iN 1), 0))] [] M2 K) ∧
     ((toI v2) = 0 →
      CT l E (d - 1) m_Mod_debtAt [(.ref 24, 41), (.int x3, 0), (.int x4, 0)] M2 (fun v3 M3 =>
       CT l E (d - 1) m_Mod_grownBy [(.ref 24, 41), (.int (toI v3), 0), (.int x1, 0)] M3 (fun v4 M4 =>
        CT l E (d - 1) m_Mod_debtAt [(.ref 24, 41), (.int x3, 0), (.int x4, 0)] M4 (fun v5 M5 =>
         G l E d m_Mod_owedIn 33 [(0, (.ref 24, 41)), (1, (.int x1, 0)), (2, (.int (x2 + ((toI v4) - (toI v5))), 0)), (3, (.int x3, 0)), (4, (.int (x4 + iN 1), 0))] [] M5 K)))))))))) :
  G l E d m_Mod_owedIn 33 [(0, (.ref 24, 41)), (1, (.int x1, 0)), (2, (.int x2, 0)), (3, (.int x3, 0)), (4, (.int x4, 0))] [] M K := G.blk 60 _ hd ok_Mod_owedIn rfl h
def bt_Mod_lendsBy : BtT := [(0, [0, 1, 2, 3], true, [(0, .aload_n 0, 1, 0, 0, 0, m0),
   (1, .iload_n 1, 1, 0, 0, 0, m0),
   (2, .iload_n 2, 1, 0, 0, 0, m0),
   (3, .invokevirtual 320, 3, 0, 0, 1852, m_Mod_areTwo),
   (6, .ifCond .eq 13, 3, 19, 0, 0, m0),
   (9, .nop, 0, 0, 0, 0, m0)]),
  (9, [], false, [(9, .aload_n 0, 1, 0, 0, 0, m0),
   (10, .iload_n 1, 1, 0, 0, 0, m0),
   (11, .iload_n 2, 1, 0, 0, 0, m0),
   (12, .iload_n 3, 1, 0, 0, 0, m0),
   (13, .invokevirtual 323, 3, 0, 0, 1856, m_Mod_lends),
   (16, .ifCond .ne 5, 3, 21, 0, 0, m0),
   (19, .nop, 0, 0, 0, 0, m0)]),
  (19, [], false, [(19, .iconst 0, 1, 0, 0, 0, m0),
   (20, .ireturn, 1, 0, 0, 0, m0)]),
  (21, [], false, [(21, .aload_n 0, 1, 0, 0, 0, m0),
   (22, .getfield 56, 3, 30, 11, 1477, m0),
   (25, .iconst 1, 1, 0, 0, 0, m0),
   (26, .dup2, 1, 0, 0, 0, m0),
   (27, .iaload, 1, 0, 0, 0, m0),
   (28, .iload_n 3, 1, 0, 0, 0, m0),
   (29, .iadd, 1, 0, 0, 0, m0),
   (30, .iastore, 1, 0, 0, 0, m0),
   (31, .iconst 1, 1, 0, 0, 0, m0),
   (32, .ireturn, 1, 0, 0, 0, m0)])]
theorem ok_Mod_lendsBy : okBt m_Mod_lendsBy bt_Mod_lendsBy = true := by decide +kernel
set_option maxRecDepth 100000 in
theorem b_Mod_lendsBy_0 {l : Launch} {E : EnvT} {d : Nat} {K : AV → Mem → Prop} {M : Mem} {x1 : Int32} {x2 : Int32} {x3 : Int32} (hd : 1 ≤ d)
  (h : CT l E (d - 1) m_Mod_areTwo [(.ref 24, 41), (.int x1, 0), (.int x2, 0)] M (fun v1 M1 =>
   (((toI v1) = 0 →
    ((((iN 0) = 0 ∨ (iN 0) = 1)) ∧ K (.int (iN 0), 0) M1)) ∧
   (¬ (toI v1) = 0 →
    CT l E (d - 1) m_Mod_lends [(.ref 24, 41), (.int x1, 0), (.int x2, 0), (.int x3, 0)] M1 (fun v2 M2 =>
     ((¬ (toI v2) = 0 →
      (vp_in (iN 1) 5 ∧ vp_in (iN 1) 5 ∧ (((iN 1) = 0 ∨ (iN 1) = 1)) ∧ K (.int (iN 1), 0) (upd3 M2 24 12 ((iN 1)).toNatClampNeg (((iN (M2 24 12 ((iN 1)).toNatClampNeg)) + x3)).toInt))) ∧
     ((toI v2) = 0 →
      ((((iN 0) = 0 ∨ (iN 0) = 1)) ∧ K (.int (iN 0), 0) M2)))))))) :
  G l E d m_Mod_lendsBy 0 [(0, (.ref 24, 41)), (1, (.int x1, 0)), (2, (.int x2, 0)), (3, (.int x3, 0))] [] M K := G.blk 60 _ hd ok_Mod_lendsBy rfl h
def bt_Mod_paysBy : BtT := [(0, [0, 1, 2], true, [(0, .aload_n 0, 1, 0, 0, 0, m0),
   (1, .getfield 56, 3, 30, 11, 1477, m0),
   (4, .iconst 2, 1, 0, 0, 0, m0),
   (5, .dup2, 1, 0, 0, 0, m0),
   (6, .iaload, 1, 0, 0, 0, m0),
   (7, .aload_n 0, 1, 0, 0, 0, m0),
   (8, .getfield 7, 3, 0, 11, 1447, m0),
   (11, .iconst 3, 1, 0, 0, 0, m0),
   (12, .iaload, 1, 0, 0, 0, m0),
   (13, .iload_n 2, 1, 0, 0, 0, m0),
   (14, .isub, 1, 0, 0, 0, m0),
   (15, .iadd, 1, 0, 0, 0, m0),
   (16, .iastore, 1, 0, 0, 0, m0),
   (17, .iload_n 1, 1, 0, 0, 0, m0),
   (18, .ireturn, 1, 0, 0, 0, m0)])]
theorem ok_Mod_paysBy : okBt m_Mod_paysBy bt_Mod_paysBy = true := by decide +kernel
set_option maxRecDepth 100000 in
theorem b_Mod_paysBy_0 {l : Launch} {E : EnvT} {d : Nat} {K : AV → Mem → Prop} {M : Mem} {x1 : Int32} {x2 : Int32} (hd : 1 ≤ d)
  (h : (vp_in (iN 2) 5 ∧ vp_in (iN 3) 3612 ∧ vp_in (iN 2) 5 ∧ ((x1 = 0 ∨ x1 = 1)) ∧ K (.int x1, 0) (upd3 M 24 12 ((iN 2)).toNatClampNeg (((iN (M 24 12 ((iN 2)).toNatClampNeg)) + ((iN (M 24 1 ((iN 3)).toNatClampNeg)) - x2))).toInt))) :
  G l E d m_Mod_paysBy 0 [(0, (.ref 24, 41)), (1, (.int x1, 0)), (2, (.int x2, 0))] [] M K := G.blk 60 _ hd ok_Mod_paysBy rfl h
def bt_Mod_draw : BtT := [(0, [0, 1], true, [(0, .aload_n 0, 1, 0, 0, 0, m0),
   (1, .aload_n 0, 1, 0, 0, 0, m0),
   (2, .getfield 417, 3, 27, 11, 1474, m0),
   (5, .sipush 2971, 3, 0, 0, 0, m0),
   (8, .imul, 1, 0, 0, 0, m0),
   (9, .sipush 11173, 3, 0, 0, 0, m0),
   (12, .iadd, 1, 0, 0, 0, m0),
   (13, .ldc_w 420, 3, 1, 65536, 2156, m0),
   (16, .irem, 1, 0, 0, 0, m0),
   (17, .putfield 417, 3, 27, 11, 1474, m0),
   (20, .nop, 0, 0, 0, 0, m0)]),
  (20, [0, 1], true, [(20, .aload_n 0, 1, 0, 0, 0, m0),
   (21, .getfield 417, 3, 27, 11, 1474, m0),
   (24, .bipush 8, 2, 0, 0, 0, m0),
   (26, .idiv, 1, 0, 0, 0, m0),
   (27, .iload_n 1, 1, 0, 0, 0, m0),
   (28, .irem, 1, 0, 0, 0, m0),
   (29, .ireturn, 1, 0, 0, 0, m0)])]
theorem ok_Mod_draw : okBt m_Mod_draw bt_Mod_draw = true := by decide +kernel
set_option maxRecDepth 100000 in
theorem b_Mod_draw_0 {l : Launch} {E : EnvT} {d : Nat} {K : AV → Mem → Prop} {M : Mem} {x1 : Int32} (hd : 1 ≤ d)
  (h : (¬ (iN 65536) = 0 ∧ G l E d m_Mod_draw 20 [(0, (.ref 24, 41)), (1, (.int x1, 0))] [] (upd3 M 24 0 27 ((iR (((iN (M 24 0 27)) * (iN 2971)) + (iN 11173)) (iN 65536))).toInt) K)) :
  G l E d m_Mod_draw 0 [(0, (.ref 24, 41)), (1, (.int x1, 0))] [] M K := G.blk 60 _ hd ok_Mod_draw rfl h
set_option maxRecDepth 100000 in
theorem b_Mod_draw_20 {l : Launch} {E : EnvT} {d : Nat} {K : AV → Mem → Prop} {M : Mem} {x1 : Int32} (hd : 1 ≤ d)
  (h : (¬ (iN 8) = 0 ∧ ¬ x1 = 0 ∧ K (.int (iR ((iN (M 24 0 27)) / (iN 8)) x1), 0) M)) :
  G l E d m_Mod_draw 20 [(0, (.ref 24, 41)), (1, (.int x1, 0))] [] M K := G.blk 60 _ hd ok_Mod_draw rfl h
def bt_Mod_livingAt : BtT := [(0, [0, 1], true, [(0, .iload_n 1, 1, 0, 0, 0, m0),
   (1, .istore_n 2, 1, 0, 0, 0, m0),
   (2, .iconst 0, 1, 0, 0, 0, m0),
   (3, .istore_n 3, 1, 0, 0, 0, m0),
   (4, .nop, 0, 0, 0, 0, m0)]),
  (4, [0, 2, 3], true, [(4, .aload_n 0, 1, 0, 0, 0, m0),
   (5, .iload_n 3, 1, 0, 0, 0, m0),
   (6, .invokevirtual 277, 3, 0, 0, 1836, m_Mod_isDead),
   (9, .ifCond .ne 7, 3, 16, 0, 0, m0),
   (12, .nop, 0, 0, 0, 0, m0)]),
  (12, [], false, [(12, .iload_n 2, 1, 0, 0, 0, m0),
   (13, .ifCond .le 25, 3, 38, 0, 0, m0),
   (16, .nop, 0, 0, 0, 0, m0)]),
  (16, [], false, [(16, .iload_n 2, 1, 0, 0, 0, m0),
   (17, .aload_n 0, 1, 0, 0, 0, m0),
   (18, .iload_n 3, 1, 0, 0, 0, m0),
   (19, .invokevirtual 277, 3, 0, 0, 1836, m_Mod_isDead),
   (22, .ifCond .eq 7, 3, 29, 0, 0, m0),
   (25, .nop, 0, 0, 0, 0, m0)]),
  (25, [], false, [(25, .iconst 0, 1, 0, 0, 0, m0),
   (26, .goto 4, 3, 30, 0, 0, m0)]),
  (29, [], false, [(29, .iconst 1, 1, 0, 0, 0, m0),
   (30, .nop, 0, 0, 0, 0, m0)]),
  (30, [], false, [(30, .isub, 1, 0, 0, 0, m0),
   (31, .istore_n 2, 1, 0, 0, 0, m0),
   (32, .iinc 3 1, 3, 0, 0, 0, m0),
   (35, .goto (-31), 3, 4, 0, 0, m0)]),
  (38, [], false, [(38, .iload_n 3, 1, 0, 0, 0, m0),
   (39, .ireturn, 1, 0, 0, 0, m0)])]
theorem ok_Mod_livingAt : okBt m_Mod_livingAt bt_Mod_livingAt = true := by decide +kernel
set_option maxRecDepth 100000 in
theorem b_Mod_livingAt_0 {l : Launch} {E : EnvT} {d : Nat} {K : AV → Mem → Prop} {M : Mem} {x1 : Int32} (hd : 1 ≤ d)
  (h : G l E d m_Mod_livingAt 4 [(0, (.ref 24, 41)), (2, (.int x1, 0)), (3, (.int (iN 0), 0))] [] M K) :
  G l E d m_Mod_livingAt 0 [(0, (.ref 24, 41)), (1, (.int x1, 0))] [] M K := G.blk 60 _ hd ok_Mod_livingAt rfl h
set_option maxRecDepth 100000 in
theorem b_Mod_livingAt_4 {l : Launch} {E : EnvT} {d : Nat} {K : AV → Mem → Prop} {M : Mem} {x2 : Int32} {x3 : Int32} (hd : 1 ≤ d)
  (h : CT l E (d - 1) m_Mod_isDead [(.ref 24, 41), (.int x3, 0)] M (fun v1 M1 =>
   ((¬ (toI v1) = 0 →
    CT l E (d - 1) m_Mod_isDead [(.ref 24, 41), (.int x3, 0)] M1 (fun v2 M2 =>
     (((toI v2) = 0 →
      G l E d m_Mod_livingAt 4 [(0, (.ref 24, 41)), (2, (.int (x2 - (iN 1)), 0)), (3, (.int (x3 + iN 1), 0))] [] M2 K) ∧
     (¬ (toI v2) = 0 →
      G l E d m_Mod_livingAt 4 [(0, (.ref 24, 41)), (2, (.int (x2 - (iN 0)), 0)), (3, (.int (x3 + iN 1), 0))] [] M2 K)))) ∧
   ((toI v1) = 0 →
    ((x2 ≤ 0 →
     K (.int x3, 0) M1) ∧
    (¬ x2 ≤ 0 →
     CT l E (d - 1) m_Mod_isDead [(.ref 24, 41), (.int x3, 0)] M1 (fun v3 M3 =>
      (((toI v3) = 0 →
       G l E d m_Mod_livingAt 4 [(0, (.ref 24, 41)), (2, (.int (x2 - (iN 1)), 0)), (3, (.int (x3 + iN 1), 0))] [] M3 K) ∧
      (¬ (toI v3) = 0 →
       G l E d m_Mod_livingAt 4 [(0, (.ref 24, 41)), (2, (.int (x2 - (iN 0)), 0)), (3, (.int (x3 + iN 1), 0))] [] M3 K))))))))) :
  G l E d m_Mod_livingAt 4 [(0, (.ref 24, 41)), (2, (.int x2, 0)), (3, (.int x3, 0))] [] M K := G.blk 60 _ hd ok_Mod_livingAt rfl h
def bt_Mod_lendsAny : BtT := [(0, [0], true, [(0, .aload_n 0, 1, 0, 0, 0, m0),
   (1, .invokevirtual 361, 3, 0, 0, 1937, m_Mod_livingMany),
   (4, .ifCond .ne 5, 3, 9, 0, 0, m0),
   (7, .nop, 0, 0, 0, 0, m0)]),
  (7, [], false, [(7, .iconst 0, 1, 0, 0, 0, m0),
   (8, .ireturn, 1, 0, 0, 0, m0)]),
  (9, [], false, [(9, .aload_n 0, 1, 0, 0, 0, m0),
   (10, .aload_n 0, 1, 0, 0, 0, m0),
   (11, .aload_n 0, 1, 0, 0, 0, m0),
   (12, .invokevirtual 361, 3, 0, 0, 1937, m_Mod_livingMany),
   (15, .invokevirtual 421, 3, 0, 0, 2152, m_Mod_draw),
   (18, .invokevirtual 424, 3, 0, 0, 2157, m_Mod_livingAt),
   (21, .istore_n 1, 1, 0, 0, 0, m0),
   (22, .aload_n 0, 1, 0, 0, 0, m0),
   (23, .aload_n 0, 1, 0, 0, 0, m0),
   (24, .aload_n 0, 1, 0, 0, 0, m0),
   (25, .invokevirtual 361, 3, 0, 0, 1937, m_Mod_livingMany),
   (28, .invokevirtual 421, 3, 0, 0, 2152, m_Mod_draw),
   (31, .invokevirtual 424, 3, 0, 0, 2157, m_Mod_livingAt),
   (34, .istore_n 2, 1, 0, 0, 0, m0),
   (35, .aload_n 0, 1, 0, 0, 0, m0),
   (36, .iload_n 1, 1, 0, 0, 0, m0),
   (37, .iload_n 2, 1, 0, 0, 0, m0),
   (38, .aload_n 0, 1, 0, 0, 0, m0),
   (39, .bipush 20, 2, 0, 0, 0, m0),
   (41, .invokevirtual 421, 3, 0, 0, 2152, m_Mod_draw),
   (44, .iconst 1, 1, 0, 0, 0, m0),
   (45, .iadd, 1, 0, 0, 0, m0),
   (46, .invokevirtual 427, 3, 0, 0, 2140, m_Mod_lendsBy),
   (49, .ireturn, 1, 0, 0, 0, m0)])]
theorem ok_Mod_lendsAny : okBt m_Mod_lendsAny bt_Mod_lendsAny = true := by decide +kernel
set_option maxRecDepth 100000 in
theorem b_Mod_lendsAny_0 {l : Launch} {E : EnvT} {d : Nat} {K : AV → Mem → Prop} {M : Mem}  (hd : 1 ≤ d)
  (h : CT l E (d - 1) m_Mod_livingMany [(.ref 24, 41)] M (fun v1 M1 =>
   ((¬ (toI v1) = 0 →
    CT l E (d - 1) m_Mod_livingMany [(.ref 24, 41)] M1 (fun v2 M2 =>
     CT l E (d - 1) m_Mod_draw [(.ref 24, 41), (.int (toI v2), 0)] M2 (fun v3 M3 =>
      CT l E (d - 1) m_Mod_livingAt [(.ref 24, 41), (.int (toI v3), 0)] M3 (fun v4 M4 =>
       CT l E (d - 1) m_Mod_livingMany [(.ref 24, 41)] M4 (fun v5 M5 =>
        CT l E (d - 1) m_Mod_draw [(.ref 24, 41), (.int (toI v5), 0)] M5 (fun v6 M6 =>
         CT l E (d - 1) m_Mod_livingAt [(.ref 24, 41), (.int (toI v6), 0)] M6 (fun v7 M7 =>
          CT l E (d - 1) m_Mod_draw [(.ref 24, 41), (.int (iN 20), 0)] M7 (fun v8 M8 =>
           CT l E (d - 1) m_Mod_lendsBy [(.ref 24, 41), (.int (toI v4), 0), (.int (toI v7), 0), (.int ((toI v8) + (iN 1)), 0)] M8 (fun v9 M9 =>
            ((((toI v9) = 0 ∨ (toI v9) = 1)) ∧ K (.int (toI v9), 0) M9)))))))))) ∧
   ((toI v1) = 0 →
    ((((iN 0) = 0 ∨ (iN 0) = 1)) ∧ K (.int (iN 0), 0) M1))))) :
  G l E d m_Mod_lendsAny 0 [(0, (.ref 24, 41))] [] M K := G.blk 60 _ hd ok_Mod_lendsAny rfl h
def bt_Mod_does : BtT := [(0, [0, 1], true, [(0, .aload_n 0, 1, 0, 0, 0, m0),
   (1, .getfield 7, 3, 0, 11, 1447, m0),
   (4, .iload_n 1, 1, 0, 0, 0, m0),
   (5, .iconst 1, 1, 0, 0, 0, m0),
   (6, .iadd, 1, 0, 0, 0, m0),
   (7, .iaload, 1, 0, 0, 0, m0),
   (8, .istore_n 2, 1, 0, 0, 0, m0),
   (9, .aload_n 0, 1, 0, 0, 0, m0),
   (10, .getfield 7, 3, 0, 11, 1447, m0),
   (13, .iload_n 1, 1, 0, 0, 0, m0),
   (14, .iconst 2, 1, 0, 0, 0, m0),
   (15, .iadd, 1, 0, 0, 0, m0),
   (16, .iaload, 1, 0, 0, 0, m0),
   (17, .istore_n 3, 1, 0, 0, 0, m0),
   (18, .aload_n 0, 1, 0, 0, 0, m0),
   (19, .getfield 7, 3, 0, 11, 1447, m0),
   (22, .iconst 3, 1, 0, 0, 0, m0),
   (23, .iaload, 1, 0, 0, 0, m0),
   (24, .istore 4, 2, 0, 0, 0, m0),
   (26, .aload_n 0, 1, 0, 0, 0, m0),
   (27, .getfield 7, 3, 0, 11, 1447, m0),
   (30, .iload_n 1, 1, 0, 0, 0, m0),
   (31, .iaload, 1, 0, 0, 0, m0),
   (32, .tableswitch 209 6 14 #[126, 209, 209, 52, 67, 105, 163, 180, 204], 52, 0, 0, 0, m0)]),
  (84, [], false, [(84, .aload_n 0, 1, 0, 0, 0, m0),
   (85, .iload_n 2, 1, 0, 0, 0, m0),
   (86, .iload_n 3, 1, 0, 0, 0, m0),
   (87, .aload_n 0, 1, 0, 0, 0, m0),
   (88, .getfield 7, 3, 0, 11, 1447, m0),
   (91, .iload_n 1, 1, 0, 0, 0, m0),
   (92, .iconst 3, 1, 0, 0, 0, m0),
   (93, .iadd, 1, 0, 0, 0, m0),
   (94, .iaload, 1, 0, 0, 0, m0),
   (95, .invokevirtual 427, 3, 0, 0, 2140, m_Mod_lendsBy),
   (98, .ireturn, 1, 0, 0, 0, m0)]),
  (99, [], false, [(99, .aload_n 0, 1, 0, 0, 0, m0),
   (100, .aload_n 0, 1, 0, 0, 0, m0),
   (101, .iload_n 2, 1, 0, 0, 0, m0),
   (102, .iload_n 3, 1, 0, 0, 0, m0),
   (103, .invokevirtual 320, 3, 0, 0, 1852, m_Mod_areTwo),
   (106, .ifCond .eq 24, 3, 130, 0, 0, m0),
   (109, .nop, 0, 0, 0, 0, m0)]),
  (109, [], false, [(109, .aload_n 0, 1, 0, 0, 0, m0),
   (110, .iload_n 2, 1, 0, 0, 0, m0),
   (111, .iload_n 3, 1, 0, 0, 0, m0),
   (112, .aload_n 0, 1, 0, 0, 0, m0),
   (113, .getfield 7, 3, 0, 11, 1447, m0),
   (116, .iload_n 1, 1, 0, 0, 0, m0),
   (117, .iconst 3, 1, 0, 0, 0, m0),
   (118, .iadd, 1, 0, 0, 0, m0),
   (119, .iaload, 1, 0, 0, 0, m0),
   (120, .invokevirtual 337, 3, 0, 0, 1869, m_Mod_pays),
   (123, .ifCond .eq 7, 3, 130, 0, 0, m0),
   (126, .nop, 0, 0, 0, 0, m0)]),
  (126, [], false, [(126, .iconst 1, 1, 0, 0, 0, m0),
   (127, .goto 4, 3, 131, 0, 0, m0)]),
  (130, [], false, [(130, .iconst 0, 1, 0, 0, 0, m0),
   (131, .nop, 0, 0, 0, 0, m0)]),
  (131, [], false, [(131, .iload 4, 2, 0, 0, 0, m0),
   (133, .invokevirtual 430, 3, 0, 0, 2144, m_Mod_paysBy),
   (136, .ireturn, 1, 0, 0, 0, m0)]),
  (137, [], false, [(137, .aload_n 0, 1, 0, 0, 0, m0),
   (138, .invokevirtual 349, 3, 0, 0, 1901, m_Mod_sundays),
   (141, .ifCond .ne 5, 3, 146, 0, 0, m0),
   (144, .nop, 0, 0, 0, 0, m0)]),
  (144, [], false, [(144, .iconst 0, 1, 0, 0, 0, m0),
   (145, .ireturn, 1, 0, 0, 0, m0)]),
  (146, [], false, [(146, .aload_n 0, 1, 0, 0, 0, m0),
   (147, .getfield 56, 3, 30, 11, 1477, m0),
   (150, .iconst 3, 1, 0, 0, 0, m0),
   (151, .dup2, 1, 0, 0, 0, m0),
   (152, .iaload, 1, 0, 0, 0, m0),
   (153, .iconst 1, 1, 0, 0, 0, m0),
   (154, .iadd, 1, 0, 0, 0, m0),
   (155, .iastore, 1, 0, 0, 0, m0),
   (156, .iconst 1, 1, 0, 0, 0, m0),
   (157, .ireturn, 1, 0, 0, 0, m0)]),
  (158, [], false, [(158, .aload_n 0, 1, 0, 0, 0, m0),
   (159, .aload_n 0, 1, 0, 0, 0, m0),
   (160, .iload_n 2, 1, 0, 0, 0, m0),
   (161, .invokevirtual 280, 3, 0, 0, 1832, m_Mod_isLiving),
   (164, .ifCond .eq 24, 3, 188, 0, 0, m0),
   (167, .nop, 0, 0, 0, 0, m0)]),
  (167, [], false, [(167, .aload_n 0, 1, 0, 0, 0, m0),
   (168, .iload_n 2, 1, 0, 0, 0, m0),
   (169, .iconst 3, 1, 0, 0, 0, m0),
   (170, .invokevirtual 171, 3, 0, 0, 1708, m_Mod_of),
   (173, .ifCond .ne 15, 3, 188, 0, 0, m0),
   (176, .nop, 0, 0, 0, 0, m0)]),
  (176, [], false, [(176, .aload_n 0, 1, 0, 0, 0, m0),
   (177, .iload_n 2, 1, 0, 0, 0, m0),
   (178, .invokevirtual 352, 3, 0, 0, 1914, m_Mod_colds),
   (181, .ifCond .lt 7, 3, 188, 0, 0, m0),
   (184, .nop, 0, 0, 0, 0, m0)]),
  (184, [], false, [(184, .iconst 1, 1, 0, 0, 0, m0),
   (185, .goto 4, 3, 189, 0, 0, m0)]),
  (188, [], false, [(188, .iconst 0, 1, 0, 0, 0, m0),
   (189, .nop, 0, 0, 0, 0, m0)]),
  (189, [], false, [(189, .iload 4, 2, 0, 0, 0, m0),
   (191, .invokevirtual 430, 3, 0, 0, 2144, m_Mod_paysBy),
   (194, .ireturn, 1, 0, 0, 0, m0)]),
  (195, [], false, [(195, .aload_n 0, 1, 0, 0, 0, m0),
   (196, .iload_n 2, 1, 0, 0, 0, m0),
   (197, .invokevirtual 280, 3, 0, 0, 1832, m_Mod_isLiving),
   (200, .ifCond .ne 5, 3, 205, 0, 0, m0),
   (203, .nop, 0, 0, 0, 0, m0)]),
  (203, [], false, [(203, .iconst 0, 1, 0, 0, 0, m0),
   (204, .ireturn, 1, 0, 0, 0, m0)]),
  (205, [], false, [(205, .aload_n 0, 1, 0, 0, 0, m0),
   (206, .iload_n 2, 1, 0, 0, 0, m0),
   (207, .invokevirtual 358, 3, 0, 0, 1929, m_Mod_dies),
   (210, .iconst 1, 1, 0, 0, 0, m0),
   (211, .ireturn, 1, 0, 0, 0, m0)]),
  (212, [], false, [(212, .aload_n 0, 1, 0, 0, 0, m0),
   (213, .iload_n 2, 1, 0, 0, 0, m0),
   (214, .iload_n 3, 1, 0, 0, 0, m0),
   (215, .invokevirtual 320, 3, 0, 0, 1852, m_Mod_areTwo),
   (218, .ifCond .eq 16, 3, 234, 0, 0, m0),
   (221, .nop, 0, 0, 0, 0, m0)]),
  (221, [], false, [(221, .aload_n 0, 1, 0, 0, 0, m0),
   (222, .iload_n 2, 1, 0, 0, 0, m0),
   (223, .iload_n 3, 1, 0, 0, 0, m0),
   (224, .invokevirtual 340, 3, 0, 0, 1893, m_Mod_chordOf),
   (227, .ifCond .le 7, 3, 234, 0, 0, m0),
   (230, .nop, 0, 0, 0, 0, m0)]),
  (230, [], false, [(230, .iconst 1, 1, 0, 0, 0, m0),
   (231, .goto 4, 3, 235, 0, 0, m0)]),
  (234, [], false, [(234, .iconst 0, 1, 0, 0, 0, m0),
   (235, .nop, 0, 0, 0, 0, m0)]),
  (235, [], false, [(235, .ireturn, 1, 0, 0, 0, m0)]),
  (236, [], false, [(236, .aload_n 0, 1, 0, 0, 0, m0),
   (237, .invokevirtual 434, 3, 0, 0, 2148, m_Mod_lendsAny),
   (240, .ireturn, 1, 0, 0, 0, m0)]),
  (241, [], false, [(241, .iconst 1, 1, 0, 0, 0, m0),
   (242, .ireturn, 1, 0, 0, 0, m0)])]
theorem ok_Mod_does : okBt m_Mod_does bt_Mod_does = true := by decide +kernel
set_option maxRecDepth 100000 in
theorem b_Mod_does_0 {l : Launch} {E : EnvT} {d : Nat} {K : AV → Mem → Prop} {M : Mem} {x1 : Int32} (hd : 1 ≤ d)
  (h : (vp_in (x1 + (iN 1)) 3612 ∧ vp_in (x1 + (iN 2)) 3612 ∧ vp_in (iN 3) 3612 ∧ vp_in x1 3612 ∧ (((iN (M 24 1 (x1).toNatClampNeg)) = iN 6 →
   CT l E (d - 1) m_Mod_isLiving [(.ref 24, 41), (.int (iN (M 24 1 ((x1 + (iN 1))).toNatClampNeg)), 0)] M (fun v13 M13 =>
    (((toI v13) = 0 →
     CT l E (d - 1) m_Mod_paysBy [(.ref 24, 41), (.int (iN 0), 0), (.int (iN (M 24 1 ((iN 3)).toNatClampNeg)), 0)] M13 (fun v14 M14 =>
      ((((toI v14) = 0 ∨ (toI v14) = 1)) ∧ K (.int (toI v14), 0) M14))) ∧
    (¬ (toI v13) = 0 →
     CT l E (d - 1) m_Mod_of [(.ref 24, 41), (.int (iN (M 24 1 ((x1 + (iN 1))).toNatClampNeg)), 0), (.int (iN 3), 0)] M13 (fun v15 M15 =>
      ((¬ (toI v15) = 0 →
       CT l E (d - 1) m_Mod_paysBy [(.ref 24, 41), (.int (iN 0), 0), (.int (iN (M 24 1 ((iN 3)).toNatClampNeg)), 0)] M15 (fun v16 M16 =>
        ((((toI v16) = 0 ∨ (toI v16) = 1)) ∧ K (.int (toI v16), 0) M16))) ∧
      ((toI v15) = 0 →
       CT l E (d - 1) m_Mod_colds [(.ref 24, 41), (.int (iN (M 24 1 ((x1 + (iN 1))).toNatClampNeg)), 0)] M15 (fun v17 M17 =>
        (((toI v17) < 0 →
         CT l E (d - 1) m_Mod_paysBy [(.ref 24, 41), (.int (iN 0), 0), (.int (iN (M 24 1 ((iN 3)).toNatClampNeg)), 0)] M17 (fun v18 M18 =>
          ((((toI v18) = 0 ∨ (toI v18) = 1)) ∧ K (.int (toI v18), 0) M18))) ∧
        (¬ (toI v17) < 0 →
         CT l E (d - 1) m_Mod_paysBy [(.ref 24, 41), (.int (iN 1), 0), (.int (iN (M 24 1 ((iN 3)).toNatClampNeg)), 0)] M17 (fun v19 M19 =>
          ((((toI v19) = 0 ∨ (toI v19) = 1)) ∧ K (.int (toI v19), 0) M19)))))))))))) ∧
  (¬ (iN (M 24 1 (x1).toNatClampNeg)) = iN 6 →
   (((iN (M 24 1 (x1).toNatClampNeg)) = iN 7 →
   ((((iN 1) = 0 ∨ (iN 1) = 1)) ∧ K (.int (iN 1), 0) M)) ∧
  (¬ (iN (M 24 1 (x1).toNatClampNeg)) = iN 7 →
   (((iN (M 24 1 (x1).toNatClampNeg)) = iN 8 →
   ((((iN 1) = 0 ∨ (iN 1) = 1)) ∧ K (.int (iN 1), 0) M)) ∧
  (¬ (iN (M 24 1 (x1).toNatClampNeg)) = iN 8 →
   (((iN (M 24 1 (x1).toNatClampNeg)) = iN 9 →
   (vp_in (x1 + (iN 3)) 3612 ∧ CT l E (d - 1) m_Mod_lendsBy [(.ref 24, 41), (.int (iN (M 24 1 ((x1 + (iN 1))).toNatClampNeg)), 0), (.int (iN (M 24 1 ((x1 + (iN 2))).toNatClampNeg)), 0), (.int (iN (M 24 1 ((x1 + (iN 3))).toNatClampNeg)), 0)] M (fun v12 M12 =>
    ((((toI v12) = 0 ∨ (toI v12) = 1)) ∧ K (.int (toI v12), 0) M12)))) ∧
  (¬ (iN (M 24 1 (x1).toNatClampNeg)) = iN 9 →
   (((iN (M 24 1 (x1).toNatClampNeg)) = iN 10 →
   CT l E (d - 1) m_Mod_areTwo [(.ref 24, 41), (.int (iN (M 24 1 ((x1 + (iN 1))).toNatClampNeg)), 0), (.int (iN (M 24 1 ((x1 + (iN 2))).toNatClampNeg)), 0)] M (fun v7 M7 =>
    (((toI v7) = 0 →
     CT l E (d - 1) m_Mod_paysBy [(.ref 24, 41), (.int (iN 0), 0), (.int (iN (M 24 1 ((iN 3)).toNatClampNeg)), 0)] M7 (fun v8 M8 =>
      ((((toI v8) = 0 ∨ (toI v8) = 1)) ∧ K (.int (toI v8), 0) M8))) ∧
    (¬ (toI v7) = 0 →
     (vp_in (x1 + (iN 3)) 3612 ∧ CT l E (d - 1) m_Mod_pays [(.ref 24, 41), (.int (iN (M 24 1 ((x1 + (iN 1))).toNatClampNeg)), 0), (.int (iN (M 24 1 ((x1 + (iN 2))).toNatClampNeg)), 0), (.int (iN (M7 24 1 ((x1 + (iN 3))).toNatClampNeg)), 0)] M7 (fun v9 M9 =>
      (((toI v9) = 0 →
       CT l E (d - 1) m_Mod_paysBy [(.ref 24, 41), (.int (iN 0), 0), (.int (iN (M 24 1 ((iN 3)).toNatClampNeg)), 0)] M9 (fun v10 M10 =>
        ((((toI v10) = 0 ∨ (toI v10) = 1)) ∧ K (.int (toI v10), 0) M10))) ∧
      (¬ (toI v9) = 0 →
       CT l E (d - 1) m_Mod_paysBy [(.ref 24, 41), (.int (iN 1), 0), (.int (iN (M 24 1 ((iN 3)).toNatClampNeg)), 0)] M9 (fun v11 M11 =>
        ((((toI v11) = 0 ∨ (toI v11) = 1)) ∧ K (.int (toI v11), 0) M11)))))))))) ∧
  (¬ (iN (M 24 1 (x1).toNatClampNeg)) = iN 10 →
   (((iN (M 24 1 (x1).toNatClampNeg)) = iN 11 →
   CT l E (d - 1) m_Mod_sundays [(.ref 24, 41)] M (fun v6 M6 =>
    ((¬ (toI v6) = 0 →
     (vp_in (iN 3) 5 ∧ vp_in (iN 3) 5 ∧ (((iN 1) = 0 ∨ (iN 1) = 1)) ∧ K (.int (iN 1), 0) (upd3 M6 24 12 ((iN 3)).toNatClampNeg (((iN (M6 24 12 ((iN 3)).toNatClampNeg)) + (iN 1))).toInt))) ∧
    ((toI v6) = 0 →
     ((((iN 0) = 0 ∨ (iN 0) = 1)) ∧ K (.int (iN 0), 0) M6))))) ∧
  (¬ (iN (M 24 1 (x1).toNatClampNeg)) = iN 11 →
   (((iN (M 24 1 (x1).toNatClampNeg)) = iN 12 →
   CT l E (d - 1) m_Mod_isLiving [(.ref 24, 41), (.int (iN (M 24 1 ((x1 + (iN 1))).toNatClampNeg)), 0)] M (fun v4 M4 =>
    ((¬ (toI v4) = 0 →
     CT l E (d - 1) m_Mod_dies [(.ref 24, 41), (.int (iN (M 24 1 ((x1 + (iN 1))).toNatClampNeg)), 0)] M4 (fun v5 M5 =>
      ((((iN 1) = 0 ∨ (iN 1) = 1)) ∧ K (.int (iN 1), 0) M5))) ∧
    ((toI v4) = 0 →
     ((((iN 0) = 0 ∨ (iN 0) = 1)) ∧ K (.int (iN 0), 0) M4))))) ∧
  (¬ (iN (M 24 1 (x1).toNatClampNeg)) = iN 12 →
   (((iN (M 24 1 (x1).toNatClampNeg)) = iN 13 →
   CT l E (d - 1) m_Mod_areTwo [(.ref 24, 41), (.int (iN (M 24 1 ((x1 + (iN 1))).toNatClampNeg)), 0), (.int (iN (M 24 1 ((x1 + (iN 2))).toNatClampNeg)), 0)] M (fun v2 M2 =>
    (((toI v2) = 0 →
     ((((iN 0) = 0 ∨ (iN 0) = 1)) ∧ K (.int (iN 0), 0) M2)) ∧
    (¬ (toI v2) = 0 →
     CT l E (d - 1) m_Mod_chordOf [(.ref 24, 41), (.int (iN (M 24 1 ((x1 + (iN 1))).toNatClampNeg)), 0), (.int (iN (M 24 1 ((x1 + (iN 2))).toNatClampNeg)), 0)] M2 (fun v3 M3 =>
      (((toI v3) ≤ 0 →
       ((((iN 0) = 0 ∨ (iN 0) = 1)) ∧ K (.int (iN 0), 0) M3)) ∧
      (¬ (toI v3) ≤ 0 →
       ((((iN 1) = 0 ∨ (iN 1) = 1)) ∧ K (.int (iN 1), 0) M3)))))))) ∧
  (¬ (iN (M 24 1 (x1).toNatClampNeg)) = iN 13 →
   (((iN (M 24 1 (x1).toNatClampNeg)) = iN 14 →
   CT l E (d - 1) m_Mod_lendsAny [(.ref 24, 41)] M (fun v1 M1 =>
    ((((toI v1) = 0 ∨ (toI v1) = 1)) ∧ K (.int (toI v1), 0) M1))) ∧
  (¬ (iN (M 24 1 (x1).toNatClampNeg)) = iN 14 →
   ((((iN 1) = 0 ∨ (iN 1) = 1)) ∧ K (.int (iN 1), 0) M))))))))))))))))))))) :
  G l E d m_Mod_does 0 [(0, (.ref 24, 41)), (1, (.int x1, 0))] [] M K := G.blk 60 _ hd ok_Mod_does rfl h
def bt_Mod_holds : BtT := [(0, [0, 1], true, [(0, .aload_n 0, 1, 0, 0, 0, m0),
   (1, .getfield 7, 3, 0, 11, 1447, m0),
   (4, .iload_n 1, 1, 0, 0, 0, m0),
   (5, .iaload, 1, 0, 0, 0, m0),
   (6, .sipush 1600, 3, 0, 0, 0, m0),
   (9, .isub, 1, 0, 0, 0, m0),
   (10, .istore_n 2, 1, 0, 0, 0, m0),
   (11, .aload_n 0, 1, 0, 0, 0, m0),
   (12, .getfield 7, 3, 0, 11, 1447, m0),
   (15, .iload_n 1, 1, 0, 0, 0, m0),
   (16, .iconst 1, 1, 0, 0, 0, m0),
   (17, .iadd, 1, 0, 0, 0, m0),
   (18, .iaload, 1, 0, 0, 0, m0),
   (19, .istore_n 3, 1, 0, 0, 0, m0),
   (20, .iload_n 2, 1, 0, 0, 0, m0),
   (21, .bipush 21, 2, 0, 0, 0, m0),
   (23, .if_icmp .ne 23, 3, 46, 0, 0, m0),
   (26, .nop, 0, 0, 0, 0, m0)]),
  (26, [], false, [(26, .aload_n 0, 1, 0, 0, 0, m0),
   (27, .iload_n 3, 1, 0, 0, 0, m0),
   (28, .invokevirtual 289, 3, 0, 0, 1776, m_Mod_owesAll),
   (31, .aload_n 0, 1, 0, 0, 0, m0),
   (32, .iload_n 3, 1, 0, 0, 0, m0),
   (33, .invokevirtual 307, 3, 0, 0, 1804, m_Mod_owedAll),
   (36, .iadd, 1, 0, 0, 0, m0),
   (37, .ifCond .ne 7, 3, 44, 0, 0, m0),
   (40, .nop, 0, 0, 0, 0, m0)]),
  (40, [], false, [(40, .iconst 1, 1, 0, 0, 0, m0),
   (41, .goto 4, 3, 45, 0, 0, m0)]),
  (44, [], false, [(44, .iconst 0, 1, 0, 0, 0, m0),
   (45, .nop, 0, 0, 0, 0, m0)]),
  (45, [], false, [(45, .ireturn, 1, 0, 0, 0, m0)]),
  (46, [], false, [(46, .iload_n 2, 1, 0, 0, 0, m0),
   (47, .iconst 4, 1, 0, 0, 0, m0),
   (48, .if_icmp .ne 12, 3, 60, 0, 0, m0),
   (51, .nop, 0, 0, 0, 0, m0)]),
  (51, [], false, [(51, .aload_n 0, 1, 0, 0, 0, m0),
   (52, .iload_n 3, 1, 0, 0, 0, m0),
   (53, .iconst 0, 1, 0, 0, 0, m0),
   (54, .invokevirtual 171, 3, 0, 0, 1708, m_Mod_of),
   (57, .goto 32, 3, 89, 0, 0, m0)]),
  (60, [], false, [(60, .iload_n 3, 1, 0, 0, 0, m0),
   (61, .aload_n 0, 1, 0, 0, 0, m0),
   (62, .getfield 7, 3, 0, 11, 1447, m0),
   (65, .iload_n 1, 1, 0, 0, 0, m0),
   (66, .iconst 2, 1, 0, 0, 0, m0),
   (67, .iadd, 1, 0, 0, 0, m0),
   (68, .iaload, 1, 0, 0, 0, m0),
   (69, .if_icmp .ne 7, 3, 76, 0, 0, m0),
   (72, .nop, 0, 0, 0, 0, m0)]),
  (72, [], false, [(72, .iconst 0, 1, 0, 0, 0, m0),
   (73, .goto 16, 3, 89, 0, 0, m0)]),
  (76, [], false, [(76, .aload_n 0, 1, 0, 0, 0, m0),
   (77, .iload_n 3, 1, 0, 0, 0, m0),
   (78, .aload_n 0, 1, 0, 0, 0, m0),
   (79, .getfield 7, 3, 0, 11, 1447, m0),
   (82, .iload_n 1, 1, 0, 0, 0, m0),
   (83, .iconst 2, 1, 0, 0, 0, m0),
   (84, .iadd, 1, 0, 0, 0, m0),
   (85, .iaload, 1, 0, 0, 0, m0),
   (86, .invokevirtual 286, 3, 0, 0, 1780, m_Mod_owes),
   (89, .nop, 0, 0, 0, 0, m0)]),
  (89, [], false, [(89, .istore 4, 2, 0, 0, 0, m0),
   (91, .nop, 0, 0, 0, 0, m0)]),
  (91, [0, 1, 4], true, [(91, .aload_n 0, 1, 0, 0, 0, m0),
   (92, .getfield 7, 3, 0, 11, 1447, m0),
   (95, .iload_n 1, 1, 0, 0, 0, m0),
   (96, .iconst 5, 1, 0, 0, 0, m0),
   (97, .iadd, 1, 0, 0, 0, m0),
   (98, .iaload, 1, 0, 0, 0, m0),
   (99, .bipush 60, 2, 0, 0, 0, m0),
   (101, .if_icmp .ne 24, 3, 125, 0, 0, m0),
   (104, .nop, 0, 0, 0, 0, m0)]),
  (104, [], false, [(104, .iload 4, 2, 0, 0, 0, m0),
   (106, .aload_n 0, 1, 0, 0, 0, m0),
   (107, .getfield 7, 3, 0, 11, 1447, m0),
   (110, .iload_n 1, 1, 0, 0, 0, m0),
   (111, .iconst 3, 1, 0, 0, 0, m0),
   (112, .iadd, 1, 0, 0, 0, m0),
   (113, .iaload, 1, 0, 0, 0, m0),
   (114, .if_icmp .ge 7, 3, 121, 0, 0, m0),
   (117, .nop, 0, 0, 0, 0, m0)]),
  (117, [], false, [(117, .iconst 1, 1, 0, 0, 0, m0),
   (118, .goto 59, 3, 177, 0, 0, m0)]),
  (121, [], false, [(121, .iconst 0, 1, 0, 0, 0, m0),
   (122, .goto 55, 3, 177, 0, 0, m0)]),
  (125, [], false, [(125, .aload_n 0, 1, 0, 0, 0, m0),
   (126, .getfield 7, 3, 0, 11, 1447, m0),
   (129, .iload_n 1, 1, 0, 0, 0, m0),
   (130, .iconst 5, 1, 0, 0, 0, m0),
   (131, .iadd, 1, 0, 0, 0, m0),
   (132, .iaload, 1, 0, 0, 0, m0),
   (133, .bipush 62, 2, 0, 0, 0, m0),
   (135, .if_icmp .ne 24, 3, 159, 0, 0, m0),
   (138, .nop, 0, 0, 0, 0, m0)]),
  (138, [], false, [(138, .iload 4, 2, 0, 0, 0, m0),
   (140, .aload_n 0, 1, 0, 0, 0, m0),
   (141, .getfield 7, 3, 0, 11, 1447, m0),
   (144, .iload_n 1, 1, 0, 0, 0, m0),
   (145, .iconst 3, 1, 0, 0, 0, m0),
   (146, .iadd, 1, 0, 0, 0, m0),
   (147, .iaload, 1, 0, 0, 0, m0),
   (148, .if_icmp .le 7, 3, 155, 0, 0, m0),
   (151, .nop, 0, 0, 0, 0, m0)]),
  (151, [], false, [(151, .iconst 1, 1, 0, 0, 0, m0),
   (152, .goto 25, 3, 177, 0, 0, m0)]),
  (155, [], false, [(155, .iconst 0, 1, 0, 0, 0, m0),
   (156, .goto 21, 3, 177, 0, 0, m0)]),
  (159, [], false, [(159, .iload 4, 2, 0, 0, 0, m0),
   (161, .aload_n 0, 1, 0, 0, 0, m0),
   (162, .getfield 7, 3, 0, 11, 1447, m0),
   (165, .iload_n 1, 1, 0, 0, 0, m0),
   (166, .iconst 3, 1, 0, 0, 0, m0),
   (167, .iadd, 1, 0, 0, 0, m0),
   (168, .iaload, 1, 0, 0, 0, m0),
   (169, .if_icmp .ne 7, 3, 176, 0, 0, m0),
   (172, .nop, 0, 0, 0, 0, m0)]),
  (172, [], false, [(172, .iconst 1, 1, 0, 0, 0, m0),
   (173, .goto 4, 3, 177, 0, 0, m0)]),
  (176, [], false, [(176, .iconst 0, 1, 0, 0, 0, m0),
   (177, .nop, 0, 0, 0, 0, m0)]),
  (177, [], false, [(177, .ireturn, 1, 0, 0, 0, m0)])]
theorem ok_Mod_holds : okBt m_Mod_holds bt_Mod_holds = true := by decide +kernel
set_option maxRecDepth 100000 in
theorem b_Mod_holds_0 {l : Launch} {E : EnvT} {d : Nat} {K : AV → Mem → Prop} {M : Mem} {x1 : Int32} (hd : 1 ≤ d)
  (h : (vp_in x1 3612 ∧ vp_in (x1 + (iN 1)) 3612 ∧ ((¬ ((iN (M 24 1 (x1).toNatClampNeg)) - (iN 1600)) = (iN 21) →
   ((¬ ((iN (M 24 1 (x1).toNatClampNeg)) - (iN 1600)) = (iN 4) →
    (vp_in (x1 + (iN 2)) 3612 ∧ ((¬ (iN (M 24 1 ((x1 + (iN 1))).toNatClampNeg)) = (iN (M 24 1 ((x1 + (iN 2))).toNatClampNeg)) →
     (vp_in (x1 + (iN 2)) 3612 ∧ CT l E (d - 1) m_Mod_owes [(.ref 24, 41), (.int (iN (M 24 1 ((x1 + (iN 1))).toNatClampNeg)), 0), (.int (iN (M 24 1 ((x1 + (iN 2))).toNatClampNeg)), 0)] M (fun v1 M1 =>
      G l E d m_Mod_holds 91 [(0, (.ref 24, 41)), (1, (.int x1, 0)), (4, (.int (toI v1), 0))] [] M1 K))) ∧
    ((iN (M 24 1 ((x1 + (iN 1))).toNatClampNeg)) = (iN (M 24 1 ((x1 + (iN 2))).toNatClampNeg)) →
     G l E d m_Mod_holds 91 [(0, (.ref 24, 41)), (1, (.int x1, 0)), (4, (.int (iN 0), 0))] [] M K)))) ∧
   (((iN (M 24 1 (x1).toNatClampNeg)) - (iN 1600)) = (iN 4) →
    CT l E (d - 1) m_Mod_of [(.ref 24, 41), (.int (iN (M 24 1 ((x1 + (iN 1))).toNatClampNeg)), 0), (.int (iN 0), 0)] M (fun v2 M2 =>
     G l E d m_Mod_holds 91 [(0, (.ref 24, 41)), (1, (.int x1, 0)), (4, (.int (toI v2), 0))] [] M2 K)))) ∧
  (((iN (M 24 1 (x1).toNatClampNeg)) - (iN 1600)) = (iN 21) →
   CT l E (d - 1) m_Mod_owesAll [(.ref 24, 41), (.int (iN (M 24 1 ((x1 + (iN 1))).toNatClampNeg)), 0)] M (fun v3 M3 =>
    CT l E (d - 1) m_Mod_owedAll [(.ref 24, 41), (.int (iN (M 24 1 ((x1 + (iN 1))).toNatClampNeg)), 0)] M3 (fun v4 M4 =>
     ((¬ ((toI v3) + (toI v4)) = 0 →
      ((((iN 0) = 0 ∨ (iN 0) = 1)) ∧ K (.int (iN 0), 0) M4)) ∧
     (((toI v3) + (toI v4)) = 0 →
      ((((iN 1) = 0 ∨ (iN 1) = 1)) ∧ K (.int (iN 1), 0) M4))))))))) :
  G l E d m_Mod_holds 0 [(0, (.ref 24, 41)), (1, (.int x1, 0))] [] M K := G.blk 60 _ hd ok_Mod_holds rfl h
set_option maxRecDepth 100000 in
theorem b_Mod_holds_91 {l : Launch} {E : EnvT} {d : Nat} {K : AV → Mem → Prop} {M : Mem} {x1 : Int32} {x4 : Int32} (hd : 1 ≤ d)
  (h : (vp_in (x1 + (iN 5)) 3612 ∧ ((¬ (iN (M 24 1 ((x1 + (iN 5))).toNatClampNeg)) = (iN 60) →
   (vp_in (x1 + (iN 5)) 3612 ∧ ((¬ (iN (M 24 1 ((x1 + (iN 5))).toNatClampNeg)) = (iN 62) →
    (vp_in (x1 + (iN 3)) 3612 ∧ ((¬ x4 = (iN (M 24 1 ((x1 + (iN 3))).toNatClampNeg)) →
     ((((iN 0) = 0 ∨ (iN 0) = 1)) ∧ K (.int (iN 0), 0) M)) ∧
    (x4 = (iN (M 24 1 ((x1 + (iN 3))).toNatClampNeg)) →
     ((((iN 1) = 0 ∨ (iN 1) = 1)) ∧ K (.int (iN 1), 0) M))))) ∧
   ((iN (M 24 1 ((x1 + (iN 5))).toNatClampNeg)) = (iN 62) →
    (vp_in (x1 + (iN 3)) 3612 ∧ ((x4 ≤ (iN (M 24 1 ((x1 + (iN 3))).toNatClampNeg)) →
     ((((iN 0) = 0 ∨ (iN 0) = 1)) ∧ K (.int (iN 0), 0) M)) ∧
    (¬ x4 ≤ (iN (M 24 1 ((x1 + (iN 3))).toNatClampNeg)) →
     ((((iN 1) = 0 ∨ (iN 1) = 1)) ∧ K (.int (iN 1), 0) M)))))))) ∧
  ((iN (M 24 1 ((x1 + (iN 5))).toNatClampNeg)) = (iN 60) →
   (vp_in (x1 + (iN 3)) 3612 ∧ (((iN (M 24 1 ((x1 + (iN 3))).toNatClampNeg)) ≤ x4 →
    ((((iN 0) = 0 ∨ (iN 0) = 1)) ∧ K (.int (iN 0), 0) M)) ∧
   (¬ (iN (M 24 1 ((x1 + (iN 3))).toNatClampNeg)) ≤ x4 →
    ((((iN 1) = 0 ∨ (iN 1) = 1)) ∧ K (.int (iN 1), 0) M)))))))) :
  G l E d m_Mod_holds 91 [(0, (.ref 24, 41)), (1, (.int x1, 0)), (4, (.int x4, 0))] [] M K := G.blk 60 _ hd ok_Mod_holds rfl h
def bt_Mod_behindEnds : BtT := [(0, [0, 1], true, [(0, .iload_n 1, 1, 0, 0, 0, m0),
   (1, .istore_n 2, 1, 0, 0, 0, m0),
   (2, .nop, 0, 0, 0, 0, m0)]),
  (2, [0, 2], true, [(2, .iload_n 2, 1, 0, 0, 0, m0),
   (3, .aload_n 0, 1, 0, 0, 0, m0),
   (4, .getfield 7, 3, 0, 11, 1447, m0),
   (7, .iconst 4, 1, 0, 0, 0, m0),
   (8, .iaload, 1, 0, 0, 0, m0),
   (9, .if_icmp .ge 108, 3, 117, 0, 0, m0),
   (12, .nop, 0, 0, 0, 0, m0)]),
  (12, [], false, [(12, .aload_n 0, 1, 0, 0, 0, m0),
   (13, .getfield 7, 3, 0, 11, 1447, m0),
   (16, .sipush 238, 3, 0, 0, 0, m0),
   (19, .bipush 6, 2, 0, 0, 0, m0),
   (21, .iload_n 2, 1, 0, 0, 0, m0),
   (22, .imul, 1, 0, 0, 0, m0),
   (23, .iadd, 1, 0, 0, 0, m0),
   (24, .iaload, 1, 0, 0, 0, m0),
   (25, .bipush 18, 2, 0, 0, 0, m0),
   (27, .if_icmp .ne 90, 3, 117, 0, 0, m0),
   (30, .nop, 0, 0, 0, 0, m0)]),
  (30, [0, 2], true, [(30, .aload_n 0, 1, 0, 0, 0, m0),
   (31, .getfield 7, 3, 0, 11, 1447, m0),
   (34, .sipush 238, 3, 0, 0, 0, m0),
   (37, .bipush 6, 2, 0, 0, 0, m0),
   (39, .iload_n 2, 1, 0, 0, 0, m0),
   (40, .imul, 1, 0, 0, 0, m0),
   (41, .iadd, 1, 0, 0, 0, m0),
   (42, .iconst 4, 1, 0, 0, 0, m0),
   (43, .iadd, 1, 0, 0, 0, m0),
   (44, .iaload, 1, 0, 0, 0, m0),
   (45, .istore_n 3, 1, 0, 0, 0, m0),
   (46, .aload_n 0, 1, 0, 0, 0, m0),
   (47, .getfield 7, 3, 0, 11, 1447, m0),
   (50, .sipush 238, 3, 0, 0, 0, m0),
   (53, .bipush 6, 2, 0, 0, 0, m0),
   (55, .iload_n 3, 1, 0, 0, 0, m0),
   (56, .imul, 1, 0, 0, 0, m0),
   (57, .iadd, 1, 0, 0, 0, m0),
   (58, .iaload, 1, 0, 0, 0, m0),
   (59, .bipush 17, 2, 0, 0, 0, m0),
   (61, .if_icmp .ne 16, 3, 77, 0, 0, m0),
   (64, .nop, 0, 0, 0, 0, m0)]),
  (64, [], false, [(64, .aload_n 0, 1, 0, 0, 0, m0),
   (65, .getfield 53, 3, 29, 11, 1476, m0),
   (68, .iload_n 3, 1, 0, 0, 0, m0),
   (69, .iaload, 1, 0, 0, 0, m0),
   (70, .ifCond .le 7, 3, 77, 0, 0, m0),
   (73, .nop, 0, 0, 0, 0, m0)]),
  (73, [], false, [(73, .iconst 1, 1, 0, 0, 0, m0),
   (74, .goto 4, 3, 78, 0, 0, m0)]),
  (77, [], false, [(77, .iconst 0, 1, 0, 0, 0, m0),
   (78, .nop, 0, 0, 0, 0, m0)]),
  (78, [], false, [(78, .istore 4, 2, 0, 0, 0, m0),
   (80, .nop, 0, 0, 0, 0, m0)]),
  (80, [0, 2, 3, 4], true, [(80, .aload_n 0, 1, 0, 0, 0, m0),
   (81, .getfield 53, 3, 29, 11, 1476, m0),
   (84, .iload_n 3, 1, 0, 0, 0, m0),
   (85, .dup2, 1, 0, 0, 0, m0),
   (86, .iaload, 1, 0, 0, 0, m0),
   (87, .iload 4, 2, 0, 0, 0, m0),
   (89, .ifCond .eq 7, 3, 96, 0, 0, m0),
   (92, .nop, 0, 0, 0, 0, m0)]),
  (92, [], false, [(92, .iconst 1, 1, 0, 0, 0, m0),
   (93, .goto 4, 3, 97, 0, 0, m0)]),
  (96, [], false, [(96, .iconst 0, 1, 0, 0, 0, m0),
   (97, .nop, 0, 0, 0, 0, m0)]),
  (97, [], false, [(97, .isub, 1, 0, 0, 0, m0),
   (98, .iastore, 1, 0, 0, 0, m0),
   (99, .nop, 0, 0, 0, 0, m0)]),
  (99, [0, 2, 3, 4], true, [(99, .iload 4, 2, 0, 0, 0, m0),
   (101, .ifCond .eq 9, 3, 110, 0, 0, m0),
   (104, .nop, 0, 0, 0, 0, m0)]),
  (104, [], false, [(104, .iload_n 3, 1, 0, 0, 0, m0),
   (105, .iconst 1, 1, 0, 0, 0, m0),
   (106, .iadd, 1, 0, 0, 0, m0),
   (107, .goto 6, 3, 113, 0, 0, m0)]),
  (110, [], false, [(110, .iload_n 2, 1, 0, 0, 0, m0),
   (111, .iconst 1, 1, 0, 0, 0, m0),
   (112, .iadd, 1, 0, 0, 0, m0),
   (113, .nop, 0, 0, 0, 0, m0)]),
  (113, [], false, [(113, .istore_n 2, 1, 0, 0, 0, m0),
   (114, .goto (-112), 3, 2, 0, 0, m0)]),
  (117, [], false, [(117, .iload_n 2, 1, 0, 0, 0, m0),
   (118, .ireturn, 1, 0, 0, 0, m0)])]
theorem ok_Mod_behindEnds : okBt m_Mod_behindEnds bt_Mod_behindEnds = true := by decide +kernel
set_option maxRecDepth 100000 in
theorem b_Mod_behindEnds_0 {l : Launch} {E : EnvT} {d : Nat} {K : AV → Mem → Prop} {M : Mem} {x1 : Int32} (hd : 1 ≤ d)
  (h : G l E d m_Mod_behindEnds 2 [(0, (.ref 24, 41)), (2, (.int x1, 0))] [] M K) :
  G l E d m_Mod_behindEnds 0 [(0, (.ref 24, 41)), (1, (.int x1, 0))] [] M K := G.blk 60 _ hd ok_Mod_behindEnds rfl h
set_option maxRecDepth 100000 in
theorem b_Mod_behindEnds_2 {l : Launch} {E : EnvT} {d : Nat} {K : AV → Mem → Prop} {M : Mem} {x2 : Int32} (hd : 1 ≤ d)
  (h : (vp_in (iN 4) 3612 ∧ (((iN (M 24 1 ((iN 4)).toNatClampNeg)) ≤ x2 →
   K (.int x2, 0) M) ∧
  (¬ (iN (M 24 1 ((iN 4)).toNatClampNeg)) ≤ x2 →
   (vp_in ((iN 238) + ((iN 6) * x2)) 3612 ∧ ((¬ (iN (M 24 1 (((iN 238) + ((iN 6) * x2))).toNatClampNeg)) = (iN 18) →
    K (.int x2, 0) M) ∧
   ((iN (M 24 1 (((iN 238) + ((iN 6) * x2))).toNatClampNeg)) = (iN 18) →
    G l E d m_Mod_behindEnds 30 [(0, (.ref 24, 41)), (2, (.int x2, 0))] [] M K))))))) :
  G l E d m_Mod_behindEnds 2 [(0, (.ref 24, 41)), (2, (.int x2, 0))] [] M K := G.blk 60 _ hd ok_Mod_behindEnds rfl h
set_option maxRecDepth 100000 in
theorem b_Mod_behindEnds_30 {l : Launch} {E : EnvT} {d : Nat} {K : AV → Mem → Prop} {M : Mem} {x2 : Int32} (hd : 1 ≤ d)
  (h : (vp_in (((iN 238) + ((iN 6) * x2)) + (iN 4)) 3612 ∧ vp_in ((iN 238) + ((iN 6) * (iN (M 24 1 ((((iN 238) + ((iN 6) * x2)) + (iN 4))).toNatClampNeg)))) 3612 ∧ ((¬ (iN (M 24 1 (((iN 238) + ((iN 6) * (iN (M 24 1 ((((iN 238) + ((iN 6) * x2)) + (iN 4))).toNatClampNeg))))).toNatClampNeg)) = (iN 17) →
   G l E d m_Mod_behindEnds 80 [(0, (.ref 24, 41)), (2, (.int x2, 0)), (3, (.int (iN (M 24 1 ((((iN 238) + ((iN 6) * x2)) + (iN 4))).toNatClampNeg)), 0)), (4, (.int (iN 0), 0))] [] M K) ∧
  ((iN (M 24 1 (((iN 238) + ((iN 6) * (iN (M 24 1 ((((iN 238) + ((iN 6) * x2)) + (iN 4))).toNatClampNeg))))).toNatClampNeg)) = (iN 17) →
   (vp_in (iN (M 24 1 ((((iN 238) + ((iN 6) * x2)) + (iN 4))).toNatClampNeg)) 80 ∧ (((iN (M 24 11 ((iN (M 24 1 ((((iN 238) + ((iN 6) * x2)) + (iN 4))).toNatClampNeg))).toNatClampNeg)) ≤ 0 →
    G l E d m_Mod_behindEnds 80 [(0, (.ref 24, 41)), (2, (.int x2, 0)), (3, (.int (iN (M 24 1 ((((iN 238) + ((iN 6) * x2)) + (iN 4))).toNatClampNeg)), 0)), (4, (.int (iN 0), 0))] [] M K) ∧
   (¬ (iN (M 24 11 ((iN (M 24 1 ((((iN 238) + ((iN 6) * x2)) + (iN 4))).toNatClampNeg))).toNatClampNeg)) ≤ 0 →
    G l E d m_Mod_behindEnds 80 [(0, (.ref 24, 41)), (2, (.int x2, 0)), (3, (.int (iN (M 24 1 ((((iN 238) + ((iN 6) * x2)) + (iN 4))).toNatClampNeg)), 0)), (4, (.int (iN 1), 0))] [] M K))))))) :
  G l E d m_Mod_behindEnds 30 [(0, (.ref 24, 41)), (2, (.int x2, 0))] [] M K := G.blk 60 _ hd ok_Mod_behindEnds rfl h
set_option maxRecDepth 100000 in
theorem b_Mod_behindEnds_80 {l : Launch} {E : EnvT} {d : Nat} {K : AV → Mem → Prop} {M : Mem} {x2 : Int32} {x3 : Int32} {x4 : Int32} (hd : 1 ≤ d)
  (h : (vp_in x3 80 ∧ ((x4 = 0 →
   (vp_in x3 80 ∧ G l E d m_Mod_behindEnds 99 [(0, (.ref 24, 41)), (2, (.int x2, 0)), (3, (.int x3, 0)), (4, (.int x4, 0))] [] (upd3 M 24 11 (x3).toNatClampNeg (((iN (M 24 11 (x3).toNatClampNeg)) - (iN 0))).toInt) K)) ∧
  (¬ x4 = 0 →
   (vp_in x3 80 ∧ G l E d m_Mod_behindEnds 99 [(0, (.ref 24, 41)), (2, (.int x2, 0)), (3, (.int x3, 0)), (4, (.int x4, 0))] [] (upd3 M 24 11 (x3).toNatClampNeg (((iN (M 24 11 (x3).toNatClampNeg)) - (iN 1))).toInt) K))))) :
  G l E d m_Mod_behindEnds 80 [(0, (.ref 24, 41)), (2, (.int x2, 0)), (3, (.int x3, 0)), (4, (.int x4, 0))] [] M K := G.blk 60 _ hd ok_Mod_behindEnds rfl h
set_option maxRecDepth 100000 in
theorem b_Mod_behindEnds_99 {l : Launch} {E : EnvT} {d : Nat} {K : AV → Mem → Prop} {M : Mem} {x2 : Int32} {x3 : Int32} {x4 : Int32} (hd : 1 ≤ d)
  (h : ((x4 = 0 →
   G l E d m_Mod_behindEnds 2 [(0, (.ref 24, 41)), (2, (.int (x2 + (iN 1)), 0))] [] M K) ∧
  (¬ x4 = 0 →
   G l E d m_Mod_behindEnds 2 [(0, (.ref 24, 41)), (2, (.int (x3 + (iN 1)), 0))] [] M K))) :
  G l E d m_Mod_behindEnds 99 [(0, (.ref 24, 41)), (2, (.int x2, 0)), (3, (.int x3, 0)), (4, (.int x4, 0))] [] M K := G.blk 60 _ hd ok_Mod_behindEnds rfl h
def bt_Mod_lives : BtT := [(0, [0, 1], true, [(0, .aload_n 0, 1, 0, 0, 0, m0),
   (1, .iload_n 1, 1, 0, 0, 0, m0),
   (2, .putfield 417, 3, 27, 11, 1474, m0),
   (5, .aload_n 0, 1, 0, 0, 0, m0),
   (6, .iconst 0, 1, 0, 0, 0, m0),
   (7, .putfield 437, 3, 28, 11, 1475, m0),
   (10, .iconst 0, 1, 0, 0, 0, m0),
   (11, .istore_n 2, 1, 0, 0, 0, m0),
   (12, .nop, 0, 0, 0, 0, m0)]),
  (12, [0, 2], true, [(12, .iload_n 2, 1, 0, 0, 0, m0),
   (13, .iconst 5, 1, 0, 0, 0, m0),
   (14, .if_icmp .ge 16, 3, 30, 0, 0, m0),
   (17, .nop, 0, 0, 0, 0, m0)]),
  (17, [], false, [(17, .aload_n 0, 1, 0, 0, 0, m0),
   (18, .getfield 56, 3, 30, 11, 1477, m0),
   (21, .iload_n 2, 1, 0, 0, 0, m0),
   (22, .iconst 0, 1, 0, 0, 0, m0),
   (23, .iastore, 1, 0, 0, 0, m0),
   (24, .iinc 2 1, 3, 0, 0, 0, m0),
   (27, .goto (-15), 3, 12, 0, 0, m0)]),
  (30, [], false, [(30, .iconst 0, 1, 0, 0, 0, m0),
   (31, .istore_n 2, 1, 0, 0, 0, m0),
   (32, .nop, 0, 0, 0, 0, m0)]),
  (32, [0, 2], true, [(32, .iload_n 2, 1, 0, 0, 0, m0),
   (33, .aload_n 0, 1, 0, 0, 0, m0),
   (34, .getfield 7, 3, 0, 11, 1447, m0),
   (37, .iconst 4, 1, 0, 0, 0, m0),
   (38, .iaload, 1, 0, 0, 0, m0),
   (39, .if_icmp .ge 145, 3, 184, 0, 0, m0),
   (42, .nop, 0, 0, 0, 0, m0)]),
  (42, [], false, [(42, .aload_n 0, 1, 0, 0, 0, m0),
   (43, .getfield 437, 3, 28, 11, 1475, m0),
   (46, .sipush 300, 3, 0, 0, 0, m0),
   (49, .if_icmp .ne 11, 3, 60, 0, 0, m0),
   (52, .nop, 0, 0, 0, 0, m0)]),
  (52, [], false, [(52, .aload_n 0, 1, 0, 0, 0, m0),
   (53, .getfield 56, 3, 30, 11, 1477, m0),
   (56, .iconst 4, 1, 0, 0, 0, m0),
   (57, .iconst 1, 1, 0, 0, 0, m0),
   (58, .iastore, 1, 0, 0, 0, m0),
   (59, .return_, 1, 0, 0, 0, m0)]),
  (60, [0, 2], true, [(60, .sipush 238, 3, 0, 0, 0, m0),
   (63, .bipush 6, 2, 0, 0, 0, m0),
   (65, .iload_n 2, 1, 0, 0, 0, m0),
   (66, .imul, 1, 0, 0, 0, m0),
   (67, .iadd, 1, 0, 0, 0, m0),
   (68, .istore_n 3, 1, 0, 0, 0, m0),
   (69, .aload_n 0, 1, 0, 0, 0, m0),
   (70, .dup, 1, 0, 0, 0, m0),
   (71, .getfield 437, 3, 28, 11, 1475, m0),
   (74, .iconst 1, 1, 0, 0, 0, m0),
   (75, .iadd, 1, 0, 0, 0, m0),
   (76, .putfield 437, 3, 28, 11, 1475, m0),
   (79, .aload_n 0, 1, 0, 0, 0, m0),
   (80, .getfield 7, 3, 0, 11, 1447, m0),
   (83, .iload_n 3, 1, 0, 0, 0, m0),
   (84, .iaload, 1, 0, 0, 0, m0),
   (85, .bipush 19, 2, 0, 0, 0, m0),
   (87, .if_icmp .ne 4, 3, 91, 0, 0, m0),
   (90, .nop, 0, 0, 0, 0, m0)]),
  (90, [], false, [(90, .return_, 1, 0, 0, 0, m0)]),
  (91, [0, 2, 3], true, [(91, .aload_n 0, 1, 0, 0, 0, m0),
   (92, .getfield 56, 3, 30, 11, 1477, m0),
   (95, .iconst 0, 1, 0, 0, 0, m0),
   (96, .dup2, 1, 0, 0, 0, m0),
   (97, .iaload, 1, 0, 0, 0, m0),
   (98, .aload_n 0, 1, 0, 0, 0, m0),
   (99, .iload_n 3, 1, 0, 0, 0, m0),
   (100, .invokevirtual 440, 3, 0, 0, 2136, m_Mod_does),
   (103, .ifCond .eq 7, 3, 110, 0, 0, m0),
   (106, .nop, 0, 0, 0, 0, m0)]),
  (106, [], false, [(106, .iconst 0, 1, 0, 0, 0, m0),
   (107, .goto 4, 3, 111, 0, 0, m0)]),
  (110, [], false, [(110, .iconst 1, 1, 0, 0, 0, m0),
   (111, .nop, 0, 0, 0, 0, m0)]),
  (111, [], false, [(111, .iadd, 1, 0, 0, 0, m0),
   (112, .iastore, 1, 0, 0, 0, m0),
   (113, .nop, 0, 0, 0, 0, m0)]),
  (113, [0, 2, 3], true, [(113, .aload_n 0, 1, 0, 0, 0, m0),
   (114, .getfield 7, 3, 0, 11, 1447, m0),
   (117, .iload_n 3, 1, 0, 0, 0, m0),
   (118, .iaload, 1, 0, 0, 0, m0),
   (119, .bipush 17, 2, 0, 0, 0, m0),
   (121, .if_icmp .ne 19, 3, 140, 0, 0, m0),
   (124, .nop, 0, 0, 0, 0, m0)]),
  (124, [], false, [(124, .aload_n 0, 1, 0, 0, 0, m0),
   (125, .getfield 53, 3, 29, 11, 1476, m0),
   (128, .iload_n 2, 1, 0, 0, 0, m0),
   (129, .aload_n 0, 1, 0, 0, 0, m0),
   (130, .getfield 7, 3, 0, 11, 1447, m0),
   (133, .iload_n 3, 1, 0, 0, 0, m0),
   (134, .iconst 1, 1, 0, 0, 0, m0),
   (135, .iadd, 1, 0, 0, 0, m0),
   (136, .iaload, 1, 0, 0, 0, m0),
   (137, .iconst 1, 1, 0, 0, 0, m0),
   (138, .isub, 1, 0, 0, 0, m0),
   (139, .iastore, 1, 0, 0, 0, m0),
   (140, .nop, 0, 0, 0, 0, m0)]),
  (140, [0, 2, 3], true, [(140, .aload_n 0, 1, 0, 0, 0, m0),
   (141, .aload_n 0, 1, 0, 0, 0, m0),
   (142, .getfield 7, 3, 0, 11, 1447, m0),
   (145, .iload_n 3, 1, 0, 0, 0, m0),
   (146, .iaload, 1, 0, 0, 0, m0),
   (147, .sipush 1600, 3, 0, 0, 0, m0),
   (150, .if_icmp .lt 24, 3, 174, 0, 0, m0),
   (153, .nop, 0, 0, 0, 0, m0)]),
  (153, [], false, [(153, .aload_n 0, 1, 0, 0, 0, m0),
   (154, .iload_n 3, 1, 0, 0, 0, m0),
   (155, .invokevirtual 443, 3, 0, 0, 2161, m_Mod_holds),
   (158, .ifCond .ne 16, 3, 174, 0, 0, m0),
   (161, .nop, 0, 0, 0, 0, m0)]),
  (161, [], false, [(161, .aload_n 0, 1, 0, 0, 0, m0),
   (162, .getfield 7, 3, 0, 11, 1447, m0),
   (165, .iload_n 3, 1, 0, 0, 0, m0),
   (166, .iconst 4, 1, 0, 0, 0, m0),
   (167, .iadd, 1, 0, 0, 0, m0),
   (168, .iaload, 1, 0, 0, 0, m0),
   (169, .iconst 1, 1, 0, 0, 0, m0),
   (170, .iadd, 1, 0, 0, 0, m0),
   (171, .goto 6, 3, 177, 0, 0, m0)]),
  (174, [], false, [(174, .iload_n 2, 1, 0, 0, 0, m0),
   (175, .iconst 1, 1, 0, 0, 0, m0),
   (176, .iadd, 1, 0, 0, 0, m0),
   (177, .nop, 0, 0, 0, 0, m0)]),
  (177, [], false, [(177, .invokevirtual 446, 3, 0, 0, 2165, m_Mod_behindEnds),
   (180, .istore_n 2, 1, 0, 0, 0, m0),
   (181, .goto (-149), 3, 32, 0, 0, m0)]),
  (184, [], false, [(184, .return_, 1, 0, 0, 0, m0)])]
theorem ok_Mod_lives : okBt m_Mod_lives bt_Mod_lives = true := by decide +kernel
set_option maxRecDepth 100000 in
theorem b_Mod_lives_0 {l : Launch} {E : EnvT} {d : Nat} {K : AV → Mem → Prop} {M : Mem} {x1 : Int32} (hd : 1 ≤ d)
  (h : G l E d m_Mod_lives 12 [(0, (.ref 24, 41)), (2, (.int (iN 0), 0))] [] (upd3 (upd3 M 24 0 27 (x1).toInt) 24 0 28 ((iN 0)).toInt) K) :
  G l E d m_Mod_lives 0 [(0, (.ref 24, 41)), (1, (.int x1, 0))] [] M K := G.blk 60 _ hd ok_Mod_lives rfl h
set_option maxRecDepth 100000 in
theorem b_Mod_lives_12 {l : Launch} {E : EnvT} {d : Nat} {K : AV → Mem → Prop} {M : Mem} {x2 : Int32} (hd : 1 ≤ d)
  (h : (((iN 5) ≤ x2 →
   G l E d m_Mod_lives 32 [(0, (.ref 24, 41)), (2, (.int (iN 0), 0))] [] M K) ∧
  (¬ (iN 5) ≤ x2 →
   (vp_in x2 5 ∧ G l E d m_Mod_lives 12 [(0, (.ref 24, 41)), (2, (.int (x2 + iN 1), 0))] [] (upd3 M 24 12 (x2).toNatClampNeg ((iN 0)).toInt) K)))) :
  G l E d m_Mod_lives 12 [(0, (.ref 24, 41)), (2, (.int x2, 0))] [] M K := G.blk 60 _ hd ok_Mod_lives rfl h
set_option maxRecDepth 100000 in
theorem b_Mod_lives_32 {l : Launch} {E : EnvT} {d : Nat} {K : AV → Mem → Prop} {M : Mem} {x2 : Int32} (hd : 1 ≤ d)
  (h : (vp_in (iN 4) 3612 ∧ (((iN (M 24 1 ((iN 4)).toNatClampNeg)) ≤ x2 →
   K (.null, 0) M) ∧
  (¬ (iN (M 24 1 ((iN 4)).toNatClampNeg)) ≤ x2 →
   ((¬ (iN (M 24 0 28)) = (iN 300) →
    G l E d m_Mod_lives 60 [(0, (.ref 24, 41)), (2, (.int x2, 0))] [] M K) ∧
   ((iN (M 24 0 28)) = (iN 300) →
    (vp_in (iN 4) 5 ∧ K (.null, 0) (upd3 M 24 12 ((iN 4)).toNatClampNeg ((iN 1)).toInt)))))))) :
  G l E d m_Mod_lives 32 [(0, (.ref 24, 41)), (2, (.int x2, 0))] [] M K := G.blk 60 _ hd ok_Mod_lives rfl h
set_option maxRecDepth 100000 in
theorem b_Mod_lives_60 {l : Launch} {E : EnvT} {d : Nat} {K : AV → Mem → Prop} {M : Mem} {x2 : Int32} (hd : 1 ≤ d)
  (h : (vp_in ((iN 238) + ((iN 6) * x2)) 3612 ∧ ((¬ (iN ((upd3 M 24 0 28 (((iN (M 24 0 28)) + (iN 1))).toInt) 24 1 (((iN 238) + ((iN 6) * x2))).toNatClampNeg)) = (iN 19) →
   G l E d m_Mod_lives 91 [(0, (.ref 24, 41)), (2, (.int x2, 0)), (3, (.int ((iN 238) + ((iN 6) * x2)), 0))] [] (upd3 M 24 0 28 (((iN (M 24 0 28)) + (iN 1))).toInt) K) ∧
  ((iN ((upd3 M 24 0 28 (((iN (M 24 0 28)) + (iN 1))).toInt) 24 1 (((iN 238) + ((iN 6) * x2))).toNatClampNeg)) = (iN 19) →
   K (.null, 0) (upd3 M 24 0 28 (((iN (M 24 0 28)) + (iN 1))).toInt))))) :
  G l E d m_Mod_lives 60 [(0, (.ref 24, 41)), (2, (.int x2, 0))] [] M K := G.blk 60 _ hd ok_Mod_lives rfl h
set_option maxRecDepth 100000 in
theorem b_Mod_lives_91 {l : Launch} {E : EnvT} {d : Nat} {K : AV → Mem → Prop} {M : Mem} {x2 : Int32} {x3 : Int32} (hd : 1 ≤ d)
  (h : (vp_in (iN 0) 5 ∧ CT l E (d - 1) m_Mod_does [(.ref 24, 41), (.int x3, 0)] M (fun v1 M1 =>
   (((toI v1) = 0 →
    (vp_in (iN 0) 5 ∧ G l E d m_Mod_lives 113 [(0, (.ref 24, 41)), (2, (.int x2, 0)), (3, (.int x3, 0))] [] (upd3 M1 24 12 ((iN 0)).toNatClampNeg (((iN (M 24 12 ((iN 0)).toNatClampNeg)) + (iN 1))).toInt) K)) ∧
   (¬ (toI v1) = 0 →
    (vp_in (iN 0) 5 ∧ G l E d m_Mod_lives 113 [(0, (.ref 24, 41)), (2, (.int x2, 0)), (3, (.int x3, 0))] [] (upd3 M1 24 12 ((iN 0)).toNatClampNeg (((iN (M 24 12 ((iN 0)).toNatClampNeg)) + (iN 0))).toInt) K)))))) :
  G l E d m_Mod_lives 91 [(0, (.ref 24, 41)), (2, (.int x2, 0)), (3, (.int x3, 0))] [] M K := G.blk 60 _ hd ok_Mod_lives rfl h
set_option maxRecDepth 100000 in
theorem b_Mod_lives_113 {l : Launch} {E : EnvT} {d : Nat} {K : AV → Mem → Prop} {M : Mem} {x2 : Int32} {x3 : Int32} (hd : 1 ≤ d)
  (h : (vp_in x3 3612 ∧ ((¬ (iN (M 24 1 (x3).toNatClampNeg)) = (iN 17) →
   G l E d m_Mod_lives 140 [(0, (.ref 24, 41)), (2, (.int x2, 0)), (3, (.int x3, 0))] [] M K) ∧
  ((iN (M 24 1 (x3).toNatClampNeg)) = (iN 17) →
   (vp_in (x3 + (iN 1)) 3612 ∧ vp_in x2 80 ∧ G l E d m_Mod_lives 140 [(0, (.ref 24, 41)), (2, (.int x2, 0)), (3, (.int x3, 0))] [] (upd3 M 24 11 (x2).toNatClampNeg (((iN (M 24 1 ((x3 + (iN 1))).toNatClampNeg)) - (iN 1))).toInt) K))))) :
  G l E d m_Mod_lives 113 [(0, (.ref 24, 41)), (2, (.int x2, 0)), (3, (.int x3, 0))] [] M K := G.blk 60 _ hd ok_Mod_lives rfl h
set_option maxRecDepth 100000 in
theorem b_Mod_lives_140 {l : Launch} {E : EnvT} {d : Nat} {K : AV → Mem → Prop} {M : Mem} {x2 : Int32} {x3 : Int32} (hd : 1 ≤ d)
  (h : (vp_in x3 3612 ∧ (((iN (M 24 1 (x3).toNatClampNeg)) < (iN 1600) →
   CT l E (d - 1) m_Mod_behindEnds [(.ref 24, 41), (.int (x2 + (iN 1)), 0)] M (fun v1 M1 =>
    G l E d m_Mod_lives 32 [(0, (.ref 24, 41)), (2, (.int (toI v1), 0))] [] M1 K)) ∧
  (¬ (iN (M 24 1 (x3).toNatClampNeg)) < (iN 1600) →
   CT l E (d - 1) m_Mod_holds [(.ref 24, 41), (.int x3, 0)] M (fun v2 M2 =>
    ((¬ (toI v2) = 0 →
     CT l E (d - 1) m_Mod_behindEnds [(.ref 24, 41), (.int (x2 + (iN 1)), 0)] M2 (fun v3 M3 =>
      G l E d m_Mod_lives 32 [(0, (.ref 24, 41)), (2, (.int (toI v3), 0))] [] M3 K)) ∧
    ((toI v2) = 0 →
     (vp_in (x3 + (iN 4)) 3612 ∧ CT l E (d - 1) m_Mod_behindEnds [(.ref 24, 41), (.int ((iN (M2 24 1 ((x3 + (iN 4))).toNatClampNeg)) + (iN 1)), 0)] M2 (fun v4 M4 =>
      G l E d m_Mod_lives 32 [(0, (.ref 24, 41)), (2, (.int (toI v4), 0))] [] M4 K))))))))) :
  G l E d m_Mod_lives 140 [(0, (.ref 24, 41)), (2, (.int x2, 0)), (3, (.int x3, 0))] [] M K := G.blk 60 _ hd ok_Mod_lives rfl h
def bt_Mod_live : BtT := [(0, [0, 1], true, [(0, .iload_n 1, 1, 0, 0, 0, m0),
   (1, .i2l, 1, 0, 0, 0, m0),
   (2, .lconst 0, 1, 0, 0, 0, m0),
   (3, .ldc2_w 449, 3, 1, 9999, 2131, m0),
   (6, .invokestatic 218, 3, 0, 0, 1684, m_Mod_isFrom),
   (9, .ifCond .ne 9, 3, 18, 0, 0, m0),
   (12, .nop, 0, 0, 0, 0, m0)]),
  (12, [], false, [(12, .aload_n 0, 1, 0, 0, 0, m0),
   (13, .iconst 1, 1, 0, 0, 0, m0),
   (14, .invokevirtual 72, 3, 0, 0, 1629, m_Mod_refuse),
   (17, .ireturn, 1, 0, 0, 0, m0)]),
  (18, [], false, [(18, .aload_n 0, 1, 0, 0, 0, m0),
   (19, .getfield 7, 3, 0, 11, 1447, m0),
   (22, .iconst 4, 1, 0, 0, 0, m0),
   (23, .iaload, 1, 0, 0, 0, m0),
   (24, .iconst (-1), 1, 0, 0, 0, m0),
   (25, .if_icmp .ne 10, 3, 35, 0, 0, m0),
   (28, .nop, 0, 0, 0, 0, m0)]),
  (28, [], false, [(28, .aload_n 0, 1, 0, 0, 0, m0),
   (29, .bipush 6, 2, 0, 0, 0, m0),
   (31, .invokevirtual 72, 3, 0, 0, 1629, m_Mod_refuse),
   (34, .ireturn, 1, 0, 0, 0, m0)]),
  (35, [], false, [(35, .aload_n 0, 1, 0, 0, 0, m0),
   (36, .iload_n 1, 1, 0, 0, 0, m0),
   (37, .invokevirtual 451, 3, 0, 0, 2132, m_Mod_lives),
   (40, .iconst 0, 1, 0, 0, 0, m0),
   (41, .istore_n 2, 1, 0, 0, 0, m0),
   (42, .nop, 0, 0, 0, 0, m0)]),
  (42, [0, 2], true, [(42, .iload_n 2, 1, 0, 0, 0, m0),
   (43, .iconst 5, 1, 0, 0, 0, m0),
   (44, .if_icmp .ge 21, 3, 65, 0, 0, m0),
   (47, .nop, 0, 0, 0, 0, m0)]),
  (47, [], false, [(47, .aload_n 0, 1, 0, 0, 0, m0),
   (48, .getfield 59, 3, 31, 11, 1478, m0),
   (51, .iload_n 2, 1, 0, 0, 0, m0),
   (52, .aload_n 0, 1, 0, 0, 0, m0),
   (53, .getfield 56, 3, 30, 11, 1477, m0),
   (56, .iload_n 2, 1, 0, 0, 0, m0),
   (57, .iaload, 1, 0, 0, 0, m0),
   (58, .iastore, 1, 0, 0, 0, m0),
   (59, .iinc 2 1, 3, 0, 0, 0, m0),
   (62, .goto (-20), 3, 42, 0, 0, m0)]),
  (65, [], false, [(65, .aload_n 0, 1, 0, 0, 0, m0),
   (66, .iconst 1, 1, 0, 0, 0, m0),
   (67, .putfield 454, 3, 32, 11, 1479, m0),
   (70, .aload_n 0, 1, 0, 0, 0, m0),
   (71, .aload_n 0, 1, 0, 0, 0, m0),
   (72, .getfield 437, 3, 28, 11, 1475, m0),
   (75, .invokevirtual 76, 3, 0, 0, 1740, m_Mod_gives),
   (78, .ireturn, 1, 0, 0, 0, m0)])]
theorem ok_Mod_live : okBt m_Mod_live bt_Mod_live = true := by decide +kernel
set_option maxRecDepth 100000 in
theorem b_Mod_live_0 {l : Launch} {E : EnvT} {d : Nat} {K : AV → Mem → Prop} {M : Mem} {x1 : Int32} (hd : 1 ≤ d)
  (h : CT l E (d - 1) m_Mod_isFrom [(.long (x1).toInt64, 0), (.long (lI 0), 0), (.long (lI 9999), 0)] M (fun v1 M1 =>
   ((¬ (toI v1) = 0 →
    (vp_in (iN 4) 3612 ∧ ((¬ (iN (M1 24 1 ((iN 4)).toNatClampNeg)) = (iN (-1)) →
     CT l E (d - 1) m_Mod_lives [(.ref 24, 41), (.int x1, 0)] M1 (fun v2 M2 =>
      G l E d m_Mod_live 42 [(0, (.ref 24, 41)), (2, (.int (iN 0), 0))] [] M2 K)) ∧
    ((iN (M1 24 1 ((iN 4)).toNatClampNeg)) = (iN (-1)) →
     CT l E (d - 1) m_Mod_refuse [(.ref 24, 41), (.int (iN 6), 0)] M1 (fun v3 M3 =>
      K (.int (toI v3), 0) M3))))) ∧
   ((toI v1) = 0 →
    CT l E (d - 1) m_Mod_refuse [(.ref 24, 41), (.int (iN 1), 0)] M1 (fun v4 M4 =>
     K (.int (toI v4), 0) M4))))) :
  G l E d m_Mod_live 0 [(0, (.ref 24, 41)), (1, (.int x1, 0))] [] M K := G.blk 60 _ hd ok_Mod_live rfl h
set_option maxRecDepth 100000 in
theorem b_Mod_live_42 {l : Launch} {E : EnvT} {d : Nat} {K : AV → Mem → Prop} {M : Mem} {x2 : Int32} (hd : 1 ≤ d)
  (h : (((iN 5) ≤ x2 →
   (((iN 1) = 0 ∨ (iN 1) = 1) ∧ CT l E (d - 1) m_Mod_gives [(.ref 24, 41), (.int (iN ((upd3 M 24 0 32 ((iN 1)).toInt) 24 0 28)), 0)] (upd3 M 24 0 32 ((iN 1)).toInt) (fun v1 M1 =>
    K (.int (toI v1), 0) M1))) ∧
  (¬ (iN 5) ≤ x2 →
   (vp_in x2 5 ∧ vp_in x2 5 ∧ G l E d m_Mod_live 42 [(0, (.ref 24, 41)), (2, (.int (x2 + iN 1), 0))] [] (upd3 M 24 13 (x2).toNatClampNeg ((iN (M 24 12 (x2).toNatClampNeg))).toInt) K)))) :
  G l E d m_Mod_live 42 [(0, (.ref 24, 41)), (2, (.int x2, 0))] [] M K := G.blk 60 _ hd ok_Mod_live rfl h
def bt_Mod_lived : BtT := [(0, [0, 1], true, [(0, .iload_n 1, 1, 0, 0, 0, m0),
   (1, .ifCond .lt 8, 3, 9, 0, 0, m0),
   (4, .nop, 0, 0, 0, 0, m0)]),
  (4, [], false, [(4, .iload_n 1, 1, 0, 0, 0, m0),
   (5, .iconst 4, 1, 0, 0, 0, m0),
   (6, .if_icmp .le 11, 3, 17, 0, 0, m0),
   (9, .nop, 0, 0, 0, 0, m0)]),
  (9, [], false, [(9, .aload_n 0, 1, 0, 0, 0, m0),
   (10, .iconst 1, 1, 0, 0, 0, m0),
   (11, .invokevirtual 72, 3, 0, 0, 1629, m_Mod_refuse),
   (14, .goto 29, 3, 43, 0, 0, m0)]),
  (17, [], false, [(17, .aload_n 0, 1, 0, 0, 0, m0),
   (18, .getfield 454, 3, 32, 11, 1479, m0),
   (21, .ifCond .eq 16, 3, 37, 0, 0, m0),
   (24, .nop, 0, 0, 0, 0, m0)]),
  (24, [], false, [(24, .aload_n 0, 1, 0, 0, 0, m0),
   (25, .aload_n 0, 1, 0, 0, 0, m0),
   (26, .getfield 59, 3, 31, 11, 1478, m0),
   (29, .iload_n 1, 1, 0, 0, 0, m0),
   (30, .iaload, 1, 0, 0, 0, m0),
   (31, .invokevirtual 76, 3, 0, 0, 1740, m_Mod_gives),
   (34, .goto 9, 3, 43, 0, 0, m0)]),
  (37, [], false, [(37, .aload_n 0, 1, 0, 0, 0, m0),
   (38, .bipush 6, 2, 0, 0, 0, m0),
   (40, .invokevirtual 72, 3, 0, 0, 1629, m_Mod_refuse),
   (43, .nop, 0, 0, 0, 0, m0)]),
  (43, [], false, [(43, .ireturn, 1, 0, 0, 0, m0)])]
theorem ok_Mod_lived : okBt m_Mod_lived bt_Mod_lived = true := by decide +kernel
set_option maxRecDepth 100000 in
theorem b_Mod_lived_0 {l : Launch} {E : EnvT} {d : Nat} {K : AV → Mem → Prop} {M : Mem} {x1 : Int32} (hd : 1 ≤ d)
  (h : ((x1 < 0 →
   CT l E (d - 1) m_Mod_refuse [(.ref 24, 41), (.int (iN 1), 0)] M (fun v1 M1 =>
    K (.int (toI v1), 0) M1)) ∧
  (¬ x1 < 0 →
   ((x1 ≤ (iN 4) →
    (((iN (M 24 0 32)) = 0 →
     CT l E (d - 1) m_Mod_refuse [(.ref 24, 41), (.int (iN 6), 0)] M (fun v2 M2 =>
      K (.int (toI v2), 0) M2)) ∧
    (¬ (iN (M 24 0 32)) = 0 →
     (vp_in x1 5 ∧ CT l E (d - 1) m_Mod_gives [(.ref 24, 41), (.int (iN (M 24 13 (x1).toNatClampNeg)), 0)] M (fun v3 M3 =>
      K (.int (toI v3), 0) M3))))) ∧
   (¬ x1 ≤ (iN 4) →
    CT l E (d - 1) m_Mod_refuse [(.ref 24, 41), (.int (iN 1), 0)] M (fun v4 M4 =>
     K (.int (toI v4), 0) M4)))))) :
  G l E d m_Mod_lived 0 [(0, (.ref 24, 41)), (1, (.int x1, 0))] [] M K := G.blk 60 _ hd ok_Mod_lived rfl h
def bt_Mod_mean : BtT := [(0, [0, 1, 2], true, [(0, .iload_n 1, 1, 0, 0, 0, m0),
   (1, .i2l, 1, 0, 0, 0, m0),
   (2, .lconst 0, 1, 0, 0, 0, m0),
   (3, .ldc2_w 449, 3, 1, 9999, 2131, m0),
   (6, .invokestatic 218, 3, 0, 0, 1684, m_Mod_isFrom),
   (9, .ifCond .eq 26, 3, 35, 0, 0, m0),
   (12, .nop, 0, 0, 0, 0, m0)]),
  (12, [], false, [(12, .iload_n 2, 1, 0, 0, 0, m0),
   (13, .i2l, 1, 0, 0, 0, m0),
   (14, .lconst 1, 1, 0, 0, 0, m0),
   (15, .ldc2_w 458, 3, 1, 20, 2177, m0),
   (18, .invokestatic 218, 3, 0, 0, 1684, m_Mod_isFrom),
   (21, .ifCond .eq 14, 3, 35, 0, 0, m0),
   (24, .nop, 0, 0, 0, 0, m0)]),
  (24, [], false, [(24, .iload_n 1, 1, 0, 0, 0, m0),
   (25, .iload_n 2, 1, 0, 0, 0, m0),
   (26, .iadd, 1, 0, 0, 0, m0),
   (27, .iconst 1, 1, 0, 0, 0, m0),
   (28, .isub, 1, 0, 0, 0, m0),
   (29, .sipush 9999, 3, 0, 0, 0, m0),
   (32, .if_icmp .le 9, 3, 41, 0, 0, m0),
   (35, .nop, 0, 0, 0, 0, m0)]),
  (35, [], false, [(35, .aload_n 0, 1, 0, 0, 0, m0),
   (36, .iconst 1, 1, 0, 0, 0, m0),
   (37, .invokevirtual 79, 3, 0, 0, 1569, m_Mod_is),
   (40, .ireturn, 1, 0, 0, 0, m0)]),
  (41, [], false, [(41, .aload_n 0, 1, 0, 0, 0, m0),
   (42, .getfield 7, 3, 0, 11, 1447, m0),
   (45, .iconst 4, 1, 0, 0, 0, m0),
   (46, .iaload, 1, 0, 0, 0, m0),
   (47, .iconst (-1), 1, 0, 0, 0, m0),
   (48, .if_icmp .ne 10, 3, 58, 0, 0, m0),
   (51, .nop, 0, 0, 0, 0, m0)]),
  (51, [], false, [(51, .aload_n 0, 1, 0, 0, 0, m0),
   (52, .bipush 6, 2, 0, 0, 0, m0),
   (54, .invokevirtual 79, 3, 0, 0, 1569, m_Mod_is),
   (57, .ireturn, 1, 0, 0, 0, m0)]),
  (58, [], false, [(58, .iconst 0, 1, 0, 0, 0, m0),
   (59, .istore_n 3, 1, 0, 0, 0, m0),
   (60, .nop, 0, 0, 0, 0, m0)]),
  (60, [0, 1, 2, 3], true, [(60, .iload_n 3, 1, 0, 0, 0, m0),
   (61, .sipush 238, 3, 0, 0, 0, m0),
   (64, .if_icmp .ge 25, 3, 89, 0, 0, m0),
   (67, .nop, 0, 0, 0, 0, m0)]),
  (67, [], false, [(67, .aload_n 0, 1, 0, 0, 0, m0),
   (68, .getfield 7, 3, 0, 11, 1447, m0),
   (71, .sipush 3010, 3, 0, 0, 0, m0),
   (74, .iload_n 3, 1, 0, 0, 0, m0),
   (75, .iadd, 1, 0, 0, 0, m0),
   (76, .aload_n 0, 1, 0, 0, 0, m0),
   (77, .getfield 7, 3, 0, 11, 1447, m0),
   (80, .iload_n 3, 1, 0, 0, 0, m0),
   (81, .iaload, 1, 0, 0, 0, m0),
   (82, .iastore, 1, 0, 0, 0, m0),
   (83, .iinc 3 1, 3, 0, 0, 0, m0),
   (86, .goto (-26), 3, 60, 0, 0, m0)]),
  (89, [], false, [(89, .lconst 0, 1, 0, 0, 0, m0),
   (90, .lstore_n 3, 1, 0, 0, 0, m0),
   (91, .iconst 0, 1, 0, 0, 0, m0),
   (92, .istore 5, 2, 0, 0, 0, m0),
   (94, .nop, 0, 0, 0, 0, m0)]),
  (94, [0, 1, 2, 3, 5], true, [(94, .iload 5, 2, 0, 0, 0, m0),
   (96, .iload_n 2, 1, 0, 0, 0, m0),
   (97, .if_icmp .ge 60, 3, 157, 0, 0, m0),
   (100, .nop, 0, 0, 0, 0, m0)]),
  (100, [], false, [(100, .aload_n 0, 1, 0, 0, 0, m0),
   (101, .iload_n 1, 1, 0, 0, 0, m0),
   (102, .iload 5, 2, 0, 0, 0, m0),
   (104, .iadd, 1, 0, 0, 0, m0),
   (105, .invokevirtual 451, 3, 0, 0, 2132, m_Mod_lives),
   (108, .lload_n 3, 1, 0, 0, 0, m0),
   (109, .aload_n 0, 1, 0, 0, 0, m0),
   (110, .invokevirtual 301, 3, 0, 0, 1772, m_Mod_allOwed),
   (113, .i2l, 1, 0, 0, 0, m0),
   (114, .ladd, 1, 0, 0, 0, m0),
   (115, .lstore_n 3, 1, 0, 0, 0, m0),
   (116, .iconst 0, 1, 0, 0, 0, m0),
   (117, .istore 6, 2, 0, 0, 0, m0),
   (119, .nop, 0, 0, 0, 0, m0)]),
  (119, [0, 1, 2, 3, 5, 6], true, [(119, .iload 6, 2, 0, 0, 0, m0),
   (121, .sipush 238, 3, 0, 0, 0, m0),
   (124, .if_icmp .ge 27, 3, 151, 0, 0, m0),
   (127, .nop, 0, 0, 0, 0, m0)]),
  (127, [], false, [(127, .aload_n 0, 1, 0, 0, 0, m0),
   (128, .getfield 7, 3, 0, 11, 1447, m0),
   (131, .iload 6, 2, 0, 0, 0, m0),
   (133, .aload_n 0, 1, 0, 0, 0, m0),
   (134, .getfield 7, 3, 0, 11, 1447, m0),
   (137, .sipush 3010, 3, 0, 0, 0, m0),
   (140, .iload 6, 2, 0, 0, 0, m0),
   (142, .iadd, 1, 0, 0, 0, m0),
   (143, .iaload, 1, 0, 0, 0, m0),
   (144, .iastore, 1, 0, 0, 0, m0),
   (145, .iinc 6 1, 3, 0, 0, 0, m0),
   (148, .goto (-29), 3, 119, 0, 0, m0)]),
  (151, [], false, [(151, .iinc 5 1, 3, 0, 0, 0, m0),
   (154, .goto (-60), 3, 94, 0, 0, m0)]),
  (157, [], false, [(157, .aload_n 0, 1, 0, 0, 0, m0),
   (158, .lload_n 3, 1, 0, 0, 0, m0),
   (159, .iload_n 2, 1, 0, 0, 0, m0),
   (160, .i2l, 1, 0, 0, 0, m0),
   (161, .invokevirtual 381, 3, 0, 0, 2010, m_Mod_tellsBy),
   (164, .ireturn, 1, 0, 0, 0, m0)])]
theorem ok_Mod_mean : okBt m_Mod_mean bt_Mod_mean = true := by decide +kernel
set_option maxRecDepth 100000 in
theorem b_Mod_mean_0 {l : Launch} {E : EnvT} {d : Nat} {K : AV → Mem → Prop} {M : Mem} {x1 : Int32} {x2 : Int32} (hd : 1 ≤ d)
  (h : CT l E (d - 1) m_Mod_isFrom [(.long (x1).toInt64, 0), (.long (lI 0), 0), (.long (lI 9999), 0)] M (fun v1 M1 =>
   (((toI v1) = 0 →
    CT l E (d - 1) m_Mod_is [(.ref 24, 41), (.int (iN 1), 0)] M1 (fun v2 M2 =>
     ((((toI v2) = 0 ∨ (toI v2) = 1)) ∧ K (.int (toI v2), 0) M2))) ∧
   (¬ (toI v1) = 0 →
    CT l E (d - 1) m_Mod_isFrom [(.long (x2).toInt64, 0), (.long (lI 1), 0), (.long (lI 20), 0)] M1 (fun v3 M3 =>
     (((toI v3) = 0 →
      CT l E (d - 1) m_Mod_is [(.ref 24, 41), (.int (iN 1), 0)] M3 (fun v4 M4 =>
       ((((toI v4) = 0 ∨ (toI v4) = 1)) ∧ K (.int (toI v4), 0) M4))) ∧
     (¬ (toI v3) = 0 →
      ((((x1 + x2) - (iN 1)) ≤ (iN 9999) →
       (vp_in (iN 4) 3612 ∧ ((¬ (iN (M3 24 1 ((iN 4)).toNatClampNeg)) = (iN (-1)) →
        G l E d m_Mod_mean 60 [(0, (.ref 24, 41)), (1, (.int x1, 0)), (2, (.int x2, 0)), (3, (.int (iN 0), 0))] [] M3 K) ∧
       ((iN (M3 24 1 ((iN 4)).toNatClampNeg)) = (iN (-1)) →
        CT l E (d - 1) m_Mod_is [(.ref 24, 41), (.int (iN 6), 0)] M3 (fun v5 M5 =>
         ((((toI v5) = 0 ∨ (toI v5) = 1)) ∧ K (.int (toI v5), 0) M5)))))) ∧
      (¬ ((x1 + x2) - (iN 1)) ≤ (iN 9999) →
       CT l E (d - 1) m_Mod_is [(.ref 24, 41), (.int (iN 1), 0)] M3 (fun v6 M6 =>
        ((((toI v6) = 0 ∨ (toI v6) = 1)) ∧ K (.int (toI v6), 0) M6))))))))))) :
  G l E d m_Mod_mean 0 [(0, (.ref 24, 41)), (1, (.int x1, 0)), (2, (.int x2, 0))] [] M K := G.blk 60 _ hd ok_Mod_mean rfl h
set_option maxRecDepth 100000 in
theorem b_Mod_mean_60 {l : Launch} {E : EnvT} {d : Nat} {K : AV → Mem → Prop} {M : Mem} {x1 : Int32} {x2 : Int32} {x3 : Int32} (hd : 1 ≤ d)
  (h : (((iN 238) ≤ x3 →
   G l E d m_Mod_mean 94 [(0, (.ref 24, 41)), (1, (.int x1, 0)), (2, (.int x2, 0)), (3, (.long (lI 0), 0)), (5, (.int (iN 0), 0))] [] M K) ∧
  (¬ (iN 238) ≤ x3 →
   (vp_in x3 3612 ∧ vp_in ((iN 3010) + x3) 3612 ∧ G l E d m_Mod_mean 60 [(0, (.ref 24, 41)), (1, (.int x1, 0)), (2, (.int x2, 0)), (3, (.int (x3 + iN 1), 0))] [] (upd3 M 24 1 (((iN 3010) + x3)).toNatClampNeg ((iN (M 24 1 (x3).toNatClampNeg))).toInt) K)))) :
  G l E d m_Mod_mean 60 [(0, (.ref 24, 41)), (1, (.int x1, 0)), (2, (.int x2, 0)), (3, (.int x3, 0))] [] M K := G.blk 60 _ hd ok_Mod_mean rfl h
set_option maxRecDepth 100000 in
theorem b_Mod_mean_94 {l : Launch} {E : EnvT} {d : Nat} {K : AV → Mem → Prop} {M : Mem} {x1 : Int32} {x2 : Int32} {x3 : Int64} {x5 : Int32} (hd : 1 ≤ d)
  (h : ((x2 ≤ x5 →
   CT l E (d - 1) m_Mod_tellsBy [(.ref 24, 41), (.long x3, 0), (.long (x2).toInt64, 0)] M (fun v1 M1 =>
    ((((toI v1) = 0 ∨ (toI v1) = 1)) ∧ K (.int (toI v1), 0) M1))) ∧
  (¬ x2 ≤ x5 →
   CT l E (d - 1) m_Mod_lives [(.ref 24, 41), (.int (x1 + x5), 0)] M (fun v2 M2 =>
    CT l E (d - 1) m_Mod_allOwed [(.ref 24, 41)] M2 (fun v3 M3 =>
     G l E d m_Mod_mean 119 [(0, (.ref 24, 41)), (1, (.int x1, 0)), (2, (.int x2, 0)), (3, (.long (x3 + ((toI v3)).toInt64), 0)), (5, (.int x5, 0)), (6, (.int (iN 0), 0))] [] M3 K))))) :
  G l E d m_Mod_mean 94 [(0, (.ref 24, 41)), (1, (.int x1, 0)), (2, (.int x2, 0)), (3, (.long x3, 0)), (5, (.int x5, 0))] [] M K := G.blk 60 _ hd ok_Mod_mean rfl h
set_option maxRecDepth 100000 in
theorem b_Mod_mean_119 {l : Launch} {E : EnvT} {d : Nat} {K : AV → Mem → Prop} {M : Mem} {x1 : Int32} {x2 : Int32} {x3 : Int64} {x5 : Int32} {x6 : Int32} (hd : 1 ≤ d)
  (h : (((iN 238) ≤ x6 →
   G l E d m_Mod_mean 94 [(0, (.ref 24, 41)), (1, (.int x1, 0)), (2, (.int x2, 0)), (3, (.long x3, 0)), (5, (.int (x5 + iN 1), 0))] [] M K) ∧
  (¬ (iN 238) ≤ x6 →
   (vp_in ((iN 3010) + x6) 3612 ∧ vp_in x6 3612 ∧ G l E d m_Mod_mean 119 [(0, (.ref 24, 41)), (1, (.int x1, 0)), (2, (.int x2, 0)), (3, (.long x3, 0)), (5, (.int x5, 0)), (6, (.int (x6 + iN 1), 0))] [] (upd3 M 24 1 (x6).toNatClampNeg ((iN (M 24 1 (((iN 3010) + x6)).toNatClampNeg))).toInt) K)))) :
  G l E d m_Mod_mean 119 [(0, (.ref 24, 41)), (1, (.int x1, 0)), (2, (.int x2, 0)), (3, (.long x3, 0)), (5, (.int x5, 0)), (6, (.int x6, 0))] [] M K := G.blk 60 _ hd ok_Mod_mean rfl h
def bt_Mod_copies : BtT := [(0, [0, 1, 2], true, [(0, .iconst 0, 1, 0, 0, 0, m0),
   (1, .istore_n 3, 1, 0, 0, 0, m0),
   (2, .nop, 0, 0, 0, 0, m0)]),
  (2, [0, 1, 2, 3], true, [(2, .iload_n 3, 1, 0, 0, 0, m0),
   (3, .sipush 602, 3, 0, 0, 0, m0),
   (6, .if_icmp .ge 33, 3, 39, 0, 0, m0),
   (9, .nop, 0, 0, 0, 0, m0)]),
  (9, [], false, [(9, .aload_n 0, 1, 0, 0, 0, m0),
   (10, .getfield 7, 3, 0, 11, 1447, m0),
   (13, .sipush 602, 3, 0, 0, 0, m0),
   (16, .iload_n 2, 1, 0, 0, 0, m0),
   (17, .imul, 1, 0, 0, 0, m0),
   (18, .iload_n 3, 1, 0, 0, 0, m0),
   (19, .iadd, 1, 0, 0, 0, m0),
   (20, .aload_n 0, 1, 0, 0, 0, m0),
   (21, .getfield 7, 3, 0, 11, 1447, m0),
   (24, .sipush 602, 3, 0, 0, 0, m0),
   (27, .iload_n 1, 1, 0, 0, 0, m0),
   (28, .imul, 1, 0, 0, 0, m0),
   (29, .iload_n 3, 1, 0, 0, 0, m0),
   (30, .iadd, 1, 0, 0, 0, m0),
   (31, .iaload, 1, 0, 0, 0, m0),
   (32, .iastore, 1, 0, 0, 0, m0),
   (33, .iinc 3 1, 3, 0, 0, 0, m0),
   (36, .goto (-34), 3, 2, 0, 0, m0)]),
  (39, [], false, [(39, .iconst 0, 1, 0, 0, 0, m0),
   (40, .istore_n 3, 1, 0, 0, 0, m0),
   (41, .nop, 0, 0, 0, 0, m0)]),
  (41, [0, 1, 2, 3], true, [(41, .iload_n 3, 1, 0, 0, 0, m0),
   (42, .bipush 8, 2, 0, 0, 0, m0),
   (44, .if_icmp .ge 31, 3, 75, 0, 0, m0),
   (47, .nop, 0, 0, 0, 0, m0)]),
  (47, [], false, [(47, .aload_n 0, 1, 0, 0, 0, m0),
   (48, .getfield 13, 3, 1, 11, 1448, m0),
   (51, .bipush 8, 2, 0, 0, 0, m0),
   (53, .iload_n 2, 1, 0, 0, 0, m0),
   (54, .imul, 1, 0, 0, 0, m0),
   (55, .iload_n 3, 1, 0, 0, 0, m0),
   (56, .iadd, 1, 0, 0, 0, m0),
   (57, .aload_n 0, 1, 0, 0, 0, m0),
   (58, .getfield 13, 3, 1, 11, 1448, m0),
   (61, .bipush 8, 2, 0, 0, 0, m0),
   (63, .iload_n 1, 1, 0, 0, 0, m0),
   (64, .imul, 1, 0, 0, 0, m0),
   (65, .iload_n 3, 1, 0, 0, 0, m0),
   (66, .iadd, 1, 0, 0, 0, m0),
   (67, .laload, 1, 0, 0, 0, m0),
   (68, .lastore, 1, 0, 0, 0, m0),
   (69, .iinc 3 1, 3, 0, 0, 0, m0),
   (72, .goto (-31), 3, 41, 0, 0, m0)]),
  (75, [], false, [(75, .return_, 1, 0, 0, 0, m0)])]
theorem ok_Mod_copies : okBt m_Mod_copies bt_Mod_copies = true := by decide +kernel
set_option maxRecDepth 100000 in
theorem b_Mod_copies_0 {l : Launch} {E : EnvT} {d : Nat} {K : AV → Mem → Prop} {M : Mem} {x1 : Int32} {x2 : Int32} (hd : 1 ≤ d)
  (h : G l E d m_Mod_copies 2 [(0, (.ref 24, 41)), (1, (.int x1, 0)), (2, (.int x2, 0)), (3, (.int (iN 0), 0))] [] M K) :
  G l E d m_Mod_copies 0 [(0, (.ref 24, 41)), (1, (.int x1, 0)), (2, (.int x2, 0))] [] M K := G.blk 60 _ hd ok_Mod_copies rfl h
set_option maxRecDepth 100000 in
theorem b_Mod_copies_2 {l : Launch} {E : EnvT} {d : Nat} {K : AV → Mem → Prop} {M : Mem} {x1 : Int32} {x2 : Int32} {x3 : Int32} (hd : 1 ≤ d)
  (h : (((iN 602) ≤ x3 →
   G l E d m_Mod_copies 41 [(0, (.ref 24, 41)), (1, (.int x1, 0)), (2, (.int x2, 0)), (3, (.int (iN 0), 0))] [] M K) ∧
  (¬ (iN 602) ≤ x3 →
   (vp_in (((iN 602) * x1) + x3) 3612 ∧ vp_in (((iN 602) * x2) + x3) 3612 ∧ G l E d m_Mod_copies 2 [(0, (.ref 24, 41)), (1, (.int x1, 0)), (2, (.int x2, 0)), (3, (.int (x3 + iN 1), 0))] [] (upd3 M 24 1 ((((iN 602) * x2) + x3)).toNatClampNeg ((iN (M 24 1 ((((iN 602) * x1) + x3)).toNatClampNeg))).toInt) K)))) :
  G l E d m_Mod_copies 2 [(0, (.ref 24, 41)), (1, (.int x1, 0)), (2, (.int x2, 0)), (3, (.int x3, 0))] [] M K := G.blk 60 _ hd ok_Mod_copies rfl h
set_option maxRecDepth 100000 in
theorem b_Mod_copies_41 {l : Launch} {E : EnvT} {d : Nat} {K : AV → Mem → Prop} {M : Mem} {x1 : Int32} {x2 : Int32} {x3 : Int32} (hd : 1 ≤ d)
  (h : (((iN 8) ≤ x3 →
   K (.null, 0) M) ∧
  (¬ (iN 8) ≤ x3 →
   (vp_in (((iN 8) * x1) + x3) 48 ∧ vp_in (((iN 8) * x2) + x3) 48 ∧ G l E d m_Mod_copies 41 [(0, (.ref 24, 41)), (1, (.int x1, 0)), (2, (.int x2, 0)), (3, (.int (x3 + iN 1), 0))] [] (upd3 M 24 2 ((((iN 8) * x2) + x3)).toNatClampNeg ((lI (M 24 2 ((((iN 8) * x1) + x3)).toNatClampNeg))).toInt) K)))) :
  G l E d m_Mod_copies 41 [(0, (.ref 24, 41)), (1, (.int x1, 0)), (2, (.int x2, 0)), (3, (.int x3, 0))] [] M K := G.blk 60 _ hd ok_Mod_copies rfl h
def bt_Mod_mark : BtT := [(0, [0], true, [(0, .aload_n 0, 1, 0, 0, 0, m0),
   (1, .getfield 460, 3, 33, 11, 1480, m0),
   (4, .iconst 3, 1, 0, 0, 0, m0),
   (5, .if_icmp .ne 9, 3, 14, 0, 0, m0),
   (8, .nop, 0, 0, 0, 0, m0)]),
  (8, [], false, [(8, .aload_n 0, 1, 0, 0, 0, m0),
   (9, .iconst 4, 1, 0, 0, 0, m0),
   (10, .invokevirtual 72, 3, 0, 0, 1629, m_Mod_refuse),
   (13, .ireturn, 1, 0, 0, 0, m0)]),
  (14, [], false, [(14, .aload_n 0, 1, 0, 0, 0, m0),
   (15, .dup, 1, 0, 0, 0, m0),
   (16, .getfield 460, 3, 33, 11, 1480, m0),
   (19, .iconst 1, 1, 0, 0, 0, m0),
   (20, .iadd, 1, 0, 0, 0, m0),
   (21, .putfield 460, 3, 33, 11, 1480, m0),
   (24, .aload_n 0, 1, 0, 0, 0, m0),
   (25, .iconst 0, 1, 0, 0, 0, m0),
   (26, .aload_n 0, 1, 0, 0, 0, m0),
   (27, .getfield 460, 3, 33, 11, 1480, m0),
   (30, .invokevirtual 463, 3, 0, 0, 2182, m_Mod_copies),
   (33, .aload_n 0, 1, 0, 0, 0, m0),
   (34, .aload_n 0, 1, 0, 0, 0, m0),
   (35, .getfield 460, 3, 33, 11, 1480, m0),
   (38, .invokevirtual 76, 3, 0, 0, 1740, m_Mod_gives),
   (41, .ireturn, 1, 0, 0, 0, m0)])]
theorem ok_Mod_mark : okBt m_Mod_mark bt_Mod_mark = true := by decide +kernel
set_option maxRecDepth 100000 in
theorem b_Mod_mark_0 {l : Launch} {E : EnvT} {d : Nat} {K : AV → Mem → Prop} {M : Mem}  (hd : 1 ≤ d)
  (h : ((¬ (iN (M 24 0 33)) = (iN 3) →
   CT l E (d - 1) m_Mod_copies [(.ref 24, 41), (.int (iN 0), 0), (.int (iN ((upd3 M 24 0 33 (((iN (M 24 0 33)) + (iN 1))).toInt) 24 0 33)), 0)] (upd3 M 24 0 33 (((iN (M 24 0 33)) + (iN 1))).toInt) (fun v1 M1 =>
    CT l E (d - 1) m_Mod_gives [(.ref 24, 41), (.int (iN (M1 24 0 33)), 0)] M1 (fun v2 M2 =>
     K (.int (toI v2), 0) M2))) ∧
  ((iN (M 24 0 33)) = (iN 3) →
   CT l E (d - 1) m_Mod_refuse [(.ref 24, 41), (.int (iN 4), 0)] M (fun v3 M3 =>
    K (.int (toI v3), 0) M3)))) :
  G l E d m_Mod_mark 0 [(0, (.ref 24, 41))] [] M K := G.blk 60 _ hd ok_Mod_mark rfl h
def bt_Mod_undo : BtT := [(0, [0], true, [(0, .aload_n 0, 1, 0, 0, 0, m0),
   (1, .getfield 460, 3, 33, 11, 1480, m0),
   (4, .ifCond .ne 10, 3, 14, 0, 0, m0),
   (7, .nop, 0, 0, 0, 0, m0)]),
  (7, [], false, [(7, .aload_n 0, 1, 0, 0, 0, m0),
   (8, .bipush 6, 2, 0, 0, 0, m0),
   (10, .invokevirtual 72, 3, 0, 0, 1629, m_Mod_refuse),
   (13, .ireturn, 1, 0, 0, 0, m0)]),
  (14, [], false, [(14, .aload_n 0, 1, 0, 0, 0, m0),
   (15, .aload_n 0, 1, 0, 0, 0, m0),
   (16, .getfield 460, 3, 33, 11, 1480, m0),
   (19, .iconst 0, 1, 0, 0, 0, m0),
   (20, .invokevirtual 463, 3, 0, 0, 2182, m_Mod_copies),
   (23, .aload_n 0, 1, 0, 0, 0, m0),
   (24, .dup, 1, 0, 0, 0, m0),
   (25, .getfield 460, 3, 33, 11, 1480, m0),
   (28, .iconst 1, 1, 0, 0, 0, m0),
   (29, .isub, 1, 0, 0, 0, m0),
   (30, .putfield 460, 3, 33, 11, 1480, m0),
   (33, .aload_n 0, 1, 0, 0, 0, m0),
   (34, .aload_n 0, 1, 0, 0, 0, m0),
   (35, .getfield 460, 3, 33, 11, 1480, m0),
   (38, .invokevirtual 76, 3, 0, 0, 1740, m_Mod_gives),
   (41, .ireturn, 1, 0, 0, 0, m0)])]
theorem ok_Mod_undo : okBt m_Mod_undo bt_Mod_undo = true := by decide +kernel
set_option maxRecDepth 100000 in
theorem b_Mod_undo_0 {l : Launch} {E : EnvT} {d : Nat} {K : AV → Mem → Prop} {M : Mem}  (hd : 1 ≤ d)
  (h : ((¬ (iN (M 24 0 33)) = 0 →
   CT l E (d - 1) m_Mod_copies [(.ref 24, 41), (.int (iN (M 24 0 33)), 0), (.int (iN 0), 0)] M (fun v1 M1 =>
    CT l E (d - 1) m_Mod_gives [(.ref 24, 41), (.int (iN ((upd3 M1 24 0 33 (((iN (M1 24 0 33)) - (iN 1))).toInt) 24 0 33)), 0)] (upd3 M1 24 0 33 (((iN (M1 24 0 33)) - (iN 1))).toInt) (fun v2 M2 =>
     K (.int (toI v2), 0) M2))) ∧
  ((iN (M 24 0 33)) = 0 →
   CT l E (d - 1) m_Mod_refuse [(.ref 24, 41), (.int (iN 6), 0)] M (fun v3 M3 =>
    K (.int (toI v3), 0) M3)))) :
  G l E d m_Mod_undo 0 [(0, (.ref 24, 41))] [] M K := G.blk 60 _ hd ok_Mod_undo rfl h
