def bt_Life_behindEnd : BtT := [(0, [0, 1, 2], true, [(0, .aload_n 1, 1, 0, 0, 0, m0),
   (1, .getfield 63, 3, 5, 8, 358, m0),
   (4, .iload_n 2, 1, 0, 0, 0, m0),
   (5, .iaload, 1, 0, 0, 0, m0),
   (6, .istore_n 3, 1, 0, 0, 0, m0),
   (7, .aload_n 1, 1, 0, 0, 0, m0),
   (8, .getfield 50, 3, 0, 8, 343, m0),
   (11, .iload_n 3, 1, 0, 0, 0, m0),
   (12, .iaload, 1, 0, 0, 0, m0),
   (13, .bipush 19, 2, 0, 0, 0, m0),
   (15, .if_icmp .ne 26, 3, 41, 0, 0, m0),
   (18, .nop, 0, 0, 0, 0, m0)]),
  (18, [], false, [(18, .aload_n 0, 1, 0, 0, 0, m0),
   (19, .getfield 11, 3, 0, 2, 435, m0),
   (22, .iload_n 3, 1, 0, 0, 0, m0),
   (23, .iaload, 1, 0, 0, 0, m0),
   (24, .ifCond .le 17, 3, 41, 0, 0, m0),
   (27, .nop, 0, 0, 0, 0, m0)]),
  (27, [], false, [(27, .aload_n 0, 1, 0, 0, 0, m0),
   (28, .getfield 11, 3, 0, 2, 435, m0),
   (31, .iload_n 3, 1, 0, 0, 0, m0),
   (32, .dup2, 1, 0, 0, 0, m0),
   (33, .iaload, 1, 0, 0, 0, m0),
   (34, .iconst 1, 1, 0, 0, 0, m0),
   (35, .isub, 1, 0, 0, 0, m0),
   (36, .iastore, 1, 0, 0, 0, m0),
   (37, .iload_n 3, 1, 0, 0, 0, m0),
   (38, .iconst 1, 1, 0, 0, 0, m0),
   (39, .iadd, 1, 0, 0, 0, m0),
   (40, .ireturn, 1, 0, 0, 0, m0)]),
  (41, [], false, [(41, .iload_n 2, 1, 0, 0, 0, m0),
   (42, .iconst 1, 1, 0, 0, 0, m0),
   (43, .iadd, 1, 0, 0, 0, m0),
   (44, .ireturn, 1, 0, 0, 0, m0)])]
theorem ok_Life_behindEnd : okBt m_Life_behindEnd bt_Life_behindEnd = true := by decide +kernel
set_option maxRecDepth 100000 in
theorem b_Life_behindEnd_0 {l : Launch} {E : EnvT} {d : Nat} {K : AV → Mem → Prop} {M : Mem} {r r2 : Nat} {x2 : Int32} (hd : 1 ≤ d)
  (h : (vp_in x2 60 ∧ vp_in (iN (M r2 6 (x2).toNatClampNeg)) 60 ∧ ((¬ (iN (M r2 1 ((iN (M r2 6 (x2).toNatClampNeg))).toNatClampNeg)) = (iN 19) →
   K (.int (x2 + (iN 1)), 0) M) ∧
  ((iN (M r2 1 ((iN (M r2 6 (x2).toNatClampNeg))).toNatClampNeg)) = (iN 19) →
   (vp_in (iN (M r2 6 (x2).toNatClampNeg)) 60 ∧ (((iN (M r 1 ((iN (M r2 6 (x2).toNatClampNeg))).toNatClampNeg)) ≤ 0 →
    K (.int (x2 + (iN 1)), 0) M) ∧
   (¬ (iN (M r 1 ((iN (M r2 6 (x2).toNatClampNeg))).toNatClampNeg)) ≤ 0 →
    (vp_in (iN (M r2 6 (x2).toNatClampNeg)) 60 ∧ vp_in (iN (M r2 6 (x2).toNatClampNeg)) 60 ∧ K (.int ((iN (M r2 6 (x2).toNatClampNeg)) + (iN 1)), 0) (upd3 M r 1 ((iN (M r2 6 (x2).toNatClampNeg))).toNatClampNeg (((iN (M r 1 ((iN (M r2 6 (x2).toNatClampNeg))).toNatClampNeg)) - (iN 1))).toInt))))))))) :
  G l E d m_Life_behindEnd 0 [(0, (.ref r, 37)), (1, (.ref r2, 23)), (2, (.int x2, 0))] [] M K := G.blk 60 _ hd ok_Life_behindEnd rfl h
def bt_Life_compares : BtT := [(0, [0, 1, 2], true, [(0, .iload_n 1, 1, 0, 0, 0, m0),
   (1, .bipush 60, 2, 0, 0, 0, m0),
   (3, .if_icmp .ne 14, 3, 17, 0, 0, m0),
   (6, .nop, 0, 0, 0, 0, m0)]),
  (6, [], false, [(6, .iload_n 0, 1, 0, 0, 0, m0),
   (7, .iload_n 2, 1, 0, 0, 0, m0),
   (8, .if_icmp .ge 7, 3, 15, 0, 0, m0),
   (11, .nop, 0, 0, 0, 0, m0)]),
  (11, [], false, [(11, .iconst 1, 1, 0, 0, 0, m0),
   (12, .goto 4, 3, 16, 0, 0, m0)]),
  (15, [], false, [(15, .iconst 0, 1, 0, 0, 0, m0),
   (16, .nop, 0, 0, 0, 0, m0)]),
  (16, [], false, [(16, .ireturn, 1, 0, 0, 0, m0)]),
  (17, [], false, [(17, .iload_n 1, 1, 0, 0, 0, m0),
   (18, .bipush 62, 2, 0, 0, 0, m0),
   (20, .if_icmp .ne 16, 3, 36, 0, 0, m0),
   (23, .nop, 0, 0, 0, 0, m0)]),
  (23, [], false, [(23, .iload_n 0, 1, 0, 0, 0, m0),
   (24, .iload_n 2, 1, 0, 0, 0, m0),
   (25, .if_icmp .le 7, 3, 32, 0, 0, m0),
   (28, .nop, 0, 0, 0, 0, m0)]),
  (28, [], false, [(28, .iconst 1, 1, 0, 0, 0, m0),
   (29, .goto 17, 3, 46, 0, 0, m0)]),
  (32, [], false, [(32, .iconst 0, 1, 0, 0, 0, m0),
   (33, .goto 13, 3, 46, 0, 0, m0)]),
  (36, [], false, [(36, .iload_n 0, 1, 0, 0, 0, m0),
   (37, .iload_n 2, 1, 0, 0, 0, m0),
   (38, .if_icmp .ne 7, 3, 45, 0, 0, m0),
   (41, .nop, 0, 0, 0, 0, m0)]),
  (41, [], false, [(41, .iconst 1, 1, 0, 0, 0, m0),
   (42, .goto 4, 3, 46, 0, 0, m0)]),
  (45, [], false, [(45, .iconst 0, 1, 0, 0, 0, m0),
   (46, .nop, 0, 0, 0, 0, m0)]),
  (46, [], false, [(46, .ireturn, 1, 0, 0, 0, m0)])]
theorem ok_Life_compares : okBt m_Life_compares bt_Life_compares = true := by decide +kernel
set_option maxRecDepth 100000 in
theorem b_Life_compares_0 {l : Launch} {E : EnvT} {d : Nat} {K : AV → Mem → Prop} {M : Mem} {x0 : Int32} {x1 : Int32} {x2 : Int32} (hd : 1 ≤ d)
  (h : ((¬ x1 = (iN 60) →
   ((¬ x1 = (iN 62) →
    ((¬ x0 = x2 →
     ((((iN 0) = 0 ∨ (iN 0) = 1)) ∧ K (.int (iN 0), 0) M)) ∧
    (x0 = x2 →
     ((((iN 1) = 0 ∨ (iN 1) = 1)) ∧ K (.int (iN 1), 0) M)))) ∧
   (x1 = (iN 62) →
    ((x0 ≤ x2 →
     ((((iN 0) = 0 ∨ (iN 0) = 1)) ∧ K (.int (iN 0), 0) M)) ∧
    (¬ x0 ≤ x2 →
     ((((iN 1) = 0 ∨ (iN 1) = 1)) ∧ K (.int (iN 1), 0) M)))))) ∧
  (x1 = (iN 60) →
   ((x2 ≤ x0 →
    ((((iN 0) = 0 ∨ (iN 0) = 1)) ∧ K (.int (iN 0), 0) M)) ∧
   (¬ x2 ≤ x0 →
    ((((iN 1) = 0 ∨ (iN 1) = 1)) ∧ K (.int (iN 1), 0) M)))))) :
  G l E d m_Life_compares 0 [(0, (.int x0, 0)), (1, (.int x1, 0)), (2, (.int x2, 0))] [] M K := G.blk 60 _ hd ok_Life_compares rfl h
def bt_Life_holds : BtT := [(0, [0, 1, 2], true, [(0, .aload_n 1, 1, 0, 0, 0, m0),
   (1, .getfield 66, 3, 1, 8, 346, m0),
   (4, .iload_n 2, 1, 0, 0, 0, m0),
   (5, .iaload, 1, 0, 0, 0, m0),
   (6, .istore_n 3, 1, 0, 0, 0, m0),
   (7, .aload_n 1, 1, 0, 0, 0, m0),
   (8, .getfield 69, 3, 2, 8, 349, m0),
   (11, .iload_n 2, 1, 0, 0, 0, m0),
   (12, .iaload, 1, 0, 0, 0, m0),
   (13, .istore 4, 2, 0, 0, 0, m0),
   (15, .aload_n 1, 1, 0, 0, 0, m0),
   (16, .getfield 72, 3, 3, 8, 352, m0),
   (19, .iload_n 2, 1, 0, 0, 0, m0),
   (20, .iaload, 1, 0, 0, 0, m0),
   (21, .istore 5, 2, 0, 0, 0, m0),
   (23, .aload_n 1, 1, 0, 0, 0, m0),
   (24, .getfield 50, 3, 0, 8, 343, m0),
   (27, .iload_n 2, 1, 0, 0, 0, m0),
   (28, .iaload, 1, 0, 0, 0, m0),
   (29, .lookupswitch 74 #[(1, 56), (17, 27)], 27, 0, 0, 0, m0)]),
  (56, [], false, [(56, .iload_n 3, 1, 0, 0, 0, m0),
   (57, .iload 4, 2, 0, 0, 0, m0),
   (59, .if_icmp .ne 7, 3, 66, 0, 0, m0),
   (62, .nop, 0, 0, 0, 0, m0)]),
  (62, [], false, [(62, .iconst 0, 1, 0, 0, 0, m0),
   (63, .goto 10, 3, 73, 0, 0, m0)]),
  (66, [], false, [(66, .aload_n 0, 1, 0, 0, 0, m0),
   (67, .iload_n 3, 1, 0, 0, 0, m0),
   (68, .iload 4, 2, 0, 0, 0, m0),
   (70, .invokevirtual 106, 3, 0, 0, 1371, m_Choir_owedBetween),
   (73, .nop, 0, 0, 0, 0, m0)]),
  (73, [], false, [(73, .aload_n 1, 1, 0, 0, 0, m0),
   (74, .getfield 109, 3, 4, 8, 355, m0),
   (77, .iload_n 2, 1, 0, 0, 0, m0),
   (78, .iaload, 1, 0, 0, 0, m0),
   (79, .iload 5, 2, 0, 0, 0, m0),
   (81, .invokestatic 112, 3, 0, 0, 1372, m_Life_compares),
   (84, .ireturn, 1, 0, 0, 0, m0)]),
  (85, [], false, [(85, .aload_n 0, 1, 0, 0, 0, m0),
   (86, .getfield 115, 3, 1, 0, 264, m0),
   (89, .iload_n 3, 1, 0, 0, 0, m0),
   (90, .iaload, 1, 0, 0, 0, m0),
   (91, .aload_n 1, 1, 0, 0, 0, m0),
   (92, .getfield 109, 3, 4, 8, 355, m0),
   (95, .iload_n 2, 1, 0, 0, 0, m0),
   (96, .iaload, 1, 0, 0, 0, m0),
   (97, .iload 5, 2, 0, 0, 0, m0),
   (99, .invokestatic 112, 3, 0, 0, 1372, m_Life_compares),
   (102, .ireturn, 1, 0, 0, 0, m0)]),
  (103, [], false, [(103, .aload_n 0, 1, 0, 0, 0, m0),
   (104, .iload_n 3, 1, 0, 0, 0, m0),
   (105, .invokevirtual 118, 3, 0, 0, 1375, m_Choir_owesInAll),
   (108, .ifCond .ne 15, 3, 123, 0, 0, m0),
   (111, .nop, 0, 0, 0, 0, m0)]),
  (111, [], false, [(111, .aload_n 0, 1, 0, 0, 0, m0),
   (112, .iload_n 3, 1, 0, 0, 0, m0),
   (113, .invokevirtual 121, 3, 0, 0, 1376, m_Choir_isOwedInAll),
   (116, .ifCond .ne 7, 3, 123, 0, 0, m0),
   (119, .nop, 0, 0, 0, 0, m0)]),
  (119, [], false, [(119, .iconst 1, 1, 0, 0, 0, m0),
   (120, .goto 4, 3, 124, 0, 0, m0)]),
  (123, [], false, [(123, .iconst 0, 1, 0, 0, 0, m0),
   (124, .nop, 0, 0, 0, 0, m0)]),
  (124, [], false, [(124, .ireturn, 1, 0, 0, 0, m0)])]
theorem ok_Life_holds : okBt m_Life_holds bt_Life_holds = true := by decide +kernel
set_option maxRecDepth 100000 in
theorem b_Life_holds_0 {l : Launch} {E : EnvT} {d : Nat} {K : AV → Mem → Prop} {M : Mem} {r2 r3 : Nat} {x2 : Int32} (hd : 1 ≤ d)
  (h : (vp_in x2 60 ∧ vp_in x2 60 ∧ vp_in x2 60 ∧ vp_in x2 60 ∧ (((iN (M r3 1 (x2).toNatClampNeg)) = iN 1 →
   (vp_in (iN (M r3 2 (x2).toNatClampNeg)) 8 ∧ vp_in x2 60 ∧ CT l E (d - 1) m_Life_compares [(.int (iN (M r2 2 ((iN (M r3 2 (x2).toNatClampNeg))).toNatClampNeg)), 0), (.int (iN (M r3 5 (x2).toNatClampNeg)), 0), (.int (iN (M r3 4 (x2).toNatClampNeg)), 0)] M (fun v6 M6 =>
    ((((toI v6) = 0 ∨ (toI v6) = 1)) ∧ K (.int (toI v6), 0) M6)))) ∧
  (¬ (iN (M r3 1 (x2).toNatClampNeg)) = iN 1 →
   (((iN (M r3 1 (x2).toNatClampNeg)) = iN 17 →
   ((¬ (iN (M r3 2 (x2).toNatClampNeg)) = (iN (M r3 3 (x2).toNatClampNeg)) →
    CT l E (d - 1) m_Choir_owedBetween [(.ref r2, 11), (.int (iN (M r3 2 (x2).toNatClampNeg)), 0), (.int (iN (M r3 3 (x2).toNatClampNeg)), 0)] M (fun v3 M3 =>
     (vp_in x2 60 ∧ CT l E (d - 1) m_Life_compares [(.int (toI v3), 0), (.int (iN (M3 r3 5 (x2).toNatClampNeg)), 0), (.int (iN (M r3 4 (x2).toNatClampNeg)), 0)] M3 (fun v4 M4 =>
      ((((toI v4) = 0 ∨ (toI v4) = 1)) ∧ K (.int (toI v4), 0) M4))))) ∧
   ((iN (M r3 2 (x2).toNatClampNeg)) = (iN (M r3 3 (x2).toNatClampNeg)) →
    (vp_in x2 60 ∧ CT l E (d - 1) m_Life_compares [(.int (iN 0), 0), (.int (iN (M r3 5 (x2).toNatClampNeg)), 0), (.int (iN (M r3 4 (x2).toNatClampNeg)), 0)] M (fun v5 M5 =>
     ((((toI v5) = 0 ∨ (toI v5) = 1)) ∧ K (.int (toI v5), 0) M5)))))) ∧
  (¬ (iN (M r3 1 (x2).toNatClampNeg)) = iN 17 →
   CT l E (d - 1) m_Choir_owesInAll [(.ref r2, 11), (.int (iN (M r3 2 (x2).toNatClampNeg)), 0)] M (fun v1 M1 =>
    ((¬ (toI v1) = 0 →
     ((((iN 0) = 0 ∨ (iN 0) = 1)) ∧ K (.int (iN 0), 0) M1)) ∧
    ((toI v1) = 0 →
     CT l E (d - 1) m_Choir_isOwedInAll [(.ref r2, 11), (.int (iN (M r3 2 (x2).toNatClampNeg)), 0)] M1 (fun v2 M2 =>
      ((¬ (toI v2) = 0 →
       ((((iN 0) = 0 ∨ (iN 0) = 1)) ∧ K (.int (iN 0), 0) M2)) ∧
      ((toI v2) = 0 →
       ((((iN 1) = 0 ∨ (iN 1) = 1)) ∧ K (.int (iN 1), 0) M2))))))))))))) :
  G l E d m_Life_holds 0 [(0, (.ref r2, 11)), (1, (.ref r3, 23)), (2, (.int x2, 0))] [] M K := G.blk 60 _ hd ok_Life_holds rfl h
def bt_Life_draw : BtT := [(0, [0, 1], true, [(0, .aload_n 0, 1, 0, 0, 0, m0),
   (1, .aload_n 0, 1, 0, 0, 0, m0),
   (2, .getfield 40, 3, 8, 2, 450, m0),
   (5, .sipush 2971, 3, 0, 0, 0, m0),
   (8, .imul, 1, 0, 0, 0, m0),
   (9, .sipush 11173, 3, 0, 0, 0, m0),
   (12, .iadd, 1, 0, 0, 0, m0),
   (13, .ldc 134, 2, 1, 65536, 1392, m0),
   (15, .irem, 1, 0, 0, 0, m0),
   (16, .putfield 40, 3, 8, 2, 450, m0),
   (19, .iload_n 1, 1, 0, 0, 0, m0),
   (20, .ifCond .gt 7, 3, 27, 0, 0, m0),
   (23, .nop, 0, 0, 0, 0, m0)]),
  (23, [], false, [(23, .iconst 0, 1, 0, 0, 0, m0),
   (24, .goto 12, 3, 36, 0, 0, m0)]),
  (27, [], false, [(27, .aload_n 0, 1, 0, 0, 0, m0),
   (28, .getfield 40, 3, 8, 2, 450, m0),
   (31, .bipush 8, 2, 0, 0, 0, m0),
   (33, .idiv, 1, 0, 0, 0, m0),
   (34, .iload_n 1, 1, 0, 0, 0, m0),
   (35, .irem, 1, 0, 0, 0, m0),
   (36, .nop, 0, 0, 0, 0, m0)]),
  (36, [], false, [(36, .ireturn, 1, 0, 0, 0, m0)])]
theorem ok_Life_draw : okBt m_Life_draw bt_Life_draw = true := by decide +kernel
set_option maxRecDepth 100000 in
theorem b_Life_draw_0 {l : Launch} {E : EnvT} {d : Nat} {K : AV → Mem → Prop} {M : Mem} {r : Nat} {x1 : Int32} (hd : 1 ≤ d)
  (h : (¬ (iN 65536) = 0 ∧ ((0 < x1 →
   (¬ (iN 8) = 0 ∧ ¬ x1 = 0 ∧ K (.int (iR ((iN ((upd3 M r 0 8 ((iR (((iN (M r 0 8)) * (iN 2971)) + (iN 11173)) (iN 65536))).toInt) r 0 8)) / (iN 8)) x1), 0) (upd3 M r 0 8 ((iR (((iN (M r 0 8)) * (iN 2971)) + (iN 11173)) (iN 65536))).toInt))) ∧
  (¬ 0 < x1 →
   K (.int (iN 0), 0) (upd3 M r 0 8 ((iR (((iN (M r 0 8)) * (iN 2971)) + (iN 11173)) (iN 65536))).toInt))))) :
  G l E d m_Life_draw 0 [(0, (.ref r, 37)), (1, (.int x1, 0))] [] M K := G.blk 60 _ hd ok_Life_draw rfl h
def bt_Life_lendAny : BtT := [(0, [0, 1], true, [(0, .aload_n 1, 1, 0, 0, 0, m0),
   (1, .invokevirtual 124, 3, 0, 0, 1387, m_Choir_livingCount),
   (4, .istore_n 2, 1, 0, 0, 0, m0),
   (5, .iload_n 2, 1, 0, 0, 0, m0),
   (6, .ifCond .gt 5, 3, 11, 0, 0, m0),
   (9, .nop, 0, 0, 0, 0, m0)]),
  (9, [], false, [(9, .iconst 0, 1, 0, 0, 0, m0),
   (10, .ireturn, 1, 0, 0, 0, m0)]),
  (11, [], false, [(11, .aload_n 1, 1, 0, 0, 0, m0),
   (12, .aload_n 0, 1, 0, 0, 0, m0),
   (13, .iload_n 2, 1, 0, 0, 0, m0),
   (14, .invokevirtual 128, 3, 0, 0, 1388, m_Life_draw),
   (17, .invokevirtual 131, 3, 0, 0, 1393, m_Choir_livingAt),
   (20, .istore_n 3, 1, 0, 0, 0, m0),
   (21, .aload_n 1, 1, 0, 0, 0, m0),
   (22, .aload_n 0, 1, 0, 0, 0, m0),
   (23, .iload_n 2, 1, 0, 0, 0, m0),
   (24, .invokevirtual 128, 3, 0, 0, 1388, m_Life_draw),
   (27, .invokevirtual 131, 3, 0, 0, 1393, m_Choir_livingAt),
   (30, .istore 4, 2, 0, 0, 0, m0),
   (32, .aload_n 0, 1, 0, 0, 0, m0),
   (33, .bipush 20, 2, 0, 0, 0, m0),
   (35, .invokevirtual 128, 3, 0, 0, 1388, m_Life_draw),
   (38, .iconst 1, 1, 0, 0, 0, m0),
   (39, .iadd, 1, 0, 0, 0, m0),
   (40, .istore 5, 2, 0, 0, 0, m0),
   (42, .aload_n 1, 1, 0, 0, 0, m0),
   (43, .iload_n 3, 1, 0, 0, 0, m0),
   (44, .iload 4, 2, 0, 0, 0, m0),
   (46, .iload 5, 2, 0, 0, 0, m0),
   (48, .invokevirtual 79, 3, 0, 0, 1377, m_Choir_lendCoins),
   (51, .istore 6, 2, 0, 0, 0, m0),
   (53, .aload_n 0, 1, 0, 0, 0, m0),
   (54, .dup, 1, 0, 0, 0, m0),
   (55, .getfield 28, 3, 4, 2, 442, m0),
   (58, .iload 6, 2, 0, 0, 0, m0),
   (60, .ifCond .eq 8, 3, 68, 0, 0, m0),
   (63, .nop, 0, 0, 0, 0, m0)]),
  (63, [], false, [(63, .iload 5, 2, 0, 0, 0, m0),
   (65, .goto 4, 3, 69, 0, 0, m0)]),
  (68, [], false, [(68, .iconst 0, 1, 0, 0, 0, m0),
   (69, .nop, 0, 0, 0, 0, m0)]),
  (69, [], false, [(69, .iadd, 1, 0, 0, 0, m0),
   (70, .putfield 28, 3, 4, 2, 442, m0),
   (73, .iload 6, 2, 0, 0, 0, m0),
   (75, .ireturn, 1, 0, 0, 0, m0)])]
theorem ok_Life_lendAny : okBt m_Life_lendAny bt_Life_lendAny = true := by decide +kernel
set_option maxRecDepth 100000 in
theorem b_Life_lendAny_0 {l : Launch} {E : EnvT} {d : Nat} {K : AV → Mem → Prop} {M : Mem} {r r2 : Nat}  (hd : 1 ≤ d)
  (h : CT l E (d - 1) m_Choir_livingCount [(.ref r2, 11)] M (fun v1 M1 =>
   ((0 < (toI v1) →
    CT l E (d - 1) m_Life_draw [(.ref r, 37), (.int (toI v1), 0)] M1 (fun v2 M2 =>
     CT l E (d - 1) m_Choir_livingAt [(.ref r2, 11), (.int (toI v2), 0)] M2 (fun v3 M3 =>
      CT l E (d - 1) m_Life_draw [(.ref r, 37), (.int (toI v1), 0)] M3 (fun v4 M4 =>
       CT l E (d - 1) m_Choir_livingAt [(.ref r2, 11), (.int (toI v4), 0)] M4 (fun v5 M5 =>
        CT l E (d - 1) m_Life_draw [(.ref r, 37), (.int (iN 20), 0)] M5 (fun v6 M6 =>
         CT l E (d - 1) m_Choir_lendCoins [(.ref r2, 11), (.int (toI v3), 0), (.int (toI v5), 0), (.int ((toI v6) + (iN 1)), 0)] M6 (fun v7 M7 =>
          (((toI v7) = 0 →
           ((((toI v7) = 0 ∨ (toI v7) = 1)) ∧ K (.int (toI v7), 0) (upd3 M7 r 0 4 (((iN (M7 r 0 4)) + (iN 0))).toInt))) ∧
          (¬ (toI v7) = 0 →
           ((((toI v7) = 0 ∨ (toI v7) = 1)) ∧ K (.int (toI v7), 0) (upd3 M7 r 0 4 (((iN (M7 r 0 4)) + ((toI v6) + (iN 1)))).toInt))))))))))) ∧
   (¬ 0 < (toI v1) →
    ((((iN 0) = 0 ∨ (iN 0) = 1)) ∧ K (.int (iN 0), 0) M1))))) :
  G l E d m_Life_lendAny 0 [(0, (.ref r, 37)), (1, (.ref r2, 11))] [] M K := G.blk 60 _ hd ok_Life_lendAny rfl h
def bt_Life_behindStep : BtT := [(0, [0, 1, 2, 3], true, [(0, .aload_n 2, 1, 0, 0, 0, m0),
   (1, .getfield 66, 3, 1, 8, 346, m0),
   (4, .iload_n 3, 1, 0, 0, 0, m0),
   (5, .iaload, 1, 0, 0, 0, m0),
   (6, .istore 4, 2, 0, 0, 0, m0),
   (8, .aload_n 2, 1, 0, 0, 0, m0),
   (9, .getfield 69, 3, 2, 8, 349, m0),
   (12, .iload_n 3, 1, 0, 0, 0, m0),
   (13, .iaload, 1, 0, 0, 0, m0),
   (14, .istore 5, 2, 0, 0, 0, m0),
   (16, .aload_n 2, 1, 0, 0, 0, m0),
   (17, .getfield 72, 3, 3, 8, 352, m0),
   (20, .iload_n 3, 1, 0, 0, 0, m0),
   (21, .iaload, 1, 0, 0, 0, m0),
   (22, .istore 6, 2, 0, 0, 0, m0),
   (24, .iconst 1, 1, 0, 0, 0, m0),
   (25, .istore 7, 2, 0, 0, 0, m0),
   (27, .aload_n 2, 1, 0, 0, 0, m0),
   (28, .getfield 50, 3, 0, 8, 343, m0),
   (31, .iload_n 3, 1, 0, 0, 0, m0),
   (32, .iaload, 1, 0, 0, 0, m0),
   (33, .tableswitch 271 1 21 #[117, 271, 219, 271, 271, 271, 271, 271, 141, 271, 176, 191, 239, 250, 271, 271, 117, 117, 104, 271, 99], 99, 0, 0, 0, m0)]),
  (132, [], false, [(132, .aload_n 2, 1, 0, 0, 0, m0),
   (133, .getfield 47, 3, 6, 8, 360, m0),
   (136, .ireturn, 1, 0, 0, 0, m0)]),
  (137, [], false, [(137, .aload_n 0, 1, 0, 0, 0, m0),
   (138, .getfield 11, 3, 0, 2, 435, m0),
   (141, .iload_n 3, 1, 0, 0, 0, m0),
   (142, .iload 6, 2, 0, 0, 0, m0),
   (144, .iconst 1, 1, 0, 0, 0, m0),
   (145, .isub, 1, 0, 0, 0, m0),
   (146, .iastore, 1, 0, 0, 0, m0),
   (147, .goto 164, 3, 311, 0, 0, m0)]),
  (150, [], false, [(150, .aload_n 1, 1, 0, 0, 0, m0),
   (151, .aload_n 2, 1, 0, 0, 0, m0),
   (152, .iload_n 3, 1, 0, 0, 0, m0),
   (153, .invokestatic 75, 3, 0, 0, 1368, m_Life_holds),
   (156, .ifCond .eq 9, 3, 165, 0, 0, m0),
   (159, .nop, 0, 0, 0, 0, m0)]),
  (159, [], false, [(159, .iload_n 3, 1, 0, 0, 0, m0),
   (160, .iconst 1, 1, 0, 0, 0, m0),
   (161, .iadd, 1, 0, 0, 0, m0),
   (162, .goto 11, 3, 173, 0, 0, m0)]),
  (165, [], false, [(165, .aload_n 2, 1, 0, 0, 0, m0),
   (166, .getfield 63, 3, 5, 8, 358, m0),
   (169, .iload_n 3, 1, 0, 0, 0, m0),
   (170, .iaload, 1, 0, 0, 0, m0),
   (171, .iconst 1, 1, 0, 0, 0, m0),
   (172, .iadd, 1, 0, 0, 0, m0),
   (173, .nop, 0, 0, 0, 0, m0)]),
  (173, [], false, [(173, .ireturn, 1, 0, 0, 0, m0)]),
  (174, [], false, [(174, .aload_n 1, 1, 0, 0, 0, m0),
   (175, .iload 4, 2, 0, 0, 0, m0),
   (177, .iload 5, 2, 0, 0, 0, m0),
   (179, .iload 6, 2, 0, 0, 0, m0),
   (181, .invokevirtual 79, 3, 0, 0, 1377, m_Choir_lendCoins),
   (184, .istore 7, 2, 0, 0, 0, m0),
   (186, .aload_n 0, 1, 0, 0, 0, m0),
   (187, .dup, 1, 0, 0, 0, m0),
   (188, .getfield 28, 3, 4, 2, 442, m0),
   (191, .iload 7, 2, 0, 0, 0, m0),
   (193, .ifCond .eq 8, 3, 201, 0, 0, m0),
   (196, .nop, 0, 0, 0, 0, m0)]),
  (196, [], false, [(196, .iload 6, 2, 0, 0, 0, m0),
   (198, .goto 4, 3, 202, 0, 0, m0)]),
  (201, [], false, [(201, .iconst 0, 1, 0, 0, 0, m0),
   (202, .nop, 0, 0, 0, 0, m0)]),
  (202, [], false, [(202, .iadd, 1, 0, 0, 0, m0),
   (203, .putfield 28, 3, 4, 2, 442, m0),
   (206, .goto 105, 3, 311, 0, 0, m0)]),
  (209, [], false, [(209, .aload_n 1, 1, 0, 0, 0, m0),
   (210, .iload 4, 2, 0, 0, 0, m0),
   (212, .iload 5, 2, 0, 0, 0, m0),
   (214, .iload 6, 2, 0, 0, 0, m0),
   (216, .invokevirtual 83, 3, 0, 0, 1378, m_Choir_payCoins),
   (219, .istore 7, 2, 0, 0, 0, m0),
   (221, .goto 90, 3, 311, 0, 0, m0)]),
  (224, [], false, [(224, .aload_n 1, 1, 0, 0, 0, m0),
   (225, .invokevirtual 86, 3, 0, 0, 1379, m_Choir_keepSunday),
   (228, .istore 7, 2, 0, 0, 0, m0),
   (230, .aload_n 0, 1, 0, 0, 0, m0),
   (231, .dup, 1, 0, 0, 0, m0),
   (232, .getfield 34, 3, 6, 2, 446, m0),
   (235, .iload 7, 2, 0, 0, 0, m0),
   (237, .ifCond .eq 7, 3, 244, 0, 0, m0),
   (240, .nop, 0, 0, 0, 0, m0)]),
  (240, [], false, [(240, .iconst 1, 1, 0, 0, 0, m0),
   (241, .goto 4, 3, 245, 0, 0, m0)]),
  (244, [], false, [(244, .iconst 0, 1, 0, 0, 0, m0),
   (245, .nop, 0, 0, 0, 0, m0)]),
  (245, [], false, [(245, .iadd, 1, 0, 0, 0, m0),
   (246, .putfield 34, 3, 6, 2, 446, m0),
   (249, .goto 62, 3, 311, 0, 0, m0)]),
  (252, [], false, [(252, .aload_n 1, 1, 0, 0, 0, m0),
   (253, .iload 4, 2, 0, 0, 0, m0),
   (255, .invokevirtual 90, 3, 0, 0, 1380, m_Choir_catchCold),
   (258, .iconst (-1), 1, 0, 0, 0, m0),
   (259, .if_icmp .eq 7, 3, 266, 0, 0, m0),
   (262, .nop, 0, 0, 0, 0, m0)]),
  (262, [], false, [(262, .iconst 1, 1, 0, 0, 0, m0),
   (263, .goto 4, 3, 267, 0, 0, m0)]),
  (266, [], false, [(266, .iconst 0, 1, 0, 0, 0, m0),
   (267, .nop, 0, 0, 0, 0, m0)]),
  (267, [], false, [(267, .istore 7, 2, 0, 0, 0, m0),
   (269, .goto 42, 3, 311, 0, 0, m0)]),
  (272, [], false, [(272, .aload_n 1, 1, 0, 0, 0, m0),
   (273, .iload 4, 2, 0, 0, 0, m0),
   (275, .invokevirtual 94, 3, 0, 0, 1381, m_Choir_bury),
   (278, .istore 7, 2, 0, 0, 0, m0),
   (280, .goto 31, 3, 311, 0, 0, m0)]),
  (283, [], false, [(283, .aload_n 1, 1, 0, 0, 0, m0),
   (284, .iload 4, 2, 0, 0, 0, m0),
   (286, .iload 5, 2, 0, 0, 0, m0),
   (288, .invokevirtual 98, 3, 0, 0, 1382, m_Choir_netTwo),
   (291, .ifCond .le 7, 3, 298, 0, 0, m0),
   (294, .nop, 0, 0, 0, 0, m0)]),
  (294, [], false, [(294, .iconst 1, 1, 0, 0, 0, m0),
   (295, .goto 4, 3, 299, 0, 0, m0)]),
  (298, [], false, [(298, .iconst 0, 1, 0, 0, 0, m0),
   (299, .nop, 0, 0, 0, 0, m0)]),
  (299, [], false, [(299, .istore 7, 2, 0, 0, 0, m0),
   (301, .goto 10, 3, 311, 0, 0, m0)]),
  (304, [], false, [(304, .aload_n 0, 1, 0, 0, 0, m0),
   (305, .aload_n 1, 1, 0, 0, 0, m0),
   (306, .invokevirtual 102, 3, 0, 0, 1383, m_Life_lendAny),
   (309, .istore 7, 2, 0, 0, 0, m0),
   (311, .nop, 0, 0, 0, 0, m0)]),
  (311, [0, 3, 7], true, [(311, .aload_n 0, 1, 0, 0, 0, m0),
   (312, .dup, 1, 0, 0, 0, m0),
   (313, .getfield 25, 3, 3, 2, 440, m0),
   (316, .iload 7, 2, 0, 0, 0, m0),
   (318, .ifCond .eq 7, 3, 325, 0, 0, m0),
   (321, .nop, 0, 0, 0, 0, m0)]),
  (321, [], false, [(321, .iconst 0, 1, 0, 0, 0, m0),
   (322, .goto 4, 3, 326, 0, 0, m0)]),
  (325, [], false, [(325, .iconst 1, 1, 0, 0, 0, m0),
   (326, .nop, 0, 0, 0, 0, m0)]),
  (326, [], false, [(326, .iadd, 1, 0, 0, 0, m0),
   (327, .putfield 25, 3, 3, 2, 440, m0),
   (330, .iload_n 3, 1, 0, 0, 0, m0),
   (331, .iconst 1, 1, 0, 0, 0, m0),
   (332, .iadd, 1, 0, 0, 0, m0),
   (333, .ireturn, 1, 0, 0, 0, m0)])]
theorem ok_Life_behindStep : okBt m_Life_behindStep bt_Life_behindStep = true := by decide +kernel
set_option maxRecDepth 100000 in
theorem b_Life_behindStep_0 {l : Launch} {E : EnvT} {d : Nat} {K : AV → Mem → Prop} {M : Mem} {r r2 r3 : Nat} {x3 : Int32} (hd : 1 ≤ d)
  (h : (vp_in x3 60 ∧ vp_in x3 60 ∧ vp_in x3 60 ∧ vp_in x3 60 ∧ (((iN (M r3 1 (x3).toNatClampNeg)) = iN 1 →
   CT l E (d - 1) m_Life_holds [(.ref r2, 11), (.ref r3, 23), (.int x3, 0)] M (fun v20 M20 =>
    (((toI v20) = 0 →
     (vp_in x3 60 ∧ K (.int ((iN (M20 r3 6 (x3).toNatClampNeg)) + (iN 1)), 0) M20)) ∧
    (¬ (toI v20) = 0 →
     K (.int (x3 + (iN 1)), 0) M20)))) ∧
  (¬ (iN (M r3 1 (x3).toNatClampNeg)) = iN 1 →
   (((iN (M r3 1 (x3).toNatClampNeg)) = iN 2 →
   CT l E (d - 1) m_Life_lendAny [(.ref r, 37), (.ref r2, 11)] M (fun v19 M19 =>
    G l E d m_Life_behindStep 311 [(0, (.ref r, 37)), (3, (.int x3, 0)), (7, (.int (toI v19), 0))] [] M19 K)) ∧
  (¬ (iN (M r3 1 (x3).toNatClampNeg)) = iN 2 →
   (((iN (M r3 1 (x3).toNatClampNeg)) = iN 3 →
   CT l E (d - 1) m_Choir_catchCold [(.ref r2, 11), (.int (iN (M r3 2 (x3).toNatClampNeg)), 0)] M (fun v18 M18 =>
    (((toI v18) = (iN (-1)) →
     G l E d m_Life_behindStep 311 [(0, (.ref r, 37)), (3, (.int x3, 0)), (7, (.int (iN 0), 0))] [] M18 K) ∧
    (¬ (toI v18) = (iN (-1)) →
     G l E d m_Life_behindStep 311 [(0, (.ref r, 37)), (3, (.int x3, 0)), (7, (.int (iN 1), 0))] [] M18 K)))) ∧
  (¬ (iN (M r3 1 (x3).toNatClampNeg)) = iN 3 →
   (((iN (M r3 1 (x3).toNatClampNeg)) = iN 4 →
   CT l E (d - 1) m_Life_lendAny [(.ref r, 37), (.ref r2, 11)] M (fun v17 M17 =>
    G l E d m_Life_behindStep 311 [(0, (.ref r, 37)), (3, (.int x3, 0)), (7, (.int (toI v17), 0))] [] M17 K)) ∧
  (¬ (iN (M r3 1 (x3).toNatClampNeg)) = iN 4 →
   (((iN (M r3 1 (x3).toNatClampNeg)) = iN 5 →
   CT l E (d - 1) m_Life_lendAny [(.ref r, 37), (.ref r2, 11)] M (fun v16 M16 =>
    G l E d m_Life_behindStep 311 [(0, (.ref r, 37)), (3, (.int x3, 0)), (7, (.int (toI v16), 0))] [] M16 K)) ∧
  (¬ (iN (M r3 1 (x3).toNatClampNeg)) = iN 5 →
   (((iN (M r3 1 (x3).toNatClampNeg)) = iN 6 →
   CT l E (d - 1) m_Life_lendAny [(.ref r, 37), (.ref r2, 11)] M (fun v15 M15 =>
    G l E d m_Life_behindStep 311 [(0, (.ref r, 37)), (3, (.int x3, 0)), (7, (.int (toI v15), 0))] [] M15 K)) ∧
  (¬ (iN (M r3 1 (x3).toNatClampNeg)) = iN 6 →
   (((iN (M r3 1 (x3).toNatClampNeg)) = iN 7 →
   CT l E (d - 1) m_Life_lendAny [(.ref r, 37), (.ref r2, 11)] M (fun v14 M14 =>
    G l E d m_Life_behindStep 311 [(0, (.ref r, 37)), (3, (.int x3, 0)), (7, (.int (toI v14), 0))] [] M14 K)) ∧
  (¬ (iN (M r3 1 (x3).toNatClampNeg)) = iN 7 →
   (((iN (M r3 1 (x3).toNatClampNeg)) = iN 8 →
   CT l E (d - 1) m_Life_lendAny [(.ref r, 37), (.ref r2, 11)] M (fun v13 M13 =>
    G l E d m_Life_behindStep 311 [(0, (.ref r, 37)), (3, (.int x3, 0)), (7, (.int (toI v13), 0))] [] M13 K)) ∧
  (¬ (iN (M r3 1 (x3).toNatClampNeg)) = iN 8 →
   (((iN (M r3 1 (x3).toNatClampNeg)) = iN 9 →
   CT l E (d - 1) m_Choir_lendCoins [(.ref r2, 11), (.int (iN (M r3 2 (x3).toNatClampNeg)), 0), (.int (iN (M r3 3 (x3).toNatClampNeg)), 0), (.int (iN (M r3 4 (x3).toNatClampNeg)), 0)] M (fun v12 M12 =>
    (((toI v12) = 0 →
     G l E d m_Life_behindStep 311 [(0, (.ref r, 37)), (3, (.int x3, 0)), (7, (.int (toI v12), 0))] [] (upd3 M12 r 0 4 (((iN (M12 r 0 4)) + (iN 0))).toInt) K) ∧
    (¬ (toI v12) = 0 →
     G l E d m_Life_behindStep 311 [(0, (.ref r, 37)), (3, (.int x3, 0)), (7, (.int (toI v12), 0))] [] (upd3 M12 r 0 4 (((iN (M12 r 0 4)) + (iN (M r3 4 (x3).toNatClampNeg)))).toInt) K)))) ∧
  (¬ (iN (M r3 1 (x3).toNatClampNeg)) = iN 9 →
   (((iN (M r3 1 (x3).toNatClampNeg)) = iN 10 →
   CT l E (d - 1) m_Life_lendAny [(.ref r, 37), (.ref r2, 11)] M (fun v11 M11 =>
    G l E d m_Life_behindStep 311 [(0, (.ref r, 37)), (3, (.int x3, 0)), (7, (.int (toI v11), 0))] [] M11 K)) ∧
  (¬ (iN (M r3 1 (x3).toNatClampNeg)) = iN 10 →
   (((iN (M r3 1 (x3).toNatClampNeg)) = iN 11 →
   CT l E (d - 1) m_Choir_payCoins [(.ref r2, 11), (.int (iN (M r3 2 (x3).toNatClampNeg)), 0), (.int (iN (M r3 3 (x3).toNatClampNeg)), 0), (.int (iN (M r3 4 (x3).toNatClampNeg)), 0)] M (fun v10 M10 =>
    G l E d m_Life_behindStep 311 [(0, (.ref r, 37)), (3, (.int x3, 0)), (7, (.int (toI v10), 0))] [] M10 K)) ∧
  (¬ (iN (M r3 1 (x3).toNatClampNeg)) = iN 11 →
   (((iN (M r3 1 (x3).toNatClampNeg)) = iN 12 →
   CT l E (d - 1) m_Choir_keepSunday [(.ref r2, 11)] M (fun v9 M9 =>
    (((toI v9) = 0 →
     G l E d m_Life_behindStep 311 [(0, (.ref r, 37)), (3, (.int x3, 0)), (7, (.int (toI v9), 0))] [] (upd3 M9 r 0 6 (((iN (M9 r 0 6)) + (iN 0))).toInt) K) ∧
    (¬ (toI v9) = 0 →
     G l E d m_Life_behindStep 311 [(0, (.ref r, 37)), (3, (.int x3, 0)), (7, (.int (toI v9), 0))] [] (upd3 M9 r 0 6 (((iN (M9 r 0 6)) + (iN 1))).toInt) K)))) ∧
  (¬ (iN (M r3 1 (x3).toNatClampNeg)) = iN 12 →
   (((iN (M r3 1 (x3).toNatClampNeg)) = iN 13 →
   CT l E (d - 1) m_Choir_bury [(.ref r2, 11), (.int (iN (M r3 2 (x3).toNatClampNeg)), 0)] M (fun v8 M8 =>
    G l E d m_Life_behindStep 311 [(0, (.ref r, 37)), (3, (.int x3, 0)), (7, (.int (toI v8), 0))] [] M8 K)) ∧
  (¬ (iN (M r3 1 (x3).toNatClampNeg)) = iN 13 →
   (((iN (M r3 1 (x3).toNatClampNeg)) = iN 14 →
   CT l E (d - 1) m_Choir_netTwo [(.ref r2, 11), (.int (iN (M r3 2 (x3).toNatClampNeg)), 0), (.int (iN (M r3 3 (x3).toNatClampNeg)), 0)] M (fun v7 M7 =>
    (((toI v7) ≤ 0 →
     G l E d m_Life_behindStep 311 [(0, (.ref r, 37)), (3, (.int x3, 0)), (7, (.int (iN 0), 0))] [] M7 K) ∧
    (¬ (toI v7) ≤ 0 →
     G l E d m_Life_behindStep 311 [(0, (.ref r, 37)), (3, (.int x3, 0)), (7, (.int (iN 1), 0))] [] M7 K)))) ∧
  (¬ (iN (M r3 1 (x3).toNatClampNeg)) = iN 14 →
   (((iN (M r3 1 (x3).toNatClampNeg)) = iN 15 →
   CT l E (d - 1) m_Life_lendAny [(.ref r, 37), (.ref r2, 11)] M (fun v6 M6 =>
    G l E d m_Life_behindStep 311 [(0, (.ref r, 37)), (3, (.int x3, 0)), (7, (.int (toI v6), 0))] [] M6 K)) ∧
  (¬ (iN (M r3 1 (x3).toNatClampNeg)) = iN 15 →
   (((iN (M r3 1 (x3).toNatClampNeg)) = iN 16 →
   CT l E (d - 1) m_Life_lendAny [(.ref r, 37), (.ref r2, 11)] M (fun v5 M5 =>
    G l E d m_Life_behindStep 311 [(0, (.ref r, 37)), (3, (.int x3, 0)), (7, (.int (toI v5), 0))] [] M5 K)) ∧
  (¬ (iN (M r3 1 (x3).toNatClampNeg)) = iN 16 →
   (((iN (M r3 1 (x3).toNatClampNeg)) = iN 17 →
   CT l E (d - 1) m_Life_holds [(.ref r2, 11), (.ref r3, 23), (.int x3, 0)] M (fun v4 M4 =>
    (((toI v4) = 0 →
     (vp_in x3 60 ∧ K (.int ((iN (M4 r3 6 (x3).toNatClampNeg)) + (iN 1)), 0) M4)) ∧
    (¬ (toI v4) = 0 →
     K (.int (x3 + (iN 1)), 0) M4)))) ∧
  (¬ (iN (M r3 1 (x3).toNatClampNeg)) = iN 17 →
   (((iN (M r3 1 (x3).toNatClampNeg)) = iN 18 →
   CT l E (d - 1) m_Life_holds [(.ref r2, 11), (.ref r3, 23), (.int x3, 0)] M (fun v3 M3 =>
    (((toI v3) = 0 →
     (vp_in x3 60 ∧ K (.int ((iN (M3 r3 6 (x3).toNatClampNeg)) + (iN 1)), 0) M3)) ∧
    (¬ (toI v3) = 0 →
     K (.int (x3 + (iN 1)), 0) M3)))) ∧
  (¬ (iN (M r3 1 (x3).toNatClampNeg)) = iN 18 →
   (((iN (M r3 1 (x3).toNatClampNeg)) = iN 19 →
   (vp_in x3 60 ∧ G l E d m_Life_behindStep 311 [(0, (.ref r, 37)), (3, (.int x3, 0)), (7, (.int (iN 1), 0))] [] (upd3 M r 1 (x3).toNatClampNeg (((iN (M r3 4 (x3).toNatClampNeg)) - (iN 1))).toInt) K)) ∧
  (¬ (iN (M r3 1 (x3).toNatClampNeg)) = iN 19 →
   (((iN (M r3 1 (x3).toNatClampNeg)) = iN 20 →
   CT l E (d - 1) m_Life_lendAny [(.ref r, 37), (.ref r2, 11)] M (fun v2 M2 =>
    G l E d m_Life_behindStep 311 [(0, (.ref r, 37)), (3, (.int x3, 0)), (7, (.int (toI v2), 0))] [] M2 K)) ∧
  (¬ (iN (M r3 1 (x3).toNatClampNeg)) = iN 20 →
   (((iN (M r3 1 (x3).toNatClampNeg)) = iN 21 →
   K (.int (iN (M r3 0 6)), 0) M) ∧
  (¬ (iN (M r3 1 (x3).toNatClampNeg)) = iN 21 →
   CT l E (d - 1) m_Life_lendAny [(.ref r, 37), (.ref r2, 11)] M (fun v1 M1 =>
    G l E d m_Life_behindStep 311 [(0, (.ref r, 37)), (3, (.int x3, 0)), (7, (.int (toI v1), 0))] [] M1 K))))))))))))))))))))))))))))))))))))))))))))) :
  G l E d m_Life_behindStep 0 [(0, (.ref r, 37)), (1, (.ref r2, 11)), (2, (.ref r3, 23)), (3, (.int x3, 0))] [] M K := G.blk 60 _ hd ok_Life_behindStep rfl h
set_option maxRecDepth 100000 in
theorem b_Life_behindStep_311 {l : Launch} {E : EnvT} {d : Nat} {K : AV → Mem → Prop} {M : Mem} {r : Nat} {x3 : Int32} {x7 : Int32} (hd : 1 ≤ d)
  (h : ((x7 = 0 →
   K (.int (x3 + (iN 1)), 0) (upd3 M r 0 3 (((iN (M r 0 3)) + (iN 1))).toInt)) ∧
  (¬ x7 = 0 →
   K (.int (x3 + (iN 1)), 0) (upd3 M r 0 3 (((iN (M r 0 3)) + (iN 0))).toInt)))) :
  G l E d m_Life_behindStep 311 [(0, (.ref r, 37)), (3, (.int x3, 0)), (7, (.int x7, 0))] [] M K := G.blk 60 _ hd ok_Life_behindStep rfl h
def bt_Life_run : BtT := [(0, [0, 1, 2, 3], true, [(0, .aload_n 0, 1, 0, 0, 0, m0),
   (1, .iconst 1, 1, 0, 0, 0, m0),
   (2, .putfield 17, 3, 1, 2, 436, m0),
   (5, .aload_n 0, 1, 0, 0, 0, m0),
   (6, .iconst 0, 1, 0, 0, 0, m0),
   (7, .putfield 21, 3, 2, 2, 438, m0),
   (10, .aload_n 0, 1, 0, 0, 0, m0),
   (11, .iconst 0, 1, 0, 0, 0, m0),
   (12, .putfield 25, 3, 3, 2, 440, m0),
   (15, .aload_n 0, 1, 0, 0, 0, m0),
   (16, .iconst 0, 1, 0, 0, 0, m0),
   (17, .putfield 28, 3, 4, 2, 442, m0),
   (20, .aload_n 0, 1, 0, 0, 0, m0),
   (21, .iconst 0, 1, 0, 0, 0, m0),
   (22, .putfield 34, 3, 6, 2, 446, m0),
   (25, .aload_n 0, 1, 0, 0, 0, m0),
   (26, .iconst 0, 1, 0, 0, 0, m0),
   (27, .putfield 37, 3, 7, 2, 448, m0),
   (30, .aload_n 0, 1, 0, 0, 0, m0),
   (31, .iload_n 3, 1, 0, 0, 0, m0),
   (32, .putfield 40, 3, 8, 2, 450, m0),
   (35, .aload_n 2, 1, 0, 0, 0, m0),
   (36, .getfield 43, 3, 15, 0, 302, m0),
   (39, .istore 4, 2, 0, 0, 0, m0),
   (41, .iconst 0, 1, 0, 0, 0, m0),
   (42, .istore 5, 2, 0, 0, 0, m0),
   (44, .iconst 0, 1, 0, 0, 0, m0),
   (45, .istore 6, 2, 0, 0, 0, m0),
   (47, .nop, 0, 0, 0, 0, m0)]),
  (47, [0, 1, 2, 4, 5, 6], true, [(47, .iload 6, 2, 0, 0, 0, m0),
   (49, .ldc 46, 2, 1, 1000000, 1359, m0),
   (51, .if_icmp .ge 87, 3, 138, 0, 0, m0),
   (54, .nop, 0, 0, 0, 0, m0)]),
  (54, [], false, [(54, .iload 5, 2, 0, 0, 0, m0),
   (56, .aload_n 1, 1, 0, 0, 0, m0),
   (57, .getfield 47, 3, 6, 8, 360, m0),
   (60, .if_icmp .ge 78, 3, 138, 0, 0, m0),
   (63, .nop, 0, 0, 0, 0, m0)]),
  (63, [], false, [(63, .aload_n 0, 1, 0, 0, 0, m0),
   (64, .getfield 37, 3, 7, 2, 448, m0),
   (67, .ifCond .ne 71, 3, 138, 0, 0, m0),
   (70, .nop, 0, 0, 0, 0, m0)]),
  (70, [], false, [(70, .aload_n 1, 1, 0, 0, 0, m0),
   (71, .getfield 50, 3, 0, 8, 343, m0),
   (74, .iload 5, 2, 0, 0, 0, m0),
   (76, .iaload, 1, 0, 0, 0, m0),
   (77, .bipush 20, 2, 0, 0, 0, m0),
   (79, .if_icmp .ne 15, 3, 94, 0, 0, m0),
   (82, .nop, 0, 0, 0, 0, m0)]),
  (82, [], false, [(82, .aload_n 0, 1, 0, 0, 0, m0),
   (83, .aload_n 1, 1, 0, 0, 0, m0),
   (84, .iload 5, 2, 0, 0, 0, m0),
   (86, .invokevirtual 55, 3, 0, 0, 1360, m_Life_behindEnd),
   (89, .istore 5, 2, 0, 0, 0, m0),
   (91, .goto 41, 3, 132, 0, 0, m0)]),
  (94, [], false, [(94, .aload_n 0, 1, 0, 0, 0, m0),
   (95, .getfield 21, 3, 2, 2, 438, m0),
   (98, .sipush 300, 3, 0, 0, 0, m0),
   (101, .if_icmp .lt 11, 3, 112, 0, 0, m0),
   (104, .nop, 0, 0, 0, 0, m0)]),
  (104, [], false, [(104, .aload_n 0, 1, 0, 0, 0, m0),
   (105, .iconst 1, 1, 0, 0, 0, m0),
   (106, .putfield 37, 3, 7, 2, 448, m0),
   (109, .goto 23, 3, 132, 0, 0, m0)]),
  (112, [], false, [(112, .aload_n 0, 1, 0, 0, 0, m0),
   (113, .dup, 1, 0, 0, 0, m0),
   (114, .getfield 21, 3, 2, 2, 438, m0),
   (117, .iconst 1, 1, 0, 0, 0, m0),
   (118, .iadd, 1, 0, 0, 0, m0),
   (119, .putfield 21, 3, 2, 2, 438, m0),
   (122, .aload_n 0, 1, 0, 0, 0, m0),
   (123, .aload_n 2, 1, 0, 0, 0, m0),
   (124, .aload_n 1, 1, 0, 0, 0, m0),
   (125, .iload 5, 2, 0, 0, 0, m0),
   (127, .invokevirtual 59, 3, 0, 0, 1364, m_Life_behindStep),
   (130, .istore 5, 2, 0, 0, 0, m0),
   (132, .nop, 0, 0, 0, 0, m0)]),
  (132, [], false, [(132, .iinc 6 1, 3, 0, 0, 0, m0),
   (135, .goto (-88), 3, 47, 0, 0, m0)]),
  (138, [], false, [(138, .aload_n 0, 1, 0, 0, 0, m0),
   (139, .aload_n 2, 1, 0, 0, 0, m0),
   (140, .getfield 43, 3, 15, 0, 302, m0),
   (143, .iload 4, 2, 0, 0, 0, m0),
   (145, .isub, 1, 0, 0, 0, m0),
   (146, .putfield 31, 3, 5, 2, 444, m0),
   (149, .return_, 1, 0, 0, 0, m0)])]
theorem ok_Life_run : okBt m_Life_run bt_Life_run = true := by decide +kernel
set_option maxRecDepth 100000 in
theorem b_Life_run_0 {l : Launch} {E : EnvT} {d : Nat} {K : AV → Mem → Prop} {M : Mem} {r r2 r3 : Nat} {x3 : Int32} (hd : 1 ≤ d)
  (h : (((iN 1) = 0 ∨ (iN 1) = 1) ∧ G l E d m_Life_run 47 [(0, (.ref r, 37)), (1, (.ref r2, 23)), (2, (.ref r3, 11)), (4, (.int (iN ((upd3 (upd3 (upd3 (upd3 (upd3 (upd3 (upd3 M r 0 1 ((iN 1)).toInt) r 0 2 ((iN 0)).toInt) r 0 3 ((iN 0)).toInt) r 0 4 ((iN 0)).toInt) r 0 6 ((iN 0)).toInt) r 0 7 ((iN 0)).toInt) r 0 8 (x3).toInt) r3 0 15)), 0)), (5, (.int (iN 0), 0)), (6, (.int (iN 0), 0))] [] (upd3 (upd3 (upd3 (upd3 (upd3 (upd3 (upd3 M r 0 1 ((iN 1)).toInt) r 0 2 ((iN 0)).toInt) r 0 3 ((iN 0)).toInt) r 0 4 ((iN 0)).toInt) r 0 6 ((iN 0)).toInt) r 0 7 ((iN 0)).toInt) r 0 8 (x3).toInt) K)) :
  G l E d m_Life_run 0 [(0, (.ref r, 37)), (1, (.ref r2, 23)), (2, (.ref r3, 11)), (3, (.int x3, 0))] [] M K := G.blk 60 _ hd ok_Life_run rfl h
set_option maxRecDepth 100000 in
theorem b_Life_run_47 {l : Launch} {E : EnvT} {d : Nat} {K : AV → Mem → Prop} {M : Mem} {r r2 r3 : Nat} {x4 : Int32} {x5 : Int32} {x6 : Int32} (hd : 1 ≤ d)
  (h : (((iN 1000000) ≤ x6 →
   K (.null, 0) (upd3 M r 0 5 (((iN (M r3 0 15)) - x4)).toInt)) ∧
  (¬ (iN 1000000) ≤ x6 →
   (((iN (M r2 0 6)) ≤ x5 →
    K (.null, 0) (upd3 M r 0 5 (((iN (M r3 0 15)) - x4)).toInt)) ∧
   (¬ (iN (M r2 0 6)) ≤ x5 →
    ((¬ (iN (M r 0 7)) = 0 →
     K (.null, 0) (upd3 M r 0 5 (((iN (M r3 0 15)) - x4)).toInt)) ∧
    ((iN (M r 0 7)) = 0 →
     (vp_in x5 60 ∧ ((¬ (iN (M r2 1 (x5).toNatClampNeg)) = (iN 20) →
      (((iN (M r 0 2)) < (iN 300) →
       CT l E (d - 1) m_Life_behindStep [(.ref r, 37), (.ref r3, 11), (.ref r2, 23), (.int x5, 0)] (upd3 M r 0 2 (((iN (M r 0 2)) + (iN 1))).toInt) (fun v1 M1 =>
        G l E d m_Life_run 47 [(0, (.ref r, 37)), (1, (.ref r2, 23)), (2, (.ref r3, 11)), (4, (.int x4, 0)), (5, (.int (toI v1), 0)), (6, (.int (x6 + iN 1), 0))] [] M1 K)) ∧
      (¬ (iN (M r 0 2)) < (iN 300) →
       G l E d m_Life_run 47 [(0, (.ref r, 37)), (1, (.ref r2, 23)), (2, (.ref r3, 11)), (4, (.int x4, 0)), (5, (.int x5, 0)), (6, (.int (x6 + iN 1), 0))] [] (upd3 M r 0 7 ((iN 1)).toInt) K))) ∧
     ((iN (M r2 1 (x5).toNatClampNeg)) = (iN 20) →
      CT l E (d - 1) m_Life_behindEnd [(.ref r, 37), (.ref r2, 23), (.int x5, 0)] M (fun v2 M2 =>
       G l E d m_Life_run 47 [(0, (.ref r, 37)), (1, (.ref r2, 23)), (2, (.ref r3, 11)), (4, (.int x4, 0)), (5, (.int (toI v2), 0)), (6, (.int (x6 + iN 1), 0))] [] M2 K))))))))))) :
  G l E d m_Life_run 47 [(0, (.ref r, 37)), (1, (.ref r2, 23)), (2, (.ref r3, 11)), (4, (.int x4, 0)), (5, (.int x5, 0)), (6, (.int x6, 0))] [] M K := G.blk 60 _ hd ok_Life_run rfl h
