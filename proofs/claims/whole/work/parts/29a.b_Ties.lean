def bt_Ties_look : BtT := [(0, [0, 1], true, [(0, .aload_n 0, 1, 0, 0, 0, m0),
   (1, .aload_n 1, 1, 0, 0, 0, m0),
   (2, .getfield 37, 3, 8, 0, 281, m0),
   (5, .putfield 30, 3, 6, 4, 410, m0),
   (8, .aload_n 0, 1, 0, 0, 0, m0),
   (9, .iconst 1, 1, 0, 0, 0, m0),
   (10, .aload_n 0, 1, 0, 0, 0, m0),
   (11, .getfield 30, 3, 6, 4, 410, m0),
   (14, .ishl, 1, 0, 0, 0, m0),
   (15, .iconst 1, 1, 0, 0, 0, m0),
   (16, .isub, 1, 0, 0, 0, m0),
   (17, .aload_n 1, 1, 0, 0, 0, m0),
   (18, .getfield 38, 3, 12, 0, 294, m0),
   (21, .iconst (-1), 1, 0, 0, 0, m0),
   (22, .ixor, 1, 0, 0, 0, m0),
   (23, .iand, 1, 0, 0, 0, m0),
   (24, .putfield 34, 3, 7, 4, 411, m0),
   (27, .iconst 0, 1, 0, 0, 0, m0),
   (28, .istore_n 2, 1, 0, 0, 0, m0),
   (29, .nop, 0, 0, 0, 0, m0)]),
  (29, [0, 1, 2], true, [(29, .iload_n 2, 1, 0, 0, 0, m0),
   (30, .aload_n 0, 1, 0, 0, 0, m0),
   (31, .getfield 30, 3, 6, 4, 410, m0),
   (34, .if_icmp .ge 102, 3, 136, 0, 0, m0),
   (37, .nop, 0, 0, 0, 0, m0)]),
  (37, [], false, [(37, .aload_n 0, 1, 0, 0, 0, m0),
   (38, .getfield 9, 3, 0, 4, 403, m0),
   (41, .iload_n 2, 1, 0, 0, 0, m0),
   (42, .aload_n 1, 1, 0, 0, 0, m0),
   (43, .iload_n 2, 1, 0, 0, 0, m0),
   (44, .invokevirtual 41, 3, 0, 0, 1153, m_Choir_balanceOf),
   (47, .iastore, 1, 0, 0, 0, m0),
   (48, .aload_n 0, 1, 0, 0, 0, m0),
   (49, .getfield 15, 3, 1, 4, 404, m0),
   (52, .iload_n 2, 1, 0, 0, 0, m0),
   (53, .iconst 0, 1, 0, 0, 0, m0),
   (54, .iastore, 1, 0, 0, 0, m0),
   (55, .aload_n 0, 1, 0, 0, 0, m0),
   (56, .getfield 18, 3, 2, 4, 405, m0),
   (59, .iload_n 2, 1, 0, 0, 0, m0),
   (60, .iconst 0, 1, 0, 0, 0, m0),
   (61, .iastore, 1, 0, 0, 0, m0),
   (62, .iconst 0, 1, 0, 0, 0, m0),
   (63, .istore_n 3, 1, 0, 0, 0, m0),
   (64, .nop, 0, 0, 0, 0, m0)]),
  (64, [0, 1, 2, 3], true, [(64, .iload_n 3, 1, 0, 0, 0, m0),
   (65, .aload_n 0, 1, 0, 0, 0, m0),
   (66, .getfield 30, 3, 6, 4, 410, m0),
   (69, .if_icmp .ge 61, 3, 130, 0, 0, m0),
   (72, .nop, 0, 0, 0, 0, m0)]),
  (72, [], false, [(72, .iload_n 2, 1, 0, 0, 0, m0),
   (73, .iload_n 3, 1, 0, 0, 0, m0),
   (74, .if_icmp .eq 24, 3, 98, 0, 0, m0),
   (77, .nop, 0, 0, 0, 0, m0)]),
  (77, [], false, [(77, .aload_n 1, 1, 0, 0, 0, m0),
   (78, .iload_n 2, 1, 0, 0, 0, m0),
   (79, .iload_n 3, 1, 0, 0, 0, m0),
   (80, .invokevirtual 45, 3, 0, 0, 1154, m_Choir_debtAtNote),
   (83, .ifCond .le 15, 3, 98, 0, 0, m0),
   (86, .nop, 0, 0, 0, 0, m0)]),
  (86, [], false, [(86, .aload_n 0, 1, 0, 0, 0, m0),
   (87, .getfield 15, 3, 1, 4, 404, m0),
   (90, .iload_n 2, 1, 0, 0, 0, m0),
   (91, .dup2, 1, 0, 0, 0, m0),
   (92, .iaload, 1, 0, 0, 0, m0),
   (93, .iconst 1, 1, 0, 0, 0, m0),
   (94, .iload_n 3, 1, 0, 0, 0, m0),
   (95, .ishl, 1, 0, 0, 0, m0),
   (96, .ior, 1, 0, 0, 0, m0),
   (97, .iastore, 1, 0, 0, 0, m0),
   (98, .nop, 0, 0, 0, 0, m0)]),
  (98, [], false, [(98, .iload_n 2, 1, 0, 0, 0, m0),
   (99, .iload_n 3, 1, 0, 0, 0, m0),
   (100, .if_icmp .eq 24, 3, 124, 0, 0, m0),
   (103, .nop, 0, 0, 0, 0, m0)]),
  (103, [], false, [(103, .aload_n 1, 1, 0, 0, 0, m0),
   (104, .iload_n 2, 1, 0, 0, 0, m0),
   (105, .iload_n 3, 1, 0, 0, 0, m0),
   (106, .invokevirtual 49, 3, 0, 0, 1155, m_Choir_owedBetween),
   (109, .ifCond .le 15, 3, 124, 0, 0, m0),
   (112, .nop, 0, 0, 0, 0, m0)]),
  (112, [], false, [(112, .aload_n 0, 1, 0, 0, 0, m0),
   (113, .getfield 18, 3, 2, 4, 405, m0),
   (116, .iload_n 2, 1, 0, 0, 0, m0),
   (117, .dup2, 1, 0, 0, 0, m0),
   (118, .iaload, 1, 0, 0, 0, m0),
   (119, .iconst 1, 1, 0, 0, 0, m0),
   (120, .iload_n 3, 1, 0, 0, 0, m0),
   (121, .ishl, 1, 0, 0, 0, m0),
   (122, .ior, 1, 0, 0, 0, m0),
   (123, .iastore, 1, 0, 0, 0, m0),
   (124, .nop, 0, 0, 0, 0, m0)]),
  (124, [], false, [(124, .iinc 3 1, 3, 0, 0, 0, m0),
   (127, .goto (-63), 3, 64, 0, 0, m0)]),
  (130, [], false, [(130, .iinc 2 1, 3, 0, 0, 0, m0),
   (133, .goto (-104), 3, 29, 0, 0, m0)]),
  (136, [], false, [(136, .return_, 1, 0, 0, 0, m0)])]
theorem ok_Ties_look : okBt m_Ties_look bt_Ties_look = true := by decide +kernel
set_option maxRecDepth 100000 in
theorem b_Ties_look_0 {l : Launch} {E : EnvT} {d : Nat} {K : AV → Mem → Prop} {M : Mem} {r2 : Nat}  (hd : 1 ≤ d)
  (h : G l E d m_Ties_look 29 [(0, (.ref 12, 30)), (1, (.ref r2, 11)), (2, (.int (iN 0), 0))] [] (upd3 (upd3 M 12 0 6 ((iN (M r2 0 8))).toInt) 12 0 7 (((((iN 1) <<< ((iN ((upd3 M 12 0 6 ((iN (M r2 0 8))).toInt) 12 0 6)) &&& 31)) - (iN 1)) &&& ((iN ((upd3 M 12 0 6 ((iN (M r2 0 8))).toInt) r2 0 12)) ^^^ (iN (-1))))).toInt) K) :
  G l E d m_Ties_look 0 [(0, (.ref 12, 30)), (1, (.ref r2, 11))] [] M K := G.blk 60 _ hd ok_Ties_look rfl h
set_option maxRecDepth 100000 in
theorem b_Ties_look_29 {l : Launch} {E : EnvT} {d : Nat} {K : AV → Mem → Prop} {M : Mem} {r2 : Nat} {x2 : Int32} (hd : 1 ≤ d)
  (h : (((iN (M 12 0 6)) ≤ x2 →
   K (.null, 0) M) ∧
  (¬ (iN (M 12 0 6)) ≤ x2 →
   CT l E (d - 1) m_Choir_balanceOf [(.ref r2, 11), (.int x2, 0)] M (fun v1 M1 =>
    (vp_in x2 8 ∧ vp_in x2 8 ∧ vp_in x2 8 ∧ G l E d m_Ties_look 64 [(0, (.ref 12, 30)), (1, (.ref r2, 11)), (2, (.int x2, 0)), (3, (.int (iN 0), 0))] [] (upd3 (upd3 (upd3 M1 12 1 (x2).toNatClampNeg ((toI v1)).toInt) 12 2 (x2).toNatClampNeg ((iN 0)).toInt) 12 3 (x2).toNatClampNeg ((iN 0)).toInt) K))))) :
  G l E d m_Ties_look 29 [(0, (.ref 12, 30)), (1, (.ref r2, 11)), (2, (.int x2, 0))] [] M K := G.blk 60 _ hd ok_Ties_look rfl h
set_option maxRecDepth 100000 in
theorem b_Ties_look_64 {l : Launch} {E : EnvT} {d : Nat} {K : AV → Mem → Prop} {M : Mem} {r2 : Nat} {x2 : Int32} {x3 : Int32} (hd : 1 ≤ d)
  (h : (((iN (M 12 0 6)) ≤ x3 →
   G l E d m_Ties_look 29 [(0, (.ref 12, 30)), (1, (.ref r2, 11)), (2, (.int (x2 + iN 1), 0))] [] M K) ∧
  (¬ (iN (M 12 0 6)) ≤ x3 →
   ((x2 = x3 →
    ((x2 = x3 →
     G l E d m_Ties_look 64 [(0, (.ref 12, 30)), (1, (.ref r2, 11)), (2, (.int x2, 0)), (3, (.int (x3 + iN 1), 0))] [] M K) ∧
    (¬ x2 = x3 →
     CT l E (d - 1) m_Choir_owedBetween [(.ref r2, 11), (.int x2, 0), (.int x3, 0)] M (fun v1 M1 =>
      (((toI v1) ≤ 0 →
       G l E d m_Ties_look 64 [(0, (.ref 12, 30)), (1, (.ref r2, 11)), (2, (.int x2, 0)), (3, (.int (x3 + iN 1), 0))] [] M1 K) ∧
      (¬ (toI v1) ≤ 0 →
       (vp_in x2 8 ∧ vp_in x2 8 ∧ G l E d m_Ties_look 64 [(0, (.ref 12, 30)), (1, (.ref r2, 11)), (2, (.int x2, 0)), (3, (.int (x3 + iN 1), 0))] [] (upd3 M1 12 3 (x2).toNatClampNeg (((iN (M1 12 3 (x2).toNatClampNeg)) ||| ((iN 1) <<< (x3 &&& 31)))).toInt) K))))))) ∧
   (¬ x2 = x3 →
    CT l E (d - 1) m_Choir_debtAtNote [(.ref r2, 11), (.int x2, 0), (.int x3, 0)] M (fun v2 M2 =>
     (((toI v2) ≤ 0 →
      ((x2 = x3 →
       G l E d m_Ties_look 64 [(0, (.ref 12, 30)), (1, (.ref r2, 11)), (2, (.int x2, 0)), (3, (.int (x3 + iN 1), 0))] [] M2 K) ∧
      (¬ x2 = x3 →
       CT l E (d - 1) m_Choir_owedBetween [(.ref r2, 11), (.int x2, 0), (.int x3, 0)] M2 (fun v3 M3 =>
        (((toI v3) ≤ 0 →
         G l E d m_Ties_look 64 [(0, (.ref 12, 30)), (1, (.ref r2, 11)), (2, (.int x2, 0)), (3, (.int (x3 + iN 1), 0))] [] M3 K) ∧
        (¬ (toI v3) ≤ 0 →
         (vp_in x2 8 ∧ vp_in x2 8 ∧ G l E d m_Ties_look 64 [(0, (.ref 12, 30)), (1, (.ref r2, 11)), (2, (.int x2, 0)), (3, (.int (x3 + iN 1), 0))] [] (upd3 M3 12 3 (x2).toNatClampNeg (((iN (M3 12 3 (x2).toNatClampNeg)) ||| ((iN 1) <<< (x3 &&& 31)))).toInt) K))))))) ∧
     (¬ (toI v2) ≤ 0 →
      (vp_in x2 8 ∧ vp_in x2 8 ∧ ((x2 = x3 →
       G l E d m_Ties_look 64 [(0, (.ref 12, 30)), (1, (.ref r2, 11)), (2, (.int x2, 0)), (3, (.int (x3 + iN 1), 0))] [] (upd3 M2 12 2 (x2).toNatClampNeg (((iN (M2 12 2 (x2).toNatClampNeg)) ||| ((iN 1) <<< (x3 &&& 31)))).toInt) K) ∧
      (¬ x2 = x3 →
       CT l E (d - 1) m_Choir_owedBetween [(.ref r2, 11), (.int x2, 0), (.int x3, 0)] (upd3 M2 12 2 (x2).toNatClampNeg (((iN (M2 12 2 (x2).toNatClampNeg)) ||| ((iN 1) <<< (x3 &&& 31)))).toInt) (fun v4 M4 =>
        (((toI v4) ≤ 0 →
         G l E d m_Ties_look 64 [(0, (.ref 12, 30)), (1, (.ref r2, 11)), (2, (.int x2, 0)), (3, (.int (x3 + iN 1), 0))] [] M4 K) ∧
        (¬ (toI v4) ≤ 0 →
         (vp_in x2 8 ∧ vp_in x2 8 ∧ G l E d m_Ties_look 64 [(0, (.ref 12, 30)), (1, (.ref r2, 11)), (2, (.int x2, 0)), (3, (.int (x3 + iN 1), 0))] [] (upd3 M4 12 3 (x2).toNatClampNeg (((iN (M4 12 3 (x2).toNatClampNeg)) ||| ((iN 1) <<< (x3 &&& 31)))).toInt) K))))))))))))))) :
  G l E d m_Ties_look 64 [(0, (.ref 12, 30)), (1, (.ref r2, 11)), (2, (.int x2, 0)), (3, (.int x3, 0))] [] M K := G.blk 60 _ hd ok_Ties_look rfl h
def bt_Ties_uneven : BtT := [(0, [0], true, [(0, .iconst 0, 1, 0, 0, 0, m0),
   (1, .istore_n 1, 1, 0, 0, 0, m0),
   (2, .iconst 0, 1, 0, 0, 0, m0),
   (3, .istore_n 2, 1, 0, 0, 0, m0),
   (4, .nop, 0, 0, 0, 0, m0)]),
  (4, [0, 1, 2], true, [(4, .iload_n 2, 1, 0, 0, 0, m0),
   (5, .aload_n 0, 1, 0, 0, 0, m0),
   (6, .getfield 30, 3, 6, 4, 410, m0),
   (9, .if_icmp .ge 24, 3, 33, 0, 0, m0),
   (12, .nop, 0, 0, 0, 0, m0)]),
  (12, [], false, [(12, .aload_n 0, 1, 0, 0, 0, m0),
   (13, .getfield 9, 3, 0, 4, 403, m0),
   (16, .iload_n 2, 1, 0, 0, 0, m0),
   (17, .iaload, 1, 0, 0, 0, m0),
   (18, .ifCond .eq 9, 3, 27, 0, 0, m0),
   (21, .nop, 0, 0, 0, 0, m0)]),
  (21, [], false, [(21, .iload_n 1, 1, 0, 0, 0, m0),
   (22, .iconst 1, 1, 0, 0, 0, m0),
   (23, .iload_n 2, 1, 0, 0, 0, m0),
   (24, .ishl, 1, 0, 0, 0, m0),
   (25, .ior, 1, 0, 0, 0, m0),
   (26, .istore_n 1, 1, 0, 0, 0, m0),
   (27, .nop, 0, 0, 0, 0, m0)]),
  (27, [], false, [(27, .iinc 2 1, 3, 0, 0, 0, m0),
   (30, .goto (-26), 3, 4, 0, 0, m0)]),
  (33, [], false, [(33, .iload_n 1, 1, 0, 0, 0, m0),
   (34, .ireturn, 1, 0, 0, 0, m0)])]
theorem ok_Ties_uneven : okBt m_Ties_uneven bt_Ties_uneven = true := by decide +kernel
set_option maxRecDepth 100000 in
theorem b_Ties_uneven_0 {l : Launch} {E : EnvT} {d : Nat} {K : AV → Mem → Prop} {M : Mem}  (hd : 1 ≤ d)
  (h : G l E d m_Ties_uneven 4 [(0, (.ref 12, 30)), (1, (.int (iN 0), 0)), (2, (.int (iN 0), 0))] [] M K) :
  G l E d m_Ties_uneven 0 [(0, (.ref 12, 30))] [] M K := G.blk 60 _ hd ok_Ties_uneven rfl h
set_option maxRecDepth 100000 in
theorem b_Ties_uneven_4 {l : Launch} {E : EnvT} {d : Nat} {K : AV → Mem → Prop} {M : Mem} {x1 : Int32} {x2 : Int32} (hd : 1 ≤ d)
  (h : (((iN (M 12 0 6)) ≤ x2 →
   K (.int x1, 0) M) ∧
  (¬ (iN (M 12 0 6)) ≤ x2 →
   (vp_in x2 8 ∧ (((iN (M 12 1 (x2).toNatClampNeg)) = 0 →
    G l E d m_Ties_uneven 4 [(0, (.ref 12, 30)), (1, (.int x1, 0)), (2, (.int (x2 + iN 1), 0))] [] M K) ∧
   (¬ (iN (M 12 1 (x2).toNatClampNeg)) = 0 →
    G l E d m_Ties_uneven 4 [(0, (.ref 12, 30)), (1, (.int (x1 ||| ((iN 1) <<< (x2 &&& 31))), 0)), (2, (.int (x2 + iN 1), 0))] [] M K)))))) :
  G l E d m_Ties_uneven 4 [(0, (.ref 12, 30)), (1, (.int x1, 0)), (2, (.int x2, 0))] [] M K := G.blk 60 _ hd ok_Ties_uneven rfl h
def bt_Ties_unevenCount : BtT := [(0, [0], true, [(0, .aload_n 0, 1, 0, 0, 0, m0),
   (1, .invokevirtual 52, 3, 0, 0, 1160, m_Ties_uneven),
   (4, .invokestatic 56, 3, 0, 0, 1164, m_Integer_bitCount),
   (7, .ireturn, 1, 0, 0, 0, m0)])]
theorem ok_Ties_unevenCount : okBt m_Ties_unevenCount bt_Ties_unevenCount = true := by decide +kernel
set_option maxRecDepth 100000 in
theorem b_Ties_unevenCount_0 {l : Launch} {E : EnvT} {d : Nat} {K : AV → Mem → Prop} {M : Mem}  (hd : 1 ≤ d)
  (h : CT l E (d - 1) m_Ties_uneven [(.ref 12, 30)] M (fun v1 M1 =>
   CT l E (d - 1) m_Integer_bitCount [(.int (toI v1), 0)] M1 (fun v2 M2 =>
    K (.int (toI v2), 0) M2))) :
  G l E d m_Ties_unevenCount 0 [(0, (.ref 12, 30))] [] M K := G.blk 60 _ hd ok_Ties_unevenCount rfl h
def bt_Ties_addUp : BtT := [(0, [0, 1], true, [(0, .iconst 0, 1, 0, 0, 0, m0),
   (1, .istore_n 2, 1, 0, 0, 0, m0),
   (2, .iconst 0, 1, 0, 0, 0, m0),
   (3, .istore_n 3, 1, 0, 0, 0, m0),
   (4, .iconst 0, 1, 0, 0, 0, m0),
   (5, .istore 4, 2, 0, 0, 0, m0),
   (7, .nop, 0, 0, 0, 0, m0)]),
  (7, [0, 1, 2, 3, 4], true, [(7, .iload 4, 2, 0, 0, 0, m0),
   (9, .aload_n 0, 1, 0, 0, 0, m0),
   (10, .getfield 30, 3, 6, 4, 410, m0),
   (13, .if_icmp .ge 56, 3, 69, 0, 0, m0),
   (16, .nop, 0, 0, 0, 0, m0)]),
  (16, [], false, [(16, .iload_n 1, 1, 0, 0, 0, m0),
   (17, .iload 4, 2, 0, 0, 0, m0),
   (19, .invokestatic 65, 3, 0, 0, 1173, m_Choir_isIn),
   (22, .ifCond .eq 41, 3, 63, 0, 0, m0),
   (25, .nop, 0, 0, 0, 0, m0)]),
  (25, [], false, [(25, .iload_n 1, 1, 0, 0, 0, m0),
   (26, .iconst 1, 1, 0, 0, 0, m0),
   (27, .iload 4, 2, 0, 0, 0, m0),
   (29, .ishl, 1, 0, 0, 0, m0),
   (30, .iconst (-1), 1, 0, 0, 0, m0),
   (31, .ixor, 1, 0, 0, 0, m0),
   (32, .iand, 1, 0, 0, 0, m0),
   (33, .istore 5, 2, 0, 0, 0, m0),
   (35, .aload_n 0, 1, 0, 0, 0, m0),
   (36, .getfield 24, 3, 4, 4, 408, m0),
   (39, .iload 5, 2, 0, 0, 0, m0),
   (41, .iaload, 1, 0, 0, 0, m0),
   (42, .aload_n 0, 1, 0, 0, 0, m0),
   (43, .getfield 9, 3, 0, 4, 403, m0),
   (46, .iload 4, 2, 0, 0, 0, m0),
   (48, .iaload, 1, 0, 0, 0, m0),
   (49, .iadd, 1, 0, 0, 0, m0),
   (50, .istore_n 3, 1, 0, 0, 0, m0),
   (51, .iload_n 2, 1, 0, 0, 0, m0),
   (52, .aload_n 0, 1, 0, 0, 0, m0),
   (53, .getfield 27, 3, 5, 4, 409, m0),
   (56, .iload 5, 2, 0, 0, 0, m0),
   (58, .iaload, 1, 0, 0, 0, m0),
   (59, .invokestatic 69, 3, 0, 0, 1174, m_Math_max),
   (62, .istore_n 2, 1, 0, 0, 0, m0),
   (63, .nop, 0, 0, 0, 0, m0)]),
  (63, [], false, [(63, .iinc 4 1, 3, 0, 0, 0, m0),
   (66, .goto (-59), 3, 7, 0, 0, m0)]),
  (69, [], false, [(69, .aload_n 0, 1, 0, 0, 0, m0),
   (70, .getfield 24, 3, 4, 4, 408, m0),
   (73, .iload_n 1, 1, 0, 0, 0, m0),
   (74, .iload_n 3, 1, 0, 0, 0, m0),
   (75, .iastore, 1, 0, 0, 0, m0),
   (76, .aload_n 0, 1, 0, 0, 0, m0),
   (77, .getfield 27, 3, 5, 4, 409, m0),
   (80, .iload_n 1, 1, 0, 0, 0, m0),
   (81, .iload_n 3, 1, 0, 0, 0, m0),
   (82, .ifCond .ne 9, 3, 91, 0, 0, m0),
   (85, .nop, 0, 0, 0, 0, m0)]),
  (85, [], false, [(85, .iload_n 2, 1, 0, 0, 0, m0),
   (86, .iconst 1, 1, 0, 0, 0, m0),
   (87, .iadd, 1, 0, 0, 0, m0),
   (88, .goto 4, 3, 92, 0, 0, m0)]),
  (91, [], false, [(91, .iload_n 2, 1, 0, 0, 0, m0),
   (92, .nop, 0, 0, 0, 0, m0)]),
  (92, [], false, [(92, .iastore, 1, 0, 0, 0, m0),
   (93, .return_, 1, 0, 0, 0, m0)])]
theorem ok_Ties_addUp : okBt m_Ties_addUp bt_Ties_addUp = true := by decide +kernel
set_option maxRecDepth 100000 in
theorem b_Ties_addUp_0 {l : Launch} {E : EnvT} {d : Nat} {K : AV → Mem → Prop} {M : Mem} {x1 : Int32} (hd : 1 ≤ d)
  (h : G l E d m_Ties_addUp 7 [(0, (.ref 12, 30)), (1, (.int x1, 0)), (2, (.int (iN 0), 0)), (3, (.int (iN 0), 0)), (4, (.int (iN 0), 0))] [] M K) :
  G l E d m_Ties_addUp 0 [(0, (.ref 12, 30)), (1, (.int x1, 0))] [] M K := G.blk 60 _ hd ok_Ties_addUp rfl h
set_option maxRecDepth 100000 in
theorem b_Ties_addUp_7 {l : Launch} {E : EnvT} {d : Nat} {K : AV → Mem → Prop} {M : Mem} {x1 : Int32} {x2 : Int32} {x3 : Int32} {x4 : Int32} (hd : 1 ≤ d)
  (h : (((iN (M 12 0 6)) ≤ x4 →
   (vp_in x1 256 ∧ ((¬ x3 = 0 →
    (vp_in x1 256 ∧ K (.null, 0) (upd3 (upd3 M 12 5 (x1).toNatClampNeg (x3).toInt) 12 6 (x1).toNatClampNeg (x2).toInt))) ∧
   (x3 = 0 →
    (vp_in x1 256 ∧ K (.null, 0) (upd3 (upd3 M 12 5 (x1).toNatClampNeg (x3).toInt) 12 6 (x1).toNatClampNeg ((x2 + (iN 1))).toInt)))))) ∧
  (¬ (iN (M 12 0 6)) ≤ x4 →
   CT l E (d - 1) m_Choir_isIn [(.int x1, 0), (.int x4, 0)] M (fun v1 M1 =>
    (((toI v1) = 0 →
     G l E d m_Ties_addUp 7 [(0, (.ref 12, 30)), (1, (.int x1, 0)), (2, (.int x2, 0)), (3, (.int x3, 0)), (4, (.int (x4 + iN 1), 0))] [] M1 K) ∧
    (¬ (toI v1) = 0 →
     (vp_in (x1 &&& (((iN 1) <<< (x4 &&& 31)) ^^^ (iN (-1)))) 256 ∧ vp_in x4 8 ∧ vp_in (x1 &&& (((iN 1) <<< (x4 &&& 31)) ^^^ (iN (-1)))) 256 ∧ CT l E (d - 1) m_Math_max [(.int x2, 0), (.int (iN (M1 12 6 ((x1 &&& (((iN 1) <<< (x4 &&& 31)) ^^^ (iN (-1))))).toNatClampNeg)), 0)] M1 (fun v2 M2 =>
      G l E d m_Ties_addUp 7 [(0, (.ref 12, 30)), (1, (.int x1, 0)), (2, (.int (toI v2), 0)), (3, (.int ((iN (M1 12 5 ((x1 &&& (((iN 1) <<< (x4 &&& 31)) ^^^ (iN (-1))))).toNatClampNeg)) + (iN (M1 12 1 (x4).toNatClampNeg))), 0)), (4, (.int (x4 + iN 1), 0))] [] M2 K)))))))) :
  G l E d m_Ties_addUp 7 [(0, (.ref 12, 30)), (1, (.int x1, 0)), (2, (.int x2, 0)), (3, (.int x3, 0)), (4, (.int x4, 0))] [] M K := G.blk 60 _ hd ok_Ties_addUp rfl h
def bt_Ties_mostParts : BtT := [(0, [0], true, [(0, .aload_n 0, 1, 0, 0, 0, m0),
   (1, .invokevirtual 52, 3, 0, 0, 1160, m_Ties_uneven),
   (4, .istore_n 1, 1, 0, 0, 0, m0),
   (5, .aload_n 0, 1, 0, 0, 0, m0),
   (6, .getfield 24, 3, 4, 4, 408, m0),
   (9, .iconst 0, 1, 0, 0, 0, m0),
   (10, .iconst 0, 1, 0, 0, 0, m0),
   (11, .iastore, 1, 0, 0, 0, m0),
   (12, .aload_n 0, 1, 0, 0, 0, m0),
   (13, .getfield 27, 3, 5, 4, 409, m0),
   (16, .iconst 0, 1, 0, 0, 0, m0),
   (17, .iconst 0, 1, 0, 0, 0, m0),
   (18, .iastore, 1, 0, 0, 0, m0),
   (19, .iconst 1, 1, 0, 0, 0, m0),
   (20, .istore_n 2, 1, 0, 0, 0, m0),
   (21, .nop, 0, 0, 0, 0, m0)]),
  (21, [0, 1, 2], true, [(21, .iload_n 2, 1, 0, 0, 0, m0),
   (22, .iload_n 1, 1, 0, 0, 0, m0),
   (23, .if_icmp .gt 22, 3, 45, 0, 0, m0),
   (26, .nop, 0, 0, 0, 0, m0)]),
  (26, [], false, [(26, .iload_n 2, 1, 0, 0, 0, m0),
   (27, .iload_n 1, 1, 0, 0, 0, m0),
   (28, .iconst (-1), 1, 0, 0, 0, m0),
   (29, .ixor, 1, 0, 0, 0, m0),
   (30, .iand, 1, 0, 0, 0, m0),
   (31, .ifCond .ne 8, 3, 39, 0, 0, m0),
   (34, .nop, 0, 0, 0, 0, m0)]),
  (34, [], false, [(34, .aload_n 0, 1, 0, 0, 0, m0),
   (35, .iload_n 2, 1, 0, 0, 0, m0),
   (36, .invokevirtual 61, 3, 0, 0, 1169, m_Ties_addUp),
   (39, .nop, 0, 0, 0, 0, m0)]),
  (39, [], false, [(39, .iinc 2 1, 3, 0, 0, 0, m0),
   (42, .goto (-21), 3, 21, 0, 0, m0)]),
  (45, [], false, [(45, .aload_n 0, 1, 0, 0, 0, m0),
   (46, .getfield 27, 3, 5, 4, 409, m0),
   (49, .iload_n 1, 1, 0, 0, 0, m0),
   (50, .iaload, 1, 0, 0, 0, m0),
   (51, .ireturn, 1, 0, 0, 0, m0)])]
theorem ok_Ties_mostParts : okBt m_Ties_mostParts bt_Ties_mostParts = true := by decide +kernel
set_option maxRecDepth 100000 in
theorem b_Ties_mostParts_0 {l : Launch} {E : EnvT} {d : Nat} {K : AV → Mem → Prop} {M : Mem}  (hd : 1 ≤ d)
  (h : CT l E (d - 1) m_Ties_uneven [(.ref 12, 30)] M (fun v1 M1 =>
   (vp_in (iN 0) 256 ∧ vp_in (iN 0) 256 ∧ G l E d m_Ties_mostParts 21 [(0, (.ref 12, 30)), (1, (.int (toI v1), 0)), (2, (.int (iN 1), 0))] [] (upd3 (upd3 M1 12 5 ((iN 0)).toNatClampNeg ((iN 0)).toInt) 12 6 ((iN 0)).toNatClampNeg ((iN 0)).toInt) K))) :
  G l E d m_Ties_mostParts 0 [(0, (.ref 12, 30))] [] M K := G.blk 60 _ hd ok_Ties_mostParts rfl h
set_option maxRecDepth 100000 in
theorem b_Ties_mostParts_21 {l : Launch} {E : EnvT} {d : Nat} {K : AV → Mem → Prop} {M : Mem} {x1 : Int32} {x2 : Int32} (hd : 1 ≤ d)
  (h : ((x1 < x2 →
   (vp_in x1 256 ∧ K (.int (iN (M 12 6 (x1).toNatClampNeg)), 0) M)) ∧
  (¬ x1 < x2 →
   ((¬ (x2 &&& (x1 ^^^ (iN (-1)))) = 0 →
    G l E d m_Ties_mostParts 21 [(0, (.ref 12, 30)), (1, (.int x1, 0)), (2, (.int (x2 + iN 1), 0))] [] M K) ∧
   ((x2 &&& (x1 ^^^ (iN (-1)))) = 0 →
    CT l E (d - 1) m_Ties_addUp [(.ref 12, 30), (.int x2, 0)] M (fun v1 M1 =>
     G l E d m_Ties_mostParts 21 [(0, (.ref 12, 30)), (1, (.int x1, 0)), (2, (.int (x2 + iN 1), 0))] [] M1 K)))))) :
  G l E d m_Ties_mostParts 21 [(0, (.ref 12, 30)), (1, (.int x1, 0)), (2, (.int x2, 0))] [] M K := G.blk 60 _ hd ok_Ties_mostParts rfl h
def bt_Ties_closes : BtT := [(0, [0, 1, 2, 3], true, [(0, .aload_n 0, 1, 0, 0, 0, m0),
   (1, .getfield 15, 3, 1, 4, 404, m0),
   (4, .aload_n 0, 1, 0, 0, 0, m0),
   (5, .getfield 21, 3, 3, 4, 406, m0),
   (8, .iload_n 1, 1, 0, 0, 0, m0),
   (9, .iconst 1, 1, 0, 0, 0, m0),
   (10, .isub, 1, 0, 0, 0, m0),
   (11, .iaload, 1, 0, 0, 0, m0),
   (12, .iaload, 1, 0, 0, 0, m0),
   (13, .istore 4, 2, 0, 0, 0, m0),
   (15, .iload_n 1, 1, 0, 0, 0, m0),
   (16, .iload_n 2, 1, 0, 0, 0, m0),
   (17, .if_icmp .lt 15, 3, 32, 0, 0, m0),
   (20, .nop, 0, 0, 0, 0, m0)]),
  (20, [], false, [(20, .iload 4, 2, 0, 0, 0, m0),
   (22, .aload_n 0, 1, 0, 0, 0, m0),
   (23, .getfield 21, 3, 3, 4, 406, m0),
   (26, .iconst 0, 1, 0, 0, 0, m0),
   (27, .iaload, 1, 0, 0, 0, m0),
   (28, .invokestatic 65, 3, 0, 0, 1173, m_Choir_isIn),
   (31, .ireturn, 1, 0, 0, 0, m0)]),
  (32, [], false, [(32, .aload_n 0, 1, 0, 0, 0, m0),
   (33, .getfield 21, 3, 3, 4, 406, m0),
   (36, .iconst 0, 1, 0, 0, 0, m0),
   (37, .iaload, 1, 0, 0, 0, m0),
   (38, .iconst 1, 1, 0, 0, 0, m0),
   (39, .iadd, 1, 0, 0, 0, m0),
   (40, .istore 5, 2, 0, 0, 0, m0),
   (42, .nop, 0, 0, 0, 0, m0)]),
  (42, [0, 1, 2, 3, 4, 5], true, [(42, .iload 5, 2, 0, 0, 0, m0),
   (44, .aload_n 0, 1, 0, 0, 0, m0),
   (45, .getfield 30, 3, 6, 4, 410, m0),
   (48, .if_icmp .ge 50, 3, 98, 0, 0, m0),
   (51, .nop, 0, 0, 0, 0, m0)]),
  (51, [], false, [(51, .iload 4, 2, 0, 0, 0, m0),
   (53, .iload_n 3, 1, 0, 0, 0, m0),
   (54, .iconst (-1), 1, 0, 0, 0, m0),
   (55, .ixor, 1, 0, 0, 0, m0),
   (56, .iand, 1, 0, 0, 0, m0),
   (57, .iload 5, 2, 0, 0, 0, m0),
   (59, .invokestatic 65, 3, 0, 0, 1173, m_Choir_isIn),
   (62, .ifCond .eq 30, 3, 92, 0, 0, m0),
   (65, .nop, 0, 0, 0, 0, m0)]),
  (65, [], false, [(65, .aload_n 0, 1, 0, 0, 0, m0),
   (66, .getfield 21, 3, 3, 4, 406, m0),
   (69, .iload_n 1, 1, 0, 0, 0, m0),
   (70, .iload 5, 2, 0, 0, 0, m0),
   (72, .iastore, 1, 0, 0, 0, m0),
   (73, .aload_n 0, 1, 0, 0, 0, m0),
   (74, .iload_n 1, 1, 0, 0, 0, m0),
   (75, .iconst 1, 1, 0, 0, 0, m0),
   (76, .iadd, 1, 0, 0, 0, m0),
   (77, .iload_n 2, 1, 0, 0, 0, m0),
   (78, .iload_n 3, 1, 0, 0, 0, m0),
   (79, .iconst 1, 1, 0, 0, 0, m0),
   (80, .iload 5, 2, 0, 0, 0, m0),
   (82, .ishl, 1, 0, 0, 0, m0),
   (83, .ior, 1, 0, 0, 0, m0),
   (84, .invokestatic 74, 3, 0, 0, 1228, m_Ties_closes),
   (87, .ifCond .eq 5, 3, 92, 0, 0, m0),
   (90, .nop, 0, 0, 0, 0, m0)]),
  (90, [], false, [(90, .iconst 1, 1, 0, 0, 0, m0),
   (91, .ireturn, 1, 0, 0, 0, m0)]),
  (92, [], false, [(92, .iinc 5 1, 3, 0, 0, 0, m0),
   (95, .goto (-53), 3, 42, 0, 0, m0)]),
  (98, [], false, [(98, .iconst 0, 1, 0, 0, 0, m0),
   (99, .ireturn, 1, 0, 0, 0, m0)])]
theorem ok_Ties_closes : okBt m_Ties_closes bt_Ties_closes = true := by decide +kernel
set_option maxRecDepth 100000 in
theorem b_Ties_closes_0 {l : Launch} {E : EnvT} {d : Nat} {K : AV → Mem → Prop} {M : Mem} {x1 : Int32} {x2 : Int32} {x3 : Int32} (hd : 1 ≤ d)
  (h : (vp_in (x1 - (iN 1)) 8 ∧ vp_in (iN (M 12 4 ((x1 - (iN 1))).toNatClampNeg)) 8 ∧ ((x1 < x2 →
   (vp_in (iN 0) 8 ∧ G l E d m_Ties_closes 42 [(0, (.ref 12, 30)), (1, (.int x1, 0)), (2, (.int x2, 0)), (3, (.int x3, 0)), (4, (.int (iN (M 12 2 ((iN (M 12 4 ((x1 - (iN 1))).toNatClampNeg))).toNatClampNeg)), 0)), (5, (.int ((iN (M 12 4 ((iN 0)).toNatClampNeg)) + (iN 1)), 0))] [] M K)) ∧
  (¬ x1 < x2 →
   (vp_in (iN 0) 8 ∧ CT l E (d - 1) m_Choir_isIn [(.int (iN (M 12 2 ((iN (M 12 4 ((x1 - (iN 1))).toNatClampNeg))).toNatClampNeg)), 0), (.int (iN (M 12 4 ((iN 0)).toNatClampNeg)), 0)] M (fun v1 M1 =>
    ((((toI v1) = 0 ∨ (toI v1) = 1)) ∧ K (.int (toI v1), 0) M1))))))) :
  G l E d m_Ties_closes 0 [(0, (.ref 12, 30)), (1, (.int x1, 0)), (2, (.int x2, 0)), (3, (.int x3, 0))] [] M K := G.blk 60 _ hd ok_Ties_closes rfl h
set_option maxRecDepth 100000 in
theorem b_Ties_closes_42 {l : Launch} {E : EnvT} {d : Nat} {K : AV → Mem → Prop} {M : Mem} {x1 : Int32} {x2 : Int32} {x3 : Int32} {x4 : Int32} {x5 : Int32} (hd : 1 ≤ d)
  (h : (((iN (M 12 0 6)) ≤ x5 →
   ((((iN 0) = 0 ∨ (iN 0) = 1)) ∧ K (.int (iN 0), 0) M)) ∧
  (¬ (iN (M 12 0 6)) ≤ x5 →
   CT l E (d - 1) m_Choir_isIn [(.int (x4 &&& (x3 ^^^ (iN (-1)))), 0), (.int x5, 0)] M (fun v1 M1 =>
    (((toI v1) = 0 →
     G l E d m_Ties_closes 42 [(0, (.ref 12, 30)), (1, (.int x1, 0)), (2, (.int x2, 0)), (3, (.int x3, 0)), (4, (.int x4, 0)), (5, (.int (x5 + iN 1), 0))] [] M1 K) ∧
    (¬ (toI v1) = 0 →
     (vp_in x1 8 ∧ CT l E (d - 1) m_Ties_closes [(.ref 12, 30), (.int (x1 + (iN 1)), 0), (.int x2, 0), (.int (x3 ||| ((iN 1) <<< (x5 &&& 31))), 0)] (upd3 M1 12 4 (x1).toNatClampNeg (x5).toInt) (fun v2 M2 =>
      (((toI v2) = 0 →
       G l E d m_Ties_closes 42 [(0, (.ref 12, 30)), (1, (.int x1, 0)), (2, (.int x2, 0)), (3, (.int x3, 0)), (4, (.int x4, 0)), (5, (.int (x5 + iN 1), 0))] [] M2 K) ∧
      (¬ (toI v2) = 0 →
       ((((iN 1) = 0 ∨ (iN 1) = 1)) ∧ K (.int (iN 1), 0) M2))))))))))) :
  G l E d m_Ties_closes 42 [(0, (.ref 12, 30)), (1, (.int x1, 0)), (2, (.int x2, 0)), (3, (.int x3, 0)), (4, (.int x4, 0)), (5, (.int x5, 0))] [] M K := G.blk 60 _ hd ok_Ties_closes rfl h
def bt_Ties_findRound : BtT := [(0, [0], true, [(0, .iconst 3, 1, 0, 0, 0, m0),
   (1, .istore_n 1, 1, 0, 0, 0, m0),
   (2, .nop, 0, 0, 0, 0, m0)]),
  (2, [0, 1], true, [(2, .iload_n 1, 1, 0, 0, 0, m0),
   (3, .aload_n 0, 1, 0, 0, 0, m0),
   (4, .getfield 30, 3, 6, 4, 410, m0),
   (7, .if_icmp .gt 46, 3, 53, 0, 0, m0),
   (10, .nop, 0, 0, 0, 0, m0)]),
  (10, [], false, [(10, .iconst 0, 1, 0, 0, 0, m0),
   (11, .istore_n 2, 1, 0, 0, 0, m0),
   (12, .nop, 0, 0, 0, 0, m0)]),
  (12, [0, 1, 2], true, [(12, .iload_n 2, 1, 0, 0, 0, m0),
   (13, .aload_n 0, 1, 0, 0, 0, m0),
   (14, .getfield 30, 3, 6, 4, 410, m0),
   (17, .if_icmp .ge 30, 3, 47, 0, 0, m0),
   (20, .nop, 0, 0, 0, 0, m0)]),
  (20, [], false, [(20, .aload_n 0, 1, 0, 0, 0, m0),
   (21, .getfield 21, 3, 3, 4, 406, m0),
   (24, .iconst 0, 1, 0, 0, 0, m0),
   (25, .iload_n 2, 1, 0, 0, 0, m0),
   (26, .iastore, 1, 0, 0, 0, m0),
   (27, .aload_n 0, 1, 0, 0, 0, m0),
   (28, .iconst 1, 1, 0, 0, 0, m0),
   (29, .iload_n 1, 1, 0, 0, 0, m0),
   (30, .iconst 1, 1, 0, 0, 0, m0),
   (31, .iload_n 2, 1, 0, 0, 0, m0),
   (32, .ishl, 1, 0, 0, 0, m0),
   (33, .invokestatic 74, 3, 0, 0, 1228, m_Ties_closes),
   (36, .ifCond .eq 5, 3, 41, 0, 0, m0),
   (39, .nop, 0, 0, 0, 0, m0)]),
  (39, [], false, [(39, .iload_n 1, 1, 0, 0, 0, m0),
   (40, .ireturn, 1, 0, 0, 0, m0)]),
  (41, [], false, [(41, .iinc 2 1, 3, 0, 0, 0, m0),
   (44, .goto (-32), 3, 12, 0, 0, m0)]),
  (47, [], false, [(47, .iinc 1 1, 3, 0, 0, 0, m0),
   (50, .goto (-48), 3, 2, 0, 0, m0)]),
  (53, [], false, [(53, .iconst 0, 1, 0, 0, 0, m0),
   (54, .ireturn, 1, 0, 0, 0, m0)])]
theorem ok_Ties_findRound : okBt m_Ties_findRound bt_Ties_findRound = true := by decide +kernel
set_option maxRecDepth 100000 in
theorem b_Ties_findRound_0 {l : Launch} {E : EnvT} {d : Nat} {K : AV → Mem → Prop} {M : Mem}  (hd : 1 ≤ d)
  (h : G l E d m_Ties_findRound 2 [(0, (.ref 12, 30)), (1, (.int (iN 3), 0))] [] M K) :
  G l E d m_Ties_findRound 0 [(0, (.ref 12, 30))] [] M K := G.blk 60 _ hd ok_Ties_findRound rfl h
set_option maxRecDepth 100000 in
theorem b_Ties_findRound_2 {l : Launch} {E : EnvT} {d : Nat} {K : AV → Mem → Prop} {M : Mem} {x1 : Int32} (hd : 1 ≤ d)
  (h : (((iN (M 12 0 6)) < x1 →
   K (.int (iN 0), 0) M) ∧
  (¬ (iN (M 12 0 6)) < x1 →
   G l E d m_Ties_findRound 12 [(0, (.ref 12, 30)), (1, (.int x1, 0)), (2, (.int (iN 0), 0))] [] M K))) :
  G l E d m_Ties_findRound 2 [(0, (.ref 12, 30)), (1, (.int x1, 0))] [] M K := G.blk 60 _ hd ok_Ties_findRound rfl h
set_option maxRecDepth 100000 in
theorem b_Ties_findRound_12 {l : Launch} {E : EnvT} {d : Nat} {K : AV → Mem → Prop} {M : Mem} {x1 : Int32} {x2 : Int32} (hd : 1 ≤ d)
  (h : (((iN (M 12 0 6)) ≤ x2 →
   G l E d m_Ties_findRound 2 [(0, (.ref 12, 30)), (1, (.int (x1 + iN 1), 0))] [] M K) ∧
  (¬ (iN (M 12 0 6)) ≤ x2 →
   (vp_in (iN 0) 8 ∧ CT l E (d - 1) m_Ties_closes [(.ref 12, 30), (.int (iN 1), 0), (.int x1, 0), (.int ((iN 1) <<< (x2 &&& 31)), 0)] (upd3 M 12 4 ((iN 0)).toNatClampNeg (x2).toInt) (fun v1 M1 =>
    (((toI v1) = 0 →
     G l E d m_Ties_findRound 12 [(0, (.ref 12, 30)), (1, (.int x1, 0)), (2, (.int (x2 + iN 1), 0))] [] M1 K) ∧
    (¬ (toI v1) = 0 →
     K (.int x1, 0) M1))))))) :
  G l E d m_Ties_findRound 12 [(0, (.ref 12, 30)), (1, (.int x1, 0)), (2, (.int x2, 0))] [] M K := G.blk 60 _ hd ok_Ties_findRound rfl h
def bt_Ties_isInEach : BtT := [(0, [0, 1], true, [(0, .iconst 0, 1, 0, 0, 0, m0),
   (1, .istore_n 2, 1, 0, 0, 0, m0),
   (2, .nop, 0, 0, 0, 0, m0)]),
  (2, [0, 1, 2], true, [(2, .iload_n 2, 1, 0, 0, 0, m0),
   (3, .aload_n 0, 1, 0, 0, 0, m0),
   (4, .getfield 30, 3, 6, 4, 410, m0),
   (7, .if_icmp .ge 32, 3, 39, 0, 0, m0),
   (10, .nop, 0, 0, 0, 0, m0)]),
  (10, [], false, [(10, .iload_n 1, 1, 0, 0, 0, m0),
   (11, .iload_n 2, 1, 0, 0, 0, m0),
   (12, .invokestatic 65, 3, 0, 0, 1173, m_Choir_isIn),
   (15, .ifCond .ne 18, 3, 33, 0, 0, m0),
   (18, .nop, 0, 0, 0, 0, m0)]),
  (18, [], false, [(18, .aload_n 0, 1, 0, 0, 0, m0),
   (19, .getfield 18, 3, 2, 4, 405, m0),
   (22, .iload_n 2, 1, 0, 0, 0, m0),
   (23, .iaload, 1, 0, 0, 0, m0),
   (24, .iload_n 1, 1, 0, 0, 0, m0),
   (25, .iconst (-1), 1, 0, 0, 0, m0),
   (26, .ixor, 1, 0, 0, 0, m0),
   (27, .iand, 1, 0, 0, 0, m0),
   (28, .ifCond .eq 5, 3, 33, 0, 0, m0),
   (31, .nop, 0, 0, 0, 0, m0)]),
  (31, [], false, [(31, .iconst 0, 1, 0, 0, 0, m0),
   (32, .ireturn, 1, 0, 0, 0, m0)]),
  (33, [], false, [(33, .iinc 2 1, 3, 0, 0, 0, m0),
   (36, .goto (-34), 3, 2, 0, 0, m0)]),
  (39, [], false, [(39, .iconst 1, 1, 0, 0, 0, m0),
   (40, .ireturn, 1, 0, 0, 0, m0)])]
theorem ok_Ties_isInEach : okBt m_Ties_isInEach bt_Ties_isInEach = true := by decide +kernel
set_option maxRecDepth 100000 in
theorem b_Ties_isInEach_0 {l : Launch} {E : EnvT} {d : Nat} {K : AV → Mem → Prop} {M : Mem} {x1 : Int32} (hd : 1 ≤ d)
  (h : G l E d m_Ties_isInEach 2 [(0, (.ref 12, 30)), (1, (.int x1, 0)), (2, (.int (iN 0), 0))] [] M K) :
  G l E d m_Ties_isInEach 0 [(0, (.ref 12, 30)), (1, (.int x1, 0))] [] M K := G.blk 60 _ hd ok_Ties_isInEach rfl h
set_option maxRecDepth 100000 in
theorem b_Ties_isInEach_2 {l : Launch} {E : EnvT} {d : Nat} {K : AV → Mem → Prop} {M : Mem} {x1 : Int32} {x2 : Int32} (hd : 1 ≤ d)
  (h : (((iN (M 12 0 6)) ≤ x2 →
   ((((iN 1) = 0 ∨ (iN 1) = 1)) ∧ K (.int (iN 1), 0) M)) ∧
  (¬ (iN (M 12 0 6)) ≤ x2 →
   CT l E (d - 1) m_Choir_isIn [(.int x1, 0), (.int x2, 0)] M (fun v1 M1 =>
    ((¬ (toI v1) = 0 →
     G l E d m_Ties_isInEach 2 [(0, (.ref 12, 30)), (1, (.int x1, 0)), (2, (.int (x2 + iN 1), 0))] [] M1 K) ∧
    ((toI v1) = 0 →
     (vp_in x2 8 ∧ ((((iN (M1 12 3 (x2).toNatClampNeg)) &&& (x1 ^^^ (iN (-1)))) = 0 →
      G l E d m_Ties_isInEach 2 [(0, (.ref 12, 30)), (1, (.int x1, 0)), (2, (.int (x2 + iN 1), 0))] [] M1 K) ∧
     (¬ ((iN (M1 12 3 (x2).toNatClampNeg)) &&& (x1 ^^^ (iN (-1)))) = 0 →
      ((((iN 0) = 0 ∨ (iN 0) = 1)) ∧ K (.int (iN 0), 0) M1)))))))))) :
  G l E d m_Ties_isInEach 2 [(0, (.ref 12, 30)), (1, (.int x1, 0)), (2, (.int x2, 0))] [] M K := G.blk 60 _ hd ok_Ties_isInEach rfl h
def bt_Ties_leastAsked : BtT := [(0, [0], true, [(0, .iconst 1, 1, 0, 0, 0, m0),
   (1, .aload_n 0, 1, 0, 0, 0, m0),
   (2, .getfield 30, 3, 6, 4, 410, m0),
   (5, .ishl, 1, 0, 0, 0, m0),
   (6, .iconst 1, 1, 0, 0, 0, m0),
   (7, .isub, 1, 0, 0, 0, m0),
   (8, .istore_n 1, 1, 0, 0, 0, m0),
   (9, .iload_n 1, 1, 0, 0, 0, m0),
   (10, .iconst 1, 1, 0, 0, 0, m0),
   (11, .isub, 1, 0, 0, 0, m0),
   (12, .istore_n 2, 1, 0, 0, 0, m0),
   (13, .nop, 0, 0, 0, 0, m0)]),
  (13, [0, 1, 2], true, [(13, .iload_n 2, 1, 0, 0, 0, m0),
   (14, .ifCond .lt 30, 3, 44, 0, 0, m0),
   (17, .nop, 0, 0, 0, 0, m0)]),
  (17, [], false, [(17, .iload_n 2, 1, 0, 0, 0, m0),
   (18, .invokestatic 56, 3, 0, 0, 1164, m_Integer_bitCount),
   (21, .iload_n 1, 1, 0, 0, 0, m0),
   (22, .invokestatic 56, 3, 0, 0, 1164, m_Integer_bitCount),
   (25, .if_icmp .gt 13, 3, 38, 0, 0, m0),
   (28, .nop, 0, 0, 0, 0, m0)]),
  (28, [], false, [(28, .aload_n 0, 1, 0, 0, 0, m0),
   (29, .iload_n 2, 1, 0, 0, 0, m0),
   (30, .invokevirtual 78, 3, 0, 0, 1251, m_Ties_isInEach),
   (33, .ifCond .eq 5, 3, 38, 0, 0, m0),
   (36, .nop, 0, 0, 0, 0, m0)]),
  (36, [], false, [(36, .iload_n 2, 1, 0, 0, 0, m0),
   (37, .istore_n 1, 1, 0, 0, 0, m0),
   (38, .nop, 0, 0, 0, 0, m0)]),
  (38, [], false, [(38, .iinc 2 (-1), 3, 0, 0, 0, m0),
   (41, .goto (-28), 3, 13, 0, 0, m0)]),
  (44, [], false, [(44, .iload_n 1, 1, 0, 0, 0, m0),
   (45, .ireturn, 1, 0, 0, 0, m0)])]
theorem ok_Ties_leastAsked : okBt m_Ties_leastAsked bt_Ties_leastAsked = true := by decide +kernel
set_option maxRecDepth 100000 in
theorem b_Ties_leastAsked_0 {l : Launch} {E : EnvT} {d : Nat} {K : AV → Mem → Prop} {M : Mem}  (hd : 1 ≤ d)
  (h : G l E d m_Ties_leastAsked 13 [(0, (.ref 12, 30)), (1, (.int (((iN 1) <<< ((iN (M 12 0 6)) &&& 31)) - (iN 1)), 0)), (2, (.int ((((iN 1) <<< ((iN (M 12 0 6)) &&& 31)) - (iN 1)) - (iN 1)), 0))] [] M K) :
  G l E d m_Ties_leastAsked 0 [(0, (.ref 12, 30))] [] M K := G.blk 60 _ hd ok_Ties_leastAsked rfl h
set_option maxRecDepth 100000 in
theorem b_Ties_leastAsked_13 {l : Launch} {E : EnvT} {d : Nat} {K : AV → Mem → Prop} {M : Mem} {x1 : Int32} {x2 : Int32} (hd : 1 ≤ d)
  (h : ((x2 < 0 →
   K (.int x1, 0) M) ∧
  (¬ x2 < 0 →
   CT l E (d - 1) m_Integer_bitCount [(.int x2, 0)] M (fun v1 M1 =>
    CT l E (d - 1) m_Integer_bitCount [(.int x1, 0)] M1 (fun v2 M2 =>
     (((toI v2) < (toI v1) →
      G l E d m_Ties_leastAsked 13 [(0, (.ref 12, 30)), (1, (.int x1, 0)), (2, (.int (x2 + iN (-1)), 0))] [] M2 K) ∧
     (¬ (toI v2) < (toI v1) →
      CT l E (d - 1) m_Ties_isInEach [(.ref 12, 30), (.int x2, 0)] M2 (fun v3 M3 =>
       (((toI v3) = 0 →
        G l E d m_Ties_leastAsked 13 [(0, (.ref 12, 30)), (1, (.int x1, 0)), (2, (.int (x2 + iN (-1)), 0))] [] M3 K) ∧
       (¬ (toI v3) = 0 →
        G l E d m_Ties_leastAsked 13 [(0, (.ref 12, 30)), (1, (.int x2, 0)), (2, (.int (x2 + iN (-1)), 0))] [] M3 K)))))))))) :
  G l E d m_Ties_leastAsked 13 [(0, (.ref 12, 30)), (1, (.int x1, 0)), (2, (.int x2, 0))] [] M K := G.blk 60 _ hd ok_Ties_leastAsked rfl h
def bt_Ties_lengthen : BtT := [(0, [0, 1], true, [(0, .iconst 0, 1, 0, 0, 0, m0),
   (1, .istore_n 2, 1, 0, 0, 0, m0),
   (2, .nop, 0, 0, 0, 0, m0)]),
  (2, [0, 1, 2], true, [(2, .iload_n 2, 1, 0, 0, 0, m0),
   (3, .aload_n 0, 1, 0, 0, 0, m0),
   (4, .getfield 30, 3, 6, 4, 410, m0),
   (7, .if_icmp .ge 78, 3, 85, 0, 0, m0),
   (10, .nop, 0, 0, 0, 0, m0)]),
  (10, [], false, [(10, .aload_n 0, 1, 0, 0, 0, m0),
   (11, .getfield 27, 3, 5, 4, 409, m0),
   (14, .iload_n 1, 1, 0, 0, 0, m0),
   (15, .iaload, 1, 0, 0, 0, m0),
   (16, .iload_n 2, 1, 0, 0, 0, m0),
   (17, .invokestatic 65, 3, 0, 0, 1173, m_Choir_isIn),
   (20, .ifCond .eq 59, 3, 79, 0, 0, m0),
   (23, .nop, 0, 0, 0, 0, m0)]),
  (23, [], false, [(23, .aload_n 0, 1, 0, 0, 0, m0),
   (24, .getfield 15, 3, 1, 4, 404, m0),
   (27, .iload_n 2, 1, 0, 0, 0, m0),
   (28, .iaload, 1, 0, 0, 0, m0),
   (29, .iload_n 1, 1, 0, 0, 0, m0),
   (30, .iconst (-1), 1, 0, 0, 0, m0),
   (31, .ixor, 1, 0, 0, 0, m0),
   (32, .iand, 1, 0, 0, 0, m0),
   (33, .istore_n 3, 1, 0, 0, 0, m0),
   (34, .iconst 0, 1, 0, 0, 0, m0),
   (35, .istore 4, 2, 0, 0, 0, m0),
   (37, .nop, 0, 0, 0, 0, m0)]),
  (37, [0, 1, 2, 3, 4], true, [(37, .iload 4, 2, 0, 0, 0, m0),
   (39, .aload_n 0, 1, 0, 0, 0, m0),
   (40, .getfield 30, 3, 6, 4, 410, m0),
   (43, .if_icmp .ge 36, 3, 79, 0, 0, m0),
   (46, .nop, 0, 0, 0, 0, m0)]),
  (46, [], false, [(46, .iload_n 3, 1, 0, 0, 0, m0),
   (47, .iload 4, 2, 0, 0, 0, m0),
   (49, .invokestatic 65, 3, 0, 0, 1173, m_Choir_isIn),
   (52, .ifCond .eq 21, 3, 73, 0, 0, m0),
   (55, .nop, 0, 0, 0, 0, m0)]),
  (55, [], false, [(55, .aload_n 0, 1, 0, 0, 0, m0),
   (56, .getfield 27, 3, 5, 4, 409, m0),
   (59, .iload_n 1, 1, 0, 0, 0, m0),
   (60, .iconst 1, 1, 0, 0, 0, m0),
   (61, .iload 4, 2, 0, 0, 0, m0),
   (63, .ishl, 1, 0, 0, 0, m0),
   (64, .ior, 1, 0, 0, 0, m0),
   (65, .dup2, 1, 0, 0, 0, m0),
   (66, .iaload, 1, 0, 0, 0, m0),
   (67, .iconst 1, 1, 0, 0, 0, m0),
   (68, .iload 4, 2, 0, 0, 0, m0),
   (70, .ishl, 1, 0, 0, 0, m0),
   (71, .ior, 1, 0, 0, 0, m0),
   (72, .iastore, 1, 0, 0, 0, m0),
   (73, .nop, 0, 0, 0, 0, m0)]),
  (73, [], false, [(73, .iinc 4 1, 3, 0, 0, 0, m0),
   (76, .goto (-39), 3, 37, 0, 0, m0)]),
  (79, [], false, [(79, .iinc 2 1, 3, 0, 0, 0, m0),
   (82, .goto (-80), 3, 2, 0, 0, m0)]),
  (85, [], false, [(85, .return_, 1, 0, 0, 0, m0)])]
theorem ok_Ties_lengthen : okBt m_Ties_lengthen bt_Ties_lengthen = true := by decide +kernel
set_option maxRecDepth 100000 in
theorem b_Ties_lengthen_0 {l : Launch} {E : EnvT} {d : Nat} {K : AV → Mem → Prop} {M : Mem} {x1 : Int32} (hd : 1 ≤ d)
  (h : G l E d m_Ties_lengthen 2 [(0, (.ref 12, 30)), (1, (.int x1, 0)), (2, (.int (iN 0), 0))] [] M K) :
  G l E d m_Ties_lengthen 0 [(0, (.ref 12, 30)), (1, (.int x1, 0))] [] M K := G.blk 60 _ hd ok_Ties_lengthen rfl h
set_option maxRecDepth 100000 in
theorem b_Ties_lengthen_2 {l : Launch} {E : EnvT} {d : Nat} {K : AV → Mem → Prop} {M : Mem} {x1 : Int32} {x2 : Int32} (hd : 1 ≤ d)
  (h : (((iN (M 12 0 6)) ≤ x2 →
   K (.null, 0) M) ∧
  (¬ (iN (M 12 0 6)) ≤ x2 →
   (vp_in x1 256 ∧ CT l E (d - 1) m_Choir_isIn [(.int (iN (M 12 6 (x1).toNatClampNeg)), 0), (.int x2, 0)] M (fun v1 M1 =>
    (((toI v1) = 0 →
     G l E d m_Ties_lengthen 2 [(0, (.ref 12, 30)), (1, (.int x1, 0)), (2, (.int (x2 + iN 1), 0))] [] M1 K) ∧
    (¬ (toI v1) = 0 →
     (vp_in x2 8 ∧ G l E d m_Ties_lengthen 37 [(0, (.ref 12, 30)), (1, (.int x1, 0)), (2, (.int x2, 0)), (3, (.int ((iN (M1 12 2 (x2).toNatClampNeg)) &&& (x1 ^^^ (iN (-1)))), 0)), (4, (.int (iN 0), 0))] [] M1 K)))))))) :
  G l E d m_Ties_lengthen 2 [(0, (.ref 12, 30)), (1, (.int x1, 0)), (2, (.int x2, 0))] [] M K := G.blk 60 _ hd ok_Ties_lengthen rfl h
set_option maxRecDepth 100000 in
theorem b_Ties_lengthen_37 {l : Launch} {E : EnvT} {d : Nat} {K : AV → Mem → Prop} {M : Mem} {x1 : Int32} {x2 : Int32} {x3 : Int32} {x4 : Int32} (hd : 1 ≤ d)
  (h : (((iN (M 12 0 6)) ≤ x4 →
   G l E d m_Ties_lengthen 2 [(0, (.ref 12, 30)), (1, (.int x1, 0)), (2, (.int (x2 + iN 1), 0))] [] M K) ∧
  (¬ (iN (M 12 0 6)) ≤ x4 →
   CT l E (d - 1) m_Choir_isIn [(.int x3, 0), (.int x4, 0)] M (fun v1 M1 =>
    (((toI v1) = 0 →
     G l E d m_Ties_lengthen 37 [(0, (.ref 12, 30)), (1, (.int x1, 0)), (2, (.int x2, 0)), (3, (.int x3, 0)), (4, (.int (x4 + iN 1), 0))] [] M1 K) ∧
    (¬ (toI v1) = 0 →
     (vp_in (x1 ||| ((iN 1) <<< (x4 &&& 31))) 256 ∧ vp_in (x1 ||| ((iN 1) <<< (x4 &&& 31))) 256 ∧ G l E d m_Ties_lengthen 37 [(0, (.ref 12, 30)), (1, (.int x1, 0)), (2, (.int x2, 0)), (3, (.int x3, 0)), (4, (.int (x4 + iN 1), 0))] [] (upd3 M1 12 6 ((x1 ||| ((iN 1) <<< (x4 &&& 31)))).toNatClampNeg (((iN (M1 12 6 ((x1 ||| ((iN 1) <<< (x4 &&& 31)))).toNatClampNeg)) ||| ((iN 1) <<< (x4 &&& 31)))).toInt) K))))))) :
  G l E d m_Ties_lengthen 37 [(0, (.ref 12, 30)), (1, (.int x1, 0)), (2, (.int x2, 0)), (3, (.int x3, 0)), (4, (.int x4, 0))] [] M K := G.blk 60 _ hd ok_Ties_lengthen rfl h
def bt_Ties_longestRow : BtT := [(0, [0], true, [(0, .aload_n 0, 1, 0, 0, 0, m0),
   (1, .getfield 27, 3, 5, 4, 409, m0),
   (4, .iconst 0, 1, 0, 0, 0, m0),
   (5, .invokestatic 82, 3, 0, 0, 1267, m_Arrays_fill1),
   (8, .iconst 0, 1, 0, 0, 0, m0),
   (9, .istore_n 1, 1, 0, 0, 0, m0),
   (10, .nop, 0, 0, 0, 0, m0)]),
  (10, [0, 1], true, [(10, .iload_n 1, 1, 0, 0, 0, m0),
   (11, .aload_n 0, 1, 0, 0, 0, m0),
   (12, .getfield 30, 3, 6, 4, 410, m0),
   (15, .if_icmp .ge 25, 3, 40, 0, 0, m0),
   (18, .nop, 0, 0, 0, 0, m0)]),
  (18, [], false, [(18, .aload_n 0, 1, 0, 0, 0, m0),
   (19, .getfield 27, 3, 5, 4, 409, m0),
   (22, .iconst 1, 1, 0, 0, 0, m0),
   (23, .iload_n 1, 1, 0, 0, 0, m0),
   (24, .ishl, 1, 0, 0, 0, m0),
   (25, .aload_n 0, 1, 0, 0, 0, m0),
   (26, .getfield 34, 3, 7, 4, 411, m0),
   (29, .iconst 1, 1, 0, 0, 0, m0),
   (30, .iload_n 1, 1, 0, 0, 0, m0),
   (31, .ishl, 1, 0, 0, 0, m0),
   (32, .iand, 1, 0, 0, 0, m0),
   (33, .iastore, 1, 0, 0, 0, m0),
   (34, .iinc 1 1, 3, 0, 0, 0, m0),
   (37, .goto (-27), 3, 10, 0, 0, m0)]),
  (40, [], false, [(40, .iconst 0, 1, 0, 0, 0, m0),
   (41, .istore_n 1, 1, 0, 0, 0, m0),
   (42, .iconst 1, 1, 0, 0, 0, m0),
   (43, .istore_n 2, 1, 0, 0, 0, m0),
   (44, .nop, 0, 0, 0, 0, m0)]),
  (44, [0, 1, 2], true, [(44, .iload_n 2, 1, 0, 0, 0, m0),
   (45, .aload_n 0, 1, 0, 0, 0, m0),
   (46, .getfield 34, 3, 7, 4, 411, m0),
   (49, .if_icmp .gt 32, 3, 81, 0, 0, m0),
   (52, .nop, 0, 0, 0, 0, m0)]),
  (52, [], false, [(52, .aload_n 0, 1, 0, 0, 0, m0),
   (53, .getfield 27, 3, 5, 4, 409, m0),
   (56, .iload_n 2, 1, 0, 0, 0, m0),
   (57, .iaload, 1, 0, 0, 0, m0),
   (58, .ifCond .eq 17, 3, 75, 0, 0, m0),
   (61, .nop, 0, 0, 0, 0, m0)]),
  (61, [], false, [(61, .iload_n 1, 1, 0, 0, 0, m0),
   (62, .iload_n 2, 1, 0, 0, 0, m0),
   (63, .invokestatic 56, 3, 0, 0, 1164, m_Integer_bitCount),
   (66, .invokestatic 69, 3, 0, 0, 1174, m_Math_max),
   (69, .istore_n 1, 1, 0, 0, 0, m0),
   (70, .aload_n 0, 1, 0, 0, 0, m0),
   (71, .iload_n 2, 1, 0, 0, 0, m0),
   (72, .invokevirtual 88, 3, 0, 0, 1268, m_Ties_lengthen),
   (75, .nop, 0, 0, 0, 0, m0)]),
  (75, [], false, [(75, .iinc 2 1, 3, 0, 0, 0, m0),
   (78, .goto (-34), 3, 44, 0, 0, m0)]),
  (81, [], false, [(81, .iload_n 1, 1, 0, 0, 0, m0),
   (82, .ireturn, 1, 0, 0, 0, m0)])]
theorem ok_Ties_longestRow : okBt m_Ties_longestRow bt_Ties_longestRow = true := by decide +kernel
set_option maxRecDepth 100000 in
theorem b_Ties_longestRow_0 {l : Launch} {E : EnvT} {d : Nat} {K : AV → Mem → Prop} {M : Mem}  (hd : 1 ≤ d)
  (h : CT l E (d - 1) m_Arrays_fill1 [(.ref 12, 36), (.int (iN 0), 0)] M (fun v1 M1 =>
   G l E d m_Ties_longestRow 10 [(0, (.ref 12, 30)), (1, (.int (iN 0), 0))] [] M1 K)) :
  G l E d m_Ties_longestRow 0 [(0, (.ref 12, 30))] [] M K := G.blk 60 _ hd ok_Ties_longestRow rfl h
set_option maxRecDepth 100000 in
theorem b_Ties_longestRow_10 {l : Launch} {E : EnvT} {d : Nat} {K : AV → Mem → Prop} {M : Mem} {x1 : Int32} (hd : 1 ≤ d)
  (h : (((iN (M 12 0 6)) ≤ x1 →
   G l E d m_Ties_longestRow 44 [(0, (.ref 12, 30)), (1, (.int (iN 0), 0)), (2, (.int (iN 1), 0))] [] M K) ∧
  (¬ (iN (M 12 0 6)) ≤ x1 →
   (vp_in ((iN 1) <<< (x1 &&& 31)) 256 ∧ G l E d m_Ties_longestRow 10 [(0, (.ref 12, 30)), (1, (.int (x1 + iN 1), 0))] [] (upd3 M 12 6 (((iN 1) <<< (x1 &&& 31))).toNatClampNeg (((iN (M 12 0 7)) &&& ((iN 1) <<< (x1 &&& 31)))).toInt) K)))) :
  G l E d m_Ties_longestRow 10 [(0, (.ref 12, 30)), (1, (.int x1, 0))] [] M K := G.blk 60 _ hd ok_Ties_longestRow rfl h
set_option maxRecDepth 100000 in
theorem b_Ties_longestRow_44 {l : Launch} {E : EnvT} {d : Nat} {K : AV → Mem → Prop} {M : Mem} {x1 : Int32} {x2 : Int32} (hd : 1 ≤ d)
  (h : (((iN (M 12 0 7)) < x2 →
   K (.int x1, 0) M) ∧
  (¬ (iN (M 12 0 7)) < x2 →
   (vp_in x2 256 ∧ (((iN (M 12 6 (x2).toNatClampNeg)) = 0 →
    G l E d m_Ties_longestRow 44 [(0, (.ref 12, 30)), (1, (.int x1, 0)), (2, (.int (x2 + iN 1), 0))] [] M K) ∧
   (¬ (iN (M 12 6 (x2).toNatClampNeg)) = 0 →
    CT l E (d - 1) m_Integer_bitCount [(.int x2, 0)] M (fun v1 M1 =>
     CT l E (d - 1) m_Math_max [(.int x1, 0), (.int (toI v1), 0)] M1 (fun v2 M2 =>
      CT l E (d - 1) m_Ties_lengthen [(.ref 12, 30), (.int x2, 0)] M2 (fun v3 M3 =>
       G l E d m_Ties_longestRow 44 [(0, (.ref 12, 30)), (1, (.int (toI v2), 0)), (2, (.int (x2 + iN 1), 0))] [] M3 K))))))))) :
  G l E d m_Ties_longestRow 44 [(0, (.ref 12, 30)), (1, (.int x1, 0)), (2, (.int x2, 0))] [] M K := G.blk 60 _ hd ok_Ties_longestRow rfl h
def bt_Ties_reachedFrom : BtT := [(0, [0, 1], true, [(0, .iconst 1, 1, 0, 0, 0, m0),
   (1, .iload_n 1, 1, 0, 0, 0, m0),
   (2, .ishl, 1, 0, 0, 0, m0),
   (3, .istore_n 2, 1, 0, 0, 0, m0),
   (4, .iconst 0, 1, 0, 0, 0, m0),
   (5, .istore_n 3, 1, 0, 0, 0, m0),
   (6, .nop, 0, 0, 0, 0, m0)]),
  (6, [0, 1, 2, 3], true, [(6, .iload_n 3, 1, 0, 0, 0, m0),
   (7, .aload_n 0, 1, 0, 0, 0, m0),
   (8, .getfield 30, 3, 6, 4, 410, m0),
   (11, .if_icmp .ge 46, 3, 57, 0, 0, m0),
   (14, .nop, 0, 0, 0, 0, m0)]),
  (14, [], false, [(14, .iconst 0, 1, 0, 0, 0, m0),
   (15, .istore 4, 2, 0, 0, 0, m0),
   (17, .nop, 0, 0, 0, 0, m0)]),
  (17, [0, 1, 2, 3, 4], true, [(17, .iload 4, 2, 0, 0, 0, m0),
   (19, .aload_n 0, 1, 0, 0, 0, m0),
   (20, .getfield 30, 3, 6, 4, 410, m0),
   (23, .if_icmp .ge 28, 3, 51, 0, 0, m0),
   (26, .nop, 0, 0, 0, 0, m0)]),
  (26, [], false, [(26, .iload_n 2, 1, 0, 0, 0, m0),
   (27, .iload 4, 2, 0, 0, 0, m0),
   (29, .invokestatic 65, 3, 0, 0, 1173, m_Choir_isIn),
   (32, .ifCond .eq 13, 3, 45, 0, 0, m0),
   (35, .nop, 0, 0, 0, 0, m0)]),
  (35, [], false, [(35, .iload_n 2, 1, 0, 0, 0, m0),
   (36, .aload_n 0, 1, 0, 0, 0, m0),
   (37, .getfield 15, 3, 1, 4, 404, m0),
   (40, .iload 4, 2, 0, 0, 0, m0),
   (42, .iaload, 1, 0, 0, 0, m0),
   (43, .ior, 1, 0, 0, 0, m0),
   (44, .istore_n 2, 1, 0, 0, 0, m0),
   (45, .nop, 0, 0, 0, 0, m0)]),
  (45, [], false, [(45, .iinc 4 1, 3, 0, 0, 0, m0),
   (48, .goto (-31), 3, 17, 0, 0, m0)]),
  (51, [], false, [(51, .iinc 3 1, 3, 0, 0, 0, m0),
   (54, .goto (-48), 3, 6, 0, 0, m0)]),
  (57, [], false, [(57, .iload_n 2, 1, 0, 0, 0, m0),
   (58, .iconst 1, 1, 0, 0, 0, m0),
   (59, .iload_n 1, 1, 0, 0, 0, m0),
   (60, .ishl, 1, 0, 0, 0, m0),
   (61, .iconst (-1), 1, 0, 0, 0, m0),
   (62, .ixor, 1, 0, 0, 0, m0),
   (63, .iand, 1, 0, 0, 0, m0),
   (64, .ireturn, 1, 0, 0, 0, m0)])]
theorem ok_Ties_reachedFrom : okBt m_Ties_reachedFrom bt_Ties_reachedFrom = true := by decide +kernel
set_option maxRecDepth 100000 in
theorem b_Ties_reachedFrom_0 {l : Launch} {E : EnvT} {d : Nat} {K : AV → Mem → Prop} {M : Mem} {x1 : Int32} (hd : 1 ≤ d)
  (h : G l E d m_Ties_reachedFrom 6 [(0, (.ref 12, 30)), (1, (.int x1, 0)), (2, (.int ((iN 1) <<< (x1 &&& 31)), 0)), (3, (.int (iN 0), 0))] [] M K) :
  G l E d m_Ties_reachedFrom 0 [(0, (.ref 12, 30)), (1, (.int x1, 0))] [] M K := G.blk 60 _ hd ok_Ties_reachedFrom rfl h
set_option maxRecDepth 100000 in
theorem b_Ties_reachedFrom_6 {l : Launch} {E : EnvT} {d : Nat} {K : AV → Mem → Prop} {M : Mem} {x1 : Int32} {x2 : Int32} {x3 : Int32} (hd : 1 ≤ d)
  (h : (((iN (M 12 0 6)) ≤ x3 →
   K (.int (x2 &&& (((iN 1) <<< (x1 &&& 31)) ^^^ (iN (-1)))), 0) M) ∧
  (¬ (iN (M 12 0 6)) ≤ x3 →
   G l E d m_Ties_reachedFrom 17 [(0, (.ref 12, 30)), (1, (.int x1, 0)), (2, (.int x2, 0)), (3, (.int x3, 0)), (4, (.int (iN 0), 0))] [] M K))) :
  G l E d m_Ties_reachedFrom 6 [(0, (.ref 12, 30)), (1, (.int x1, 0)), (2, (.int x2, 0)), (3, (.int x3, 0))] [] M K := G.blk 60 _ hd ok_Ties_reachedFrom rfl h
set_option maxRecDepth 100000 in
theorem b_Ties_reachedFrom_17 {l : Launch} {E : EnvT} {d : Nat} {K : AV → Mem → Prop} {M : Mem} {x1 : Int32} {x2 : Int32} {x3 : Int32} {x4 : Int32} (hd : 1 ≤ d)
  (h : (((iN (M 12 0 6)) ≤ x4 →
   G l E d m_Ties_reachedFrom 6 [(0, (.ref 12, 30)), (1, (.int x1, 0)), (2, (.int x2, 0)), (3, (.int (x3 + iN 1), 0))] [] M K) ∧
  (¬ (iN (M 12 0 6)) ≤ x4 →
   CT l E (d - 1) m_Choir_isIn [(.int x2, 0), (.int x4, 0)] M (fun v1 M1 =>
    (((toI v1) = 0 →
     G l E d m_Ties_reachedFrom 17 [(0, (.ref 12, 30)), (1, (.int x1, 0)), (2, (.int x2, 0)), (3, (.int x3, 0)), (4, (.int (x4 + iN 1), 0))] [] M1 K) ∧
    (¬ (toI v1) = 0 →
     (vp_in x4 8 ∧ G l E d m_Ties_reachedFrom 17 [(0, (.ref 12, 30)), (1, (.int x1, 0)), (2, (.int (x2 ||| (iN (M1 12 2 (x4).toNatClampNeg))), 0)), (3, (.int x3, 0)), (4, (.int (x4 + iN 1), 0))] [] M1 K))))))) :
  G l E d m_Ties_reachedFrom 17 [(0, (.ref 12, 30)), (1, (.int x1, 0)), (2, (.int x2, 0)), (3, (.int x3, 0)), (4, (.int x4, 0))] [] M K := G.blk 60 _ hd ok_Ties_reachedFrom rfl h
