def bt_Mod_books : BtT := [(0, [0, 1, 2, 3], true, [(0, .aload_n 0, 1, 0, 0, 0, m0),
   (1, .iload_n 2, 1, 0, 0, 0, m0),
   (2, .iload_n 1, 1, 0, 0, 0, m0),
   (3, .invokevirtual 177, 3, 0, 0, 1704, m_Mod_noteOf),
   (6, .istore 4, 2, 0, 0, 0, m0),
   (8, .iload 4, 2, 0, 0, 0, m0),
   (10, .iconst (-1), 1, 0, 0, 0, m0),
   (11, .if_icmp .eq 39, 3, 50, 0, 0, m0),
   (14, .nop, 0, 0, 0, 0, m0)]),
  (14, [], false, [(14, .aload_n 0, 1, 0, 0, 0, m0),
   (15, .iload_n 2, 1, 0, 0, 0, m0),
   (16, .iload 4, 2, 0, 0, 0, m0),
   (18, .invokevirtual 180, 3, 0, 0, 1716, m_Mod_debtAt),
   (21, .iload_n 3, 1, 0, 0, 0, m0),
   (22, .iadd, 1, 0, 0, 0, m0),
   (23, .sipush 999, 3, 0, 0, 0, m0),
   (26, .if_icmp .le 5, 3, 31, 0, 0, m0),
   (29, .nop, 0, 0, 0, 0, m0)]),
  (29, [], false, [(29, .iconst 0, 1, 0, 0, 0, m0),
   (30, .ireturn, 1, 0, 0, 0, m0)]),
  (31, [], false, [(31, .aload_n 0, 1, 0, 0, 0, m0),
   (32, .iload_n 2, 1, 0, 0, 0, m0),
   (33, .iload 4, 2, 0, 0, 0, m0),
   (35, .iload_n 1, 1, 0, 0, 0, m0),
   (36, .aload_n 0, 1, 0, 0, 0, m0),
   (37, .iload_n 2, 1, 0, 0, 0, m0),
   (38, .iload 4, 2, 0, 0, 0, m0),
   (40, .invokevirtual 180, 3, 0, 0, 1716, m_Mod_debtAt),
   (43, .iload_n 3, 1, 0, 0, 0, m0),
   (44, .iadd, 1, 0, 0, 0, m0),
   (45, .invokevirtual 183, 3, 0, 0, 1720, m_Mod_stands),
   (48, .iconst 1, 1, 0, 0, 0, m0),
   (49, .ireturn, 1, 0, 0, 0, m0)]),
  (50, [], false, [(50, .aload_n 0, 1, 0, 0, 0, m0),
   (51, .iload_n 1, 1, 0, 0, 0, m0),
   (52, .iload_n 2, 1, 0, 0, 0, m0),
   (53, .invokevirtual 187, 3, 0, 0, 1724, m_Mod_waiterOf),
   (56, .istore 5, 2, 0, 0, 0, m0),
   (58, .iload 5, 2, 0, 0, 0, m0),
   (60, .iconst (-1), 1, 0, 0, 0, m0),
   (61, .if_icmp .ne 12, 3, 73, 0, 0, m0),
   (64, .nop, 0, 0, 0, 0, m0)]),
  (64, [], false, [(64, .aload_n 0, 1, 0, 0, 0, m0),
   (65, .iload_n 2, 1, 0, 0, 0, m0),
   (66, .iconst (-1), 1, 0, 0, 0, m0),
   (67, .invokevirtual 177, 3, 0, 0, 1704, m_Mod_noteOf),
   (70, .goto 4, 3, 74, 0, 0, m0)]),
  (73, [], false, [(73, .iconst (-1), 1, 0, 0, 0, m0),
   (74, .nop, 0, 0, 0, 0, m0)]),
  (74, [], false, [(74, .istore 4, 2, 0, 0, 0, m0),
   (76, .iload 4, 2, 0, 0, 0, m0),
   (78, .iconst (-1), 1, 0, 0, 0, m0),
   (79, .if_icmp .eq 14, 3, 93, 0, 0, m0),
   (82, .nop, 0, 0, 0, 0, m0)]),
  (82, [], false, [(82, .aload_n 0, 1, 0, 0, 0, m0),
   (83, .iload_n 2, 1, 0, 0, 0, m0),
   (84, .iload 4, 2, 0, 0, 0, m0),
   (86, .iload_n 1, 1, 0, 0, 0, m0),
   (87, .iload_n 3, 1, 0, 0, 0, m0),
   (88, .invokevirtual 183, 3, 0, 0, 1720, m_Mod_stands),
   (91, .iconst 1, 1, 0, 0, 0, m0),
   (92, .ireturn, 1, 0, 0, 0, m0)]),
  (93, [], false, [(93, .iload 5, 2, 0, 0, 0, m0),
   (95, .iconst (-1), 1, 0, 0, 0, m0),
   (96, .if_icmp .ne 21, 3, 117, 0, 0, m0),
   (99, .nop, 0, 0, 0, 0, m0)]),
  (99, [], false, [(99, .aload_n 0, 1, 0, 0, 0, m0),
   (100, .getfield 7, 3, 0, 11, 1447, m0),
   (103, .aload_n 0, 1, 0, 0, 0, m0),
   (104, .getfield 165, 3, 21, 11, 1468, m0),
   (107, .iconst 5, 1, 0, 0, 0, m0),
   (108, .iadd, 1, 0, 0, 0, m0),
   (109, .iaload, 1, 0, 0, 0, m0),
   (110, .bipush 8, 2, 0, 0, 0, m0),
   (112, .if_icmp .ne 5, 3, 117, 0, 0, m0),
   (115, .nop, 0, 0, 0, 0, m0)]),
  (115, [], false, [(115, .iconst 0, 1, 0, 0, 0, m0),
   (116, .ireturn, 1, 0, 0, 0, m0)]),
  (117, [], false, [(117, .iload 5, 2, 0, 0, 0, m0),
   (119, .iconst (-1), 1, 0, 0, 0, m0),
   (120, .if_icmp .ne 92, 3, 212, 0, 0, m0),
   (123, .nop, 0, 0, 0, 0, m0)]),
  (123, [], false, [(123, .aload_n 0, 1, 0, 0, 0, m0),
   (124, .getfield 7, 3, 0, 11, 1447, m0),
   (127, .aload_n 0, 1, 0, 0, 0, m0),
   (128, .getfield 165, 3, 21, 11, 1468, m0),
   (131, .iconst 5, 1, 0, 0, 0, m0),
   (132, .iadd, 1, 0, 0, 0, m0),
   (133, .iaload, 1, 0, 0, 0, m0),
   (134, .istore 5, 2, 0, 0, 0, m0),
   (136, .nop, 0, 0, 0, 0, m0)]),
  (136, [0, 1, 2, 3, 5], true, [(136, .aload_n 0, 1, 0, 0, 0, m0),
   (137, .getfield 7, 3, 0, 11, 1447, m0),
   (140, .aload_n 0, 1, 0, 0, 0, m0),
   (141, .getfield 165, 3, 21, 11, 1468, m0),
   (144, .sipush 214, 3, 0, 0, 0, m0),
   (147, .iadd, 1, 0, 0, 0, m0),
   (148, .iconst 3, 1, 0, 0, 0, m0),
   (149, .iload 5, 2, 0, 0, 0, m0),
   (151, .imul, 1, 0, 0, 0, m0),
   (152, .iadd, 1, 0, 0, 0, m0),
   (153, .iload_n 1, 1, 0, 0, 0, m0),
   (154, .iastore, 1, 0, 0, 0, m0),
   (155, .nop, 0, 0, 0, 0, m0)]),
  (155, [0, 2, 3, 5], true, [(155, .aload_n 0, 1, 0, 0, 0, m0),
   (156, .getfield 7, 3, 0, 11, 1447, m0),
   (159, .aload_n 0, 1, 0, 0, 0, m0),
   (160, .getfield 165, 3, 21, 11, 1468, m0),
   (163, .sipush 214, 3, 0, 0, 0, m0),
   (166, .iadd, 1, 0, 0, 0, m0),
   (167, .iconst 3, 1, 0, 0, 0, m0),
   (168, .iload 5, 2, 0, 0, 0, m0),
   (170, .imul, 1, 0, 0, 0, m0),
   (171, .iadd, 1, 0, 0, 0, m0),
   (172, .iconst 1, 1, 0, 0, 0, m0),
   (173, .iadd, 1, 0, 0, 0, m0),
   (174, .iload_n 2, 1, 0, 0, 0, m0),
   (175, .iastore, 1, 0, 0, 0, m0),
   (176, .nop, 0, 0, 0, 0, m0)]),
  (176, [0, 3, 5], true, [(176, .aload_n 0, 1, 0, 0, 0, m0),
   (177, .getfield 7, 3, 0, 11, 1447, m0),
   (180, .aload_n 0, 1, 0, 0, 0, m0),
   (181, .getfield 165, 3, 21, 11, 1468, m0),
   (184, .sipush 214, 3, 0, 0, 0, m0),
   (187, .iadd, 1, 0, 0, 0, m0),
   (188, .iconst 3, 1, 0, 0, 0, m0),
   (189, .iload 5, 2, 0, 0, 0, m0),
   (191, .imul, 1, 0, 0, 0, m0),
   (192, .iadd, 1, 0, 0, 0, m0),
   (193, .iconst 2, 1, 0, 0, 0, m0),
   (194, .iadd, 1, 0, 0, 0, m0),
   (195, .iconst 0, 1, 0, 0, 0, m0),
   (196, .iastore, 1, 0, 0, 0, m0),
   (197, .nop, 0, 0, 0, 0, m0)]),
  (197, [0, 3, 5], true, [(197, .aload_n 0, 1, 0, 0, 0, m0),
   (198, .getfield 7, 3, 0, 11, 1447, m0),
   (201, .aload_n 0, 1, 0, 0, 0, m0),
   (202, .getfield 165, 3, 21, 11, 1468, m0),
   (205, .iconst 5, 1, 0, 0, 0, m0),
   (206, .iadd, 1, 0, 0, 0, m0),
   (207, .dup2, 1, 0, 0, 0, m0),
   (208, .iaload, 1, 0, 0, 0, m0),
   (209, .iconst 1, 1, 0, 0, 0, m0),
   (210, .iadd, 1, 0, 0, 0, m0),
   (211, .iastore, 1, 0, 0, 0, m0),
   (212, .nop, 0, 0, 0, 0, m0)]),
  (212, [0, 3, 5], true, [(212, .aload_n 0, 1, 0, 0, 0, m0),
   (213, .getfield 7, 3, 0, 11, 1447, m0),
   (216, .aload_n 0, 1, 0, 0, 0, m0),
   (217, .getfield 165, 3, 21, 11, 1468, m0),
   (220, .sipush 214, 3, 0, 0, 0, m0),
   (223, .iadd, 1, 0, 0, 0, m0),
   (224, .iconst 3, 1, 0, 0, 0, m0),
   (225, .iload 5, 2, 0, 0, 0, m0),
   (227, .imul, 1, 0, 0, 0, m0),
   (228, .iadd, 1, 0, 0, 0, m0),
   (229, .iconst 2, 1, 0, 0, 0, m0),
   (230, .iadd, 1, 0, 0, 0, m0),
   (231, .iaload, 1, 0, 0, 0, m0),
   (232, .iload_n 3, 1, 0, 0, 0, m0),
   (233, .iadd, 1, 0, 0, 0, m0),
   (234, .sipush 999, 3, 0, 0, 0, m0),
   (237, .if_icmp .le 5, 3, 242, 0, 0, m0),
   (240, .nop, 0, 0, 0, 0, m0)]),
  (240, [], false, [(240, .iconst 0, 1, 0, 0, 0, m0),
   (241, .ireturn, 1, 0, 0, 0, m0)]),
  (242, [], false, [(242, .aload_n 0, 1, 0, 0, 0, m0),
   (243, .getfield 7, 3, 0, 11, 1447, m0),
   (246, .aload_n 0, 1, 0, 0, 0, m0),
   (247, .getfield 165, 3, 21, 11, 1468, m0),
   (250, .sipush 214, 3, 0, 0, 0, m0),
   (253, .iadd, 1, 0, 0, 0, m0),
   (254, .iconst 3, 1, 0, 0, 0, m0),
   (255, .iload 5, 2, 0, 0, 0, m0),
   (257, .imul, 1, 0, 0, 0, m0),
   (258, .iadd, 1, 0, 0, 0, m0),
   (259, .iconst 2, 1, 0, 0, 0, m0),
   (260, .iadd, 1, 0, 0, 0, m0),
   (261, .dup2, 1, 0, 0, 0, m0),
   (262, .iaload, 1, 0, 0, 0, m0),
   (263, .iload_n 3, 1, 0, 0, 0, m0),
   (264, .iadd, 1, 0, 0, 0, m0),
   (265, .iastore, 1, 0, 0, 0, m0),
   (266, .iconst 1, 1, 0, 0, 0, m0),
   (267, .ireturn, 1, 0, 0, 0, m0)])]
theorem ok_Mod_books : okBt m_Mod_books bt_Mod_books = true := by decide +kernel
set_option maxRecDepth 100000 in
theorem b_Mod_books_0 {l : Launch} {E : EnvT} {d : Nat} {K : AV → Mem → Prop} {M : Mem} {x1 : Int32} {x2 : Int32} {x3 : Int32} (hd : 1 ≤ d)
  (h : CT l E (d - 1) m_Mod_noteOf [(.ref 24, 41), (.int x2, 0), (.int x1, 0)] M (fun v1 M1 =>
   (((toI v1) = (iN (-1)) →
    CT l E (d - 1) m_Mod_waiterOf [(.ref 24, 41), (.int x1, 0), (.int x2, 0)] M1 (fun v2 M2 =>
     ((¬ (toI v2) = (iN (-1)) →
      (((iN (-1)) = (iN (-1)) →
       ((¬ (toI v2) = (iN (-1)) →
        ((¬ (toI v2) = (iN (-1)) →
         G l E d m_Mod_books 212 [(0, (.ref 24, 41)), (3, (.int x3, 0)), (5, (.int (toI v2), 0))] [] M2 K) ∧
        ((toI v2) = (iN (-1)) →
         (vp_in ((iN (M2 24 0 21)) + (iN 5)) 3612 ∧ G l E d m_Mod_books 136 [(0, (.ref 24, 41)), (1, (.int x1, 0)), (2, (.int x2, 0)), (3, (.int x3, 0)), (5, (.int (iN (M2 24 1 (((iN (M2 24 0 21)) + (iN 5))).toNatClampNeg)), 0))] [] M2 K)))) ∧
       ((toI v2) = (iN (-1)) →
        (vp_in ((iN (M2 24 0 21)) + (iN 5)) 3612 ∧ ((¬ (iN (M2 24 1 (((iN (M2 24 0 21)) + (iN 5))).toNatClampNeg)) = (iN 8) →
         ((¬ (toI v2) = (iN (-1)) →
          G l E d m_Mod_books 212 [(0, (.ref 24, 41)), (3, (.int x3, 0)), (5, (.int (toI v2), 0))] [] M2 K) ∧
         ((toI v2) = (iN (-1)) →
          (vp_in ((iN (M2 24 0 21)) + (iN 5)) 3612 ∧ G l E d m_Mod_books 136 [(0, (.ref 24, 41)), (1, (.int x1, 0)), (2, (.int x2, 0)), (3, (.int x3, 0)), (5, (.int (iN (M2 24 1 (((iN (M2 24 0 21)) + (iN 5))).toNatClampNeg)), 0))] [] M2 K)))) ∧
        ((iN (M2 24 1 (((iN (M2 24 0 21)) + (iN 5))).toNatClampNeg)) = (iN 8) →
         ((((iN 0) = 0 ∨ (iN 0) = 1)) ∧ K (.int (iN 0), 0) M2))))))) ∧
      (¬ (iN (-1)) = (iN (-1)) →
       CT l E (d - 1) m_Mod_stands [(.ref 24, 41), (.int x2, 0), (.int (iN (-1)), 0), (.int x1, 0), (.int x3, 0)] M2 (fun v3 M3 =>
        ((((iN 1) = 0 ∨ (iN 1) = 1)) ∧ K (.int (iN 1), 0) M3))))) ∧
     ((toI v2) = (iN (-1)) →
      CT l E (d - 1) m_Mod_noteOf [(.ref 24, 41), (.int x2, 0), (.int (iN (-1)), 0)] M2 (fun v4 M4 =>
       (((toI v4) = (iN (-1)) →
        ((¬ (toI v2) = (iN (-1)) →
         ((¬ (toI v2) = (iN (-1)) →
          G l E d m_Mod_books 212 [(0, (.ref 24, 41)), (3, (.int x3, 0)), (5, (.int (toI v2), 0))] [] M4 K) ∧
         ((toI v2) = (iN (-1)) →
          (vp_in ((iN (M4 24 0 21)) + (iN 5)) 3612 ∧ G l E d m_Mod_books 136 [(0, (.ref 24, 41)), (1, (.int x1, 0)), (2, (.int x2, 0)), (3, (.int x3, 0)), (5, (.int (iN (M4 24 1 (((iN (M4 24 0 21)) + (iN 5))).toNatClampNeg)), 0))] [] M4 K)))) ∧
        ((toI v2) = (iN (-1)) →
         (vp_in ((iN (M4 24 0 21)) + (iN 5)) 3612 ∧ ((¬ (iN (M4 24 1 (((iN (M4 24 0 21)) + (iN 5))).toNatClampNeg)) = (iN 8) →
          ((¬ (toI v2) = (iN (-1)) →
           G l E d m_Mod_books 212 [(0, (.ref 24, 41)), (3, (.int x3, 0)), (5, (.int (toI v2), 0))] [] M4 K) ∧
          ((toI v2) = (iN (-1)) →
           (vp_in ((iN (M4 24 0 21)) + (iN 5)) 3612 ∧ G l E d m_Mod_books 136 [(0, (.ref 24, 41)), (1, (.int x1, 0)), (2, (.int x2, 0)), (3, (.int x3, 0)), (5, (.int (iN (M4 24 1 (((iN (M4 24 0 21)) + (iN 5))).toNatClampNeg)), 0))] [] M4 K)))) ∧
         ((iN (M4 24 1 (((iN (M4 24 0 21)) + (iN 5))).toNatClampNeg)) = (iN 8) →
          ((((iN 0) = 0 ∨ (iN 0) = 1)) ∧ K (.int (iN 0), 0) M4))))))) ∧
       (¬ (toI v4) = (iN (-1)) →
        CT l E (d - 1) m_Mod_stands [(.ref 24, 41), (.int x2, 0), (.int (toI v4), 0), (.int x1, 0), (.int x3, 0)] M4 (fun v5 M5 =>
         ((((iN 1) = 0 ∨ (iN 1) = 1)) ∧ K (.int (iN 1), 0) M5))))))))) ∧
   (¬ (toI v1) = (iN (-1)) →
    CT l E (d - 1) m_Mod_debtAt [(.ref 24, 41), (.int x2, 0), (.int (toI v1), 0)] M1 (fun v6 M6 =>
     ((((toI v6) + x3) ≤ (iN 999) →
      CT l E (d - 1) m_Mod_debtAt [(.ref 24, 41), (.int x2, 0), (.int (toI v1), 0)] M6 (fun v7 M7 =>
       CT l E (d - 1) m_Mod_stands [(.ref 24, 41), (.int x2, 0), (.int (toI v1), 0), (.int x1, 0), (.int ((toI v7) + x3), 0)] M7 (fun v8 M8 =>
        ((((iN 1) = 0 ∨ (iN 1) = 1)) ∧ K (.int (iN 1), 0) M8)))) ∧
     (¬ ((toI v6) + x3) ≤ (iN 999) →
      ((((iN 0) = 0 ∨ (iN 0) = 1)) ∧ K (.int (iN 0), 0) M6)))))))) :
  G l E d m_Mod_books 0 [(0, (.ref 24, 41)), (1, (.int x1, 0)), (2, (.int x2, 0)), (3, (.int x3, 0))] [] M K := G.blk 60 _ hd ok_Mod_books rfl h
set_option maxRecDepth 100000 in
theorem b_Mod_books_136 {l : Launch} {E : EnvT} {d : Nat} {K : AV → Mem → Prop} {M : Mem} {x1 : Int32} {x2 : Int32} {x3 : Int32} {x5 : Int32} (hd : 1 ≤ d)
  (h : (vp_in (((iN (M 24 0 21)) + (iN 214)) + ((iN 3) * x5)) 3612 ∧ G l E d m_Mod_books 155 [(0, (.ref 24, 41)), (2, (.int x2, 0)), (3, (.int x3, 0)), (5, (.int x5, 0))] [] (upd3 M 24 1 ((((iN (M 24 0 21)) + (iN 214)) + ((iN 3) * x5))).toNatClampNeg (x1).toInt) K)) :
  G l E d m_Mod_books 136 [(0, (.ref 24, 41)), (1, (.int x1, 0)), (2, (.int x2, 0)), (3, (.int x3, 0)), (5, (.int x5, 0))] [] M K := G.blk 60 _ hd ok_Mod_books rfl h
set_option maxRecDepth 100000 in
theorem b_Mod_books_155 {l : Launch} {E : EnvT} {d : Nat} {K : AV → Mem → Prop} {M : Mem} {x2 : Int32} {x3 : Int32} {x5 : Int32} (hd : 1 ≤ d)
  (h : (vp_in ((((iN (M 24 0 21)) + (iN 214)) + ((iN 3) * x5)) + (iN 1)) 3612 ∧ G l E d m_Mod_books 176 [(0, (.ref 24, 41)), (3, (.int x3, 0)), (5, (.int x5, 0))] [] (upd3 M 24 1 (((((iN (M 24 0 21)) + (iN 214)) + ((iN 3) * x5)) + (iN 1))).toNatClampNeg (x2).toInt) K)) :
  G l E d m_Mod_books 155 [(0, (.ref 24, 41)), (2, (.int x2, 0)), (3, (.int x3, 0)), (5, (.int x5, 0))] [] M K := G.blk 60 _ hd ok_Mod_books rfl h
set_option maxRecDepth 100000 in
theorem b_Mod_books_176 {l : Launch} {E : EnvT} {d : Nat} {K : AV → Mem → Prop} {M : Mem} {x3 : Int32} {x5 : Int32} (hd : 1 ≤ d)
  (h : (vp_in ((((iN (M 24 0 21)) + (iN 214)) + ((iN 3) * x5)) + (iN 2)) 3612 ∧ G l E d m_Mod_books 197 [(0, (.ref 24, 41)), (3, (.int x3, 0)), (5, (.int x5, 0))] [] (upd3 M 24 1 (((((iN (M 24 0 21)) + (iN 214)) + ((iN 3) * x5)) + (iN 2))).toNatClampNeg ((iN 0)).toInt) K)) :
  G l E d m_Mod_books 176 [(0, (.ref 24, 41)), (3, (.int x3, 0)), (5, (.int x5, 0))] [] M K := G.blk 60 _ hd ok_Mod_books rfl h
set_option maxRecDepth 100000 in
theorem b_Mod_books_197 {l : Launch} {E : EnvT} {d : Nat} {K : AV → Mem → Prop} {M : Mem} {x3 : Int32} {x5 : Int32} (hd : 1 ≤ d)
  (h : (vp_in ((iN (M 24 0 21)) + (iN 5)) 3612 ∧ vp_in ((iN (M 24 0 21)) + (iN 5)) 3612 ∧ G l E d m_Mod_books 212 [(0, (.ref 24, 41)), (3, (.int x3, 0)), (5, (.int x5, 0))] [] (upd3 M 24 1 (((iN (M 24 0 21)) + (iN 5))).toNatClampNeg (((iN (M 24 1 (((iN (M 24 0 21)) + (iN 5))).toNatClampNeg)) + (iN 1))).toInt) K)) :
  G l E d m_Mod_books 197 [(0, (.ref 24, 41)), (3, (.int x3, 0)), (5, (.int x5, 0))] [] M K := G.blk 60 _ hd ok_Mod_books rfl h
set_option maxRecDepth 100000 in
theorem b_Mod_books_212 {l : Launch} {E : EnvT} {d : Nat} {K : AV → Mem → Prop} {M : Mem} {x3 : Int32} {x5 : Int32} (hd : 1 ≤ d)
  (h : (vp_in ((((iN (M 24 0 21)) + (iN 214)) + ((iN 3) * x5)) + (iN 2)) 3612 ∧ ((((iN (M 24 1 (((((iN (M 24 0 21)) + (iN 214)) + ((iN 3) * x5)) + (iN 2))).toNatClampNeg)) + x3) ≤ (iN 999) →
   (vp_in ((((iN (M 24 0 21)) + (iN 214)) + ((iN 3) * x5)) + (iN 2)) 3612 ∧ vp_in ((((iN (M 24 0 21)) + (iN 214)) + ((iN 3) * x5)) + (iN 2)) 3612 ∧ (((iN 1) = 0 ∨ (iN 1) = 1)) ∧ K (.int (iN 1), 0) (upd3 M 24 1 (((((iN (M 24 0 21)) + (iN 214)) + ((iN 3) * x5)) + (iN 2))).toNatClampNeg (((iN (M 24 1 (((((iN (M 24 0 21)) + (iN 214)) + ((iN 3) * x5)) + (iN 2))).toNatClampNeg)) + x3)).toInt))) ∧
  (¬ ((iN (M 24 1 (((((iN (M 24 0 21)) + (iN 214)) + ((iN 3) * x5)) + (iN 2))).toNatClampNeg)) + x3) ≤ (iN 999) →
   ((((iN 0) = 0 ∨ (iN 0) = 1)) ∧ K (.int (iN 0), 0) M))))) :
  G l E d m_Mod_books 212 [(0, (.ref 24, 41)), (3, (.int x3, 0)), (5, (.int x5, 0))] [] M K := G.blk 60 _ hd ok_Mod_books rfl h
def bt_Mod_aDebt : BtT := [(0, [0], true, [(0, .aload_n 0, 1, 0, 0, 0, m0),
   (1, .invokevirtual 225, 3, 0, 0, 1691, m_Mod_twoTo),
   (4, .ifCond .ne 5, 3, 9, 0, 0, m0),
   (7, .nop, 0, 0, 0, 0, m0)]),
  (7, [], false, [(7, .iconst 0, 1, 0, 0, 0, m0),
   (8, .ireturn, 1, 0, 0, 0, m0)]),
  (9, [], false, [(9, .aload_n 0, 1, 0, 0, 0, m0),
   (10, .getfield 117, 3, 12, 11, 1459, m0),
   (13, .iconst 3, 1, 0, 0, 0, m0),
   (14, .if_icmp .ne 52, 3, 66, 0, 0, m0),
   (17, .nop, 0, 0, 0, 0, m0)]),
  (17, [], false, [(17, .aload_n 0, 1, 0, 0, 0, m0),
   (18, .getfield 114, 3, 15, 11, 1462, m0),
   (21, .i2l, 1, 0, 0, 0, m0),
   (22, .lconst 1, 1, 0, 0, 0, m0),
   (23, .ldc2_w 229, 3, 1, 99, 1699, m0),
   (26, .invokestatic 218, 3, 0, 0, 1684, m_Mod_isFrom),
   (29, .ifCond .eq 37, 3, 66, 0, 0, m0),
   (32, .nop, 0, 0, 0, 0, m0)]),
  (32, [], false, [(32, .aload_n 0, 1, 0, 0, 0, m0),
   (33, .aload_n 0, 1, 0, 0, 0, m0),
   (34, .getfield 7, 3, 0, 11, 1447, m0),
   (37, .sipush 3006, 3, 0, 0, 0, m0),
   (40, .iaload, 1, 0, 0, 0, m0),
   (41, .aload_n 0, 1, 0, 0, 0, m0),
   (42, .getfield 7, 3, 0, 11, 1447, m0),
   (45, .sipush 3007, 3, 0, 0, 0, m0),
   (48, .iaload, 1, 0, 0, 0, m0),
   (49, .aload_n 0, 1, 0, 0, 0, m0),
   (50, .getfield 114, 3, 15, 11, 1462, m0),
   (53, .invokevirtual 231, 3, 0, 0, 1700, m_Mod_books),
   (56, .ifCond .ne 10, 3, 66, 0, 0, m0),
   (59, .nop, 0, 0, 0, 0, m0)]),
  (59, [], false, [(59, .aload_n 0, 1, 0, 0, 0, m0),
   (60, .bipush 6, 2, 0, 0, 0, m0),
   (62, .invokevirtual 154, 3, 0, 0, 1651, m_Mod_fails),
   (65, .ireturn, 1, 0, 0, 0, m0)]),
  (66, [], false, [(66, .aload_n 0, 1, 0, 0, 0, m0),
   (67, .sipush 3008, 3, 0, 0, 0, m0),
   (70, .iconst 1, 1, 0, 0, 0, m0),
   (71, .bipush 99, 2, 0, 0, 0, m0),
   (73, .invokevirtual 206, 3, 0, 0, 1671, m_Mod_number),
   (76, .ireturn, 1, 0, 0, 0, m0)])]
theorem ok_Mod_aDebt : okBt m_Mod_aDebt bt_Mod_aDebt = true := by decide +kernel
set_option maxRecDepth 100000 in
theorem b_Mod_aDebt_0 {l : Launch} {E : EnvT} {d : Nat} {K : AV → Mem → Prop} {M : Mem}  (hd : 1 ≤ d)
  (h : CT l E (d - 1) m_Mod_twoTo [(.ref 24, 41)] M (fun v1 M1 =>
   ((¬ (toI v1) = 0 →
    ((¬ (iN (M1 24 0 12)) = (iN 3) →
     CT l E (d - 1) m_Mod_number [(.ref 24, 41), (.int (iN 3008), 0), (.int (iN 1), 0), (.int (iN 99), 0)] M1 (fun v2 M2 =>
      ((((toI v2) = 0 ∨ (toI v2) = 1)) ∧ K (.int (toI v2), 0) M2))) ∧
    ((iN (M1 24 0 12)) = (iN 3) →
     CT l E (d - 1) m_Mod_isFrom [(.long ((iN (M1 24 0 15))).toInt64, 0), (.long (lI 1), 0), (.long (lI 99), 0)] M1 (fun v3 M3 =>
      (((toI v3) = 0 →
       CT l E (d - 1) m_Mod_number [(.ref 24, 41), (.int (iN 3008), 0), (.int (iN 1), 0), (.int (iN 99), 0)] M3 (fun v4 M4 =>
        ((((toI v4) = 0 ∨ (toI v4) = 1)) ∧ K (.int (toI v4), 0) M4))) ∧
      (¬ (toI v3) = 0 →
       (vp_in (iN 3006) 3612 ∧ vp_in (iN 3007) 3612 ∧ CT l E (d - 1) m_Mod_books [(.ref 24, 41), (.int (iN (M3 24 1 ((iN 3006)).toNatClampNeg)), 0), (.int (iN (M3 24 1 ((iN 3007)).toNatClampNeg)), 0), (.int (iN (M3 24 0 15)), 0)] M3 (fun v5 M5 =>
        ((¬ (toI v5) = 0 →
         CT l E (d - 1) m_Mod_number [(.ref 24, 41), (.int (iN 3008), 0), (.int (iN 1), 0), (.int (iN 99), 0)] M5 (fun v6 M6 =>
          ((((toI v6) = 0 ∨ (toI v6) = 1)) ∧ K (.int (toI v6), 0) M6))) ∧
        ((toI v5) = 0 →
         CT l E (d - 1) m_Mod_fails [(.ref 24, 41), (.int (iN 6), 0)] M5 (fun v7 M7 =>
          ((((toI v7) = 0 ∨ (toI v7) = 1)) ∧ K (.int (toI v7), 0) M7)))))))))))) ∧
   ((toI v1) = 0 →
    ((((iN 0) = 0 ∨ (iN 0) = 1)) ∧ K (.int (iN 0), 0) M1))))) :
  G l E d m_Mod_aDebt 0 [(0, (.ref 24, 41))] [] M K := G.blk 60 _ hd ok_Mod_aDebt rfl h
def bt_Mod_isSign : BtT := [(0, [0, 1], true, [(0, .aload_n 0, 1, 0, 0, 0, m0),
   (1, .getfield 117, 3, 12, 11, 1459, m0),
   (4, .iconst 4, 1, 0, 0, 0, m0),
   (5, .if_icmp .ne 15, 3, 20, 0, 0, m0),
   (8, .nop, 0, 0, 0, 0, m0)]),
  (8, [], false, [(8, .aload_n 0, 1, 0, 0, 0, m0),
   (9, .getfield 114, 3, 15, 11, 1462, m0),
   (12, .iload_n 1, 1, 0, 0, 0, m0),
   (13, .if_icmp .ne 7, 3, 20, 0, 0, m0),
   (16, .nop, 0, 0, 0, 0, m0)]),
  (16, [], false, [(16, .iconst 1, 1, 0, 0, 0, m0),
   (17, .goto 4, 3, 21, 0, 0, m0)]),
  (20, [], false, [(20, .iconst 0, 1, 0, 0, 0, m0),
   (21, .nop, 0, 0, 0, 0, m0)]),
  (21, [], false, [(21, .ireturn, 1, 0, 0, 0, m0)])]
theorem ok_Mod_isSign : okBt m_Mod_isSign bt_Mod_isSign = true := by decide +kernel
set_option maxRecDepth 100000 in
theorem b_Mod_isSign_0 {l : Launch} {E : EnvT} {d : Nat} {K : AV → Mem → Prop} {M : Mem} {x1 : Int32} (hd : 1 ≤ d)
  (h : ((¬ (iN (M 24 0 12)) = (iN 4) →
   ((((iN 0) = 0 ∨ (iN 0) = 1)) ∧ K (.int (iN 0), 0) M)) ∧
  ((iN (M 24 0 12)) = (iN 4) →
   ((¬ (iN (M 24 0 15)) = x1 →
    ((((iN 0) = 0 ∨ (iN 0) = 1)) ∧ K (.int (iN 0), 0) M)) ∧
   ((iN (M 24 0 15)) = x1 →
    ((((iN 1) = 0 ∨ (iN 1) = 1)) ∧ K (.int (iN 1), 0) M)))))) :
  G l E d m_Mod_isSign 0 [(0, (.ref 24, 41)), (1, (.int x1, 0))] [] M K := G.blk 60 _ hd ok_Mod_isSign rfl h
def bt_Mod_wantSign : BtT := [(0, [0, 1], true, [(0, .aload_n 0, 1, 0, 0, 0, m0),
   (1, .iload_n 1, 1, 0, 0, 0, m0),
   (2, .invokevirtual 151, 3, 0, 0, 1732, m_Mod_isSign),
   (5, .ifCond .ne 9, 3, 14, 0, 0, m0),
   (8, .nop, 0, 0, 0, 0, m0)]),
  (8, [], false, [(8, .aload_n 0, 1, 0, 0, 0, m0),
   (9, .iconst 2, 1, 0, 0, 0, m0),
   (10, .invokevirtual 154, 3, 0, 0, 1651, m_Mod_fails),
   (13, .ireturn, 1, 0, 0, 0, m0)]),
  (14, [], false, [(14, .aload_n 0, 1, 0, 0, 0, m0),
   (15, .invokevirtual 148, 3, 0, 0, 1613, m_Mod_ahead),
   (18, .iconst 1, 1, 0, 0, 0, m0),
   (19, .ireturn, 1, 0, 0, 0, m0)])]
theorem ok_Mod_wantSign : okBt m_Mod_wantSign bt_Mod_wantSign = true := by decide +kernel
set_option maxRecDepth 100000 in
theorem b_Mod_wantSign_0 {l : Launch} {E : EnvT} {d : Nat} {K : AV → Mem → Prop} {M : Mem} {x1 : Int32} (hd : 1 ≤ d)
  (h : CT l E (d - 1) m_Mod_isSign [(.ref 24, 41), (.int x1, 0)] M (fun v1 M1 =>
   ((¬ (toI v1) = 0 →
    CT l E (d - 1) m_Mod_ahead [(.ref 24, 41)] M1 (fun v2 M2 =>
     ((((iN 1) = 0 ∨ (iN 1) = 1)) ∧ K (.int (iN 1), 0) M2))) ∧
   ((toI v1) = 0 →
    CT l E (d - 1) m_Mod_fails [(.ref 24, 41), (.int (iN 2), 0)] M1 (fun v3 M3 =>
     ((((toI v3) = 0 ∨ (toI v3) = 1)) ∧ K (.int (toI v3), 0) M3)))))) :
  G l E d m_Mod_wantSign 0 [(0, (.ref 24, 41)), (1, (.int x1, 0))] [] M K := G.blk 60 _ hd ok_Mod_wantSign rfl h
def bt_Mod_choirPart : BtT := [(0, [0], true, [(0, .aload_n 0, 1, 0, 0, 0, m0),
   (1, .ldc 193, 2, 2, 8, 0, m0),
   (3, .invokevirtual 157, 3, 0, 0, 1638, m_Mod_inWords),
   (6, .tableswitch 124 0 3 #[30, 38, 46, 88], 30, 0, 0, 0, m0)]),
  (36, [], false, [(36, .aload_n 0, 1, 0, 0, 0, m0),
   (37, .invokevirtual 234, 3, 0, 0, 1644, m_Mod_aSinger),
   (40, .istore_n 1, 1, 0, 0, 0, m0),
   (41, .goto 95, 3, 136, 0, 0, m0)]),
  (44, [], false, [(44, .aload_n 0, 1, 0, 0, 0, m0),
   (45, .invokevirtual 237, 3, 0, 0, 1687, m_Mod_aDebt),
   (48, .istore_n 1, 1, 0, 0, 0, m0),
   (49, .goto 87, 3, 136, 0, 0, m0)]),
  (52, [], false, [(52, .aload_n 0, 1, 0, 0, 0, m0),
   (53, .invokevirtual 225, 3, 0, 0, 1691, m_Mod_twoTo),
   (56, .istore_n 1, 1, 0, 0, 0, m0),
   (57, .iload_n 1, 1, 0, 0, 0, m0),
   (58, .ifCond .eq 78, 3, 136, 0, 0, m0),
   (61, .nop, 0, 0, 0, 0, m0)]),
  (61, [], false, [(61, .aload_n 0, 1, 0, 0, 0, m0),
   (62, .getfield 7, 3, 0, 11, 1447, m0),
   (65, .sipush 2408, 3, 0, 0, 0, m0),
   (68, .aload_n 0, 1, 0, 0, 0, m0),
   (69, .getfield 7, 3, 0, 11, 1447, m0),
   (72, .sipush 3006, 3, 0, 0, 0, m0),
   (75, .iaload, 1, 0, 0, 0, m0),
   (76, .invokestatic 168, 3, 0, 0, 1648, m_Mod_singerRow),
   (79, .iadd, 1, 0, 0, 0, m0),
   (80, .iconst 5, 1, 0, 0, 0, m0),
   (81, .iadd, 1, 0, 0, 0, m0),
   (82, .aload_n 0, 1, 0, 0, 0, m0),
   (83, .getfield 7, 3, 0, 11, 1447, m0),
   (86, .sipush 3007, 3, 0, 0, 0, m0),
   (89, .iaload, 1, 0, 0, 0, m0),
   (90, .iastore, 1, 0, 0, 0, m0),
   (91, .goto 45, 3, 136, 0, 0, m0)]),
  (94, [], false, [(94, .aload_n 0, 1, 0, 0, 0, m0),
   (95, .getfield 240, 3, 20, 11, 1467, m0),
   (98, .ifCond .le 9, 3, 107, 0, 0, m0),
   (101, .nop, 0, 0, 0, 0, m0)]),
  (101, [], false, [(101, .aload_n 0, 1, 0, 0, 0, m0),
   (102, .iconst 5, 1, 0, 0, 0, m0),
   (103, .invokevirtual 154, 3, 0, 0, 1651, m_Mod_fails),
   (106, .ireturn, 1, 0, 0, 0, m0)]),
  (107, [], false, [(107, .aload_n 0, 1, 0, 0, 0, m0),
   (108, .iconst 1, 1, 0, 0, 0, m0),
   (109, .putfield 240, 3, 20, 11, 1467, m0),
   (112, .aload_n 0, 1, 0, 0, 0, m0),
   (113, .invokevirtual 148, 3, 0, 0, 1613, m_Mod_ahead),
   (116, .aload_n 0, 1, 0, 0, 0, m0),
   (117, .sipush 2409, 3, 0, 0, 0, m0),
   (120, .iconst 0, 1, 0, 0, 0, m0),
   (121, .bipush 50, 2, 0, 0, 0, m0),
   (123, .invokevirtual 206, 3, 0, 0, 1671, m_Mod_number),
   (126, .istore_n 1, 1, 0, 0, 0, m0),
   (127, .goto 9, 3, 136, 0, 0, m0)]),
  (130, [], false, [(130, .aload_n 0, 1, 0, 0, 0, m0),
   (131, .iconst 2, 1, 0, 0, 0, m0),
   (132, .invokevirtual 154, 3, 0, 0, 1651, m_Mod_fails),
   (135, .ireturn, 1, 0, 0, 0, m0)]),
  (136, [0, 1], true, [(136, .iload_n 1, 1, 0, 0, 0, m0),
   (137, .ifCond .eq 16, 3, 153, 0, 0, m0),
   (140, .nop, 0, 0, 0, 0, m0)]),
  (140, [], false, [(140, .aload_n 0, 1, 0, 0, 0, m0),
   (141, .bipush 59, 2, 0, 0, 0, m0),
   (143, .invokevirtual 243, 3, 0, 0, 1728, m_Mod_wantSign),
   (146, .ifCond .eq 7, 3, 153, 0, 0, m0),
   (149, .nop, 0, 0, 0, 0, m0)]),
  (149, [], false, [(149, .iconst 1, 1, 0, 0, 0, m0),
   (150, .goto 4, 3, 154, 0, 0, m0)]),
  (153, [], false, [(153, .iconst 0, 1, 0, 0, 0, m0),
   (154, .nop, 0, 0, 0, 0, m0)]),
  (154, [], false, [(154, .ireturn, 1, 0, 0, 0, m0)])]
theorem ok_Mod_choirPart : okBt m_Mod_choirPart bt_Mod_choirPart = true := by decide +kernel
set_option maxRecDepth 100000 in
theorem b_Mod_choirPart_0 {l : Launch} {E : EnvT} {d : Nat} {K : AV → Mem → Prop} {M : Mem}  (hd : 1 ≤ d)
  (h : CT l E (d - 1) m_Mod_inWords [(.ref 24, 41), (.ref 8, 999)] M (fun v1 M1 =>
   (((toI v1) = iN 0 →
    CT l E (d - 1) m_Mod_aSinger [(.ref 24, 41)] M1 (fun v9 M9 =>
     G l E d m_Mod_choirPart 136 [(0, (.ref 24, 41)), (1, (.int (toI v9), 0))] [] M9 K)) ∧
   (¬ (toI v1) = iN 0 →
    (((toI v1) = iN 1 →
    CT l E (d - 1) m_Mod_aDebt [(.ref 24, 41)] M1 (fun v8 M8 =>
     G l E d m_Mod_choirPart 136 [(0, (.ref 24, 41)), (1, (.int (toI v8), 0))] [] M8 K)) ∧
   (¬ (toI v1) = iN 1 →
    (((toI v1) = iN 2 →
    CT l E (d - 1) m_Mod_twoTo [(.ref 24, 41)] M1 (fun v6 M6 =>
     (((toI v6) = 0 →
      G l E d m_Mod_choirPart 136 [(0, (.ref 24, 41)), (1, (.int (toI v6), 0))] [] M6 K) ∧
     (¬ (toI v6) = 0 →
      (vp_in (iN 3006) 3612 ∧ CT l E (d - 1) m_Mod_singerRow [(.int (iN (M6 24 1 ((iN 3006)).toNatClampNeg)), 0)] M6 (fun v7 M7 =>
       (vp_in (iN 3007) 3612 ∧ vp_in (((iN 2408) + (toI v7)) + (iN 5)) 3612 ∧ G l E d m_Mod_choirPart 136 [(0, (.ref 24, 41)), (1, (.int (toI v6), 0))] [] (upd3 M7 24 1 ((((iN 2408) + (toI v7)) + (iN 5))).toNatClampNeg ((iN (M7 24 1 ((iN 3007)).toNatClampNeg))).toInt) K))))))) ∧
   (¬ (toI v1) = iN 2 →
    (((toI v1) = iN 3 →
    (((iN (M1 24 0 20)) ≤ 0 →
     CT l E (d - 1) m_Mod_ahead [(.ref 24, 41)] (upd3 M1 24 0 20 ((iN 1)).toInt) (fun v3 M3 =>
      CT l E (d - 1) m_Mod_number [(.ref 24, 41), (.int (iN 2409), 0), (.int (iN 0), 0), (.int (iN 50), 0)] M3 (fun v4 M4 =>
       G l E d m_Mod_choirPart 136 [(0, (.ref 24, 41)), (1, (.int (toI v4), 0))] [] M4 K))) ∧
    (¬ (iN (M1 24 0 20)) ≤ 0 →
     CT l E (d - 1) m_Mod_fails [(.ref 24, 41), (.int (iN 5), 0)] M1 (fun v5 M5 =>
      ((((toI v5) = 0 ∨ (toI v5) = 1)) ∧ K (.int (toI v5), 0) M5))))) ∧
   (¬ (toI v1) = iN 3 →
    CT l E (d - 1) m_Mod_fails [(.ref 24, 41), (.int (iN 2), 0)] M1 (fun v2 M2 =>
     ((((toI v2) = 0 ∨ (toI v2) = 1)) ∧ K (.int (toI v2), 0) M2)))))))))))) :
  G l E d m_Mod_choirPart 0 [(0, (.ref 24, 41))] [] M K := G.blk 60 _ hd ok_Mod_choirPart rfl h
set_option maxRecDepth 100000 in
theorem b_Mod_choirPart_136 {l : Launch} {E : EnvT} {d : Nat} {K : AV → Mem → Prop} {M : Mem} {x1 : Int32} (hd : 1 ≤ d)
  (h : ((x1 = 0 →
   ((((iN 0) = 0 ∨ (iN 0) = 1)) ∧ K (.int (iN 0), 0) M)) ∧
  (¬ x1 = 0 →
   CT l E (d - 1) m_Mod_wantSign [(.ref 24, 41), (.int (iN 59), 0)] M (fun v1 M1 =>
    (((toI v1) = 0 →
     ((((iN 0) = 0 ∨ (iN 0) = 1)) ∧ K (.int (iN 0), 0) M1)) ∧
    (¬ (toI v1) = 0 →
     ((((iN 1) = 0 ∨ (iN 1) = 1)) ∧ K (.int (iN 1), 0) M1))))))) :
  G l E d m_Mod_choirPart 136 [(0, (.ref 24, 41)), (1, (.int x1, 0))] [] M K := G.blk 60 _ hd ok_Mod_choirPart rfl h
def bt_Mod_gives : BtT := [(0, [0, 1], true, [(0, .aload_n 0, 1, 0, 0, 0, m0),
   (1, .iconst 0, 1, 0, 0, 0, m0),
   (2, .putfield 66, 3, 2, 11, 1449, m0),
   (5, .iload_n 1, 1, 0, 0, 0, m0),
   (6, .ireturn, 1, 0, 0, 0, m0)])]
theorem ok_Mod_gives : okBt m_Mod_gives bt_Mod_gives = true := by decide +kernel
set_option maxRecDepth 100000 in
theorem b_Mod_gives_0 {l : Launch} {E : EnvT} {d : Nat} {K : AV → Mem → Prop} {M : Mem} {x1 : Int32} (hd : 1 ≤ d)
  (h : K (.int x1, 0) (upd3 M 24 0 2 ((iN 0)).toInt)) :
  G l E d m_Mod_gives 0 [(0, (.ref 24, 41)), (1, (.int x1, 0))] [] M K := G.blk 60 _ hd ok_Mod_gives rfl h
def bt_Mod_taken : BtT := [(0, [0, 1], true, [(0, .aload_n 0, 1, 0, 0, 0, m0),
   (1, .aload_n 0, 1, 0, 0, 0, m0),
   (2, .getfield 142, 3, 18, 11, 1465, m0),
   (5, .putfield 37, 3, 16, 11, 1463, m0),
   (8, .aload_n 0, 1, 0, 0, 0, m0),
   (9, .getfield 142, 3, 18, 11, 1465, m0),
   (12, .ifCond .le 12, 3, 24, 0, 0, m0),
   (15, .nop, 0, 0, 0, 0, m0)]),
  (15, [], false, [(15, .aload_n 0, 1, 0, 0, 0, m0),
   (16, .bipush 9, 2, 0, 0, 0, m0),
   (18, .invokevirtual 72, 3, 0, 0, 1629, m_Mod_refuse),
   (21, .goto 8, 3, 29, 0, 0, m0)]),
  (24, [], false, [(24, .aload_n 0, 1, 0, 0, 0, m0),
   (25, .iload_n 1, 1, 0, 0, 0, m0),
   (26, .invokevirtual 76, 3, 0, 0, 1740, m_Mod_gives),
   (29, .nop, 0, 0, 0, 0, m0)]),
  (29, [], false, [(29, .ireturn, 1, 0, 0, 0, m0)])]
theorem ok_Mod_taken : okBt m_Mod_taken bt_Mod_taken = true := by decide +kernel
set_option maxRecDepth 100000 in
theorem b_Mod_taken_0 {l : Launch} {E : EnvT} {d : Nat} {K : AV → Mem → Prop} {M : Mem} {x1 : Int32} (hd : 1 ≤ d)
  (h : (((iN ((upd3 M 24 0 16 ((iN (M 24 0 18))).toInt) 24 0 18)) ≤ 0 →
   CT l E (d - 1) m_Mod_gives [(.ref 24, 41), (.int x1, 0)] (upd3 M 24 0 16 ((iN (M 24 0 18))).toInt) (fun v1 M1 =>
    K (.int (toI v1), 0) M1)) ∧
  (¬ (iN ((upd3 M 24 0 16 ((iN (M 24 0 18))).toInt) 24 0 18)) ≤ 0 →
   CT l E (d - 1) m_Mod_refuse [(.ref 24, 41), (.int (iN 9), 0)] (upd3 M 24 0 16 ((iN (M 24 0 18))).toInt) (fun v2 M2 =>
    K (.int (toI v2), 0) M2)))) :
  G l E d m_Mod_taken 0 [(0, (.ref 24, 41)), (1, (.int x1, 0))] [] M K := G.blk 60 _ hd ok_Mod_taken rfl h
def bt_Mod_choir : BtT := [(0, [0, 1], true, [(0, .aload_n 0, 1, 0, 0, 0, m0),
   (1, .iload_n 1, 1, 0, 0, 0, m0),
   (2, .sipush 900, 3, 0, 0, 0, m0),
   (5, .invokevirtual 246, 3, 0, 0, 1609, m_Mod_begins),
   (8, .ifCond .ne 9, 3, 17, 0, 0, m0),
   (11, .nop, 0, 0, 0, 0, m0)]),
  (11, [], false, [(11, .aload_n 0, 1, 0, 0, 0, m0),
   (12, .iconst 1, 1, 0, 0, 0, m0),
   (13, .invokevirtual 72, 3, 0, 0, 1629, m_Mod_refuse),
   (16, .ireturn, 1, 0, 0, 0, m0)]),
  (17, [], false, [(17, .aload_n 0, 1, 0, 0, 0, m0),
   (18, .sipush 2408, 3, 0, 0, 0, m0),
   (21, .invokevirtual 62, 3, 0, 0, 1443, m_Mod_plain),
   (24, .aload_n 0, 1, 0, 0, 0, m0),
   (25, .iconst 0, 1, 0, 0, 0, m0),
   (26, .putfield 240, 3, 20, 11, 1467, m0),
   (29, .aload_n 0, 1, 0, 0, 0, m0),
   (30, .sipush 2408, 3, 0, 0, 0, m0),
   (33, .putfield 165, 3, 21, 11, 1468, m0),
   (36, .iconst 1, 1, 0, 0, 0, m0),
   (37, .istore_n 2, 1, 0, 0, 0, m0),
   (38, .nop, 0, 0, 0, 0, m0)]),
  (38, [0, 2], true, [(38, .iload_n 2, 1, 0, 0, 0, m0),
   (39, .ifCond .eq 18, 3, 57, 0, 0, m0),
   (42, .nop, 0, 0, 0, 0, m0)]),
  (42, [], false, [(42, .aload_n 0, 1, 0, 0, 0, m0),
   (43, .getfield 117, 3, 12, 11, 1459, m0),
   (46, .ifCond .eq 11, 3, 57, 0, 0, m0),
   (49, .nop, 0, 0, 0, 0, m0)]),
  (49, [], false, [(49, .aload_n 0, 1, 0, 0, 0, m0),
   (50, .invokevirtual 250, 3, 0, 0, 1633, m_Mod_choirPart),
   (53, .istore_n 2, 1, 0, 0, 0, m0),
   (54, .goto (-16), 3, 38, 0, 0, m0)]),
  (57, [], false, [(57, .aload_n 0, 1, 0, 0, 0, m0),
   (58, .iconst 0, 1, 0, 0, 0, m0),
   (59, .putfield 165, 3, 21, 11, 1468, m0),
   (62, .aload_n 0, 1, 0, 0, 0, m0),
   (63, .getfield 142, 3, 18, 11, 1465, m0),
   (66, .ifCond .ne 63, 3, 129, 0, 0, m0),
   (69, .nop, 0, 0, 0, 0, m0)]),
  (69, [], false, [(69, .iconst 0, 1, 0, 0, 0, m0),
   (70, .istore_n 3, 1, 0, 0, 0, m0),
   (71, .nop, 0, 0, 0, 0, m0)]),
  (71, [0, 3], true, [(71, .iload_n 3, 1, 0, 0, 0, m0),
   (72, .sipush 602, 3, 0, 0, 0, m0),
   (75, .if_icmp .ge 25, 3, 100, 0, 0, m0),
   (78, .nop, 0, 0, 0, 0, m0)]),
  (78, [], false, [(78, .aload_n 0, 1, 0, 0, 0, m0),
   (79, .getfield 7, 3, 0, 11, 1447, m0),
   (82, .iload_n 3, 1, 0, 0, 0, m0),
   (83, .aload_n 0, 1, 0, 0, 0, m0),
   (84, .getfield 7, 3, 0, 11, 1447, m0),
   (87, .sipush 2408, 3, 0, 0, 0, m0),
   (90, .iload_n 3, 1, 0, 0, 0, m0),
   (91, .iadd, 1, 0, 0, 0, m0),
   (92, .iaload, 1, 0, 0, 0, m0),
   (93, .iastore, 1, 0, 0, 0, m0),
   (94, .iinc 3 1, 3, 0, 0, 0, m0),
   (97, .goto (-26), 3, 71, 0, 0, m0)]),
  (100, [], false, [(100, .iconst 0, 1, 0, 0, 0, m0),
   (101, .istore_n 3, 1, 0, 0, 0, m0),
   (102, .nop, 0, 0, 0, 0, m0)]),
  (102, [0, 3], true, [(102, .iload_n 3, 1, 0, 0, 0, m0),
   (103, .bipush 8, 2, 0, 0, 0, m0),
   (105, .if_icmp .ge 24, 3, 129, 0, 0, m0),
   (108, .nop, 0, 0, 0, 0, m0)]),
  (108, [], false, [(108, .aload_n 0, 1, 0, 0, 0, m0),
   (109, .getfield 13, 3, 1, 11, 1448, m0),
   (112, .iload_n 3, 1, 0, 0, 0, m0),
   (113, .aload_n 0, 1, 0, 0, 0, m0),
   (114, .getfield 13, 3, 1, 11, 1448, m0),
   (117, .bipush 32, 2, 0, 0, 0, m0),
   (119, .iload_n 3, 1, 0, 0, 0, m0),
   (120, .iadd, 1, 0, 0, 0, m0),
   (121, .laload, 1, 0, 0, 0, m0),
   (122, .lastore, 1, 0, 0, 0, m0),
   (123, .iinc 3 1, 3, 0, 0, 0, m0),
   (126, .goto (-24), 3, 102, 0, 0, m0)]),
  (129, [], false, [(129, .aload_n 0, 1, 0, 0, 0, m0),
   (130, .aload_n 0, 1, 0, 0, 0, m0),
   (131, .getfield 7, 3, 0, 11, 1447, m0),
   (134, .iconst 0, 1, 0, 0, 0, m0),
   (135, .iaload, 1, 0, 0, 0, m0),
   (136, .invokevirtual 253, 3, 0, 0, 1736, m_Mod_taken),
   (139, .ireturn, 1, 0, 0, 0, m0)])]
theorem ok_Mod_choir : okBt m_Mod_choir bt_Mod_choir = true := by decide +kernel
set_option maxRecDepth 100000 in
theorem b_Mod_choir_0 {l : Launch} {E : EnvT} {d : Nat} {K : AV → Mem → Prop} {M : Mem} {x1 : Int32} (hd : 1 ≤ d)
  (h : CT l E (d - 1) m_Mod_begins [(.ref 24, 41), (.int x1, 0), (.int (iN 900), 0)] M (fun v1 M1 =>
   ((¬ (toI v1) = 0 →
    CT l E (d - 1) m_Mod_plain [(.ref 24, 41), (.int (iN 2408), 0)] M1 (fun v2 M2 =>
     G l E d m_Mod_choir 38 [(0, (.ref 24, 41)), (2, (.int (iN 1), 0))] [] (upd3 (upd3 M2 24 0 20 ((iN 0)).toInt) 24 0 21 ((iN 2408)).toInt) K)) ∧
   ((toI v1) = 0 →
    CT l E (d - 1) m_Mod_refuse [(.ref 24, 41), (.int (iN 1), 0)] M1 (fun v3 M3 =>
     K (.int (toI v3), 0) M3))))) :
  G l E d m_Mod_choir 0 [(0, (.ref 24, 41)), (1, (.int x1, 0))] [] M K := G.blk 60 _ hd ok_Mod_choir rfl h
set_option maxRecDepth 100000 in
theorem b_Mod_choir_38 {l : Launch} {E : EnvT} {d : Nat} {K : AV → Mem → Prop} {M : Mem} {x2 : Int32} (hd : 1 ≤ d)
  (h : ((x2 = 0 →
   ((¬ (iN ((upd3 M 24 0 21 ((iN 0)).toInt) 24 0 18)) = 0 →
    (vp_in (iN 0) 3612 ∧ CT l E (d - 1) m_Mod_taken [(.ref 24, 41), (.int (iN ((upd3 M 24 0 21 ((iN 0)).toInt) 24 1 ((iN 0)).toNatClampNeg)), 0)] (upd3 M 24 0 21 ((iN 0)).toInt) (fun v1 M1 =>
     K (.int (toI v1), 0) M1))) ∧
   ((iN ((upd3 M 24 0 21 ((iN 0)).toInt) 24 0 18)) = 0 →
    G l E d m_Mod_choir 71 [(0, (.ref 24, 41)), (3, (.int (iN 0), 0))] [] (upd3 M 24 0 21 ((iN 0)).toInt) K))) ∧
  (¬ x2 = 0 →
   (((iN (M 24 0 12)) = 0 →
    ((¬ (iN ((upd3 M 24 0 21 ((iN 0)).toInt) 24 0 18)) = 0 →
     (vp_in (iN 0) 3612 ∧ CT l E (d - 1) m_Mod_taken [(.ref 24, 41), (.int (iN ((upd3 M 24 0 21 ((iN 0)).toInt) 24 1 ((iN 0)).toNatClampNeg)), 0)] (upd3 M 24 0 21 ((iN 0)).toInt) (fun v2 M2 =>
      K (.int (toI v2), 0) M2))) ∧
    ((iN ((upd3 M 24 0 21 ((iN 0)).toInt) 24 0 18)) = 0 →
     G l E d m_Mod_choir 71 [(0, (.ref 24, 41)), (3, (.int (iN 0), 0))] [] (upd3 M 24 0 21 ((iN 0)).toInt) K))) ∧
   (¬ (iN (M 24 0 12)) = 0 →
    CT l E (d - 1) m_Mod_choirPart [(.ref 24, 41)] M (fun v3 M3 =>
     G l E d m_Mod_choir 38 [(0, (.ref 24, 41)), (2, (.int (toI v3), 0))] [] M3 K)))))) :
  G l E d m_Mod_choir 38 [(0, (.ref 24, 41)), (2, (.int x2, 0))] [] M K := G.blk 60 _ hd ok_Mod_choir rfl h
set_option maxRecDepth 100000 in
theorem b_Mod_choir_71 {l : Launch} {E : EnvT} {d : Nat} {K : AV → Mem → Prop} {M : Mem} {x3 : Int32} (hd : 1 ≤ d)
  (h : (((iN 602) ≤ x3 →
   G l E d m_Mod_choir 102 [(0, (.ref 24, 41)), (3, (.int (iN 0), 0))] [] M K) ∧
  (¬ (iN 602) ≤ x3 →
   (vp_in ((iN 2408) + x3) 3612 ∧ vp_in x3 3612 ∧ G l E d m_Mod_choir 71 [(0, (.ref 24, 41)), (3, (.int (x3 + iN 1), 0))] [] (upd3 M 24 1 (x3).toNatClampNeg ((iN (M 24 1 (((iN 2408) + x3)).toNatClampNeg))).toInt) K)))) :
  G l E d m_Mod_choir 71 [(0, (.ref 24, 41)), (3, (.int x3, 0))] [] M K := G.blk 60 _ hd ok_Mod_choir rfl h
set_option maxRecDepth 100000 in
theorem b_Mod_choir_102 {l : Launch} {E : EnvT} {d : Nat} {K : AV → Mem → Prop} {M : Mem} {x3 : Int32} (hd : 1 ≤ d)
  (h : (((iN 8) ≤ x3 →
   (vp_in (iN 0) 3612 ∧ CT l E (d - 1) m_Mod_taken [(.ref 24, 41), (.int (iN (M 24 1 ((iN 0)).toNatClampNeg)), 0)] M (fun v1 M1 =>
    K (.int (toI v1), 0) M1))) ∧
  (¬ (iN 8) ≤ x3 →
   (vp_in ((iN 32) + x3) 48 ∧ vp_in x3 48 ∧ G l E d m_Mod_choir 102 [(0, (.ref 24, 41)), (3, (.int (x3 + iN 1), 0))] [] (upd3 M 24 2 (x3).toNatClampNeg ((lI (M 24 2 (((iN 32) + x3)).toNatClampNeg))).toInt) K)))) :
  G l E d m_Mod_choir 102 [(0, (.ref 24, 41)), (3, (.int x3, 0))] [] M K := G.blk 60 _ hd ok_Mod_choir rfl h
def bt_Mod_singerTo : BtT := [(0, [0, 1], true, [(0, .aload_n 0, 1, 0, 0, 0, m0),
   (1, .iconst 0, 1, 0, 0, 0, m0),
   (2, .aload_n 0, 1, 0, 0, 0, m0),
   (3, .getfield 7, 3, 0, 11, 1447, m0),
   (6, .iconst 0, 1, 0, 0, 0, m0),
   (7, .iaload, 1, 0, 0, 0, m0),
   (8, .iload_n 1, 1, 0, 0, 0, m0),
   (9, .invokevirtual 222, 3, 0, 0, 1695, m_Mod_oldOne),
   (12, .ireturn, 1, 0, 0, 0, m0)])]
theorem ok_Mod_singerTo : okBt m_Mod_singerTo bt_Mod_singerTo = true := by decide +kernel
set_option maxRecDepth 100000 in
theorem b_Mod_singerTo_0 {l : Launch} {E : EnvT} {d : Nat} {K : AV → Mem → Prop} {M : Mem} {x1 : Int32} (hd : 1 ≤ d)
  (h : (vp_in (iN 0) 3612 ∧ CT l E (d - 1) m_Mod_oldOne [(.ref 24, 41), (.int (iN 0), 0), (.int (iN (M 24 1 ((iN 0)).toNatClampNeg)), 0), (.int x1, 0)] M (fun v1 M1 =>
   ((((toI v1) = 0 ∨ (toI v1) = 1)) ∧ K (.int (toI v1), 0) M1)))) :
  G l E d m_Mod_singerTo 0 [(0, (.ref 24, 41)), (1, (.int x1, 0))] [] M K := G.blk 60 _ hd ok_Mod_singerTo rfl h
def bt_Mod_test : BtT := [(0, [0, 1], true, [(0, .aload_n 0, 1, 0, 0, 0, m0),
   (1, .ldc 193, 2, 2, 8, 0, m0),
   (3, .invokevirtual 157, 3, 0, 0, 1638, m_Mod_inWords),
   (6, .istore_n 2, 1, 0, 0, 0, m0),
   (7, .iload_n 2, 1, 0, 0, 0, m0),
   (8, .bipush 20, 2, 0, 0, 0, m0),
   (10, .if_icmp .eq 20, 3, 30, 0, 0, m0),
   (13, .nop, 0, 0, 0, 0, m0)]),
  (13, [], false, [(13, .iload_n 2, 1, 0, 0, 0, m0),
   (14, .iconst 4, 1, 0, 0, 0, m0),
   (15, .if_icmp .eq 15, 3, 30, 0, 0, m0),
   (18, .nop, 0, 0, 0, 0, m0)]),
  (18, [], false, [(18, .iload_n 2, 1, 0, 0, 0, m0),
   (19, .bipush 21, 2, 0, 0, 0, m0),
   (21, .if_icmp .eq 9, 3, 30, 0, 0, m0),
   (24, .nop, 0, 0, 0, 0, m0)]),
  (24, [], false, [(24, .aload_n 0, 1, 0, 0, 0, m0),
   (25, .iconst 2, 1, 0, 0, 0, m0),
   (26, .invokevirtual 154, 3, 0, 0, 1651, m_Mod_fails),
   (29, .ireturn, 1, 0, 0, 0, m0)]),
  (30, [0, 1, 2], true, [(30, .aload_n 0, 1, 0, 0, 0, m0),
   (31, .getfield 7, 3, 0, 11, 1447, m0),
   (34, .iload_n 1, 1, 0, 0, 0, m0),
   (35, .sipush 1600, 3, 0, 0, 0, m0),
   (38, .iload_n 2, 1, 0, 0, 0, m0),
   (39, .iadd, 1, 0, 0, 0, m0),
   (40, .iastore, 1, 0, 0, 0, m0),
   (41, .aload_n 0, 1, 0, 0, 0, m0),
   (42, .invokevirtual 148, 3, 0, 0, 1613, m_Mod_ahead),
   (45, .aload_n 0, 1, 0, 0, 0, m0),
   (46, .iload_n 1, 1, 0, 0, 0, m0),
   (47, .iconst 1, 1, 0, 0, 0, m0),
   (48, .iadd, 1, 0, 0, 0, m0),
   (49, .invokevirtual 256, 3, 0, 0, 1756, m_Mod_singerTo),
   (52, .ifCond .ne 5, 3, 57, 0, 0, m0),
   (55, .nop, 0, 0, 0, 0, m0)]),
  (55, [], false, [(55, .iconst 0, 1, 0, 0, 0, m0),
   (56, .ireturn, 1, 0, 0, 0, m0)]),
  (57, [], false, [(57, .iload_n 2, 1, 0, 0, 0, m0),
   (58, .bipush 21, 2, 0, 0, 0, m0),
   (60, .if_icmp .ne 5, 3, 65, 0, 0, m0),
   (63, .nop, 0, 0, 0, 0, m0)]),
  (63, [], false, [(63, .iconst 1, 1, 0, 0, 0, m0),
   (64, .ireturn, 1, 0, 0, 0, m0)]),
  (65, [0, 1, 2], true, [(65, .iload_n 2, 1, 0, 0, 0, m0),
   (66, .bipush 20, 2, 0, 0, 0, m0),
   (68, .if_icmp .ne 26, 3, 94, 0, 0, m0),
   (71, .nop, 0, 0, 0, 0, m0)]),
  (71, [], false, [(71, .aload_n 0, 1, 0, 0, 0, m0),
   (72, .ldc 193, 2, 2, 8, 0, m0),
   (74, .bipush 15, 2, 0, 0, 0, m0),
   (76, .invokevirtual 202, 3, 0, 0, 1667, m_Mod_wantWord),
   (79, .ifCond .eq 13, 3, 92, 0, 0, m0),
   (82, .nop, 0, 0, 0, 0, m0)]),
  (82, [], false, [(82, .aload_n 0, 1, 0, 0, 0, m0),
   (83, .iload_n 1, 1, 0, 0, 0, m0),
   (84, .iconst 2, 1, 0, 0, 0, m0),
   (85, .iadd, 1, 0, 0, 0, m0),
   (86, .invokevirtual 256, 3, 0, 0, 1756, m_Mod_singerTo),
   (89, .ifCond .ne 5, 3, 94, 0, 0, m0),
   (92, .nop, 0, 0, 0, 0, m0)]),
  (92, [], false, [(92, .iconst 0, 1, 0, 0, 0, m0),
   (93, .ireturn, 1, 0, 0, 0, m0)]),
  (94, [0, 1, 2], true, [(94, .aload_n 0, 1, 0, 0, 0, m0),
   (95, .bipush 60, 2, 0, 0, 0, m0),
   (97, .invokevirtual 151, 3, 0, 0, 1732, m_Mod_isSign),
   (100, .ifCond .ne 27, 3, 127, 0, 0, m0),
   (103, .nop, 0, 0, 0, 0, m0)]),
  (103, [], false, [(103, .aload_n 0, 1, 0, 0, 0, m0),
   (104, .bipush 62, 2, 0, 0, 0, m0),
   (106, .invokevirtual 151, 3, 0, 0, 1732, m_Mod_isSign),
   (109, .ifCond .ne 18, 3, 127, 0, 0, m0),
   (112, .nop, 0, 0, 0, 0, m0)]),
  (112, [], false, [(112, .aload_n 0, 1, 0, 0, 0, m0),
   (113, .bipush 61, 2, 0, 0, 0, m0),
   (115, .invokevirtual 151, 3, 0, 0, 1732, m_Mod_isSign),
   (118, .ifCond .ne 9, 3, 127, 0, 0, m0),
   (121, .nop, 0, 0, 0, 0, m0)]),
  (121, [], false, [(121, .aload_n 0, 1, 0, 0, 0, m0),
   (122, .iconst 2, 1, 0, 0, 0, m0),
   (123, .invokevirtual 154, 3, 0, 0, 1651, m_Mod_fails),
   (126, .ireturn, 1, 0, 0, 0, m0)]),
  (127, [0, 1, 2], true, [(127, .aload_n 0, 1, 0, 0, 0, m0),
   (128, .getfield 7, 3, 0, 11, 1447, m0),
   (131, .iload_n 1, 1, 0, 0, 0, m0),
   (132, .iconst 5, 1, 0, 0, 0, m0),
   (133, .iadd, 1, 0, 0, 0, m0),
   (134, .aload_n 0, 1, 0, 0, 0, m0),
   (135, .getfield 114, 3, 15, 11, 1462, m0),
   (138, .iastore, 1, 0, 0, 0, m0),
   (139, .aload_n 0, 1, 0, 0, 0, m0),
   (140, .invokevirtual 148, 3, 0, 0, 1613, m_Mod_ahead),
   (143, .aload_n 0, 1, 0, 0, 0, m0),
   (144, .iload_n 1, 1, 0, 0, 0, m0),
   (145, .iconst 3, 1, 0, 0, 0, m0),
   (146, .iadd, 1, 0, 0, 0, m0),
   (147, .iconst 0, 1, 0, 0, 0, m0),
   (148, .iload_n 2, 1, 0, 0, 0, m0),
   (149, .bipush 20, 2, 0, 0, 0, m0),
   (151, .if_icmp .ne 9, 3, 160, 0, 0, m0),
   (154, .nop, 0, 0, 0, 0, m0)]),
  (154, [], false, [(154, .sipush 999, 3, 0, 0, 0, m0),
   (157, .goto 6, 3, 163, 0, 0, m0)]),
  (160, [], false, [(160, .sipush 9999, 3, 0, 0, 0, m0),
   (163, .nop, 0, 0, 0, 0, m0)]),
  (163, [], false, [(163, .invokevirtual 206, 3, 0, 0, 1671, m_Mod_number),
   (166, .ireturn, 1, 0, 0, 0, m0)])]
theorem ok_Mod_test : okBt m_Mod_test bt_Mod_test = true := by decide +kernel
set_option maxRecDepth 100000 in
theorem b_Mod_test_0 {l : Launch} {E : EnvT} {d : Nat} {K : AV → Mem → Prop} {M : Mem} {x1 : Int32} (hd : 1 ≤ d)
  (h : CT l E (d - 1) m_Mod_inWords [(.ref 24, 41), (.ref 8, 999)] M (fun v1 M1 =>
   (((toI v1) = (iN 20) →
    G l E d m_Mod_test 30 [(0, (.ref 24, 41)), (1, (.int x1, 0)), (2, (.int (toI v1), 0))] [] M1 K) ∧
   (¬ (toI v1) = (iN 20) →
    (((toI v1) = (iN 4) →
     G l E d m_Mod_test 30 [(0, (.ref 24, 41)), (1, (.int x1, 0)), (2, (.int (toI v1), 0))] [] M1 K) ∧
    (¬ (toI v1) = (iN 4) →
     (((toI v1) = (iN 21) →
      G l E d m_Mod_test 30 [(0, (.ref 24, 41)), (1, (.int x1, 0)), (2, (.int (toI v1), 0))] [] M1 K) ∧
     (¬ (toI v1) = (iN 21) →
      CT l E (d - 1) m_Mod_fails [(.ref 24, 41), (.int (iN 2), 0)] M1 (fun v2 M2 =>
       ((((toI v2) = 0 ∨ (toI v2) = 1)) ∧ K (.int (toI v2), 0) M2)))))))))) :
  G l E d m_Mod_test 0 [(0, (.ref 24, 41)), (1, (.int x1, 0))] [] M K := G.blk 60 _ hd ok_Mod_test rfl h
set_option maxRecDepth 100000 in
theorem b_Mod_test_30 {l : Launch} {E : EnvT} {d : Nat} {K : AV → Mem → Prop} {M : Mem} {x1 : Int32} {x2 : Int32} (hd : 1 ≤ d)
  (h : (vp_in x1 3612 ∧ CT l E (d - 1) m_Mod_ahead [(.ref 24, 41)] (upd3 M 24 1 (x1).toNatClampNeg (((iN 1600) + x2)).toInt) (fun v1 M1 =>
   CT l E (d - 1) m_Mod_singerTo [(.ref 24, 41), (.int (x1 + (iN 1)), 0)] M1 (fun v2 M2 =>
    ((¬ (toI v2) = 0 →
     ((¬ x2 = (iN 21) →
      G l E d m_Mod_test 65 [(0, (.ref 24, 41)), (1, (.int x1, 0)), (2, (.int x2, 0))] [] M2 K) ∧
     (x2 = (iN 21) →
      ((((iN 1) = 0 ∨ (iN 1) = 1)) ∧ K (.int (iN 1), 0) M2)))) ∧
    ((toI v2) = 0 →
     ((((iN 0) = 0 ∨ (iN 0) = 1)) ∧ K (.int (iN 0), 0) M2))))))) :
  G l E d m_Mod_test 30 [(0, (.ref 24, 41)), (1, (.int x1, 0)), (2, (.int x2, 0))] [] M K := G.blk 60 _ hd ok_Mod_test rfl h
set_option maxRecDepth 100000 in
theorem b_Mod_test_65 {l : Launch} {E : EnvT} {d : Nat} {K : AV → Mem → Prop} {M : Mem} {x1 : Int32} {x2 : Int32} (hd : 1 ≤ d)
  (h : ((¬ x2 = (iN 20) →
   G l E d m_Mod_test 94 [(0, (.ref 24, 41)), (1, (.int x1, 0)), (2, (.int x2, 0))] [] M K) ∧
  (x2 = (iN 20) →
   CT l E (d - 1) m_Mod_wantWord [(.ref 24, 41), (.ref 8, 999), (.int (iN 15), 0)] M (fun v1 M1 =>
    (((toI v1) = 0 →
     ((((iN 0) = 0 ∨ (iN 0) = 1)) ∧ K (.int (iN 0), 0) M1)) ∧
    (¬ (toI v1) = 0 →
     CT l E (d - 1) m_Mod_singerTo [(.ref 24, 41), (.int (x1 + (iN 2)), 0)] M1 (fun v2 M2 =>
      ((¬ (toI v2) = 0 →
       G l E d m_Mod_test 94 [(0, (.ref 24, 41)), (1, (.int x1, 0)), (2, (.int x2, 0))] [] M2 K) ∧
      ((toI v2) = 0 →
       ((((iN 0) = 0 ∨ (iN 0) = 1)) ∧ K (.int (iN 0), 0) M2)))))))))) :
  G l E d m_Mod_test 65 [(0, (.ref 24, 41)), (1, (.int x1, 0)), (2, (.int x2, 0))] [] M K := G.blk 60 _ hd ok_Mod_test rfl h
set_option maxRecDepth 100000 in
theorem b_Mod_test_94 {l : Launch} {E : EnvT} {d : Nat} {K : AV → Mem → Prop} {M : Mem} {x1 : Int32} {x2 : Int32} (hd : 1 ≤ d)
  (h : CT l E (d - 1) m_Mod_isSign [(.ref 24, 41), (.int (iN 60), 0)] M (fun v1 M1 =>
   ((¬ (toI v1) = 0 →
    G l E d m_Mod_test 127 [(0, (.ref 24, 41)), (1, (.int x1, 0)), (2, (.int x2, 0))] [] M1 K) ∧
   ((toI v1) = 0 →
    CT l E (d - 1) m_Mod_isSign [(.ref 24, 41), (.int (iN 62), 0)] M1 (fun v2 M2 =>
     ((¬ (toI v2) = 0 →
      G l E d m_Mod_test 127 [(0, (.ref 24, 41)), (1, (.int x1, 0)), (2, (.int x2, 0))] [] M2 K) ∧
     ((toI v2) = 0 →
      CT l E (d - 1) m_Mod_isSign [(.ref 24, 41), (.int (iN 61), 0)] M2 (fun v3 M3 =>
       ((¬ (toI v3) = 0 →
        G l E d m_Mod_test 127 [(0, (.ref 24, 41)), (1, (.int x1, 0)), (2, (.int x2, 0))] [] M3 K) ∧
       ((toI v3) = 0 →
        CT l E (d - 1) m_Mod_fails [(.ref 24, 41), (.int (iN 2), 0)] M3 (fun v4 M4 =>
         ((((toI v4) = 0 ∨ (toI v4) = 1)) ∧ K (.int (toI v4), 0) M4)))))))))))) :
  G l E d m_Mod_test 94 [(0, (.ref 24, 41)), (1, (.int x1, 0)), (2, (.int x2, 0))] [] M K := G.blk 60 _ hd ok_Mod_test rfl h
set_option maxRecDepth 100000 in
theorem b_Mod_test_127 {l : Launch} {E : EnvT} {d : Nat} {K : AV → Mem → Prop} {M : Mem} {x1 : Int32} {x2 : Int32} (hd : 1 ≤ d)
  (h : (vp_in (x1 + (iN 5)) 3612 ∧ CT l E (d - 1) m_Mod_ahead [(.ref 24, 41)] (upd3 M 24 1 ((x1 + (iN 5))).toNatClampNeg ((iN (M 24 0 15))).toInt) (fun v1 M1 =>
   ((¬ x2 = (iN 20) →
    CT l E (d - 1) m_Mod_number [(.ref 24, 41), (.int (x1 + (iN 3)), 0), (.int (iN 0), 0), (.int (iN 9999), 0)] M1 (fun v2 M2 =>
     ((((toI v2) = 0 ∨ (toI v2) = 1)) ∧ K (.int (toI v2), 0) M2))) ∧
   (x2 = (iN 20) →
    CT l E (d - 1) m_Mod_number [(.ref 24, 41), (.int (x1 + (iN 3)), 0), (.int (iN 0), 0), (.int (iN 999), 0)] M1 (fun v3 M3 =>
     ((((toI v3) = 0 ∨ (toI v3) = 1)) ∧ K (.int (toI v3), 0) M3))))))) :
  G l E d m_Mod_test 127 [(0, (.ref 24, 41)), (1, (.int x1, 0)), (2, (.int x2, 0))] [] M K := G.blk 60 _ hd ok_Mod_test rfl h
def bt_Mod_yearOrder : BtT := [(0, [0, 1, 2], true, [(0, .iload_n 1, 1, 0, 0, 0, m0),
   (1, .tableswitch 176 6 17 #[125, 176, 176, 63, 63, 176, 125, 133, 176, 176, 159, 165], 63, 0, 0, 0, m0)]),
  (64, [], false, [(64, .aload_n 0, 1, 0, 0, 0, m0),
   (65, .iload_n 2, 1, 0, 0, 0, m0),
   (66, .iconst 1, 1, 0, 0, 0, m0),
   (67, .iadd, 1, 0, 0, 0, m0),
   (68, .invokevirtual 256, 3, 0, 0, 1756, m_Mod_singerTo),
   (71, .ifCond .eq 53, 3, 124, 0, 0, m0),
   (74, .nop, 0, 0, 0, 0, m0)]),
  (74, [], false, [(74, .aload_n 0, 1, 0, 0, 0, m0),
   (75, .ldc 193, 2, 2, 8, 0, m0),
   (77, .bipush 15, 2, 0, 0, 0, m0),
   (79, .invokevirtual 202, 3, 0, 0, 1667, m_Mod_wantWord),
   (82, .ifCond .eq 42, 3, 124, 0, 0, m0),
   (85, .nop, 0, 0, 0, 0, m0)]),
  (85, [], false, [(85, .aload_n 0, 1, 0, 0, 0, m0),
   (86, .iload_n 2, 1, 0, 0, 0, m0),
   (87, .iconst 2, 1, 0, 0, 0, m0),
   (88, .iadd, 1, 0, 0, 0, m0),
   (89, .invokevirtual 256, 3, 0, 0, 1756, m_Mod_singerTo),
   (92, .ifCond .eq 32, 3, 124, 0, 0, m0),
   (95, .nop, 0, 0, 0, 0, m0)]),
  (95, [], false, [(95, .aload_n 0, 1, 0, 0, 0, m0),
   (96, .iload_n 2, 1, 0, 0, 0, m0),
   (97, .iconst 3, 1, 0, 0, 0, m0),
   (98, .iadd, 1, 0, 0, 0, m0),
   (99, .iconst 1, 1, 0, 0, 0, m0),
   (100, .iload_n 1, 1, 0, 0, 0, m0),
   (101, .bipush 9, 2, 0, 0, 0, m0),
   (103, .if_icmp .ne 8, 3, 111, 0, 0, m0),
   (106, .nop, 0, 0, 0, 0, m0)]),
  (106, [], false, [(106, .bipush 99, 2, 0, 0, 0, m0),
   (108, .goto 6, 3, 114, 0, 0, m0)]),
  (111, [], false, [(111, .sipush 999, 3, 0, 0, 0, m0),
   (114, .nop, 0, 0, 0, 0, m0)]),
  (114, [], false, [(114, .invokevirtual 206, 3, 0, 0, 1671, m_Mod_number),
   (117, .ifCond .eq 7, 3, 124, 0, 0, m0),
   (120, .nop, 0, 0, 0, 0, m0)]),
  (120, [], false, [(120, .iconst 1, 1, 0, 0, 0, m0),
   (121, .goto 4, 3, 125, 0, 0, m0)]),
  (124, [], false, [(124, .iconst 0, 1, 0, 0, 0, m0),
   (125, .nop, 0, 0, 0, 0, m0)]),
  (125, [], false, [(125, .ireturn, 1, 0, 0, 0, m0)]),
  (126, [], false, [(126, .aload_n 0, 1, 0, 0, 0, m0),
   (127, .iload_n 2, 1, 0, 0, 0, m0),
   (128, .iconst 1, 1, 0, 0, 0, m0),
   (129, .iadd, 1, 0, 0, 0, m0),
   (130, .invokevirtual 256, 3, 0, 0, 1756, m_Mod_singerTo),
   (133, .ireturn, 1, 0, 0, 0, m0)]),
  (134, [], false, [(134, .aload_n 0, 1, 0, 0, 0, m0),
   (135, .iload_n 2, 1, 0, 0, 0, m0),
   (136, .iconst 1, 1, 0, 0, 0, m0),
   (137, .iadd, 1, 0, 0, 0, m0),
   (138, .invokevirtual 256, 3, 0, 0, 1756, m_Mod_singerTo),
   (141, .ifCond .eq 17, 3, 158, 0, 0, m0),
   (144, .nop, 0, 0, 0, 0, m0)]),
  (144, [], false, [(144, .aload_n 0, 1, 0, 0, 0, m0),
   (145, .iload_n 2, 1, 0, 0, 0, m0),
   (146, .iconst 2, 1, 0, 0, 0, m0),
   (147, .iadd, 1, 0, 0, 0, m0),
   (148, .invokevirtual 256, 3, 0, 0, 1756, m_Mod_singerTo),
   (151, .ifCond .eq 7, 3, 158, 0, 0, m0),
   (154, .nop, 0, 0, 0, 0, m0)]),
  (154, [], false, [(154, .iconst 1, 1, 0, 0, 0, m0),
   (155, .goto 4, 3, 159, 0, 0, m0)]),
  (158, [], false, [(158, .iconst 0, 1, 0, 0, 0, m0),
   (159, .nop, 0, 0, 0, 0, m0)]),
  (159, [], false, [(159, .ireturn, 1, 0, 0, 0, m0)]),
  (160, [], false, [(160, .aload_n 0, 1, 0, 0, 0, m0),
   (161, .iload_n 2, 1, 0, 0, 0, m0),
   (162, .invokevirtual 259, 3, 0, 0, 1760, m_Mod_test),
   (165, .ireturn, 1, 0, 0, 0, m0)]),
  (166, [], false, [(166, .aload_n 0, 1, 0, 0, 0, m0),
   (167, .iload_n 2, 1, 0, 0, 0, m0),
   (168, .iconst 1, 1, 0, 0, 0, m0),
   (169, .iadd, 1, 0, 0, 0, m0),
   (170, .iconst 1, 1, 0, 0, 0, m0),
   (171, .bipush 99, 2, 0, 0, 0, m0),
   (173, .invokevirtual 206, 3, 0, 0, 1671, m_Mod_number),
   (176, .ireturn, 1, 0, 0, 0, m0)]),
  (177, [], false, [(177, .iconst 1, 1, 0, 0, 0, m0),
   (178, .ireturn, 1, 0, 0, 0, m0)])]
theorem ok_Mod_yearOrder : okBt m_Mod_yearOrder bt_Mod_yearOrder = true := by decide +kernel
set_option maxRecDepth 100000 in
theorem b_Mod_yearOrder_0 {l : Launch} {E : EnvT} {d : Nat} {K : AV → Mem → Prop} {M : Mem} {x1 : Int32} {x2 : Int32} (hd : 1 ≤ d)
  (h : ((x1 = iN 6 →
   CT l E (d - 1) m_Mod_singerTo [(.ref 24, 41), (.int (x2 + (iN 1)), 0)] M (fun v16 M16 =>
    ((((toI v16) = 0 ∨ (toI v16) = 1)) ∧ K (.int (toI v16), 0) M16))) ∧
  (¬ x1 = iN 6 →
   ((x1 = iN 7 →
   ((((iN 1) = 0 ∨ (iN 1) = 1)) ∧ K (.int (iN 1), 0) M)) ∧
  (¬ x1 = iN 7 →
   ((x1 = iN 8 →
   ((((iN 1) = 0 ∨ (iN 1) = 1)) ∧ K (.int (iN 1), 0) M)) ∧
  (¬ x1 = iN 8 →
   ((x1 = iN 9 →
   CT l E (d - 1) m_Mod_singerTo [(.ref 24, 41), (.int (x2 + (iN 1)), 0)] M (fun v11 M11 =>
    (((toI v11) = 0 →
     ((((iN 0) = 0 ∨ (iN 0) = 1)) ∧ K (.int (iN 0), 0) M11)) ∧
    (¬ (toI v11) = 0 →
     CT l E (d - 1) m_Mod_wantWord [(.ref 24, 41), (.ref 8, 999), (.int (iN 15), 0)] M11 (fun v12 M12 =>
      (((toI v12) = 0 →
       ((((iN 0) = 0 ∨ (iN 0) = 1)) ∧ K (.int (iN 0), 0) M12)) ∧
      (¬ (toI v12) = 0 →
       CT l E (d - 1) m_Mod_singerTo [(.ref 24, 41), (.int (x2 + (iN 2)), 0)] M12 (fun v13 M13 =>
        (((toI v13) = 0 →
         ((((iN 0) = 0 ∨ (iN 0) = 1)) ∧ K (.int (iN 0), 0) M13)) ∧
        (¬ (toI v13) = 0 →
         ((¬ x1 = (iN 9) →
          CT l E (d - 1) m_Mod_number [(.ref 24, 41), (.int (x2 + (iN 3)), 0), (.int (iN 1), 0), (.int (iN 999), 0)] M13 (fun v14 M14 =>
           (((toI v14) = 0 →
            ((((iN 0) = 0 ∨ (iN 0) = 1)) ∧ K (.int (iN 0), 0) M14)) ∧
           (¬ (toI v14) = 0 →
            ((((iN 1) = 0 ∨ (iN 1) = 1)) ∧ K (.int (iN 1), 0) M14))))) ∧
         (x1 = (iN 9) →
          CT l E (d - 1) m_Mod_number [(.ref 24, 41), (.int (x2 + (iN 3)), 0), (.int (iN 1), 0), (.int (iN 99), 0)] M13 (fun v15 M15 =>
           (((toI v15) = 0 →
            ((((iN 0) = 0 ∨ (iN 0) = 1)) ∧ K (.int (iN 0), 0) M15)) ∧
           (¬ (toI v15) = 0 →
            ((((iN 1) = 0 ∨ (iN 1) = 1)) ∧ K (.int (iN 1), 0) M15)))))))))))))))) ∧
  (¬ x1 = iN 9 →
   ((x1 = iN 10 →
   CT l E (d - 1) m_Mod_singerTo [(.ref 24, 41), (.int (x2 + (iN 1)), 0)] M (fun v6 M6 =>
    (((toI v6) = 0 →
     ((((iN 0) = 0 ∨ (iN 0) = 1)) ∧ K (.int (iN 0), 0) M6)) ∧
    (¬ (toI v6) = 0 →
     CT l E (d - 1) m_Mod_wantWord [(.ref 24, 41), (.ref 8, 999), (.int (iN 15), 0)] M6 (fun v7 M7 =>
      (((toI v7) = 0 →
       ((((iN 0) = 0 ∨ (iN 0) = 1)) ∧ K (.int (iN 0), 0) M7)) ∧
      (¬ (toI v7) = 0 →
       CT l E (d - 1) m_Mod_singerTo [(.ref 24, 41), (.int (x2 + (iN 2)), 0)] M7 (fun v8 M8 =>
        (((toI v8) = 0 →
         ((((iN 0) = 0 ∨ (iN 0) = 1)) ∧ K (.int (iN 0), 0) M8)) ∧
        (¬ (toI v8) = 0 →
         ((¬ x1 = (iN 9) →
          CT l E (d - 1) m_Mod_number [(.ref 24, 41), (.int (x2 + (iN 3)), 0), (.int (iN 1), 0), (.int (iN 999), 0)] M8 (fun v9 M9 =>
           (((toI v9) = 0 →
            ((((iN 0) = 0 ∨ (iN 0) = 1)) ∧ K (.int (iN 0), 0) M9)) ∧
           (¬ (toI v9) = 0 →
            ((((iN 1) = 0 ∨ (iN 1) = 1)) ∧ K (.int (iN 1), 0) M9))))) ∧
         (x1 = (iN 9) →
          CT l E (d - 1) m_Mod_number [(.ref 24, 41), (.int (x2 + (iN 3)), 0), (.int (iN 1), 0), (.int (iN 99), 0)] M8 (fun v10 M10 =>
           (((toI v10) = 0 →
            ((((iN 0) = 0 ∨ (iN 0) = 1)) ∧ K (.int (iN 0), 0) M10)) ∧
           (¬ (toI v10) = 0 →
            ((((iN 1) = 0 ∨ (iN 1) = 1)) ∧ K (.int (iN 1), 0) M10)))))))))))))))) ∧
  (¬ x1 = iN 10 →
   ((x1 = iN 11 →
   ((((iN 1) = 0 ∨ (iN 1) = 1)) ∧ K (.int (iN 1), 0) M)) ∧
  (¬ x1 = iN 11 →
   ((x1 = iN 12 →
   CT l E (d - 1) m_Mod_singerTo [(.ref 24, 41), (.int (x2 + (iN 1)), 0)] M (fun v5 M5 =>
    ((((toI v5) = 0 ∨ (toI v5) = 1)) ∧ K (.int (toI v5), 0) M5))) ∧
  (¬ x1 = iN 12 →
   ((x1 = iN 13 →
   CT l E (d - 1) m_Mod_singerTo [(.ref 24, 41), (.int (x2 + (iN 1)), 0)] M (fun v3 M3 =>
    (((toI v3) = 0 →
     ((((iN 0) = 0 ∨ (iN 0) = 1)) ∧ K (.int (iN 0), 0) M3)) ∧
    (¬ (toI v3) = 0 →
     CT l E (d - 1) m_Mod_singerTo [(.ref 24, 41), (.int (x2 + (iN 2)), 0)] M3 (fun v4 M4 =>
      (((toI v4) = 0 →
       ((((iN 0) = 0 ∨ (iN 0) = 1)) ∧ K (.int (iN 0), 0) M4)) ∧
      (¬ (toI v4) = 0 →
       ((((iN 1) = 0 ∨ (iN 1) = 1)) ∧ K (.int (iN 1), 0) M4)))))))) ∧
  (¬ x1 = iN 13 →
   ((x1 = iN 14 →
   ((((iN 1) = 0 ∨ (iN 1) = 1)) ∧ K (.int (iN 1), 0) M)) ∧
  (¬ x1 = iN 14 →
   ((x1 = iN 15 →
   ((((iN 1) = 0 ∨ (iN 1) = 1)) ∧ K (.int (iN 1), 0) M)) ∧
  (¬ x1 = iN 15 →
   ((x1 = iN 16 →
   CT l E (d - 1) m_Mod_test [(.ref 24, 41), (.int x2, 0)] M (fun v2 M2 =>
    ((((toI v2) = 0 ∨ (toI v2) = 1)) ∧ K (.int (toI v2), 0) M2))) ∧
  (¬ x1 = iN 16 →
   ((x1 = iN 17 →
   CT l E (d - 1) m_Mod_number [(.ref 24, 41), (.int (x2 + (iN 1)), 0), (.int (iN 1), 0), (.int (iN 99), 0)] M (fun v1 M1 =>
    ((((toI v1) = 0 ∨ (toI v1) = 1)) ∧ K (.int (toI v1), 0) M1))) ∧
  (¬ x1 = iN 17 →
   ((((iN 1) = 0 ∨ (iN 1) = 1)) ∧ K (.int (iN 1), 0) M)))))))))))))))))))))))))) :
  G l E d m_Mod_yearOrder 0 [(0, (.ref 24, 41)), (1, (.int x1, 0)), (2, (.int x2, 0))] [] M K := G.blk 60 _ hd ok_Mod_yearOrder rfl h
def bt_Mod_yearStep : BtT := [(0, [0], true, [(0, .aload_n 0, 1, 0, 0, 0, m0),
   (1, .ldc 193, 2, 2, 8, 0, m0),
   (3, .invokevirtual 157, 3, 0, 0, 1638, m_Mod_inWords),
   (6, .istore_n 1, 1, 0, 0, 0, m0),
   (7, .aload_n 0, 1, 0, 0, 0, m0),
   (8, .getfield 7, 3, 0, 11, 1447, m0),
   (11, .sipush 2412, 3, 0, 0, 0, m0),
   (14, .iaload, 1, 0, 0, 0, m0),
   (15, .istore_n 2, 1, 0, 0, 0, m0),
   (16, .sipush 2646, 3, 0, 0, 0, m0),
   (19, .bipush 6, 2, 0, 0, 0, m0),
   (21, .iload_n 2, 1, 0, 0, 0, m0),
   (22, .imul, 1, 0, 0, 0, m0),
   (23, .iadd, 1, 0, 0, 0, m0),
   (24, .istore_n 3, 1, 0, 0, 0, m0),
   (25, .iload_n 1, 1, 0, 0, 0, m0),
   (26, .bipush 16, 2, 0, 0, 0, m0),
   (28, .if_icmp .eq 9, 3, 37, 0, 0, m0),
   (31, .nop, 0, 0, 0, 0, m0)]),
  (31, [], false, [(31, .iload_n 1, 1, 0, 0, 0, m0),
   (32, .bipush 17, 2, 0, 0, 0, m0),
   (34, .if_icmp .ne 7, 3, 41, 0, 0, m0),
   (37, .nop, 0, 0, 0, 0, m0)]),
  (37, [], false, [(37, .iconst 1, 1, 0, 0, 0, m0),
   (38, .goto 4, 3, 42, 0, 0, m0)]),
  (41, [], false, [(41, .iconst 0, 1, 0, 0, 0, m0),
   (42, .nop, 0, 0, 0, 0, m0)]),
  (42, [0, 1, 2, 3], true, [(42, .istore 4, 2, 0, 0, 0, m0),
   (44, .iload_n 1, 1, 0, 0, 0, m0),
   (45, .bipush 6, 2, 0, 0, 0, m0),
   (47, .if_icmp .eq 21, 3, 68, 0, 0, m0),
   (50, .nop, 0, 0, 0, 0, m0)]),
  (50, [], false, [(50, .iload_n 1, 1, 0, 0, 0, m0),
   (51, .bipush 9, 2, 0, 0, 0, m0),
   (53, .if_icmp .lt 28, 3, 81, 0, 0, m0),
   (56, .nop, 0, 0, 0, 0, m0)]),
  (56, [], false, [(56, .iload_n 1, 1, 0, 0, 0, m0),
   (57, .bipush 19, 2, 0, 0, 0, m0),
   (59, .if_icmp .gt 22, 3, 81, 0, 0, m0),
   (62, .nop, 0, 0, 0, 0, m0)]),
  (62, [], false, [(62, .iload_n 1, 1, 0, 0, 0, m0),
   (63, .bipush 15, 2, 0, 0, 0, m0),
   (65, .if_icmp .eq 16, 3, 81, 0, 0, m0),
   (68, .nop, 0, 0, 0, 0, m0)]),
  (68, [], false, [(68, .iload_n 1, 1, 0, 0, 0, m0),
   (69, .bipush 18, 2, 0, 0, 0, m0),
   (71, .if_icmp .ne 16, 3, 87, 0, 0, m0),
   (74, .nop, 0, 0, 0, 0, m0)]),
  (74, [], false, [(74, .aload_n 0, 1, 0, 0, 0, m0),
   (75, .getfield 262, 3, 23, 11, 1470, m0),
   (78, .ifCond .ne 9, 3, 87, 0, 0, m0),
   (81, .nop, 0, 0, 0, 0, m0)]),
  (81, [], false, [(81, .aload_n 0, 1, 0, 0, 0, m0),
   (82, .iconst 2, 1, 0, 0, 0, m0),
   (83, .invokevirtual 154, 3, 0, 0, 1651, m_Mod_fails),
   (86, .ireturn, 1, 0, 0, 0, m0)]),
  (87, [], false, [(87, .iload_n 1, 1, 0, 0, 0, m0),
   (88, .bipush 18, 2, 0, 0, 0, m0),
   (90, .if_icmp .eq 19, 3, 109, 0, 0, m0),
   (93, .nop, 0, 0, 0, 0, m0)]),
  (93, [], false, [(93, .aload_n 0, 1, 0, 0, 0, m0),
   (94, .getfield 265, 3, 24, 11, 1471, m0),
   (97, .bipush 30, 2, 0, 0, 0, m0),
   (99, .if_icmp .ne 10, 3, 109, 0, 0, m0),
   (102, .nop, 0, 0, 0, 0, m0)]),
  (102, [], false, [(102, .aload_n 0, 1, 0, 0, 0, m0),
   (103, .bipush 6, 2, 0, 0, 0, m0),
   (105, .invokevirtual 154, 3, 0, 0, 1651, m_Mod_fails),
   (108, .ireturn, 1, 0, 0, 0, m0)]),
  (109, [0, 1, 2, 3, 4], true, [(109, .iload 4, 2, 0, 0, 0, m0),
   (111, .ifCond .eq 18, 3, 129, 0, 0, m0),
   (114, .nop, 0, 0, 0, 0, m0)]),
  (114, [], false, [(114, .aload_n 0, 1, 0, 0, 0, m0),
   (115, .getfield 262, 3, 23, 11, 1470, m0),
   (118, .iconst 3, 1, 0, 0, 0, m0),
   (119, .if_icmp .ne 10, 3, 129, 0, 0, m0),
   (122, .nop, 0, 0, 0, 0, m0)]),
  (122, [], false, [(122, .aload_n 0, 1, 0, 0, 0, m0),
   (123, .bipush 7, 2, 0, 0, 0, m0),
   (125, .invokevirtual 154, 3, 0, 0, 1651, m_Mod_fails),
   (128, .ireturn, 1, 0, 0, 0, m0)]),
  (129, [0, 1, 2, 3, 4], true, [(129, .aload_n 0, 1, 0, 0, 0, m0),
   (130, .dup, 1, 0, 0, 0, m0),
   (131, .getfield 265, 3, 24, 11, 1471, m0),
   (134, .iload_n 1, 1, 0, 0, 0, m0),
   (135, .bipush 18, 2, 0, 0, 0, m0),
   (137, .if_icmp .ne 7, 3, 144, 0, 0, m0),
   (140, .nop, 0, 0, 0, 0, m0)]),
  (140, [], false, [(140, .iconst 0, 1, 0, 0, 0, m0),
   (141, .goto 4, 3, 145, 0, 0, m0)]),
  (144, [], false, [(144, .iconst 1, 1, 0, 0, 0, m0),
   (145, .nop, 0, 0, 0, 0, m0)]),
  (145, [], false, [(145, .iadd, 1, 0, 0, 0, m0),
   (146, .putfield 265, 3, 24, 11, 1471, m0),
   (149, .nop, 0, 0, 0, 0, m0)]),
  (149, [0, 1, 2, 3, 4], true, [(149, .aload_n 0, 1, 0, 0, 0, m0),
   (150, .getfield 7, 3, 0, 11, 1447, m0),
   (153, .iload_n 3, 1, 0, 0, 0, m0),
   (154, .iload_n 1, 1, 0, 0, 0, m0),
   (155, .iastore, 1, 0, 0, 0, m0),
   (156, .iconst 1, 1, 0, 0, 0, m0),
   (157, .istore 5, 2, 0, 0, 0, m0),
   (159, .nop, 0, 0, 0, 0, m0)]),
  (159, [0, 1, 2, 3, 4, 5], true, [(159, .iload 5, 2, 0, 0, 0, m0),
   (161, .bipush 6, 2, 0, 0, 0, m0),
   (163, .if_icmp .ge 19, 3, 182, 0, 0, m0),
   (166, .nop, 0, 0, 0, 0, m0)]),
  (166, [], false, [(166, .aload_n 0, 1, 0, 0, 0, m0),
   (167, .getfield 7, 3, 0, 11, 1447, m0),
   (170, .iload_n 3, 1, 0, 0, 0, m0),
   (171, .iload 5, 2, 0, 0, 0, m0),
   (173, .iadd, 1, 0, 0, 0, m0),
   (174, .iconst 0, 1, 0, 0, 0, m0),
   (175, .iastore, 1, 0, 0, 0, m0),
   (176, .iinc 5 1, 3, 0, 0, 0, m0),
   (179, .goto (-20), 3, 159, 0, 0, m0)]),
  (182, [0, 1, 2, 3, 4], true, [(182, .aload_n 0, 1, 0, 0, 0, m0),
   (183, .getfield 7, 3, 0, 11, 1447, m0),
   (186, .sipush 2412, 3, 0, 0, 0, m0),
   (189, .dup2, 1, 0, 0, 0, m0),
   (190, .iaload, 1, 0, 0, 0, m0),
   (191, .iconst 1, 1, 0, 0, 0, m0),
   (192, .iadd, 1, 0, 0, 0, m0),
   (193, .iastore, 1, 0, 0, 0, m0),
   (194, .aload_n 0, 1, 0, 0, 0, m0),
   (195, .invokevirtual 148, 3, 0, 0, 1613, m_Mod_ahead),
   (198, .aload_n 0, 1, 0, 0, 0, m0),
   (199, .iload_n 1, 1, 0, 0, 0, m0),
   (200, .iload_n 3, 1, 0, 0, 0, m0),
   (201, .invokevirtual 268, 3, 0, 0, 1752, m_Mod_yearOrder),
   (204, .ifCond .ne 5, 3, 209, 0, 0, m0),
   (207, .nop, 0, 0, 0, 0, m0)]),
  (207, [], false, [(207, .iconst 0, 1, 0, 0, 0, m0),
   (208, .ireturn, 1, 0, 0, 0, m0)]),
  (209, [0, 1, 2, 3, 4], true, [(209, .iload 4, 2, 0, 0, 0, m0),
   (211, .ifCond .eq 23, 3, 234, 0, 0, m0),
   (214, .nop, 0, 0, 0, 0, m0)]),
  (214, [], false, [(214, .aload_n 0, 1, 0, 0, 0, m0),
   (215, .getfield 44, 3, 22, 11, 1469, m0),
   (218, .aload_n 0, 1, 0, 0, 0, m0),
   (219, .getfield 262, 3, 23, 11, 1470, m0),
   (222, .iload_n 2, 1, 0, 0, 0, m0),
   (223, .iastore, 1, 0, 0, 0, m0),
   (224, .aload_n 0, 1, 0, 0, 0, m0),
   (225, .dup, 1, 0, 0, 0, m0),
   (226, .getfield 262, 3, 23, 11, 1470, m0),
   (229, .iconst 1, 1, 0, 0, 0, m0),
   (230, .iadd, 1, 0, 0, 0, m0),
   (231, .putfield 262, 3, 23, 11, 1470, m0),
   (234, .nop, 0, 0, 0, 0, m0)]),
  (234, [0, 1, 2, 3], true, [(234, .iload_n 1, 1, 0, 0, 0, m0),
   (235, .bipush 18, 2, 0, 0, 0, m0),
   (237, .if_icmp .ne 54, 3, 291, 0, 0, m0),
   (240, .nop, 0, 0, 0, 0, m0)]),
  (240, [], false, [(240, .aload_n 0, 1, 0, 0, 0, m0),
   (241, .dup, 1, 0, 0, 0, m0),
   (242, .getfield 262, 3, 23, 11, 1470, m0),
   (245, .iconst 1, 1, 0, 0, 0, m0),
   (246, .isub, 1, 0, 0, 0, m0),
   (247, .putfield 262, 3, 23, 11, 1470, m0),
   (250, .aload_n 0, 1, 0, 0, 0, m0),
   (251, .getfield 7, 3, 0, 11, 1447, m0),
   (254, .iload_n 3, 1, 0, 0, 0, m0),
   (255, .iconst 4, 1, 0, 0, 0, m0),
   (256, .iadd, 1, 0, 0, 0, m0),
   (257, .aload_n 0, 1, 0, 0, 0, m0),
   (258, .getfield 44, 3, 22, 11, 1469, m0),
   (261, .aload_n 0, 1, 0, 0, 0, m0),
   (262, .getfield 262, 3, 23, 11, 1470, m0),
   (265, .iaload, 1, 0, 0, 0, m0),
   (266, .iastore, 1, 0, 0, 0, m0),
   (267, .aload_n 0, 1, 0, 0, 0, m0),
   (268, .getfield 7, 3, 0, 11, 1447, m0),
   (271, .sipush 2646, 3, 0, 0, 0, m0),
   (274, .bipush 6, 2, 0, 0, 0, m0),
   (276, .aload_n 0, 1, 0, 0, 0, m0),
   (277, .getfield 44, 3, 22, 11, 1469, m0),
   (280, .aload_n 0, 1, 0, 0, 0, m0),
   (281, .getfield 262, 3, 23, 11, 1470, m0),
   (284, .iaload, 1, 0, 0, 0, m0),
   (285, .imul, 1, 0, 0, 0, m0),
   (286, .iadd, 1, 0, 0, 0, m0),
   (287, .iconst 4, 1, 0, 0, 0, m0),
   (288, .iadd, 1, 0, 0, 0, m0),
   (289, .iload_n 2, 1, 0, 0, 0, m0),
   (290, .iastore, 1, 0, 0, 0, m0),
   (291, .nop, 0, 0, 0, 0, m0)]),
  (291, [0], true, [(291, .aload_n 0, 1, 0, 0, 0, m0),
   (292, .bipush 59, 2, 0, 0, 0, m0),
   (294, .invokevirtual 243, 3, 0, 0, 1728, m_Mod_wantSign),
   (297, .ireturn, 1, 0, 0, 0, m0)])]
theorem ok_Mod_yearStep : okBt m_Mod_yearStep bt_Mod_yearStep = true := by decide +kernel
set_option maxRecDepth 100000 in
theorem b_Mod_yearStep_0 {l : Launch} {E : EnvT} {d : Nat} {K : AV → Mem → Prop} {M : Mem}  (hd : 1 ≤ d)
  (h : CT l E (d - 1) m_Mod_inWords [(.ref 24, 41), (.ref 8, 999)] M (fun v1 M1 =>
   (vp_in (iN 2412) 3612 ∧ (((toI v1) = (iN 16) →
    G l E d m_Mod_yearStep 42 [(0, (.ref 24, 41)), (1, (.int (toI v1), 0)), (2, (.int (iN (M1 24 1 ((iN 2412)).toNatClampNeg)), 0)), (3, (.int ((iN 2646) + ((iN 6) * (iN (M1 24 1 ((iN 2412)).toNatClampNeg)))), 0))] [(.int (iN 1), 0)] M1 K) ∧
   (¬ (toI v1) = (iN 16) →
    ((¬ (toI v1) = (iN 17) →
     G l E d m_Mod_yearStep 42 [(0, (.ref 24, 41)), (1, (.int (toI v1), 0)), (2, (.int (iN (M1 24 1 ((iN 2412)).toNatClampNeg)), 0)), (3, (.int ((iN 2646) + ((iN 6) * (iN (M1 24 1 ((iN 2412)).toNatClampNeg)))), 0))] [(.int (iN 0), 0)] M1 K) ∧
    ((toI v1) = (iN 17) →
     G l E d m_Mod_yearStep 42 [(0, (.ref 24, 41)), (1, (.int (toI v1), 0)), (2, (.int (iN (M1 24 1 ((iN 2412)).toNatClampNeg)), 0)), (3, (.int ((iN 2646) + ((iN 6) * (iN (M1 24 1 ((iN 2412)).toNatClampNeg)))), 0))] [(.int (iN 1), 0)] M1 K))))))) :
  G l E d m_Mod_yearStep 0 [(0, (.ref 24, 41))] [] M K := G.blk 60 _ hd ok_Mod_yearStep rfl h
set_option maxRecDepth 100000 in
theorem b_Mod_yearStep_42 {l : Launch} {E : EnvT} {d : Nat} {K : AV → Mem → Prop} {M : Mem} {x1 : Int32} {x2 : Int32} {x3 : Int32} {s0 : Int32} (hd : 1 ≤ d)
  (h : ((x1 = (iN 6) →
   ((¬ x1 = (iN 18) →
    ((x1 = (iN 18) →
     G l E d m_Mod_yearStep 109 [(0, (.ref 24, 41)), (1, (.int x1, 0)), (2, (.int x2, 0)), (3, (.int x3, 0)), (4, (.int s0, 0))] [] M K) ∧
    (¬ x1 = (iN 18) →
     ((¬ (iN (M 24 0 24)) = (iN 30) →
      G l E d m_Mod_yearStep 109 [(0, (.ref 24, 41)), (1, (.int x1, 0)), (2, (.int x2, 0)), (3, (.int x3, 0)), (4, (.int s0, 0))] [] M K) ∧
     ((iN (M 24 0 24)) = (iN 30) →
      CT l E (d - 1) m_Mod_fails [(.ref 24, 41), (.int (iN 6), 0)] M (fun v1 M1 =>
       ((((toI v1) = 0 ∨ (toI v1) = 1)) ∧ K (.int (toI v1), 0) M1))))))) ∧
   (x1 = (iN 18) →
    ((¬ (iN (M 24 0 23)) = 0 →
     ((x1 = (iN 18) →
      G l E d m_Mod_yearStep 109 [(0, (.ref 24, 41)), (1, (.int x1, 0)), (2, (.int x2, 0)), (3, (.int x3, 0)), (4, (.int s0, 0))] [] M K) ∧
     (¬ x1 = (iN 18) →
      ((¬ (iN (M 24 0 24)) = (iN 30) →
       G l E d m_Mod_yearStep 109 [(0, (.ref 24, 41)), (1, (.int x1, 0)), (2, (.int x2, 0)), (3, (.int x3, 0)), (4, (.int s0, 0))] [] M K) ∧
      ((iN (M 24 0 24)) = (iN 30) →
       CT l E (d - 1) m_Mod_fails [(.ref 24, 41), (.int (iN 6), 0)] M (fun v2 M2 =>
        ((((toI v2) = 0 ∨ (toI v2) = 1)) ∧ K (.int (toI v2), 0) M2))))))) ∧
    ((iN (M 24 0 23)) = 0 →
     CT l E (d - 1) m_Mod_fails [(.ref 24, 41), (.int (iN 2), 0)] M (fun v3 M3 =>
      ((((toI v3) = 0 ∨ (toI v3) = 1)) ∧ K (.int (toI v3), 0) M3))))))) ∧
  (¬ x1 = (iN 6) →
   ((x1 < (iN 9) →
    CT l E (d - 1) m_Mod_fails [(.ref 24, 41), (.int (iN 2), 0)] M (fun v4 M4 =>
     ((((toI v4) = 0 ∨ (toI v4) = 1)) ∧ K (.int (toI v4), 0) M4))) ∧
   (¬ x1 < (iN 9) →
    (((iN 19) < x1 →
     CT l E (d - 1) m_Mod_fails [(.ref 24, 41), (.int (iN 2), 0)] M (fun v5 M5 =>
      ((((toI v5) = 0 ∨ (toI v5) = 1)) ∧ K (.int (toI v5), 0) M5))) ∧
    (¬ (iN 19) < x1 →
     ((x1 = (iN 15) →
      CT l E (d - 1) m_Mod_fails [(.ref 24, 41), (.int (iN 2), 0)] M (fun v6 M6 =>
       ((((toI v6) = 0 ∨ (toI v6) = 1)) ∧ K (.int (toI v6), 0) M6))) ∧
     (¬ x1 = (iN 15) →
      ((¬ x1 = (iN 18) →
       ((x1 = (iN 18) →
        G l E d m_Mod_yearStep 109 [(0, (.ref 24, 41)), (1, (.int x1, 0)), (2, (.int x2, 0)), (3, (.int x3, 0)), (4, (.int s0, 0))] [] M K) ∧
       (¬ x1 = (iN 18) →
        ((¬ (iN (M 24 0 24)) = (iN 30) →
         G l E d m_Mod_yearStep 109 [(0, (.ref 24, 41)), (1, (.int x1, 0)), (2, (.int x2, 0)), (3, (.int x3, 0)), (4, (.int s0, 0))] [] M K) ∧
        ((iN (M 24 0 24)) = (iN 30) →
         CT l E (d - 1) m_Mod_fails [(.ref 24, 41), (.int (iN 6), 0)] M (fun v7 M7 =>
          ((((toI v7) = 0 ∨ (toI v7) = 1)) ∧ K (.int (toI v7), 0) M7))))))) ∧
      (x1 = (iN 18) →
       ((¬ (iN (M 24 0 23)) = 0 →
        ((x1 = (iN 18) →
         G l E d m_Mod_yearStep 109 [(0, (.ref 24, 41)), (1, (.int x1, 0)), (2, (.int x2, 0)), (3, (.int x3, 0)), (4, (.int s0, 0))] [] M K) ∧
        (¬ x1 = (iN 18) →
         ((¬ (iN (M 24 0 24)) = (iN 30) →
          G l E d m_Mod_yearStep 109 [(0, (.ref 24, 41)), (1, (.int x1, 0)), (2, (.int x2, 0)), (3, (.int x3, 0)), (4, (.int s0, 0))] [] M K) ∧
         ((iN (M 24 0 24)) = (iN 30) →
          CT l E (d - 1) m_Mod_fails [(.ref 24, 41), (.int (iN 6), 0)] M (fun v8 M8 =>
           ((((toI v8) = 0 ∨ (toI v8) = 1)) ∧ K (.int (toI v8), 0) M8))))))) ∧
       ((iN (M 24 0 23)) = 0 →
        CT l E (d - 1) m_Mod_fails [(.ref 24, 41), (.int (iN 2), 0)] M (fun v9 M9 =>
         ((((toI v9) = 0 ∨ (toI v9) = 1)) ∧ K (.int (toI v9), 0) M9))))))))))))))) :
  G l E d m_Mod_yearStep 42 [(0, (.ref 24, 41)), (1, (.int x1, 0)), (2, (.int x2, 0)), (3, (.int x3, 0))] [(.int s0, 0)] M K := G.blk 60 _ hd ok_Mod_yearStep rfl h
set_option maxRecDepth 100000 in
theorem b_Mod_yearStep_109 {l : Launch} {E : EnvT} {d : Nat} {K : AV → Mem → Prop} {M : Mem} {x1 : Int32} {x2 : Int32} {x3 : Int32} {x4 : Int32} (hd : 1 ≤ d)
  (h : ((x4 = 0 →
   G l E d m_Mod_yearStep 129 [(0, (.ref 24, 41)), (1, (.int x1, 0)), (2, (.int x2, 0)), (3, (.int x3, 0)), (4, (.int x4, 0))] [] M K) ∧
  (¬ x4 = 0 →
   ((¬ (iN (M 24 0 23)) = (iN 3) →
    G l E d m_Mod_yearStep 129 [(0, (.ref 24, 41)), (1, (.int x1, 0)), (2, (.int x2, 0)), (3, (.int x3, 0)), (4, (.int x4, 0))] [] M K) ∧
   ((iN (M 24 0 23)) = (iN 3) →
    CT l E (d - 1) m_Mod_fails [(.ref 24, 41), (.int (iN 7), 0)] M (fun v1 M1 =>
     ((((toI v1) = 0 ∨ (toI v1) = 1)) ∧ K (.int (toI v1), 0) M1))))))) :
  G l E d m_Mod_yearStep 109 [(0, (.ref 24, 41)), (1, (.int x1, 0)), (2, (.int x2, 0)), (3, (.int x3, 0)), (4, (.int x4, 0))] [] M K := G.blk 60 _ hd ok_Mod_yearStep rfl h
set_option maxRecDepth 100000 in
theorem b_Mod_yearStep_129 {l : Launch} {E : EnvT} {d : Nat} {K : AV → Mem → Prop} {M : Mem} {x1 : Int32} {x2 : Int32} {x3 : Int32} {x4 : Int32} (hd : 1 ≤ d)
  (h : ((¬ x1 = (iN 18) →
   G l E d m_Mod_yearStep 149 [(0, (.ref 24, 41)), (1, (.int x1, 0)), (2, (.int x2, 0)), (3, (.int x3, 0)), (4, (.int x4, 0))] [] (upd3 M 24 0 24 (((iN (M 24 0 24)) + (iN 1))).toInt) K) ∧
  (x1 = (iN 18) →
   G l E d m_Mod_yearStep 149 [(0, (.ref 24, 41)), (1, (.int x1, 0)), (2, (.int x2, 0)), (3, (.int x3, 0)), (4, (.int x4, 0))] [] (upd3 M 24 0 24 (((iN (M 24 0 24)) + (iN 0))).toInt) K))) :
  G l E d m_Mod_yearStep 129 [(0, (.ref 24, 41)), (1, (.int x1, 0)), (2, (.int x2, 0)), (3, (.int x3, 0)), (4, (.int x4, 0))] [] M K := G.blk 60 _ hd ok_Mod_yearStep rfl h
set_option maxRecDepth 100000 in
theorem b_Mod_yearStep_149 {l : Launch} {E : EnvT} {d : Nat} {K : AV → Mem → Prop} {M : Mem} {x1 : Int32} {x2 : Int32} {x3 : Int32} {x4 : Int32} (hd : 1 ≤ d)
  (h : (vp_in x3 3612 ∧ G l E d m_Mod_yearStep 159 [(0, (.ref 24, 41)), (1, (.int x1, 0)), (2, (.int x2, 0)), (3, (.int x3, 0)), (4, (.int x4, 0)), (5, (.int (iN 1), 0))] [] (upd3 M 24 1 (x3).toNatClampNeg (x1).toInt) K)) :
  G l E d m_Mod_yearStep 149 [(0, (.ref 24, 41)), (1, (.int x1, 0)), (2, (.int x2, 0)), (3, (.int x3, 0)), (4, (.int x4, 0))] [] M K := G.blk 60 _ hd ok_Mod_yearStep rfl h
set_option maxRecDepth 100000 in
theorem b_Mod_yearStep_159 {l : Launch} {E : EnvT} {d : Nat} {K : AV → Mem → Prop} {M : Mem} {x1 : Int32} {x2 : Int32} {x3 : Int32} {x4 : Int32} {x5 : Int32} (hd : 1 ≤ d)
  (h : (((iN 6) ≤ x5 →
   G l E d m_Mod_yearStep 182 [(0, (.ref 24, 41)), (1, (.int x1, 0)), (2, (.int x2, 0)), (3, (.int x3, 0)), (4, (.int x4, 0))] [] M K) ∧
  (¬ (iN 6) ≤ x5 →
   (vp_in (x3 + x5) 3612 ∧ G l E d m_Mod_yearStep 159 [(0, (.ref 24, 41)), (1, (.int x1, 0)), (2, (.int x2, 0)), (3, (.int x3, 0)), (4, (.int x4, 0)), (5, (.int (x5 + iN 1), 0))] [] (upd3 M 24 1 ((x3 + x5)).toNatClampNeg ((iN 0)).toInt) K)))) :
  G l E d m_Mod_yearStep 159 [(0, (.ref 24, 41)), (1, (.int x1, 0)), (2, (.int x2, 0)), (3, (.int x3, 0)), (4, (.int x4, 0)), (5, (.int x5, 0))] [] M K := G.blk 60 _ hd ok_Mod_yearStep rfl h
set_option maxRecDepth 100000 in
theorem b_Mod_yearStep_182 {l : Launch} {E : EnvT} {d : Nat} {K : AV → Mem → Prop} {M : Mem} {x1 : Int32} {x2 : Int32} {x3 : Int32} {x4 : Int32} (hd : 1 ≤ d)
  (h : (vp_in (iN 2412) 3612 ∧ vp_in (iN 2412) 3612 ∧ CT l E (d - 1) m_Mod_ahead [(.ref 24, 41)] (upd3 M 24 1 ((iN 2412)).toNatClampNeg (((iN (M 24 1 ((iN 2412)).toNatClampNeg)) + (iN 1))).toInt) (fun v1 M1 =>
   CT l E (d - 1) m_Mod_yearOrder [(.ref 24, 41), (.int x1, 0), (.int x3, 0)] M1 (fun v2 M2 =>
    ((¬ (toI v2) = 0 →
     G l E d m_Mod_yearStep 209 [(0, (.ref 24, 41)), (1, (.int x1, 0)), (2, (.int x2, 0)), (3, (.int x3, 0)), (4, (.int x4, 0))] [] M2 K) ∧
    ((toI v2) = 0 →
     ((((iN 0) = 0 ∨ (iN 0) = 1)) ∧ K (.int (iN 0), 0) M2))))))) :
  G l E d m_Mod_yearStep 182 [(0, (.ref 24, 41)), (1, (.int x1, 0)), (2, (.int x2, 0)), (3, (.int x3, 0)), (4, (.int x4, 0))] [] M K := G.blk 60 _ hd ok_Mod_yearStep rfl h
set_option maxRecDepth 100000 in
theorem b_Mod_yearStep_209 {l : Launch} {E : EnvT} {d : Nat} {K : AV → Mem → Prop} {M : Mem} {x1 : Int32} {x2 : Int32} {x3 : Int32} {x4 : Int32} (hd : 1 ≤ d)
  (h : ((x4 = 0 →
   G l E d m_Mod_yearStep 234 [(0, (.ref 24, 41)), (1, (.int x1, 0)), (2, (.int x2, 0)), (3, (.int x3, 0))] [] M K) ∧
  (¬ x4 = 0 →
   (vp_in (iN (M 24 0 23)) 3 ∧ G l E d m_Mod_yearStep 234 [(0, (.ref 24, 41)), (1, (.int x1, 0)), (2, (.int x2, 0)), (3, (.int x3, 0))] [] (upd3 (upd3 M 24 8 ((iN (M 24 0 23))).toNatClampNeg (x2).toInt) 24 0 23 (((iN ((upd3 M 24 8 ((iN (M 24 0 23))).toNatClampNeg (x2).toInt) 24 0 23)) + (iN 1))).toInt) K)))) :
  G l E d m_Mod_yearStep 209 [(0, (.ref 24, 41)), (1, (.int x1, 0)), (2, (.int x2, 0)), (3, (.int x3, 0)), (4, (.int x4, 0))] [] M K := G.blk 60 _ hd ok_Mod_yearStep rfl h
set_option maxRecDepth 100000 in
theorem b_Mod_yearStep_234 {l : Launch} {E : EnvT} {d : Nat} {K : AV → Mem → Prop} {M : Mem} {x1 : Int32} {x2 : Int32} {x3 : Int32} (hd : 1 ≤ d)
  (h : ((¬ x1 = (iN 18) →
   G l E d m_Mod_yearStep 291 [(0, (.ref 24, 41))] [] M K) ∧
  (x1 = (iN 18) →
   (vp_in (iN ((upd3 M 24 0 23 (((iN (M 24 0 23)) - (iN 1))).toInt) 24 0 23)) 3 ∧ vp_in (x3 + (iN 4)) 3612 ∧ vp_in (iN ((upd3 (upd3 M 24 0 23 (((iN (M 24 0 23)) - (iN 1))).toInt) 24 1 ((x3 + (iN 4))).toNatClampNeg ((iN ((upd3 M 24 0 23 (((iN (M 24 0 23)) - (iN 1))).toInt) 24 8 ((iN ((upd3 M 24 0 23 (((iN (M 24 0 23)) - (iN 1))).toInt) 24 0 23))).toNatClampNeg))).toInt) 24 0 23)) 3 ∧ vp_in (((iN 2646) + ((iN 6) * (iN ((upd3 (upd3 M 24 0 23 (((iN (M 24 0 23)) - (iN 1))).toInt) 24 1 ((x3 + (iN 4))).toNatClampNeg ((iN ((upd3 M 24 0 23 (((iN (M 24 0 23)) - (iN 1))).toInt) 24 8 ((iN ((upd3 M 24 0 23 (((iN (M 24 0 23)) - (iN 1))).toInt) 24 0 23))).toNatClampNeg))).toInt) 24 8 ((iN ((upd3 (upd3 M 24 0 23 (((iN (M 24 0 23)) - (iN 1))).toInt) 24 1 ((x3 + (iN 4))).toNatClampNeg ((iN ((upd3 M 24 0 23 (((iN (M 24 0 23)) - (iN 1))).toInt) 24 8 ((iN ((upd3 M 24 0 23 (((iN (M 24 0 23)) - (iN 1))).toInt) 24 0 23))).toNatClampNeg))).toInt) 24 0 23))).toNatClampNeg)))) + (iN 4)) 3612 ∧ G l E d m_Mod_yearStep 291 [(0, (.ref 24, 41))] [] (upd3 (upd3 (upd3 M 24 0 23 (((iN (M 24 0 23)) - (iN 1))).toInt) 24 1 ((x3 + (iN 4))).toNatClampNeg ((iN ((upd3 M 24 0 23 (((iN (M 24 0 23)) - (iN 1))).toInt) 24 8 ((iN ((upd3 M 24 0 23 (((iN (M 24 0 23)) - (iN 1))).toInt) 24 0 23))).toNatClampNeg))).toInt) 24 1 ((((iN 2646) + ((iN 6) * (iN ((upd3 (upd3 M 24 0 23 (((iN (M 24 0 23)) - (iN 1))).toInt) 24 1 ((x3 + (iN 4))).toNatClampNeg ((iN ((upd3 M 24 0 23 (((iN (M 24 0 23)) - (iN 1))).toInt) 24 8 ((iN ((upd3 M 24 0 23 (((iN (M 24 0 23)) - (iN 1))).toInt) 24 0 23))).toNatClampNeg))).toInt) 24 8 ((iN ((upd3 (upd3 M 24 0 23 (((iN (M 24 0 23)) - (iN 1))).toInt) 24 1 ((x3 + (iN 4))).toNatClampNeg ((iN ((upd3 M 24 0 23 (((iN (M 24 0 23)) - (iN 1))).toInt) 24 8 ((iN ((upd3 M 24 0 23 (((iN (M 24 0 23)) - (iN 1))).toInt) 24 0 23))).toNatClampNeg))).toInt) 24 0 23))).toNatClampNeg)))) + (iN 4))).toNatClampNeg (x2).toInt) K)))) :
  G l E d m_Mod_yearStep 234 [(0, (.ref 24, 41)), (1, (.int x1, 0)), (2, (.int x2, 0)), (3, (.int x3, 0))] [] M K := G.blk 60 _ hd ok_Mod_yearStep rfl h
set_option maxRecDepth 100000 in
theorem b_Mod_yearStep_291 {l : Launch} {E : EnvT} {d : Nat} {K : AV → Mem → Prop} {M : Mem}  (hd : 1 ≤ d)
  (h : CT l E (d - 1) m_Mod_wantSign [(.ref 24, 41), (.int (iN 59), 0)] M (fun v1 M1 =>
   ((((toI v1) = 0 ∨ (toI v1) = 1)) ∧ K (.int (toI v1), 0) M1))) :
  G l E d m_Mod_yearStep 291 [(0, (.ref 24, 41))] [] M K := G.blk 60 _ hd ok_Mod_yearStep rfl h
def bt_Mod_years : BtT := [(0, [0, 1], true, [(0, .aload_n 0, 1, 0, 0, 0, m0),
   (1, .iload_n 1, 1, 0, 0, 0, m0),
   (2, .sipush 300, 3, 0, 0, 0, m0),
   (5, .invokevirtual 246, 3, 0, 0, 1609, m_Mod_begins),
   (8, .ifCond .ne 9, 3, 17, 0, 0, m0),
   (11, .nop, 0, 0, 0, 0, m0)]),
  (11, [], false, [(11, .aload_n 0, 1, 0, 0, 0, m0),
   (12, .iconst 1, 1, 0, 0, 0, m0),
   (13, .invokevirtual 72, 3, 0, 0, 1629, m_Mod_refuse),
   (16, .ireturn, 1, 0, 0, 0, m0)]),
  (17, [], false, [(17, .aload_n 0, 1, 0, 0, 0, m0),
   (18, .getfield 7, 3, 0, 11, 1447, m0),
   (21, .sipush 2412, 3, 0, 0, 0, m0),
   (24, .iconst 0, 1, 0, 0, 0, m0),
   (25, .iastore, 1, 0, 0, 0, m0),
   (26, .aload_n 0, 1, 0, 0, 0, m0),
   (27, .iconst 0, 1, 0, 0, 0, m0),
   (28, .putfield 262, 3, 23, 11, 1470, m0),
   (31, .aload_n 0, 1, 0, 0, 0, m0),
   (32, .iconst 0, 1, 0, 0, 0, m0),
   (33, .putfield 265, 3, 24, 11, 1471, m0),
   (36, .iconst 1, 1, 0, 0, 0, m0),
   (37, .istore_n 2, 1, 0, 0, 0, m0),
   (38, .nop, 0, 0, 0, 0, m0)]),
  (38, [0, 2], true, [(38, .iload_n 2, 1, 0, 0, 0, m0),
   (39, .ifCond .eq 18, 3, 57, 0, 0, m0),
   (42, .nop, 0, 0, 0, 0, m0)]),
  (42, [], false, [(42, .aload_n 0, 1, 0, 0, 0, m0),
   (43, .getfield 117, 3, 12, 11, 1459, m0),
   (46, .ifCond .eq 11, 3, 57, 0, 0, m0),
   (49, .nop, 0, 0, 0, 0, m0)]),
  (49, [], false, [(49, .aload_n 0, 1, 0, 0, 0, m0),
   (50, .invokevirtual 271, 3, 0, 0, 1748, m_Mod_yearStep),
   (53, .istore_n 2, 1, 0, 0, 0, m0),
   (54, .goto (-16), 3, 38, 0, 0, m0)]),
  (57, [], false, [(57, .aload_n 0, 1, 0, 0, 0, m0),
   (58, .getfield 142, 3, 18, 11, 1465, m0),
   (61, .ifCond .ne 16, 3, 77, 0, 0, m0),
   (64, .nop, 0, 0, 0, 0, m0)]),
  (64, [], false, [(64, .aload_n 0, 1, 0, 0, 0, m0),
   (65, .getfield 262, 3, 23, 11, 1470, m0),
   (68, .ifCond .le 9, 3, 77, 0, 0, m0),
   (71, .nop, 0, 0, 0, 0, m0)]),
  (71, [], false, [(71, .aload_n 0, 1, 0, 0, 0, m0),
   (72, .iconst 2, 1, 0, 0, 0, m0),
   (73, .invokevirtual 154, 3, 0, 0, 1651, m_Mod_fails),
   (76, .pop, 1, 0, 0, 0, m0),
   (77, .nop, 0, 0, 0, 0, m0)]),
  (77, [], false, [(77, .aload_n 0, 1, 0, 0, 0, m0),
   (78, .getfield 142, 3, 18, 11, 1465, m0),
   (81, .ifCond .ne 50, 3, 131, 0, 0, m0),
   (84, .nop, 0, 0, 0, 0, m0)]),
  (84, [], false, [(84, .aload_n 0, 1, 0, 0, 0, m0),
   (85, .getfield 7, 3, 0, 11, 1447, m0),
   (88, .iconst 4, 1, 0, 0, 0, m0),
   (89, .aload_n 0, 1, 0, 0, 0, m0),
   (90, .getfield 7, 3, 0, 11, 1447, m0),
   (93, .sipush 2412, 3, 0, 0, 0, m0),
   (96, .iaload, 1, 0, 0, 0, m0),
   (97, .iastore, 1, 0, 0, 0, m0),
   (98, .sipush 238, 3, 0, 0, 0, m0),
   (101, .istore_n 3, 1, 0, 0, 0, m0),
   (102, .nop, 0, 0, 0, 0, m0)]),
  (102, [0, 3], true, [(102, .iload_n 3, 1, 0, 0, 0, m0),
   (103, .sipush 598, 3, 0, 0, 0, m0),
   (106, .if_icmp .ge 25, 3, 131, 0, 0, m0),
   (109, .nop, 0, 0, 0, 0, m0)]),
  (109, [], false, [(109, .aload_n 0, 1, 0, 0, 0, m0),
   (110, .getfield 7, 3, 0, 11, 1447, m0),
   (113, .iload_n 3, 1, 0, 0, 0, m0),
   (114, .aload_n 0, 1, 0, 0, 0, m0),
   (115, .getfield 7, 3, 0, 11, 1447, m0),
   (118, .sipush 2408, 3, 0, 0, 0, m0),
   (121, .iload_n 3, 1, 0, 0, 0, m0),
   (122, .iadd, 1, 0, 0, 0, m0),
   (123, .iaload, 1, 0, 0, 0, m0),
   (124, .iastore, 1, 0, 0, 0, m0),
   (125, .iinc 3 1, 3, 0, 0, 0, m0),
   (128, .goto (-26), 3, 102, 0, 0, m0)]),
  (131, [], false, [(131, .aload_n 0, 1, 0, 0, 0, m0),
   (132, .aload_n 0, 1, 0, 0, 0, m0),
   (133, .getfield 265, 3, 24, 11, 1471, m0),
   (136, .invokevirtual 253, 3, 0, 0, 1736, m_Mod_taken),
   (139, .ireturn, 1, 0, 0, 0, m0)])]
theorem ok_Mod_years : okBt m_Mod_years bt_Mod_years = true := by decide +kernel
set_option maxRecDepth 100000 in
theorem b_Mod_years_0 {l : Launch} {E : EnvT} {d : Nat} {K : AV → Mem → Prop} {M : Mem} {x1 : Int32} (hd : 1 ≤ d)
  (h : CT l E (d - 1) m_Mod_begins [(.ref 24, 41), (.int x1, 0), (.int (iN 300), 0)] M (fun v1 M1 =>
   ((¬ (toI v1) = 0 →
    (vp_in (iN 2412) 3612 ∧ G l E d m_Mod_years 38 [(0, (.ref 24, 41)), (2, (.int (iN 1), 0))] [] (upd3 (upd3 (upd3 M1 24 1 ((iN 2412)).toNatClampNeg ((iN 0)).toInt) 24 0 23 ((iN 0)).toInt) 24 0 24 ((iN 0)).toInt) K)) ∧
   ((toI v1) = 0 →
    CT l E (d - 1) m_Mod_refuse [(.ref 24, 41), (.int (iN 1), 0)] M1 (fun v2 M2 =>
     K (.int (toI v2), 0) M2))))) :
  G l E d m_Mod_years 0 [(0, (.ref 24, 41)), (1, (.int x1, 0))] [] M K := G.blk 60 _ hd ok_Mod_years rfl h
set_option maxRecDepth 100000 in
theorem b_Mod_years_38 {l : Launch} {E : EnvT} {d : Nat} {K : AV → Mem → Prop} {M : Mem} {x2 : Int32} (hd : 1 ≤ d)
  (h : ((x2 = 0 →
   ((¬ (iN (M 24 0 18)) = 0 →
    ((¬ (iN (M 24 0 18)) = 0 →
     CT l E (d - 1) m_Mod_taken [(.ref 24, 41), (.int (iN (M 24 0 24)), 0)] M (fun v1 M1 =>
      K (.int (toI v1), 0) M1)) ∧
    ((iN (M 24 0 18)) = 0 →
     (vp_in (iN 2412) 3612 ∧ vp_in (iN 4) 3612 ∧ G l E d m_Mod_years 102 [(0, (.ref 24, 41)), (3, (.int (iN 238), 0))] [] (upd3 M 24 1 ((iN 4)).toNatClampNeg ((iN (M 24 1 ((iN 2412)).toNatClampNeg))).toInt) K)))) ∧
   ((iN (M 24 0 18)) = 0 →
    (((iN (M 24 0 23)) ≤ 0 →
     ((¬ (iN (M 24 0 18)) = 0 →
      CT l E (d - 1) m_Mod_taken [(.ref 24, 41), (.int (iN (M 24 0 24)), 0)] M (fun v2 M2 =>
       K (.int (toI v2), 0) M2)) ∧
     ((iN (M 24 0 18)) = 0 →
      (vp_in (iN 2412) 3612 ∧ vp_in (iN 4) 3612 ∧ G l E d m_Mod_years 102 [(0, (.ref 24, 41)), (3, (.int (iN 238), 0))] [] (upd3 M 24 1 ((iN 4)).toNatClampNeg ((iN (M 24 1 ((iN 2412)).toNatClampNeg))).toInt) K)))) ∧
    (¬ (iN (M 24 0 23)) ≤ 0 →
     CT l E (d - 1) m_Mod_fails [(.ref 24, 41), (.int (iN 2), 0)] M (fun v3 M3 =>
      ((¬ (iN (M3 24 0 18)) = 0 →
       CT l E (d - 1) m_Mod_taken [(.ref 24, 41), (.int (iN (M3 24 0 24)), 0)] M3 (fun v4 M4 =>
        K (.int (toI v4), 0) M4)) ∧
      ((iN (M3 24 0 18)) = 0 →
       (vp_in (iN 2412) 3612 ∧ vp_in (iN 4) 3612 ∧ G l E d m_Mod_years 102 [(0, (.ref 24, 41)), (3, (.int (iN 238), 0))] [] (upd3 M3 24 1 ((iN 4)).toNatClampNeg ((iN (M3 24 1 ((iN 2412)).toNatClampNeg))).toInt) K))))))))) ∧
  (¬ x2 = 0 →
   (((iN (M 24 0 12)) = 0 →
    ((¬ (iN (M 24 0 18)) = 0 →
     ((¬ (iN (M 24 0 18)) = 0 →
      CT l E (d - 1) m_Mod_taken [(.ref 24, 41), (.int (iN (M 24 0 24)), 0)] M (fun v5 M5 =>
       K (.int (toI v5), 0) M5)) ∧
     ((iN (M 24 0 18)) = 0 →
      (vp_in (iN 2412) 3612 ∧ vp_in (iN 4) 3612 ∧ G l E d m_Mod_years 102 [(0, (.ref 24, 41)), (3, (.int (iN 238), 0))] [] (upd3 M 24 1 ((iN 4)).toNatClampNeg ((iN (M 24 1 ((iN 2412)).toNatClampNeg))).toInt) K)))) ∧
    ((iN (M 24 0 18)) = 0 →
     (((iN (M 24 0 23)) ≤ 0 →
      ((¬ (iN (M 24 0 18)) = 0 →
       CT l E (d - 1) m_Mod_taken [(.ref 24, 41), (.int (iN (M 24 0 24)), 0)] M (fun v6 M6 =>
        K (.int (toI v6), 0) M6)) ∧
      ((iN (M 24 0 18)) = 0 →
       (vp_in (iN 2412) 3612 ∧ vp_in (iN 4) 3612 ∧ G l E d m_Mod_years 102 [(0, (.ref 24, 41)), (3, (.int (iN 238), 0))] [] (upd3 M 24 1 ((iN 4)).toNatClampNeg ((iN (M 24 1 ((iN 2412)).toNatClampNeg))).toInt) K)))) ∧
     (¬ (iN (M 24 0 23)) ≤ 0 →
      CT l E (d - 1) m_Mod_fails [(.ref 24, 41), (.int (iN 2), 0)] M (fun v7 M7 =>
       ((¬ (iN (M7 24 0 18)) = 0 →
        CT l E (d - 1) m_Mod_taken [(.ref 24, 41), (.int (iN (M7 24 0 24)), 0)] M7 (fun v8 M8 =>
         K (.int (toI v8), 0) M8)) ∧
       ((iN (M7 24 0 18)) = 0 →
        (vp_in (iN 2412) 3612 ∧ vp_in (iN 4) 3612 ∧ G l E d m_Mod_years 102 [(0, (.ref 24, 41)), (3, (.int (iN 238), 0))] [] (upd3 M7 24 1 ((iN 4)).toNatClampNeg ((iN (M7 24 1 ((iN 2412)).toNatClampNeg))).toInt) K))))))))) ∧
   (¬ (iN (M 24 0 12)) = 0 →
    CT l E (d - 1) m_Mod_yearStep [(.ref 24, 41)] M (fun v9 M9 =>
     G l E d m_Mod_years 38 [(0, (.ref 24, 41)), (2, (.int (toI v9), 0))] [] M9 K)))))) :
  G l E d m_Mod_years 38 [(0, (.ref 24, 41)), (2, (.int x2, 0))] [] M K := G.blk 60 _ hd ok_Mod_years rfl h
set_option maxRecDepth 100000 in
theorem b_Mod_years_102 {l : Launch} {E : EnvT} {d : Nat} {K : AV → Mem → Prop} {M : Mem} {x3 : Int32} (hd : 1 ≤ d)
  (h : (((iN 598) ≤ x3 →
   CT l E (d - 1) m_Mod_taken [(.ref 24, 41), (.int (iN (M 24 0 24)), 0)] M (fun v1 M1 =>
    K (.int (toI v1), 0) M1)) ∧
  (¬ (iN 598) ≤ x3 →
   (vp_in ((iN 2408) + x3) 3612 ∧ vp_in x3 3612 ∧ G l E d m_Mod_years 102 [(0, (.ref 24, 41)), (3, (.int (x3 + iN 1), 0))] [] (upd3 M 24 1 (x3).toNatClampNeg ((iN (M 24 1 (((iN 2408) + x3)).toNatClampNeg))).toInt) K)))) :
  G l E d m_Mod_years 102 [(0, (.ref 24, 41)), (3, (.int x3, 0))] [] M K := G.blk 60 _ hd ok_Mod_years rfl h
def bt_Mod_fault : BtT := [(0, [0, 1], true, [(0, .iload_n 1, 1, 0, 0, 0, m0),
   (1, .ifCond .ne 10, 3, 11, 0, 0, m0),
   (4, .nop, 0, 0, 0, 0, m0)]),
  (4, [], false, [(4, .aload_n 0, 1, 0, 0, 0, m0),
   (5, .getfield 37, 3, 16, 11, 1463, m0),
   (8, .goto 16, 3, 24, 0, 0, m0)]),
  (11, [], false, [(11, .iload_n 1, 1, 0, 0, 0, m0),
   (12, .iconst 1, 1, 0, 0, 0, m0),
   (13, .if_icmp .ne 10, 3, 23, 0, 0, m0),
   (16, .nop, 0, 0, 0, 0, m0)]),
  (16, [], false, [(16, .aload_n 0, 1, 0, 0, 0, m0),
   (17, .getfield 41, 3, 17, 11, 1464, m0),
   (20, .goto 4, 3, 24, 0, 0, m0)]),
  (23, [], false, [(23, .iconst (-1), 1, 0, 0, 0, m0),
   (24, .nop, 0, 0, 0, 0, m0)]),
  (24, [], false, [(24, .ireturn, 1, 0, 0, 0, m0)])]
theorem ok_Mod_fault : okBt m_Mod_fault bt_Mod_fault = true := by decide +kernel
set_option maxRecDepth 100000 in
theorem b_Mod_fault_0 {l : Launch} {E : EnvT} {d : Nat} {K : AV → Mem → Prop} {M : Mem} {x1 : Int32} (hd : 1 ≤ d)
  (h : ((¬ x1 = 0 →
   ((¬ x1 = (iN 1) →
    K (.int (iN (-1)), 0) M) ∧
   (x1 = (iN 1) →
    K (.int (iN (M 24 0 17)), 0) M))) ∧
  (x1 = 0 →
   K (.int (iN (M 24 0 16)), 0) M))) :
  G l E d m_Mod_fault 0 [(0, (.ref 24, 41)), (1, (.int x1, 0))] [] M K := G.blk 60 _ hd ok_Mod_fault rfl h
def bt_Mod_notesHeld : BtT := [(0, [0], true, [(0, .iconst 0, 1, 0, 0, 0, m0),
   (1, .istore_n 1, 1, 0, 0, 0, m0),
   (2, .iconst 0, 1, 0, 0, 0, m0),
   (3, .istore_n 2, 1, 0, 0, 0, m0),
   (4, .nop, 0, 0, 0, 0, m0)]),
  (4, [0, 1, 2], true, [(4, .iload_n 2, 1, 0, 0, 0, m0),
   (5, .aload_n 0, 1, 0, 0, 0, m0),
   (6, .getfield 7, 3, 0, 11, 1447, m0),
   (9, .iconst 0, 1, 0, 0, 0, m0),
   (10, .iaload, 1, 0, 0, 0, m0),
   (11, .if_icmp .ge 45, 3, 56, 0, 0, m0),
   (14, .nop, 0, 0, 0, 0, m0)]),
  (14, [], false, [(14, .iconst 0, 1, 0, 0, 0, m0),
   (15, .istore_n 3, 1, 0, 0, 0, m0),
   (16, .nop, 0, 0, 0, 0, m0)]),
  (16, [0, 1, 2, 3], true, [(16, .iload_n 3, 1, 0, 0, 0, m0),
   (17, .aload_n 0, 1, 0, 0, 0, m0),
   (18, .iload_n 2, 1, 0, 0, 0, m0),
   (19, .iconst 1, 1, 0, 0, 0, m0),
   (20, .invokevirtual 171, 3, 0, 0, 1708, m_Mod_of),
   (23, .if_icmp .ge 27, 3, 50, 0, 0, m0),
   (26, .nop, 0, 0, 0, 0, m0)]),
  (26, [], false, [(26, .iload_n 1, 1, 0, 0, 0, m0),
   (27, .aload_n 0, 1, 0, 0, 0, m0),
   (28, .iload_n 2, 1, 0, 0, 0, m0),
   (29, .iload_n 3, 1, 0, 0, 0, m0),
   (30, .invokevirtual 174, 3, 0, 0, 1712, m_Mod_holderOf),
   (33, .iconst (-1), 1, 0, 0, 0, m0),
   (34, .if_icmp .ne 7, 3, 41, 0, 0, m0),
   (37, .nop, 0, 0, 0, 0, m0)]),
  (37, [], false, [(37, .iconst 0, 1, 0, 0, 0, m0),
   (38, .goto 4, 3, 42, 0, 0, m0)]),
  (41, [], false, [(41, .iconst 1, 1, 0, 0, 0, m0),
   (42, .nop, 0, 0, 0, 0, m0)]),
  (42, [], false, [(42, .iadd, 1, 0, 0, 0, m0),
   (43, .istore_n 1, 1, 0, 0, 0, m0),
   (44, .iinc 3 1, 3, 0, 0, 0, m0),
   (47, .goto (-31), 3, 16, 0, 0, m0)]),
  (50, [], false, [(50, .iinc 2 1, 3, 0, 0, 0, m0),
   (53, .goto (-49), 3, 4, 0, 0, m0)]),
  (56, [], false, [(56, .iload_n 1, 1, 0, 0, 0, m0),
   (57, .ireturn, 1, 0, 0, 0, m0)])]
theorem ok_Mod_notesHeld : okBt m_Mod_notesHeld bt_Mod_notesHeld = true := by decide +kernel
set_option maxRecDepth 100000 in
theorem b_Mod_notesHeld_0 {l : Launch} {E : EnvT} {d : Nat} {K : AV → Mem → Prop} {M : Mem}  (hd : 1 ≤ d)
  (h : G l E d m_Mod_notesHeld 4 [(0, (.ref 24, 41)), (1, (.int (iN 0), 0)), (2, (.int (iN 0), 0))] [] M K) :
  G l E d m_Mod_notesHeld 0 [(0, (.ref 24, 41))] [] M K := G.blk 60 _ hd ok_Mod_notesHeld rfl h
set_option maxRecDepth 100000 in
theorem b_Mod_notesHeld_4 {l : Launch} {E : EnvT} {d : Nat} {K : AV → Mem → Prop} {M : Mem} {x1 : Int32} {x2 : Int32} (hd : 1 ≤ d)
  (h : (vp_in (iN 0) 3612 ∧ (((iN (M 24 1 ((iN 0)).toNatClampNeg)) ≤ x2 →
   K (.int x1, 0) M) ∧
  (¬ (iN (M 24 1 ((iN 0)).toNatClampNeg)) ≤ x2 →
   G l E d m_Mod_notesHeld 16 [(0, (.ref 24, 41)), (1, (.int x1, 0)), (2, (.int x2, 0)), (3, (.int (iN 0), 0))] [] M K)))) :
  G l E d m_Mod_notesHeld 4 [(0, (.ref 24, 41)), (1, (.int x1, 0)), (2, (.int x2, 0))] [] M K := G.blk 60 _ hd ok_Mod_notesHeld rfl h
set_option maxRecDepth 100000 in
theorem b_Mod_notesHeld_16 {l : Launch} {E : EnvT} {d : Nat} {K : AV → Mem → Prop} {M : Mem} {x1 : Int32} {x2 : Int32} {x3 : Int32} (hd : 1 ≤ d)
  (h : CT l E (d - 1) m_Mod_of [(.ref 24, 41), (.int x2, 0), (.int (iN 1), 0)] M (fun v1 M1 =>
   (((toI v1) ≤ x3 →
    G l E d m_Mod_notesHeld 4 [(0, (.ref 24, 41)), (1, (.int x1, 0)), (2, (.int (x2 + iN 1), 0))] [] M1 K) ∧
   (¬ (toI v1) ≤ x3 →
    CT l E (d - 1) m_Mod_holderOf [(.ref 24, 41), (.int x2, 0), (.int x3, 0)] M1 (fun v2 M2 =>
     ((¬ (toI v2) = (iN (-1)) →
      G l E d m_Mod_notesHeld 16 [(0, (.ref 24, 41)), (1, (.int (x1 + (iN 1)), 0)), (2, (.int x2, 0)), (3, (.int (x3 + iN 1), 0))] [] M2 K) ∧
     ((toI v2) = (iN (-1)) →
      G l E d m_Mod_notesHeld 16 [(0, (.ref 24, 41)), (1, (.int (x1 + (iN 0)), 0)), (2, (.int x2, 0)), (3, (.int (x3 + iN 1), 0))] [] M2 K))))))) :
  G l E d m_Mod_notesHeld 16 [(0, (.ref 24, 41)), (1, (.int x1, 0)), (2, (.int x2, 0)), (3, (.int x3, 0))] [] M K := G.blk 60 _ hd ok_Mod_notesHeld rfl h
def bt_Mod_noted : BtT := [(0, [0, 1, 2], true, [(0, .aload_n 0, 1, 0, 0, 0, m0),
   (1, .iload_n 2, 1, 0, 0, 0, m0),
   (2, .iload_n 1, 1, 0, 0, 0, m0),
   (3, .invokevirtual 177, 3, 0, 0, 1704, m_Mod_noteOf),
   (6, .istore_n 3, 1, 0, 0, 0, m0),
   (7, .iload_n 3, 1, 0, 0, 0, m0),
   (8, .iconst (-1), 1, 0, 0, 0, m0),
   (9, .if_icmp .ne 7, 3, 16, 0, 0, m0),
   (12, .nop, 0, 0, 0, 0, m0)]),
  (12, [], false, [(12, .iconst 0, 1, 0, 0, 0, m0),
   (13, .goto 9, 3, 22, 0, 0, m0)]),
  (16, [], false, [(16, .aload_n 0, 1, 0, 0, 0, m0),
   (17, .iload_n 2, 1, 0, 0, 0, m0),
   (18, .iload_n 3, 1, 0, 0, 0, m0),
   (19, .invokevirtual 180, 3, 0, 0, 1716, m_Mod_debtAt),
   (22, .nop, 0, 0, 0, 0, m0)]),
  (22, [], false, [(22, .ireturn, 1, 0, 0, 0, m0)])]
theorem ok_Mod_noted : okBt m_Mod_noted bt_Mod_noted = true := by decide +kernel
set_option maxRecDepth 100000 in
theorem b_Mod_noted_0 {l : Launch} {E : EnvT} {d : Nat} {K : AV → Mem → Prop} {M : Mem} {x1 : Int32} {x2 : Int32} (hd : 1 ≤ d)
  (h : CT l E (d - 1) m_Mod_noteOf [(.ref 24, 41), (.int x2, 0), (.int x1, 0)] M (fun v1 M1 =>
   ((¬ (toI v1) = (iN (-1)) →
    CT l E (d - 1) m_Mod_debtAt [(.ref 24, 41), (.int x2, 0), (.int (toI v1), 0)] M1 (fun v2 M2 =>
     K (.int (toI v2), 0) M2)) ∧
   ((toI v1) = (iN (-1)) →
    K (.int (iN 0), 0) M1)))) :
  G l E d m_Mod_noted 0 [(0, (.ref 24, 41)), (1, (.int x1, 0)), (2, (.int x2, 0))] [] M K := G.blk 60 _ hd ok_Mod_noted rfl h
def bt_Mod_owes : BtT := [(0, [0, 1, 2], true, [(0, .aload_n 0, 1, 0, 0, 0, m0),
   (1, .iload_n 1, 1, 0, 0, 0, m0),
   (2, .iload_n 2, 1, 0, 0, 0, m0),
   (3, .invokevirtual 187, 3, 0, 0, 1724, m_Mod_waiterOf),
   (6, .istore_n 3, 1, 0, 0, 0, m0),
   (7, .aload_n 0, 1, 0, 0, 0, m0),
   (8, .iload_n 1, 1, 0, 0, 0, m0),
   (9, .iload_n 2, 1, 0, 0, 0, m0),
   (10, .invokevirtual 283, 3, 0, 0, 1784, m_Mod_noted),
   (13, .iload_n 3, 1, 0, 0, 0, m0),
   (14, .iconst (-1), 1, 0, 0, 0, m0),
   (15, .if_icmp .ne 7, 3, 22, 0, 0, m0),
   (18, .nop, 0, 0, 0, 0, m0)]),
  (18, [], false, [(18, .iconst 0, 1, 0, 0, 0, m0),
   (19, .goto 17, 3, 36, 0, 0, m0)]),
  (22, [], false, [(22, .aload_n 0, 1, 0, 0, 0, m0),
   (23, .getfield 7, 3, 0, 11, 1447, m0),
   (26, .sipush 214, 3, 0, 0, 0, m0),
   (29, .iconst 3, 1, 0, 0, 0, m0),
   (30, .iload_n 3, 1, 0, 0, 0, m0),
   (31, .imul, 1, 0, 0, 0, m0),
   (32, .iadd, 1, 0, 0, 0, m0),
   (33, .iconst 2, 1, 0, 0, 0, m0),
   (34, .iadd, 1, 0, 0, 0, m0),
   (35, .iaload, 1, 0, 0, 0, m0),
   (36, .nop, 0, 0, 0, 0, m0)]),
  (36, [], false, [(36, .iadd, 1, 0, 0, 0, m0),
   (37, .ireturn, 1, 0, 0, 0, m0)])]
theorem ok_Mod_owes : okBt m_Mod_owes bt_Mod_owes = true := by decide +kernel
set_option maxRecDepth 100000 in
theorem b_Mod_owes_0 {l : Launch} {E : EnvT} {d : Nat} {K : AV → Mem → Prop} {M : Mem} {x1 : Int32} {x2 : Int32} (hd : 1 ≤ d)
  (h : CT l E (d - 1) m_Mod_waiterOf [(.ref 24, 41), (.int x1, 0), (.int x2, 0)] M (fun v1 M1 =>
   CT l E (d - 1) m_Mod_noted [(.ref 24, 41), (.int x1, 0), (.int x2, 0)] M1 (fun v2 M2 =>
    ((¬ (toI v1) = (iN (-1)) →
     (vp_in (((iN 214) + ((iN 3) * (toI v1))) + (iN 2)) 3612 ∧ K (.int ((toI v2) + (iN (M2 24 1 ((((iN 214) + ((iN 3) * (toI v1))) + (iN 2))).toNatClampNeg))), 0) M2)) ∧
    ((toI v1) = (iN (-1)) →
     K (.int ((toI v2) + (iN 0)), 0) M2))))) :
  G l E d m_Mod_owes 0 [(0, (.ref 24, 41)), (1, (.int x1, 0)), (2, (.int x2, 0))] [] M K := G.blk 60 _ hd ok_Mod_owes rfl h
def bt_Mod_owesAll : BtT := [(0, [0, 1], true, [(0, .iconst 0, 1, 0, 0, 0, m0),
   (1, .istore_n 2, 1, 0, 0, 0, m0),
   (2, .iconst 0, 1, 0, 0, 0, m0),
   (3, .istore_n 3, 1, 0, 0, 0, m0),
   (4, .nop, 0, 0, 0, 0, m0)]),
  (4, [0, 1, 2, 3], true, [(4, .iload_n 3, 1, 0, 0, 0, m0),
   (5, .aload_n 0, 1, 0, 0, 0, m0),
   (6, .getfield 7, 3, 0, 11, 1447, m0),
   (9, .iconst 0, 1, 0, 0, 0, m0),
   (10, .iaload, 1, 0, 0, 0, m0),
   (11, .if_icmp .ge 18, 3, 29, 0, 0, m0),
   (14, .nop, 0, 0, 0, 0, m0)]),
  (14, [], false, [(14, .iload_n 2, 1, 0, 0, 0, m0),
   (15, .aload_n 0, 1, 0, 0, 0, m0),
   (16, .iload_n 1, 1, 0, 0, 0, m0),
   (17, .iload_n 3, 1, 0, 0, 0, m0),
   (18, .invokevirtual 286, 3, 0, 0, 1780, m_Mod_owes),
   (21, .iadd, 1, 0, 0, 0, m0),
   (22, .istore_n 2, 1, 0, 0, 0, m0),
   (23, .iinc 3 1, 3, 0, 0, 0, m0),
   (26, .goto (-22), 3, 4, 0, 0, m0)]),
  (29, [], false, [(29, .iload_n 2, 1, 0, 0, 0, m0),
   (30, .ireturn, 1, 0, 0, 0, m0)])]
theorem ok_Mod_owesAll : okBt m_Mod_owesAll bt_Mod_owesAll = true := by decide +kernel
set_option maxRecDepth 100000 in
theorem b_Mod_owesAll_0 {l : Launch} {E : EnvT} {d : Nat} {K : AV → Mem → Prop} {M : Mem} {x1 : Int32} (hd : 1 ≤ d)
  (h : G l E d m_Mod_owesAll 4 [(0, (.ref 24, 41)), (1, (.int x1, 0)), (2, (.int (iN 0), 0)), (3, (.int (iN 0), 0))] [] M K) :
  G l E d m_Mod_owesAll 0 [(0, (.ref 24, 41)), (1, (.int x1, 0))] [] M K := G.blk 60 _ hd ok_Mod_owesAll rfl h
set_option maxRecDepth 100000 in
theorem b_Mod_owesAll_4 {l : Launch} {E : EnvT} {d : Nat} {K : AV → Mem → Prop} {M : Mem} {x1 : Int32} {x2 : Int32} {x3 : Int32} (hd : 1 ≤ d)
  (h : (vp_in (iN 0) 3612 ∧ (((iN (M 24 1 ((iN 0)).toNatClampNeg)) ≤ x3 →
   K (.int x2, 0) M) ∧
  (¬ (iN (M 24 1 ((iN 0)).toNatClampNeg)) ≤ x3 →
   CT l E (d - 1) m_Mod_owes [(.ref 24, 41), (.int x1, 0), (.int x3, 0)] M (fun v1 M1 =>
    G l E d m_Mod_owesAll 4 [(0, (.ref 24, 41)), (1, (.int x1, 0)), (2, (.int (x2 + (toI v1)), 0)), (3, (.int (x3 + iN 1), 0))] [] M1 K))))) :
  G l E d m_Mod_owesAll 4 [(0, (.ref 24, 41)), (1, (.int x1, 0)), (2, (.int x2, 0)), (3, (.int x3, 0))] [] M K := G.blk 60 _ hd ok_Mod_owesAll rfl h
def bt_Mod_allOwed : BtT := [(0, [0], true, [(0, .iconst 0, 1, 0, 0, 0, m0),
   (1, .istore_n 1, 1, 0, 0, 0, m0),
   (2, .iconst 0, 1, 0, 0, 0, m0),
   (3, .istore_n 2, 1, 0, 0, 0, m0),
   (4, .nop, 0, 0, 0, 0, m0)]),
  (4, [0, 1, 2], true, [(4, .iload_n 2, 1, 0, 0, 0, m0),
   (5, .aload_n 0, 1, 0, 0, 0, m0),
   (6, .getfield 7, 3, 0, 11, 1447, m0),
   (9, .iconst 0, 1, 0, 0, 0, m0),
   (10, .iaload, 1, 0, 0, 0, m0),
   (11, .if_icmp .ge 17, 3, 28, 0, 0, m0),
   (14, .nop, 0, 0, 0, 0, m0)]),
  (14, [], false, [(14, .iload_n 1, 1, 0, 0, 0, m0),
   (15, .aload_n 0, 1, 0, 0, 0, m0),
   (16, .iload_n 2, 1, 0, 0, 0, m0),
   (17, .invokevirtual 289, 3, 0, 0, 1776, m_Mod_owesAll),
   (20, .iadd, 1, 0, 0, 0, m0),
   (21, .istore_n 1, 1, 0, 0, 0, m0),
   (22, .iinc 2 1, 3, 0, 0, 0, m0),
   (25, .goto (-21), 3, 4, 0, 0, m0)]),
  (28, [], false, [(28, .iload_n 1, 1, 0, 0, 0, m0),
   (29, .ireturn, 1, 0, 0, 0, m0)])]
theorem ok_Mod_allOwed : okBt m_Mod_allOwed bt_Mod_allOwed = true := by decide +kernel
set_option maxRecDepth 100000 in
theorem b_Mod_allOwed_0 {l : Launch} {E : EnvT} {d : Nat} {K : AV → Mem → Prop} {M : Mem}  (hd : 1 ≤ d)
  (h : G l E d m_Mod_allOwed 4 [(0, (.ref 24, 41)), (1, (.int (iN 0), 0)), (2, (.int (iN 0), 0))] [] M K) :
  G l E d m_Mod_allOwed 0 [(0, (.ref 24, 41))] [] M K := G.blk 60 _ hd ok_Mod_allOwed rfl h
set_option maxRecDepth 100000 in
theorem b_Mod_allOwed_4 {l : Launch} {E : EnvT} {d : Nat} {K : AV → Mem → Prop} {M : Mem} {x1 : Int32} {x2 : Int32} (hd : 1 ≤ d)
  (h : (vp_in (iN 0) 3612 ∧ (((iN (M 24 1 ((iN 0)).toNatClampNeg)) ≤ x2 →
   K (.int x1, 0) M) ∧
  (¬ (iN (M 24 1 ((iN 0)).toNatClampNeg)) ≤ x2 →
   CT l E (d - 1) m_Mod_owesAll [(.ref 24, 41), (.int x2, 0)] M (fun v1 M1 =>
    G l E d m_Mod_allOwed 4 [(0, (.ref 24, 41)), (1, (.int (x1 + (toI v1)), 0)), (2, (.int (x2 + iN 1), 0))] [] M1 K))))) :
  G l E d m_Mod_allOwed 4 [(0, (.ref 24, 41)), (1, (.int x1, 0)), (2, (.int x2, 0))] [] M K := G.blk 60 _ hd ok_Mod_allOwed rfl h
def bt_Mod_sumOf : BtT := [(0, [0, 1], true, [(0, .iconst 0, 1, 0, 0, 0, m0),
   (1, .istore_n 2, 1, 0, 0, 0, m0),
   (2, .iconst 0, 1, 0, 0, 0, m0),
   (3, .istore_n 3, 1, 0, 0, 0, m0),
   (4, .nop, 0, 0, 0, 0, m0)]),
  (4, [0, 1, 2, 3], true, [(4, .iload_n 3, 1, 0, 0, 0, m0),
   (5, .aload_n 0, 1, 0, 0, 0, m0),
   (6, .getfield 7, 3, 0, 11, 1447, m0),
   (9, .iconst 0, 1, 0, 0, 0, m0),
   (10, .iaload, 1, 0, 0, 0, m0),
   (11, .if_icmp .ge 33, 3, 44, 0, 0, m0),
   (14, .nop, 0, 0, 0, 0, m0)]),
  (14, [], false, [(14, .iload_n 2, 1, 0, 0, 0, m0),
   (15, .iload_n 1, 1, 0, 0, 0, m0),
   (16, .ifCond .ne 12, 3, 28, 0, 0, m0),
   (19, .nop, 0, 0, 0, 0, m0)]),
  (19, [], false, [(19, .aload_n 0, 1, 0, 0, 0, m0),
   (20, .iload_n 3, 1, 0, 0, 0, m0),
   (21, .iconst 0, 1, 0, 0, 0, m0),
   (22, .invokevirtual 171, 3, 0, 0, 1708, m_Mod_of),
   (25, .goto 11, 3, 36, 0, 0, m0)]),
  (28, [], false, [(28, .aload_n 0, 1, 0, 0, 0, m0),
   (29, .iload_n 3, 1, 0, 0, 0, m0),
   (30, .iload_n 1, 1, 0, 0, 0, m0),
   (31, .invokevirtual 171, 3, 0, 0, 1708, m_Mod_of),
   (34, .iload_n 3, 1, 0, 0, 0, m0),
   (35, .ishl, 1, 0, 0, 0, m0),
   (36, .nop, 0, 0, 0, 0, m0)]),
  (36, [], false, [(36, .iadd, 1, 0, 0, 0, m0),
   (37, .istore_n 2, 1, 0, 0, 0, m0),
   (38, .iinc 3 1, 3, 0, 0, 0, m0),
   (41, .goto (-37), 3, 4, 0, 0, m0)]),
  (44, [], false, [(44, .iload_n 2, 1, 0, 0, 0, m0),
   (45, .ireturn, 1, 0, 0, 0, m0)])]
theorem ok_Mod_sumOf : okBt m_Mod_sumOf bt_Mod_sumOf = true := by decide +kernel
set_option maxRecDepth 100000 in
theorem b_Mod_sumOf_0 {l : Launch} {E : EnvT} {d : Nat} {K : AV → Mem → Prop} {M : Mem} {x1 : Int32} (hd : 1 ≤ d)
  (h : G l E d m_Mod_sumOf 4 [(0, (.ref 24, 41)), (1, (.int x1, 0)), (2, (.int (iN 0), 0)), (3, (.int (iN 0), 0))] [] M K) :
  G l E d m_Mod_sumOf 0 [(0, (.ref 24, 41)), (1, (.int x1, 0))] [] M K := G.blk 60 _ hd ok_Mod_sumOf rfl h
set_option maxRecDepth 100000 in
theorem b_Mod_sumOf_4 {l : Launch} {E : EnvT} {d : Nat} {K : AV → Mem → Prop} {M : Mem} {x1 : Int32} {x2 : Int32} {x3 : Int32} (hd : 1 ≤ d)
  (h : (vp_in (iN 0) 3612 ∧ (((iN (M 24 1 ((iN 0)).toNatClampNeg)) ≤ x3 →
   K (.int x2, 0) M) ∧
  (¬ (iN (M 24 1 ((iN 0)).toNatClampNeg)) ≤ x3 →
   ((¬ x1 = 0 →
    CT l E (d - 1) m_Mod_of [(.ref 24, 41), (.int x3, 0), (.int x1, 0)] M (fun v1 M1 =>
     G l E d m_Mod_sumOf 4 [(0, (.ref 24, 41)), (1, (.int x1, 0)), (2, (.int (x2 + ((toI v1) <<< (x3 &&& 31))), 0)), (3, (.int (x3 + iN 1), 0))] [] M1 K)) ∧
   (x1 = 0 →
    CT l E (d - 1) m_Mod_of [(.ref 24, 41), (.int x3, 0), (.int (iN 0), 0)] M (fun v2 M2 =>
     G l E d m_Mod_sumOf 4 [(0, (.ref 24, 41)), (1, (.int x1, 0)), (2, (.int (x2 + (toI v2)), 0)), (3, (.int (x3 + iN 1), 0))] [] M2 K))))))) :
  G l E d m_Mod_sumOf 4 [(0, (.ref 24, 41)), (1, (.int x1, 0)), (2, (.int x2, 0)), (3, (.int x3, 0))] [] M K := G.blk 60 _ hd ok_Mod_sumOf rfl h
def bt_Mod_told : BtT := [(0, [0, 1], true, [(0, .iload_n 1, 1, 0, 0, 0, m0),
   (1, .tableswitch 137 0 9 #[55, 55, 55, 66, 75, 86, 95, 105, 116, 126], 55, 0, 0, 0, m0)]),
  (56, [], false, [(56, .aload_n 0, 1, 0, 0, 0, m0),
   (57, .aload_n 0, 1, 0, 0, 0, m0),
   (58, .getfield 7, 3, 0, 11, 1447, m0),
   (61, .iload_n 1, 1, 0, 0, 0, m0),
   (62, .iaload, 1, 0, 0, 0, m0),
   (63, .invokevirtual 76, 3, 0, 0, 1740, m_Mod_gives),
   (66, .ireturn, 1, 0, 0, 0, m0)]),
  (67, [], false, [(67, .aload_n 0, 1, 0, 0, 0, m0),
   (68, .aload_n 0, 1, 0, 0, 0, m0),
   (69, .invokevirtual 298, 3, 0, 0, 1768, m_Mod_notesHeld),
   (72, .invokevirtual 76, 3, 0, 0, 1740, m_Mod_gives),
   (75, .ireturn, 1, 0, 0, 0, m0)]),
  (76, [], false, [(76, .aload_n 0, 1, 0, 0, 0, m0),
   (77, .aload_n 0, 1, 0, 0, 0, m0),
   (78, .getfield 7, 3, 0, 11, 1447, m0),
   (81, .iconst 5, 1, 0, 0, 0, m0),
   (82, .iaload, 1, 0, 0, 0, m0),
   (83, .invokevirtual 76, 3, 0, 0, 1740, m_Mod_gives),
   (86, .ireturn, 1, 0, 0, 0, m0)]),
  (87, [], false, [(87, .aload_n 0, 1, 0, 0, 0, m0),
   (88, .aload_n 0, 1, 0, 0, 0, m0),
   (89, .invokevirtual 301, 3, 0, 0, 1772, m_Mod_allOwed),
   (92, .invokevirtual 76, 3, 0, 0, 1740, m_Mod_gives),
   (95, .ireturn, 1, 0, 0, 0, m0)]),
  (96, [], false, [(96, .aload_n 0, 1, 0, 0, 0, m0),
   (97, .aload_n 0, 1, 0, 0, 0, m0),
   (98, .iconst 0, 1, 0, 0, 0, m0),
   (99, .invokevirtual 292, 3, 0, 0, 1788, m_Mod_sumOf),
   (102, .invokevirtual 76, 3, 0, 0, 1740, m_Mod_gives),
   (105, .ireturn, 1, 0, 0, 0, m0)]),
  (106, [], false, [(106, .aload_n 0, 1, 0, 0, 0, m0),
   (107, .aload_n 0, 1, 0, 0, 0, m0),
   (108, .getfield 7, 3, 0, 11, 1447, m0),
   (111, .iconst 3, 1, 0, 0, 0, m0),
   (112, .iaload, 1, 0, 0, 0, m0),
   (113, .invokevirtual 76, 3, 0, 0, 1740, m_Mod_gives),
   (116, .ireturn, 1, 0, 0, 0, m0)]),
  (117, [], false, [(117, .aload_n 0, 1, 0, 0, 0, m0),
   (118, .aload_n 0, 1, 0, 0, 0, m0),
   (119, .iconst 3, 1, 0, 0, 0, m0),
   (120, .invokevirtual 292, 3, 0, 0, 1788, m_Mod_sumOf),
   (123, .invokevirtual 76, 3, 0, 0, 1740, m_Mod_gives),
   (126, .ireturn, 1, 0, 0, 0, m0)]),
  (127, [], false, [(127, .aload_n 0, 1, 0, 0, 0, m0),
   (128, .aload_n 0, 1, 0, 0, 0, m0),
   (129, .bipush 6, 2, 0, 0, 0, m0),
   (131, .invokevirtual 292, 3, 0, 0, 1788, m_Mod_sumOf),
   (134, .invokevirtual 76, 3, 0, 0, 1740, m_Mod_gives),
   (137, .ireturn, 1, 0, 0, 0, m0)]),
  (138, [], false, [(138, .aload_n 0, 1, 0, 0, 0, m0),
   (139, .iconst 1, 1, 0, 0, 0, m0),
   (140, .invokevirtual 72, 3, 0, 0, 1629, m_Mod_refuse),
   (143, .ireturn, 1, 0, 0, 0, m0)])]
theorem ok_Mod_told : okBt m_Mod_told bt_Mod_told = true := by decide +kernel
set_option maxRecDepth 100000 in
theorem b_Mod_told_0 {l : Launch} {E : EnvT} {d : Nat} {K : AV → Mem → Prop} {M : Mem} {x1 : Int32} (hd : 1 ≤ d)
  (h : ((x1 = iN 0 →
   (vp_in x1 3612 ∧ CT l E (d - 1) m_Mod_gives [(.ref 24, 41), (.int (iN (M 24 1 (x1).toNatClampNeg)), 0)] M (fun v16 M16 =>
    K (.int (toI v16), 0) M16))) ∧
  (¬ x1 = iN 0 →
   ((x1 = iN 1 →
   (vp_in x1 3612 ∧ CT l E (d - 1) m_Mod_gives [(.ref 24, 41), (.int (iN (M 24 1 (x1).toNatClampNeg)), 0)] M (fun v15 M15 =>
    K (.int (toI v15), 0) M15))) ∧
  (¬ x1 = iN 1 →
   ((x1 = iN 2 →
   (vp_in x1 3612 ∧ CT l E (d - 1) m_Mod_gives [(.ref 24, 41), (.int (iN (M 24 1 (x1).toNatClampNeg)), 0)] M (fun v14 M14 =>
    K (.int (toI v14), 0) M14))) ∧
  (¬ x1 = iN 2 →
   ((x1 = iN 3 →
   CT l E (d - 1) m_Mod_notesHeld [(.ref 24, 41)] M (fun v12 M12 =>
    CT l E (d - 1) m_Mod_gives [(.ref 24, 41), (.int (toI v12), 0)] M12 (fun v13 M13 =>
     K (.int (toI v13), 0) M13))) ∧
  (¬ x1 = iN 3 →
   ((x1 = iN 4 →
   (vp_in (iN 5) 3612 ∧ CT l E (d - 1) m_Mod_gives [(.ref 24, 41), (.int (iN (M 24 1 ((iN 5)).toNatClampNeg)), 0)] M (fun v11 M11 =>
    K (.int (toI v11), 0) M11))) ∧
  (¬ x1 = iN 4 →
   ((x1 = iN 5 →
   CT l E (d - 1) m_Mod_allOwed [(.ref 24, 41)] M (fun v9 M9 =>
    CT l E (d - 1) m_Mod_gives [(.ref 24, 41), (.int (toI v9), 0)] M9 (fun v10 M10 =>
     K (.int (toI v10), 0) M10))) ∧
  (¬ x1 = iN 5 →
   ((x1 = iN 6 →
   CT l E (d - 1) m_Mod_sumOf [(.ref 24, 41), (.int (iN 0), 0)] M (fun v7 M7 =>
    CT l E (d - 1) m_Mod_gives [(.ref 24, 41), (.int (toI v7), 0)] M7 (fun v8 M8 =>
     K (.int (toI v8), 0) M8))) ∧
  (¬ x1 = iN 6 →
   ((x1 = iN 7 →
   (vp_in (iN 3) 3612 ∧ CT l E (d - 1) m_Mod_gives [(.ref 24, 41), (.int (iN (M 24 1 ((iN 3)).toNatClampNeg)), 0)] M (fun v6 M6 =>
    K (.int (toI v6), 0) M6))) ∧
  (¬ x1 = iN 7 →
   ((x1 = iN 8 →
   CT l E (d - 1) m_Mod_sumOf [(.ref 24, 41), (.int (iN 3), 0)] M (fun v4 M4 =>
    CT l E (d - 1) m_Mod_gives [(.ref 24, 41), (.int (toI v4), 0)] M4 (fun v5 M5 =>
     K (.int (toI v5), 0) M5))) ∧
  (¬ x1 = iN 8 →
   ((x1 = iN 9 →
   CT l E (d - 1) m_Mod_sumOf [(.ref 24, 41), (.int (iN 6), 0)] M (fun v2 M2 =>
    CT l E (d - 1) m_Mod_gives [(.ref 24, 41), (.int (toI v2), 0)] M2 (fun v3 M3 =>
     K (.int (toI v3), 0) M3))) ∧
  (¬ x1 = iN 9 →
   CT l E (d - 1) m_Mod_refuse [(.ref 24, 41), (.int (iN 1), 0)] M (fun v1 M1 =>
    K (.int (toI v1), 0) M1)))))))))))))))))))))) :
  G l E d m_Mod_told 0 [(0, (.ref 24, 41)), (1, (.int x1, 0))] [] M K := G.blk 60 _ hd ok_Mod_told rfl h
def bt_Mod_isSinger : BtT := [(0, [0, 1], true, [(0, .iload_n 1, 1, 0, 0, 0, m0),
   (1, .ifCond .lt 17, 3, 18, 0, 0, m0),
   (4, .nop, 0, 0, 0, 0, m0)]),
  (4, [], false, [(4, .iload_n 1, 1, 0, 0, 0, m0),
   (5, .aload_n 0, 1, 0, 0, 0, m0),
   (6, .getfield 7, 3, 0, 11, 1447, m0),
   (9, .iconst 0, 1, 0, 0, 0, m0),
   (10, .iaload, 1, 0, 0, 0, m0),
   (11, .if_icmp .ge 7, 3, 18, 0, 0, m0),
   (14, .nop, 0, 0, 0, 0, m0)]),
  (14, [], false, [(14, .iconst 1, 1, 0, 0, 0, m0),
   (15, .goto 4, 3, 19, 0, 0, m0)]),
  (18, [], false, [(18, .iconst 0, 1, 0, 0, 0, m0),
   (19, .nop, 0, 0, 0, 0, m0)]),
  (19, [], false, [(19, .ireturn, 1, 0, 0, 0, m0)])]
theorem ok_Mod_isSinger : okBt m_Mod_isSinger bt_Mod_isSinger = true := by decide +kernel
set_option maxRecDepth 100000 in
theorem b_Mod_isSinger_0 {l : Launch} {E : EnvT} {d : Nat} {K : AV → Mem → Prop} {M : Mem} {x1 : Int32} (hd : 1 ≤ d)
  (h : ((x1 < 0 →
   ((((iN 0) = 0 ∨ (iN 0) = 1)) ∧ K (.int (iN 0), 0) M)) ∧
  (¬ x1 < 0 →
   (vp_in (iN 0) 3612 ∧ (((iN (M 24 1 ((iN 0)).toNatClampNeg)) ≤ x1 →
    ((((iN 0) = 0 ∨ (iN 0) = 1)) ∧ K (.int (iN 0), 0) M)) ∧
   (¬ (iN (M 24 1 ((iN 0)).toNatClampNeg)) ≤ x1 →
    ((((iN 1) = 0 ∨ (iN 1) = 1)) ∧ K (.int (iN 1), 0) M))))))) :
  G l E d m_Mod_isSinger 0 [(0, (.ref 24, 41)), (1, (.int x1, 0))] [] M K := G.blk 60 _ hd ok_Mod_isSinger rfl h
def bt_Mod_orNone : BtT := [(0, [0, 1], true, [(0, .iload_n 1, 1, 0, 0, 0, m0),
   (1, .iconst (-1), 1, 0, 0, 0, m0),
   (2, .if_icmp .ne 12, 3, 14, 0, 0, m0),
   (5, .nop, 0, 0, 0, 0, m0)]),
  (5, [], false, [(5, .aload_n 0, 1, 0, 0, 0, m0),
   (6, .bipush 6, 2, 0, 0, 0, m0),
   (8, .invokevirtual 72, 3, 0, 0, 1629, m_Mod_refuse),
   (11, .goto 8, 3, 19, 0, 0, m0)]),
  (14, [], false, [(14, .aload_n 0, 1, 0, 0, 0, m0),
   (15, .iload_n 1, 1, 0, 0, 0, m0),
   (16, .invokevirtual 76, 3, 0, 0, 1740, m_Mod_gives),
   (19, .nop, 0, 0, 0, 0, m0)]),
  (19, [], false, [(19, .ireturn, 1, 0, 0, 0, m0)])]
theorem ok_Mod_orNone : okBt m_Mod_orNone bt_Mod_orNone = true := by decide +kernel
set_option maxRecDepth 100000 in
theorem b_Mod_orNone_0 {l : Launch} {E : EnvT} {d : Nat} {K : AV → Mem → Prop} {M : Mem} {x1 : Int32} (hd : 1 ≤ d)
  (h : ((¬ x1 = (iN (-1)) →
   CT l E (d - 1) m_Mod_gives [(.ref 24, 41), (.int x1, 0)] M (fun v1 M1 =>
    K (.int (toI v1), 0) M1)) ∧
  (x1 = (iN (-1)) →
   CT l E (d - 1) m_Mod_refuse [(.ref 24, 41), (.int (iN 6), 0)] M (fun v2 M2 =>
    K (.int (toI v2), 0) M2)))) :
  G l E d m_Mod_orNone 0 [(0, (.ref 24, 41)), (1, (.int x1, 0))] [] M K := G.blk 60 _ hd ok_Mod_orNone rfl h
def bt_Mod_owedAll : BtT := [(0, [0, 1], true, [(0, .iconst 0, 1, 0, 0, 0, m0),
   (1, .istore_n 2, 1, 0, 0, 0, m0),
   (2, .iconst 0, 1, 0, 0, 0, m0),
   (3, .istore_n 3, 1, 0, 0, 0, m0),
   (4, .nop, 0, 0, 0, 0, m0)]),
  (4, [0, 1, 2, 3], true, [(4, .iload_n 3, 1, 0, 0, 0, m0),
   (5, .aload_n 0, 1, 0, 0, 0, m0),
   (6, .getfield 7, 3, 0, 11, 1447, m0),
   (9, .iconst 0, 1, 0, 0, 0, m0),
   (10, .iaload, 1, 0, 0, 0, m0),
   (11, .if_icmp .ge 18, 3, 29, 0, 0, m0),
   (14, .nop, 0, 0, 0, 0, m0)]),
  (14, [], false, [(14, .iload_n 2, 1, 0, 0, 0, m0),
   (15, .aload_n 0, 1, 0, 0, 0, m0),
   (16, .iload_n 3, 1, 0, 0, 0, m0),
   (17, .iload_n 1, 1, 0, 0, 0, m0),
   (18, .invokevirtual 286, 3, 0, 0, 1780, m_Mod_owes),
   (21, .iadd, 1, 0, 0, 0, m0),
   (22, .istore_n 2, 1, 0, 0, 0, m0),
   (23, .iinc 3 1, 3, 0, 0, 0, m0),
   (26, .goto (-22), 3, 4, 0, 0, m0)]),
  (29, [], false, [(29, .iload_n 2, 1, 0, 0, 0, m0),
   (30, .ireturn, 1, 0, 0, 0, m0)])]
theorem ok_Mod_owedAll : okBt m_Mod_owedAll bt_Mod_owedAll = true := by decide +kernel
set_option maxRecDepth 100000 in
theorem b_Mod_owedAll_0 {l : Launch} {E : EnvT} {d : Nat} {K : AV → Mem → Prop} {M : Mem} {x1 : Int32} (hd : 1 ≤ d)
  (h : G l E d m_Mod_owedAll 4 [(0, (.ref 24, 41)), (1, (.int x1, 0)), (2, (.int (iN 0), 0)), (3, (.int (iN 0), 0))] [] M K) :
  G l E d m_Mod_owedAll 0 [(0, (.ref 24, 41)), (1, (.int x1, 0))] [] M K := G.blk 60 _ hd ok_Mod_owedAll rfl h
set_option maxRecDepth 100000 in
theorem b_Mod_owedAll_4 {l : Launch} {E : EnvT} {d : Nat} {K : AV → Mem → Prop} {M : Mem} {x1 : Int32} {x2 : Int32} {x3 : Int32} (hd : 1 ≤ d)
  (h : (vp_in (iN 0) 3612 ∧ (((iN (M 24 1 ((iN 0)).toNatClampNeg)) ≤ x3 →
   K (.int x2, 0) M) ∧
  (¬ (iN (M 24 1 ((iN 0)).toNatClampNeg)) ≤ x3 →
   CT l E (d - 1) m_Mod_owes [(.ref 24, 41), (.int x3, 0), (.int x1, 0)] M (fun v1 M1 =>
    G l E d m_Mod_owedAll 4 [(0, (.ref 24, 41)), (1, (.int x1, 0)), (2, (.int (x2 + (toI v1)), 0)), (3, (.int (x3 + iN 1), 0))] [] M1 K))))) :
  G l E d m_Mod_owedAll 4 [(0, (.ref 24, 41)), (1, (.int x1, 0)), (2, (.int x2, 0)), (3, (.int x3, 0))] [] M K := G.blk 60 _ hd ok_Mod_owedAll rfl h
def bt_Mod_singer : BtT := [(0, [0, 1, 2], true, [(0, .aload_n 0, 1, 0, 0, 0, m0),
   (1, .iload_n 1, 1, 0, 0, 0, m0),
   (2, .invokevirtual 274, 3, 0, 0, 1796, m_Mod_isSinger),
   (5, .ifCond .eq 13, 3, 18, 0, 0, m0),
   (8, .nop, 0, 0, 0, 0, m0)]),
  (8, [], false, [(8, .iload_n 2, 1, 0, 0, 0, m0),
   (9, .ifCond .lt 9, 3, 18, 0, 0, m0),
   (12, .nop, 0, 0, 0, 0, m0)]),
  (12, [], false, [(12, .iload_n 2, 1, 0, 0, 0, m0),
   (13, .bipush 6, 2, 0, 0, 0, m0),
   (15, .if_icmp .le 9, 3, 24, 0, 0, m0),
   (18, .nop, 0, 0, 0, 0, m0)]),
  (18, [], false, [(18, .aload_n 0, 1, 0, 0, 0, m0),
   (19, .iconst 1, 1, 0, 0, 0, m0),
   (20, .invokevirtual 72, 3, 0, 0, 1629, m_Mod_refuse),
   (23, .ireturn, 1, 0, 0, 0, m0)]),
  (24, [], false, [(24, .iload_n 2, 1, 0, 0, 0, m0),
   (25, .tableswitch 73 3 6 #[31, 42, 53, 63], 31, 0, 0, 0, m0)]),
  (56, [], false, [(56, .aload_n 0, 1, 0, 0, 0, m0),
   (57, .aload_n 0, 1, 0, 0, 0, m0),
   (58, .iload_n 1, 1, 0, 0, 0, m0),
   (59, .iconst 4, 1, 0, 0, 0, m0),
   (60, .invokevirtual 171, 3, 0, 0, 1708, m_Mod_of),
   (63, .invokevirtual 76, 3, 0, 0, 1740, m_Mod_gives),
   (66, .ireturn, 1, 0, 0, 0, m0)]),
  (67, [], false, [(67, .aload_n 0, 1, 0, 0, 0, m0),
   (68, .aload_n 0, 1, 0, 0, 0, m0),
   (69, .iload_n 1, 1, 0, 0, 0, m0),
   (70, .iconst 5, 1, 0, 0, 0, m0),
   (71, .invokevirtual 171, 3, 0, 0, 1708, m_Mod_of),
   (74, .invokevirtual 304, 3, 0, 0, 1800, m_Mod_orNone),
   (77, .ireturn, 1, 0, 0, 0, m0)]),
  (78, [], false, [(78, .aload_n 0, 1, 0, 0, 0, m0),
   (79, .aload_n 0, 1, 0, 0, 0, m0),
   (80, .iload_n 1, 1, 0, 0, 0, m0),
   (81, .invokevirtual 289, 3, 0, 0, 1776, m_Mod_owesAll),
   (84, .invokevirtual 76, 3, 0, 0, 1740, m_Mod_gives),
   (87, .ireturn, 1, 0, 0, 0, m0)]),
  (88, [], false, [(88, .aload_n 0, 1, 0, 0, 0, m0),
   (89, .aload_n 0, 1, 0, 0, 0, m0),
   (90, .iload_n 1, 1, 0, 0, 0, m0),
   (91, .invokevirtual 307, 3, 0, 0, 1804, m_Mod_owedAll),
   (94, .invokevirtual 76, 3, 0, 0, 1740, m_Mod_gives),
   (97, .ireturn, 1, 0, 0, 0, m0)]),
  (98, [], false, [(98, .aload_n 0, 1, 0, 0, 0, m0),
   (99, .aload_n 0, 1, 0, 0, 0, m0),
   (100, .iload_n 1, 1, 0, 0, 0, m0),
   (101, .iload_n 2, 1, 0, 0, 0, m0),
   (102, .invokevirtual 171, 3, 0, 0, 1708, m_Mod_of),
   (105, .invokevirtual 76, 3, 0, 0, 1740, m_Mod_gives),
   (108, .ireturn, 1, 0, 0, 0, m0)])]
theorem ok_Mod_singer : okBt m_Mod_singer bt_Mod_singer = true := by decide +kernel
set_option maxRecDepth 100000 in
theorem b_Mod_singer_0 {l : Launch} {E : EnvT} {d : Nat} {K : AV → Mem → Prop} {M : Mem} {x1 : Int32} {x2 : Int32} (hd : 1 ≤ d)
  (h : CT l E (d - 1) m_Mod_isSinger [(.ref 24, 41), (.int x1, 0)] M (fun v1 M1 =>
   (((toI v1) = 0 →
    CT l E (d - 1) m_Mod_refuse [(.ref 24, 41), (.int (iN 1), 0)] M1 (fun v2 M2 =>
     K (.int (toI v2), 0) M2)) ∧
   (¬ (toI v1) = 0 →
    ((x2 < 0 →
     CT l E (d - 1) m_Mod_refuse [(.ref 24, 41), (.int (iN 1), 0)] M1 (fun v3 M3 =>
      K (.int (toI v3), 0) M3)) ∧
    (¬ x2 < 0 →
     ((x2 ≤ (iN 6) →
      ((x2 = iN 3 →
       CT l E (d - 1) m_Mod_of [(.ref 24, 41), (.int x1, 0), (.int (iN 4), 0)] M1 (fun v12 M12 =>
        CT l E (d - 1) m_Mod_gives [(.ref 24, 41), (.int (toI v12), 0)] M12 (fun v13 M13 =>
         K (.int (toI v13), 0) M13))) ∧
      (¬ x2 = iN 3 →
       ((x2 = iN 4 →
       CT l E (d - 1) m_Mod_of [(.ref 24, 41), (.int x1, 0), (.int (iN 5), 0)] M1 (fun v10 M10 =>
        CT l E (d - 1) m_Mod_orNone [(.ref 24, 41), (.int (toI v10), 0)] M10 (fun v11 M11 =>
         K (.int (toI v11), 0) M11))) ∧
      (¬ x2 = iN 4 →
       ((x2 = iN 5 →
       CT l E (d - 1) m_Mod_owesAll [(.ref 24, 41), (.int x1, 0)] M1 (fun v8 M8 =>
        CT l E (d - 1) m_Mod_gives [(.ref 24, 41), (.int (toI v8), 0)] M8 (fun v9 M9 =>
         K (.int (toI v9), 0) M9))) ∧
      (¬ x2 = iN 5 →
       ((x2 = iN 6 →
       CT l E (d - 1) m_Mod_owedAll [(.ref 24, 41), (.int x1, 0)] M1 (fun v6 M6 =>
        CT l E (d - 1) m_Mod_gives [(.ref 24, 41), (.int (toI v6), 0)] M6 (fun v7 M7 =>
         K (.int (toI v7), 0) M7))) ∧
      (¬ x2 = iN 6 →
       CT l E (d - 1) m_Mod_of [(.ref 24, 41), (.int x1, 0), (.int x2, 0)] M1 (fun v4 M4 =>
        CT l E (d - 1) m_Mod_gives [(.ref 24, 41), (.int (toI v4), 0)] M4 (fun v5 M5 =>
         K (.int (toI v5), 0) M5))))))))))) ∧
     (¬ x2 ≤ (iN 6) →
      CT l E (d - 1) m_Mod_refuse [(.ref 24, 41), (.int (iN 1), 0)] M1 (fun v14 M14 =>
       K (.int (toI v14), 0) M14))))))))) :
  G l E d m_Mod_singer 0 [(0, (.ref 24, 41)), (1, (.int x1, 0)), (2, (.int x2, 0))] [] M K := G.blk 60 _ hd ok_Mod_singer rfl h
def bt_Mod_isNote : BtT := [(0, [0, 1, 2], true, [(0, .aload_n 0, 1, 0, 0, 0, m0),
   (1, .iload_n 1, 1, 0, 0, 0, m0),
   (2, .invokevirtual 274, 3, 0, 0, 1796, m_Mod_isSinger),
   (5, .ifCond .eq 21, 3, 26, 0, 0, m0),
   (8, .nop, 0, 0, 0, 0, m0)]),
  (8, [], false, [(8, .iload_n 2, 1, 0, 0, 0, m0),
   (9, .ifCond .lt 17, 3, 26, 0, 0, m0),
   (12, .nop, 0, 0, 0, 0, m0)]),
  (12, [], false, [(12, .iload_n 2, 1, 0, 0, 0, m0),
   (13, .aload_n 0, 1, 0, 0, 0, m0),
   (14, .iload_n 1, 1, 0, 0, 0, m0),
   (15, .iconst 1, 1, 0, 0, 0, m0),
   (16, .invokevirtual 171, 3, 0, 0, 1708, m_Mod_of),
   (19, .if_icmp .ge 7, 3, 26, 0, 0, m0),
   (22, .nop, 0, 0, 0, 0, m0)]),
  (22, [], false, [(22, .iconst 1, 1, 0, 0, 0, m0),
   (23, .goto 4, 3, 27, 0, 0, m0)]),
  (26, [], false, [(26, .iconst 0, 1, 0, 0, 0, m0),
   (27, .nop, 0, 0, 0, 0, m0)]),
  (27, [], false, [(27, .ireturn, 1, 0, 0, 0, m0)])]
theorem ok_Mod_isNote : okBt m_Mod_isNote bt_Mod_isNote = true := by decide +kernel
set_option maxRecDepth 100000 in
theorem b_Mod_isNote_0 {l : Launch} {E : EnvT} {d : Nat} {K : AV → Mem → Prop} {M : Mem} {x1 : Int32} {x2 : Int32} (hd : 1 ≤ d)
  (h : CT l E (d - 1) m_Mod_isSinger [(.ref 24, 41), (.int x1, 0)] M (fun v1 M1 =>
   (((toI v1) = 0 →
    ((((iN 0) = 0 ∨ (iN 0) = 1)) ∧ K (.int (iN 0), 0) M1)) ∧
   (¬ (toI v1) = 0 →
    ((x2 < 0 →
     ((((iN 0) = 0 ∨ (iN 0) = 1)) ∧ K (.int (iN 0), 0) M1)) ∧
    (¬ x2 < 0 →
     CT l E (d - 1) m_Mod_of [(.ref 24, 41), (.int x1, 0), (.int (iN 1), 0)] M1 (fun v2 M2 =>
      (((toI v2) ≤ x2 →
       ((((iN 0) = 0 ∨ (iN 0) = 1)) ∧ K (.int (iN 0), 0) M2)) ∧
      (¬ (toI v2) ≤ x2 →
       ((((iN 1) = 0 ∨ (iN 1) = 1)) ∧ K (.int (iN 1), 0) M2)))))))))) :
  G l E d m_Mod_isNote 0 [(0, (.ref 24, 41)), (1, (.int x1, 0)), (2, (.int x2, 0))] [] M K := G.blk 60 _ hd ok_Mod_isNote rfl h
def bt_Mod_line : BtT := [(0, [0, 1, 2], true, [(0, .aload_n 0, 1, 0, 0, 0, m0),
   (1, .iload_n 1, 1, 0, 0, 0, m0),
   (2, .iload_n 2, 1, 0, 0, 0, m0),
   (3, .invokevirtual 310, 3, 0, 0, 1812, m_Mod_isNote),
   (6, .ifCond .eq 24, 3, 30, 0, 0, m0),
   (9, .nop, 0, 0, 0, 0, m0)]),
  (9, [], false, [(9, .aload_n 0, 1, 0, 0, 0, m0),
   (10, .aload_n 0, 1, 0, 0, 0, m0),
   (11, .getfield 7, 3, 0, 11, 1447, m0),
   (14, .bipush 70, 2, 0, 0, 0, m0),
   (16, .bipush 6, 2, 0, 0, 0, m0),
   (18, .iload_n 1, 1, 0, 0, 0, m0),
   (19, .imul, 1, 0, 0, 0, m0),
   (20, .iadd, 1, 0, 0, 0, m0),
   (21, .iload_n 2, 1, 0, 0, 0, m0),
   (22, .iadd, 1, 0, 0, 0, m0),
   (23, .iaload, 1, 0, 0, 0, m0),
   (24, .invokevirtual 76, 3, 0, 0, 1740, m_Mod_gives),
   (27, .goto 8, 3, 35, 0, 0, m0)]),
  (30, [], false, [(30, .aload_n 0, 1, 0, 0, 0, m0),
   (31, .iconst 1, 1, 0, 0, 0, m0),
   (32, .invokevirtual 72, 3, 0, 0, 1629, m_Mod_refuse),
   (35, .nop, 0, 0, 0, 0, m0)]),
  (35, [], false, [(35, .ireturn, 1, 0, 0, 0, m0)])]
theorem ok_Mod_line : okBt m_Mod_line bt_Mod_line = true := by decide +kernel
set_option maxRecDepth 100000 in
theorem b_Mod_line_0 {l : Launch} {E : EnvT} {d : Nat} {K : AV → Mem → Prop} {M : Mem} {x1 : Int32} {x2 : Int32} (hd : 1 ≤ d)
  (h : CT l E (d - 1) m_Mod_isNote [(.ref 24, 41), (.int x1, 0), (.int x2, 0)] M (fun v1 M1 =>
   (((toI v1) = 0 →
    CT l E (d - 1) m_Mod_refuse [(.ref 24, 41), (.int (iN 1), 0)] M1 (fun v2 M2 =>
     K (.int (toI v2), 0) M2)) ∧
   (¬ (toI v1) = 0 →
    (vp_in (((iN 70) + ((iN 6) * x1)) + x2) 3612 ∧ CT l E (d - 1) m_Mod_gives [(.ref 24, 41), (.int (iN (M1 24 1 ((((iN 70) + ((iN 6) * x1)) + x2)).toNatClampNeg)), 0)] M1 (fun v3 M3 =>
     K (.int (toI v3), 0) M3)))))) :
  G l E d m_Mod_line 0 [(0, (.ref 24, 41)), (1, (.int x1, 0)), (2, (.int x2, 0))] [] M K := G.blk 60 _ hd ok_Mod_line rfl h
def bt_Mod_held : BtT := [(0, [0, 1, 2, 3], true, [(0, .aload_n 0, 1, 0, 0, 0, m0),
   (1, .iload_n 1, 1, 0, 0, 0, m0),
   (2, .iload_n 2, 1, 0, 0, 0, m0),
   (3, .invokevirtual 310, 3, 0, 0, 1812, m_Mod_isNote),
   (6, .ifCond .eq 12, 3, 18, 0, 0, m0),
   (9, .nop, 0, 0, 0, 0, m0)]),
  (9, [], false, [(9, .iload_n 3, 1, 0, 0, 0, m0),
   (10, .ifCond .lt 8, 3, 18, 0, 0, m0),
   (13, .nop, 0, 0, 0, 0, m0)]),
  (13, [], false, [(13, .iload_n 3, 1, 0, 0, 0, m0),
   (14, .iconst 1, 1, 0, 0, 0, m0),
   (15, .if_icmp .le 9, 3, 24, 0, 0, m0),
   (18, .nop, 0, 0, 0, 0, m0)]),
  (18, [], false, [(18, .aload_n 0, 1, 0, 0, 0, m0),
   (19, .iconst 1, 1, 0, 0, 0, m0),
   (20, .invokevirtual 72, 3, 0, 0, 1629, m_Mod_refuse),
   (23, .ireturn, 1, 0, 0, 0, m0)]),
  (24, [], false, [(24, .aload_n 0, 1, 0, 0, 0, m0),
   (25, .iload_n 1, 1, 0, 0, 0, m0),
   (26, .iload_n 2, 1, 0, 0, 0, m0),
   (27, .invokevirtual 174, 3, 0, 0, 1712, m_Mod_holderOf),
   (30, .iconst (-1), 1, 0, 0, 0, m0),
   (31, .if_icmp .ne 12, 3, 43, 0, 0, m0),
   (34, .nop, 0, 0, 0, 0, m0)]),
  (34, [], false, [(34, .aload_n 0, 1, 0, 0, 0, m0),
   (35, .bipush 6, 2, 0, 0, 0, m0),
   (37, .invokevirtual 72, 3, 0, 0, 1629, m_Mod_refuse),
   (40, .goto 26, 3, 66, 0, 0, m0)]),
  (43, [], false, [(43, .aload_n 0, 1, 0, 0, 0, m0),
   (44, .iload_n 3, 1, 0, 0, 0, m0),
   (45, .ifCond .ne 12, 3, 57, 0, 0, m0),
   (48, .nop, 0, 0, 0, 0, m0)]),
  (48, [], false, [(48, .aload_n 0, 1, 0, 0, 0, m0),
   (49, .iload_n 1, 1, 0, 0, 0, m0),
   (50, .iload_n 2, 1, 0, 0, 0, m0),
   (51, .invokevirtual 174, 3, 0, 0, 1712, m_Mod_holderOf),
   (54, .goto 9, 3, 63, 0, 0, m0)]),
  (57, [], false, [(57, .aload_n 0, 1, 0, 0, 0, m0),
   (58, .iload_n 1, 1, 0, 0, 0, m0),
   (59, .iload_n 2, 1, 0, 0, 0, m0),
   (60, .invokevirtual 180, 3, 0, 0, 1716, m_Mod_debtAt),
   (63, .nop, 0, 0, 0, 0, m0)]),
  (63, [], false, [(63, .invokevirtual 76, 3, 0, 0, 1740, m_Mod_gives),
   (66, .nop, 0, 0, 0, 0, m0)]),
  (66, [], false, [(66, .ireturn, 1, 0, 0, 0, m0)])]
theorem ok_Mod_held : okBt m_Mod_held bt_Mod_held = true := by decide +kernel
set_option maxRecDepth 100000 in
theorem b_Mod_held_0 {l : Launch} {E : EnvT} {d : Nat} {K : AV → Mem → Prop} {M : Mem} {x1 : Int32} {x2 : Int32} {x3 : Int32} (hd : 1 ≤ d)
  (h : CT l E (d - 1) m_Mod_isNote [(.ref 24, 41), (.int x1, 0), (.int x2, 0)] M (fun v1 M1 =>
   (((toI v1) = 0 →
    CT l E (d - 1) m_Mod_refuse [(.ref 24, 41), (.int (iN 1), 0)] M1 (fun v2 M2 =>
     K (.int (toI v2), 0) M2)) ∧
   (¬ (toI v1) = 0 →
    ((x3 < 0 →
     CT l E (d - 1) m_Mod_refuse [(.ref 24, 41), (.int (iN 1), 0)] M1 (fun v3 M3 =>
      K (.int (toI v3), 0) M3)) ∧
    (¬ x3 < 0 →
     ((x3 ≤ (iN 1) →
      CT l E (d - 1) m_Mod_holderOf [(.ref 24, 41), (.int x1, 0), (.int x2, 0)] M1 (fun v4 M4 =>
       ((¬ (toI v4) = (iN (-1)) →
        ((¬ x3 = 0 →
         CT l E (d - 1) m_Mod_debtAt [(.ref 24, 41), (.int x1, 0), (.int x2, 0)] M4 (fun v5 M5 =>
          CT l E (d - 1) m_Mod_gives [(.ref 24, 41), (.int (toI v5), 0)] M5 (fun v6 M6 =>
           K (.int (toI v6), 0) M6))) ∧
        (x3 = 0 →
         CT l E (d - 1) m_Mod_holderOf [(.ref 24, 41), (.int x1, 0), (.int x2, 0)] M4 (fun v7 M7 =>
          CT l E (d - 1) m_Mod_gives [(.ref 24, 41), (.int (toI v7), 0)] M7 (fun v8 M8 =>
           K (.int (toI v8), 0) M8))))) ∧
       ((toI v4) = (iN (-1)) →
        CT l E (d - 1) m_Mod_refuse [(.ref 24, 41), (.int (iN 6), 0)] M4 (fun v9 M9 =>
         K (.int (toI v9), 0) M9))))) ∧
     (¬ x3 ≤ (iN 1) →
      CT l E (d - 1) m_Mod_refuse [(.ref 24, 41), (.int (iN 1), 0)] M1 (fun v10 M10 =>
       K (.int (toI v10), 0) M10))))))))) :
  G l E d m_Mod_held 0 [(0, (.ref 24, 41)), (1, (.int x1, 0)), (2, (.int x2, 0)), (3, (.int x3, 0))] [] M K := G.blk 60 _ hd ok_Mod_held rfl h
def bt_Mod_owed : BtT := [(0, [0, 1, 2], true, [(0, .aload_n 0, 1, 0, 0, 0, m0),
   (1, .iload_n 1, 1, 0, 0, 0, m0),
   (2, .invokevirtual 274, 3, 0, 0, 1796, m_Mod_isSinger),
   (5, .ifCond .eq 29, 3, 34, 0, 0, m0),
   (8, .nop, 0, 0, 0, 0, m0)]),
  (8, [], false, [(8, .aload_n 0, 1, 0, 0, 0, m0),
   (9, .iload_n 2, 1, 0, 0, 0, m0),
   (10, .invokevirtual 274, 3, 0, 0, 1796, m_Mod_isSinger),
   (13, .ifCond .eq 21, 3, 34, 0, 0, m0),
   (16, .nop, 0, 0, 0, 0, m0)]),
  (16, [], false, [(16, .iload_n 1, 1, 0, 0, 0, m0),
   (17, .iload_n 2, 1, 0, 0, 0, m0),
   (18, .if_icmp .eq 16, 3, 34, 0, 0, m0),
   (21, .nop, 0, 0, 0, 0, m0)]),
  (21, [], false, [(21, .aload_n 0, 1, 0, 0, 0, m0),
   (22, .aload_n 0, 1, 0, 0, 0, m0),
   (23, .iload_n 1, 1, 0, 0, 0, m0),
   (24, .iload_n 2, 1, 0, 0, 0, m0),
   (25, .invokevirtual 286, 3, 0, 0, 1780, m_Mod_owes),
   (28, .invokevirtual 76, 3, 0, 0, 1740, m_Mod_gives),
   (31, .goto 8, 3, 39, 0, 0, m0)]),
  (34, [], false, [(34, .aload_n 0, 1, 0, 0, 0, m0),
   (35, .iconst 1, 1, 0, 0, 0, m0),
   (36, .invokevirtual 72, 3, 0, 0, 1629, m_Mod_refuse),
   (39, .nop, 0, 0, 0, 0, m0)]),
  (39, [], false, [(39, .ireturn, 1, 0, 0, 0, m0)])]
theorem ok_Mod_owed : okBt m_Mod_owed bt_Mod_owed = true := by decide +kernel
set_option maxRecDepth 100000 in
theorem b_Mod_owed_0 {l : Launch} {E : EnvT} {d : Nat} {K : AV → Mem → Prop} {M : Mem} {x1 : Int32} {x2 : Int32} (hd : 1 ≤ d)
  (h : CT l E (d - 1) m_Mod_isSinger [(.ref 24, 41), (.int x1, 0)] M (fun v1 M1 =>
   (((toI v1) = 0 →
    CT l E (d - 1) m_Mod_refuse [(.ref 24, 41), (.int (iN 1), 0)] M1 (fun v2 M2 =>
     K (.int (toI v2), 0) M2)) ∧
   (¬ (toI v1) = 0 →
    CT l E (d - 1) m_Mod_isSinger [(.ref 24, 41), (.int x2, 0)] M1 (fun v3 M3 =>
     (((toI v3) = 0 →
      CT l E (d - 1) m_Mod_refuse [(.ref 24, 41), (.int (iN 1), 0)] M3 (fun v4 M4 =>
       K (.int (toI v4), 0) M4)) ∧
     (¬ (toI v3) = 0 →
      ((x1 = x2 →
       CT l E (d - 1) m_Mod_refuse [(.ref 24, 41), (.int (iN 1), 0)] M3 (fun v5 M5 =>
        K (.int (toI v5), 0) M5)) ∧
      (¬ x1 = x2 →
       CT l E (d - 1) m_Mod_owes [(.ref 24, 41), (.int x1, 0), (.int x2, 0)] M3 (fun v6 M6 =>
        CT l E (d - 1) m_Mod_gives [(.ref 24, 41), (.int (toI v6), 0)] M6 (fun v7 M7 =>
         K (.int (toI v7), 0) M7))))))))))) :
  G l E d m_Mod_owed 0 [(0, (.ref 24, 41)), (1, (.int x1, 0)), (2, (.int x2, 0))] [] M K := G.blk 60 _ hd ok_Mod_owed rfl h
def bt_Mod_waiting : BtT := [(0, [0, 1, 2], true, [(0, .iload_n 2, 1, 0, 0, 0, m0),
   (1, .ifCond .lt 8, 3, 9, 0, 0, m0),
   (4, .nop, 0, 0, 0, 0, m0)]),
  (4, [], false, [(4, .iload_n 2, 1, 0, 0, 0, m0),
   (5, .iconst 2, 1, 0, 0, 0, m0),
   (6, .if_icmp .le 9, 3, 15, 0, 0, m0),
   (9, .nop, 0, 0, 0, 0, m0)]),
  (9, [], false, [(9, .aload_n 0, 1, 0, 0, 0, m0),
   (10, .iconst 1, 1, 0, 0, 0, m0),
   (11, .invokevirtual 72, 3, 0, 0, 1629, m_Mod_refuse),
   (14, .ireturn, 1, 0, 0, 0, m0)]),
  (15, [], false, [(15, .iload_n 1, 1, 0, 0, 0, m0),
   (16, .ifCond .lt 13, 3, 29, 0, 0, m0),
   (19, .nop, 0, 0, 0, 0, m0)]),
  (19, [], false, [(19, .iload_n 1, 1, 0, 0, 0, m0),
   (20, .aload_n 0, 1, 0, 0, 0, m0),
   (21, .getfield 7, 3, 0, 11, 1447, m0),
   (24, .iconst 5, 1, 0, 0, 0, m0),
   (25, .iaload, 1, 0, 0, 0, m0),
   (26, .if_icmp .lt 12, 3, 38, 0, 0, m0),
   (29, .nop, 0, 0, 0, 0, m0)]),
  (29, [], false, [(29, .aload_n 0, 1, 0, 0, 0, m0),
   (30, .bipush 6, 2, 0, 0, 0, m0),
   (32, .invokevirtual 72, 3, 0, 0, 1629, m_Mod_refuse),
   (35, .goto 21, 3, 56, 0, 0, m0)]),
  (38, [], false, [(38, .aload_n 0, 1, 0, 0, 0, m0),
   (39, .aload_n 0, 1, 0, 0, 0, m0),
   (40, .getfield 7, 3, 0, 11, 1447, m0),
   (43, .sipush 214, 3, 0, 0, 0, m0),
   (46, .iconst 3, 1, 0, 0, 0, m0),
   (47, .iload_n 1, 1, 0, 0, 0, m0),
   (48, .imul, 1, 0, 0, 0, m0),
   (49, .iadd, 1, 0, 0, 0, m0),
   (50, .iload_n 2, 1, 0, 0, 0, m0),
   (51, .iadd, 1, 0, 0, 0, m0),
   (52, .iaload, 1, 0, 0, 0, m0),
   (53, .invokevirtual 76, 3, 0, 0, 1740, m_Mod_gives),
   (56, .nop, 0, 0, 0, 0, m0)]),
  (56, [], false, [(56, .ireturn, 1, 0, 0, 0, m0)])]
theorem ok_Mod_waiting : okBt m_Mod_waiting bt_Mod_waiting = true := by decide +kernel
set_option maxRecDepth 100000 in
theorem b_Mod_waiting_0 {l : Launch} {E : EnvT} {d : Nat} {K : AV → Mem → Prop} {M : Mem} {x1 : Int32} {x2 : Int32} (hd : 1 ≤ d)
  (h : ((x2 < 0 →
   CT l E (d - 1) m_Mod_refuse [(.ref 24, 41), (.int (iN 1), 0)] M (fun v1 M1 =>
    K (.int (toI v1), 0) M1)) ∧
  (¬ x2 < 0 →
   ((x2 ≤ (iN 2) →
    ((x1 < 0 →
     CT l E (d - 1) m_Mod_refuse [(.ref 24, 41), (.int (iN 6), 0)] M (fun v2 M2 =>
      K (.int (toI v2), 0) M2)) ∧
    (¬ x1 < 0 →
     (vp_in (iN 5) 3612 ∧ ((x1 < (iN (M 24 1 ((iN 5)).toNatClampNeg)) →
      (vp_in (((iN 214) + ((iN 3) * x1)) + x2) 3612 ∧ CT l E (d - 1) m_Mod_gives [(.ref 24, 41), (.int (iN (M 24 1 ((((iN 214) + ((iN 3) * x1)) + x2)).toNatClampNeg)), 0)] M (fun v3 M3 =>
       K (.int (toI v3), 0) M3))) ∧
     (¬ x1 < (iN (M 24 1 ((iN 5)).toNatClampNeg)) →
      CT l E (d - 1) m_Mod_refuse [(.ref 24, 41), (.int (iN 6), 0)] M (fun v4 M4 =>
       K (.int (toI v4), 0) M4))))))) ∧
   (¬ x2 ≤ (iN 2) →
    CT l E (d - 1) m_Mod_refuse [(.ref 24, 41), (.int (iN 1), 0)] M (fun v5 M5 =>
     K (.int (toI v5), 0) M5)))))) :
  G l E d m_Mod_waiting 0 [(0, (.ref 24, 41)), (1, (.int x1, 0)), (2, (.int x2, 0))] [] M K := G.blk 60 _ hd ok_Mod_waiting rfl h
def bt_Mod_isDead : BtT := [(0, [0, 1], true, [(0, .aload_n 0, 1, 0, 0, 0, m0),
   (1, .iload_n 1, 1, 0, 0, 0, m0),
   (2, .bipush 6, 2, 0, 0, 0, m0),
   (4, .invokevirtual 171, 3, 0, 0, 1708, m_Mod_of),
   (7, .iconst 1, 1, 0, 0, 0, m0),
   (8, .if_icmp .ne 7, 3, 15, 0, 0, m0),
   (11, .nop, 0, 0, 0, 0, m0)]),
  (11, [], false, [(11, .iconst 1, 1, 0, 0, 0, m0),
   (12, .goto 4, 3, 16, 0, 0, m0)]),
  (15, [], false, [(15, .iconst 0, 1, 0, 0, 0, m0),
   (16, .nop, 0, 0, 0, 0, m0)]),
  (16, [], false, [(16, .ireturn, 1, 0, 0, 0, m0)])]
theorem ok_Mod_isDead : okBt m_Mod_isDead bt_Mod_isDead = true := by decide +kernel
set_option maxRecDepth 100000 in
theorem b_Mod_isDead_0 {l : Launch} {E : EnvT} {d : Nat} {K : AV → Mem → Prop} {M : Mem} {x1 : Int32} (hd : 1 ≤ d)
  (h : CT l E (d - 1) m_Mod_of [(.ref 24, 41), (.int x1, 0), (.int (iN 6), 0)] M (fun v1 M1 =>
   ((¬ (toI v1) = (iN 1) →
    ((((iN 0) = 0 ∨ (iN 0) = 1)) ∧ K (.int (iN 0), 0) M1)) ∧
   ((toI v1) = (iN 1) →
    ((((iN 1) = 0 ∨ (iN 1) = 1)) ∧ K (.int (iN 1), 0) M1))))) :
  G l E d m_Mod_isDead 0 [(0, (.ref 24, 41)), (1, (.int x1, 0))] [] M K := G.blk 60 _ hd ok_Mod_isDead rfl h
def bt_Mod_isLiving : BtT := [(0, [0, 1], true, [(0, .aload_n 0, 1, 0, 0, 0, m0),
   (1, .iload_n 1, 1, 0, 0, 0, m0),
   (2, .invokevirtual 274, 3, 0, 0, 1796, m_Mod_isSinger),
   (5, .ifCond .eq 15, 3, 20, 0, 0, m0),
   (8, .nop, 0, 0, 0, 0, m0)]),
  (8, [], false, [(8, .aload_n 0, 1, 0, 0, 0, m0),
   (9, .iload_n 1, 1, 0, 0, 0, m0),
   (10, .invokevirtual 277, 3, 0, 0, 1836, m_Mod_isDead),
   (13, .ifCond .ne 7, 3, 20, 0, 0, m0),
   (16, .nop, 0, 0, 0, 0, m0)]),
  (16, [], false, [(16, .iconst 1, 1, 0, 0, 0, m0),
   (17, .goto 4, 3, 21, 0, 0, m0)]),
  (20, [], false, [(20, .iconst 0, 1, 0, 0, 0, m0),
   (21, .nop, 0, 0, 0, 0, m0)]),
  (21, [], false, [(21, .ireturn, 1, 0, 0, 0, m0)])]
theorem ok_Mod_isLiving : okBt m_Mod_isLiving bt_Mod_isLiving = true := by decide +kernel
set_option maxRecDepth 100000 in
theorem b_Mod_isLiving_0 {l : Launch} {E : EnvT} {d : Nat} {K : AV → Mem → Prop} {M : Mem} {x1 : Int32} (hd : 1 ≤ d)
  (h : CT l E (d - 1) m_Mod_isSinger [(.ref 24, 41), (.int x1, 0)] M (fun v1 M1 =>
   (((toI v1) = 0 →
    ((((iN 0) = 0 ∨ (iN 0) = 1)) ∧ K (.int (iN 0), 0) M1)) ∧
   (¬ (toI v1) = 0 →
    CT l E (d - 1) m_Mod_isDead [(.ref 24, 41), (.int x1, 0)] M1 (fun v2 M2 =>
     ((¬ (toI v2) = 0 →
      ((((iN 0) = 0 ∨ (iN 0) = 1)) ∧ K (.int (iN 0), 0) M2)) ∧
     ((toI v2) = 0 →
      ((((iN 1) = 0 ∨ (iN 1) = 1)) ∧ K (.int (iN 1), 0) M2)))))))) :
  G l E d m_Mod_isLiving 0 [(0, (.ref 24, 41)), (1, (.int x1, 0))] [] M K := G.blk 60 _ hd ok_Mod_isLiving rfl h
def bt_Mod_sungAt : BtT := [(0, [0, 1, 2], true, [(0, .aload_n 0, 1, 0, 0, 0, m0),
   (1, .getfield 7, 3, 0, 11, 1447, m0),
   (4, .bipush 70, 2, 0, 0, 0, m0),
   (6, .bipush 6, 2, 0, 0, 0, m0),
   (8, .iload_n 1, 1, 0, 0, 0, m0),
   (9, .imul, 1, 0, 0, 0, m0),
   (10, .iadd, 1, 0, 0, 0, m0),
   (11, .iload_n 2, 1, 0, 0, 0, m0),
   (12, .iadd, 1, 0, 0, 0, m0),
   (13, .iaload, 1, 0, 0, 0, m0),
   (14, .aload_n 0, 1, 0, 0, 0, m0),
   (15, .iload_n 1, 1, 0, 0, 0, m0),
   (16, .iload_n 2, 1, 0, 0, 0, m0),
   (17, .invokevirtual 180, 3, 0, 0, 1716, m_Mod_debtAt),
   (20, .iadd, 1, 0, 0, 0, m0),
   (21, .bipush 12, 2, 0, 0, 0, m0),
   (23, .aload_n 0, 1, 0, 0, 0, m0),
   (24, .iload_n 1, 1, 0, 0, 0, m0),
   (25, .iconst 2, 1, 0, 0, 0, m0),
   (26, .invokevirtual 171, 3, 0, 0, 1708, m_Mod_of),
   (29, .imul, 1, 0, 0, 0, m0),
   (30, .isub, 1, 0, 0, 0, m0),
   (31, .ireturn, 1, 0, 0, 0, m0)])]
theorem ok_Mod_sungAt : okBt m_Mod_sungAt bt_Mod_sungAt = true := by decide +kernel
set_option maxRecDepth 100000 in
theorem b_Mod_sungAt_0 {l : Launch} {E : EnvT} {d : Nat} {K : AV → Mem → Prop} {M : Mem} {x1 : Int32} {x2 : Int32} (hd : 1 ≤ d)
  (h : (vp_in (((iN 70) + ((iN 6) * x1)) + x2) 3612 ∧ CT l E (d - 1) m_Mod_debtAt [(.ref 24, 41), (.int x1, 0), (.int x2, 0)] M (fun v1 M1 =>
   CT l E (d - 1) m_Mod_of [(.ref 24, 41), (.int x1, 0), (.int (iN 2), 0)] M1 (fun v2 M2 =>
    K (.int (((iN (M 24 1 ((((iN 70) + ((iN 6) * x1)) + x2)).toNatClampNeg)) + (toI v1)) - ((iN 12) * (toI v2))), 0) M2)))) :
  G l E d m_Mod_sungAt 0 [(0, (.ref 24, 41)), (1, (.int x1, 0)), (2, (.int x2, 0))] [] M K := G.blk 60 _ hd ok_Mod_sungAt rfl h
def bt_Mod_sung : BtT := [(0, [0, 1, 2], true, [(0, .aload_n 0, 1, 0, 0, 0, m0),
   (1, .iload_n 1, 1, 0, 0, 0, m0),
   (2, .invokevirtual 280, 3, 0, 0, 1832, m_Mod_isLiving),
   (5, .ifCond .eq 25, 3, 30, 0, 0, m0),
   (8, .nop, 0, 0, 0, 0, m0)]),
  (8, [], false, [(8, .aload_n 0, 1, 0, 0, 0, m0),
   (9, .iload_n 1, 1, 0, 0, 0, m0),
   (10, .iload_n 2, 1, 0, 0, 0, m0),
   (11, .invokevirtual 310, 3, 0, 0, 1812, m_Mod_isNote),
   (14, .ifCond .eq 16, 3, 30, 0, 0, m0),
   (17, .nop, 0, 0, 0, 0, m0)]),
  (17, [], false, [(17, .aload_n 0, 1, 0, 0, 0, m0),
   (18, .aload_n 0, 1, 0, 0, 0, m0),
   (19, .iload_n 1, 1, 0, 0, 0, m0),
   (20, .iload_n 2, 1, 0, 0, 0, m0),
   (21, .invokevirtual 313, 3, 0, 0, 1840, m_Mod_sungAt),
   (24, .invokevirtual 76, 3, 0, 0, 1740, m_Mod_gives),
   (27, .goto 8, 3, 35, 0, 0, m0)]),
  (30, [], false, [(30, .aload_n 0, 1, 0, 0, 0, m0),
   (31, .iconst 1, 1, 0, 0, 0, m0),
   (32, .invokevirtual 72, 3, 0, 0, 1629, m_Mod_refuse),
   (35, .nop, 0, 0, 0, 0, m0)]),
  (35, [], false, [(35, .ireturn, 1, 0, 0, 0, m0)])]
theorem ok_Mod_sung : okBt m_Mod_sung bt_Mod_sung = true := by decide +kernel
set_option maxRecDepth 100000 in
theorem b_Mod_sung_0 {l : Launch} {E : EnvT} {d : Nat} {K : AV → Mem → Prop} {M : Mem} {x1 : Int32} {x2 : Int32} (hd : 1 ≤ d)
  (h : CT l E (d - 1) m_Mod_isLiving [(.ref 24, 41), (.int x1, 0)] M (fun v1 M1 =>
   (((toI v1) = 0 →
    CT l E (d - 1) m_Mod_refuse [(.ref 24, 41), (.int (iN 1), 0)] M1 (fun v2 M2 =>
     K (.int (toI v2), 0) M2)) ∧
   (¬ (toI v1) = 0 →
    CT l E (d - 1) m_Mod_isNote [(.ref 24, 41), (.int x1, 0), (.int x2, 0)] M1 (fun v3 M3 =>
     (((toI v3) = 0 →
      CT l E (d - 1) m_Mod_refuse [(.ref 24, 41), (.int (iN 1), 0)] M3 (fun v4 M4 =>
       K (.int (toI v4), 0) M4)) ∧
     (¬ (toI v3) = 0 →
      CT l E (d - 1) m_Mod_sungAt [(.ref 24, 41), (.int x1, 0), (.int x2, 0)] M3 (fun v5 M5 =>
       CT l E (d - 1) m_Mod_gives [(.ref 24, 41), (.int (toI v5), 0)] M5 (fun v6 M6 =>
        K (.int (toI v6), 0) M6))))))))) :
  G l E d m_Mod_sung 0 [(0, (.ref 24, 41)), (1, (.int x1, 0)), (2, (.int x2, 0))] [] M K := G.blk 60 _ hd ok_Mod_sung rfl h
def bt_Mod_copySung : BtT := [(0, [0, 1, 2], true, [(0, .aload_n 0, 1, 0, 0, 0, m0),
   (1, .iload_n 1, 1, 0, 0, 0, m0),
   (2, .invokevirtual 280, 3, 0, 0, 1832, m_Mod_isLiving),
   (5, .ifCond .eq 10, 3, 15, 0, 0, m0),
   (8, .nop, 0, 0, 0, 0, m0)]),
  (8, [], false, [(8, .iload_n 2, 1, 0, 0, 0, m0),
   (9, .invokestatic 83, 3, 0, 0, 1566, m_Mod_isTray),
   (12, .ifCond .ne 9, 3, 21, 0, 0, m0),
   (15, .nop, 0, 0, 0, 0, m0)]),
  (15, [], false, [(15, .aload_n 0, 1, 0, 0, 0, m0),
   (16, .iconst 1, 1, 0, 0, 0, m0),
   (17, .invokevirtual 72, 3, 0, 0, 1629, m_Mod_refuse),
   (20, .ireturn, 1, 0, 0, 0, m0)]),
  (21, [], false, [(21, .aload_n 0, 1, 0, 0, 0, m0),
   (22, .getfield 24, 3, 6, 11, 1453, m0),
   (25, .iload_n 2, 1, 0, 0, 0, m0),
   (26, .iaload, 1, 0, 0, 0, m0),
   (27, .iconst (-1), 1, 0, 0, 0, m0),
   (28, .if_icmp .ne 9, 3, 37, 0, 0, m0),
   (31, .nop, 0, 0, 0, 0, m0)]),
  (31, [], false, [(31, .aload_n 0, 1, 0, 0, 0, m0),
   (32, .iconst 2, 1, 0, 0, 0, m0),
   (33, .invokevirtual 72, 3, 0, 0, 1629, m_Mod_refuse),
   (36, .ireturn, 1, 0, 0, 0, m0)]),
  (37, [], false, [(37, .aload_n 0, 1, 0, 0, 0, m0),
   (38, .getfield 24, 3, 6, 11, 1453, m0),
   (41, .iload_n 2, 1, 0, 0, 0, m0),
   (42, .iaload, 1, 0, 0, 0, m0),
   (43, .aload_n 0, 1, 0, 0, 0, m0),
   (44, .iload_n 1, 1, 0, 0, 0, m0),
   (45, .iconst 1, 1, 0, 0, 0, m0),
   (46, .invokevirtual 171, 3, 0, 0, 1708, m_Mod_of),
   (49, .if_icmp .ge 9, 3, 58, 0, 0, m0),
   (52, .nop, 0, 0, 0, 0, m0)]),
  (52, [], false, [(52, .aload_n 0, 1, 0, 0, 0, m0),
   (53, .iconst 3, 1, 0, 0, 0, m0),
   (54, .invokevirtual 72, 3, 0, 0, 1629, m_Mod_refuse),
   (57, .ireturn, 1, 0, 0, 0, m0)]),
  (58, [], false, [(58, .iconst 0, 1, 0, 0, 0, m0),
   (59, .istore_n 3, 1, 0, 0, 0, m0),
   (60, .nop, 0, 0, 0, 0, m0)]),
  (60, [0, 1, 2, 3], true, [(60, .iload_n 3, 1, 0, 0, 0, m0),
   (61, .aload_n 0, 1, 0, 0, 0, m0),
   (62, .iload_n 1, 1, 0, 0, 0, m0),
   (63, .iconst 1, 1, 0, 0, 0, m0),
   (64, .invokevirtual 171, 3, 0, 0, 1708, m_Mod_of),
   (67, .if_icmp .ge 36, 3, 103, 0, 0, m0),
   (70, .nop, 0, 0, 0, 0, m0)]),
  (70, [], false, [(70, .aload_n 0, 1, 0, 0, 0, m0),
   (71, .getfield 27, 3, 7, 11, 1454, m0),
   (74, .bipush 60, 2, 0, 0, 0, m0),
   (76, .iload_n 2, 1, 0, 0, 0, m0),
   (77, .imul, 1, 0, 0, 0, m0),
   (78, .iload_n 3, 1, 0, 0, 0, m0),
   (79, .iadd, 1, 0, 0, 0, m0),
   (80, .aload_n 0, 1, 0, 0, 0, m0),
   (81, .iload_n 1, 1, 0, 0, 0, m0),
   (82, .iload_n 3, 1, 0, 0, 0, m0),
   (83, .invokevirtual 313, 3, 0, 0, 1840, m_Mod_sungAt),
   (86, .i2l, 1, 0, 0, 0, m0),
   (87, .aload_n 0, 1, 0, 0, 0, m0),
   (88, .getfield 21, 3, 5, 11, 1452, m0),
   (91, .iload_n 2, 1, 0, 0, 0, m0),
   (92, .iaload, 1, 0, 0, 0, m0),
   (93, .invokestatic 90, 3, 0, 0, 1581, m_Mod_cut),
   (96, .lastore, 1, 0, 0, 0, m0),
   (97, .iinc 3 1, 3, 0, 0, 0, m0),
   (100, .goto (-40), 3, 60, 0, 0, m0)]),
  (103, [], false, [(103, .aload_n 0, 1, 0, 0, 0, m0),
   (104, .aload_n 0, 1, 0, 0, 0, m0),
   (105, .iload_n 1, 1, 0, 0, 0, m0),
   (106, .iconst 1, 1, 0, 0, 0, m0),
   (107, .invokevirtual 171, 3, 0, 0, 1708, m_Mod_of),
   (110, .invokevirtual 76, 3, 0, 0, 1740, m_Mod_gives),
   (113, .ireturn, 1, 0, 0, 0, m0)])]
theorem ok_Mod_copySung : okBt m_Mod_copySung bt_Mod_copySung = true := by decide +kernel
set_option maxRecDepth 100000 in
theorem b_Mod_copySung_0 {l : Launch} {E : EnvT} {d : Nat} {K : AV → Mem → Prop} {M : Mem} {x1 : Int32} {x2 : Int32} (hd : 1 ≤ d)
  (h : CT l E (d - 1) m_Mod_isLiving [(.ref 24, 41), (.int x1, 0)] M (fun v1 M1 =>
   (((toI v1) = 0 →
    CT l E (d - 1) m_Mod_refuse [(.ref 24, 41), (.int (iN 1), 0)] M1 (fun v2 M2 =>
     K (.int (toI v2), 0) M2)) ∧
   (¬ (toI v1) = 0 →
    CT l E (d - 1) m_Mod_isTray [(.int x2, 0)] M1 (fun v3 M3 =>
     ((¬ (toI v3) = 0 →
      (vp_in x2 4 ∧ ((¬ (iN (M3 24 4 (x2).toNatClampNeg)) = (iN (-1)) →
       (vp_in x2 4 ∧ CT l E (d - 1) m_Mod_of [(.ref 24, 41), (.int x1, 0), (.int (iN 1), 0)] M3 (fun v4 M4 =>
        (((toI v4) ≤ (iN (M3 24 4 (x2).toNatClampNeg)) →
         G l E d m_Mod_copySung 60 [(0, (.ref 24, 41)), (1, (.int x1, 0)), (2, (.int x2, 0)), (3, (.int (iN 0), 0))] [] M4 K) ∧
        (¬ (toI v4) ≤ (iN (M3 24 4 (x2).toNatClampNeg)) →
         CT l E (d - 1) m_Mod_refuse [(.ref 24, 41), (.int (iN 3), 0)] M4 (fun v5 M5 =>
          K (.int (toI v5), 0) M5)))))) ∧
      ((iN (M3 24 4 (x2).toNatClampNeg)) = (iN (-1)) →
       CT l E (d - 1) m_Mod_refuse [(.ref 24, 41), (.int (iN 2), 0)] M3 (fun v6 M6 =>
        K (.int (toI v6), 0) M6))))) ∧
     ((toI v3) = 0 →
      CT l E (d - 1) m_Mod_refuse [(.ref 24, 41), (.int (iN 1), 0)] M3 (fun v7 M7 =>
       K (.int (toI v7), 0) M7)))))))) :
  G l E d m_Mod_copySung 0 [(0, (.ref 24, 41)), (1, (.int x1, 0)), (2, (.int x2, 0))] [] M K := G.blk 60 _ hd ok_Mod_copySung rfl h
set_option maxRecDepth 100000 in
theorem b_Mod_copySung_60 {l : Launch} {E : EnvT} {d : Nat} {K : AV → Mem → Prop} {M : Mem} {x1 : Int32} {x2 : Int32} {x3 : Int32} (hd : 1 ≤ d)
  (h : CT l E (d - 1) m_Mod_of [(.ref 24, 41), (.int x1, 0), (.int (iN 1), 0)] M (fun v1 M1 =>
   (((toI v1) ≤ x3 →
    CT l E (d - 1) m_Mod_of [(.ref 24, 41), (.int x1, 0), (.int (iN 1), 0)] M1 (fun v2 M2 =>
     CT l E (d - 1) m_Mod_gives [(.ref 24, 41), (.int (toI v2), 0)] M2 (fun v3 M3 =>
      K (.int (toI v3), 0) M3))) ∧
   (¬ (toI v1) ≤ x3 →
    CT l E (d - 1) m_Mod_sungAt [(.ref 24, 41), (.int x1, 0), (.int x3, 0)] M1 (fun v4 M4 =>
     (vp_in x2 4 ∧ CT l E (d - 1) m_Mod_cut [(.long ((toI v4)).toInt64, 0), (.int (iN (M4 24 3 (x2).toNatClampNeg)), 0)] M4 (fun v5 M5 =>
      (vp_in (((iN 60) * x2) + x3) 240 ∧ G l E d m_Mod_copySung 60 [(0, (.ref 24, 41)), (1, (.int x1, 0)), (2, (.int x2, 0)), (3, (.int (x3 + iN 1), 0))] [] (upd3 M5 24 5 ((((iN 60) * x2) + x3)).toNatClampNeg ((toL v5)).toInt) K)))))))) :
  G l E d m_Mod_copySung 60 [(0, (.ref 24, 41)), (1, (.int x1, 0)), (2, (.int x2, 0)), (3, (.int x3, 0))] [] M K := G.blk 60 _ hd ok_Mod_copySung rfl h
def bt_Mod_areTwo : BtT := [(0, [0, 1, 2], true, [(0, .aload_n 0, 1, 0, 0, 0, m0),
   (1, .iload_n 1, 1, 0, 0, 0, m0),
   (2, .invokevirtual 280, 3, 0, 0, 1832, m_Mod_isLiving),
   (5, .ifCond .eq 20, 3, 25, 0, 0, m0),
   (8, .nop, 0, 0, 0, 0, m0)]),
  (8, [], false, [(8, .aload_n 0, 1, 0, 0, 0, m0),
   (9, .iload_n 2, 1, 0, 0, 0, m0),
   (10, .invokevirtual 280, 3, 0, 0, 1832, m_Mod_isLiving),
   (13, .ifCond .eq 12, 3, 25, 0, 0, m0),
   (16, .nop, 0, 0, 0, 0, m0)]),
  (16, [], false, [(16, .iload_n 1, 1, 0, 0, 0, m0),
   (17, .iload_n 2, 1, 0, 0, 0, m0),
   (18, .if_icmp .eq 7, 3, 25, 0, 0, m0),
   (21, .nop, 0, 0, 0, 0, m0)]),
  (21, [], false, [(21, .iconst 1, 1, 0, 0, 0, m0),
   (22, .goto 4, 3, 26, 0, 0, m0)]),
  (25, [], false, [(25, .iconst 0, 1, 0, 0, 0, m0),
   (26, .nop, 0, 0, 0, 0, m0)]),
  (26, [], false, [(26, .ireturn, 1, 0, 0, 0, m0)])]
theorem ok_Mod_areTwo : okBt m_Mod_areTwo bt_Mod_areTwo = true := by decide +kernel
set_option maxRecDepth 100000 in
theorem b_Mod_areTwo_0 {l : Launch} {E : EnvT} {d : Nat} {K : AV → Mem → Prop} {M : Mem} {x1 : Int32} {x2 : Int32} (hd : 1 ≤ d)
  (h : CT l E (d - 1) m_Mod_isLiving [(.ref 24, 41), (.int x1, 0)] M (fun v1 M1 =>
   (((toI v1) = 0 →
    ((((iN 0) = 0 ∨ (iN 0) = 1)) ∧ K (.int (iN 0), 0) M1)) ∧
   (¬ (toI v1) = 0 →
    CT l E (d - 1) m_Mod_isLiving [(.ref 24, 41), (.int x2, 0)] M1 (fun v2 M2 =>
     (((toI v2) = 0 →
      ((((iN 0) = 0 ∨ (iN 0) = 1)) ∧ K (.int (iN 0), 0) M2)) ∧
     (¬ (toI v2) = 0 →
      ((x1 = x2 →
       ((((iN 0) = 0 ∨ (iN 0) = 1)) ∧ K (.int (iN 0), 0) M2)) ∧
      (¬ x1 = x2 →
       ((((iN 1) = 0 ∨ (iN 1) = 1)) ∧ K (.int (iN 1), 0) M2)))))))))) :
  G l E d m_Mod_areTwo 0 [(0, (.ref 24, 41)), (1, (.int x1, 0)), (2, (.int x2, 0))] [] M K := G.blk 60 _ hd ok_Mod_areTwo rfl h
def bt_Mod_gets : BtT := [(0, [0, 1, 2, 3], true, [(0, .aload_n 0, 1, 0, 0, 0, m0),
   (1, .getfield 7, 3, 0, 11, 1447, m0),
   (4, .iload_n 1, 1, 0, 0, 0, m0),
   (5, .invokestatic 168, 3, 0, 0, 1648, m_Mod_singerRow),
   (8, .iload_n 2, 1, 0, 0, 0, m0),
   (9, .iadd, 1, 0, 0, 0, m0),
   (10, .dup2, 1, 0, 0, 0, m0),
   (11, .iaload, 1, 0, 0, 0, m0),
   (12, .iload_n 3, 1, 0, 0, 0, m0),
   (13, .iadd, 1, 0, 0, 0, m0),
   (14, .iastore, 1, 0, 0, 0, m0),
   (15, .return_, 1, 0, 0, 0, m0)])]
theorem ok_Mod_gets : okBt m_Mod_gets bt_Mod_gets = true := by decide +kernel
set_option maxRecDepth 100000 in
theorem b_Mod_gets_0 {l : Launch} {E : EnvT} {d : Nat} {K : AV → Mem → Prop} {M : Mem} {x1 : Int32} {x2 : Int32} {x3 : Int32} (hd : 1 ≤ d)
  (h : CT l E (d - 1) m_Mod_singerRow [(.int x1, 0)] M (fun v1 M1 =>
   (vp_in ((toI v1) + x2) 3612 ∧ vp_in ((toI v1) + x2) 3612 ∧ K (.null, 0) (upd3 M1 24 1 (((toI v1) + x2)).toNatClampNeg (((iN (M1 24 1 (((toI v1) + x2)).toNatClampNeg)) + x3)).toInt)))) :
  G l E d m_Mod_gets 0 [(0, (.ref 24, 41)), (1, (.int x1, 0)), (2, (.int x2, 0)), (3, (.int x3, 0))] [] M K := G.blk 60 _ hd ok_Mod_gets rfl h
def bt_Mod_lends : BtT := [(0, [0, 1, 2, 3], true, [(0, .aload_n 0, 1, 0, 0, 0, m0),
   (1, .iload_n 2, 1, 0, 0, 0, m0),
   (2, .iconst 3, 1, 0, 0, 0, m0),
   (3, .invokevirtual 171, 3, 0, 0, 1708, m_Mod_of),
   (6, .iconst 1, 1, 0, 0, 0, m0),
   (7, .if_icmp .eq 37, 3, 44, 0, 0, m0),
   (10, .nop, 0, 0, 0, 0, m0)]),
  (10, [], false, [(10, .aload_n 0, 1, 0, 0, 0, m0),
   (11, .iload_n 1, 1, 0, 0, 0, m0),
   (12, .iconst 0, 1, 0, 0, 0, m0),
   (13, .invokevirtual 171, 3, 0, 0, 1708, m_Mod_of),
   (16, .iload_n 3, 1, 0, 0, 0, m0),
   (17, .if_icmp .lt 27, 3, 44, 0, 0, m0),
   (20, .nop, 0, 0, 0, 0, m0)]),
  (20, [], false, [(20, .aload_n 0, 1, 0, 0, 0, m0),
   (21, .iload_n 2, 1, 0, 0, 0, m0),
   (22, .iconst 0, 1, 0, 0, 0, m0),
   (23, .invokevirtual 171, 3, 0, 0, 1708, m_Mod_of),
   (26, .iload_n 3, 1, 0, 0, 0, m0),
   (27, .iadd, 1, 0, 0, 0, m0),
   (28, .sipush 9999, 3, 0, 0, 0, m0),
   (31, .if_icmp .gt 13, 3, 44, 0, 0, m0),
   (34, .nop, 0, 0, 0, 0, m0)]),
  (34, [], false, [(34, .aload_n 0, 1, 0, 0, 0, m0),
   (35, .iload_n 2, 1, 0, 0, 0, m0),
   (36, .iload_n 1, 1, 0, 0, 0, m0),
   (37, .iload_n 3, 1, 0, 0, 0, m0),
   (38, .invokevirtual 231, 3, 0, 0, 1700, m_Mod_books),
   (41, .ifCond .ne 5, 3, 46, 0, 0, m0),
   (44, .nop, 0, 0, 0, 0, m0)]),
  (44, [], false, [(44, .iconst 0, 1, 0, 0, 0, m0),
   (45, .ireturn, 1, 0, 0, 0, m0)]),
  (46, [], false, [(46, .aload_n 0, 1, 0, 0, 0, m0),
   (47, .iload_n 1, 1, 0, 0, 0, m0),
   (48, .iconst 0, 1, 0, 0, 0, m0),
   (49, .iload_n 3, 1, 0, 0, 0, m0),
   (50, .ineg, 1, 0, 0, 0, m0),
   (51, .invokevirtual 316, 3, 0, 0, 1860, m_Mod_gets),
   (54, .aload_n 0, 1, 0, 0, 0, m0),
   (55, .iload_n 2, 1, 0, 0, 0, m0),
   (56, .iconst 0, 1, 0, 0, 0, m0),
   (57, .iload_n 3, 1, 0, 0, 0, m0),
   (58, .invokevirtual 316, 3, 0, 0, 1860, m_Mod_gets),
   (61, .iconst 1, 1, 0, 0, 0, m0),
   (62, .ireturn, 1, 0, 0, 0, m0)])]
theorem ok_Mod_lends : okBt m_Mod_lends bt_Mod_lends = true := by decide +kernel
set_option maxRecDepth 100000 in
theorem b_Mod_lends_0 {l : Launch} {E : EnvT} {d : Nat} {K : AV → Mem → Prop} {M : Mem} {x1 : Int32} {x2 : Int32} {x3 : Int32} (hd : 1 ≤ d)
  (h : CT l E (d - 1) m_Mod_of [(.ref 24, 41), (.int x2, 0), (.int (iN 3), 0)] M (fun v1 M1 =>
   (((toI v1) = (iN 1) →
    ((((iN 0) = 0 ∨ (iN 0) = 1)) ∧ K (.int (iN 0), 0) M1)) ∧
   (¬ (toI v1) = (iN 1) →
    CT l E (d - 1) m_Mod_of [(.ref 24, 41), (.int x1, 0), (.int (iN 0), 0)] M1 (fun v2 M2 =>
     (((toI v2) < x3 →
      ((((iN 0) = 0 ∨ (iN 0) = 1)) ∧ K (.int (iN 0), 0) M2)) ∧
     (¬ (toI v2) < x3 →
      CT l E (d - 1) m_Mod_of [(.ref 24, 41), (.int x2, 0), (.int (iN 0), 0)] M2 (fun v3 M3 =>
       (((iN 9999) < ((toI v3) + x3) →
        ((((iN 0) = 0 ∨ (iN 0) = 1)) ∧ K (.int (iN 0), 0) M3)) ∧
       (¬ (iN 9999) < ((toI v3) + x3) →
        CT l E (d - 1) m_Mod_books [(.ref 24, 41), (.int x2, 0), (.int x1, 0), (.int x3, 0)] M3 (fun v4 M4 =>
         ((¬ (toI v4) = 0 →
          CT l E (d - 1) m_Mod_gets [(.ref 24, 41), (.int x1, 0), (.int (iN 0), 0), (.int (-x3), 0)] M4 (fun v5 M5 =>
           CT l E (d - 1) m_Mod_gets [(.ref 24, 41), (.int x2, 0), (.int (iN 0), 0), (.int x3, 0)] M5 (fun v6 M6 =>
            ((((iN 1) = 0 ∨ (iN 1) = 1)) ∧ K (.int (iN 1), 0) M6)))) ∧
         ((toI v4) = 0 →
          ((((iN 0) = 0 ∨ (iN 0) = 1)) ∧ K (.int (iN 0), 0) M4)))))))))))))) :
  G l E d m_Mod_lends 0 [(0, (.ref 24, 41)), (1, (.int x1, 0)), (2, (.int x2, 0)), (3, (.int x3, 0))] [] M K := G.blk 60 _ hd ok_Mod_lends rfl h
def bt_Mod_lend : BtT := [(0, [0, 1, 2, 3], true, [(0, .aload_n 0, 1, 0, 0, 0, m0),
   (1, .iload_n 1, 1, 0, 0, 0, m0),
   (2, .iload_n 2, 1, 0, 0, 0, m0),
   (3, .invokevirtual 320, 3, 0, 0, 1852, m_Mod_areTwo),
   (6, .ifCond .eq 15, 3, 21, 0, 0, m0),
   (9, .nop, 0, 0, 0, 0, m0)]),
  (9, [], false, [(9, .iload_n 3, 1, 0, 0, 0, m0),
   (10, .i2l, 1, 0, 0, 0, m0),
   (11, .lconst 1, 1, 0, 0, 0, m0),
   (12, .ldc2_w 229, 3, 1, 99, 1699, m0),
   (15, .invokestatic 218, 3, 0, 0, 1684, m_Mod_isFrom),
   (18, .ifCond .ne 9, 3, 27, 0, 0, m0),
   (21, .nop, 0, 0, 0, 0, m0)]),
  (21, [], false, [(21, .aload_n 0, 1, 0, 0, 0, m0),
   (22, .iconst 1, 1, 0, 0, 0, m0),
   (23, .invokevirtual 72, 3, 0, 0, 1629, m_Mod_refuse),
   (26, .ireturn, 1, 0, 0, 0, m0)]),
  (27, [], false, [(27, .aload_n 0, 1, 0, 0, 0, m0),
   (28, .iload_n 1, 1, 0, 0, 0, m0),
   (29, .iload_n 2, 1, 0, 0, 0, m0),
   (30, .iload_n 3, 1, 0, 0, 0, m0),
   (31, .invokevirtual 323, 3, 0, 0, 1856, m_Mod_lends),
   (34, .ifCond .eq 16, 3, 50, 0, 0, m0),
   (37, .nop, 0, 0, 0, 0, m0)]),
  (37, [], false, [(37, .aload_n 0, 1, 0, 0, 0, m0),
   (38, .aload_n 0, 1, 0, 0, 0, m0),
   (39, .iload_n 2, 1, 0, 0, 0, m0),
   (40, .iload_n 1, 1, 0, 0, 0, m0),
   (41, .invokevirtual 286, 3, 0, 0, 1780, m_Mod_owes),
   (44, .invokevirtual 76, 3, 0, 0, 1740, m_Mod_gives),
   (47, .goto 9, 3, 56, 0, 0, m0)]),
  (50, [], false, [(50, .aload_n 0, 1, 0, 0, 0, m0),
   (51, .bipush 7, 2, 0, 0, 0, m0),
   (53, .invokevirtual 72, 3, 0, 0, 1629, m_Mod_refuse),
   (56, .nop, 0, 0, 0, 0, m0)]),
  (56, [], false, [(56, .ireturn, 1, 0, 0, 0, m0)])]
theorem ok_Mod_lend : okBt m_Mod_lend bt_Mod_lend = true := by decide +kernel
set_option maxRecDepth 100000 in
theorem b_Mod_lend_0 {l : Launch} {E : EnvT} {d : Nat} {K : AV → Mem → Prop} {M : Mem} {x1 : Int32} {x2 : Int32} {x3 : Int32} (hd : 1 ≤ d)
  (h : CT l E (d - 1) m_Mod_areTwo [(.ref 24, 41), (.int x1, 0), (.int x2, 0)] M (fun v1 M1 =>
   (((toI v1) = 0 →
    CT l E (d - 1) m_Mod_refuse [(.ref 24, 41), (.int (iN 1), 0)] M1 (fun v2 M2 =>
     K (.int (toI v2), 0) M2)) ∧
   (¬ (toI v1) = 0 →
    CT l E (d - 1) m_Mod_isFrom [(.long (x3).toInt64, 0), (.long (lI 1), 0), (.long (lI 99), 0)] M1 (fun v3 M3 =>
     ((¬ (toI v3) = 0 →
      CT l E (d - 1) m_Mod_lends [(.ref 24, 41), (.int x1, 0), (.int x2, 0), (.int x3, 0)] M3 (fun v4 M4 =>
       (((toI v4) = 0 →
        CT l E (d - 1) m_Mod_refuse [(.ref 24, 41), (.int (iN 7), 0)] M4 (fun v5 M5 =>
         K (.int (toI v5), 0) M5)) ∧
       (¬ (toI v4) = 0 →
        CT l E (d - 1) m_Mod_owes [(.ref 24, 41), (.int x2, 0), (.int x1, 0)] M4 (fun v6 M6 =>
         CT l E (d - 1) m_Mod_gives [(.ref 24, 41), (.int (toI v6), 0)] M6 (fun v7 M7 =>
          K (.int (toI v7), 0) M7)))))) ∧
     ((toI v3) = 0 →
      CT l E (d - 1) m_Mod_refuse [(.ref 24, 41), (.int (iN 1), 0)] M3 (fun v8 M8 =>
       K (.int (toI v8), 0) M8)))))))) :
  G l E d m_Mod_lend 0 [(0, (.ref 24, 41)), (1, (.int x1, 0)), (2, (.int x2, 0)), (3, (.int x3, 0))] [] M K := G.blk 60 _ hd ok_Mod_lend rfl h
def bt_Mod_goesOff : BtT := [(0, [0, 1, 2, 3], true, [(0, .aload_n 0, 1, 0, 0, 0, m0),
   (1, .iload_n 2, 1, 0, 0, 0, m0),
   (2, .iload_n 1, 1, 0, 0, 0, m0),
   (3, .invokevirtual 177, 3, 0, 0, 1704, m_Mod_noteOf),
   (6, .istore 4, 2, 0, 0, 0, m0),
   (8, .aload_n 0, 1, 0, 0, 0, m0),
   (9, .iload_n 2, 1, 0, 0, 0, m0),
   (10, .iload 4, 2, 0, 0, 0, m0),
   (12, .iload_n 1, 1, 0, 0, 0, m0),
   (13, .aload_n 0, 1, 0, 0, 0, m0),
   (14, .iload_n 2, 1, 0, 0, 0, m0),
   (15, .iload 4, 2, 0, 0, 0, m0),
   (17, .invokevirtual 180, 3, 0, 0, 1716, m_Mod_debtAt),
   (20, .iload_n 3, 1, 0, 0, 0, m0),
   (21, .isub, 1, 0, 0, 0, m0),
   (22, .invokevirtual 183, 3, 0, 0, 1720, m_Mod_stands),
   (25, .return_, 1, 0, 0, 0, m0)])]
theorem ok_Mod_goesOff : okBt m_Mod_goesOff bt_Mod_goesOff = true := by decide +kernel
set_option maxRecDepth 100000 in
theorem b_Mod_goesOff_0 {l : Launch} {E : EnvT} {d : Nat} {K : AV → Mem → Prop} {M : Mem} {x1 : Int32} {x2 : Int32} {x3 : Int32} (hd : 1 ≤ d)
  (h : CT l E (d - 1) m_Mod_noteOf [(.ref 24, 41), (.int x2, 0), (.int x1, 0)] M (fun v1 M1 =>
   CT l E (d - 1) m_Mod_debtAt [(.ref 24, 41), (.int x2, 0), (.int (toI v1), 0)] M1 (fun v2 M2 =>
    CT l E (d - 1) m_Mod_stands [(.ref 24, 41), (.int x2, 0), (.int (toI v1), 0), (.int x1, 0), (.int ((toI v2) - x3), 0)] M2 (fun v3 M3 =>
     K (.null, 0) M3)))) :
  G l E d m_Mod_goesOff 0 [(0, (.ref 24, 41)), (1, (.int x1, 0)), (2, (.int x2, 0)), (3, (.int x3, 0))] [] M K := G.blk 60 _ hd ok_Mod_goesOff rfl h
