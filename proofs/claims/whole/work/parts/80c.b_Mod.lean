def bt_Mod_paysSome : BtT := [(0, [0, 1, 2, 3], true, [(0, .aload_n 0, 1, 0, 0, 0, m0),
   (1, .iload_n 1, 1, 0, 0, 0, m0),
   (2, .iload_n 2, 1, 0, 0, 0, m0),
   (3, .iload_n 3, 1, 0, 0, 0, m0),
   (4, .invokevirtual 326, 3, 0, 0, 1877, m_Mod_goesOff),
   (7, .aload_n 0, 1, 0, 0, 0, m0),
   (8, .iload_n 1, 1, 0, 0, 0, m0),
   (9, .iconst 0, 1, 0, 0, 0, m0),
   (10, .iload_n 3, 1, 0, 0, 0, m0),
   (11, .ineg, 1, 0, 0, 0, m0),
   (12, .invokevirtual 316, 3, 0, 0, 1860, m_Mod_gets),
   (15, .aload_n 0, 1, 0, 0, 0, m0),
   (16, .iload_n 2, 1, 0, 0, 0, m0),
   (17, .iconst 0, 1, 0, 0, 0, m0),
   (18, .iload_n 3, 1, 0, 0, 0, m0),
   (19, .invokevirtual 316, 3, 0, 0, 1860, m_Mod_gets),
   (22, .aload_n 0, 1, 0, 0, 0, m0),
   (23, .getfield 7, 3, 0, 11, 1447, m0),
   (26, .iconst 3, 1, 0, 0, 0, m0),
   (27, .dup2, 1, 0, 0, 0, m0),
   (28, .iaload, 1, 0, 0, 0, m0),
   (29, .iload_n 3, 1, 0, 0, 0, m0),
   (30, .iadd, 1, 0, 0, 0, m0),
   (31, .iastore, 1, 0, 0, 0, m0),
   (32, .return_, 1, 0, 0, 0, m0)])]
theorem ok_Mod_paysSome : okBt m_Mod_paysSome bt_Mod_paysSome = true := by decide +kernel
set_option maxRecDepth 100000 in
theorem b_Mod_paysSome_0 {l : Launch} {E : EnvT} {d : Nat} {K : AV → Mem → Prop} {M : Mem} {x1 : Int32} {x2 : Int32} {x3 : Int32} (hd : 1 ≤ d)
  (h : CT l E (d - 1) m_Mod_goesOff [(.ref 24, 41), (.int x1, 0), (.int x2, 0), (.int x3, 0)] M (fun v1 M1 =>
   CT l E (d - 1) m_Mod_gets [(.ref 24, 41), (.int x1, 0), (.int (iN 0), 0), (.int (-x3), 0)] M1 (fun v2 M2 =>
    CT l E (d - 1) m_Mod_gets [(.ref 24, 41), (.int x2, 0), (.int (iN 0), 0), (.int x3, 0)] M2 (fun v3 M3 =>
     (vp_in (iN 3) 3612 ∧ vp_in (iN 3) 3612 ∧ K (.null, 0) (upd3 M3 24 1 ((iN 3)).toNatClampNeg (((iN (M3 24 1 ((iN 3)).toNatClampNeg)) + x3)).toInt)))))) :
  G l E d m_Mod_paysSome 0 [(0, (.ref 24, 41)), (1, (.int x1, 0)), (2, (.int x2, 0)), (3, (.int x3, 0))] [] M K := G.blk 60 _ hd ok_Mod_paysSome rfl h
def bt_Mod_leaves : BtT := [(0, [0, 1], true, [(0, .aload_n 0, 1, 0, 0, 0, m0),
   (1, .getfield 7, 3, 0, 11, 1447, m0),
   (4, .aload_n 0, 1, 0, 0, 0, m0),
   (5, .getfield 165, 3, 21, 11, 1468, m0),
   (8, .sipush 214, 3, 0, 0, 0, m0),
   (11, .iadd, 1, 0, 0, 0, m0),
   (12, .iconst 3, 1, 0, 0, 0, m0),
   (13, .iload_n 1, 1, 0, 0, 0, m0),
   (14, .imul, 1, 0, 0, 0, m0),
   (15, .iadd, 1, 0, 0, 0, m0),
   (16, .iconst 2, 1, 0, 0, 0, m0),
   (17, .iadd, 1, 0, 0, 0, m0),
   (18, .iaload, 1, 0, 0, 0, m0),
   (19, .istore_n 2, 1, 0, 0, 0, m0),
   (20, .aload_n 0, 1, 0, 0, 0, m0),
   (21, .getfield 7, 3, 0, 11, 1447, m0),
   (24, .aload_n 0, 1, 0, 0, 0, m0),
   (25, .getfield 165, 3, 21, 11, 1468, m0),
   (28, .iconst 5, 1, 0, 0, 0, m0),
   (29, .iadd, 1, 0, 0, 0, m0),
   (30, .dup2, 1, 0, 0, 0, m0),
   (31, .iaload, 1, 0, 0, 0, m0),
   (32, .iconst 1, 1, 0, 0, 0, m0),
   (33, .isub, 1, 0, 0, 0, m0),
   (34, .iastore, 1, 0, 0, 0, m0),
   (35, .iconst 3, 1, 0, 0, 0, m0),
   (36, .iload_n 1, 1, 0, 0, 0, m0),
   (37, .imul, 1, 0, 0, 0, m0),
   (38, .istore_n 3, 1, 0, 0, 0, m0),
   (39, .nop, 0, 0, 0, 0, m0)]),
  (39, [0, 2, 3], true, [(39, .iload_n 3, 1, 0, 0, 0, m0),
   (40, .iconst 3, 1, 0, 0, 0, m0),
   (41, .aload_n 0, 1, 0, 0, 0, m0),
   (42, .getfield 7, 3, 0, 11, 1447, m0),
   (45, .aload_n 0, 1, 0, 0, 0, m0),
   (46, .getfield 165, 3, 21, 11, 1468, m0),
   (49, .iconst 5, 1, 0, 0, 0, m0),
   (50, .iadd, 1, 0, 0, 0, m0),
   (51, .iaload, 1, 0, 0, 0, m0),
   (52, .imul, 1, 0, 0, 0, m0),
   (53, .if_icmp .ge 41, 3, 94, 0, 0, m0),
   (56, .nop, 0, 0, 0, 0, m0)]),
  (56, [], false, [(56, .aload_n 0, 1, 0, 0, 0, m0),
   (57, .getfield 7, 3, 0, 11, 1447, m0),
   (60, .aload_n 0, 1, 0, 0, 0, m0),
   (61, .getfield 165, 3, 21, 11, 1468, m0),
   (64, .sipush 214, 3, 0, 0, 0, m0),
   (67, .iadd, 1, 0, 0, 0, m0),
   (68, .iload_n 3, 1, 0, 0, 0, m0),
   (69, .iadd, 1, 0, 0, 0, m0),
   (70, .aload_n 0, 1, 0, 0, 0, m0),
   (71, .getfield 7, 3, 0, 11, 1447, m0),
   (74, .aload_n 0, 1, 0, 0, 0, m0),
   (75, .getfield 165, 3, 21, 11, 1468, m0),
   (78, .sipush 214, 3, 0, 0, 0, m0),
   (81, .iadd, 1, 0, 0, 0, m0),
   (82, .iload_n 3, 1, 0, 0, 0, m0),
   (83, .iadd, 1, 0, 0, 0, m0),
   (84, .iconst 3, 1, 0, 0, 0, m0),
   (85, .iadd, 1, 0, 0, 0, m0),
   (86, .iaload, 1, 0, 0, 0, m0),
   (87, .iastore, 1, 0, 0, 0, m0),
   (88, .iinc 3 1, 3, 0, 0, 0, m0),
   (91, .goto (-52), 3, 39, 0, 0, m0)]),
  (94, [], false, [(94, .iload_n 2, 1, 0, 0, 0, m0),
   (95, .ireturn, 1, 0, 0, 0, m0)])]
theorem ok_Mod_leaves : okBt m_Mod_leaves bt_Mod_leaves = true := by decide +kernel
set_option maxRecDepth 100000 in
theorem b_Mod_leaves_0 {l : Launch} {E : EnvT} {d : Nat} {K : AV → Mem → Prop} {M : Mem} {x1 : Int32} (hd : 1 ≤ d)
  (h : (vp_in ((((iN (M 24 0 21)) + (iN 214)) + ((iN 3) * x1)) + (iN 2)) 3612 ∧ vp_in ((iN (M 24 0 21)) + (iN 5)) 3612 ∧ vp_in ((iN (M 24 0 21)) + (iN 5)) 3612 ∧ G l E d m_Mod_leaves 39 [(0, (.ref 24, 41)), (2, (.int (iN (M 24 1 (((((iN (M 24 0 21)) + (iN 214)) + ((iN 3) * x1)) + (iN 2))).toNatClampNeg)), 0)), (3, (.int ((iN 3) * x1), 0))] [] (upd3 M 24 1 (((iN (M 24 0 21)) + (iN 5))).toNatClampNeg (((iN (M 24 1 (((iN (M 24 0 21)) + (iN 5))).toNatClampNeg)) - (iN 1))).toInt) K)) :
  G l E d m_Mod_leaves 0 [(0, (.ref 24, 41)), (1, (.int x1, 0))] [] M K := G.blk 60 _ hd ok_Mod_leaves rfl h
set_option maxRecDepth 100000 in
theorem b_Mod_leaves_39 {l : Launch} {E : EnvT} {d : Nat} {K : AV → Mem → Prop} {M : Mem} {x2 : Int32} {x3 : Int32} (hd : 1 ≤ d)
  (h : (vp_in ((iN (M 24 0 21)) + (iN 5)) 3612 ∧ ((((iN 3) * (iN (M 24 1 (((iN (M 24 0 21)) + (iN 5))).toNatClampNeg))) ≤ x3 →
   K (.int x2, 0) M) ∧
  (¬ ((iN 3) * (iN (M 24 1 (((iN (M 24 0 21)) + (iN 5))).toNatClampNeg))) ≤ x3 →
   (vp_in ((((iN (M 24 0 21)) + (iN 214)) + x3) + (iN 3)) 3612 ∧ vp_in (((iN (M 24 0 21)) + (iN 214)) + x3) 3612 ∧ G l E d m_Mod_leaves 39 [(0, (.ref 24, 41)), (2, (.int x2, 0)), (3, (.int (x3 + iN 1), 0))] [] (upd3 M 24 1 ((((iN (M 24 0 21)) + (iN 214)) + x3)).toNatClampNeg ((iN (M 24 1 (((((iN (M 24 0 21)) + (iN 214)) + x3) + (iN 3))).toNatClampNeg))).toInt) K))))) :
  G l E d m_Mod_leaves 39 [(0, (.ref 24, 41)), (2, (.int x2, 0)), (3, (.int x3, 0))] [] M K := G.blk 60 _ hd ok_Mod_leaves rfl h
def bt_Mod_fills : BtT := [(0, [0], true, [(0, .iconst 0, 1, 0, 0, 0, m0),
   (1, .istore_n 1, 1, 0, 0, 0, m0),
   (2, .nop, 0, 0, 0, 0, m0)]),
  (2, [0, 1], true, [(2, .iload_n 1, 1, 0, 0, 0, m0),
   (3, .aload_n 0, 1, 0, 0, 0, m0),
   (4, .getfield 7, 3, 0, 11, 1447, m0),
   (7, .aload_n 0, 1, 0, 0, 0, m0),
   (8, .getfield 165, 3, 21, 11, 1468, m0),
   (11, .iconst 5, 1, 0, 0, 0, m0),
   (12, .iadd, 1, 0, 0, 0, m0),
   (13, .iaload, 1, 0, 0, 0, m0),
   (14, .if_icmp .ge 77, 3, 91, 0, 0, m0),
   (17, .nop, 0, 0, 0, 0, m0)]),
  (17, [], false, [(17, .aload_n 0, 1, 0, 0, 0, m0),
   (18, .getfield 7, 3, 0, 11, 1447, m0),
   (21, .aload_n 0, 1, 0, 0, 0, m0),
   (22, .getfield 165, 3, 21, 11, 1468, m0),
   (25, .sipush 214, 3, 0, 0, 0, m0),
   (28, .iadd, 1, 0, 0, 0, m0),
   (29, .iconst 3, 1, 0, 0, 0, m0),
   (30, .iload_n 1, 1, 0, 0, 0, m0),
   (31, .imul, 1, 0, 0, 0, m0),
   (32, .iadd, 1, 0, 0, 0, m0),
   (33, .iaload, 1, 0, 0, 0, m0),
   (34, .istore_n 2, 1, 0, 0, 0, m0),
   (35, .aload_n 0, 1, 0, 0, 0, m0),
   (36, .getfield 7, 3, 0, 11, 1447, m0),
   (39, .aload_n 0, 1, 0, 0, 0, m0),
   (40, .getfield 165, 3, 21, 11, 1468, m0),
   (43, .sipush 214, 3, 0, 0, 0, m0),
   (46, .iadd, 1, 0, 0, 0, m0),
   (47, .iconst 3, 1, 0, 0, 0, m0),
   (48, .iload_n 1, 1, 0, 0, 0, m0),
   (49, .imul, 1, 0, 0, 0, m0),
   (50, .iadd, 1, 0, 0, 0, m0),
   (51, .iconst 1, 1, 0, 0, 0, m0),
   (52, .iadd, 1, 0, 0, 0, m0),
   (53, .iaload, 1, 0, 0, 0, m0),
   (54, .istore_n 3, 1, 0, 0, 0, m0),
   (55, .aload_n 0, 1, 0, 0, 0, m0),
   (56, .iload_n 3, 1, 0, 0, 0, m0),
   (57, .iconst (-1), 1, 0, 0, 0, m0),
   (58, .invokevirtual 177, 3, 0, 0, 1704, m_Mod_noteOf),
   (61, .istore 4, 2, 0, 0, 0, m0),
   (63, .iload 4, 2, 0, 0, 0, m0),
   (65, .iconst (-1), 1, 0, 0, 0, m0),
   (66, .if_icmp .ne 9, 3, 75, 0, 0, m0),
   (69, .nop, 0, 0, 0, 0, m0)]),
  (69, [], false, [(69, .iinc 1 1, 3, 0, 0, 0, m0),
   (72, .goto 16, 3, 88, 0, 0, m0)]),
  (75, [], false, [(75, .aload_n 0, 1, 0, 0, 0, m0),
   (76, .iload_n 3, 1, 0, 0, 0, m0),
   (77, .iload 4, 2, 0, 0, 0, m0),
   (79, .iload_n 2, 1, 0, 0, 0, m0),
   (80, .aload_n 0, 1, 0, 0, 0, m0),
   (81, .iload_n 1, 1, 0, 0, 0, m0),
   (82, .invokevirtual 190, 3, 0, 0, 1885, m_Mod_leaves),
   (85, .invokevirtual 183, 3, 0, 0, 1720, m_Mod_stands),
   (88, .nop, 0, 0, 0, 0, m0)]),
  (88, [], false, [(88, .goto (-86), 3, 2, 0, 0, m0)]),
  (91, [], false, [(91, .return_, 1, 0, 0, 0, m0)])]
theorem ok_Mod_fills : okBt m_Mod_fills bt_Mod_fills = true := by decide +kernel
set_option maxRecDepth 100000 in
theorem b_Mod_fills_0 {l : Launch} {E : EnvT} {d : Nat} {K : AV → Mem → Prop} {M : Mem}  (hd : 1 ≤ d)
  (h : G l E d m_Mod_fills 2 [(0, (.ref 24, 41)), (1, (.int (iN 0), 0))] [] M K) :
  G l E d m_Mod_fills 0 [(0, (.ref 24, 41))] [] M K := G.blk 60 _ hd ok_Mod_fills rfl h
set_option maxRecDepth 100000 in
theorem b_Mod_fills_2 {l : Launch} {E : EnvT} {d : Nat} {K : AV → Mem → Prop} {M : Mem} {x1 : Int32} (hd : 1 ≤ d)
  (h : (vp_in ((iN (M 24 0 21)) + (iN 5)) 3612 ∧ (((iN (M 24 1 (((iN (M 24 0 21)) + (iN 5))).toNatClampNeg)) ≤ x1 →
   K (.null, 0) M) ∧
  (¬ (iN (M 24 1 (((iN (M 24 0 21)) + (iN 5))).toNatClampNeg)) ≤ x1 →
   (vp_in (((iN (M 24 0 21)) + (iN 214)) + ((iN 3) * x1)) 3612 ∧ vp_in ((((iN (M 24 0 21)) + (iN 214)) + ((iN 3) * x1)) + (iN 1)) 3612 ∧ CT l E (d - 1) m_Mod_noteOf [(.ref 24, 41), (.int (iN (M 24 1 (((((iN (M 24 0 21)) + (iN 214)) + ((iN 3) * x1)) + (iN 1))).toNatClampNeg)), 0), (.int (iN (-1)), 0)] M (fun v1 M1 =>
    ((¬ (toI v1) = (iN (-1)) →
     CT l E (d - 1) m_Mod_leaves [(.ref 24, 41), (.int x1, 0)] M1 (fun v2 M2 =>
      CT l E (d - 1) m_Mod_stands [(.ref 24, 41), (.int (iN (M 24 1 (((((iN (M 24 0 21)) + (iN 214)) + ((iN 3) * x1)) + (iN 1))).toNatClampNeg)), 0), (.int (toI v1), 0), (.int (iN (M 24 1 ((((iN (M 24 0 21)) + (iN 214)) + ((iN 3) * x1))).toNatClampNeg)), 0), (.int (toI v2), 0)] M2 (fun v3 M3 =>
       G l E d m_Mod_fills 2 [(0, (.ref 24, 41)), (1, (.int x1, 0))] [] M3 K))) ∧
    ((toI v1) = (iN (-1)) →
     G l E d m_Mod_fills 2 [(0, (.ref 24, 41)), (1, (.int (x1 + iN 1), 0))] [] M1 K)))))))) :
  G l E d m_Mod_fills 2 [(0, (.ref 24, 41)), (1, (.int x1, 0))] [] M K := G.blk 60 _ hd ok_Mod_fills rfl h
def bt_Mod_pays : BtT := [(0, [0, 1, 2, 3], true, [(0, .aload_n 0, 1, 0, 0, 0, m0),
   (1, .iload_n 1, 1, 0, 0, 0, m0),
   (2, .iconst 0, 1, 0, 0, 0, m0),
   (3, .invokevirtual 171, 3, 0, 0, 1708, m_Mod_of),
   (6, .iload_n 3, 1, 0, 0, 0, m0),
   (7, .if_icmp .lt 27, 3, 34, 0, 0, m0),
   (10, .nop, 0, 0, 0, 0, m0)]),
  (10, [], false, [(10, .aload_n 0, 1, 0, 0, 0, m0),
   (11, .iload_n 1, 1, 0, 0, 0, m0),
   (12, .iload_n 2, 1, 0, 0, 0, m0),
   (13, .invokevirtual 283, 3, 0, 0, 1784, m_Mod_noted),
   (16, .iload_n 3, 1, 0, 0, 0, m0),
   (17, .if_icmp .lt 17, 3, 34, 0, 0, m0),
   (20, .nop, 0, 0, 0, 0, m0)]),
  (20, [], false, [(20, .aload_n 0, 1, 0, 0, 0, m0),
   (21, .iload_n 2, 1, 0, 0, 0, m0),
   (22, .iconst 0, 1, 0, 0, 0, m0),
   (23, .invokevirtual 171, 3, 0, 0, 1708, m_Mod_of),
   (26, .iload_n 3, 1, 0, 0, 0, m0),
   (27, .iadd, 1, 0, 0, 0, m0),
   (28, .sipush 9999, 3, 0, 0, 0, m0),
   (31, .if_icmp .le 5, 3, 36, 0, 0, m0),
   (34, .nop, 0, 0, 0, 0, m0)]),
  (34, [], false, [(34, .iconst 0, 1, 0, 0, 0, m0),
   (35, .ireturn, 1, 0, 0, 0, m0)]),
  (36, [], false, [(36, .aload_n 0, 1, 0, 0, 0, m0),
   (37, .iload_n 1, 1, 0, 0, 0, m0),
   (38, .iload_n 2, 1, 0, 0, 0, m0),
   (39, .iload_n 3, 1, 0, 0, 0, m0),
   (40, .invokevirtual 329, 3, 0, 0, 1873, m_Mod_paysSome),
   (43, .aload_n 0, 1, 0, 0, 0, m0),
   (44, .invokevirtual 332, 3, 0, 0, 1881, m_Mod_fills),
   (47, .iconst 1, 1, 0, 0, 0, m0),
   (48, .ireturn, 1, 0, 0, 0, m0)])]
theorem ok_Mod_pays : okBt m_Mod_pays bt_Mod_pays = true := by decide +kernel
set_option maxRecDepth 100000 in
theorem b_Mod_pays_0 {l : Launch} {E : EnvT} {d : Nat} {K : AV → Mem → Prop} {M : Mem} {x1 : Int32} {x2 : Int32} {x3 : Int32} (hd : 1 ≤ d)
  (h : CT l E (d - 1) m_Mod_of [(.ref 24, 41), (.int x1, 0), (.int (iN 0), 0)] M (fun v1 M1 =>
   (((toI v1) < x3 →
    ((((iN 0) = 0 ∨ (iN 0) = 1)) ∧ K (.int (iN 0), 0) M1)) ∧
   (¬ (toI v1) < x3 →
    CT l E (d - 1) m_Mod_noted [(.ref 24, 41), (.int x1, 0), (.int x2, 0)] M1 (fun v2 M2 =>
     (((toI v2) < x3 →
      ((((iN 0) = 0 ∨ (iN 0) = 1)) ∧ K (.int (iN 0), 0) M2)) ∧
     (¬ (toI v2) < x3 →
      CT l E (d - 1) m_Mod_of [(.ref 24, 41), (.int x2, 0), (.int (iN 0), 0)] M2 (fun v3 M3 =>
       ((((toI v3) + x3) ≤ (iN 9999) →
        CT l E (d - 1) m_Mod_paysSome [(.ref 24, 41), (.int x1, 0), (.int x2, 0), (.int x3, 0)] M3 (fun v4 M4 =>
         CT l E (d - 1) m_Mod_fills [(.ref 24, 41)] M4 (fun v5 M5 =>
          ((((iN 1) = 0 ∨ (iN 1) = 1)) ∧ K (.int (iN 1), 0) M5)))) ∧
       (¬ ((toI v3) + x3) ≤ (iN 9999) →
        ((((iN 0) = 0 ∨ (iN 0) = 1)) ∧ K (.int (iN 0), 0) M3))))))))))) :
  G l E d m_Mod_pays 0 [(0, (.ref 24, 41)), (1, (.int x1, 0)), (2, (.int x2, 0)), (3, (.int x3, 0))] [] M K := G.blk 60 _ hd ok_Mod_pays rfl h
def bt_Mod_pay : BtT := [(0, [0, 1, 2, 3], true, [(0, .aload_n 0, 1, 0, 0, 0, m0),
   (1, .iload_n 1, 1, 0, 0, 0, m0),
   (2, .iload_n 2, 1, 0, 0, 0, m0),
   (3, .invokevirtual 320, 3, 0, 0, 1852, m_Mod_areTwo),
   (6, .ifCond .eq 15, 3, 21, 0, 0, m0),
   (9, .nop, 0, 0, 0, 0, m0)]),
  (9, [], false, [(9, .iload_n 3, 1, 0, 0, 0, m0),
   (10, .i2l, 1, 0, 0, 0, m0),
   (11, .lconst 1, 1, 0, 0, 0, m0),
   (12, .ldc2_w 335, 3, 1, 999, 1868, m0),
   (15, .invokestatic 218, 3, 0, 0, 1684, m_Mod_isFrom),
   (18, .ifCond .ne 9, 3, 27, 0, 0, m0),
   (21, .nop, 0, 0, 0, 0, m0)]),
  (21, [], false, [(21, .aload_n 0, 1, 0, 0, 0, m0),
   (22, .iconst 1, 1, 0, 0, 0, m0),
   (23, .invokevirtual 72, 3, 0, 0, 1629, m_Mod_refuse),
   (26, .ireturn, 1, 0, 0, 0, m0)]),
  (27, [], false, [(27, .aload_n 0, 1, 0, 0, 0, m0),
   (28, .iload_n 1, 1, 0, 0, 0, m0),
   (29, .iload_n 2, 1, 0, 0, 0, m0),
   (30, .iload_n 3, 1, 0, 0, 0, m0),
   (31, .invokevirtual 337, 3, 0, 0, 1869, m_Mod_pays),
   (34, .ifCond .eq 16, 3, 50, 0, 0, m0),
   (37, .nop, 0, 0, 0, 0, m0)]),
  (37, [], false, [(37, .aload_n 0, 1, 0, 0, 0, m0),
   (38, .aload_n 0, 1, 0, 0, 0, m0),
   (39, .iload_n 1, 1, 0, 0, 0, m0),
   (40, .iload_n 2, 1, 0, 0, 0, m0),
   (41, .invokevirtual 286, 3, 0, 0, 1780, m_Mod_owes),
   (44, .invokevirtual 76, 3, 0, 0, 1740, m_Mod_gives),
   (47, .goto 9, 3, 56, 0, 0, m0)]),
  (50, [], false, [(50, .aload_n 0, 1, 0, 0, 0, m0),
   (51, .bipush 7, 2, 0, 0, 0, m0),
   (53, .invokevirtual 72, 3, 0, 0, 1629, m_Mod_refuse),
   (56, .nop, 0, 0, 0, 0, m0)]),
  (56, [], false, [(56, .ireturn, 1, 0, 0, 0, m0)])]
theorem ok_Mod_pay : okBt m_Mod_pay bt_Mod_pay = true := by decide +kernel
set_option maxRecDepth 100000 in
theorem b_Mod_pay_0 {l : Launch} {E : EnvT} {d : Nat} {K : AV → Mem → Prop} {M : Mem} {x1 : Int32} {x2 : Int32} {x3 : Int32} (hd : 1 ≤ d)
  (h : CT l E (d - 1) m_Mod_areTwo [(.ref 24, 41), (.int x1, 0), (.int x2, 0)] M (fun v1 M1 =>
   (((toI v1) = 0 →
    CT l E (d - 1) m_Mod_refuse [(.ref 24, 41), (.int (iN 1), 0)] M1 (fun v2 M2 =>
     K (.int (toI v2), 0) M2)) ∧
   (¬ (toI v1) = 0 →
    CT l E (d - 1) m_Mod_isFrom [(.long (x3).toInt64, 0), (.long (lI 1), 0), (.long (lI 999), 0)] M1 (fun v3 M3 =>
     ((¬ (toI v3) = 0 →
      CT l E (d - 1) m_Mod_pays [(.ref 24, 41), (.int x1, 0), (.int x2, 0), (.int x3, 0)] M3 (fun v4 M4 =>
       (((toI v4) = 0 →
        CT l E (d - 1) m_Mod_refuse [(.ref 24, 41), (.int (iN 7), 0)] M4 (fun v5 M5 =>
         K (.int (toI v5), 0) M5)) ∧
       (¬ (toI v4) = 0 →
        CT l E (d - 1) m_Mod_owes [(.ref 24, 41), (.int x1, 0), (.int x2, 0)] M4 (fun v6 M6 =>
         CT l E (d - 1) m_Mod_gives [(.ref 24, 41), (.int (toI v6), 0)] M6 (fun v7 M7 =>
          K (.int (toI v7), 0) M7)))))) ∧
     ((toI v3) = 0 →
      CT l E (d - 1) m_Mod_refuse [(.ref 24, 41), (.int (iN 1), 0)] M3 (fun v8 M8 =>
       K (.int (toI v8), 0) M8)))))))) :
  G l E d m_Mod_pay 0 [(0, (.ref 24, 41)), (1, (.int x1, 0)), (2, (.int x2, 0)), (3, (.int x3, 0))] [] M K := G.blk 60 _ hd ok_Mod_pay rfl h
def bt_Mod_chordOf : BtT := [(0, [0, 1, 2], true, [(0, .aload_n 0, 1, 0, 0, 0, m0),
   (1, .iload_n 1, 1, 0, 0, 0, m0),
   (2, .iload_n 2, 1, 0, 0, 0, m0),
   (3, .invokevirtual 283, 3, 0, 0, 1784, m_Mod_noted),
   (6, .aload_n 0, 1, 0, 0, 0, m0),
   (7, .iload_n 2, 1, 0, 0, 0, m0),
   (8, .iload_n 1, 1, 0, 0, 0, m0),
   (9, .invokevirtual 283, 3, 0, 0, 1784, m_Mod_noted),
   (12, .invokestatic 127, 3, 0, 0, 1628, m_Math_min),
   (15, .istore_n 3, 1, 0, 0, 0, m0),
   (16, .iload_n 3, 1, 0, 0, 0, m0),
   (17, .ifCond .ne 5, 3, 22, 0, 0, m0),
   (20, .nop, 0, 0, 0, 0, m0)]),
  (20, [], false, [(20, .iconst 0, 1, 0, 0, 0, m0),
   (21, .ireturn, 1, 0, 0, 0, m0)]),
  (22, [], false, [(22, .aload_n 0, 1, 0, 0, 0, m0),
   (23, .iload_n 1, 1, 0, 0, 0, m0),
   (24, .iload_n 2, 1, 0, 0, 0, m0),
   (25, .iload_n 3, 1, 0, 0, 0, m0),
   (26, .invokevirtual 326, 3, 0, 0, 1877, m_Mod_goesOff),
   (29, .aload_n 0, 1, 0, 0, 0, m0),
   (30, .iload_n 2, 1, 0, 0, 0, m0),
   (31, .iload_n 1, 1, 0, 0, 0, m0),
   (32, .iload_n 3, 1, 0, 0, 0, m0),
   (33, .invokevirtual 326, 3, 0, 0, 1877, m_Mod_goesOff),
   (36, .aload_n 0, 1, 0, 0, 0, m0),
   (37, .invokevirtual 332, 3, 0, 0, 1881, m_Mod_fills),
   (40, .iload_n 3, 1, 0, 0, 0, m0),
   (41, .ireturn, 1, 0, 0, 0, m0)])]
theorem ok_Mod_chordOf : okBt m_Mod_chordOf bt_Mod_chordOf = true := by decide +kernel
set_option maxRecDepth 100000 in
theorem b_Mod_chordOf_0 {l : Launch} {E : EnvT} {d : Nat} {K : AV → Mem → Prop} {M : Mem} {x1 : Int32} {x2 : Int32} (hd : 1 ≤ d)
  (h : CT l E (d - 1) m_Mod_noted [(.ref 24, 41), (.int x1, 0), (.int x2, 0)] M (fun v1 M1 =>
   CT l E (d - 1) m_Mod_noted [(.ref 24, 41), (.int x2, 0), (.int x1, 0)] M1 (fun v2 M2 =>
    CT l E (d - 1) m_Math_min [(.int (toI v1), 0), (.int (toI v2), 0)] M2 (fun v3 M3 =>
     ((¬ (toI v3) = 0 →
      CT l E (d - 1) m_Mod_goesOff [(.ref 24, 41), (.int x1, 0), (.int x2, 0), (.int (toI v3), 0)] M3 (fun v4 M4 =>
       CT l E (d - 1) m_Mod_goesOff [(.ref 24, 41), (.int x2, 0), (.int x1, 0), (.int (toI v3), 0)] M4 (fun v5 M5 =>
        CT l E (d - 1) m_Mod_fills [(.ref 24, 41)] M5 (fun v6 M6 =>
         K (.int (toI v3), 0) M6)))) ∧
     ((toI v3) = 0 →
      K (.int (iN 0), 0) M3)))))) :
  G l E d m_Mod_chordOf 0 [(0, (.ref 24, 41)), (1, (.int x1, 0)), (2, (.int x2, 0))] [] M K := G.blk 60 _ hd ok_Mod_chordOf rfl h
def bt_Mod_chord : BtT := [(0, [0, 1, 2], true, [(0, .aload_n 0, 1, 0, 0, 0, m0),
   (1, .iload_n 1, 1, 0, 0, 0, m0),
   (2, .iload_n 2, 1, 0, 0, 0, m0),
   (3, .invokevirtual 320, 3, 0, 0, 1852, m_Mod_areTwo),
   (6, .ifCond .ne 9, 3, 15, 0, 0, m0),
   (9, .nop, 0, 0, 0, 0, m0)]),
  (9, [], false, [(9, .aload_n 0, 1, 0, 0, 0, m0),
   (10, .iconst 1, 1, 0, 0, 0, m0),
   (11, .invokevirtual 72, 3, 0, 0, 1629, m_Mod_refuse),
   (14, .ireturn, 1, 0, 0, 0, m0)]),
  (15, [], false, [(15, .aload_n 0, 1, 0, 0, 0, m0),
   (16, .iload_n 1, 1, 0, 0, 0, m0),
   (17, .iload_n 2, 1, 0, 0, 0, m0),
   (18, .invokevirtual 340, 3, 0, 0, 1893, m_Mod_chordOf),
   (21, .istore_n 3, 1, 0, 0, 0, m0),
   (22, .iload_n 3, 1, 0, 0, 0, m0),
   (23, .ifCond .ne 12, 3, 35, 0, 0, m0),
   (26, .nop, 0, 0, 0, 0, m0)]),
  (26, [], false, [(26, .aload_n 0, 1, 0, 0, 0, m0),
   (27, .bipush 7, 2, 0, 0, 0, m0),
   (29, .invokevirtual 72, 3, 0, 0, 1629, m_Mod_refuse),
   (32, .goto 8, 3, 40, 0, 0, m0)]),
  (35, [], false, [(35, .aload_n 0, 1, 0, 0, 0, m0),
   (36, .iload_n 3, 1, 0, 0, 0, m0),
   (37, .invokevirtual 76, 3, 0, 0, 1740, m_Mod_gives),
   (40, .nop, 0, 0, 0, 0, m0)]),
  (40, [], false, [(40, .ireturn, 1, 0, 0, 0, m0)])]
theorem ok_Mod_chord : okBt m_Mod_chord bt_Mod_chord = true := by decide +kernel
set_option maxRecDepth 100000 in
theorem b_Mod_chord_0 {l : Launch} {E : EnvT} {d : Nat} {K : AV → Mem → Prop} {M : Mem} {x1 : Int32} {x2 : Int32} (hd : 1 ≤ d)
  (h : CT l E (d - 1) m_Mod_areTwo [(.ref 24, 41), (.int x1, 0), (.int x2, 0)] M (fun v1 M1 =>
   ((¬ (toI v1) = 0 →
    CT l E (d - 1) m_Mod_chordOf [(.ref 24, 41), (.int x1, 0), (.int x2, 0)] M1 (fun v2 M2 =>
     ((¬ (toI v2) = 0 →
      CT l E (d - 1) m_Mod_gives [(.ref 24, 41), (.int (toI v2), 0)] M2 (fun v3 M3 =>
       K (.int (toI v3), 0) M3)) ∧
     ((toI v2) = 0 →
      CT l E (d - 1) m_Mod_refuse [(.ref 24, 41), (.int (iN 7), 0)] M2 (fun v4 M4 =>
       K (.int (toI v4), 0) M4))))) ∧
   ((toI v1) = 0 →
    CT l E (d - 1) m_Mod_refuse [(.ref 24, 41), (.int (iN 1), 0)] M1 (fun v5 M5 =>
     K (.int (toI v5), 0) M5))))) :
  G l E d m_Mod_chord 0 [(0, (.ref 24, 41)), (1, (.int x1, 0)), (2, (.int x2, 0))] [] M K := G.blk 60 _ hd ok_Mod_chord rfl h
def bt_Mod_grown : BtT := [(0, [0, 1], true, [(0, .iload_n 1, 1, 0, 0, 0, m0),
   (1, .ifCond .eq 12, 3, 13, 0, 0, m0),
   (4, .nop, 0, 0, 0, 0, m0)]),
  (4, [], false, [(4, .aload_n 0, 1, 0, 0, 0, m0),
   (5, .getfield 7, 3, 0, 11, 1447, m0),
   (8, .iconst 1, 1, 0, 0, 0, m0),
   (9, .iaload, 1, 0, 0, 0, m0),
   (10, .ifCond .ne 7, 3, 17, 0, 0, m0),
   (13, .nop, 0, 0, 0, 0, m0)]),
  (13, [], false, [(13, .iload_n 1, 1, 0, 0, 0, m0),
   (14, .goto 26, 3, 40, 0, 0, m0)]),
  (17, [], false, [(17, .sipush 999, 3, 0, 0, 0, m0),
   (20, .iload_n 1, 1, 0, 0, 0, m0),
   (21, .iconst 1, 1, 0, 0, 0, m0),
   (22, .iload_n 1, 1, 0, 0, 0, m0),
   (23, .aload_n 0, 1, 0, 0, 0, m0),
   (24, .getfield 7, 3, 0, 11, 1447, m0),
   (27, .iconst 1, 1, 0, 0, 0, m0),
   (28, .iaload, 1, 0, 0, 0, m0),
   (29, .imul, 1, 0, 0, 0, m0),
   (30, .bipush 100, 2, 0, 0, 0, m0),
   (32, .idiv, 1, 0, 0, 0, m0),
   (33, .invokestatic 343, 3, 0, 0, 1909, m_Math_max),
   (36, .iadd, 1, 0, 0, 0, m0),
   (37, .invokestatic 127, 3, 0, 0, 1628, m_Math_min),
   (40, .nop, 0, 0, 0, 0, m0)]),
  (40, [], false, [(40, .ireturn, 1, 0, 0, 0, m0)])]
theorem ok_Mod_grown : okBt m_Mod_grown bt_Mod_grown = true := by decide +kernel
set_option maxRecDepth 100000 in
theorem b_Mod_grown_0 {l : Launch} {E : EnvT} {d : Nat} {K : AV → Mem → Prop} {M : Mem} {x1 : Int32} (hd : 1 ≤ d)
  (h : ((x1 = 0 →
   K (.int x1, 0) M) ∧
  (¬ x1 = 0 →
   (vp_in (iN 1) 3612 ∧ ((¬ (iN (M 24 1 ((iN 1)).toNatClampNeg)) = 0 →
    (vp_in (iN 1) 3612 ∧ ¬ (iN 100) = 0 ∧ CT l E (d - 1) m_Math_max [(.int (iN 1), 0), (.int ((x1 * (iN (M 24 1 ((iN 1)).toNatClampNeg))) / (iN 100)), 0)] M (fun v1 M1 =>
     CT l E (d - 1) m_Math_min [(.int (iN 999), 0), (.int (x1 + (toI v1)), 0)] M1 (fun v2 M2 =>
      K (.int (toI v2), 0) M2)))) ∧
   ((iN (M 24 1 ((iN 1)).toNatClampNeg)) = 0 →
    K (.int x1, 0) M)))))) :
  G l E d m_Mod_grown 0 [(0, (.ref 24, 41)), (1, (.int x1, 0))] [] M K := G.blk 60 _ hd ok_Mod_grown rfl h
def bt_Mod_sundays : BtT := [(0, [0], true, [(0, .aload_n 0, 1, 0, 0, 0, m0),
   (1, .getfield 7, 3, 0, 11, 1447, m0),
   (4, .iconst 2, 1, 0, 0, 0, m0),
   (5, .iaload, 1, 0, 0, 0, m0),
   (6, .sipush 9999, 3, 0, 0, 0, m0),
   (9, .if_icmp .ne 5, 3, 14, 0, 0, m0),
   (12, .nop, 0, 0, 0, 0, m0)]),
  (12, [], false, [(12, .iconst 0, 1, 0, 0, 0, m0),
   (13, .ireturn, 1, 0, 0, 0, m0)]),
  (14, [], false, [(14, .aload_n 0, 1, 0, 0, 0, m0),
   (15, .getfield 7, 3, 0, 11, 1447, m0),
   (18, .iconst 2, 1, 0, 0, 0, m0),
   (19, .dup2, 1, 0, 0, 0, m0),
   (20, .iaload, 1, 0, 0, 0, m0),
   (21, .iconst 1, 1, 0, 0, 0, m0),
   (22, .iadd, 1, 0, 0, 0, m0),
   (23, .iastore, 1, 0, 0, 0, m0),
   (24, .iconst 0, 1, 0, 0, 0, m0),
   (25, .istore_n 1, 1, 0, 0, 0, m0),
   (26, .nop, 0, 0, 0, 0, m0)]),
  (26, [0, 1], true, [(26, .iload_n 1, 1, 0, 0, 0, m0),
   (27, .aload_n 0, 1, 0, 0, 0, m0),
   (28, .getfield 7, 3, 0, 11, 1447, m0),
   (31, .iconst 0, 1, 0, 0, 0, m0),
   (32, .iaload, 1, 0, 0, 0, m0),
   (33, .if_icmp .ge 58, 3, 91, 0, 0, m0),
   (36, .nop, 0, 0, 0, 0, m0)]),
  (36, [], false, [(36, .iconst 0, 1, 0, 0, 0, m0),
   (37, .istore_n 2, 1, 0, 0, 0, m0),
   (38, .nop, 0, 0, 0, 0, m0)]),
  (38, [0, 1, 2], true, [(38, .iload_n 2, 1, 0, 0, 0, m0),
   (39, .aload_n 0, 1, 0, 0, 0, m0),
   (40, .iload_n 1, 1, 0, 0, 0, m0),
   (41, .iconst 1, 1, 0, 0, 0, m0),
   (42, .invokevirtual 171, 3, 0, 0, 1708, m_Mod_of),
   (45, .if_icmp .ge 40, 3, 85, 0, 0, m0),
   (48, .nop, 0, 0, 0, 0, m0)]),
  (48, [], false, [(48, .aload_n 0, 1, 0, 0, 0, m0),
   (49, .iload_n 1, 1, 0, 0, 0, m0),
   (50, .iconst 4, 1, 0, 0, 0, m0),
   (51, .invokevirtual 171, 3, 0, 0, 1708, m_Mod_of),
   (54, .ifCond .ne 25, 3, 79, 0, 0, m0),
   (57, .nop, 0, 0, 0, 0, m0)]),
  (57, [], false, [(57, .aload_n 0, 1, 0, 0, 0, m0),
   (58, .iload_n 1, 1, 0, 0, 0, m0),
   (59, .iload_n 2, 1, 0, 0, 0, m0),
   (60, .aload_n 0, 1, 0, 0, 0, m0),
   (61, .iload_n 1, 1, 0, 0, 0, m0),
   (62, .iload_n 2, 1, 0, 0, 0, m0),
   (63, .invokevirtual 174, 3, 0, 0, 1712, m_Mod_holderOf),
   (66, .aload_n 0, 1, 0, 0, 0, m0),
   (67, .aload_n 0, 1, 0, 0, 0, m0),
   (68, .iload_n 1, 1, 0, 0, 0, m0),
   (69, .iload_n 2, 1, 0, 0, 0, m0),
   (70, .invokevirtual 180, 3, 0, 0, 1716, m_Mod_debtAt),
   (73, .invokevirtual 346, 3, 0, 0, 1905, m_Mod_grown),
   (76, .invokevirtual 183, 3, 0, 0, 1720, m_Mod_stands),
   (79, .nop, 0, 0, 0, 0, m0)]),
  (79, [], false, [(79, .iinc 2 1, 3, 0, 0, 0, m0),
   (82, .goto (-44), 3, 38, 0, 0, m0)]),
  (85, [], false, [(85, .iinc 1 1, 3, 0, 0, 0, m0),
   (88, .goto (-62), 3, 26, 0, 0, m0)]),
  (91, [], false, [(91, .iconst 1, 1, 0, 0, 0, m0),
   (92, .ireturn, 1, 0, 0, 0, m0)])]
theorem ok_Mod_sundays : okBt m_Mod_sundays bt_Mod_sundays = true := by decide +kernel
set_option maxRecDepth 100000 in
theorem b_Mod_sundays_0 {l : Launch} {E : EnvT} {d : Nat} {K : AV → Mem → Prop} {M : Mem}  (hd : 1 ≤ d)
  (h : (vp_in (iN 2) 3612 ∧ ((¬ (iN (M 24 1 ((iN 2)).toNatClampNeg)) = (iN 9999) →
   (vp_in (iN 2) 3612 ∧ vp_in (iN 2) 3612 ∧ G l E d m_Mod_sundays 26 [(0, (.ref 24, 41)), (1, (.int (iN 0), 0))] [] (upd3 M 24 1 ((iN 2)).toNatClampNeg (((iN (M 24 1 ((iN 2)).toNatClampNeg)) + (iN 1))).toInt) K)) ∧
  ((iN (M 24 1 ((iN 2)).toNatClampNeg)) = (iN 9999) →
   ((((iN 0) = 0 ∨ (iN 0) = 1)) ∧ K (.int (iN 0), 0) M))))) :
  G l E d m_Mod_sundays 0 [(0, (.ref 24, 41))] [] M K := G.blk 60 _ hd ok_Mod_sundays rfl h
set_option maxRecDepth 100000 in
theorem b_Mod_sundays_26 {l : Launch} {E : EnvT} {d : Nat} {K : AV → Mem → Prop} {M : Mem} {x1 : Int32} (hd : 1 ≤ d)
  (h : (vp_in (iN 0) 3612 ∧ (((iN (M 24 1 ((iN 0)).toNatClampNeg)) ≤ x1 →
   ((((iN 1) = 0 ∨ (iN 1) = 1)) ∧ K (.int (iN 1), 0) M)) ∧
  (¬ (iN (M 24 1 ((iN 0)).toNatClampNeg)) ≤ x1 →
   G l E d m_Mod_sundays 38 [(0, (.ref 24, 41)), (1, (.int x1, 0)), (2, (.int (iN 0), 0))] [] M K)))) :
  G l E d m_Mod_sundays 26 [(0, (.ref 24, 41)), (1, (.int x1, 0))] [] M K := G.blk 60 _ hd ok_Mod_sundays rfl h
set_option maxRecDepth 100000 in
theorem b_Mod_sundays_38 {l : Launch} {E : EnvT} {d : Nat} {K : AV → Mem → Prop} {M : Mem} {x1 : Int32} {x2 : Int32} (hd : 1 ≤ d)
  (h : CT l E (d - 1) m_Mod_of [(.ref 24, 41), (.int x1, 0), (.int (iN 1), 0)] M (fun v1 M1 =>
   (((toI v1) ≤ x2 →
    G l E d m_Mod_sundays 26 [(0, (.ref 24, 41)), (1, (.int (x1 + iN 1), 0))] [] M1 K) ∧
   (¬ (toI v1) ≤ x2 →
    CT l E (d - 1) m_Mod_of [(.ref 24, 41), (.int x1, 0), (.int (iN 4), 0)] M1 (fun v2 M2 =>
     ((¬ (toI v2) = 0 →
      G l E d m_Mod_sundays 38 [(0, (.ref 24, 41)), (1, (.int x1, 0)), (2, (.int (x2 + iN 1), 0))] [] M2 K) ∧
     ((toI v2) = 0 →
      CT l E (d - 1) m_Mod_holderOf [(.ref 24, 41), (.int x1, 0), (.int x2, 0)] M2 (fun v3 M3 =>
       CT l E (d - 1) m_Mod_debtAt [(.ref 24, 41), (.int x1, 0), (.int x2, 0)] M3 (fun v4 M4 =>
        CT l E (d - 1) m_Mod_grown [(.ref 24, 41), (.int (toI v4), 0)] M4 (fun v5 M5 =>
         CT l E (d - 1) m_Mod_stands [(.ref 24, 41), (.int x1, 0), (.int x2, 0), (.int (toI v3), 0), (.int (toI v5), 0)] M5 (fun v6 M6 =>
          G l E d m_Mod_sundays 38 [(0, (.ref 24, 41)), (1, (.int x1, 0)), (2, (.int (x2 + iN 1), 0))] [] M6 K))))))))))) :
  G l E d m_Mod_sundays 38 [(0, (.ref 24, 41)), (1, (.int x1, 0)), (2, (.int x2, 0))] [] M K := G.blk 60 _ hd ok_Mod_sundays rfl h
def bt_Mod_sunday : BtT := [(0, [0], true, [(0, .aload_n 0, 1, 0, 0, 0, m0),
   (1, .invokevirtual 349, 3, 0, 0, 1901, m_Mod_sundays),
   (4, .ifCond .eq 14, 3, 18, 0, 0, m0),
   (7, .nop, 0, 0, 0, 0, m0)]),
  (7, [], false, [(7, .aload_n 0, 1, 0, 0, 0, m0),
   (8, .aload_n 0, 1, 0, 0, 0, m0),
   (9, .invokevirtual 301, 3, 0, 0, 1772, m_Mod_allOwed),
   (12, .invokevirtual 76, 3, 0, 0, 1740, m_Mod_gives),
   (15, .goto 8, 3, 23, 0, 0, m0)]),
  (18, [], false, [(18, .aload_n 0, 1, 0, 0, 0, m0),
   (19, .iconst 4, 1, 0, 0, 0, m0),
   (20, .invokevirtual 72, 3, 0, 0, 1629, m_Mod_refuse),
   (23, .nop, 0, 0, 0, 0, m0)]),
  (23, [], false, [(23, .ireturn, 1, 0, 0, 0, m0)])]
theorem ok_Mod_sunday : okBt m_Mod_sunday bt_Mod_sunday = true := by decide +kernel
set_option maxRecDepth 100000 in
theorem b_Mod_sunday_0 {l : Launch} {E : EnvT} {d : Nat} {K : AV → Mem → Prop} {M : Mem}  (hd : 1 ≤ d)
  (h : CT l E (d - 1) m_Mod_sundays [(.ref 24, 41)] M (fun v1 M1 =>
   (((toI v1) = 0 →
    CT l E (d - 1) m_Mod_refuse [(.ref 24, 41), (.int (iN 4), 0)] M1 (fun v2 M2 =>
     K (.int (toI v2), 0) M2)) ∧
   (¬ (toI v1) = 0 →
    CT l E (d - 1) m_Mod_allOwed [(.ref 24, 41)] M1 (fun v3 M3 =>
     CT l E (d - 1) m_Mod_gives [(.ref 24, 41), (.int (toI v3), 0)] M3 (fun v4 M4 =>
      K (.int (toI v4), 0) M4)))))) :
  G l E d m_Mod_sunday 0 [(0, (.ref 24, 41))] [] M K := G.blk 60 _ hd ok_Mod_sunday rfl h
def bt_Mod_colds : BtT := [(0, [0, 1], true, [(0, .iconst 0, 1, 0, 0, 0, m0),
   (1, .istore_n 2, 1, 0, 0, 0, m0),
   (2, .iconst 0, 1, 0, 0, 0, m0),
   (3, .istore_n 3, 1, 0, 0, 0, m0),
   (4, .nop, 0, 0, 0, 0, m0)]),
  (4, [0, 1, 2, 3], true, [(4, .iload_n 3, 1, 0, 0, 0, m0),
   (5, .aload_n 0, 1, 0, 0, 0, m0),
   (6, .getfield 7, 3, 0, 11, 1447, m0),
   (9, .iconst 0, 1, 0, 0, 0, m0),
   (10, .iaload, 1, 0, 0, 0, m0),
   (11, .if_icmp .ge 65, 3, 76, 0, 0, m0),
   (14, .nop, 0, 0, 0, 0, m0)]),
  (14, [], false, [(14, .aload_n 0, 1, 0, 0, 0, m0),
   (15, .iload_n 1, 1, 0, 0, 0, m0),
   (16, .iload_n 3, 1, 0, 0, 0, m0),
   (17, .invokevirtual 283, 3, 0, 0, 1784, m_Mod_noted),
   (20, .aload_n 0, 1, 0, 0, 0, m0),
   (21, .iload_n 1, 1, 0, 0, 0, m0),
   (22, .iconst 0, 1, 0, 0, 0, m0),
   (23, .invokevirtual 171, 3, 0, 0, 1708, m_Mod_of),
   (26, .sipush 9999, 3, 0, 0, 0, m0),
   (29, .aload_n 0, 1, 0, 0, 0, m0),
   (30, .iload_n 3, 1, 0, 0, 0, m0),
   (31, .iconst 0, 1, 0, 0, 0, m0),
   (32, .invokevirtual 171, 3, 0, 0, 1708, m_Mod_of),
   (35, .isub, 1, 0, 0, 0, m0),
   (36, .invokestatic 127, 3, 0, 0, 1628, m_Math_min),
   (39, .invokestatic 127, 3, 0, 0, 1628, m_Math_min),
   (42, .istore 4, 2, 0, 0, 0, m0),
   (44, .iload_n 3, 1, 0, 0, 0, m0),
   (45, .iload_n 1, 1, 0, 0, 0, m0),
   (46, .if_icmp .eq 24, 3, 70, 0, 0, m0),
   (49, .nop, 0, 0, 0, 0, m0)]),
  (49, [], false, [(49, .iload 4, 2, 0, 0, 0, m0),
   (51, .ifCond .ne 6, 3, 57, 0, 0, m0),
   (54, .nop, 0, 0, 0, 0, m0)]),
  (54, [], false, [(54, .goto 16, 3, 70, 0, 0, m0)]),
  (57, [], false, [(57, .aload_n 0, 1, 0, 0, 0, m0),
   (58, .iload_n 1, 1, 0, 0, 0, m0),
   (59, .iload_n 3, 1, 0, 0, 0, m0),
   (60, .iload 4, 2, 0, 0, 0, m0),
   (62, .invokevirtual 329, 3, 0, 0, 1873, m_Mod_paysSome),
   (65, .iload_n 2, 1, 0, 0, 0, m0),
   (66, .iload 4, 2, 0, 0, 0, m0),
   (68, .iadd, 1, 0, 0, 0, m0),
   (69, .istore_n 2, 1, 0, 0, 0, m0),
   (70, .nop, 0, 0, 0, 0, m0)]),
  (70, [], false, [(70, .iinc 3 1, 3, 0, 0, 0, m0),
   (73, .goto (-69), 3, 4, 0, 0, m0)]),
  (76, [], false, [(76, .aload_n 0, 1, 0, 0, 0, m0),
   (77, .getfield 7, 3, 0, 11, 1447, m0),
   (80, .iload_n 1, 1, 0, 0, 0, m0),
   (81, .invokestatic 168, 3, 0, 0, 1648, m_Mod_singerRow),
   (84, .iconst 3, 1, 0, 0, 0, m0),
   (85, .iadd, 1, 0, 0, 0, m0),
   (86, .iconst 1, 1, 0, 0, 0, m0),
   (87, .iastore, 1, 0, 0, 0, m0),
   (88, .aload_n 0, 1, 0, 0, 0, m0),
   (89, .invokevirtual 332, 3, 0, 0, 1881, m_Mod_fills),
   (92, .iload_n 2, 1, 0, 0, 0, m0),
   (93, .ireturn, 1, 0, 0, 0, m0)])]
theorem ok_Mod_colds : okBt m_Mod_colds bt_Mod_colds = true := by decide +kernel
set_option maxRecDepth 100000 in
theorem b_Mod_colds_0 {l : Launch} {E : EnvT} {d : Nat} {K : AV → Mem → Prop} {M : Mem} {x1 : Int32} (hd : 1 ≤ d)
  (h : G l E d m_Mod_colds 4 [(0, (.ref 24, 41)), (1, (.int x1, 0)), (2, (.int (iN 0), 0)), (3, (.int (iN 0), 0))] [] M K) :
  G l E d m_Mod_colds 0 [(0, (.ref 24, 41)), (1, (.int x1, 0))] [] M K := G.blk 60 _ hd ok_Mod_colds rfl h
set_option maxRecDepth 100000 in
theorem b_Mod_colds_4 {l : Launch} {E : EnvT} {d : Nat} {K : AV → Mem → Prop} {M : Mem} {x1 : Int32} {x2 : Int32} {x3 : Int32} (hd : 1 ≤ d)
  (h : (vp_in (iN 0) 3612 ∧ (((iN (M 24 1 ((iN 0)).toNatClampNeg)) ≤ x3 →
   CT l E (d - 1) m_Mod_singerRow [(.int x1, 0)] M (fun v1 M1 =>
    (vp_in ((toI v1) + (iN 3)) 3612 ∧ CT l E (d - 1) m_Mod_fills [(.ref 24, 41)] (upd3 M1 24 1 (((toI v1) + (iN 3))).toNatClampNeg ((iN 1)).toInt) (fun v2 M2 =>
     K (.int x2, 0) M2)))) ∧
  (¬ (iN (M 24 1 ((iN 0)).toNatClampNeg)) ≤ x3 →
   CT l E (d - 1) m_Mod_noted [(.ref 24, 41), (.int x1, 0), (.int x3, 0)] M (fun v3 M3 =>
    CT l E (d - 1) m_Mod_of [(.ref 24, 41), (.int x1, 0), (.int (iN 0), 0)] M3 (fun v4 M4 =>
     CT l E (d - 1) m_Mod_of [(.ref 24, 41), (.int x3, 0), (.int (iN 0), 0)] M4 (fun v5 M5 =>
      CT l E (d - 1) m_Math_min [(.int (toI v4), 0), (.int ((iN 9999) - (toI v5)), 0)] M5 (fun v6 M6 =>
       CT l E (d - 1) m_Math_min [(.int (toI v3), 0), (.int (toI v6), 0)] M6 (fun v7 M7 =>
        ((x3 = x1 →
         G l E d m_Mod_colds 4 [(0, (.ref 24, 41)), (1, (.int x1, 0)), (2, (.int x2, 0)), (3, (.int (x3 + iN 1), 0))] [] M7 K) ∧
        (¬ x3 = x1 →
         ((¬ (toI v7) = 0 →
          CT l E (d - 1) m_Mod_paysSome [(.ref 24, 41), (.int x1, 0), (.int x3, 0), (.int (toI v7), 0)] M7 (fun v8 M8 =>
           G l E d m_Mod_colds 4 [(0, (.ref 24, 41)), (1, (.int x1, 0)), (2, (.int (x2 + (toI v7)), 0)), (3, (.int (x3 + iN 1), 0))] [] M8 K)) ∧
         ((toI v7) = 0 →
          G l E d m_Mod_colds 4 [(0, (.ref 24, 41)), (1, (.int x1, 0)), (2, (.int x2, 0)), (3, (.int (x3 + iN 1), 0))] [] M7 K))))))))))))) :
  G l E d m_Mod_colds 4 [(0, (.ref 24, 41)), (1, (.int x1, 0)), (2, (.int x2, 0)), (3, (.int x3, 0))] [] M K := G.blk 60 _ hd ok_Mod_colds rfl h
def bt_Mod_cold : BtT := [(0, [0, 1], true, [(0, .aload_n 0, 1, 0, 0, 0, m0),
   (1, .iload_n 1, 1, 0, 0, 0, m0),
   (2, .invokevirtual 280, 3, 0, 0, 1832, m_Mod_isLiving),
   (5, .ifCond .ne 11, 3, 16, 0, 0, m0),
   (8, .nop, 0, 0, 0, 0, m0)]),
  (8, [], false, [(8, .aload_n 0, 1, 0, 0, 0, m0),
   (9, .iconst 1, 1, 0, 0, 0, m0),
   (10, .invokevirtual 72, 3, 0, 0, 1629, m_Mod_refuse),
   (13, .goto 31, 3, 44, 0, 0, m0)]),
  (16, [], false, [(16, .aload_n 0, 1, 0, 0, 0, m0),
   (17, .iload_n 1, 1, 0, 0, 0, m0),
   (18, .iconst 3, 1, 0, 0, 0, m0),
   (19, .invokevirtual 171, 3, 0, 0, 1708, m_Mod_of),
   (22, .iconst 1, 1, 0, 0, 0, m0),
   (23, .if_icmp .ne 12, 3, 35, 0, 0, m0),
   (26, .nop, 0, 0, 0, 0, m0)]),
  (26, [], false, [(26, .aload_n 0, 1, 0, 0, 0, m0),
   (27, .bipush 7, 2, 0, 0, 0, m0),
   (29, .invokevirtual 72, 3, 0, 0, 1629, m_Mod_refuse),
   (32, .goto 12, 3, 44, 0, 0, m0)]),
  (35, [], false, [(35, .aload_n 0, 1, 0, 0, 0, m0),
   (36, .aload_n 0, 1, 0, 0, 0, m0),
   (37, .iload_n 1, 1, 0, 0, 0, m0),
   (38, .invokevirtual 352, 3, 0, 0, 1914, m_Mod_colds),
   (41, .invokevirtual 76, 3, 0, 0, 1740, m_Mod_gives),
   (44, .nop, 0, 0, 0, 0, m0)]),
  (44, [], false, [(44, .ireturn, 1, 0, 0, 0, m0)])]
theorem ok_Mod_cold : okBt m_Mod_cold bt_Mod_cold = true := by decide +kernel
set_option maxRecDepth 100000 in
theorem b_Mod_cold_0 {l : Launch} {E : EnvT} {d : Nat} {K : AV → Mem → Prop} {M : Mem} {x1 : Int32} (hd : 1 ≤ d)
  (h : CT l E (d - 1) m_Mod_isLiving [(.ref 24, 41), (.int x1, 0)] M (fun v1 M1 =>
   ((¬ (toI v1) = 0 →
    CT l E (d - 1) m_Mod_of [(.ref 24, 41), (.int x1, 0), (.int (iN 3), 0)] M1 (fun v2 M2 =>
     ((¬ (toI v2) = (iN 1) →
      CT l E (d - 1) m_Mod_colds [(.ref 24, 41), (.int x1, 0)] M2 (fun v3 M3 =>
       CT l E (d - 1) m_Mod_gives [(.ref 24, 41), (.int (toI v3), 0)] M3 (fun v4 M4 =>
        K (.int (toI v4), 0) M4))) ∧
     ((toI v2) = (iN 1) →
      CT l E (d - 1) m_Mod_refuse [(.ref 24, 41), (.int (iN 7), 0)] M2 (fun v5 M5 =>
       K (.int (toI v5), 0) M5))))) ∧
   ((toI v1) = 0 →
    CT l E (d - 1) m_Mod_refuse [(.ref 24, 41), (.int (iN 1), 0)] M1 (fun v6 M6 =>
     K (.int (toI v6), 0) M6))))) :
  G l E d m_Mod_cold 0 [(0, (.ref 24, 41)), (1, (.int x1, 0))] [] M K := G.blk 60 _ hd ok_Mod_cold rfl h
def bt_Mod_bits : BtT := [(0, [0], true, [(0, .iconst 0, 1, 0, 0, 0, m0),
   (1, .istore_n 1, 1, 0, 0, 0, m0),
   (2, .iload_n 0, 1, 0, 0, 0, m0),
   (3, .istore_n 2, 1, 0, 0, 0, m0),
   (4, .nop, 0, 0, 0, 0, m0)]),
  (4, [1, 2], true, [(4, .iload_n 2, 1, 0, 0, 0, m0),
   (5, .ifCond .eq 15, 3, 20, 0, 0, m0),
   (8, .nop, 0, 0, 0, 0, m0)]),
  (8, [], false, [(8, .iinc 1 1, 3, 0, 0, 0, m0),
   (11, .iload_n 2, 1, 0, 0, 0, m0),
   (12, .iload_n 2, 1, 0, 0, 0, m0),
   (13, .iconst 1, 1, 0, 0, 0, m0),
   (14, .isub, 1, 0, 0, 0, m0),
   (15, .iand, 1, 0, 0, 0, m0),
   (16, .istore_n 2, 1, 0, 0, 0, m0),
   (17, .goto (-13), 3, 4, 0, 0, m0)]),
  (20, [], false, [(20, .iload_n 1, 1, 0, 0, 0, m0),
   (21, .ireturn, 1, 0, 0, 0, m0)])]
theorem ok_Mod_bits : okBt m_Mod_bits bt_Mod_bits = true := by decide +kernel
set_option maxRecDepth 100000 in
theorem b_Mod_bits_0 {l : Launch} {E : EnvT} {d : Nat} {K : AV → Mem → Prop} {M : Mem} {x0 : Int32} (hd : 1 ≤ d)
  (h : G l E d m_Mod_bits 4 [(1, (.int (iN 0), 0)), (2, (.int x0, 0))] [] M K) :
  G l E d m_Mod_bits 0 [(0, (.int x0, 0))] [] M K := G.blk 60 _ hd ok_Mod_bits rfl h
set_option maxRecDepth 100000 in
theorem b_Mod_bits_4 {l : Launch} {E : EnvT} {d : Nat} {K : AV → Mem → Prop} {M : Mem} {x1 : Int32} {x2 : Int32} (hd : 1 ≤ d)
  (h : ((x2 = 0 →
   K (.int x1, 0) M) ∧
  (¬ x2 = 0 →
   G l E d m_Mod_bits 4 [(1, (.int (x1 + iN 1), 0)), (2, (.int (x2 &&& (x2 - (iN 1))), 0))] [] M K))) :
  G l E d m_Mod_bits 4 [(1, (.int x1, 0)), (2, (.int x2, 0))] [] M K := G.blk 60 _ hd ok_Mod_bits rfl h
def bt_Mod_well : BtT := [(0, [0, 1], true, [(0, .aload_n 0, 1, 0, 0, 0, m0),
   (1, .iload_n 1, 1, 0, 0, 0, m0),
   (2, .invokevirtual 280, 3, 0, 0, 1832, m_Mod_isLiving),
   (5, .ifCond .ne 9, 3, 14, 0, 0, m0),
   (8, .nop, 0, 0, 0, 0, m0)]),
  (8, [], false, [(8, .aload_n 0, 1, 0, 0, 0, m0),
   (9, .iconst 1, 1, 0, 0, 0, m0),
   (10, .invokevirtual 72, 3, 0, 0, 1629, m_Mod_refuse),
   (13, .ireturn, 1, 0, 0, 0, m0)]),
  (14, [], false, [(14, .aload_n 0, 1, 0, 0, 0, m0),
   (15, .iload_n 1, 1, 0, 0, 0, m0),
   (16, .iconst 3, 1, 0, 0, 0, m0),
   (17, .invokevirtual 171, 3, 0, 0, 1708, m_Mod_of),
   (20, .ifCond .ne 10, 3, 30, 0, 0, m0),
   (23, .nop, 0, 0, 0, 0, m0)]),
  (23, [], false, [(23, .aload_n 0, 1, 0, 0, 0, m0),
   (24, .bipush 7, 2, 0, 0, 0, m0),
   (26, .invokevirtual 72, 3, 0, 0, 1629, m_Mod_refuse),
   (29, .ireturn, 1, 0, 0, 0, m0)]),
  (30, [], false, [(30, .aload_n 0, 1, 0, 0, 0, m0),
   (31, .getfield 7, 3, 0, 11, 1447, m0),
   (34, .iload_n 1, 1, 0, 0, 0, m0),
   (35, .invokestatic 168, 3, 0, 0, 1648, m_Mod_singerRow),
   (38, .iconst 3, 1, 0, 0, 0, m0),
   (39, .iadd, 1, 0, 0, 0, m0),
   (40, .iconst 0, 1, 0, 0, 0, m0),
   (41, .iastore, 1, 0, 0, 0, m0),
   (42, .aload_n 0, 1, 0, 0, 0, m0),
   (43, .aload_n 0, 1, 0, 0, 0, m0),
   (44, .iconst 3, 1, 0, 0, 0, m0),
   (45, .invokevirtual 292, 3, 0, 0, 1788, m_Mod_sumOf),
   (48, .invokestatic 295, 3, 0, 0, 1922, m_Mod_bits),
   (51, .invokevirtual 76, 3, 0, 0, 1740, m_Mod_gives),
   (54, .ireturn, 1, 0, 0, 0, m0)])]
theorem ok_Mod_well : okBt m_Mod_well bt_Mod_well = true := by decide +kernel
set_option maxRecDepth 100000 in
theorem b_Mod_well_0 {l : Launch} {E : EnvT} {d : Nat} {K : AV → Mem → Prop} {M : Mem} {x1 : Int32} (hd : 1 ≤ d)
  (h : CT l E (d - 1) m_Mod_isLiving [(.ref 24, 41), (.int x1, 0)] M (fun v1 M1 =>
   ((¬ (toI v1) = 0 →
    CT l E (d - 1) m_Mod_of [(.ref 24, 41), (.int x1, 0), (.int (iN 3), 0)] M1 (fun v2 M2 =>
     ((¬ (toI v2) = 0 →
      CT l E (d - 1) m_Mod_singerRow [(.int x1, 0)] M2 (fun v3 M3 =>
       (vp_in ((toI v3) + (iN 3)) 3612 ∧ CT l E (d - 1) m_Mod_sumOf [(.ref 24, 41), (.int (iN 3), 0)] (upd3 M3 24 1 (((toI v3) + (iN 3))).toNatClampNeg ((iN 0)).toInt) (fun v4 M4 =>
        CT l E (d - 1) m_Mod_bits [(.int (toI v4), 0)] M4 (fun v5 M5 =>
         CT l E (d - 1) m_Mod_gives [(.ref 24, 41), (.int (toI v5), 0)] M5 (fun v6 M6 =>
          K (.int (toI v6), 0) M6)))))) ∧
     ((toI v2) = 0 →
      CT l E (d - 1) m_Mod_refuse [(.ref 24, 41), (.int (iN 7), 0)] M2 (fun v7 M7 =>
       K (.int (toI v7), 0) M7))))) ∧
   ((toI v1) = 0 →
    CT l E (d - 1) m_Mod_refuse [(.ref 24, 41), (.int (iN 1), 0)] M1 (fun v8 M8 =>
     K (.int (toI v8), 0) M8))))) :
  G l E d m_Mod_well 0 [(0, (.ref 24, 41)), (1, (.int x1, 0))] [] M K := G.blk 60 _ hd ok_Mod_well rfl h
def bt_Mod_inherits : BtT := [(0, [0, 1, 2, 3], true, [(0, .iload_n 1, 1, 0, 0, 0, m0),
   (1, .iconst (-1), 1, 0, 0, 0, m0),
   (2, .if_icmp .eq 16, 3, 18, 0, 0, m0),
   (5, .nop, 0, 0, 0, 0, m0)]),
  (5, [], false, [(5, .iload_n 1, 1, 0, 0, 0, m0),
   (6, .iload_n 2, 1, 0, 0, 0, m0),
   (7, .if_icmp .eq 11, 3, 18, 0, 0, m0),
   (10, .nop, 0, 0, 0, 0, m0)]),
  (10, [], false, [(10, .aload_n 0, 1, 0, 0, 0, m0),
   (11, .iload_n 1, 1, 0, 0, 0, m0),
   (12, .iload_n 2, 1, 0, 0, 0, m0),
   (13, .iload_n 3, 1, 0, 0, 0, m0),
   (14, .invokevirtual 231, 3, 0, 0, 1700, m_Mod_books),
   (17, .pop, 1, 0, 0, 0, m0),
   (18, .nop, 0, 0, 0, 0, m0)]),
  (18, [], false, [(18, .return_, 1, 0, 0, 0, m0)])]
theorem ok_Mod_inherits : okBt m_Mod_inherits bt_Mod_inherits = true := by decide +kernel
set_option maxRecDepth 100000 in
theorem b_Mod_inherits_0 {l : Launch} {E : EnvT} {d : Nat} {K : AV → Mem → Prop} {M : Mem} {x1 : Int32} {x2 : Int32} {x3 : Int32} (hd : 1 ≤ d)
  (h : ((x1 = (iN (-1)) →
   K (.null, 0) M) ∧
  (¬ x1 = (iN (-1)) →
   ((x1 = x2 →
    K (.null, 0) M) ∧
   (¬ x1 = x2 →
    CT l E (d - 1) m_Mod_books [(.ref 24, 41), (.int x1, 0), (.int x2, 0), (.int x3, 0)] M (fun v1 M1 =>
     K (.null, 0) M1)))))) :
  G l E d m_Mod_inherits 0 [(0, (.ref 24, 41)), (1, (.int x1, 0)), (2, (.int x2, 0)), (3, (.int x3, 0))] [] M K := G.blk 60 _ hd ok_Mod_inherits rfl h
def bt_Mod_dies : BtT := [(0, [0, 1], true, [(0, .aload_n 0, 1, 0, 0, 0, m0),
   (1, .iload_n 1, 1, 0, 0, 0, m0),
   (2, .iconst 5, 1, 0, 0, 0, m0),
   (3, .invokevirtual 171, 3, 0, 0, 1708, m_Mod_of),
   (6, .iconst (-1), 1, 0, 0, 0, m0),
   (7, .if_icmp .eq 16, 3, 23, 0, 0, m0),
   (10, .nop, 0, 0, 0, 0, m0)]),
  (10, [], false, [(10, .aload_n 0, 1, 0, 0, 0, m0),
   (11, .aload_n 0, 1, 0, 0, 0, m0),
   (12, .iload_n 1, 1, 0, 0, 0, m0),
   (13, .iconst 5, 1, 0, 0, 0, m0),
   (14, .invokevirtual 171, 3, 0, 0, 1708, m_Mod_of),
   (17, .invokevirtual 277, 3, 0, 0, 1836, m_Mod_isDead),
   (20, .ifCond .eq 7, 3, 27, 0, 0, m0),
   (23, .nop, 0, 0, 0, 0, m0)]),
  (23, [], false, [(23, .iconst (-1), 1, 0, 0, 0, m0),
   (24, .goto 9, 3, 33, 0, 0, m0)]),
  (27, [], false, [(27, .aload_n 0, 1, 0, 0, 0, m0),
   (28, .iload_n 1, 1, 0, 0, 0, m0),
   (29, .iconst 5, 1, 0, 0, 0, m0),
   (30, .invokevirtual 171, 3, 0, 0, 1708, m_Mod_of),
   (33, .nop, 0, 0, 0, 0, m0)]),
  (33, [], false, [(33, .istore_n 2, 1, 0, 0, 0, m0),
   (34, .iload_n 2, 1, 0, 0, 0, m0),
   (35, .iconst (-1), 1, 0, 0, 0, m0),
   (36, .if_icmp .eq 31, 3, 67, 0, 0, m0),
   (39, .nop, 0, 0, 0, 0, m0)]),
  (39, [], false, [(39, .aload_n 0, 1, 0, 0, 0, m0),
   (40, .getfield 7, 3, 0, 11, 1447, m0),
   (43, .iload_n 2, 1, 0, 0, 0, m0),
   (44, .invokestatic 168, 3, 0, 0, 1648, m_Mod_singerRow),
   (47, .sipush 9999, 3, 0, 0, 0, m0),
   (50, .aload_n 0, 1, 0, 0, 0, m0),
   (51, .iload_n 2, 1, 0, 0, 0, m0),
   (52, .iconst 0, 1, 0, 0, 0, m0),
   (53, .invokevirtual 171, 3, 0, 0, 1708, m_Mod_of),
   (56, .aload_n 0, 1, 0, 0, 0, m0),
   (57, .iload_n 1, 1, 0, 0, 0, m0),
   (58, .iconst 0, 1, 0, 0, 0, m0),
   (59, .invokevirtual 171, 3, 0, 0, 1708, m_Mod_of),
   (62, .iadd, 1, 0, 0, 0, m0),
   (63, .invokestatic 127, 3, 0, 0, 1628, m_Math_min),
   (66, .iastore, 1, 0, 0, 0, m0),
   (67, .nop, 0, 0, 0, 0, m0)]),
  (67, [], false, [(67, .iconst 0, 1, 0, 0, 0, m0),
   (68, .istore_n 3, 1, 0, 0, 0, m0),
   (69, .nop, 0, 0, 0, 0, m0)]),
  (69, [0, 1, 2, 3], true, [(69, .iload_n 3, 1, 0, 0, 0, m0),
   (70, .aload_n 0, 1, 0, 0, 0, m0),
   (71, .getfield 7, 3, 0, 11, 1447, m0),
   (74, .iconst 0, 1, 0, 0, 0, m0),
   (75, .iaload, 1, 0, 0, 0, m0),
   (76, .if_icmp .ge 52, 3, 128, 0, 0, m0),
   (79, .nop, 0, 0, 0, 0, m0)]),
  (79, [], false, [(79, .aload_n 0, 1, 0, 0, 0, m0),
   (80, .iload_n 3, 1, 0, 0, 0, m0),
   (81, .iload_n 1, 1, 0, 0, 0, m0),
   (82, .invokevirtual 177, 3, 0, 0, 1704, m_Mod_noteOf),
   (85, .istore 4, 2, 0, 0, 0, m0),
   (87, .iload 4, 2, 0, 0, 0, m0),
   (89, .iconst (-1), 1, 0, 0, 0, m0),
   (90, .if_icmp .ne 6, 3, 96, 0, 0, m0),
   (93, .nop, 0, 0, 0, 0, m0)]),
  (93, [], false, [(93, .goto 29, 3, 122, 0, 0, m0)]),
  (96, [], false, [(96, .aload_n 0, 1, 0, 0, 0, m0),
   (97, .iload_n 3, 1, 0, 0, 0, m0),
   (98, .iload 4, 2, 0, 0, 0, m0),
   (100, .invokevirtual 180, 3, 0, 0, 1716, m_Mod_debtAt),
   (103, .istore 5, 2, 0, 0, 0, m0),
   (105, .aload_n 0, 1, 0, 0, 0, m0),
   (106, .iload_n 3, 1, 0, 0, 0, m0),
   (107, .iload 4, 2, 0, 0, 0, m0),
   (109, .iload_n 1, 1, 0, 0, 0, m0),
   (110, .iconst 0, 1, 0, 0, 0, m0),
   (111, .invokevirtual 183, 3, 0, 0, 1720, m_Mod_stands),
   (114, .aload_n 0, 1, 0, 0, 0, m0),
   (115, .iload_n 2, 1, 0, 0, 0, m0),
   (116, .iload_n 3, 1, 0, 0, 0, m0),
   (117, .iload 5, 2, 0, 0, 0, m0),
   (119, .invokevirtual 355, 3, 0, 0, 1933, m_Mod_inherits),
   (122, .nop, 0, 0, 0, 0, m0)]),
  (122, [], false, [(122, .iinc 3 1, 3, 0, 0, 0, m0),
   (125, .goto (-56), 3, 69, 0, 0, m0)]),
  (128, [], false, [(128, .iconst 0, 1, 0, 0, 0, m0),
   (129, .istore_n 3, 1, 0, 0, 0, m0),
   (130, .nop, 0, 0, 0, 0, m0)]),
  (130, [0, 1, 2, 3], true, [(130, .iload_n 3, 1, 0, 0, 0, m0),
   (131, .aload_n 0, 1, 0, 0, 0, m0),
   (132, .getfield 7, 3, 0, 11, 1447, m0),
   (135, .iconst 5, 1, 0, 0, 0, m0),
   (136, .iaload, 1, 0, 0, 0, m0),
   (137, .if_icmp .ge 56, 3, 193, 0, 0, m0),
   (140, .nop, 0, 0, 0, 0, m0)]),
  (140, [], false, [(140, .aload_n 0, 1, 0, 0, 0, m0),
   (141, .getfield 7, 3, 0, 11, 1447, m0),
   (144, .sipush 214, 3, 0, 0, 0, m0),
   (147, .iconst 3, 1, 0, 0, 0, m0),
   (148, .iload_n 3, 1, 0, 0, 0, m0),
   (149, .imul, 1, 0, 0, 0, m0),
   (150, .iadd, 1, 0, 0, 0, m0),
   (151, .iconst 1, 1, 0, 0, 0, m0),
   (152, .iadd, 1, 0, 0, 0, m0),
   (153, .iaload, 1, 0, 0, 0, m0),
   (154, .istore 4, 2, 0, 0, 0, m0),
   (156, .aload_n 0, 1, 0, 0, 0, m0),
   (157, .getfield 7, 3, 0, 11, 1447, m0),
   (160, .sipush 214, 3, 0, 0, 0, m0),
   (163, .iconst 3, 1, 0, 0, 0, m0),
   (164, .iload_n 3, 1, 0, 0, 0, m0),
   (165, .imul, 1, 0, 0, 0, m0),
   (166, .iadd, 1, 0, 0, 0, m0),
   (167, .iaload, 1, 0, 0, 0, m0),
   (168, .iload_n 1, 1, 0, 0, 0, m0),
   (169, .if_icmp .ne 18, 3, 187, 0, 0, m0),
   (172, .nop, 0, 0, 0, 0, m0)]),
  (172, [], false, [(172, .aload_n 0, 1, 0, 0, 0, m0),
   (173, .iload_n 2, 1, 0, 0, 0, m0),
   (174, .iload 4, 2, 0, 0, 0, m0),
   (176, .aload_n 0, 1, 0, 0, 0, m0),
   (177, .iload_n 3, 1, 0, 0, 0, m0),
   (178, .invokevirtual 190, 3, 0, 0, 1885, m_Mod_leaves),
   (181, .invokevirtual 355, 3, 0, 0, 1933, m_Mod_inherits),
   (184, .goto 6, 3, 190, 0, 0, m0)]),
  (187, [], false, [(187, .iinc 3 1, 3, 0, 0, 0, m0),
   (190, .nop, 0, 0, 0, 0, m0)]),
  (190, [], false, [(190, .goto (-60), 3, 130, 0, 0, m0)]),
  (193, [], false, [(193, .iconst 0, 1, 0, 0, 0, m0),
   (194, .istore 4, 2, 0, 0, 0, m0),
   (196, .nop, 0, 0, 0, 0, m0)]),
  (196, [0, 1, 4], true, [(196, .iload 4, 2, 0, 0, 0, m0),
   (198, .aload_n 0, 1, 0, 0, 0, m0),
   (199, .iload_n 1, 1, 0, 0, 0, m0),
   (200, .iconst 1, 1, 0, 0, 0, m0),
   (201, .invokevirtual 171, 3, 0, 0, 1708, m_Mod_of),
   (204, .if_icmp .ge 18, 3, 222, 0, 0, m0),
   (207, .nop, 0, 0, 0, 0, m0)]),
  (207, [], false, [(207, .aload_n 0, 1, 0, 0, 0, m0),
   (208, .iload_n 1, 1, 0, 0, 0, m0),
   (209, .iload 4, 2, 0, 0, 0, m0),
   (211, .iconst (-1), 1, 0, 0, 0, m0),
   (212, .iconst 0, 1, 0, 0, 0, m0),
   (213, .invokevirtual 183, 3, 0, 0, 1720, m_Mod_stands),
   (216, .iinc 4 1, 3, 0, 0, 0, m0),
   (219, .goto (-23), 3, 196, 0, 0, m0)]),
  (222, [], false, [(222, .iconst 0, 1, 0, 0, 0, m0),
   (223, .istore_n 3, 1, 0, 0, 0, m0),
   (224, .nop, 0, 0, 0, 0, m0)]),
  (224, [0, 1, 3], true, [(224, .iload_n 3, 1, 0, 0, 0, m0),
   (225, .aload_n 0, 1, 0, 0, 0, m0),
   (226, .getfield 7, 3, 0, 11, 1447, m0),
   (229, .iconst 5, 1, 0, 0, 0, m0),
   (230, .iaload, 1, 0, 0, 0, m0),
   (231, .if_icmp .ge 36, 3, 267, 0, 0, m0),
   (234, .nop, 0, 0, 0, 0, m0)]),
  (234, [], false, [(234, .aload_n 0, 1, 0, 0, 0, m0),
   (235, .getfield 7, 3, 0, 11, 1447, m0),
   (238, .sipush 214, 3, 0, 0, 0, m0),
   (241, .iconst 3, 1, 0, 0, 0, m0),
   (242, .iload_n 3, 1, 0, 0, 0, m0),
   (243, .imul, 1, 0, 0, 0, m0),
   (244, .iadd, 1, 0, 0, 0, m0),
   (245, .iconst 1, 1, 0, 0, 0, m0),
   (246, .iadd, 1, 0, 0, 0, m0),
   (247, .iaload, 1, 0, 0, 0, m0),
   (248, .iload_n 1, 1, 0, 0, 0, m0),
   (249, .if_icmp .ne 12, 3, 261, 0, 0, m0),
   (252, .nop, 0, 0, 0, 0, m0)]),
  (252, [], false, [(252, .aload_n 0, 1, 0, 0, 0, m0),
   (253, .iload_n 3, 1, 0, 0, 0, m0),
   (254, .invokevirtual 190, 3, 0, 0, 1885, m_Mod_leaves),
   (257, .pop, 1, 0, 0, 0, m0),
   (258, .goto (-34), 3, 224, 0, 0, m0)]),
  (261, [], false, [(261, .iinc 3 1, 3, 0, 0, 0, m0),
   (264, .goto (-40), 3, 224, 0, 0, m0)]),
  (267, [], false, [(267, .aload_n 0, 1, 0, 0, 0, m0),
   (268, .getfield 7, 3, 0, 11, 1447, m0),
   (271, .iload_n 1, 1, 0, 0, 0, m0),
   (272, .invokestatic 168, 3, 0, 0, 1648, m_Mod_singerRow),
   (275, .iconst 0, 1, 0, 0, 0, m0),
   (276, .iastore, 1, 0, 0, 0, m0),
   (277, .aload_n 0, 1, 0, 0, 0, m0),
   (278, .getfield 7, 3, 0, 11, 1447, m0),
   (281, .iload_n 1, 1, 0, 0, 0, m0),
   (282, .invokestatic 168, 3, 0, 0, 1648, m_Mod_singerRow),
   (285, .iconst 3, 1, 0, 0, 0, m0),
   (286, .iadd, 1, 0, 0, 0, m0),
   (287, .iconst 0, 1, 0, 0, 0, m0),
   (288, .iastore, 1, 0, 0, 0, m0),
   (289, .aload_n 0, 1, 0, 0, 0, m0),
   (290, .getfield 7, 3, 0, 11, 1447, m0),
   (293, .iload_n 1, 1, 0, 0, 0, m0),
   (294, .invokestatic 168, 3, 0, 0, 1648, m_Mod_singerRow),
   (297, .bipush 6, 2, 0, 0, 0, m0),
   (299, .iadd, 1, 0, 0, 0, m0),
   (300, .iconst 1, 1, 0, 0, 0, m0),
   (301, .iastore, 1, 0, 0, 0, m0),
   (302, .aload_n 0, 1, 0, 0, 0, m0),
   (303, .invokevirtual 332, 3, 0, 0, 1881, m_Mod_fills),
   (306, .return_, 1, 0, 0, 0, m0)])]
theorem ok_Mod_dies : okBt m_Mod_dies bt_Mod_dies = true := by decide +kernel
set_option maxRecDepth 100000 in
theorem b_Mod_dies_0 {l : Launch} {E : EnvT} {d : Nat} {K : AV → Mem → Prop} {M : Mem} {x1 : Int32} (hd : 1 ≤ d)
  (h : CT l E (d - 1) m_Mod_of [(.ref 24, 41), (.int x1, 0), (.int (iN 5), 0)] M (fun v1 M1 =>
   (((toI v1) = (iN (-1)) →
    (((iN (-1)) = (iN (-1)) →
     G l E d m_Mod_dies 69 [(0, (.ref 24, 41)), (1, (.int x1, 0)), (2, (.int (iN (-1)), 0)), (3, (.int (iN 0), 0))] [] M1 K) ∧
    (¬ (iN (-1)) = (iN (-1)) →
     CT l E (d - 1) m_Mod_singerRow [(.int (iN (-1)), 0)] M1 (fun v2 M2 =>
      CT l E (d - 1) m_Mod_of [(.ref 24, 41), (.int (iN (-1)), 0), (.int (iN 0), 0)] M2 (fun v3 M3 =>
       CT l E (d - 1) m_Mod_of [(.ref 24, 41), (.int x1, 0), (.int (iN 0), 0)] M3 (fun v4 M4 =>
        CT l E (d - 1) m_Math_min [(.int (iN 9999), 0), (.int ((toI v3) + (toI v4)), 0)] M4 (fun v5 M5 =>
         (vp_in (toI v2) 3612 ∧ G l E d m_Mod_dies 69 [(0, (.ref 24, 41)), (1, (.int x1, 0)), (2, (.int (iN (-1)), 0)), (3, (.int (iN 0), 0))] [] (upd3 M5 24 1 ((toI v2)).toNatClampNeg ((toI v5)).toInt) K)))))))) ∧
   (¬ (toI v1) = (iN (-1)) →
    CT l E (d - 1) m_Mod_of [(.ref 24, 41), (.int x1, 0), (.int (iN 5), 0)] M1 (fun v6 M6 =>
     CT l E (d - 1) m_Mod_isDead [(.ref 24, 41), (.int (toI v6), 0)] M6 (fun v7 M7 =>
      (((toI v7) = 0 →
       CT l E (d - 1) m_Mod_of [(.ref 24, 41), (.int x1, 0), (.int (iN 5), 0)] M7 (fun v8 M8 =>
        (((toI v8) = (iN (-1)) →
         G l E d m_Mod_dies 69 [(0, (.ref 24, 41)), (1, (.int x1, 0)), (2, (.int (toI v8), 0)), (3, (.int (iN 0), 0))] [] M8 K) ∧
        (¬ (toI v8) = (iN (-1)) →
         CT l E (d - 1) m_Mod_singerRow [(.int (toI v8), 0)] M8 (fun v9 M9 =>
          CT l E (d - 1) m_Mod_of [(.ref 24, 41), (.int (toI v8), 0), (.int (iN 0), 0)] M9 (fun v10 M10 =>
           CT l E (d - 1) m_Mod_of [(.ref 24, 41), (.int x1, 0), (.int (iN 0), 0)] M10 (fun v11 M11 =>
            CT l E (d - 1) m_Math_min [(.int (iN 9999), 0), (.int ((toI v10) + (toI v11)), 0)] M11 (fun v12 M12 =>
             (vp_in (toI v9) 3612 ∧ G l E d m_Mod_dies 69 [(0, (.ref 24, 41)), (1, (.int x1, 0)), (2, (.int (toI v8), 0)), (3, (.int (iN 0), 0))] [] (upd3 M12 24 1 ((toI v9)).toNatClampNeg ((toI v12)).toInt) K))))))))) ∧
      (¬ (toI v7) = 0 →
       (((iN (-1)) = (iN (-1)) →
        G l E d m_Mod_dies 69 [(0, (.ref 24, 41)), (1, (.int x1, 0)), (2, (.int (iN (-1)), 0)), (3, (.int (iN 0), 0))] [] M7 K) ∧
       (¬ (iN (-1)) = (iN (-1)) →
        CT l E (d - 1) m_Mod_singerRow [(.int (iN (-1)), 0)] M7 (fun v13 M13 =>
         CT l E (d - 1) m_Mod_of [(.ref 24, 41), (.int (iN (-1)), 0), (.int (iN 0), 0)] M13 (fun v14 M14 =>
          CT l E (d - 1) m_Mod_of [(.ref 24, 41), (.int x1, 0), (.int (iN 0), 0)] M14 (fun v15 M15 =>
           CT l E (d - 1) m_Math_min [(.int (iN 9999), 0), (.int ((toI v14) + (toI v15)), 0)] M15 (fun v16 M16 =>
            (vp_in (toI v13) 3612 ∧ G l E d m_Mod_dies 69 [(0, (.ref 24, 41)), (1, (.int x1, 0)), (2, (.int (iN (-1)), 0)), (3, (.int (iN 0), 0))] [] (upd3 M16 24 1 ((toI v13)).toNatClampNeg ((toI v16)).toInt) K))))))))))))))) :
  G l E d m_Mod_dies 0 [(0, (.ref 24, 41)), (1, (.int x1, 0))] [] M K := G.blk 60 _ hd ok_Mod_dies rfl h
set_option maxRecDepth 100000 in
theorem b_Mod_dies_69 {l : Launch} {E : EnvT} {d : Nat} {K : AV → Mem → Prop} {M : Mem} {x1 : Int32} {x2 : Int32} {x3 : Int32} (hd : 1 ≤ d)
  (h : (vp_in (iN 0) 3612 ∧ (((iN (M 24 1 ((iN 0)).toNatClampNeg)) ≤ x3 →
   G l E d m_Mod_dies 130 [(0, (.ref 24, 41)), (1, (.int x1, 0)), (2, (.int x2, 0)), (3, (.int (iN 0), 0))] [] M K) ∧
  (¬ (iN (M 24 1 ((iN 0)).toNatClampNeg)) ≤ x3 →
   CT l E (d - 1) m_Mod_noteOf [(.ref 24, 41), (.int x3, 0), (.int x1, 0)] M (fun v1 M1 =>
    ((¬ (toI v1) = (iN (-1)) →
     CT l E (d - 1) m_Mod_debtAt [(.ref 24, 41), (.int x3, 0), (.int (toI v1), 0)] M1 (fun v2 M2 =>
      CT l E (d - 1) m_Mod_stands [(.ref 24, 41), (.int x3, 0), (.int (toI v1), 0), (.int x1, 0), (.int (iN 0), 0)] M2 (fun v3 M3 =>
       CT l E (d - 1) m_Mod_inherits [(.ref 24, 41), (.int x2, 0), (.int x3, 0), (.int (toI v2), 0)] M3 (fun v4 M4 =>
        G l E d m_Mod_dies 69 [(0, (.ref 24, 41)), (1, (.int x1, 0)), (2, (.int x2, 0)), (3, (.int (x3 + iN 1), 0))] [] M4 K)))) ∧
    ((toI v1) = (iN (-1)) →
     G l E d m_Mod_dies 69 [(0, (.ref 24, 41)), (1, (.int x1, 0)), (2, (.int x2, 0)), (3, (.int (x3 + iN 1), 0))] [] M1 K))))))) :
  G l E d m_Mod_dies 69 [(0, (.ref 24, 41)), (1, (.int x1, 0)), (2, (.int x2, 0)), (3, (.int x3, 0))] [] M K := G.blk 60 _ hd ok_Mod_dies rfl h
set_option maxRecDepth 100000 in
theorem b_Mod_dies_130 {l : Launch} {E : EnvT} {d : Nat} {K : AV → Mem → Prop} {M : Mem} {x1 : Int32} {x2 : Int32} {x3 : Int32} (hd : 1 ≤ d)
  (h : (vp_in (iN 5) 3612 ∧ (((iN (M 24 1 ((iN 5)).toNatClampNeg)) ≤ x3 →
   G l E d m_Mod_dies 196 [(0, (.ref 24, 41)), (1, (.int x1, 0)), (4, (.int (iN 0), 0))] [] M K) ∧
  (¬ (iN (M 24 1 ((iN 5)).toNatClampNeg)) ≤ x3 →
   (vp_in (((iN 214) + ((iN 3) * x3)) + (iN 1)) 3612 ∧ vp_in ((iN 214) + ((iN 3) * x3)) 3612 ∧ ((¬ (iN (M 24 1 (((iN 214) + ((iN 3) * x3))).toNatClampNeg)) = x1 →
    G l E d m_Mod_dies 130 [(0, (.ref 24, 41)), (1, (.int x1, 0)), (2, (.int x2, 0)), (3, (.int (x3 + iN 1), 0))] [] M K) ∧
   ((iN (M 24 1 (((iN 214) + ((iN 3) * x3))).toNatClampNeg)) = x1 →
    CT l E (d - 1) m_Mod_leaves [(.ref 24, 41), (.int x3, 0)] M (fun v1 M1 =>
     CT l E (d - 1) m_Mod_inherits [(.ref 24, 41), (.int x2, 0), (.int (iN (M 24 1 ((((iN 214) + ((iN 3) * x3)) + (iN 1))).toNatClampNeg)), 0), (.int (toI v1), 0)] M1 (fun v2 M2 =>
      G l E d m_Mod_dies 130 [(0, (.ref 24, 41)), (1, (.int x1, 0)), (2, (.int x2, 0)), (3, (.int x3, 0))] [] M2 K))))))))) :
  G l E d m_Mod_dies 130 [(0, (.ref 24, 41)), (1, (.int x1, 0)), (2, (.int x2, 0)), (3, (.int x3, 0))] [] M K := G.blk 60 _ hd ok_Mod_dies rfl h
set_option maxRecDepth 100000 in
theorem b_Mod_dies_196 {l : Launch} {E : EnvT} {d : Nat} {K : AV → Mem → Prop} {M : Mem} {x1 : Int32} {x4 : Int32} (hd : 1 ≤ d)
  (h : CT l E (d - 1) m_Mod_of [(.ref 24, 41), (.int x1, 0), (.int (iN 1), 0)] M (fun v1 M1 =>
   (((toI v1) ≤ x4 →
    G l E d m_Mod_dies 224 [(0, (.ref 24, 41)), (1, (.int x1, 0)), (3, (.int (iN 0), 0))] [] M1 K) ∧
   (¬ (toI v1) ≤ x4 →
    CT l E (d - 1) m_Mod_stands [(.ref 24, 41), (.int x1, 0), (.int x4, 0), (.int (iN (-1)), 0), (.int (iN 0), 0)] M1 (fun v2 M2 =>
     G l E d m_Mod_dies 196 [(0, (.ref 24, 41)), (1, (.int x1, 0)), (4, (.int (x4 + iN 1), 0))] [] M2 K))))) :
  G l E d m_Mod_dies 196 [(0, (.ref 24, 41)), (1, (.int x1, 0)), (4, (.int x4, 0))] [] M K := G.blk 60 _ hd ok_Mod_dies rfl h
set_option maxRecDepth 100000 in
theorem b_Mod_dies_224 {l : Launch} {E : EnvT} {d : Nat} {K : AV → Mem → Prop} {M : Mem} {x1 : Int32} {x3 : Int32} (hd : 1 ≤ d)
  (h : (vp_in (iN 5) 3612 ∧ (((iN (M 24 1 ((iN 5)).toNatClampNeg)) ≤ x3 →
   CT l E (d - 1) m_Mod_singerRow [(.int x1, 0)] M (fun v1 M1 =>
    (vp_in (toI v1) 3612 ∧ CT l E (d - 1) m_Mod_singerRow [(.int x1, 0)] (upd3 M1 24 1 ((toI v1)).toNatClampNeg ((iN 0)).toInt) (fun v2 M2 =>
     (vp_in ((toI v2) + (iN 3)) 3612 ∧ CT l E (d - 1) m_Mod_singerRow [(.int x1, 0)] (upd3 M2 24 1 (((toI v2) + (iN 3))).toNatClampNeg ((iN 0)).toInt) (fun v3 M3 =>
      (vp_in ((toI v3) + (iN 6)) 3612 ∧ CT l E (d - 1) m_Mod_fills [(.ref 24, 41)] (upd3 M3 24 1 (((toI v3) + (iN 6))).toNatClampNeg ((iN 1)).toInt) (fun v4 M4 =>
       K (.null, 0) M4)))))))) ∧
  (¬ (iN (M 24 1 ((iN 5)).toNatClampNeg)) ≤ x3 →
   (vp_in (((iN 214) + ((iN 3) * x3)) + (iN 1)) 3612 ∧ ((¬ (iN (M 24 1 ((((iN 214) + ((iN 3) * x3)) + (iN 1))).toNatClampNeg)) = x1 →
    G l E d m_Mod_dies 224 [(0, (.ref 24, 41)), (1, (.int x1, 0)), (3, (.int (x3 + iN 1), 0))] [] M K) ∧
   ((iN (M 24 1 ((((iN 214) + ((iN 3) * x3)) + (iN 1))).toNatClampNeg)) = x1 →
    CT l E (d - 1) m_Mod_leaves [(.ref 24, 41), (.int x3, 0)] M (fun v5 M5 =>
     G l E d m_Mod_dies 224 [(0, (.ref 24, 41)), (1, (.int x1, 0)), (3, (.int x3, 0))] [] M5 K)))))))) :
  G l E d m_Mod_dies 224 [(0, (.ref 24, 41)), (1, (.int x1, 0)), (3, (.int x3, 0))] [] M K := G.blk 60 _ hd ok_Mod_dies rfl h
def bt_Mod_livingMany : BtT := [(0, [0], true, [(0, .aload_n 0, 1, 0, 0, 0, m0),
   (1, .getfield 7, 3, 0, 11, 1447, m0),
   (4, .iconst 0, 1, 0, 0, 0, m0),
   (5, .iaload, 1, 0, 0, 0, m0),
   (6, .aload_n 0, 1, 0, 0, 0, m0),
   (7, .bipush 6, 2, 0, 0, 0, m0),
   (9, .invokevirtual 292, 3, 0, 0, 1788, m_Mod_sumOf),
   (12, .invokestatic 295, 3, 0, 0, 1922, m_Mod_bits),
   (15, .isub, 1, 0, 0, 0, m0),
   (16, .ireturn, 1, 0, 0, 0, m0)])]
theorem ok_Mod_livingMany : okBt m_Mod_livingMany bt_Mod_livingMany = true := by decide +kernel
set_option maxRecDepth 100000 in
theorem b_Mod_livingMany_0 {l : Launch} {E : EnvT} {d : Nat} {K : AV → Mem → Prop} {M : Mem}  (hd : 1 ≤ d)
  (h : (vp_in (iN 0) 3612 ∧ CT l E (d - 1) m_Mod_sumOf [(.ref 24, 41), (.int (iN 6), 0)] M (fun v1 M1 =>
   CT l E (d - 1) m_Mod_bits [(.int (toI v1), 0)] M1 (fun v2 M2 =>
    K (.int ((iN (M 24 1 ((iN 0)).toNatClampNeg)) - (toI v2)), 0) M2)))) :
  G l E d m_Mod_livingMany 0 [(0, (.ref 24, 41))] [] M K := G.blk 60 _ hd ok_Mod_livingMany rfl h
def bt_Mod_die : BtT := [(0, [0, 1], true, [(0, .aload_n 0, 1, 0, 0, 0, m0),
   (1, .iload_n 1, 1, 0, 0, 0, m0),
   (2, .invokevirtual 280, 3, 0, 0, 1832, m_Mod_isLiving),
   (5, .ifCond .ne 9, 3, 14, 0, 0, m0),
   (8, .nop, 0, 0, 0, 0, m0)]),
  (8, [], false, [(8, .aload_n 0, 1, 0, 0, 0, m0),
   (9, .iconst 1, 1, 0, 0, 0, m0),
   (10, .invokevirtual 72, 3, 0, 0, 1629, m_Mod_refuse),
   (13, .ireturn, 1, 0, 0, 0, m0)]),
  (14, [], false, [(14, .aload_n 0, 1, 0, 0, 0, m0),
   (15, .iload_n 1, 1, 0, 0, 0, m0),
   (16, .invokevirtual 358, 3, 0, 0, 1929, m_Mod_dies),
   (19, .aload_n 0, 1, 0, 0, 0, m0),
   (20, .aload_n 0, 1, 0, 0, 0, m0),
   (21, .invokevirtual 361, 3, 0, 0, 1937, m_Mod_livingMany),
   (24, .invokevirtual 76, 3, 0, 0, 1740, m_Mod_gives),
   (27, .ireturn, 1, 0, 0, 0, m0)])]
theorem ok_Mod_die : okBt m_Mod_die bt_Mod_die = true := by decide +kernel
set_option maxRecDepth 100000 in
theorem b_Mod_die_0 {l : Launch} {E : EnvT} {d : Nat} {K : AV → Mem → Prop} {M : Mem} {x1 : Int32} (hd : 1 ≤ d)
  (h : CT l E (d - 1) m_Mod_isLiving [(.ref 24, 41), (.int x1, 0)] M (fun v1 M1 =>
   ((¬ (toI v1) = 0 →
    CT l E (d - 1) m_Mod_dies [(.ref 24, 41), (.int x1, 0)] M1 (fun v2 M2 =>
     CT l E (d - 1) m_Mod_livingMany [(.ref 24, 41)] M2 (fun v3 M3 =>
      CT l E (d - 1) m_Mod_gives [(.ref 24, 41), (.int (toI v3), 0)] M3 (fun v4 M4 =>
       K (.int (toI v4), 0) M4)))) ∧
   ((toI v1) = 0 →
    CT l E (d - 1) m_Mod_refuse [(.ref 24, 41), (.int (iN 1), 0)] M1 (fun v5 M5 =>
     K (.int (toI v5), 0) M5))))) :
  G l E d m_Mod_die 0 [(0, (.ref 24, 41)), (1, (.int x1, 0))] [] M K := G.blk 60 _ hd ok_Mod_die rfl h
def bt_Mod_earn : BtT := [(0, [0, 1, 2], true, [(0, .aload_n 0, 1, 0, 0, 0, m0),
   (1, .iload_n 1, 1, 0, 0, 0, m0),
   (2, .invokevirtual 280, 3, 0, 0, 1832, m_Mod_isLiving),
   (5, .ifCond .eq 15, 3, 20, 0, 0, m0),
   (8, .nop, 0, 0, 0, 0, m0)]),
  (8, [], false, [(8, .iload_n 2, 1, 0, 0, 0, m0),
   (9, .i2l, 1, 0, 0, 0, m0),
   (10, .lconst 1, 1, 0, 0, 0, m0),
   (11, .ldc2_w 335, 3, 1, 999, 1868, m0),
   (14, .invokestatic 218, 3, 0, 0, 1684, m_Mod_isFrom),
   (17, .ifCond .ne 9, 3, 26, 0, 0, m0),
   (20, .nop, 0, 0, 0, 0, m0)]),
  (20, [], false, [(20, .aload_n 0, 1, 0, 0, 0, m0),
   (21, .iconst 1, 1, 0, 0, 0, m0),
   (22, .invokevirtual 72, 3, 0, 0, 1629, m_Mod_refuse),
   (25, .ireturn, 1, 0, 0, 0, m0)]),
  (26, [], false, [(26, .aload_n 0, 1, 0, 0, 0, m0),
   (27, .iload_n 1, 1, 0, 0, 0, m0),
   (28, .iconst 0, 1, 0, 0, 0, m0),
   (29, .invokevirtual 171, 3, 0, 0, 1708, m_Mod_of),
   (32, .iload_n 2, 1, 0, 0, 0, m0),
   (33, .iadd, 1, 0, 0, 0, m0),
   (34, .sipush 9999, 3, 0, 0, 0, m0),
   (37, .if_icmp .le 10, 3, 47, 0, 0, m0),
   (40, .nop, 0, 0, 0, 0, m0)]),
  (40, [], false, [(40, .aload_n 0, 1, 0, 0, 0, m0),
   (41, .bipush 7, 2, 0, 0, 0, m0),
   (43, .invokevirtual 72, 3, 0, 0, 1629, m_Mod_refuse),
   (46, .ireturn, 1, 0, 0, 0, m0)]),
  (47, [], false, [(47, .aload_n 0, 1, 0, 0, 0, m0),
   (48, .iload_n 1, 1, 0, 0, 0, m0),
   (49, .iconst 0, 1, 0, 0, 0, m0),
   (50, .iload_n 2, 1, 0, 0, 0, m0),
   (51, .invokevirtual 316, 3, 0, 0, 1860, m_Mod_gets),
   (54, .aload_n 0, 1, 0, 0, 0, m0),
   (55, .aload_n 0, 1, 0, 0, 0, m0),
   (56, .iload_n 1, 1, 0, 0, 0, m0),
   (57, .iconst 0, 1, 0, 0, 0, m0),
   (58, .invokevirtual 171, 3, 0, 0, 1708, m_Mod_of),
   (61, .invokevirtual 76, 3, 0, 0, 1740, m_Mod_gives),
   (64, .ireturn, 1, 0, 0, 0, m0)])]
theorem ok_Mod_earn : okBt m_Mod_earn bt_Mod_earn = true := by decide +kernel
set_option maxRecDepth 100000 in
theorem b_Mod_earn_0 {l : Launch} {E : EnvT} {d : Nat} {K : AV → Mem → Prop} {M : Mem} {x1 : Int32} {x2 : Int32} (hd : 1 ≤ d)
  (h : CT l E (d - 1) m_Mod_isLiving [(.ref 24, 41), (.int x1, 0)] M (fun v1 M1 =>
   (((toI v1) = 0 →
    CT l E (d - 1) m_Mod_refuse [(.ref 24, 41), (.int (iN 1), 0)] M1 (fun v2 M2 =>
     K (.int (toI v2), 0) M2)) ∧
   (¬ (toI v1) = 0 →
    CT l E (d - 1) m_Mod_isFrom [(.long (x2).toInt64, 0), (.long (lI 1), 0), (.long (lI 999), 0)] M1 (fun v3 M3 =>
     ((¬ (toI v3) = 0 →
      CT l E (d - 1) m_Mod_of [(.ref 24, 41), (.int x1, 0), (.int (iN 0), 0)] M3 (fun v4 M4 =>
       ((((toI v4) + x2) ≤ (iN 9999) →
        CT l E (d - 1) m_Mod_gets [(.ref 24, 41), (.int x1, 0), (.int (iN 0), 0), (.int x2, 0)] M4 (fun v5 M5 =>
         CT l E (d - 1) m_Mod_of [(.ref 24, 41), (.int x1, 0), (.int (iN 0), 0)] M5 (fun v6 M6 =>
          CT l E (d - 1) m_Mod_gives [(.ref 24, 41), (.int (toI v6), 0)] M6 (fun v7 M7 =>
           K (.int (toI v7), 0) M7)))) ∧
       (¬ ((toI v4) + x2) ≤ (iN 9999) →
        CT l E (d - 1) m_Mod_refuse [(.ref 24, 41), (.int (iN 7), 0)] M4 (fun v8 M8 =>
         K (.int (toI v8), 0) M8))))) ∧
     ((toI v3) = 0 →
      CT l E (d - 1) m_Mod_refuse [(.ref 24, 41), (.int (iN 1), 0)] M3 (fun v9 M9 =>
       K (.int (toI v9), 0) M9)))))))) :
  G l E d m_Mod_earn 0 [(0, (.ref 24, 41)), (1, (.int x1, 0)), (2, (.int x2, 0))] [] M K := G.blk 60 _ hd ok_Mod_earn rfl h
def bt_Mod_name : BtT := [(0, [0, 1, 2], true, [(0, .aload_n 0, 1, 0, 0, 0, m0),
   (1, .iload_n 1, 1, 0, 0, 0, m0),
   (2, .invokevirtual 280, 3, 0, 0, 1832, m_Mod_isLiving),
   (5, .ifCond .eq 17, 3, 22, 0, 0, m0),
   (8, .nop, 0, 0, 0, 0, m0)]),
  (8, [], false, [(8, .iload_n 2, 1, 0, 0, 0, m0),
   (9, .iconst (-1), 1, 0, 0, 0, m0),
   (10, .if_icmp .eq 18, 3, 28, 0, 0, m0),
   (13, .nop, 0, 0, 0, 0, m0)]),
  (13, [], false, [(13, .aload_n 0, 1, 0, 0, 0, m0),
   (14, .iload_n 1, 1, 0, 0, 0, m0),
   (15, .iload_n 2, 1, 0, 0, 0, m0),
   (16, .invokevirtual 320, 3, 0, 0, 1852, m_Mod_areTwo),
   (19, .ifCond .ne 9, 3, 28, 0, 0, m0),
   (22, .nop, 0, 0, 0, 0, m0)]),
  (22, [], false, [(22, .aload_n 0, 1, 0, 0, 0, m0),
   (23, .iconst 1, 1, 0, 0, 0, m0),
   (24, .invokevirtual 79, 3, 0, 0, 1569, m_Mod_is),
   (27, .ireturn, 1, 0, 0, 0, m0)]),
  (28, [], false, [(28, .aload_n 0, 1, 0, 0, 0, m0),
   (29, .getfield 7, 3, 0, 11, 1447, m0),
   (32, .iload_n 1, 1, 0, 0, 0, m0),
   (33, .invokestatic 168, 3, 0, 0, 1648, m_Mod_singerRow),
   (36, .iconst 5, 1, 0, 0, 0, m0),
   (37, .iadd, 1, 0, 0, 0, m0),
   (38, .iload_n 2, 1, 0, 0, 0, m0),
   (39, .iastore, 1, 0, 0, 0, m0),
   (40, .aload_n 0, 1, 0, 0, 0, m0),
   (41, .iconst 0, 1, 0, 0, 0, m0),
   (42, .invokevirtual 79, 3, 0, 0, 1569, m_Mod_is),
   (45, .ireturn, 1, 0, 0, 0, m0)])]
theorem ok_Mod_name : okBt m_Mod_name bt_Mod_name = true := by decide +kernel
set_option maxRecDepth 100000 in
theorem b_Mod_name_0 {l : Launch} {E : EnvT} {d : Nat} {K : AV → Mem → Prop} {M : Mem} {x1 : Int32} {x2 : Int32} (hd : 1 ≤ d)
  (h : CT l E (d - 1) m_Mod_isLiving [(.ref 24, 41), (.int x1, 0)] M (fun v1 M1 =>
   (((toI v1) = 0 →
    CT l E (d - 1) m_Mod_is [(.ref 24, 41), (.int (iN 1), 0)] M1 (fun v2 M2 =>
     ((((toI v2) = 0 ∨ (toI v2) = 1)) ∧ K (.int (toI v2), 0) M2))) ∧
   (¬ (toI v1) = 0 →
    ((x2 = (iN (-1)) →
     CT l E (d - 1) m_Mod_singerRow [(.int x1, 0)] M1 (fun v3 M3 =>
      (vp_in ((toI v3) + (iN 5)) 3612 ∧ CT l E (d - 1) m_Mod_is [(.ref 24, 41), (.int (iN 0), 0)] (upd3 M3 24 1 (((toI v3) + (iN 5))).toNatClampNeg (x2).toInt) (fun v4 M4 =>
       ((((toI v4) = 0 ∨ (toI v4) = 1)) ∧ K (.int (toI v4), 0) M4))))) ∧
    (¬ x2 = (iN (-1)) →
     CT l E (d - 1) m_Mod_areTwo [(.ref 24, 41), (.int x1, 0), (.int x2, 0)] M1 (fun v5 M5 =>
      ((¬ (toI v5) = 0 →
       CT l E (d - 1) m_Mod_singerRow [(.int x1, 0)] M5 (fun v6 M6 =>
        (vp_in ((toI v6) + (iN 5)) 3612 ∧ CT l E (d - 1) m_Mod_is [(.ref 24, 41), (.int (iN 0), 0)] (upd3 M6 24 1 (((toI v6) + (iN 5))).toNatClampNeg (x2).toInt) (fun v7 M7 =>
         ((((toI v7) = 0 ∨ (toI v7) = 1)) ∧ K (.int (toI v7), 0) M7))))) ∧
      ((toI v5) = 0 →
       CT l E (d - 1) m_Mod_is [(.ref 24, 41), (.int (iN 1), 0)] M5 (fun v8 M8 =>
        ((((toI v8) = 0 ∨ (toI v8) = 1)) ∧ K (.int (toI v8), 0) M8))))))))))) :
  G l E d m_Mod_name 0 [(0, (.ref 24, 41)), (1, (.int x1, 0)), (2, (.int x2, 0))] [] M K := G.blk 60 _ hd ok_Mod_name rfl h
def bt_Mod_hum : BtT := [(0, [0, 1], true, [(0, .iload_n 1, 1, 0, 0, 0, m0),
   (1, .i2l, 1, 0, 0, 0, m0),
   (2, .lconst 0, 1, 0, 0, 0, m0),
   (3, .ldc2_w 364, 3, 1, 50, 1953, m0),
   (6, .invokestatic 218, 3, 0, 0, 1684, m_Mod_isFrom),
   (9, .ifCond .ne 9, 3, 18, 0, 0, m0),
   (12, .nop, 0, 0, 0, 0, m0)]),
  (12, [], false, [(12, .aload_n 0, 1, 0, 0, 0, m0),
   (13, .iconst 1, 1, 0, 0, 0, m0),
   (14, .invokevirtual 79, 3, 0, 0, 1569, m_Mod_is),
   (17, .ireturn, 1, 0, 0, 0, m0)]),
  (18, [], false, [(18, .aload_n 0, 1, 0, 0, 0, m0),
   (19, .getfield 7, 3, 0, 11, 1447, m0),
   (22, .iconst 1, 1, 0, 0, 0, m0),
   (23, .iload_n 1, 1, 0, 0, 0, m0),
   (24, .iastore, 1, 0, 0, 0, m0),
   (25, .aload_n 0, 1, 0, 0, 0, m0),
   (26, .iconst 0, 1, 0, 0, 0, m0),
   (27, .invokevirtual 79, 3, 0, 0, 1569, m_Mod_is),
   (30, .ireturn, 1, 0, 0, 0, m0)])]
theorem ok_Mod_hum : okBt m_Mod_hum bt_Mod_hum = true := by decide +kernel
set_option maxRecDepth 100000 in
theorem b_Mod_hum_0 {l : Launch} {E : EnvT} {d : Nat} {K : AV → Mem → Prop} {M : Mem} {x1 : Int32} (hd : 1 ≤ d)
  (h : CT l E (d - 1) m_Mod_isFrom [(.long (x1).toInt64, 0), (.long (lI 0), 0), (.long (lI 50), 0)] M (fun v1 M1 =>
   ((¬ (toI v1) = 0 →
    (vp_in (iN 1) 3612 ∧ CT l E (d - 1) m_Mod_is [(.ref 24, 41), (.int (iN 0), 0)] (upd3 M1 24 1 ((iN 1)).toNatClampNeg (x1).toInt) (fun v2 M2 =>
     ((((toI v2) = 0 ∨ (toI v2) = 1)) ∧ K (.int (toI v2), 0) M2)))) ∧
   ((toI v1) = 0 →
    CT l E (d - 1) m_Mod_is [(.ref 24, 41), (.int (iN 1), 0)] M1 (fun v3 M3 =>
     ((((toI v3) = 0 ∨ (toI v3) = 1)) ∧ K (.int (toI v3), 0) M3)))))) :
  G l E d m_Mod_hum 0 [(0, (.ref 24, 41)), (1, (.int x1, 0))] [] M K := G.blk 60 _ hd ok_Mod_hum rfl h
def bt_Mod_chords : BtT := [(0, [0], true, [(0, .iconst 0, 1, 0, 0, 0, m0),
   (1, .istore_n 1, 1, 0, 0, 0, m0),
   (2, .iconst 0, 1, 0, 0, 0, m0),
   (3, .istore_n 2, 1, 0, 0, 0, m0),
   (4, .nop, 0, 0, 0, 0, m0)]),
  (4, [0, 1, 2], true, [(4, .iload_n 2, 1, 0, 0, 0, m0),
   (5, .aload_n 0, 1, 0, 0, 0, m0),
   (6, .getfield 7, 3, 0, 11, 1447, m0),
   (9, .iconst 0, 1, 0, 0, 0, m0),
   (10, .iaload, 1, 0, 0, 0, m0),
   (11, .if_icmp .ge 38, 3, 49, 0, 0, m0),
   (14, .nop, 0, 0, 0, 0, m0)]),
  (14, [], false, [(14, .iload_n 2, 1, 0, 0, 0, m0),
   (15, .iconst 1, 1, 0, 0, 0, m0),
   (16, .iadd, 1, 0, 0, 0, m0),
   (17, .istore_n 3, 1, 0, 0, 0, m0),
   (18, .nop, 0, 0, 0, 0, m0)]),
  (18, [0, 1, 2, 3], true, [(18, .iload_n 3, 1, 0, 0, 0, m0),
   (19, .aload_n 0, 1, 0, 0, 0, m0),
   (20, .getfield 7, 3, 0, 11, 1447, m0),
   (23, .iconst 0, 1, 0, 0, 0, m0),
   (24, .iaload, 1, 0, 0, 0, m0),
   (25, .if_icmp .ge 18, 3, 43, 0, 0, m0),
   (28, .nop, 0, 0, 0, 0, m0)]),
  (28, [], false, [(28, .iload_n 1, 1, 0, 0, 0, m0),
   (29, .aload_n 0, 1, 0, 0, 0, m0),
   (30, .iload_n 2, 1, 0, 0, 0, m0),
   (31, .iload_n 3, 1, 0, 0, 0, m0),
   (32, .invokevirtual 340, 3, 0, 0, 1893, m_Mod_chordOf),
   (35, .iadd, 1, 0, 0, 0, m0),
   (36, .istore_n 1, 1, 0, 0, 0, m0),
   (37, .iinc 3 1, 3, 0, 0, 0, m0),
   (40, .goto (-22), 3, 18, 0, 0, m0)]),
  (43, [], false, [(43, .iinc 2 1, 3, 0, 0, 0, m0),
   (46, .goto (-42), 3, 4, 0, 0, m0)]),
  (49, [], false, [(49, .aload_n 0, 1, 0, 0, 0, m0),
   (50, .iload_n 1, 1, 0, 0, 0, m0),
   (51, .invokevirtual 76, 3, 0, 0, 1740, m_Mod_gives),
   (54, .ireturn, 1, 0, 0, 0, m0)])]
theorem ok_Mod_chords : okBt m_Mod_chords bt_Mod_chords = true := by decide +kernel
set_option maxRecDepth 100000 in
theorem b_Mod_chords_0 {l : Launch} {E : EnvT} {d : Nat} {K : AV → Mem → Prop} {M : Mem}  (hd : 1 ≤ d)
  (h : G l E d m_Mod_chords 4 [(0, (.ref 24, 41)), (1, (.int (iN 0), 0)), (2, (.int (iN 0), 0))] [] M K) :
  G l E d m_Mod_chords 0 [(0, (.ref 24, 41))] [] M K := G.blk 60 _ hd ok_Mod_chords rfl h
set_option maxRecDepth 100000 in
theorem b_Mod_chords_4 {l : Launch} {E : EnvT} {d : Nat} {K : AV → Mem → Prop} {M : Mem} {x1 : Int32} {x2 : Int32} (hd : 1 ≤ d)
  (h : (vp_in (iN 0) 3612 ∧ (((iN (M 24 1 ((iN 0)).toNatClampNeg)) ≤ x2 →
   CT l E (d - 1) m_Mod_gives [(.ref 24, 41), (.int x1, 0)] M (fun v1 M1 =>
    K (.int (toI v1), 0) M1)) ∧
  (¬ (iN (M 24 1 ((iN 0)).toNatClampNeg)) ≤ x2 →
   G l E d m_Mod_chords 18 [(0, (.ref 24, 41)), (1, (.int x1, 0)), (2, (.int x2, 0)), (3, (.int (x2 + (iN 1)), 0))] [] M K)))) :
  G l E d m_Mod_chords 4 [(0, (.ref 24, 41)), (1, (.int x1, 0)), (2, (.int x2, 0))] [] M K := G.blk 60 _ hd ok_Mod_chords rfl h
set_option maxRecDepth 100000 in
theorem b_Mod_chords_18 {l : Launch} {E : EnvT} {d : Nat} {K : AV → Mem → Prop} {M : Mem} {x1 : Int32} {x2 : Int32} {x3 : Int32} (hd : 1 ≤ d)
  (h : (vp_in (iN 0) 3612 ∧ (((iN (M 24 1 ((iN 0)).toNatClampNeg)) ≤ x3 →
   G l E d m_Mod_chords 4 [(0, (.ref 24, 41)), (1, (.int x1, 0)), (2, (.int (x2 + iN 1), 0))] [] M K) ∧
  (¬ (iN (M 24 1 ((iN 0)).toNatClampNeg)) ≤ x3 →
   CT l E (d - 1) m_Mod_chordOf [(.ref 24, 41), (.int x2, 0), (.int x3, 0)] M (fun v1 M1 =>
    G l E d m_Mod_chords 18 [(0, (.ref 24, 41)), (1, (.int (x1 + (toI v1)), 0)), (2, (.int x2, 0)), (3, (.int (x3 + iN 1), 0))] [] M1 K))))) :
  G l E d m_Mod_chords 18 [(0, (.ref 24, 41)), (1, (.int x1, 0)), (2, (.int x2, 0)), (3, (.int x3, 0))] [] M K := G.blk 60 _ hd ok_Mod_chords rfl h
def bt_Mod_balanceOf : BtT := [(0, [0, 1], true, [(0, .aload_n 0, 1, 0, 0, 0, m0),
   (1, .iload_n 1, 1, 0, 0, 0, m0),
   (2, .invokevirtual 307, 3, 0, 0, 1804, m_Mod_owedAll),
   (5, .aload_n 0, 1, 0, 0, 0, m0),
   (6, .iload_n 1, 1, 0, 0, 0, m0),
   (7, .invokevirtual 289, 3, 0, 0, 1776, m_Mod_owesAll),
   (10, .isub, 1, 0, 0, 0, m0),
   (11, .ireturn, 1, 0, 0, 0, m0)])]
theorem ok_Mod_balanceOf : okBt m_Mod_balanceOf bt_Mod_balanceOf = true := by decide +kernel
set_option maxRecDepth 100000 in
theorem b_Mod_balanceOf_0 {l : Launch} {E : EnvT} {d : Nat} {K : AV → Mem → Prop} {M : Mem} {x1 : Int32} (hd : 1 ≤ d)
  (h : CT l E (d - 1) m_Mod_owedAll [(.ref 24, 41), (.int x1, 0)] M (fun v1 M1 =>
   CT l E (d - 1) m_Mod_owesAll [(.ref 24, 41), (.int x1, 0)] M1 (fun v2 M2 =>
    K (.int ((toI v1) - (toI v2)), 0) M2))) :
  G l E d m_Mod_balanceOf 0 [(0, (.ref 24, 41)), (1, (.int x1, 0))] [] M K := G.blk 60 _ hd ok_Mod_balanceOf rfl h
def bt_Mod_balance : BtT := [(0, [0, 1], true, [(0, .aload_n 0, 1, 0, 0, 0, m0),
   (1, .iload_n 1, 1, 0, 0, 0, m0),
   (2, .invokevirtual 280, 3, 0, 0, 1832, m_Mod_isLiving),
   (5, .ifCond .eq 15, 3, 20, 0, 0, m0),
   (8, .nop, 0, 0, 0, 0, m0)]),
  (8, [], false, [(8, .aload_n 0, 1, 0, 0, 0, m0),
   (9, .aload_n 0, 1, 0, 0, 0, m0),
   (10, .iload_n 1, 1, 0, 0, 0, m0),
   (11, .invokevirtual 366, 3, 0, 0, 1962, m_Mod_balanceOf),
   (14, .invokevirtual 76, 3, 0, 0, 1740, m_Mod_gives),
   (17, .goto 8, 3, 25, 0, 0, m0)]),
  (20, [], false, [(20, .aload_n 0, 1, 0, 0, 0, m0),
   (21, .iconst 1, 1, 0, 0, 0, m0),
   (22, .invokevirtual 72, 3, 0, 0, 1629, m_Mod_refuse),
   (25, .nop, 0, 0, 0, 0, m0)]),
  (25, [], false, [(25, .ireturn, 1, 0, 0, 0, m0)])]
theorem ok_Mod_balance : okBt m_Mod_balance bt_Mod_balance = true := by decide +kernel
set_option maxRecDepth 100000 in
theorem b_Mod_balance_0 {l : Launch} {E : EnvT} {d : Nat} {K : AV → Mem → Prop} {M : Mem} {x1 : Int32} (hd : 1 ≤ d)
  (h : CT l E (d - 1) m_Mod_isLiving [(.ref 24, 41), (.int x1, 0)] M (fun v1 M1 =>
   (((toI v1) = 0 →
    CT l E (d - 1) m_Mod_refuse [(.ref 24, 41), (.int (iN 1), 0)] M1 (fun v2 M2 =>
     K (.int (toI v2), 0) M2)) ∧
   (¬ (toI v1) = 0 →
    CT l E (d - 1) m_Mod_balanceOf [(.ref 24, 41), (.int x1, 0)] M1 (fun v3 M3 =>
     CT l E (d - 1) m_Mod_gives [(.ref 24, 41), (.int (toI v3), 0)] M3 (fun v4 M4 =>
      K (.int (toI v4), 0) M4)))))) :
  G l E d m_Mod_balance 0 [(0, (.ref 24, 41)), (1, (.int x1, 0))] [] M K := G.blk 60 _ hd ok_Mod_balance rfl h
def bt_Mod_unevenSet : BtT := [(0, [0], true, [(0, .iconst 0, 1, 0, 0, 0, m0),
   (1, .istore_n 1, 1, 0, 0, 0, m0),
   (2, .iconst 0, 1, 0, 0, 0, m0),
   (3, .istore_n 2, 1, 0, 0, 0, m0),
   (4, .nop, 0, 0, 0, 0, m0)]),
  (4, [0, 1, 2], true, [(4, .iload_n 2, 1, 0, 0, 0, m0),
   (5, .aload_n 0, 1, 0, 0, 0, m0),
   (6, .getfield 7, 3, 0, 11, 1447, m0),
   (9, .iconst 0, 1, 0, 0, 0, m0),
   (10, .iaload, 1, 0, 0, 0, m0),
   (11, .if_icmp .ge 27, 3, 38, 0, 0, m0),
   (14, .nop, 0, 0, 0, 0, m0)]),
  (14, [], false, [(14, .iload_n 1, 1, 0, 0, 0, m0),
   (15, .aload_n 0, 1, 0, 0, 0, m0),
   (16, .iload_n 2, 1, 0, 0, 0, m0),
   (17, .invokevirtual 366, 3, 0, 0, 1962, m_Mod_balanceOf),
   (20, .ifCond .eq 9, 3, 29, 0, 0, m0),
   (23, .nop, 0, 0, 0, 0, m0)]),
  (23, [], false, [(23, .iconst 1, 1, 0, 0, 0, m0),
   (24, .iload_n 2, 1, 0, 0, 0, m0),
   (25, .ishl, 1, 0, 0, 0, m0),
   (26, .goto 4, 3, 30, 0, 0, m0)]),
  (29, [], false, [(29, .iconst 0, 1, 0, 0, 0, m0),
   (30, .nop, 0, 0, 0, 0, m0)]),
  (30, [], false, [(30, .ior, 1, 0, 0, 0, m0),
   (31, .istore_n 1, 1, 0, 0, 0, m0),
   (32, .iinc 2 1, 3, 0, 0, 0, m0),
   (35, .goto (-31), 3, 4, 0, 0, m0)]),
  (38, [], false, [(38, .iload_n 1, 1, 0, 0, 0, m0),
   (39, .ireturn, 1, 0, 0, 0, m0)])]
theorem ok_Mod_unevenSet : okBt m_Mod_unevenSet bt_Mod_unevenSet = true := by decide +kernel
set_option maxRecDepth 100000 in
theorem b_Mod_unevenSet_0 {l : Launch} {E : EnvT} {d : Nat} {K : AV → Mem → Prop} {M : Mem}  (hd : 1 ≤ d)
  (h : G l E d m_Mod_unevenSet 4 [(0, (.ref 24, 41)), (1, (.int (iN 0), 0)), (2, (.int (iN 0), 0))] [] M K) :
  G l E d m_Mod_unevenSet 0 [(0, (.ref 24, 41))] [] M K := G.blk 60 _ hd ok_Mod_unevenSet rfl h
set_option maxRecDepth 100000 in
theorem b_Mod_unevenSet_4 {l : Launch} {E : EnvT} {d : Nat} {K : AV → Mem → Prop} {M : Mem} {x1 : Int32} {x2 : Int32} (hd : 1 ≤ d)
  (h : (vp_in (iN 0) 3612 ∧ (((iN (M 24 1 ((iN 0)).toNatClampNeg)) ≤ x2 →
   K (.int x1, 0) M) ∧
  (¬ (iN (M 24 1 ((iN 0)).toNatClampNeg)) ≤ x2 →
   CT l E (d - 1) m_Mod_balanceOf [(.ref 24, 41), (.int x2, 0)] M (fun v1 M1 =>
    (((toI v1) = 0 →
     G l E d m_Mod_unevenSet 4 [(0, (.ref 24, 41)), (1, (.int (x1 ||| (iN 0)), 0)), (2, (.int (x2 + iN 1), 0))] [] M1 K) ∧
    (¬ (toI v1) = 0 →
     G l E d m_Mod_unevenSet 4 [(0, (.ref 24, 41)), (1, (.int (x1 ||| ((iN 1) <<< (x2 &&& 31))), 0)), (2, (.int (x2 + iN 1), 0))] [] M1 K))))))) :
  G l E d m_Mod_unevenSet 4 [(0, (.ref 24, 41)), (1, (.int x1, 0)), (2, (.int x2, 0))] [] M K := G.blk 60 _ hd ok_Mod_unevenSet rfl h
def bt_Mod_isIn : BtT := [(0, [1, 2], true, [(0, .iload_n 1, 1, 0, 0, 0, m0),
   (1, .iload_n 2, 1, 0, 0, 0, m0),
   (2, .ishr, 1, 0, 0, 0, m0),
   (3, .iconst 1, 1, 0, 0, 0, m0),
   (4, .iand, 1, 0, 0, 0, m0),
   (5, .iconst 1, 1, 0, 0, 0, m0),
   (6, .if_icmp .ne 7, 3, 13, 0, 0, m0),
   (9, .nop, 0, 0, 0, 0, m0)]),
  (9, [], false, [(9, .iconst 1, 1, 0, 0, 0, m0),
   (10, .goto 4, 3, 14, 0, 0, m0)]),
  (13, [], false, [(13, .iconst 0, 1, 0, 0, 0, m0),
   (14, .nop, 0, 0, 0, 0, m0)]),
  (14, [], false, [(14, .ireturn, 1, 0, 0, 0, m0)])]
theorem ok_Mod_isIn : okBt m_Mod_isIn bt_Mod_isIn = true := by decide +kernel
set_option maxRecDepth 100000 in
theorem b_Mod_isIn_0 {l : Launch} {E : EnvT} {d : Nat} {K : AV → Mem → Prop} {M : Mem} {x1 : Int32} {x2 : Int32} (hd : 1 ≤ d)
  (h : ((¬ ((x1 >>> (x2 &&& 31)) &&& (iN 1)) = (iN 1) →
   ((((iN 0) = 0 ∨ (iN 0) = 1)) ∧ K (.int (iN 0), 0) M)) ∧
  (((x1 >>> (x2 &&& 31)) &&& (iN 1)) = (iN 1) →
   ((((iN 1) = 0 ∨ (iN 1) = 1)) ∧ K (.int (iN 1), 0) M)))) :
  G l E d m_Mod_isIn 0 [(0, (.ref 24, 41)), (1, (.int x1, 0)), (2, (.int x2, 0))] [] M K := G.blk 60 _ hd ok_Mod_isIn rfl h
def bt_Mod_partsOf : BtT := [(0, [0], true, [(0, .aload_n 0, 1, 0, 0, 0, m0),
   (1, .invokevirtual 369, 3, 0, 0, 1970, m_Mod_unevenSet),
   (4, .istore_n 1, 1, 0, 0, 0, m0),
   (5, .iconst 0, 1, 0, 0, 0, m0),
   (6, .istore_n 2, 1, 0, 0, 0, m0),
   (7, .nop, 0, 0, 0, 0, m0)]),
  (7, [0, 1, 2], true, [(7, .iload_n 2, 1, 0, 0, 0, m0),
   (8, .iload_n 1, 1, 0, 0, 0, m0),
   (9, .if_icmp .gt 121, 3, 130, 0, 0, m0),
   (12, .nop, 0, 0, 0, 0, m0)]),
  (12, [], false, [(12, .aload_n 0, 1, 0, 0, 0, m0),
   (13, .getfield 47, 3, 25, 11, 1472, m0),
   (16, .iload_n 2, 1, 0, 0, 0, m0),
   (17, .iconst 0, 1, 0, 0, 0, m0),
   (18, .iastore, 1, 0, 0, 0, m0),
   (19, .iload_n 2, 1, 0, 0, 0, m0),
   (20, .iload_n 1, 1, 0, 0, 0, m0),
   (21, .iconst (-1), 1, 0, 0, 0, m0),
   (22, .ixor, 1, 0, 0, 0, m0),
   (23, .iand, 1, 0, 0, 0, m0),
   (24, .ifCond .eq 6, 3, 30, 0, 0, m0),
   (27, .nop, 0, 0, 0, 0, m0)]),
  (27, [], false, [(27, .goto 97, 3, 124, 0, 0, m0)]),
  (30, [], false, [(30, .iconst 0, 1, 0, 0, 0, m0),
   (31, .istore_n 3, 1, 0, 0, 0, m0),
   (32, .iconst 0, 1, 0, 0, 0, m0),
   (33, .istore 4, 2, 0, 0, 0, m0),
   (35, .nop, 0, 0, 0, 0, m0)]),
  (35, [0, 1, 2, 3, 4], true, [(35, .iload 4, 2, 0, 0, 0, m0),
   (37, .aload_n 0, 1, 0, 0, 0, m0),
   (38, .getfield 7, 3, 0, 11, 1447, m0),
   (41, .iconst 0, 1, 0, 0, 0, m0),
   (42, .iaload, 1, 0, 0, 0, m0),
   (43, .if_icmp .ge 59, 3, 102, 0, 0, m0),
   (46, .nop, 0, 0, 0, 0, m0)]),
  (46, [], false, [(46, .aload_n 0, 1, 0, 0, 0, m0),
   (47, .iload_n 2, 1, 0, 0, 0, m0),
   (48, .iload 4, 2, 0, 0, 0, m0),
   (50, .invokevirtual 372, 3, 0, 0, 1978, m_Mod_isIn),
   (53, .ifCond .ne 6, 3, 59, 0, 0, m0),
   (56, .nop, 0, 0, 0, 0, m0)]),
  (56, [], false, [(56, .goto 40, 3, 96, 0, 0, m0)]),
  (59, [], false, [(59, .iload_n 3, 1, 0, 0, 0, m0),
   (60, .aload_n 0, 1, 0, 0, 0, m0),
   (61, .iload 4, 2, 0, 0, 0, m0),
   (63, .invokevirtual 366, 3, 0, 0, 1962, m_Mod_balanceOf),
   (66, .iadd, 1, 0, 0, 0, m0),
   (67, .istore_n 3, 1, 0, 0, 0, m0),
   (68, .aload_n 0, 1, 0, 0, 0, m0),
   (69, .getfield 47, 3, 25, 11, 1472, m0),
   (72, .iload_n 2, 1, 0, 0, 0, m0),
   (73, .aload_n 0, 1, 0, 0, 0, m0),
   (74, .getfield 47, 3, 25, 11, 1472, m0),
   (77, .iload_n 2, 1, 0, 0, 0, m0),
   (78, .iaload, 1, 0, 0, 0, m0),
   (79, .aload_n 0, 1, 0, 0, 0, m0),
   (80, .getfield 47, 3, 25, 11, 1472, m0),
   (83, .iload_n 2, 1, 0, 0, 0, m0),
   (84, .iconst 1, 1, 0, 0, 0, m0),
   (85, .iload 4, 2, 0, 0, 0, m0),
   (87, .ishl, 1, 0, 0, 0, m0),
   (88, .iconst (-1), 1, 0, 0, 0, m0),
   (89, .ixor, 1, 0, 0, 0, m0),
   (90, .iand, 1, 0, 0, 0, m0),
   (91, .iaload, 1, 0, 0, 0, m0),
   (92, .invokestatic 343, 3, 0, 0, 1909, m_Math_max),
   (95, .iastore, 1, 0, 0, 0, m0),
   (96, .nop, 0, 0, 0, 0, m0)]),
  (96, [], false, [(96, .iinc 4 1, 3, 0, 0, 0, m0),
   (99, .goto (-64), 3, 35, 0, 0, m0)]),
  (102, [], false, [(102, .aload_n 0, 1, 0, 0, 0, m0),
   (103, .getfield 47, 3, 25, 11, 1472, m0),
   (106, .iload_n 2, 1, 0, 0, 0, m0),
   (107, .dup2, 1, 0, 0, 0, m0),
   (108, .iaload, 1, 0, 0, 0, m0),
   (109, .iload_n 2, 1, 0, 0, 0, m0),
   (110, .ifCond .eq 11, 3, 121, 0, 0, m0),
   (113, .nop, 0, 0, 0, 0, m0)]),
  (113, [], false, [(113, .iload_n 3, 1, 0, 0, 0, m0),
   (114, .ifCond .ne 7, 3, 121, 0, 0, m0),
   (117, .nop, 0, 0, 0, 0, m0)]),
  (117, [], false, [(117, .iconst 1, 1, 0, 0, 0, m0),
   (118, .goto 4, 3, 122, 0, 0, m0)]),
  (121, [], false, [(121, .iconst 0, 1, 0, 0, 0, m0),
   (122, .nop, 0, 0, 0, 0, m0)]),
  (122, [], false, [(122, .iadd, 1, 0, 0, 0, m0),
   (123, .iastore, 1, 0, 0, 0, m0),
   (124, .nop, 0, 0, 0, 0, m0)]),
  (124, [], false, [(124, .iinc 2 1, 3, 0, 0, 0, m0),
   (127, .goto (-120), 3, 7, 0, 0, m0)]),
  (130, [], false, [(130, .aload_n 0, 1, 0, 0, 0, m0),
   (131, .getfield 47, 3, 25, 11, 1472, m0),
   (134, .iload_n 1, 1, 0, 0, 0, m0),
   (135, .iaload, 1, 0, 0, 0, m0),
   (136, .ireturn, 1, 0, 0, 0, m0)])]
theorem ok_Mod_partsOf : okBt m_Mod_partsOf bt_Mod_partsOf = true := by decide +kernel
set_option maxRecDepth 100000 in
theorem b_Mod_partsOf_0 {l : Launch} {E : EnvT} {d : Nat} {K : AV → Mem → Prop} {M : Mem}  (hd : 1 ≤ d)
  (h : CT l E (d - 1) m_Mod_unevenSet [(.ref 24, 41)] M (fun v1 M1 =>
   G l E d m_Mod_partsOf 7 [(0, (.ref 24, 41)), (1, (.int (toI v1), 0)), (2, (.int (iN 0), 0))] [] M1 K)) :
  G l E d m_Mod_partsOf 0 [(0, (.ref 24, 41))] [] M K := G.blk 60 _ hd ok_Mod_partsOf rfl h
set_option maxRecDepth 100000 in
theorem b_Mod_partsOf_7 {l : Launch} {E : EnvT} {d : Nat} {K : AV → Mem → Prop} {M : Mem} {x1 : Int32} {x2 : Int32} (hd : 1 ≤ d)
  (h : ((x1 < x2 →
   (vp_in x1 256 ∧ K (.int (iN (M 24 9 (x1).toNatClampNeg)), 0) M)) ∧
  (¬ x1 < x2 →
   (vp_in x2 256 ∧ (((x2 &&& (x1 ^^^ (iN (-1)))) = 0 →
    G l E d m_Mod_partsOf 35 [(0, (.ref 24, 41)), (1, (.int x1, 0)), (2, (.int x2, 0)), (3, (.int (iN 0), 0)), (4, (.int (iN 0), 0))] [] (upd3 M 24 9 (x2).toNatClampNeg ((iN 0)).toInt) K) ∧
   (¬ (x2 &&& (x1 ^^^ (iN (-1)))) = 0 →
    G l E d m_Mod_partsOf 7 [(0, (.ref 24, 41)), (1, (.int x1, 0)), (2, (.int (x2 + iN 1), 0))] [] (upd3 M 24 9 (x2).toNatClampNeg ((iN 0)).toInt) K)))))) :
  G l E d m_Mod_partsOf 7 [(0, (.ref 24, 41)), (1, (.int x1, 0)), (2, (.int x2, 0))] [] M K := G.blk 60 _ hd ok_Mod_partsOf rfl h
set_option maxRecDepth 100000 in
theorem b_Mod_partsOf_35 {l : Launch} {E : EnvT} {d : Nat} {K : AV → Mem → Prop} {M : Mem} {x1 : Int32} {x2 : Int32} {x3 : Int32} {x4 : Int32} (hd : 1 ≤ d)
  (h : (vp_in (iN 0) 3612 ∧ (((iN (M 24 1 ((iN 0)).toNatClampNeg)) ≤ x4 →
   (vp_in x2 256 ∧ ((x2 = 0 →
    (vp_in x2 256 ∧ G l E d m_Mod_partsOf 7 [(0, (.ref 24, 41)), (1, (.int x1, 0)), (2, (.int (x2 + iN 1), 0))] [] (upd3 M 24 9 (x2).toNatClampNeg (((iN (M 24 9 (x2).toNatClampNeg)) + (iN 0))).toInt) K)) ∧
   (¬ x2 = 0 →
    ((¬ x3 = 0 →
     (vp_in x2 256 ∧ G l E d m_Mod_partsOf 7 [(0, (.ref 24, 41)), (1, (.int x1, 0)), (2, (.int (x2 + iN 1), 0))] [] (upd3 M 24 9 (x2).toNatClampNeg (((iN (M 24 9 (x2).toNatClampNeg)) + (iN 0))).toInt) K)) ∧
    (x3 = 0 →
     (vp_in x2 256 ∧ G l E d m_Mod_partsOf 7 [(0, (.ref 24, 41)), (1, (.int x1, 0)), (2, (.int (x2 + iN 1), 0))] [] (upd3 M 24 9 (x2).toNatClampNeg (((iN (M 24 9 (x2).toNatClampNeg)) + (iN 1))).toInt) K))))))) ∧
  (¬ (iN (M 24 1 ((iN 0)).toNatClampNeg)) ≤ x4 →
   CT l E (d - 1) m_Mod_isIn [(.ref 24, 41), (.int x2, 0), (.int x4, 0)] M (fun v1 M1 =>
    ((¬ (toI v1) = 0 →
     CT l E (d - 1) m_Mod_balanceOf [(.ref 24, 41), (.int x4, 0)] M1 (fun v2 M2 =>
      (vp_in x2 256 ∧ vp_in (x2 &&& (((iN 1) <<< (x4 &&& 31)) ^^^ (iN (-1)))) 256 ∧ CT l E (d - 1) m_Math_max [(.int (iN (M2 24 9 (x2).toNatClampNeg)), 0), (.int (iN (M2 24 9 ((x2 &&& (((iN 1) <<< (x4 &&& 31)) ^^^ (iN (-1))))).toNatClampNeg)), 0)] M2 (fun v3 M3 =>
       (vp_in x2 256 ∧ G l E d m_Mod_partsOf 35 [(0, (.ref 24, 41)), (1, (.int x1, 0)), (2, (.int x2, 0)), (3, (.int (x3 + (toI v2)), 0)), (4, (.int (x4 + iN 1), 0))] [] (upd3 M3 24 9 (x2).toNatClampNeg ((toI v3)).toInt) K))))) ∧
    ((toI v1) = 0 →
     G l E d m_Mod_partsOf 35 [(0, (.ref 24, 41)), (1, (.int x1, 0)), (2, (.int x2, 0)), (3, (.int x3, 0)), (4, (.int (x4 + iN 1), 0))] [] M1 K))))))) :
  G l E d m_Mod_partsOf 35 [(0, (.ref 24, 41)), (1, (.int x1, 0)), (2, (.int x2, 0)), (3, (.int x3, 0)), (4, (.int x4, 0))] [] M K := G.blk 60 _ hd ok_Mod_partsOf rfl h
def bt_Mod_payings : BtT := [(0, [0], true, [(0, .aload_n 0, 1, 0, 0, 0, m0),
   (1, .aload_n 0, 1, 0, 0, 0, m0),
   (2, .invokevirtual 369, 3, 0, 0, 1970, m_Mod_unevenSet),
   (5, .invokestatic 295, 3, 0, 0, 1922, m_Mod_bits),
   (8, .aload_n 0, 1, 0, 0, 0, m0),
   (9, .invokevirtual 375, 3, 0, 0, 1974, m_Mod_partsOf),
   (12, .isub, 1, 0, 0, 0, m0),
   (13, .invokevirtual 76, 3, 0, 0, 1740, m_Mod_gives),
   (16, .ireturn, 1, 0, 0, 0, m0)])]
theorem ok_Mod_payings : okBt m_Mod_payings bt_Mod_payings = true := by decide +kernel
set_option maxRecDepth 100000 in
theorem b_Mod_payings_0 {l : Launch} {E : EnvT} {d : Nat} {K : AV → Mem → Prop} {M : Mem}  (hd : 1 ≤ d)
  (h : CT l E (d - 1) m_Mod_unevenSet [(.ref 24, 41)] M (fun v1 M1 =>
   CT l E (d - 1) m_Mod_bits [(.int (toI v1), 0)] M1 (fun v2 M2 =>
    CT l E (d - 1) m_Mod_partsOf [(.ref 24, 41)] M2 (fun v3 M3 =>
     CT l E (d - 1) m_Mod_gives [(.ref 24, 41), (.int ((toI v2) - (toI v3)), 0)] M3 (fun v4 M4 =>
      K (.int (toI v4), 0) M4))))) :
  G l E d m_Mod_payings 0 [(0, (.ref 24, 41))] [] M K := G.blk 60 _ hd ok_Mod_payings rfl h
def bt_Mod_parts : BtT := [(0, [0], true, [(0, .aload_n 0, 1, 0, 0, 0, m0),
   (1, .aload_n 0, 1, 0, 0, 0, m0),
   (2, .invokevirtual 375, 3, 0, 0, 1974, m_Mod_partsOf),
   (5, .invokevirtual 76, 3, 0, 0, 1740, m_Mod_gives),
   (8, .ireturn, 1, 0, 0, 0, m0)])]
theorem ok_Mod_parts : okBt m_Mod_parts bt_Mod_parts = true := by decide +kernel
set_option maxRecDepth 100000 in
theorem b_Mod_parts_0 {l : Launch} {E : EnvT} {d : Nat} {K : AV → Mem → Prop} {M : Mem}  (hd : 1 ≤ d)
  (h : CT l E (d - 1) m_Mod_partsOf [(.ref 24, 41)] M (fun v1 M1 =>
   CT l E (d - 1) m_Mod_gives [(.ref 24, 41), (.int (toI v1), 0)] M1 (fun v2 M2 =>
    K (.int (toI v2), 0) M2))) :
  G l E d m_Mod_parts 0 [(0, (.ref 24, 41))] [] M K := G.blk 60 _ hd ok_Mod_parts rfl h
def bt_Mod_lackOf : BtT := [(0, [0, 1], true, [(0, .aload_n 0, 1, 0, 0, 0, m0),
   (1, .iload_n 1, 1, 0, 0, 0, m0),
   (2, .invokevirtual 277, 3, 0, 0, 1836, m_Mod_isDead),
   (5, .ifCond .eq 7, 3, 12, 0, 0, m0),
   (8, .nop, 0, 0, 0, 0, m0)]),
  (8, [], false, [(8, .iconst 0, 1, 0, 0, 0, m0),
   (9, .goto 20, 3, 29, 0, 0, m0)]),
  (12, [], false, [(12, .iconst 0, 1, 0, 0, 0, m0),
   (13, .aload_n 0, 1, 0, 0, 0, m0),
   (14, .iload_n 1, 1, 0, 0, 0, m0),
   (15, .iconst 0, 1, 0, 0, 0, m0),
   (16, .invokevirtual 171, 3, 0, 0, 1708, m_Mod_of),
   (19, .ineg, 1, 0, 0, 0, m0),
   (20, .aload_n 0, 1, 0, 0, 0, m0),
   (21, .iload_n 1, 1, 0, 0, 0, m0),
   (22, .invokevirtual 366, 3, 0, 0, 1962, m_Mod_balanceOf),
   (25, .isub, 1, 0, 0, 0, m0),
   (26, .invokestatic 343, 3, 0, 0, 1909, m_Math_max),
   (29, .nop, 0, 0, 0, 0, m0)]),
  (29, [], false, [(29, .ireturn, 1, 0, 0, 0, m0)])]
theorem ok_Mod_lackOf : okBt m_Mod_lackOf bt_Mod_lackOf = true := by decide +kernel
set_option maxRecDepth 100000 in
theorem b_Mod_lackOf_0 {l : Launch} {E : EnvT} {d : Nat} {K : AV → Mem → Prop} {M : Mem} {x1 : Int32} (hd : 1 ≤ d)
  (h : CT l E (d - 1) m_Mod_isDead [(.ref 24, 41), (.int x1, 0)] M (fun v1 M1 =>
   (((toI v1) = 0 →
    CT l E (d - 1) m_Mod_of [(.ref 24, 41), (.int x1, 0), (.int (iN 0), 0)] M1 (fun v2 M2 =>
     CT l E (d - 1) m_Mod_balanceOf [(.ref 24, 41), (.int x1, 0)] M2 (fun v3 M3 =>
      CT l E (d - 1) m_Math_max [(.int (iN 0), 0), (.int ((-(toI v2)) - (toI v3)), 0)] M3 (fun v4 M4 =>
       K (.int (toI v4), 0) M4)))) ∧
   (¬ (toI v1) = 0 →
    K (.int (iN 0), 0) M1)))) :
  G l E d m_Mod_lackOf 0 [(0, (.ref 24, 41)), (1, (.int x1, 0))] [] M K := G.blk 60 _ hd ok_Mod_lackOf rfl h
def bt_Mod_shorts : BtT := [(0, [0], true, [(0, .iconst 0, 1, 0, 0, 0, m0),
   (1, .istore_n 1, 1, 0, 0, 0, m0),
   (2, .iconst 0, 1, 0, 0, 0, m0),
   (3, .istore_n 2, 1, 0, 0, 0, m0),
   (4, .nop, 0, 0, 0, 0, m0)]),
  (4, [0, 1, 2], true, [(4, .iload_n 2, 1, 0, 0, 0, m0),
   (5, .aload_n 0, 1, 0, 0, 0, m0),
   (6, .getfield 7, 3, 0, 11, 1447, m0),
   (9, .iconst 0, 1, 0, 0, 0, m0),
   (10, .iaload, 1, 0, 0, 0, m0),
   (11, .if_icmp .ge 27, 3, 38, 0, 0, m0),
   (14, .nop, 0, 0, 0, 0, m0)]),
  (14, [], false, [(14, .iload_n 1, 1, 0, 0, 0, m0),
   (15, .aload_n 0, 1, 0, 0, 0, m0),
   (16, .iload_n 2, 1, 0, 0, 0, m0),
   (17, .invokevirtual 378, 3, 0, 0, 1990, m_Mod_lackOf),
   (20, .ifCond .le 9, 3, 29, 0, 0, m0),
   (23, .nop, 0, 0, 0, 0, m0)]),
  (23, [], false, [(23, .iconst 1, 1, 0, 0, 0, m0),
   (24, .iload_n 2, 1, 0, 0, 0, m0),
   (25, .ishl, 1, 0, 0, 0, m0),
   (26, .goto 4, 3, 30, 0, 0, m0)]),
  (29, [], false, [(29, .iconst 0, 1, 0, 0, 0, m0),
   (30, .nop, 0, 0, 0, 0, m0)]),
  (30, [], false, [(30, .ior, 1, 0, 0, 0, m0),
   (31, .istore_n 1, 1, 0, 0, 0, m0),
   (32, .iinc 2 1, 3, 0, 0, 0, m0),
   (35, .goto (-31), 3, 4, 0, 0, m0)]),
  (38, [], false, [(38, .aload_n 0, 1, 0, 0, 0, m0),
   (39, .iload_n 1, 1, 0, 0, 0, m0),
   (40, .invokevirtual 76, 3, 0, 0, 1740, m_Mod_gives),
   (43, .ireturn, 1, 0, 0, 0, m0)])]
theorem ok_Mod_shorts : okBt m_Mod_shorts bt_Mod_shorts = true := by decide +kernel
set_option maxRecDepth 100000 in
theorem b_Mod_shorts_0 {l : Launch} {E : EnvT} {d : Nat} {K : AV → Mem → Prop} {M : Mem}  (hd : 1 ≤ d)
  (h : G l E d m_Mod_shorts 4 [(0, (.ref 24, 41)), (1, (.int (iN 0), 0)), (2, (.int (iN 0), 0))] [] M K) :
  G l E d m_Mod_shorts 0 [(0, (.ref 24, 41))] [] M K := G.blk 60 _ hd ok_Mod_shorts rfl h
set_option maxRecDepth 100000 in
theorem b_Mod_shorts_4 {l : Launch} {E : EnvT} {d : Nat} {K : AV → Mem → Prop} {M : Mem} {x1 : Int32} {x2 : Int32} (hd : 1 ≤ d)
  (h : (vp_in (iN 0) 3612 ∧ (((iN (M 24 1 ((iN 0)).toNatClampNeg)) ≤ x2 →
   CT l E (d - 1) m_Mod_gives [(.ref 24, 41), (.int x1, 0)] M (fun v1 M1 =>
    K (.int (toI v1), 0) M1)) ∧
  (¬ (iN (M 24 1 ((iN 0)).toNatClampNeg)) ≤ x2 →
   CT l E (d - 1) m_Mod_lackOf [(.ref 24, 41), (.int x2, 0)] M (fun v2 M2 =>
    (((toI v2) ≤ 0 →
     G l E d m_Mod_shorts 4 [(0, (.ref 24, 41)), (1, (.int (x1 ||| (iN 0)), 0)), (2, (.int (x2 + iN 1), 0))] [] M2 K) ∧
    (¬ (toI v2) ≤ 0 →
     G l E d m_Mod_shorts 4 [(0, (.ref 24, 41)), (1, (.int (x1 ||| ((iN 1) <<< (x2 &&& 31))), 0)), (2, (.int (x2 + iN 1), 0))] [] M2 K))))))) :
  G l E d m_Mod_shorts 4 [(0, (.ref 24, 41)), (1, (.int x1, 0)), (2, (.int x2, 0))] [] M K := G.blk 60 _ hd ok_Mod_shorts rfl h
def bt_Mod_lacking : BtT := [(0, [0], true, [(0, .iconst 0, 1, 0, 0, 0, m0),
   (1, .istore_n 1, 1, 0, 0, 0, m0),
   (2, .iconst 0, 1, 0, 0, 0, m0),
   (3, .istore_n 2, 1, 0, 0, 0, m0),
   (4, .nop, 0, 0, 0, 0, m0)]),
  (4, [0, 1, 2], true, [(4, .iload_n 2, 1, 0, 0, 0, m0),
   (5, .aload_n 0, 1, 0, 0, 0, m0),
   (6, .getfield 7, 3, 0, 11, 1447, m0),
   (9, .iconst 0, 1, 0, 0, 0, m0),
   (10, .iaload, 1, 0, 0, 0, m0),
   (11, .if_icmp .ge 17, 3, 28, 0, 0, m0),
   (14, .nop, 0, 0, 0, 0, m0)]),
  (14, [], false, [(14, .iload_n 1, 1, 0, 0, 0, m0),
   (15, .aload_n 0, 1, 0, 0, 0, m0),
   (16, .iload_n 2, 1, 0, 0, 0, m0),
   (17, .invokevirtual 378, 3, 0, 0, 1990, m_Mod_lackOf),
   (20, .iadd, 1, 0, 0, 0, m0),
   (21, .istore_n 1, 1, 0, 0, 0, m0),
   (22, .iinc 2 1, 3, 0, 0, 0, m0),
   (25, .goto (-21), 3, 4, 0, 0, m0)]),
  (28, [], false, [(28, .aload_n 0, 1, 0, 0, 0, m0),
   (29, .iload_n 1, 1, 0, 0, 0, m0),
   (30, .invokevirtual 76, 3, 0, 0, 1740, m_Mod_gives),
   (33, .ireturn, 1, 0, 0, 0, m0)])]
theorem ok_Mod_lacking : okBt m_Mod_lacking bt_Mod_lacking = true := by decide +kernel
set_option maxRecDepth 100000 in
theorem b_Mod_lacking_0 {l : Launch} {E : EnvT} {d : Nat} {K : AV → Mem → Prop} {M : Mem}  (hd : 1 ≤ d)
  (h : G l E d m_Mod_lacking 4 [(0, (.ref 24, 41)), (1, (.int (iN 0), 0)), (2, (.int (iN 0), 0))] [] M K) :
  G l E d m_Mod_lacking 0 [(0, (.ref 24, 41))] [] M K := G.blk 60 _ hd ok_Mod_lacking rfl h
set_option maxRecDepth 100000 in
theorem b_Mod_lacking_4 {l : Launch} {E : EnvT} {d : Nat} {K : AV → Mem → Prop} {M : Mem} {x1 : Int32} {x2 : Int32} (hd : 1 ≤ d)
  (h : (vp_in (iN 0) 3612 ∧ (((iN (M 24 1 ((iN 0)).toNatClampNeg)) ≤ x2 →
   CT l E (d - 1) m_Mod_gives [(.ref 24, 41), (.int x1, 0)] M (fun v1 M1 =>
    K (.int (toI v1), 0) M1)) ∧
  (¬ (iN (M 24 1 ((iN 0)).toNatClampNeg)) ≤ x2 →
   CT l E (d - 1) m_Mod_lackOf [(.ref 24, 41), (.int x2, 0)] M (fun v2 M2 =>
    G l E d m_Mod_lacking 4 [(0, (.ref 24, 41)), (1, (.int (x1 + (toI v2)), 0)), (2, (.int (x2 + iN 1), 0))] [] M2 K))))) :
  G l E d m_Mod_lacking 4 [(0, (.ref 24, 41)), (1, (.int x1, 0)), (2, (.int x2, 0))] [] M K := G.blk 60 _ hd ok_Mod_lacking rfl h
def bt_Mod_richest : BtT := [(0, [0], true, [(0, .iconst (-1), 1, 0, 0, 0, m0),
   (1, .istore_n 1, 1, 0, 0, 0, m0),
   (2, .iconst 0, 1, 0, 0, 0, m0),
   (3, .istore_n 2, 1, 0, 0, 0, m0),
   (4, .nop, 0, 0, 0, 0, m0)]),
  (4, [0, 1, 2], true, [(4, .iload_n 2, 1, 0, 0, 0, m0),
   (5, .aload_n 0, 1, 0, 0, 0, m0),
   (6, .getfield 7, 3, 0, 11, 1447, m0),
   (9, .iconst 0, 1, 0, 0, 0, m0),
   (10, .iaload, 1, 0, 0, 0, m0),
   (11, .if_icmp .ge 33, 3, 44, 0, 0, m0),
   (14, .nop, 0, 0, 0, 0, m0)]),
  (14, [], false, [(14, .aload_n 0, 1, 0, 0, 0, m0),
   (15, .iload_n 2, 1, 0, 0, 0, m0),
   (16, .invokevirtual 307, 3, 0, 0, 1804, m_Mod_owedAll),
   (19, .iload_n 1, 1, 0, 0, 0, m0),
   (20, .iconst (-1), 1, 0, 0, 0, m0),
   (21, .if_icmp .ne 7, 3, 28, 0, 0, m0),
   (24, .nop, 0, 0, 0, 0, m0)]),
  (24, [], false, [(24, .iconst 0, 1, 0, 0, 0, m0),
   (25, .goto 8, 3, 33, 0, 0, m0)]),
  (28, [], false, [(28, .aload_n 0, 1, 0, 0, 0, m0),
   (29, .iload_n 1, 1, 0, 0, 0, m0),
   (30, .invokevirtual 307, 3, 0, 0, 1804, m_Mod_owedAll),
   (33, .nop, 0, 0, 0, 0, m0)]),
  (33, [], false, [(33, .if_icmp .le 5, 3, 38, 0, 0, m0),
   (36, .nop, 0, 0, 0, 0, m0)]),
  (36, [], false, [(36, .iload_n 2, 1, 0, 0, 0, m0),
   (37, .istore_n 1, 1, 0, 0, 0, m0),
   (38, .nop, 0, 0, 0, 0, m0)]),
  (38, [], false, [(38, .iinc 2 1, 3, 0, 0, 0, m0),
   (41, .goto (-37), 3, 4, 0, 0, m0)]),
  (44, [], false, [(44, .aload_n 0, 1, 0, 0, 0, m0),
   (45, .iload_n 1, 1, 0, 0, 0, m0),
   (46, .invokevirtual 304, 3, 0, 0, 1800, m_Mod_orNone),
   (49, .ireturn, 1, 0, 0, 0, m0)])]
theorem ok_Mod_richest : okBt m_Mod_richest bt_Mod_richest = true := by decide +kernel
set_option maxRecDepth 100000 in
theorem b_Mod_richest_0 {l : Launch} {E : EnvT} {d : Nat} {K : AV → Mem → Prop} {M : Mem}  (hd : 1 ≤ d)
  (h : G l E d m_Mod_richest 4 [(0, (.ref 24, 41)), (1, (.int (iN (-1)), 0)), (2, (.int (iN 0), 0))] [] M K) :
  G l E d m_Mod_richest 0 [(0, (.ref 24, 41))] [] M K := G.blk 60 _ hd ok_Mod_richest rfl h
set_option maxRecDepth 100000 in
theorem b_Mod_richest_4 {l : Launch} {E : EnvT} {d : Nat} {K : AV → Mem → Prop} {M : Mem} {x1 : Int32} {x2 : Int32} (hd : 1 ≤ d)
  (h : (vp_in (iN 0) 3612 ∧ (((iN (M 24 1 ((iN 0)).toNatClampNeg)) ≤ x2 →
   CT l E (d - 1) m_Mod_orNone [(.ref 24, 41), (.int x1, 0)] M (fun v1 M1 =>
    K (.int (toI v1), 0) M1)) ∧
  (¬ (iN (M 24 1 ((iN 0)).toNatClampNeg)) ≤ x2 →
   CT l E (d - 1) m_Mod_owedAll [(.ref 24, 41), (.int x2, 0)] M (fun v2 M2 =>
    ((¬ x1 = (iN (-1)) →
     CT l E (d - 1) m_Mod_owedAll [(.ref 24, 41), (.int x1, 0)] M2 (fun v3 M3 =>
      (((toI v2) ≤ (toI v3) →
       G l E d m_Mod_richest 4 [(0, (.ref 24, 41)), (1, (.int x1, 0)), (2, (.int (x2 + iN 1), 0))] [] M3 K) ∧
      (¬ (toI v2) ≤ (toI v3) →
       G l E d m_Mod_richest 4 [(0, (.ref 24, 41)), (1, (.int x2, 0)), (2, (.int (x2 + iN 1), 0))] [] M3 K)))) ∧
    (x1 = (iN (-1)) →
     (((toI v2) ≤ (iN 0) →
      G l E d m_Mod_richest 4 [(0, (.ref 24, 41)), (1, (.int x1, 0)), (2, (.int (x2 + iN 1), 0))] [] M2 K) ∧
     (¬ (toI v2) ≤ (iN 0) →
      G l E d m_Mod_richest 4 [(0, (.ref 24, 41)), (1, (.int x2, 0)), (2, (.int (x2 + iN 1), 0))] [] M2 K))))))))) :
  G l E d m_Mod_richest 4 [(0, (.ref 24, 41)), (1, (.int x1, 0)), (2, (.int x2, 0))] [] M K := G.blk 60 _ hd ok_Mod_richest rfl h
def bt_Mod_deepest : BtT := [(0, [0], true, [(0, .iconst (-1), 1, 0, 0, 0, m0),
   (1, .istore_n 1, 1, 0, 0, 0, m0),
   (2, .iconst 0, 1, 0, 0, 0, m0),
   (3, .istore_n 2, 1, 0, 0, 0, m0),
   (4, .nop, 0, 0, 0, 0, m0)]),
  (4, [0, 1, 2], true, [(4, .iload_n 2, 1, 0, 0, 0, m0),
   (5, .aload_n 0, 1, 0, 0, 0, m0),
   (6, .getfield 7, 3, 0, 11, 1447, m0),
   (9, .iconst 0, 1, 0, 0, 0, m0),
   (10, .iaload, 1, 0, 0, 0, m0),
   (11, .if_icmp .ge 33, 3, 44, 0, 0, m0),
   (14, .nop, 0, 0, 0, 0, m0)]),
  (14, [], false, [(14, .aload_n 0, 1, 0, 0, 0, m0),
   (15, .iload_n 2, 1, 0, 0, 0, m0),
   (16, .invokevirtual 289, 3, 0, 0, 1776, m_Mod_owesAll),
   (19, .iload_n 1, 1, 0, 0, 0, m0),
   (20, .iconst (-1), 1, 0, 0, 0, m0),
   (21, .if_icmp .ne 7, 3, 28, 0, 0, m0),
   (24, .nop, 0, 0, 0, 0, m0)]),
  (24, [], false, [(24, .iconst 0, 1, 0, 0, 0, m0),
   (25, .goto 8, 3, 33, 0, 0, m0)]),
  (28, [], false, [(28, .aload_n 0, 1, 0, 0, 0, m0),
   (29, .iload_n 1, 1, 0, 0, 0, m0),
   (30, .invokevirtual 289, 3, 0, 0, 1776, m_Mod_owesAll),
   (33, .nop, 0, 0, 0, 0, m0)]),
  (33, [], false, [(33, .if_icmp .le 5, 3, 38, 0, 0, m0),
   (36, .nop, 0, 0, 0, 0, m0)]),
  (36, [], false, [(36, .iload_n 2, 1, 0, 0, 0, m0),
   (37, .istore_n 1, 1, 0, 0, 0, m0),
   (38, .nop, 0, 0, 0, 0, m0)]),
  (38, [], false, [(38, .iinc 2 1, 3, 0, 0, 0, m0),
   (41, .goto (-37), 3, 4, 0, 0, m0)]),
  (44, [], false, [(44, .aload_n 0, 1, 0, 0, 0, m0),
   (45, .iload_n 1, 1, 0, 0, 0, m0),
   (46, .invokevirtual 304, 3, 0, 0, 1800, m_Mod_orNone),
   (49, .ireturn, 1, 0, 0, 0, m0)])]
theorem ok_Mod_deepest : okBt m_Mod_deepest bt_Mod_deepest = true := by decide +kernel
set_option maxRecDepth 100000 in
theorem b_Mod_deepest_0 {l : Launch} {E : EnvT} {d : Nat} {K : AV → Mem → Prop} {M : Mem}  (hd : 1 ≤ d)
  (h : G l E d m_Mod_deepest 4 [(0, (.ref 24, 41)), (1, (.int (iN (-1)), 0)), (2, (.int (iN 0), 0))] [] M K) :
  G l E d m_Mod_deepest 0 [(0, (.ref 24, 41))] [] M K := G.blk 60 _ hd ok_Mod_deepest rfl h
set_option maxRecDepth 100000 in
theorem b_Mod_deepest_4 {l : Launch} {E : EnvT} {d : Nat} {K : AV → Mem → Prop} {M : Mem} {x1 : Int32} {x2 : Int32} (hd : 1 ≤ d)
  (h : (vp_in (iN 0) 3612 ∧ (((iN (M 24 1 ((iN 0)).toNatClampNeg)) ≤ x2 →
   CT l E (d - 1) m_Mod_orNone [(.ref 24, 41), (.int x1, 0)] M (fun v1 M1 =>
    K (.int (toI v1), 0) M1)) ∧
  (¬ (iN (M 24 1 ((iN 0)).toNatClampNeg)) ≤ x2 →
   CT l E (d - 1) m_Mod_owesAll [(.ref 24, 41), (.int x2, 0)] M (fun v2 M2 =>
    ((¬ x1 = (iN (-1)) →
     CT l E (d - 1) m_Mod_owesAll [(.ref 24, 41), (.int x1, 0)] M2 (fun v3 M3 =>
      (((toI v2) ≤ (toI v3) →
       G l E d m_Mod_deepest 4 [(0, (.ref 24, 41)), (1, (.int x1, 0)), (2, (.int (x2 + iN 1), 0))] [] M3 K) ∧
      (¬ (toI v2) ≤ (toI v3) →
       G l E d m_Mod_deepest 4 [(0, (.ref 24, 41)), (1, (.int x2, 0)), (2, (.int (x2 + iN 1), 0))] [] M3 K)))) ∧
    (x1 = (iN (-1)) →
     (((toI v2) ≤ (iN 0) →
      G l E d m_Mod_deepest 4 [(0, (.ref 24, 41)), (1, (.int x1, 0)), (2, (.int (x2 + iN 1), 0))] [] M2 K) ∧
     (¬ (toI v2) ≤ (iN 0) →
      G l E d m_Mod_deepest 4 [(0, (.ref 24, 41)), (1, (.int x2, 0)), (2, (.int (x2 + iN 1), 0))] [] M2 K))))))))) :
  G l E d m_Mod_deepest 4 [(0, (.ref 24, 41)), (1, (.int x1, 0)), (2, (.int x2, 0))] [] M K := G.blk 60 _ hd ok_Mod_deepest rfl h
def bt_Mod_tellsBy : BtT := [(0, [0, 1, 3], true, [(0, .lload_n 1, 1, 0, 0, 0, m0),
   (1, .lstore 5, 2, 0, 0, 0, m0),
   (3, .lload_n 3, 1, 0, 0, 0, m0),
   (4, .lstore 7, 2, 0, 0, 0, m0),
   (6, .nop, 0, 0, 0, 0, m0)]),
  (6, [0, 1, 3, 5, 7], true, [(6, .lload 7, 2, 0, 0, 0, m0),
   (8, .lconst 0, 1, 0, 0, 0, m0),
   (9, .lcmp, 1, 0, 0, 0, m0),
   (10, .ifCond .eq 21, 3, 31, 0, 0, m0),
   (13, .nop, 0, 0, 0, 0, m0)]),
  (13, [], false, [(13, .lload 5, 2, 0, 0, 0, m0),
   (15, .lload 7, 2, 0, 0, 0, m0),
   (17, .lrem, 1, 0, 0, 0, m0),
   (18, .lstore 9, 2, 0, 0, 0, m0),
   (20, .lload 7, 2, 0, 0, 0, m0),
   (22, .lstore 5, 2, 0, 0, 0, m0),
   (24, .lload 9, 2, 0, 0, 0, m0),
   (26, .lstore 7, 2, 0, 0, 0, m0),
   (28, .goto (-22), 3, 6, 0, 0, m0)]),
  (31, [], false, [(31, .aload_n 0, 1, 0, 0, 0, m0),
   (32, .lload_n 1, 1, 0, 0, 0, m0),
   (33, .lload 5, 2, 0, 0, 0, m0),
   (35, .ldiv, 1, 0, 0, 0, m0),
   (36, .putfield 69, 3, 3, 11, 1450, m0),
   (39, .aload_n 0, 1, 0, 0, 0, m0),
   (40, .lload_n 3, 1, 0, 0, 0, m0),
   (41, .lload 5, 2, 0, 0, 0, m0),
   (43, .ldiv, 1, 0, 0, 0, m0),
   (44, .putfield 17, 3, 4, 11, 1451, m0),
   (47, .aload_n 0, 1, 0, 0, 0, m0),
   (48, .iconst 0, 1, 0, 0, 0, m0),
   (49, .invokevirtual 79, 3, 0, 0, 1569, m_Mod_is),
   (52, .ireturn, 1, 0, 0, 0, m0)])]
theorem ok_Mod_tellsBy : okBt m_Mod_tellsBy bt_Mod_tellsBy = true := by decide +kernel
set_option maxRecDepth 100000 in
theorem b_Mod_tellsBy_0 {l : Launch} {E : EnvT} {d : Nat} {K : AV → Mem → Prop} {M : Mem} {x1 : Int64} {x3 : Int64} (hd : 1 ≤ d)
  (h : G l E d m_Mod_tellsBy 6 [(0, (.ref 24, 41)), (1, (.long x1, 0)), (3, (.long x3, 0)), (5, (.long x1, 0)), (7, (.long x3, 0))] [] M K) :
  G l E d m_Mod_tellsBy 0 [(0, (.ref 24, 41)), (1, (.long x1, 0)), (3, (.long x3, 0))] [] M K := G.blk 60 _ hd ok_Mod_tellsBy rfl h
set_option maxRecDepth 100000 in
theorem b_Mod_tellsBy_6 {l : Launch} {E : EnvT} {d : Nat} {K : AV → Mem → Prop} {M : Mem} {x1 : Int64} {x3 : Int64} {x5 : Int64} {x7 : Int64} (hd : 1 ≤ d)
  (h : (((lg_cmp x7 (lI 0)) = 0 →
   (¬ x5 = 0 ∧ ¬ x5 = 0 ∧ CT l E (d - 1) m_Mod_is [(.ref 24, 41), (.int (iN 0), 0)] (upd3 (upd3 M 24 0 3 ((x1 / x5)).toInt) 24 0 4 ((x3 / x5)).toInt) (fun v1 M1 =>
    ((((toI v1) = 0 ∨ (toI v1) = 1)) ∧ K (.int (toI v1), 0) M1)))) ∧
  (¬ (lg_cmp x7 (lI 0)) = 0 →
   (¬ x7 = 0 ∧ G l E d m_Mod_tellsBy 6 [(0, (.ref 24, 41)), (1, (.long x1, 0)), (3, (.long x3, 0)), (5, (.long x7, 0)), (7, (.long (lR x5 x7), 0))] [] M K)))) :
  G l E d m_Mod_tellsBy 6 [(0, (.ref 24, 41)), (1, (.long x1, 0)), (3, (.long x3, 0)), (5, (.long x5, 0)), (7, (.long x7, 0))] [] M K := G.blk 60 _ hd ok_Mod_tellsBy rfl h
def bt_Mod_bass : BtT := [(0, [0], true, [(0, .iconst 0, 1, 0, 0, 0, m0),
   (1, .istore_n 1, 1, 0, 0, 0, m0),
   (2, .iconst 0, 1, 0, 0, 0, m0),
   (3, .istore_n 2, 1, 0, 0, 0, m0),
   (4, .nop, 0, 0, 0, 0, m0)]),
  (4, [0, 1, 2], true, [(4, .iload_n 2, 1, 0, 0, 0, m0),
   (5, .aload_n 0, 1, 0, 0, 0, m0),
   (6, .getfield 7, 3, 0, 11, 1447, m0),
   (9, .iconst 0, 1, 0, 0, 0, m0),
   (10, .iaload, 1, 0, 0, 0, m0),
   (11, .if_icmp .ge 24, 3, 35, 0, 0, m0),
   (14, .nop, 0, 0, 0, 0, m0)]),
  (14, [], false, [(14, .iload_n 1, 1, 0, 0, 0, m0),
   (15, .aload_n 0, 1, 0, 0, 0, m0),
   (16, .iload_n 2, 1, 0, 0, 0, m0),
   (17, .iconst 2, 1, 0, 0, 0, m0),
   (18, .invokevirtual 171, 3, 0, 0, 1708, m_Mod_of),
   (21, .aload_n 0, 1, 0, 0, 0, m0),
   (22, .iload_n 2, 1, 0, 0, 0, m0),
   (23, .invokevirtual 307, 3, 0, 0, 1804, m_Mod_owedAll),
   (26, .imul, 1, 0, 0, 0, m0),
   (27, .iadd, 1, 0, 0, 0, m0),
   (28, .istore_n 1, 1, 0, 0, 0, m0),
   (29, .iinc 2 1, 3, 0, 0, 0, m0),
   (32, .goto (-28), 3, 4, 0, 0, m0)]),
  (35, [], false, [(35, .aload_n 0, 1, 0, 0, 0, m0),
   (36, .invokevirtual 301, 3, 0, 0, 1772, m_Mod_allOwed),
   (39, .ifCond .ne 12, 3, 51, 0, 0, m0),
   (42, .nop, 0, 0, 0, 0, m0)]),
  (42, [], false, [(42, .aload_n 0, 1, 0, 0, 0, m0),
   (43, .bipush 6, 2, 0, 0, 0, m0),
   (45, .invokevirtual 79, 3, 0, 0, 1569, m_Mod_is),
   (48, .goto 14, 3, 62, 0, 0, m0)]),
  (51, [], false, [(51, .aload_n 0, 1, 0, 0, 0, m0),
   (52, .iload_n 1, 1, 0, 0, 0, m0),
   (53, .i2l, 1, 0, 0, 0, m0),
   (54, .aload_n 0, 1, 0, 0, 0, m0),
   (55, .invokevirtual 301, 3, 0, 0, 1772, m_Mod_allOwed),
   (58, .i2l, 1, 0, 0, 0, m0),
   (59, .invokevirtual 381, 3, 0, 0, 2010, m_Mod_tellsBy),
   (62, .nop, 0, 0, 0, 0, m0)]),
  (62, [], false, [(62, .ireturn, 1, 0, 0, 0, m0)])]
theorem ok_Mod_bass : okBt m_Mod_bass bt_Mod_bass = true := by decide +kernel
set_option maxRecDepth 100000 in
theorem b_Mod_bass_0 {l : Launch} {E : EnvT} {d : Nat} {K : AV → Mem → Prop} {M : Mem}  (hd : 1 ≤ d)
  (h : G l E d m_Mod_bass 4 [(0, (.ref 24, 41)), (1, (.int (iN 0), 0)), (2, (.int (iN 0), 0))] [] M K) :
  G l E d m_Mod_bass 0 [(0, (.ref 24, 41))] [] M K := G.blk 60 _ hd ok_Mod_bass rfl h
set_option maxRecDepth 100000 in
theorem b_Mod_bass_4 {l : Launch} {E : EnvT} {d : Nat} {K : AV → Mem → Prop} {M : Mem} {x1 : Int32} {x2 : Int32} (hd : 1 ≤ d)
  (h : (vp_in (iN 0) 3612 ∧ (((iN (M 24 1 ((iN 0)).toNatClampNeg)) ≤ x2 →
   CT l E (d - 1) m_Mod_allOwed [(.ref 24, 41)] M (fun v1 M1 =>
    ((¬ (toI v1) = 0 →
     CT l E (d - 1) m_Mod_allOwed [(.ref 24, 41)] M1 (fun v2 M2 =>
      CT l E (d - 1) m_Mod_tellsBy [(.ref 24, 41), (.long (x1).toInt64, 0), (.long ((toI v2)).toInt64, 0)] M2 (fun v3 M3 =>
       ((((toI v3) = 0 ∨ (toI v3) = 1)) ∧ K (.int (toI v3), 0) M3)))) ∧
    ((toI v1) = 0 →
     CT l E (d - 1) m_Mod_is [(.ref 24, 41), (.int (iN 6), 0)] M1 (fun v4 M4 =>
      ((((toI v4) = 0 ∨ (toI v4) = 1)) ∧ K (.int (toI v4), 0) M4)))))) ∧
  (¬ (iN (M 24 1 ((iN 0)).toNatClampNeg)) ≤ x2 →
   CT l E (d - 1) m_Mod_of [(.ref 24, 41), (.int x2, 0), (.int (iN 2), 0)] M (fun v5 M5 =>
    CT l E (d - 1) m_Mod_owedAll [(.ref 24, 41), (.int x2, 0)] M5 (fun v6 M6 =>
     G l E d m_Mod_bass 4 [(0, (.ref 24, 41)), (1, (.int (x1 + ((toI v5) * (toI v6))), 0)), (2, (.int (x2 + iN 1), 0))] [] M6 K)))))) :
  G l E d m_Mod_bass 4 [(0, (.ref 24, 41)), (1, (.int x1, 0)), (2, (.int x2, 0))] [] M K := G.blk 60 _ hd ok_Mod_bass rfl h
def bt_Mod_nextAt : BtT := [(0, [0, 1], true, [(0, .aload_n 0, 1, 0, 0, 0, m0),
   (1, .getfield 50, 3, 26, 11, 1473, m0),
   (4, .iload_n 1, 1, 0, 0, 0, m0),
   (5, .iaload, 1, 0, 0, 0, m0),
   (6, .iconst 1, 1, 0, 0, 0, m0),
   (7, .iadd, 1, 0, 0, 0, m0),
   (8, .istore_n 2, 1, 0, 0, 0, m0),
   (9, .nop, 0, 0, 0, 0, m0)]),
  (9, [0, 1, 2], true, [(9, .iload_n 2, 1, 0, 0, 0, m0),
   (10, .aload_n 0, 1, 0, 0, 0, m0),
   (11, .getfield 7, 3, 0, 11, 1447, m0),
   (14, .iconst 0, 1, 0, 0, 0, m0),
   (15, .iaload, 1, 0, 0, 0, m0),
   (16, .if_icmp .ge 77, 3, 93, 0, 0, m0),
   (19, .nop, 0, 0, 0, 0, m0)]),
  (19, [], false, [(19, .iload_n 1, 1, 0, 0, 0, m0),
   (20, .ifCond .eq 19, 3, 39, 0, 0, m0),
   (23, .nop, 0, 0, 0, 0, m0)]),
  (23, [], false, [(23, .aload_n 0, 1, 0, 0, 0, m0),
   (24, .aload_n 0, 1, 0, 0, 0, m0),
   (25, .getfield 50, 3, 26, 11, 1473, m0),
   (28, .iload_n 1, 1, 0, 0, 0, m0),
   (29, .iconst 1, 1, 0, 0, 0, m0),
   (30, .isub, 1, 0, 0, 0, m0),
   (31, .iaload, 1, 0, 0, 0, m0),
   (32, .iload_n 2, 1, 0, 0, 0, m0),
   (33, .invokevirtual 283, 3, 0, 0, 1784, m_Mod_noted),
   (36, .ifCond .le 7, 3, 43, 0, 0, m0),
   (39, .nop, 0, 0, 0, 0, m0)]),
  (39, [], false, [(39, .iconst 1, 1, 0, 0, 0, m0),
   (40, .goto 4, 3, 44, 0, 0, m0)]),
  (43, [], false, [(43, .iconst 0, 1, 0, 0, 0, m0),
   (44, .nop, 0, 0, 0, 0, m0)]),
  (44, [], false, [(44, .istore_n 3, 1, 0, 0, 0, m0),
   (45, .iconst 0, 1, 0, 0, 0, m0),
   (46, .istore 4, 2, 0, 0, 0, m0),
   (48, .nop, 0, 0, 0, 0, m0)]),
  (48, [0, 1, 2, 3, 4], true, [(48, .iload 4, 2, 0, 0, 0, m0),
   (50, .iload_n 1, 1, 0, 0, 0, m0),
   (51, .if_icmp .ge 30, 3, 81, 0, 0, m0),
   (54, .nop, 0, 0, 0, 0, m0)]),
  (54, [], false, [(54, .iload_n 3, 1, 0, 0, 0, m0),
   (55, .ifCond .eq 18, 3, 73, 0, 0, m0),
   (58, .nop, 0, 0, 0, 0, m0)]),
  (58, [], false, [(58, .aload_n 0, 1, 0, 0, 0, m0),
   (59, .getfield 50, 3, 26, 11, 1473, m0),
   (62, .iload 4, 2, 0, 0, 0, m0),
   (64, .iaload, 1, 0, 0, 0, m0),
   (65, .iload_n 2, 1, 0, 0, 0, m0),
   (66, .if_icmp .eq 7, 3, 73, 0, 0, m0),
   (69, .nop, 0, 0, 0, 0, m0)]),
  (69, [], false, [(69, .iconst 1, 1, 0, 0, 0, m0),
   (70, .goto 4, 3, 74, 0, 0, m0)]),
  (73, [], false, [(73, .iconst 0, 1, 0, 0, 0, m0),
   (74, .nop, 0, 0, 0, 0, m0)]),
  (74, [], false, [(74, .istore_n 3, 1, 0, 0, 0, m0),
   (75, .iinc 4 1, 3, 0, 0, 0, m0),
   (78, .goto (-30), 3, 48, 0, 0, m0)]),
  (81, [], false, [(81, .iload_n 3, 1, 0, 0, 0, m0),
   (82, .ifCond .eq 5, 3, 87, 0, 0, m0),
   (85, .nop, 0, 0, 0, 0, m0)]),
  (85, [], false, [(85, .iload_n 2, 1, 0, 0, 0, m0),
   (86, .ireturn, 1, 0, 0, 0, m0)]),
  (87, [], false, [(87, .iinc 2 1, 3, 0, 0, 0, m0),
   (90, .goto (-81), 3, 9, 0, 0, m0)]),
  (93, [], false, [(93, .iconst (-1), 1, 0, 0, 0, m0),
   (94, .ireturn, 1, 0, 0, 0, m0)])]
theorem ok_Mod_nextAt : okBt m_Mod_nextAt bt_Mod_nextAt = true := by decide +kernel
set_option maxRecDepth 100000 in
theorem b_Mod_nextAt_0 {l : Launch} {E : EnvT} {d : Nat} {K : AV → Mem → Prop} {M : Mem} {x1 : Int32} (hd : 1 ≤ d)
  (h : (vp_in x1 8 ∧ G l E d m_Mod_nextAt 9 [(0, (.ref 24, 41)), (1, (.int x1, 0)), (2, (.int ((iN (M 24 10 (x1).toNatClampNeg)) + (iN 1)), 0))] [] M K)) :
  G l E d m_Mod_nextAt 0 [(0, (.ref 24, 41)), (1, (.int x1, 0))] [] M K := G.blk 60 _ hd ok_Mod_nextAt rfl h
set_option maxRecDepth 100000 in
theorem b_Mod_nextAt_9 {l : Launch} {E : EnvT} {d : Nat} {K : AV → Mem → Prop} {M : Mem} {x1 : Int32} {x2 : Int32} (hd : 1 ≤ d)
  (h : (vp_in (iN 0) 3612 ∧ (((iN (M 24 1 ((iN 0)).toNatClampNeg)) ≤ x2 →
   K (.int (iN (-1)), 0) M) ∧
  (¬ (iN (M 24 1 ((iN 0)).toNatClampNeg)) ≤ x2 →
   ((x1 = 0 →
    G l E d m_Mod_nextAt 48 [(0, (.ref 24, 41)), (1, (.int x1, 0)), (2, (.int x2, 0)), (3, (.int (iN 1), 0)), (4, (.int (iN 0), 0))] [] M K) ∧
   (¬ x1 = 0 →
    (vp_in (x1 - (iN 1)) 8 ∧ CT l E (d - 1) m_Mod_noted [(.ref 24, 41), (.int (iN (M 24 10 ((x1 - (iN 1))).toNatClampNeg)), 0), (.int x2, 0)] M (fun v1 M1 =>
     (((toI v1) ≤ 0 →
      G l E d m_Mod_nextAt 48 [(0, (.ref 24, 41)), (1, (.int x1, 0)), (2, (.int x2, 0)), (3, (.int (iN 0), 0)), (4, (.int (iN 0), 0))] [] M1 K) ∧
     (¬ (toI v1) ≤ 0 →
      G l E d m_Mod_nextAt 48 [(0, (.ref 24, 41)), (1, (.int x1, 0)), (2, (.int x2, 0)), (3, (.int (iN 1), 0)), (4, (.int (iN 0), 0))] [] M1 K)))))))))) :
  G l E d m_Mod_nextAt 9 [(0, (.ref 24, 41)), (1, (.int x1, 0)), (2, (.int x2, 0))] [] M K := G.blk 60 _ hd ok_Mod_nextAt rfl h
set_option maxRecDepth 100000 in
theorem b_Mod_nextAt_48 {l : Launch} {E : EnvT} {d : Nat} {K : AV → Mem → Prop} {M : Mem} {x1 : Int32} {x2 : Int32} {x3 : Int32} {x4 : Int32} (hd : 1 ≤ d)
  (h : ((x1 ≤ x4 →
   ((x3 = 0 →
    G l E d m_Mod_nextAt 9 [(0, (.ref 24, 41)), (1, (.int x1, 0)), (2, (.int (x2 + iN 1), 0))] [] M K) ∧
   (¬ x3 = 0 →
    K (.int x2, 0) M))) ∧
  (¬ x1 ≤ x4 →
   ((x3 = 0 →
    G l E d m_Mod_nextAt 48 [(0, (.ref 24, 41)), (1, (.int x1, 0)), (2, (.int x2, 0)), (3, (.int (iN 0), 0)), (4, (.int (x4 + iN 1), 0))] [] M K) ∧
   (¬ x3 = 0 →
    (vp_in x4 8 ∧ (((iN (M 24 10 (x4).toNatClampNeg)) = x2 →
     G l E d m_Mod_nextAt 48 [(0, (.ref 24, 41)), (1, (.int x1, 0)), (2, (.int x2, 0)), (3, (.int (iN 0), 0)), (4, (.int (x4 + iN 1), 0))] [] M K) ∧
    (¬ (iN (M 24 10 (x4).toNatClampNeg)) = x2 →
     G l E d m_Mod_nextAt 48 [(0, (.ref 24, 41)), (1, (.int x1, 0)), (2, (.int x2, 0)), (3, (.int (iN 1), 0)), (4, (.int (x4 + iN 1), 0))] [] M K)))))))) :
  G l E d m_Mod_nextAt 48 [(0, (.ref 24, 41)), (1, (.int x1, 0)), (2, (.int x2, 0)), (3, (.int x3, 0)), (4, (.int x4, 0))] [] M K := G.blk 60 _ hd ok_Mod_nextAt rfl h
def bt_Mod_laysRound : BtT := [(0, [0, 1], true, [(0, .iconst 0, 1, 0, 0, 0, m0),
   (1, .istore_n 2, 1, 0, 0, 0, m0),
   (2, .aload_n 0, 1, 0, 0, 0, m0),
   (3, .getfield 50, 3, 26, 11, 1473, m0),
   (6, .iconst 0, 1, 0, 0, 0, m0),
   (7, .iconst (-1), 1, 0, 0, 0, m0),
   (8, .iastore, 1, 0, 0, 0, m0),
   (9, .nop, 0, 0, 0, 0, m0)]),
  (9, [0, 1, 2], true, [(9, .iload_n 2, 1, 0, 0, 0, m0),
   (10, .ifCond .lt 86, 3, 96, 0, 0, m0),
   (13, .nop, 0, 0, 0, 0, m0)]),
  (13, [], false, [(13, .aload_n 0, 1, 0, 0, 0, m0),
   (14, .iload_n 2, 1, 0, 0, 0, m0),
   (15, .invokevirtual 385, 3, 0, 0, 2026, m_Mod_nextAt),
   (18, .istore_n 3, 1, 0, 0, 0, m0),
   (19, .iload_n 3, 1, 0, 0, 0, m0),
   (20, .iconst (-1), 1, 0, 0, 0, m0),
   (21, .if_icmp .ne 9, 3, 30, 0, 0, m0),
   (24, .nop, 0, 0, 0, 0, m0)]),
  (24, [], false, [(24, .iinc 2 (-1), 3, 0, 0, 0, m0),
   (27, .goto (-18), 3, 9, 0, 0, m0)]),
  (30, [], false, [(30, .aload_n 0, 1, 0, 0, 0, m0),
   (31, .getfield 50, 3, 26, 11, 1473, m0),
   (34, .iload_n 2, 1, 0, 0, 0, m0),
   (35, .iload_n 3, 1, 0, 0, 0, m0),
   (36, .iastore, 1, 0, 0, 0, m0),
   (37, .iload_n 3, 1, 0, 0, 0, m0),
   (38, .aload_n 0, 1, 0, 0, 0, m0),
   (39, .getfield 50, 3, 26, 11, 1473, m0),
   (42, .iconst 0, 1, 0, 0, 0, m0),
   (43, .iaload, 1, 0, 0, 0, m0),
   (44, .if_icmp .ge 6, 3, 50, 0, 0, m0),
   (47, .nop, 0, 0, 0, 0, m0)]),
  (47, [], false, [(47, .goto (-38), 3, 9, 0, 0, m0)]),
  (50, [], false, [(50, .iload_n 2, 1, 0, 0, 0, m0),
   (51, .iload_n 1, 1, 0, 0, 0, m0),
   (52, .iconst 1, 1, 0, 0, 0, m0),
   (53, .isub, 1, 0, 0, 0, m0),
   (54, .if_icmp .ne 19, 3, 73, 0, 0, m0),
   (57, .nop, 0, 0, 0, 0, m0)]),
  (57, [], false, [(57, .aload_n 0, 1, 0, 0, 0, m0),
   (58, .iload_n 3, 1, 0, 0, 0, m0),
   (59, .aload_n 0, 1, 0, 0, 0, m0),
   (60, .getfield 50, 3, 26, 11, 1473, m0),
   (63, .iconst 0, 1, 0, 0, 0, m0),
   (64, .iaload, 1, 0, 0, 0, m0),
   (65, .invokevirtual 283, 3, 0, 0, 1784, m_Mod_noted),
   (68, .ifCond .le 5, 3, 73, 0, 0, m0),
   (71, .nop, 0, 0, 0, 0, m0)]),
  (71, [], false, [(71, .iconst 1, 1, 0, 0, 0, m0),
   (72, .ireturn, 1, 0, 0, 0, m0)]),
  (73, [], false, [(73, .iload_n 2, 1, 0, 0, 0, m0),
   (74, .iload_n 1, 1, 0, 0, 0, m0),
   (75, .iconst 1, 1, 0, 0, 0, m0),
   (76, .isub, 1, 0, 0, 0, m0),
   (77, .if_icmp .ne 6, 3, 83, 0, 0, m0),
   (80, .nop, 0, 0, 0, 0, m0)]),
  (80, [], false, [(80, .goto (-71), 3, 9, 0, 0, m0)]),
  (83, [], false, [(83, .iinc 2 1, 3, 0, 0, 0, m0),
   (86, .aload_n 0, 1, 0, 0, 0, m0),
   (87, .getfield 50, 3, 26, 11, 1473, m0),
   (90, .iload_n 2, 1, 0, 0, 0, m0),
   (91, .iconst (-1), 1, 0, 0, 0, m0),
   (92, .iastore, 1, 0, 0, 0, m0),
   (93, .goto (-84), 3, 9, 0, 0, m0)]),
  (96, [], false, [(96, .iconst 0, 1, 0, 0, 0, m0),
   (97, .ireturn, 1, 0, 0, 0, m0)])]
theorem ok_Mod_laysRound : okBt m_Mod_laysRound bt_Mod_laysRound = true := by decide +kernel
set_option maxRecDepth 100000 in
theorem b_Mod_laysRound_0 {l : Launch} {E : EnvT} {d : Nat} {K : AV → Mem → Prop} {M : Mem} {x1 : Int32} (hd : 1 ≤ d)
  (h : (vp_in (iN 0) 8 ∧ G l E d m_Mod_laysRound 9 [(0, (.ref 24, 41)), (1, (.int x1, 0)), (2, (.int (iN 0), 0))] [] (upd3 M 24 10 ((iN 0)).toNatClampNeg ((iN (-1))).toInt) K)) :
  G l E d m_Mod_laysRound 0 [(0, (.ref 24, 41)), (1, (.int x1, 0))] [] M K := G.blk 60 _ hd ok_Mod_laysRound rfl h
set_option maxRecDepth 100000 in
theorem b_Mod_laysRound_9 {l : Launch} {E : EnvT} {d : Nat} {K : AV → Mem → Prop} {M : Mem} {x1 : Int32} {x2 : Int32} (hd : 1 ≤ d)
  (h : ((x2 < 0 →
   ((((iN 0) = 0 ∨ (iN 0) = 1)) ∧ K (.int (iN 0), 0) M)) ∧
  (¬ x2 < 0 →
   CT l E (d - 1) m_Mod_nextAt [(.ref 24, 41), (.int x2, 0)] M (fun v1 M1 =>
    ((¬ (toI v1) = (iN (-1)) →
     (vp_in x2 8 ∧ vp_in (iN 0) 8 ∧ (((iN ((upd3 M1 24 10 (x2).toNatClampNeg ((toI v1)).toInt) 24 10 ((iN 0)).toNatClampNeg)) ≤ (toI v1) →
      ((¬ x2 = (x1 - (iN 1)) →
       ((¬ x2 = (x1 - (iN 1)) →
        (vp_in (x2 + iN 1) 8 ∧ G l E d m_Mod_laysRound 9 [(0, (.ref 24, 41)), (1, (.int x1, 0)), (2, (.int (x2 + iN 1), 0))] [] (upd3 (upd3 M1 24 10 (x2).toNatClampNeg ((toI v1)).toInt) 24 10 ((x2 + iN 1)).toNatClampNeg ((iN (-1))).toInt) K)) ∧
       (x2 = (x1 - (iN 1)) →
        G l E d m_Mod_laysRound 9 [(0, (.ref 24, 41)), (1, (.int x1, 0)), (2, (.int x2, 0))] [] (upd3 M1 24 10 (x2).toNatClampNeg ((toI v1)).toInt) K))) ∧
      (x2 = (x1 - (iN 1)) →
       (vp_in (iN 0) 8 ∧ CT l E (d - 1) m_Mod_noted [(.ref 24, 41), (.int (toI v1), 0), (.int (iN ((upd3 M1 24 10 (x2).toNatClampNeg ((toI v1)).toInt) 24 10 ((iN 0)).toNatClampNeg)), 0)] (upd3 M1 24 10 (x2).toNatClampNeg ((toI v1)).toInt) (fun v2 M2 =>
        (((toI v2) ≤ 0 →
         ((¬ x2 = (x1 - (iN 1)) →
          (vp_in (x2 + iN 1) 8 ∧ G l E d m_Mod_laysRound 9 [(0, (.ref 24, 41)), (1, (.int x1, 0)), (2, (.int (x2 + iN 1), 0))] [] (upd3 M2 24 10 ((x2 + iN 1)).toNatClampNeg ((iN (-1))).toInt) K)) ∧
         (x2 = (x1 - (iN 1)) →
          G l E d m_Mod_laysRound 9 [(0, (.ref 24, 41)), (1, (.int x1, 0)), (2, (.int x2, 0))] [] M2 K))) ∧
        (¬ (toI v2) ≤ 0 →
         ((((iN 1) = 0 ∨ (iN 1) = 1)) ∧ K (.int (iN 1), 0) M2)))))))) ∧
     (¬ (iN ((upd3 M1 24 10 (x2).toNatClampNeg ((toI v1)).toInt) 24 10 ((iN 0)).toNatClampNeg)) ≤ (toI v1) →
      G l E d m_Mod_laysRound 9 [(0, (.ref 24, 41)), (1, (.int x1, 0)), (2, (.int x2, 0))] [] (upd3 M1 24 10 (x2).toNatClampNeg ((toI v1)).toInt) K)))) ∧
    ((toI v1) = (iN (-1)) →
     G l E d m_Mod_laysRound 9 [(0, (.ref 24, 41)), (1, (.int x1, 0)), (2, (.int (x2 + iN (-1)), 0))] [] M1 K)))))) :
  G l E d m_Mod_laysRound 9 [(0, (.ref 24, 41)), (1, (.int x1, 0)), (2, (.int x2, 0))] [] M K := G.blk 60 _ hd ok_Mod_laysRound rfl h
def bt_Mod_roundOf : BtT := [(0, [0], true, [(0, .iconst 3, 1, 0, 0, 0, m0),
   (1, .istore_n 1, 1, 0, 0, 0, m0),
   (2, .nop, 0, 0, 0, 0, m0)]),
  (2, [0, 1], true, [(2, .iload_n 1, 1, 0, 0, 0, m0),
   (3, .aload_n 0, 1, 0, 0, 0, m0),
   (4, .getfield 7, 3, 0, 11, 1447, m0),
   (7, .iconst 0, 1, 0, 0, 0, m0),
   (8, .iaload, 1, 0, 0, 0, m0),
   (9, .if_icmp .gt 19, 3, 28, 0, 0, m0),
   (12, .nop, 0, 0, 0, 0, m0)]),
  (12, [], false, [(12, .aload_n 0, 1, 0, 0, 0, m0),
   (13, .iload_n 1, 1, 0, 0, 0, m0),
   (14, .invokevirtual 388, 3, 0, 0, 2022, m_Mod_laysRound),
   (17, .ifCond .eq 5, 3, 22, 0, 0, m0),
   (20, .nop, 0, 0, 0, 0, m0)]),
  (20, [], false, [(20, .iload_n 1, 1, 0, 0, 0, m0),
   (21, .ireturn, 1, 0, 0, 0, m0)]),
  (22, [], false, [(22, .iinc 1 1, 3, 0, 0, 0, m0),
   (25, .goto (-23), 3, 2, 0, 0, m0)]),
  (28, [], false, [(28, .iconst (-1), 1, 0, 0, 0, m0),
   (29, .ireturn, 1, 0, 0, 0, m0)])]
theorem ok_Mod_roundOf : okBt m_Mod_roundOf bt_Mod_roundOf = true := by decide +kernel
set_option maxRecDepth 100000 in
theorem b_Mod_roundOf_0 {l : Launch} {E : EnvT} {d : Nat} {K : AV → Mem → Prop} {M : Mem}  (hd : 1 ≤ d)
  (h : G l E d m_Mod_roundOf 2 [(0, (.ref 24, 41)), (1, (.int (iN 3), 0))] [] M K) :
  G l E d m_Mod_roundOf 0 [(0, (.ref 24, 41))] [] M K := G.blk 60 _ hd ok_Mod_roundOf rfl h
set_option maxRecDepth 100000 in
theorem b_Mod_roundOf_2 {l : Launch} {E : EnvT} {d : Nat} {K : AV → Mem → Prop} {M : Mem} {x1 : Int32} (hd : 1 ≤ d)
  (h : (vp_in (iN 0) 3612 ∧ (((iN (M 24 1 ((iN 0)).toNatClampNeg)) < x1 →
   K (.int (iN (-1)), 0) M) ∧
  (¬ (iN (M 24 1 ((iN 0)).toNatClampNeg)) < x1 →
   CT l E (d - 1) m_Mod_laysRound [(.ref 24, 41), (.int x1, 0)] M (fun v1 M1 =>
    (((toI v1) = 0 →
     G l E d m_Mod_roundOf 2 [(0, (.ref 24, 41)), (1, (.int (x1 + iN 1), 0))] [] M1 K) ∧
    (¬ (toI v1) = 0 →
     K (.int x1, 0) M1))))))) :
  G l E d m_Mod_roundOf 2 [(0, (.ref 24, 41)), (1, (.int x1, 0))] [] M K := G.blk 60 _ hd ok_Mod_roundOf rfl h
def bt_Mod_round : BtT := [(0, [0], true, [(0, .aload_n 0, 1, 0, 0, 0, m0),
   (1, .aload_n 0, 1, 0, 0, 0, m0),
   (2, .invokevirtual 391, 3, 0, 0, 2018, m_Mod_roundOf),
   (5, .invokevirtual 304, 3, 0, 0, 1800, m_Mod_orNone),
   (8, .ireturn, 1, 0, 0, 0, m0)])]
theorem ok_Mod_round : okBt m_Mod_round bt_Mod_round = true := by decide +kernel
set_option maxRecDepth 100000 in
theorem b_Mod_round_0 {l : Launch} {E : EnvT} {d : Nat} {K : AV → Mem → Prop} {M : Mem}  (hd : 1 ≤ d)
  (h : CT l E (d - 1) m_Mod_roundOf [(.ref 24, 41)] M (fun v1 M1 =>
   CT l E (d - 1) m_Mod_orNone [(.ref 24, 41), (.int (toI v1), 0)] M1 (fun v2 M2 =>
    K (.int (toI v2), 0) M2))) :
  G l E d m_Mod_round 0 [(0, (.ref 24, 41))] [] M K := G.blk 60 _ hd ok_Mod_round rfl h
