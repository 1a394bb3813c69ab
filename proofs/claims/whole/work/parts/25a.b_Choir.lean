def bt_Choir_makeEmpty : BtT := [(0, [0], true, [(0, .aload_n 0, 1, 0, 0, 0, m0),
   (1, .getfield 28, 3, 5, 0, 274, m0),
   (4, .iconst (-1), 1, 0, 0, 0, m0),
   (5, .invokestatic 66, 3, 0, 0, 643, m_Arrays_fill1),
   (8, .aload_n 0, 1, 0, 0, 0, m0),
   (9, .getfield 31, 3, 6, 0, 276, m0),
   (12, .iconst 0, 1, 0, 0, 0, m0),
   (13, .invokestatic 66, 3, 0, 0, 643, m_Arrays_fill1),
   (16, .aload_n 0, 1, 0, 0, 0, m0),
   (17, .getfield 37, 3, 7, 0, 278, m0),
   (20, .iconst 0, 1, 0, 0, 0, m0),
   (21, .putfield 72, 3, 3, 7, 250, m0),
   (24, .aload_n 0, 1, 0, 0, 0, m0),
   (25, .iconst 0, 1, 0, 0, 0, m0),
   (26, .putfield 41, 3, 8, 0, 280, m0),
   (29, .aload_n 0, 1, 0, 0, 0, m0),
   (30, .iconst 0, 1, 0, 0, 0, m0),
   (31, .putfield 45, 3, 9, 0, 284, m0),
   (34, .aload_n 0, 1, 0, 0, 0, m0),
   (35, .iconst 0, 1, 0, 0, 0, m0),
   (36, .putfield 48, 3, 10, 0, 287, m0),
   (39, .aload_n 0, 1, 0, 0, 0, m0),
   (40, .iconst 0, 1, 0, 0, 0, m0),
   (41, .putfield 51, 3, 11, 0, 290, m0),
   (44, .aload_n 0, 1, 0, 0, 0, m0),
   (45, .iconst 0, 1, 0, 0, 0, m0),
   (46, .putfield 54, 3, 12, 0, 293, m0),
   (49, .aload_n 0, 1, 0, 0, 0, m0),
   (50, .iconst 0, 1, 0, 0, 0, m0),
   (51, .putfield 57, 3, 13, 0, 296, m0),
   (54, .aload_n 0, 1, 0, 0, 0, m0),
   (55, .iconst 0, 1, 0, 0, 0, m0),
   (56, .putfield 60, 3, 14, 0, 299, m0),
   (59, .nop, 0, 0, 0, 0, m0)]),
  (59, [0], true, [(59, .aload_n 0, 1, 0, 0, 0, m0),
   (60, .iconst 0, 1, 0, 0, 0, m0),
   (61, .putfield 63, 3, 15, 0, 301, m0),
   (64, .return_, 1, 0, 0, 0, m0)])]
theorem ok_Choir_makeEmpty : okBt m_Choir_makeEmpty bt_Choir_makeEmpty = true := by decide +kernel
set_option maxRecDepth 100000 in
theorem b_Choir_makeEmpty_0 {l : Launch} {E : EnvT} {d : Nat} {K : AV → Mem → Prop} {M : Mem} {r : Nat}  (hd : 1 ≤ d)
  (h : CT l E (d - 1) m_Arrays_fill1 [(.ref r, 17), (.int (iN (-1)), 0)] M (fun v1 M1 =>
   CT l E (d - 1) m_Arrays_fill1 [(.ref r, 18), (.int (iN 0), 0)] M1 (fun v2 M2 =>
    G l E d m_Choir_makeEmpty 59 [(0, (.ref r, 11))] [] (upd3 (upd3 (upd3 (upd3 (upd3 (upd3 (upd3 (upd3 M2 r 8 3 ((iN 0)).toInt) r 0 8 ((iN 0)).toInt) r 0 9 ((iN 0)).toInt) r 0 10 ((iN 0)).toInt) r 0 11 ((iN 0)).toInt) r 0 12 ((iN 0)).toInt) r 0 13 ((iN 0)).toInt) r 0 14 ((iN 0)).toInt) K))) :
  G l E d m_Choir_makeEmpty 0 [(0, (.ref r, 11))] [] M K := G.blk 60 _ hd ok_Choir_makeEmpty rfl h
set_option maxRecDepth 100000 in
theorem b_Choir_makeEmpty_59 {l : Launch} {E : EnvT} {d : Nat} {K : AV → Mem → Prop} {M : Mem} {r : Nat}  (hd : 1 ≤ d)
  (h : K (.null, 0) (upd3 M r 0 15 ((iN 0)).toInt)) :
  G l E d m_Choir_makeEmpty 59 [(0, (.ref r, 11))] [] M K := G.blk 60 _ hd ok_Choir_makeEmpty rfl h
def bt_Choir_find : BtT := [(0, [0, 1], true, [(0, .iconst 0, 1, 0, 0, 0, m0),
   (1, .istore_n 3, 1, 0, 0, 0, m0),
   (2, .nop, 0, 0, 0, 0, m0)]),
  (2, [0, 1, 3], true, [(2, .iload_n 3, 1, 0, 0, 0, m0),
   (3, .aload_n 0, 1, 0, 0, 0, m0),
   (4, .getfield 41, 3, 8, 0, 280, m0),
   (7, .if_icmp .ge 22, 3, 29, 0, 0, m0),
   (10, .nop, 0, 0, 0, 0, m0)]),
  (10, [], false, [(10, .aload_n 0, 1, 0, 0, 0, m0),
   (11, .getfield 11, 3, 0, 0, 262, m0),
   (14, .iload_n 3, 1, 0, 0, 0, m0),
   (15, .laload, 1, 0, 0, 0, m0),
   (16, .lload_n 1, 1, 0, 0, 0, m0),
   (17, .lcmp, 1, 0, 0, 0, m0),
   (18, .ifCond .ne 5, 3, 23, 0, 0, m0),
   (21, .nop, 0, 0, 0, 0, m0)]),
  (21, [], false, [(21, .iload_n 3, 1, 0, 0, 0, m0),
   (22, .ireturn, 1, 0, 0, 0, m0)]),
  (23, [], false, [(23, .iinc 3 1, 3, 0, 0, 0, m0),
   (26, .goto (-24), 3, 2, 0, 0, m0)]),
  (29, [], false, [(29, .iconst (-1), 1, 0, 0, 0, m0),
   (30, .ireturn, 1, 0, 0, 0, m0)])]
theorem ok_Choir_find : okBt m_Choir_find bt_Choir_find = true := by decide +kernel
set_option maxRecDepth 100000 in
theorem b_Choir_find_0 {l : Launch} {E : EnvT} {d : Nat} {K : AV → Mem → Prop} {M : Mem} {r : Nat} {x1 : Int64} (hd : 1 ≤ d)
  (h : G l E d m_Choir_find 2 [(0, (.ref r, 11)), (1, (.long x1, 0)), (3, (.int (iN 0), 0))] [] M K) :
  G l E d m_Choir_find 0 [(0, (.ref r, 11)), (1, (.long x1, 0))] [] M K := G.blk 60 _ hd ok_Choir_find rfl h
set_option maxRecDepth 100000 in
theorem b_Choir_find_2 {l : Launch} {E : EnvT} {d : Nat} {K : AV → Mem → Prop} {M : Mem} {r : Nat} {x1 : Int64} {x3 : Int32} (hd : 1 ≤ d)
  (h : (((iN (M r 0 8)) ≤ x3 →
   K (.int (iN (-1)), 0) M) ∧
  (¬ (iN (M r 0 8)) ≤ x3 →
   (vp_in x3 8 ∧ ((¬ (lg_cmp (lI (M r 1 (x3).toNatClampNeg)) x1) = 0 →
    G l E d m_Choir_find 2 [(0, (.ref r, 11)), (1, (.long x1, 0)), (3, (.int (x3 + iN 1), 0))] [] M K) ∧
   ((lg_cmp (lI (M r 1 (x3).toNatClampNeg)) x1) = 0 →
    K (.int x3, 0) M)))))) :
  G l E d m_Choir_find 2 [(0, (.ref r, 11)), (1, (.long x1, 0)), (3, (.int x3, 0))] [] M K := G.blk 60 _ hd ok_Choir_find rfl h
def bt_Choir_slot : BtT := [(0, [0, 1], true, [(0, .iload_n 0, 1, 0, 0, 0, m0),
   (1, .bipush 6, 2, 0, 0, 0, m0),
   (3, .imul, 1, 0, 0, 0, m0),
   (4, .iload_n 1, 1, 0, 0, 0, m0),
   (5, .iadd, 1, 0, 0, 0, m0),
   (6, .ireturn, 1, 0, 0, 0, m0)])]
theorem ok_Choir_slot : okBt m_Choir_slot bt_Choir_slot = true := by decide +kernel
set_option maxRecDepth 100000 in
theorem b_Choir_slot_0 {l : Launch} {E : EnvT} {d : Nat} {K : AV → Mem → Prop} {M : Mem} {x0 : Int32} {x1 : Int32} (hd : 1 ≤ d)
  (h : K (.int ((x0 * (iN 6)) + x1), 0) M) :
  G l E d m_Choir_slot 0 [(0, (.int x0, 0)), (1, (.int x1, 0))] [] M K := G.blk 60 _ hd ok_Choir_slot rfl h
def bt_Choir_addNote : BtT := [(0, [0, 1, 2], true, [(0, .aload_n 0, 1, 0, 0, 0, m0),
   (1, .getfield 25, 3, 4, 0, 272, m0),
   (4, .iload_n 1, 1, 0, 0, 0, m0),
   (5, .aload_n 0, 1, 0, 0, 0, m0),
   (6, .getfield 22, 3, 3, 0, 269, m0),
   (9, .iload_n 1, 1, 0, 0, 0, m0),
   (10, .iaload, 1, 0, 0, 0, m0),
   (11, .invokestatic 89, 3, 0, 0, 760, m_Choir_slot),
   (14, .iload_n 2, 1, 0, 0, 0, m0),
   (15, .iastore, 1, 0, 0, 0, m0),
   (16, .aload_n 0, 1, 0, 0, 0, m0),
   (17, .getfield 22, 3, 3, 0, 269, m0),
   (20, .iload_n 1, 1, 0, 0, 0, m0),
   (21, .dup2, 1, 0, 0, 0, m0),
   (22, .iaload, 1, 0, 0, 0, m0),
   (23, .iconst 1, 1, 0, 0, 0, m0),
   (24, .iadd, 1, 0, 0, 0, m0),
   (25, .iastore, 1, 0, 0, 0, m0),
   (26, .return_, 1, 0, 0, 0, m0)])]
theorem ok_Choir_addNote : okBt m_Choir_addNote bt_Choir_addNote = true := by decide +kernel
set_option maxRecDepth 100000 in
theorem b_Choir_addNote_0 {l : Launch} {E : EnvT} {d : Nat} {K : AV → Mem → Prop} {M : Mem} {r : Nat} {x1 : Int32} {x2 : Int32} (hd : 1 ≤ d)
  (h : (vp_in x1 8 ∧ CT l E (d - 1) m_Choir_slot [(.int x1, 0), (.int (iN (M r 4 (x1).toNatClampNeg)), 0)] M (fun v1 M1 =>
   (vp_in (toI v1) 48 ∧ vp_in x1 8 ∧ vp_in x1 8 ∧ K (.null, 0) (upd3 (upd3 M1 r 5 ((toI v1)).toNatClampNeg (x2).toInt) r 4 (x1).toNatClampNeg (((iN ((upd3 M1 r 5 ((toI v1)).toNatClampNeg (x2).toInt) r 4 (x1).toNatClampNeg)) + (iN 1))).toInt))))) :
  G l E d m_Choir_addNote 0 [(0, (.ref r, 11)), (1, (.int x1, 0)), (2, (.int x2, 0))] [] M K := G.blk 60 _ hd ok_Choir_addNote rfl h
def bt_Choir_addSinger : BtT := [(0, [0, 1, 3], true, [(0, .aload_n 0, 1, 0, 0, 0, m0),
   (1, .getfield 41, 3, 8, 0, 280, m0),
   (4, .istore 4, 2, 0, 0, 0, m0),
   (6, .aload_n 0, 1, 0, 0, 0, m0),
   (7, .getfield 11, 3, 0, 0, 262, m0),
   (10, .iload 4, 2, 0, 0, 0, m0),
   (12, .lload_n 1, 1, 0, 0, 0, m0),
   (13, .lastore, 1, 0, 0, 0, m0),
   (14, .aload_n 0, 1, 0, 0, 0, m0),
   (15, .getfield 15, 3, 1, 0, 263, m0),
   (18, .iload 4, 2, 0, 0, 0, m0),
   (20, .iload_n 3, 1, 0, 0, 0, m0),
   (21, .iastore, 1, 0, 0, 0, m0),
   (22, .aload_n 0, 1, 0, 0, 0, m0),
   (23, .getfield 19, 3, 2, 0, 266, m0),
   (26, .iload 4, 2, 0, 0, 0, m0),
   (28, .iconst (-1), 1, 0, 0, 0, m0),
   (29, .iastore, 1, 0, 0, 0, m0),
   (30, .aload_n 0, 1, 0, 0, 0, m0),
   (31, .getfield 22, 3, 3, 0, 269, m0),
   (34, .iload 4, 2, 0, 0, 0, m0),
   (36, .iconst 0, 1, 0, 0, 0, m0),
   (37, .iastore, 1, 0, 0, 0, m0),
   (38, .aload_n 0, 1, 0, 0, 0, m0),
   (39, .iload 4, 2, 0, 0, 0, m0),
   (41, .bipush 12, 2, 0, 0, 0, m0),
   (43, .invokevirtual 85, 3, 0, 0, 756, m_Choir_addNote),
   (46, .aload_n 0, 1, 0, 0, 0, m0),
   (47, .iload 4, 2, 0, 0, 0, m0),
   (49, .bipush 14, 2, 0, 0, 0, m0),
   (51, .invokevirtual 85, 3, 0, 0, 756, m_Choir_addNote),
   (54, .nop, 0, 0, 0, 0, m0)]),
  (54, [0, 4], true, [(54, .aload_n 0, 1, 0, 0, 0, m0),
   (55, .iload 4, 2, 0, 0, 0, m0),
   (57, .bipush 16, 2, 0, 0, 0, m0),
   (59, .invokevirtual 85, 3, 0, 0, 756, m_Choir_addNote),
   (62, .aload_n 0, 1, 0, 0, 0, m0),
   (63, .dup, 1, 0, 0, 0, m0),
   (64, .getfield 41, 3, 8, 0, 280, m0),
   (67, .iconst 1, 1, 0, 0, 0, m0),
   (68, .iadd, 1, 0, 0, 0, m0),
   (69, .putfield 41, 3, 8, 0, 280, m0),
   (72, .iload 4, 2, 0, 0, 0, m0),
   (74, .ireturn, 1, 0, 0, 0, m0)])]
theorem ok_Choir_addSinger : okBt m_Choir_addSinger bt_Choir_addSinger = true := by decide +kernel
set_option maxRecDepth 100000 in
theorem b_Choir_addSinger_0 {l : Launch} {E : EnvT} {d : Nat} {K : AV → Mem → Prop} {M : Mem} {r : Nat} {x1 : Int64} {x3 : Int32} (hd : 1 ≤ d)
  (h : (vp_in (iN (M r 0 8)) 8 ∧ vp_in (iN (M r 0 8)) 8 ∧ vp_in (iN (M r 0 8)) 8 ∧ vp_in (iN (M r 0 8)) 8 ∧ CT l E (d - 1) m_Choir_addNote [(.ref r, 11), (.int (iN (M r 0 8)), 0), (.int (iN 12), 0)] (upd3 (upd3 (upd3 (upd3 M r 1 ((iN (M r 0 8))).toNatClampNeg (x1).toInt) r 2 ((iN (M r 0 8))).toNatClampNeg (x3).toInt) r 3 ((iN (M r 0 8))).toNatClampNeg ((iN (-1))).toInt) r 4 ((iN (M r 0 8))).toNatClampNeg ((iN 0)).toInt) (fun v1 M1 =>
   CT l E (d - 1) m_Choir_addNote [(.ref r, 11), (.int (iN (M r 0 8)), 0), (.int (iN 14), 0)] M1 (fun v2 M2 =>
    G l E d m_Choir_addSinger 54 [(0, (.ref r, 11)), (4, (.int (iN (M r 0 8)), 0))] [] M2 K)))) :
  G l E d m_Choir_addSinger 0 [(0, (.ref r, 11)), (1, (.long x1, 0)), (3, (.int x3, 0))] [] M K := G.blk 60 _ hd ok_Choir_addSinger rfl h
set_option maxRecDepth 100000 in
theorem b_Choir_addSinger_54 {l : Launch} {E : EnvT} {d : Nat} {K : AV → Mem → Prop} {M : Mem} {r : Nat} {x4 : Int32} (hd : 1 ≤ d)
  (h : CT l E (d - 1) m_Choir_addNote [(.ref r, 11), (.int x4, 0), (.int (iN 16), 0)] M (fun v1 M1 =>
   K (.int x4, 0) (upd3 M1 r 0 8 (((iN (M1 r 0 8)) + (iN 1))).toInt))) :
  G l E d m_Choir_addSinger 54 [(0, (.ref r, 11)), (4, (.int x4, 0))] [] M K := G.blk 60 _ hd ok_Choir_addSinger rfl h
def bt_Choir_slotOf : BtT := [(0, [0, 1, 2], true, [(0, .iload_n 2, 1, 0, 0, 0, m0),
   (1, .bipush 6, 2, 0, 0, 0, m0),
   (3, .imul, 1, 0, 0, 0, m0),
   (4, .istore_n 3, 1, 0, 0, 0, m0),
   (5, .iload_n 3, 1, 0, 0, 0, m0),
   (6, .aload_n 0, 1, 0, 0, 0, m0),
   (7, .getfield 22, 3, 3, 0, 269, m0),
   (10, .iload_n 2, 1, 0, 0, 0, m0),
   (11, .iaload, 1, 0, 0, 0, m0),
   (12, .iadd, 1, 0, 0, 0, m0),
   (13, .istore 4, 2, 0, 0, 0, m0),
   (15, .iload_n 3, 1, 0, 0, 0, m0),
   (16, .istore 5, 2, 0, 0, 0, m0),
   (18, .nop, 0, 0, 0, 0, m0)]),
  (18, [0, 1, 4, 5], true, [(18, .iload 5, 2, 0, 0, 0, m0),
   (20, .iload 4, 2, 0, 0, 0, m0),
   (22, .if_icmp .ge 23, 3, 45, 0, 0, m0),
   (25, .nop, 0, 0, 0, 0, m0)]),
  (25, [], false, [(25, .aload_n 0, 1, 0, 0, 0, m0),
   (26, .getfield 28, 3, 5, 0, 274, m0),
   (29, .iload 5, 2, 0, 0, 0, m0),
   (31, .iaload, 1, 0, 0, 0, m0),
   (32, .iload_n 1, 1, 0, 0, 0, m0),
   (33, .if_icmp .ne 6, 3, 39, 0, 0, m0),
   (36, .nop, 0, 0, 0, 0, m0)]),
  (36, [], false, [(36, .iload 5, 2, 0, 0, 0, m0),
   (38, .ireturn, 1, 0, 0, 0, m0)]),
  (39, [], false, [(39, .iinc 5 1, 3, 0, 0, 0, m0),
   (42, .goto (-24), 3, 18, 0, 0, m0)]),
  (45, [], false, [(45, .iconst (-1), 1, 0, 0, 0, m0),
   (46, .ireturn, 1, 0, 0, 0, m0)])]
theorem ok_Choir_slotOf : okBt m_Choir_slotOf bt_Choir_slotOf = true := by decide +kernel
set_option maxRecDepth 100000 in
theorem b_Choir_slotOf_0 {l : Launch} {E : EnvT} {d : Nat} {K : AV → Mem → Prop} {M : Mem} {r : Nat} {x1 : Int32} {x2 : Int32} (hd : 1 ≤ d)
  (h : (vp_in x2 8 ∧ G l E d m_Choir_slotOf 18 [(0, (.ref r, 11)), (1, (.int x1, 0)), (4, (.int ((x2 * (iN 6)) + (iN (M r 4 (x2).toNatClampNeg))), 0)), (5, (.int (x2 * (iN 6)), 0))] [] M K)) :
  G l E d m_Choir_slotOf 0 [(0, (.ref r, 11)), (1, (.int x1, 0)), (2, (.int x2, 0))] [] M K := G.blk 60 _ hd ok_Choir_slotOf rfl h
set_option maxRecDepth 100000 in
theorem b_Choir_slotOf_18 {l : Launch} {E : EnvT} {d : Nat} {K : AV → Mem → Prop} {M : Mem} {r : Nat} {x1 : Int32} {x4 : Int32} {x5 : Int32} (hd : 1 ≤ d)
  (h : ((x4 ≤ x5 →
   K (.int (iN (-1)), 0) M) ∧
  (¬ x4 ≤ x5 →
   (vp_in x5 48 ∧ ((¬ (iN (M r 6 (x5).toNatClampNeg)) = x1 →
    G l E d m_Choir_slotOf 18 [(0, (.ref r, 11)), (1, (.int x1, 0)), (4, (.int x4, 0)), (5, (.int (x5 + iN 1), 0))] [] M K) ∧
   ((iN (M r 6 (x5).toNatClampNeg)) = x1 →
    K (.int x5, 0) M)))))) :
  G l E d m_Choir_slotOf 18 [(0, (.ref r, 11)), (1, (.int x1, 0)), (4, (.int x4, 0)), (5, (.int x5, 0))] [] M K := G.blk 60 _ hd ok_Choir_slotOf rfl h
def bt_Choir_owe : BtT := [(0, [0, 1, 2, 3], true, [(0, .aload_n 0, 1, 0, 0, 0, m0),
   (1, .iload_n 1, 1, 0, 0, 0, m0),
   (2, .iload_n 2, 1, 0, 0, 0, m0),
   (3, .invokevirtual 107, 3, 0, 0, 798, m_Choir_slotOf),
   (6, .istore 4, 2, 0, 0, 0, m0),
   (8, .iload 4, 2, 0, 0, 0, m0),
   (10, .iconst (-1), 1, 0, 0, 0, m0),
   (11, .if_icmp .eq 33, 3, 44, 0, 0, m0),
   (14, .nop, 0, 0, 0, 0, m0)]),
  (14, [], false, [(14, .aload_n 0, 1, 0, 0, 0, m0),
   (15, .getfield 31, 3, 6, 0, 276, m0),
   (18, .iload 4, 2, 0, 0, 0, m0),
   (20, .iaload, 1, 0, 0, 0, m0),
   (21, .iload_n 3, 1, 0, 0, 0, m0),
   (22, .iadd, 1, 0, 0, 0, m0),
   (23, .sipush 999, 3, 0, 0, 0, m0),
   (26, .if_icmp .le 5, 3, 31, 0, 0, m0),
   (29, .nop, 0, 0, 0, 0, m0)]),
  (29, [], false, [(29, .iconst 0, 1, 0, 0, 0, m0),
   (30, .ireturn, 1, 0, 0, 0, m0)]),
  (31, [], false, [(31, .aload_n 0, 1, 0, 0, 0, m0),
   (32, .getfield 31, 3, 6, 0, 276, m0),
   (35, .iload 4, 2, 0, 0, 0, m0),
   (37, .dup2, 1, 0, 0, 0, m0),
   (38, .iaload, 1, 0, 0, 0, m0),
   (39, .iload_n 3, 1, 0, 0, 0, m0),
   (40, .iadd, 1, 0, 0, 0, m0),
   (41, .iastore, 1, 0, 0, 0, m0),
   (42, .iconst 1, 1, 0, 0, 0, m0),
   (43, .ireturn, 1, 0, 0, 0, m0)]),
  (44, [], false, [(44, .aload_n 0, 1, 0, 0, 0, m0),
   (45, .getfield 37, 3, 7, 0, 278, m0),
   (48, .iload_n 1, 1, 0, 0, 0, m0),
   (49, .iload_n 2, 1, 0, 0, 0, m0),
   (50, .invokevirtual 110, 3, 0, 0, 802, m_Waiting_placeOf),
   (53, .istore 5, 2, 0, 0, 0, m0),
   (55, .iload 5, 2, 0, 0, 0, m0),
   (57, .iconst (-1), 1, 0, 0, 0, m0),
   (58, .if_icmp .eq 14, 3, 72, 0, 0, m0),
   (61, .nop, 0, 0, 0, 0, m0)]),
  (61, [], false, [(61, .aload_n 0, 1, 0, 0, 0, m0),
   (62, .getfield 37, 3, 7, 0, 278, m0),
   (65, .iload 5, 2, 0, 0, 0, m0),
   (67, .iload_n 3, 1, 0, 0, 0, m0),
   (68, .invokevirtual 151, 3, 0, 0, 806, m_Waiting_raise),
   (71, .ireturn, 1, 0, 0, 0, m0)]),
  (72, [], false, [(72, .aload_n 0, 1, 0, 0, 0, m0),
   (73, .iconst (-1), 1, 0, 0, 0, m0),
   (74, .iload_n 2, 1, 0, 0, 0, m0),
   (75, .invokevirtual 107, 3, 0, 0, 798, m_Choir_slotOf),
   (78, .istore 4, 2, 0, 0, 0, m0),
   (80, .iload 4, 2, 0, 0, 0, m0),
   (82, .iconst (-1), 1, 0, 0, 0, m0),
   (83, .if_icmp .ne 14, 3, 97, 0, 0, m0),
   (86, .nop, 0, 0, 0, 0, m0)]),
  (86, [], false, [(86, .aload_n 0, 1, 0, 0, 0, m0),
   (87, .getfield 37, 3, 7, 0, 278, m0),
   (90, .iload_n 1, 1, 0, 0, 0, m0),
   (91, .iload_n 2, 1, 0, 0, 0, m0),
   (92, .iload_n 3, 1, 0, 0, 0, m0),
   (93, .invokevirtual 154, 3, 0, 0, 810, m_Waiting_join),
   (96, .ireturn, 1, 0, 0, 0, m0)]),
  (97, [], false, [(97, .aload_n 0, 1, 0, 0, 0, m0),
   (98, .getfield 28, 3, 5, 0, 274, m0),
   (101, .iload 4, 2, 0, 0, 0, m0),
   (103, .iload_n 1, 1, 0, 0, 0, m0),
   (104, .iastore, 1, 0, 0, 0, m0),
   (105, .aload_n 0, 1, 0, 0, 0, m0),
   (106, .getfield 31, 3, 6, 0, 276, m0),
   (109, .iload 4, 2, 0, 0, 0, m0),
   (111, .iload_n 3, 1, 0, 0, 0, m0),
   (112, .iastore, 1, 0, 0, 0, m0),
   (113, .iconst 1, 1, 0, 0, 0, m0),
   (114, .ireturn, 1, 0, 0, 0, m0)])]
theorem ok_Choir_owe : okBt m_Choir_owe bt_Choir_owe = true := by decide +kernel
set_option maxRecDepth 100000 in
theorem b_Choir_owe_0 {l : Launch} {E : EnvT} {d : Nat} {K : AV → Mem → Prop} {M : Mem} {r : Nat} {x1 : Int32} {x2 : Int32} {x3 : Int32} (hd : 1 ≤ d)
  (h : CT l E (d - 1) m_Choir_slotOf [(.ref r, 11), (.int x1, 0), (.int x2, 0)] M (fun v1 M1 =>
   (((toI v1) = (iN (-1)) →
    CT l E (d - 1) m_Waiting_placeOf [(.ref r, 19), (.int x1, 0), (.int x2, 0)] M1 (fun v2 M2 =>
     (((toI v2) = (iN (-1)) →
      CT l E (d - 1) m_Choir_slotOf [(.ref r, 11), (.int (iN (-1)), 0), (.int x2, 0)] M2 (fun v3 M3 =>
       ((¬ (toI v3) = (iN (-1)) →
        (vp_in (toI v3) 48 ∧ vp_in (toI v3) 48 ∧ (((iN 1) = 0 ∨ (iN 1) = 1)) ∧ K (.int (iN 1), 0) (upd3 (upd3 M3 r 6 ((toI v3)).toNatClampNeg (x1).toInt) r 7 ((toI v3)).toNatClampNeg (x3).toInt))) ∧
       ((toI v3) = (iN (-1)) →
        CT l E (d - 1) m_Waiting_join [(.ref r, 19), (.int x1, 0), (.int x2, 0), (.int x3, 0)] M3 (fun v4 M4 =>
         ((((toI v4) = 0 ∨ (toI v4) = 1)) ∧ K (.int (toI v4), 0) M4)))))) ∧
     (¬ (toI v2) = (iN (-1)) →
      CT l E (d - 1) m_Waiting_raise [(.ref r, 19), (.int (toI v2), 0), (.int x3, 0)] M2 (fun v5 M5 =>
       ((((toI v5) = 0 ∨ (toI v5) = 1)) ∧ K (.int (toI v5), 0) M5)))))) ∧
   (¬ (toI v1) = (iN (-1)) →
    (vp_in (toI v1) 48 ∧ ((((iN (M1 r 7 ((toI v1)).toNatClampNeg)) + x3) ≤ (iN 999) →
     (vp_in (toI v1) 48 ∧ vp_in (toI v1) 48 ∧ (((iN 1) = 0 ∨ (iN 1) = 1)) ∧ K (.int (iN 1), 0) (upd3 M1 r 7 ((toI v1)).toNatClampNeg (((iN (M1 r 7 ((toI v1)).toNatClampNeg)) + x3)).toInt))) ∧
    (¬ ((iN (M1 r 7 ((toI v1)).toNatClampNeg)) + x3) ≤ (iN 999) →
     ((((iN 0) = 0 ∨ (iN 0) = 1)) ∧ K (.int (iN 0), 0) M1)))))))) :
  G l E d m_Choir_owe 0 [(0, (.ref r, 11)), (1, (.int x1, 0)), (2, (.int x2, 0)), (3, (.int x3, 0))] [] M K := G.blk 60 _ hd ok_Choir_owe rfl h
def bt_Choir_debtsAtNotes : BtT := [(0, [0], true, [(0, .iconst 0, 1, 0, 0, 0, m0),
   (1, .istore_n 1, 1, 0, 0, 0, m0),
   (2, .iconst 0, 1, 0, 0, 0, m0),
   (3, .istore_n 2, 1, 0, 0, 0, m0),
   (4, .nop, 0, 0, 0, 0, m0)]),
  (4, [0, 1, 2], true, [(4, .iload_n 2, 1, 0, 0, 0, m0),
   (5, .bipush 48, 2, 0, 0, 0, m0),
   (7, .if_icmp .ge 21, 3, 28, 0, 0, m0),
   (10, .nop, 0, 0, 0, 0, m0)]),
  (10, [], false, [(10, .aload_n 0, 1, 0, 0, 0, m0),
   (11, .getfield 31, 3, 6, 0, 276, m0),
   (14, .iload_n 2, 1, 0, 0, 0, m0),
   (15, .iaload, 1, 0, 0, 0, m0),
   (16, .ifCond .le 6, 3, 22, 0, 0, m0),
   (19, .nop, 0, 0, 0, 0, m0)]),
  (19, [], false, [(19, .iinc 1 1, 3, 0, 0, 0, m0),
   (22, .nop, 0, 0, 0, 0, m0)]),
  (22, [], false, [(22, .iinc 2 1, 3, 0, 0, 0, m0),
   (25, .goto (-21), 3, 4, 0, 0, m0)]),
  (28, [], false, [(28, .iload_n 1, 1, 0, 0, 0, m0),
   (29, .ireturn, 1, 0, 0, 0, m0)])]
theorem ok_Choir_debtsAtNotes : okBt m_Choir_debtsAtNotes bt_Choir_debtsAtNotes = true := by decide +kernel
set_option maxRecDepth 100000 in
theorem b_Choir_debtsAtNotes_0 {l : Launch} {E : EnvT} {d : Nat} {K : AV → Mem → Prop} {M : Mem} {r : Nat}  (hd : 1 ≤ d)
  (h : G l E d m_Choir_debtsAtNotes 4 [(0, (.ref r, 11)), (1, (.int (iN 0), 0)), (2, (.int (iN 0), 0))] [] M K) :
  G l E d m_Choir_debtsAtNotes 0 [(0, (.ref r, 11))] [] M K := G.blk 60 _ hd ok_Choir_debtsAtNotes rfl h
set_option maxRecDepth 100000 in
theorem b_Choir_debtsAtNotes_4 {l : Launch} {E : EnvT} {d : Nat} {K : AV → Mem → Prop} {M : Mem} {r : Nat} {x1 : Int32} {x2 : Int32} (hd : 1 ≤ d)
  (h : (((iN 48) ≤ x2 →
   K (.int x1, 0) M) ∧
  (¬ (iN 48) ≤ x2 →
   (vp_in x2 48 ∧ (((iN (M r 7 (x2).toNatClampNeg)) ≤ 0 →
    G l E d m_Choir_debtsAtNotes 4 [(0, (.ref r, 11)), (1, (.int x1, 0)), (2, (.int (x2 + iN 1), 0))] [] M K) ∧
   (¬ (iN (M r 7 (x2).toNatClampNeg)) ≤ 0 →
    G l E d m_Choir_debtsAtNotes 4 [(0, (.ref r, 11)), (1, (.int (x1 + iN 1), 0)), (2, (.int (x2 + iN 1), 0))] [] M K)))))) :
  G l E d m_Choir_debtsAtNotes 4 [(0, (.ref r, 11)), (1, (.int x1, 0)), (2, (.int x2, 0))] [] M K := G.blk 60 _ hd ok_Choir_debtsAtNotes rfl h
def bt_Choir_isIn : BtT := [(0, [0, 1], true, [(0, .iload_n 0, 1, 0, 0, 0, m0),
   (1, .iload_n 1, 1, 0, 0, 0, m0),
   (2, .ishr, 1, 0, 0, 0, m0),
   (3, .iconst 1, 1, 0, 0, 0, m0),
   (4, .iand, 1, 0, 0, 0, m0),
   (5, .ifCond .eq 7, 3, 12, 0, 0, m0),
   (8, .nop, 0, 0, 0, 0, m0)]),
  (8, [], false, [(8, .iconst 1, 1, 0, 0, 0, m0),
   (9, .goto 4, 3, 13, 0, 0, m0)]),
  (12, [], false, [(12, .iconst 0, 1, 0, 0, 0, m0),
   (13, .nop, 0, 0, 0, 0, m0)]),
  (13, [], false, [(13, .ireturn, 1, 0, 0, 0, m0)])]
theorem ok_Choir_isIn : okBt m_Choir_isIn bt_Choir_isIn = true := by decide +kernel
set_option maxRecDepth 100000 in
theorem b_Choir_isIn_0 {l : Launch} {E : EnvT} {d : Nat} {K : AV → Mem → Prop} {M : Mem} {x0 : Int32} {x1 : Int32} (hd : 1 ≤ d)
  (h : ((((x0 >>> (x1 &&& 31)) &&& (iN 1)) = 0 →
   ((((iN 0) = 0 ∨ (iN 0) = 1)) ∧ K (.int (iN 0), 0) M)) ∧
  (¬ ((x0 >>> (x1 &&& 31)) &&& (iN 1)) = 0 →
   ((((iN 1) = 0 ∨ (iN 1) = 1)) ∧ K (.int (iN 1), 0) M)))) :
  G l E d m_Choir_isIn 0 [(0, (.int x0, 0)), (1, (.int x1, 0))] [] M K := G.blk 60 _ hd ok_Choir_isIn rfl h
def bt_Choir_grown : BtT := [(0, [0, 1], true, [(0, .iload_n 1, 1, 0, 0, 0, m0),
   (1, .ifCond .eq 10, 3, 11, 0, 0, m0),
   (4, .nop, 0, 0, 0, 0, m0)]),
  (4, [], false, [(4, .aload_n 0, 1, 0, 0, 0, m0),
   (5, .getfield 57, 3, 13, 0, 296, m0),
   (8, .ifCond .ne 5, 3, 13, 0, 0, m0),
   (11, .nop, 0, 0, 0, 0, m0)]),
  (11, [], false, [(11, .iload_n 1, 1, 0, 0, 0, m0),
   (12, .ireturn, 1, 0, 0, 0, m0)]),
  (13, [], false, [(13, .sipush 999, 3, 0, 0, 0, m0),
   (16, .iload_n 1, 1, 0, 0, 0, m0),
   (17, .iconst 1, 1, 0, 0, 0, m0),
   (18, .iload_n 1, 1, 0, 0, 0, m0),
   (19, .aload_n 0, 1, 0, 0, 0, m0),
   (20, .getfield 57, 3, 13, 0, 296, m0),
   (23, .imul, 1, 0, 0, 0, m0),
   (24, .bipush 100, 2, 0, 0, 0, m0),
   (26, .idiv, 1, 0, 0, 0, m0),
   (27, .invokestatic 134, 3, 0, 0, 935, m_Math_max),
   (30, .iadd, 1, 0, 0, 0, m0),
   (31, .invokestatic 145, 3, 0, 0, 938, m_Math_min),
   (34, .ireturn, 1, 0, 0, 0, m0)])]
theorem ok_Choir_grown : okBt m_Choir_grown bt_Choir_grown = true := by decide +kernel
set_option maxRecDepth 100000 in
theorem b_Choir_grown_0 {l : Launch} {E : EnvT} {d : Nat} {K : AV → Mem → Prop} {M : Mem} {r : Nat} {x1 : Int32} (hd : 1 ≤ d)
  (h : ((x1 = 0 →
   K (.int x1, 0) M) ∧
  (¬ x1 = 0 →
   ((¬ (iN (M r 0 13)) = 0 →
    (¬ (iN 100) = 0 ∧ CT l E (d - 1) m_Math_max [(.int (iN 1), 0), (.int ((x1 * (iN (M r 0 13))) / (iN 100)), 0)] M (fun v1 M1 =>
     CT l E (d - 1) m_Math_min [(.int (iN 999), 0), (.int (x1 + (toI v1)), 0)] M1 (fun v2 M2 =>
      K (.int (toI v2), 0) M2)))) ∧
   ((iN (M r 0 13)) = 0 →
    K (.int x1, 0) M))))) :
  G l E d m_Choir_grown 0 [(0, (.ref r, 11)), (1, (.int x1, 0))] [] M K := G.blk 60 _ hd ok_Choir_grown rfl h
def bt_Choir_grownIn : BtT := [(0, [0, 1, 2], true, [(0, .iload_n 1, 1, 0, 0, 0, m0),
   (1, .istore_n 3, 1, 0, 0, 0, m0),
   (2, .iconst 0, 1, 0, 0, 0, m0),
   (3, .istore 4, 2, 0, 0, 0, m0),
   (5, .nop, 0, 0, 0, 0, m0)]),
  (5, [0, 2, 3, 4], true, [(5, .iload 4, 2, 0, 0, 0, m0),
   (7, .iload_n 2, 1, 0, 0, 0, m0),
   (8, .if_icmp .ge 28, 3, 36, 0, 0, m0),
   (11, .nop, 0, 0, 0, 0, m0)]),
  (11, [], false, [(11, .aload_n 0, 1, 0, 0, 0, m0),
   (12, .iload_n 3, 1, 0, 0, 0, m0),
   (13, .invokevirtual 148, 3, 0, 0, 931, m_Choir_grown),
   (16, .istore 5, 2, 0, 0, 0, m0),
   (18, .iload 5, 2, 0, 0, 0, m0),
   (20, .iload_n 3, 1, 0, 0, 0, m0),
   (21, .if_icmp .ne 6, 3, 27, 0, 0, m0),
   (24, .nop, 0, 0, 0, 0, m0)]),
  (24, [], false, [(24, .goto 12, 3, 36, 0, 0, m0)]),
  (27, [], false, [(27, .iload 5, 2, 0, 0, 0, m0),
   (29, .istore_n 3, 1, 0, 0, 0, m0),
   (30, .iinc 4 1, 3, 0, 0, 0, m0),
   (33, .goto (-28), 3, 5, 0, 0, m0)]),
  (36, [], false, [(36, .iload_n 3, 1, 0, 0, 0, m0),
   (37, .ireturn, 1, 0, 0, 0, m0)])]
theorem ok_Choir_grownIn : okBt m_Choir_grownIn bt_Choir_grownIn = true := by decide +kernel
set_option maxRecDepth 100000 in
theorem b_Choir_grownIn_0 {l : Launch} {E : EnvT} {d : Nat} {K : AV → Mem → Prop} {M : Mem} {r : Nat} {x1 : Int32} {x2 : Int32} (hd : 1 ≤ d)
  (h : G l E d m_Choir_grownIn 5 [(0, (.ref r, 11)), (2, (.int x2, 0)), (3, (.int x1, 0)), (4, (.int (iN 0), 0))] [] M K) :
  G l E d m_Choir_grownIn 0 [(0, (.ref r, 11)), (1, (.int x1, 0)), (2, (.int x2, 0))] [] M K := G.blk 60 _ hd ok_Choir_grownIn rfl h
set_option maxRecDepth 100000 in
theorem b_Choir_grownIn_5 {l : Launch} {E : EnvT} {d : Nat} {K : AV → Mem → Prop} {M : Mem} {r : Nat} {x2 : Int32} {x3 : Int32} {x4 : Int32} (hd : 1 ≤ d)
  (h : ((x2 ≤ x4 →
   K (.int x3, 0) M) ∧
  (¬ x2 ≤ x4 →
   CT l E (d - 1) m_Choir_grown [(.ref r, 11), (.int x3, 0)] M (fun v1 M1 =>
    ((¬ (toI v1) = x3 →
     G l E d m_Choir_grownIn 5 [(0, (.ref r, 11)), (2, (.int x2, 0)), (3, (.int (toI v1), 0)), (4, (.int (x4 + iN 1), 0))] [] M1 K) ∧
    ((toI v1) = x3 →
     K (.int x3, 0) M1)))))) :
  G l E d m_Choir_grownIn 5 [(0, (.ref r, 11)), (2, (.int x2, 0)), (3, (.int x3, 0)), (4, (.int x4, 0))] [] M K := G.blk 60 _ hd ok_Choir_grownIn rfl h
def bt_Choir_allOwedIn : BtT := [(0, [0, 1], true, [(0, .iconst 0, 1, 0, 0, 0, m0),
   (1, .istore_n 2, 1, 0, 0, 0, m0),
   (2, .iconst 0, 1, 0, 0, 0, m0),
   (3, .istore_n 3, 1, 0, 0, 0, m0),
   (4, .nop, 0, 0, 0, 0, m0)]),
  (4, [0, 1, 2, 3], true, [(4, .iload_n 3, 1, 0, 0, 0, m0),
   (5, .aload_n 0, 1, 0, 0, 0, m0),
   (6, .getfield 41, 3, 8, 0, 280, m0),
   (9, .if_icmp .ge 67, 3, 76, 0, 0, m0),
   (12, .nop, 0, 0, 0, 0, m0)]),
  (12, [], false, [(12, .aload_n 0, 1, 0, 0, 0, m0),
   (13, .getfield 48, 3, 10, 0, 287, m0),
   (16, .iload_n 3, 1, 0, 0, 0, m0),
   (17, .invokestatic 103, 3, 0, 0, 924, m_Choir_isIn),
   (20, .ifCond .eq 7, 3, 27, 0, 0, m0),
   (23, .nop, 0, 0, 0, 0, m0)]),
  (23, [], false, [(23, .iconst 0, 1, 0, 0, 0, m0),
   (24, .goto 4, 3, 28, 0, 0, m0)]),
  (27, [], false, [(27, .iload_n 1, 1, 0, 0, 0, m0),
   (28, .nop, 0, 0, 0, 0, m0)]),
  (28, [], false, [(28, .istore 4, 2, 0, 0, 0, m0),
   (30, .iconst 0, 1, 0, 0, 0, m0),
   (31, .istore 5, 2, 0, 0, 0, m0),
   (33, .nop, 0, 0, 0, 0, m0)]),
  (33, [0, 1, 2, 3, 4, 5], true, [(33, .iload 5, 2, 0, 0, 0, m0),
   (35, .aload_n 0, 1, 0, 0, 0, m0),
   (36, .getfield 22, 3, 3, 0, 269, m0),
   (39, .iload_n 3, 1, 0, 0, 0, m0),
   (40, .iaload, 1, 0, 0, 0, m0),
   (41, .if_icmp .ge 29, 3, 70, 0, 0, m0),
   (44, .nop, 0, 0, 0, 0, m0)]),
  (44, [], false, [(44, .iload_n 2, 1, 0, 0, 0, m0),
   (45, .aload_n 0, 1, 0, 0, 0, m0),
   (46, .aload_n 0, 1, 0, 0, 0, m0),
   (47, .getfield 31, 3, 6, 0, 276, m0),
   (50, .iload_n 3, 1, 0, 0, 0, m0),
   (51, .iload 5, 2, 0, 0, 0, m0),
   (53, .invokestatic 89, 3, 0, 0, 760, m_Choir_slot),
   (56, .iaload, 1, 0, 0, 0, m0),
   (57, .iload 4, 2, 0, 0, 0, m0),
   (59, .invokevirtual 142, 3, 0, 0, 927, m_Choir_grownIn),
   (62, .iadd, 1, 0, 0, 0, m0),
   (63, .istore_n 2, 1, 0, 0, 0, m0),
   (64, .iinc 5 1, 3, 0, 0, 0, m0),
   (67, .goto (-34), 3, 33, 0, 0, m0)]),
  (70, [], false, [(70, .iinc 3 1, 3, 0, 0, 0, m0),
   (73, .goto (-69), 3, 4, 0, 0, m0)]),
  (76, [], false, [(76, .iconst 0, 1, 0, 0, 0, m0),
   (77, .istore_n 3, 1, 0, 0, 0, m0),
   (78, .nop, 0, 0, 0, 0, m0)]),
  (78, [0, 2, 3], true, [(78, .iload_n 3, 1, 0, 0, 0, m0),
   (79, .aload_n 0, 1, 0, 0, 0, m0),
   (80, .getfield 37, 3, 7, 0, 278, m0),
   (83, .getfield 72, 3, 3, 7, 250, m0),
   (86, .if_icmp .ge 21, 3, 107, 0, 0, m0),
   (89, .nop, 0, 0, 0, 0, m0)]),
  (89, [], false, [(89, .iload_n 2, 1, 0, 0, 0, m0),
   (90, .aload_n 0, 1, 0, 0, 0, m0),
   (91, .getfield 37, 3, 7, 0, 278, m0),
   (94, .getfield 116, 3, 2, 7, 248, m0),
   (97, .iload_n 3, 1, 0, 0, 0, m0),
   (98, .iaload, 1, 0, 0, 0, m0),
   (99, .iadd, 1, 0, 0, 0, m0),
   (100, .istore_n 2, 1, 0, 0, 0, m0),
   (101, .iinc 3 1, 3, 0, 0, 0, m0),
   (104, .goto (-26), 3, 78, 0, 0, m0)]),
  (107, [], false, [(107, .iload_n 2, 1, 0, 0, 0, m0),
   (108, .ireturn, 1, 0, 0, 0, m0)])]
theorem ok_Choir_allOwedIn : okBt m_Choir_allOwedIn bt_Choir_allOwedIn = true := by decide +kernel
set_option maxRecDepth 100000 in
theorem b_Choir_allOwedIn_0 {l : Launch} {E : EnvT} {d : Nat} {K : AV → Mem → Prop} {M : Mem} {r : Nat} {x1 : Int32} (hd : 1 ≤ d)
  (h : G l E d m_Choir_allOwedIn 4 [(0, (.ref r, 11)), (1, (.int x1, 0)), (2, (.int (iN 0), 0)), (3, (.int (iN 0), 0))] [] M K) :
  G l E d m_Choir_allOwedIn 0 [(0, (.ref r, 11)), (1, (.int x1, 0))] [] M K := G.blk 60 _ hd ok_Choir_allOwedIn rfl h
set_option maxRecDepth 100000 in
theorem b_Choir_allOwedIn_4 {l : Launch} {E : EnvT} {d : Nat} {K : AV → Mem → Prop} {M : Mem} {r : Nat} {x1 : Int32} {x2 : Int32} {x3 : Int32} (hd : 1 ≤ d)
  (h : (((iN (M r 0 8)) ≤ x3 →
   G l E d m_Choir_allOwedIn 78 [(0, (.ref r, 11)), (2, (.int x2, 0)), (3, (.int (iN 0), 0))] [] M K) ∧
  (¬ (iN (M r 0 8)) ≤ x3 →
   CT l E (d - 1) m_Choir_isIn [(.int (iN (M r 0 10)), 0), (.int x3, 0)] M (fun v1 M1 =>
    (((toI v1) = 0 →
     G l E d m_Choir_allOwedIn 33 [(0, (.ref r, 11)), (1, (.int x1, 0)), (2, (.int x2, 0)), (3, (.int x3, 0)), (4, (.int x1, 0)), (5, (.int (iN 0), 0))] [] M1 K) ∧
    (¬ (toI v1) = 0 →
     G l E d m_Choir_allOwedIn 33 [(0, (.ref r, 11)), (1, (.int x1, 0)), (2, (.int x2, 0)), (3, (.int x3, 0)), (4, (.int (iN 0), 0)), (5, (.int (iN 0), 0))] [] M1 K)))))) :
  G l E d m_Choir_allOwedIn 4 [(0, (.ref r, 11)), (1, (.int x1, 0)), (2, (.int x2, 0)), (3, (.int x3, 0))] [] M K := G.blk 60 _ hd ok_Choir_allOwedIn rfl h
set_option maxRecDepth 100000 in
theorem b_Choir_allOwedIn_33 {l : Launch} {E : EnvT} {d : Nat} {K : AV → Mem → Prop} {M : Mem} {r : Nat} {x1 : Int32} {x2 : Int32} {x3 : Int32} {x4 : Int32} {x5 : Int32} (hd : 1 ≤ d)
  (h : (vp_in x3 8 ∧ (((iN (M r 4 (x3).toNatClampNeg)) ≤ x5 →
   G l E d m_Choir_allOwedIn 4 [(0, (.ref r, 11)), (1, (.int x1, 0)), (2, (.int x2, 0)), (3, (.int (x3 + iN 1), 0))] [] M K) ∧
  (¬ (iN (M r 4 (x3).toNatClampNeg)) ≤ x5 →
   CT l E (d - 1) m_Choir_slot [(.int x3, 0), (.int x5, 0)] M (fun v1 M1 =>
    (vp_in (toI v1) 48 ∧ CT l E (d - 1) m_Choir_grownIn [(.ref r, 11), (.int (iN (M1 r 7 ((toI v1)).toNatClampNeg)), 0), (.int x4, 0)] M1 (fun v2 M2 =>
     G l E d m_Choir_allOwedIn 33 [(0, (.ref r, 11)), (1, (.int x1, 0)), (2, (.int (x2 + (toI v2)), 0)), (3, (.int x3, 0)), (4, (.int x4, 0)), (5, (.int (x5 + iN 1), 0))] [] M2 K))))))) :
  G l E d m_Choir_allOwedIn 33 [(0, (.ref r, 11)), (1, (.int x1, 0)), (2, (.int x2, 0)), (3, (.int x3, 0)), (4, (.int x4, 0)), (5, (.int x5, 0))] [] M K := G.blk 60 _ hd ok_Choir_allOwedIn rfl h
set_option maxRecDepth 100000 in
theorem b_Choir_allOwedIn_78 {l : Launch} {E : EnvT} {d : Nat} {K : AV → Mem → Prop} {M : Mem} {r : Nat} {x2 : Int32} {x3 : Int32} (hd : 1 ≤ d)
  (h : (((iN (M r 8 3)) ≤ x3 →
   K (.int x2, 0) M) ∧
  (¬ (iN (M r 8 3)) ≤ x3 →
   (vp_in x3 8 ∧ G l E d m_Choir_allOwedIn 78 [(0, (.ref r, 11)), (2, (.int (x2 + (iN (M r 11 (x3).toNatClampNeg))), 0)), (3, (.int (x3 + iN 1), 0))] [] M K)))) :
  G l E d m_Choir_allOwedIn 78 [(0, (.ref r, 11)), (2, (.int x2, 0)), (3, (.int x3, 0))] [] M K := G.blk 60 _ hd ok_Choir_allOwedIn rfl h
def bt_Choir_allOwed : BtT := [(0, [0], true, [(0, .aload_n 0, 1, 0, 0, 0, m0),
   (1, .iconst 0, 1, 0, 0, 0, m0),
   (2, .invokevirtual 139, 3, 0, 0, 920, m_Choir_allOwedIn),
   (5, .ireturn, 1, 0, 0, 0, m0)])]
theorem ok_Choir_allOwed : okBt m_Choir_allOwed bt_Choir_allOwed = true := by decide +kernel
set_option maxRecDepth 100000 in
theorem b_Choir_allOwed_0 {l : Launch} {E : EnvT} {d : Nat} {K : AV → Mem → Prop} {M : Mem} {r : Nat}  (hd : 1 ≤ d)
  (h : CT l E (d - 1) m_Choir_allOwedIn [(.ref r, 11), (.int (iN 0), 0)] M (fun v1 M1 =>
   K (.int (toI v1), 0) M1)) :
  G l E d m_Choir_allOwed 0 [(0, (.ref r, 11))] [] M K := G.blk 60 _ hd ok_Choir_allOwed rfl h
def bt_Choir_allCoins : BtT := [(0, [0], true, [(0, .iconst 0, 1, 0, 0, 0, m0),
   (1, .istore_n 1, 1, 0, 0, 0, m0),
   (2, .iconst 0, 1, 0, 0, 0, m0),
   (3, .istore_n 2, 1, 0, 0, 0, m0),
   (4, .nop, 0, 0, 0, 0, m0)]),
  (4, [0, 1, 2], true, [(4, .iload_n 2, 1, 0, 0, 0, m0),
   (5, .aload_n 0, 1, 0, 0, 0, m0),
   (6, .getfield 41, 3, 8, 0, 280, m0),
   (9, .if_icmp .ge 18, 3, 27, 0, 0, m0),
   (12, .nop, 0, 0, 0, 0, m0)]),
  (12, [], false, [(12, .iload_n 1, 1, 0, 0, 0, m0),
   (13, .aload_n 0, 1, 0, 0, 0, m0),
   (14, .getfield 15, 3, 1, 0, 263, m0),
   (17, .iload_n 2, 1, 0, 0, 0, m0),
   (18, .iaload, 1, 0, 0, 0, m0),
   (19, .iadd, 1, 0, 0, 0, m0),
   (20, .istore_n 1, 1, 0, 0, 0, m0),
   (21, .iinc 2 1, 3, 0, 0, 0, m0),
   (24, .goto (-20), 3, 4, 0, 0, m0)]),
  (27, [], false, [(27, .iload_n 1, 1, 0, 0, 0, m0),
   (28, .ireturn, 1, 0, 0, 0, m0)])]
theorem ok_Choir_allCoins : okBt m_Choir_allCoins bt_Choir_allCoins = true := by decide +kernel
set_option maxRecDepth 100000 in
theorem b_Choir_allCoins_0 {l : Launch} {E : EnvT} {d : Nat} {K : AV → Mem → Prop} {M : Mem} {r : Nat}  (hd : 1 ≤ d)
  (h : G l E d m_Choir_allCoins 4 [(0, (.ref r, 11)), (1, (.int (iN 0), 0)), (2, (.int (iN 0), 0))] [] M K) :
  G l E d m_Choir_allCoins 0 [(0, (.ref r, 11))] [] M K := G.blk 60 _ hd ok_Choir_allCoins rfl h
set_option maxRecDepth 100000 in
theorem b_Choir_allCoins_4 {l : Launch} {E : EnvT} {d : Nat} {K : AV → Mem → Prop} {M : Mem} {r : Nat} {x1 : Int32} {x2 : Int32} (hd : 1 ≤ d)
  (h : (((iN (M r 0 8)) ≤ x2 →
   K (.int x1, 0) M) ∧
  (¬ (iN (M r 0 8)) ≤ x2 →
   (vp_in x2 8 ∧ G l E d m_Choir_allCoins 4 [(0, (.ref r, 11)), (1, (.int (x1 + (iN (M r 2 (x2).toNatClampNeg))), 0)), (2, (.int (x2 + iN 1), 0))] [] M K)))) :
  G l E d m_Choir_allCoins 4 [(0, (.ref r, 11)), (1, (.int x1, 0)), (2, (.int x2, 0))] [] M K := G.blk 60 _ hd ok_Choir_allCoins rfl h
def bt_Choir_knows : BtT := [(0, [0, 1], true, [(0, .iload_n 1, 1, 0, 0, 0, m0),
   (1, .ifCond .lt 15, 3, 16, 0, 0, m0),
   (4, .nop, 0, 0, 0, 0, m0)]),
  (4, [], false, [(4, .iload_n 1, 1, 0, 0, 0, m0),
   (5, .aload_n 0, 1, 0, 0, 0, m0),
   (6, .getfield 41, 3, 8, 0, 280, m0),
   (9, .if_icmp .ge 7, 3, 16, 0, 0, m0),
   (12, .nop, 0, 0, 0, 0, m0)]),
  (12, [], false, [(12, .iconst 1, 1, 0, 0, 0, m0),
   (13, .goto 4, 3, 17, 0, 0, m0)]),
  (16, [], false, [(16, .iconst 0, 1, 0, 0, 0, m0),
   (17, .nop, 0, 0, 0, 0, m0)]),
  (17, [], false, [(17, .ireturn, 1, 0, 0, 0, m0)])]
theorem ok_Choir_knows : okBt m_Choir_knows bt_Choir_knows = true := by decide +kernel
set_option maxRecDepth 100000 in
theorem b_Choir_knows_0 {l : Launch} {E : EnvT} {d : Nat} {K : AV → Mem → Prop} {M : Mem} {r : Nat} {x1 : Int32} (hd : 1 ≤ d)
  (h : ((x1 < 0 →
   ((((iN 0) = 0 ∨ (iN 0) = 1)) ∧ K (.int (iN 0), 0) M)) ∧
  (¬ x1 < 0 →
   (((iN (M r 0 8)) ≤ x1 →
    ((((iN 0) = 0 ∨ (iN 0) = 1)) ∧ K (.int (iN 0), 0) M)) ∧
   (¬ (iN (M r 0 8)) ≤ x1 →
    ((((iN 1) = 0 ∨ (iN 1) = 1)) ∧ K (.int (iN 1), 0) M)))))) :
  G l E d m_Choir_knows 0 [(0, (.ref r, 11)), (1, (.int x1, 0))] [] M K := G.blk 60 _ hd ok_Choir_knows rfl h
def bt_Choir_oneIfIn : BtT := [(0, [0, 1], true, [(0, .iload_n 0, 1, 0, 0, 0, m0),
   (1, .iload_n 1, 1, 0, 0, 0, m0),
   (2, .ishr, 1, 0, 0, 0, m0),
   (3, .iconst 1, 1, 0, 0, 0, m0),
   (4, .iand, 1, 0, 0, 0, m0),
   (5, .ireturn, 1, 0, 0, 0, m0)])]
theorem ok_Choir_oneIfIn : okBt m_Choir_oneIfIn bt_Choir_oneIfIn = true := by decide +kernel
set_option maxRecDepth 100000 in
theorem b_Choir_oneIfIn_0 {l : Launch} {E : EnvT} {d : Nat} {K : AV → Mem → Prop} {M : Mem} {x0 : Int32} {x1 : Int32} (hd : 1 ≤ d)
  (h : K (.int ((x0 >>> (x1 &&& 31)) &&& (iN 1)), 0) M) :
  G l E d m_Choir_oneIfIn 0 [(0, (.int x0, 0)), (1, (.int x1, 0))] [] M K := G.blk 60 _ hd ok_Choir_oneIfIn rfl h
def bt_Choir_owesInAll : BtT := [(0, [0, 1], true, [(0, .iconst 0, 1, 0, 0, 0, m0),
   (1, .istore_n 2, 1, 0, 0, 0, m0),
   (2, .iconst 0, 1, 0, 0, 0, m0),
   (3, .istore_n 3, 1, 0, 0, 0, m0),
   (4, .nop, 0, 0, 0, 0, m0)]),
  (4, [0, 1, 2, 3], true, [(4, .iload_n 3, 1, 0, 0, 0, m0),
   (5, .bipush 48, 2, 0, 0, 0, m0),
   (7, .if_icmp .ge 28, 3, 35, 0, 0, m0),
   (10, .nop, 0, 0, 0, 0, m0)]),
  (10, [], false, [(10, .aload_n 0, 1, 0, 0, 0, m0),
   (11, .getfield 28, 3, 5, 0, 274, m0),
   (14, .iload_n 3, 1, 0, 0, 0, m0),
   (15, .iaload, 1, 0, 0, 0, m0),
   (16, .iload_n 1, 1, 0, 0, 0, m0),
   (17, .if_icmp .ne 12, 3, 29, 0, 0, m0),
   (20, .nop, 0, 0, 0, 0, m0)]),
  (20, [], false, [(20, .iload_n 2, 1, 0, 0, 0, m0),
   (21, .aload_n 0, 1, 0, 0, 0, m0),
   (22, .getfield 31, 3, 6, 0, 276, m0),
   (25, .iload_n 3, 1, 0, 0, 0, m0),
   (26, .iaload, 1, 0, 0, 0, m0),
   (27, .iadd, 1, 0, 0, 0, m0),
   (28, .istore_n 2, 1, 0, 0, 0, m0),
   (29, .nop, 0, 0, 0, 0, m0)]),
  (29, [], false, [(29, .iinc 3 1, 3, 0, 0, 0, m0),
   (32, .goto (-28), 3, 4, 0, 0, m0)]),
  (35, [], false, [(35, .iconst 0, 1, 0, 0, 0, m0),
   (36, .istore_n 3, 1, 0, 0, 0, m0),
   (37, .nop, 0, 0, 0, 0, m0)]),
  (37, [0, 1, 2, 3], true, [(37, .iload_n 3, 1, 0, 0, 0, m0),
   (38, .aload_n 0, 1, 0, 0, 0, m0),
   (39, .getfield 37, 3, 7, 0, 278, m0),
   (42, .getfield 72, 3, 3, 7, 250, m0),
   (45, .if_icmp .ge 34, 3, 79, 0, 0, m0),
   (48, .nop, 0, 0, 0, 0, m0)]),
  (48, [], false, [(48, .aload_n 0, 1, 0, 0, 0, m0),
   (49, .getfield 37, 3, 7, 0, 278, m0),
   (52, .getfield 119, 3, 0, 7, 242, m0),
   (55, .iload_n 3, 1, 0, 0, 0, m0),
   (56, .iaload, 1, 0, 0, 0, m0),
   (57, .iload_n 1, 1, 0, 0, 0, m0),
   (58, .if_icmp .ne 15, 3, 73, 0, 0, m0),
   (61, .nop, 0, 0, 0, 0, m0)]),
  (61, [], false, [(61, .iload_n 2, 1, 0, 0, 0, m0),
   (62, .aload_n 0, 1, 0, 0, 0, m0),
   (63, .getfield 37, 3, 7, 0, 278, m0),
   (66, .getfield 116, 3, 2, 7, 248, m0),
   (69, .iload_n 3, 1, 0, 0, 0, m0),
   (70, .iaload, 1, 0, 0, 0, m0),
   (71, .iadd, 1, 0, 0, 0, m0),
   (72, .istore_n 2, 1, 0, 0, 0, m0),
   (73, .nop, 0, 0, 0, 0, m0)]),
  (73, [], false, [(73, .iinc 3 1, 3, 0, 0, 0, m0),
   (76, .goto (-39), 3, 37, 0, 0, m0)]),
  (79, [], false, [(79, .iload_n 2, 1, 0, 0, 0, m0),
   (80, .ireturn, 1, 0, 0, 0, m0)])]
theorem ok_Choir_owesInAll : okBt m_Choir_owesInAll bt_Choir_owesInAll = true := by decide +kernel
set_option maxRecDepth 100000 in
theorem b_Choir_owesInAll_0 {l : Launch} {E : EnvT} {d : Nat} {K : AV → Mem → Prop} {M : Mem} {r : Nat} {x1 : Int32} (hd : 1 ≤ d)
  (h : G l E d m_Choir_owesInAll 4 [(0, (.ref r, 11)), (1, (.int x1, 0)), (2, (.int (iN 0), 0)), (3, (.int (iN 0), 0))] [] M K) :
  G l E d m_Choir_owesInAll 0 [(0, (.ref r, 11)), (1, (.int x1, 0))] [] M K := G.blk 60 _ hd ok_Choir_owesInAll rfl h
set_option maxRecDepth 100000 in
theorem b_Choir_owesInAll_4 {l : Launch} {E : EnvT} {d : Nat} {K : AV → Mem → Prop} {M : Mem} {r : Nat} {x1 : Int32} {x2 : Int32} {x3 : Int32} (hd : 1 ≤ d)
  (h : (((iN 48) ≤ x3 →
   G l E d m_Choir_owesInAll 37 [(0, (.ref r, 11)), (1, (.int x1, 0)), (2, (.int x2, 0)), (3, (.int (iN 0), 0))] [] M K) ∧
  (¬ (iN 48) ≤ x3 →
   (vp_in x3 48 ∧ ((¬ (iN (M r 6 (x3).toNatClampNeg)) = x1 →
    G l E d m_Choir_owesInAll 4 [(0, (.ref r, 11)), (1, (.int x1, 0)), (2, (.int x2, 0)), (3, (.int (x3 + iN 1), 0))] [] M K) ∧
   ((iN (M r 6 (x3).toNatClampNeg)) = x1 →
    (vp_in x3 48 ∧ G l E d m_Choir_owesInAll 4 [(0, (.ref r, 11)), (1, (.int x1, 0)), (2, (.int (x2 + (iN (M r 7 (x3).toNatClampNeg))), 0)), (3, (.int (x3 + iN 1), 0))] [] M K))))))) :
  G l E d m_Choir_owesInAll 4 [(0, (.ref r, 11)), (1, (.int x1, 0)), (2, (.int x2, 0)), (3, (.int x3, 0))] [] M K := G.blk 60 _ hd ok_Choir_owesInAll rfl h
set_option maxRecDepth 100000 in
theorem b_Choir_owesInAll_37 {l : Launch} {E : EnvT} {d : Nat} {K : AV → Mem → Prop} {M : Mem} {r : Nat} {x1 : Int32} {x2 : Int32} {x3 : Int32} (hd : 1 ≤ d)
  (h : (((iN (M r 8 3)) ≤ x3 →
   K (.int x2, 0) M) ∧
  (¬ (iN (M r 8 3)) ≤ x3 →
   (vp_in x3 8 ∧ ((¬ (iN (M r 9 (x3).toNatClampNeg)) = x1 →
    G l E d m_Choir_owesInAll 37 [(0, (.ref r, 11)), (1, (.int x1, 0)), (2, (.int x2, 0)), (3, (.int (x3 + iN 1), 0))] [] M K) ∧
   ((iN (M r 9 (x3).toNatClampNeg)) = x1 →
    (vp_in x3 8 ∧ G l E d m_Choir_owesInAll 37 [(0, (.ref r, 11)), (1, (.int x1, 0)), (2, (.int (x2 + (iN (M r 11 (x3).toNatClampNeg))), 0)), (3, (.int (x3 + iN 1), 0))] [] M K))))))) :
  G l E d m_Choir_owesInAll 37 [(0, (.ref r, 11)), (1, (.int x1, 0)), (2, (.int x2, 0)), (3, (.int x3, 0))] [] M K := G.blk 60 _ hd ok_Choir_owesInAll rfl h
def bt_Choir_isOwedInAll : BtT := [(0, [0, 1], true, [(0, .iconst 0, 1, 0, 0, 0, m0),
   (1, .istore_n 2, 1, 0, 0, 0, m0),
   (2, .iconst 0, 1, 0, 0, 0, m0),
   (3, .istore_n 3, 1, 0, 0, 0, m0),
   (4, .nop, 0, 0, 0, 0, m0)]),
  (4, [0, 1, 2, 3], true, [(4, .iload_n 3, 1, 0, 0, 0, m0),
   (5, .aload_n 0, 1, 0, 0, 0, m0),
   (6, .getfield 22, 3, 3, 0, 269, m0),
   (9, .iload_n 1, 1, 0, 0, 0, m0),
   (10, .iaload, 1, 0, 0, 0, m0),
   (11, .if_icmp .ge 22, 3, 33, 0, 0, m0),
   (14, .nop, 0, 0, 0, 0, m0)]),
  (14, [], false, [(14, .iload_n 2, 1, 0, 0, 0, m0),
   (15, .aload_n 0, 1, 0, 0, 0, m0),
   (16, .getfield 31, 3, 6, 0, 276, m0),
   (19, .iload_n 1, 1, 0, 0, 0, m0),
   (20, .iload_n 3, 1, 0, 0, 0, m0),
   (21, .invokestatic 89, 3, 0, 0, 760, m_Choir_slot),
   (24, .iaload, 1, 0, 0, 0, m0),
   (25, .iadd, 1, 0, 0, 0, m0),
   (26, .istore_n 2, 1, 0, 0, 0, m0),
   (27, .iinc 3 1, 3, 0, 0, 0, m0),
   (30, .goto (-26), 3, 4, 0, 0, m0)]),
  (33, [], false, [(33, .iconst 0, 1, 0, 0, 0, m0),
   (34, .istore_n 3, 1, 0, 0, 0, m0),
   (35, .nop, 0, 0, 0, 0, m0)]),
  (35, [0, 1, 2, 3], true, [(35, .iload_n 3, 1, 0, 0, 0, m0),
   (36, .aload_n 0, 1, 0, 0, 0, m0),
   (37, .getfield 37, 3, 7, 0, 278, m0),
   (40, .getfield 72, 3, 3, 7, 250, m0),
   (43, .if_icmp .ge 34, 3, 77, 0, 0, m0),
   (46, .nop, 0, 0, 0, 0, m0)]),
  (46, [], false, [(46, .aload_n 0, 1, 0, 0, 0, m0),
   (47, .getfield 37, 3, 7, 0, 278, m0),
   (50, .getfield 122, 3, 1, 7, 245, m0),
   (53, .iload_n 3, 1, 0, 0, 0, m0),
   (54, .iaload, 1, 0, 0, 0, m0),
   (55, .iload_n 1, 1, 0, 0, 0, m0),
   (56, .if_icmp .ne 15, 3, 71, 0, 0, m0),
   (59, .nop, 0, 0, 0, 0, m0)]),
  (59, [], false, [(59, .iload_n 2, 1, 0, 0, 0, m0),
   (60, .aload_n 0, 1, 0, 0, 0, m0),
   (61, .getfield 37, 3, 7, 0, 278, m0),
   (64, .getfield 116, 3, 2, 7, 248, m0),
   (67, .iload_n 3, 1, 0, 0, 0, m0),
   (68, .iaload, 1, 0, 0, 0, m0),
   (69, .iadd, 1, 0, 0, 0, m0),
   (70, .istore_n 2, 1, 0, 0, 0, m0),
   (71, .nop, 0, 0, 0, 0, m0)]),
  (71, [], false, [(71, .iinc 3 1, 3, 0, 0, 0, m0),
   (74, .goto (-39), 3, 35, 0, 0, m0)]),
  (77, [], false, [(77, .iload_n 2, 1, 0, 0, 0, m0),
   (78, .ireturn, 1, 0, 0, 0, m0)])]
theorem ok_Choir_isOwedInAll : okBt m_Choir_isOwedInAll bt_Choir_isOwedInAll = true := by decide +kernel
set_option maxRecDepth 100000 in
theorem b_Choir_isOwedInAll_0 {l : Launch} {E : EnvT} {d : Nat} {K : AV → Mem → Prop} {M : Mem} {r : Nat} {x1 : Int32} (hd : 1 ≤ d)
  (h : G l E d m_Choir_isOwedInAll 4 [(0, (.ref r, 11)), (1, (.int x1, 0)), (2, (.int (iN 0), 0)), (3, (.int (iN 0), 0))] [] M K) :
  G l E d m_Choir_isOwedInAll 0 [(0, (.ref r, 11)), (1, (.int x1, 0))] [] M K := G.blk 60 _ hd ok_Choir_isOwedInAll rfl h
set_option maxRecDepth 100000 in
theorem b_Choir_isOwedInAll_4 {l : Launch} {E : EnvT} {d : Nat} {K : AV → Mem → Prop} {M : Mem} {r : Nat} {x1 : Int32} {x2 : Int32} {x3 : Int32} (hd : 1 ≤ d)
  (h : (vp_in x1 8 ∧ (((iN (M r 4 (x1).toNatClampNeg)) ≤ x3 →
   G l E d m_Choir_isOwedInAll 35 [(0, (.ref r, 11)), (1, (.int x1, 0)), (2, (.int x2, 0)), (3, (.int (iN 0), 0))] [] M K) ∧
  (¬ (iN (M r 4 (x1).toNatClampNeg)) ≤ x3 →
   CT l E (d - 1) m_Choir_slot [(.int x1, 0), (.int x3, 0)] M (fun v1 M1 =>
    (vp_in (toI v1) 48 ∧ G l E d m_Choir_isOwedInAll 4 [(0, (.ref r, 11)), (1, (.int x1, 0)), (2, (.int (x2 + (iN (M1 r 7 ((toI v1)).toNatClampNeg))), 0)), (3, (.int (x3 + iN 1), 0))] [] M1 K)))))) :
  G l E d m_Choir_isOwedInAll 4 [(0, (.ref r, 11)), (1, (.int x1, 0)), (2, (.int x2, 0)), (3, (.int x3, 0))] [] M K := G.blk 60 _ hd ok_Choir_isOwedInAll rfl h
set_option maxRecDepth 100000 in
theorem b_Choir_isOwedInAll_35 {l : Launch} {E : EnvT} {d : Nat} {K : AV → Mem → Prop} {M : Mem} {r : Nat} {x1 : Int32} {x2 : Int32} {x3 : Int32} (hd : 1 ≤ d)
  (h : (((iN (M r 8 3)) ≤ x3 →
   K (.int x2, 0) M) ∧
  (¬ (iN (M r 8 3)) ≤ x3 →
   (vp_in x3 8 ∧ ((¬ (iN (M r 10 (x3).toNatClampNeg)) = x1 →
    G l E d m_Choir_isOwedInAll 35 [(0, (.ref r, 11)), (1, (.int x1, 0)), (2, (.int x2, 0)), (3, (.int (x3 + iN 1), 0))] [] M K) ∧
   ((iN (M r 10 (x3).toNatClampNeg)) = x1 →
    (vp_in x3 8 ∧ G l E d m_Choir_isOwedInAll 35 [(0, (.ref r, 11)), (1, (.int x1, 0)), (2, (.int (x2 + (iN (M r 11 (x3).toNatClampNeg))), 0)), (3, (.int (x3 + iN 1), 0))] [] M K))))))) :
  G l E d m_Choir_isOwedInAll 35 [(0, (.ref r, 11)), (1, (.int x1, 0)), (2, (.int x2, 0)), (3, (.int x3, 0))] [] M K := G.blk 60 _ hd ok_Choir_isOwedInAll rfl h
def bt_Choir_hasNote : BtT := [(0, [0, 1, 2], true, [(0, .iload_n 2, 1, 0, 0, 0, m0),
   (1, .ifCond .lt 17, 3, 18, 0, 0, m0),
   (4, .nop, 0, 0, 0, 0, m0)]),
  (4, [], false, [(4, .iload_n 2, 1, 0, 0, 0, m0),
   (5, .aload_n 0, 1, 0, 0, 0, m0),
   (6, .getfield 22, 3, 3, 0, 269, m0),
   (9, .iload_n 1, 1, 0, 0, 0, m0),
   (10, .iaload, 1, 0, 0, 0, m0),
   (11, .if_icmp .ge 7, 3, 18, 0, 0, m0),
   (14, .nop, 0, 0, 0, 0, m0)]),
  (14, [], false, [(14, .iconst 1, 1, 0, 0, 0, m0),
   (15, .goto 4, 3, 19, 0, 0, m0)]),
  (18, [], false, [(18, .iconst 0, 1, 0, 0, 0, m0),
   (19, .nop, 0, 0, 0, 0, m0)]),
  (19, [], false, [(19, .ireturn, 1, 0, 0, 0, m0)])]
theorem ok_Choir_hasNote : okBt m_Choir_hasNote bt_Choir_hasNote = true := by decide +kernel
set_option maxRecDepth 100000 in
theorem b_Choir_hasNote_0 {l : Launch} {E : EnvT} {d : Nat} {K : AV → Mem → Prop} {M : Mem} {r : Nat} {x1 : Int32} {x2 : Int32} (hd : 1 ≤ d)
  (h : ((x2 < 0 →
   ((((iN 0) = 0 ∨ (iN 0) = 1)) ∧ K (.int (iN 0), 0) M)) ∧
  (¬ x2 < 0 →
   (vp_in x1 8 ∧ (((iN (M r 4 (x1).toNatClampNeg)) ≤ x2 →
    ((((iN 0) = 0 ∨ (iN 0) = 1)) ∧ K (.int (iN 0), 0) M)) ∧
   (¬ (iN (M r 4 (x1).toNatClampNeg)) ≤ x2 →
    ((((iN 1) = 0 ∨ (iN 1) = 1)) ∧ K (.int (iN 1), 0) M))))))) :
  G l E d m_Choir_hasNote 0 [(0, (.ref r, 11)), (1, (.int x1, 0)), (2, (.int x2, 0))] [] M K := G.blk 60 _ hd ok_Choir_hasNote rfl h
def bt_Choir_debtAtNote : BtT := [(0, [0, 1, 2], true, [(0, .aload_n 0, 1, 0, 0, 0, m0),
   (1, .iload_n 1, 1, 0, 0, 0, m0),
   (2, .iload_n 2, 1, 0, 0, 0, m0),
   (3, .invokevirtual 107, 3, 0, 0, 798, m_Choir_slotOf),
   (6, .istore_n 3, 1, 0, 0, 0, m0),
   (7, .iload_n 3, 1, 0, 0, 0, m0),
   (8, .iconst (-1), 1, 0, 0, 0, m0),
   (9, .if_icmp .ne 7, 3, 16, 0, 0, m0),
   (12, .nop, 0, 0, 0, 0, m0)]),
  (12, [], false, [(12, .iconst 0, 1, 0, 0, 0, m0),
   (13, .goto 9, 3, 22, 0, 0, m0)]),
  (16, [], false, [(16, .aload_n 0, 1, 0, 0, 0, m0),
   (17, .getfield 31, 3, 6, 0, 276, m0),
   (20, .iload_n 3, 1, 0, 0, 0, m0),
   (21, .iaload, 1, 0, 0, 0, m0),
   (22, .nop, 0, 0, 0, 0, m0)]),
  (22, [], false, [(22, .ireturn, 1, 0, 0, 0, m0)])]
theorem ok_Choir_debtAtNote : okBt m_Choir_debtAtNote bt_Choir_debtAtNote = true := by decide +kernel
set_option maxRecDepth 100000 in
theorem b_Choir_debtAtNote_0 {l : Launch} {E : EnvT} {d : Nat} {K : AV → Mem → Prop} {M : Mem} {r : Nat} {x1 : Int32} {x2 : Int32} (hd : 1 ≤ d)
  (h : CT l E (d - 1) m_Choir_slotOf [(.ref r, 11), (.int x1, 0), (.int x2, 0)] M (fun v1 M1 =>
   ((¬ (toI v1) = (iN (-1)) →
    (vp_in (toI v1) 48 ∧ K (.int (iN (M1 r 7 ((toI v1)).toNatClampNeg)), 0) M1)) ∧
   ((toI v1) = (iN (-1)) →
    K (.int (iN 0), 0) M1)))) :
  G l E d m_Choir_debtAtNote 0 [(0, (.ref r, 11)), (1, (.int x1, 0)), (2, (.int x2, 0))] [] M K := G.blk 60 _ hd ok_Choir_debtAtNote rfl h
def bt_Choir_owedBetween : BtT := [(0, [0, 1, 2], true, [(0, .aload_n 0, 1, 0, 0, 0, m0),
   (1, .getfield 37, 3, 7, 0, 278, m0),
   (4, .iload_n 1, 1, 0, 0, 0, m0),
   (5, .iload_n 2, 1, 0, 0, 0, m0),
   (6, .invokevirtual 110, 3, 0, 0, 802, m_Waiting_placeOf),
   (9, .istore_n 3, 1, 0, 0, 0, m0),
   (10, .aload_n 0, 1, 0, 0, 0, m0),
   (11, .iload_n 1, 1, 0, 0, 0, m0),
   (12, .iload_n 2, 1, 0, 0, 0, m0),
   (13, .invokevirtual 113, 3, 0, 0, 987, m_Choir_debtAtNote),
   (16, .iload_n 3, 1, 0, 0, 0, m0),
   (17, .iconst (-1), 1, 0, 0, 0, m0),
   (18, .if_icmp .ne 7, 3, 25, 0, 0, m0),
   (21, .nop, 0, 0, 0, 0, m0)]),
  (21, [], false, [(21, .iconst 0, 1, 0, 0, 0, m0),
   (22, .goto 12, 3, 34, 0, 0, m0)]),
  (25, [], false, [(25, .aload_n 0, 1, 0, 0, 0, m0),
   (26, .getfield 37, 3, 7, 0, 278, m0),
   (29, .getfield 116, 3, 2, 7, 248, m0),
   (32, .iload_n 3, 1, 0, 0, 0, m0),
   (33, .iaload, 1, 0, 0, 0, m0),
   (34, .nop, 0, 0, 0, 0, m0)]),
  (34, [], false, [(34, .iadd, 1, 0, 0, 0, m0),
   (35, .ireturn, 1, 0, 0, 0, m0)])]
theorem ok_Choir_owedBetween : okBt m_Choir_owedBetween bt_Choir_owedBetween = true := by decide +kernel
set_option maxRecDepth 100000 in
theorem b_Choir_owedBetween_0 {l : Launch} {E : EnvT} {d : Nat} {K : AV → Mem → Prop} {M : Mem} {r : Nat} {x1 : Int32} {x2 : Int32} (hd : 1 ≤ d)
  (h : CT l E (d - 1) m_Waiting_placeOf [(.ref r, 19), (.int x1, 0), (.int x2, 0)] M (fun v1 M1 =>
   CT l E (d - 1) m_Choir_debtAtNote [(.ref r, 11), (.int x1, 0), (.int x2, 0)] M1 (fun v2 M2 =>
    ((¬ (toI v1) = (iN (-1)) →
     (vp_in (toI v1) 8 ∧ K (.int ((toI v2) + (iN (M2 r 11 ((toI v1)).toNatClampNeg))), 0) M2)) ∧
    ((toI v1) = (iN (-1)) →
     K (.int ((toI v2) + (iN 0)), 0) M2))))) :
  G l E d m_Choir_owedBetween 0 [(0, (.ref r, 11)), (1, (.int x1, 0)), (2, (.int x2, 0))] [] M K := G.blk 60 _ hd ok_Choir_owedBetween rfl h
def bt_Choir_lives : BtT := [(0, [0, 1], true, [(0, .iload_n 1, 1, 0, 0, 0, m0),
   (1, .ifCond .lt 26, 3, 27, 0, 0, m0),
   (4, .nop, 0, 0, 0, 0, m0)]),
  (4, [], false, [(4, .iload_n 1, 1, 0, 0, 0, m0),
   (5, .aload_n 0, 1, 0, 0, 0, m0),
   (6, .getfield 41, 3, 8, 0, 280, m0),
   (9, .if_icmp .ge 18, 3, 27, 0, 0, m0),
   (12, .nop, 0, 0, 0, 0, m0)]),
  (12, [], false, [(12, .aload_n 0, 1, 0, 0, 0, m0),
   (13, .getfield 54, 3, 12, 0, 293, m0),
   (16, .iload_n 1, 1, 0, 0, 0, m0),
   (17, .ishr, 1, 0, 0, 0, m0),
   (18, .iconst 1, 1, 0, 0, 0, m0),
   (19, .iand, 1, 0, 0, 0, m0),
   (20, .ifCond .ne 7, 3, 27, 0, 0, m0),
   (23, .nop, 0, 0, 0, 0, m0)]),
  (23, [], false, [(23, .iconst 1, 1, 0, 0, 0, m0),
   (24, .goto 4, 3, 28, 0, 0, m0)]),
  (27, [], false, [(27, .iconst 0, 1, 0, 0, 0, m0),
   (28, .nop, 0, 0, 0, 0, m0)]),
  (28, [], false, [(28, .ireturn, 1, 0, 0, 0, m0)])]
theorem ok_Choir_lives : okBt m_Choir_lives bt_Choir_lives = true := by decide +kernel
set_option maxRecDepth 100000 in
theorem b_Choir_lives_0 {l : Launch} {E : EnvT} {d : Nat} {K : AV → Mem → Prop} {M : Mem} {r : Nat} {x1 : Int32} (hd : 1 ≤ d)
  (h : ((x1 < 0 →
   ((((iN 0) = 0 ∨ (iN 0) = 1)) ∧ K (.int (iN 0), 0) M)) ∧
  (¬ x1 < 0 →
   (((iN (M r 0 8)) ≤ x1 →
    ((((iN 0) = 0 ∨ (iN 0) = 1)) ∧ K (.int (iN 0), 0) M)) ∧
   (¬ (iN (M r 0 8)) ≤ x1 →
    ((¬ (((iN (M r 0 12)) >>> (x1 &&& 31)) &&& (iN 1)) = 0 →
     ((((iN 0) = 0 ∨ (iN 0) = 1)) ∧ K (.int (iN 0), 0) M)) ∧
    ((((iN (M r 0 12)) >>> (x1 &&& 31)) &&& (iN 1)) = 0 →
     ((((iN 1) = 0 ∨ (iN 1) = 1)) ∧ K (.int (iN 1), 0) M)))))))) :
  G l E d m_Choir_lives 0 [(0, (.ref r, 11)), (1, (.int x1, 0))] [] M K := G.blk 60 _ hd ok_Choir_lives rfl h
