def bt_Choir_sungAt : BtT := [(0, [0, 1, 2], true, [(0, .iload_n 1, 1, 0, 0, 0, m0),
   (1, .iload_n 2, 1, 0, 0, 0, m0),
   (2, .invokestatic 89, 3, 0, 0, 760, m_Choir_slot),
   (5, .istore_n 3, 1, 0, 0, 0, m0),
   (6, .aload_n 0, 1, 0, 0, 0, m0),
   (7, .getfield 25, 3, 4, 0, 272, m0),
   (10, .iload_n 3, 1, 0, 0, 0, m0),
   (11, .iaload, 1, 0, 0, 0, m0),
   (12, .aload_n 0, 1, 0, 0, 0, m0),
   (13, .getfield 31, 3, 6, 0, 276, m0),
   (16, .iload_n 3, 1, 0, 0, 0, m0),
   (17, .iaload, 1, 0, 0, 0, m0),
   (18, .iadd, 1, 0, 0, 0, m0),
   (19, .aload_n 0, 1, 0, 0, 0, m0),
   (20, .getfield 45, 3, 9, 0, 284, m0),
   (23, .iload_n 1, 1, 0, 0, 0, m0),
   (24, .invokestatic 103, 3, 0, 0, 924, m_Choir_isIn),
   (27, .ifCond .eq 8, 3, 35, 0, 0, m0),
   (30, .nop, 0, 0, 0, 0, m0)]),
  (30, [], false, [(30, .bipush 12, 2, 0, 0, 0, m0),
   (32, .goto 4, 3, 36, 0, 0, m0)]),
  (35, [], false, [(35, .iconst 0, 1, 0, 0, 0, m0),
   (36, .nop, 0, 0, 0, 0, m0)]),
  (36, [], false, [(36, .isub, 1, 0, 0, 0, m0),
   (37, .ireturn, 1, 0, 0, 0, m0)])]
theorem ok_Choir_sungAt : okBt m_Choir_sungAt bt_Choir_sungAt = true := by decide +kernel
set_option maxRecDepth 100000 in
theorem b_Choir_sungAt_0 {l : Launch} {E : EnvT} {d : Nat} {K : AV → Mem → Prop} {M : Mem} {r : Nat} {x1 : Int32} {x2 : Int32} (hd : 1 ≤ d)
  (h : CT l E (d - 1) m_Choir_slot [(.int x1, 0), (.int x2, 0)] M (fun v1 M1 =>
   (vp_in (toI v1) 48 ∧ vp_in (toI v1) 48 ∧ CT l E (d - 1) m_Choir_isIn [(.int (iN (M1 r 0 9)), 0), (.int x1, 0)] M1 (fun v2 M2 =>
    (((toI v2) = 0 →
     K (.int (((iN (M1 r 5 ((toI v1)).toNatClampNeg)) + (iN (M1 r 7 ((toI v1)).toNatClampNeg))) - (iN 0)), 0) M2) ∧
    (¬ (toI v2) = 0 →
     K (.int (((iN (M1 r 5 ((toI v1)).toNatClampNeg)) + (iN (M1 r 7 ((toI v1)).toNatClampNeg))) - (iN 12)), 0) M2)))))) :
  G l E d m_Choir_sungAt 0 [(0, (.ref r, 11)), (1, (.int x1, 0)), (2, (.int x2, 0))] [] M K := G.blk 60 _ hd ok_Choir_sungAt rfl h
def bt_Choir_areTwo : BtT := [(0, [0, 1, 2], true, [(0, .aload_n 0, 1, 0, 0, 0, m0),
   (1, .iload_n 1, 1, 0, 0, 0, m0),
   (2, .invokevirtual 93, 3, 0, 0, 1023, m_Choir_lives),
   (5, .ifCond .eq 20, 3, 25, 0, 0, m0),
   (8, .nop, 0, 0, 0, 0, m0)]),
  (8, [], false, [(8, .aload_n 0, 1, 0, 0, 0, m0),
   (9, .iload_n 2, 1, 0, 0, 0, m0),
   (10, .invokevirtual 93, 3, 0, 0, 1023, m_Choir_lives),
   (13, .ifCond .eq 12, 3, 25, 0, 0, m0),
   (16, .nop, 0, 0, 0, 0, m0)]),
  (16, [], false, [(16, .iload_n 1, 1, 0, 0, 0, m0),
   (17, .iload_n 2, 1, 0, 0, 0, m0),
   (18, .if_icmp .eq 7, 3, 25, 0, 0, m0),
   (21, .nop, 0, 0, 0, 0, m0)]),
  (21, [], false, [(21, .iconst 1, 1, 0, 0, 0, m0),
   (22, .goto 4, 3, 26, 0, 0, m0)]),
  (25, [], false, [(25, .iconst 0, 1, 0, 0, 0, m0),
   (26, .nop, 0, 0, 0, 0, m0)]),
  (26, [], false, [(26, .ireturn, 1, 0, 0, 0, m0)])]
theorem ok_Choir_areTwo : okBt m_Choir_areTwo bt_Choir_areTwo = true := by decide +kernel
set_option maxRecDepth 100000 in
theorem b_Choir_areTwo_0 {l : Launch} {E : EnvT} {d : Nat} {K : AV → Mem → Prop} {M : Mem} {r : Nat} {x1 : Int32} {x2 : Int32} (hd : 1 ≤ d)
  (h : CT l E (d - 1) m_Choir_lives [(.ref r, 11), (.int x1, 0)] M (fun v1 M1 =>
   (((toI v1) = 0 →
    ((((iN 0) = 0 ∨ (iN 0) = 1)) ∧ K (.int (iN 0), 0) M1)) ∧
   (¬ (toI v1) = 0 →
    CT l E (d - 1) m_Choir_lives [(.ref r, 11), (.int x2, 0)] M1 (fun v2 M2 =>
     (((toI v2) = 0 →
      ((((iN 0) = 0 ∨ (iN 0) = 1)) ∧ K (.int (iN 0), 0) M2)) ∧
     (¬ (toI v2) = 0 →
      ((x1 = x2 →
       ((((iN 0) = 0 ∨ (iN 0) = 1)) ∧ K (.int (iN 0), 0) M2)) ∧
      (¬ x1 = x2 →
       ((((iN 1) = 0 ∨ (iN 1) = 1)) ∧ K (.int (iN 1), 0) M2)))))))))) :
  G l E d m_Choir_areTwo 0 [(0, (.ref r, 11)), (1, (.int x1, 0)), (2, (.int x2, 0))] [] M K := G.blk 60 _ hd ok_Choir_areTwo rfl h
def bt_Choir_lendCoins : BtT := [(0, [0, 1, 2, 3], true, [(0, .aload_n 0, 1, 0, 0, 0, m0),
   (1, .iload_n 1, 1, 0, 0, 0, m0),
   (2, .iload_n 2, 1, 0, 0, 0, m0),
   (3, .invokevirtual 158, 3, 0, 0, 1028, m_Choir_areTwo),
   (6, .ifCond .eq 38, 3, 44, 0, 0, m0),
   (9, .nop, 0, 0, 0, 0, m0)]),
  (9, [], false, [(9, .aload_n 0, 1, 0, 0, 0, m0),
   (10, .getfield 51, 3, 11, 0, 290, m0),
   (13, .iload_n 2, 1, 0, 0, 0, m0),
   (14, .invokestatic 103, 3, 0, 0, 924, m_Choir_isIn),
   (17, .ifCond .ne 27, 3, 44, 0, 0, m0),
   (20, .nop, 0, 0, 0, 0, m0)]),
  (20, [], false, [(20, .aload_n 0, 1, 0, 0, 0, m0),
   (21, .getfield 15, 3, 1, 0, 263, m0),
   (24, .iload_n 1, 1, 0, 0, 0, m0),
   (25, .iaload, 1, 0, 0, 0, m0),
   (26, .iload_n 3, 1, 0, 0, 0, m0),
   (27, .if_icmp .lt 17, 3, 44, 0, 0, m0),
   (30, .nop, 0, 0, 0, 0, m0)]),
  (30, [], false, [(30, .aload_n 0, 1, 0, 0, 0, m0),
   (31, .getfield 15, 3, 1, 0, 263, m0),
   (34, .iload_n 2, 1, 0, 0, 0, m0),
   (35, .iaload, 1, 0, 0, 0, m0),
   (36, .iload_n 3, 1, 0, 0, 0, m0),
   (37, .iadd, 1, 0, 0, 0, m0),
   (38, .sipush 9999, 3, 0, 0, 0, m0),
   (41, .if_icmp .le 5, 3, 46, 0, 0, m0),
   (44, .nop, 0, 0, 0, 0, m0)]),
  (44, [], false, [(44, .iconst 0, 1, 0, 0, 0, m0),
   (45, .ireturn, 1, 0, 0, 0, m0)]),
  (46, [], false, [(46, .aload_n 0, 1, 0, 0, 0, m0),
   (47, .iload_n 2, 1, 0, 0, 0, m0),
   (48, .iload_n 1, 1, 0, 0, 0, m0),
   (49, .iload_n 3, 1, 0, 0, 0, m0),
   (50, .invokevirtual 161, 3, 0, 0, 1029, m_Choir_owe),
   (53, .ifCond .ne 5, 3, 58, 0, 0, m0),
   (56, .nop, 0, 0, 0, 0, m0)]),
  (56, [], false, [(56, .iconst 0, 1, 0, 0, 0, m0),
   (57, .ireturn, 1, 0, 0, 0, m0)]),
  (58, [], false, [(58, .aload_n 0, 1, 0, 0, 0, m0),
   (59, .getfield 15, 3, 1, 0, 263, m0),
   (62, .iload_n 1, 1, 0, 0, 0, m0),
   (63, .dup2, 1, 0, 0, 0, m0),
   (64, .iaload, 1, 0, 0, 0, m0),
   (65, .iload_n 3, 1, 0, 0, 0, m0),
   (66, .isub, 1, 0, 0, 0, m0),
   (67, .iastore, 1, 0, 0, 0, m0),
   (68, .aload_n 0, 1, 0, 0, 0, m0),
   (69, .getfield 15, 3, 1, 0, 263, m0),
   (72, .iload_n 2, 1, 0, 0, 0, m0),
   (73, .dup2, 1, 0, 0, 0, m0),
   (74, .iaload, 1, 0, 0, 0, m0),
   (75, .iload_n 3, 1, 0, 0, 0, m0),
   (76, .iadd, 1, 0, 0, 0, m0),
   (77, .iastore, 1, 0, 0, 0, m0),
   (78, .iconst 1, 1, 0, 0, 0, m0),
   (79, .ireturn, 1, 0, 0, 0, m0)])]
theorem ok_Choir_lendCoins : okBt m_Choir_lendCoins bt_Choir_lendCoins = true := by decide +kernel
set_option maxRecDepth 100000 in
theorem b_Choir_lendCoins_0 {l : Launch} {E : EnvT} {d : Nat} {K : AV → Mem → Prop} {M : Mem} {r : Nat} {x1 : Int32} {x2 : Int32} {x3 : Int32} (hd : 1 ≤ d)
  (h : CT l E (d - 1) m_Choir_areTwo [(.ref r, 11), (.int x1, 0), (.int x2, 0)] M (fun v1 M1 =>
   (((toI v1) = 0 →
    ((((iN 0) = 0 ∨ (iN 0) = 1)) ∧ K (.int (iN 0), 0) M1)) ∧
   (¬ (toI v1) = 0 →
    CT l E (d - 1) m_Choir_isIn [(.int (iN (M1 r 0 11)), 0), (.int x2, 0)] M1 (fun v2 M2 =>
     ((¬ (toI v2) = 0 →
      ((((iN 0) = 0 ∨ (iN 0) = 1)) ∧ K (.int (iN 0), 0) M2)) ∧
     ((toI v2) = 0 →
      (vp_in x1 8 ∧ (((iN (M2 r 2 (x1).toNatClampNeg)) < x3 →
       ((((iN 0) = 0 ∨ (iN 0) = 1)) ∧ K (.int (iN 0), 0) M2)) ∧
      (¬ (iN (M2 r 2 (x1).toNatClampNeg)) < x3 →
       (vp_in x2 8 ∧ ((((iN (M2 r 2 (x2).toNatClampNeg)) + x3) ≤ (iN 9999) →
        CT l E (d - 1) m_Choir_owe [(.ref r, 11), (.int x2, 0), (.int x1, 0), (.int x3, 0)] M2 (fun v3 M3 =>
         ((¬ (toI v3) = 0 →
          (vp_in x1 8 ∧ vp_in x1 8 ∧ vp_in x2 8 ∧ vp_in x2 8 ∧ (((iN 1) = 0 ∨ (iN 1) = 1)) ∧ K (.int (iN 1), 0) (upd3 (upd3 M3 r 2 (x1).toNatClampNeg (((iN (M3 r 2 (x1).toNatClampNeg)) - x3)).toInt) r 2 (x2).toNatClampNeg (((iN ((upd3 M3 r 2 (x1).toNatClampNeg (((iN (M3 r 2 (x1).toNatClampNeg)) - x3)).toInt) r 2 (x2).toNatClampNeg)) + x3)).toInt))) ∧
         ((toI v3) = 0 →
          ((((iN 0) = 0 ∨ (iN 0) = 1)) ∧ K (.int (iN 0), 0) M3))))) ∧
       (¬ ((iN (M2 r 2 (x2).toNatClampNeg)) + x3) ≤ (iN 9999) →
        ((((iN 0) = 0 ∨ (iN 0) = 1)) ∧ K (.int (iN 0), 0) M2)))))))))))))) :
  G l E d m_Choir_lendCoins 0 [(0, (.ref r, 11)), (1, (.int x1, 0)), (2, (.int x2, 0)), (3, (.int x3, 0))] [] M K := G.blk 60 _ hd ok_Choir_lendCoins rfl h
def bt_Choir_handOver : BtT := [(0, [0, 1, 2, 3], true, [(0, .aload_n 0, 1, 0, 0, 0, m0),
   (1, .getfield 15, 3, 1, 0, 263, m0),
   (4, .iload_n 1, 1, 0, 0, 0, m0),
   (5, .dup2, 1, 0, 0, 0, m0),
   (6, .iaload, 1, 0, 0, 0, m0),
   (7, .iload_n 3, 1, 0, 0, 0, m0),
   (8, .isub, 1, 0, 0, 0, m0),
   (9, .iastore, 1, 0, 0, 0, m0),
   (10, .aload_n 0, 1, 0, 0, 0, m0),
   (11, .getfield 15, 3, 1, 0, 263, m0),
   (14, .iload_n 2, 1, 0, 0, 0, m0),
   (15, .dup2, 1, 0, 0, 0, m0),
   (16, .iaload, 1, 0, 0, 0, m0),
   (17, .iload_n 3, 1, 0, 0, 0, m0),
   (18, .iadd, 1, 0, 0, 0, m0),
   (19, .iastore, 1, 0, 0, 0, m0),
   (20, .aload_n 0, 1, 0, 0, 0, m0),
   (21, .dup, 1, 0, 0, 0, m0),
   (22, .getfield 63, 3, 15, 0, 301, m0),
   (25, .iload_n 3, 1, 0, 0, 0, m0),
   (26, .iadd, 1, 0, 0, 0, m0),
   (27, .putfield 63, 3, 15, 0, 301, m0),
   (30, .return_, 1, 0, 0, 0, m0)])]
theorem ok_Choir_handOver : okBt m_Choir_handOver bt_Choir_handOver = true := by decide +kernel
set_option maxRecDepth 100000 in
theorem b_Choir_handOver_0 {l : Launch} {E : EnvT} {d : Nat} {K : AV → Mem → Prop} {M : Mem} {r : Nat} {x1 : Int32} {x2 : Int32} {x3 : Int32} (hd : 1 ≤ d)
  (h : (vp_in x1 8 ∧ vp_in x1 8 ∧ vp_in x2 8 ∧ vp_in x2 8 ∧ K (.null, 0) (upd3 (upd3 (upd3 M r 2 (x1).toNatClampNeg (((iN (M r 2 (x1).toNatClampNeg)) - x3)).toInt) r 2 (x2).toNatClampNeg (((iN ((upd3 M r 2 (x1).toNatClampNeg (((iN (M r 2 (x1).toNatClampNeg)) - x3)).toInt) r 2 (x2).toNatClampNeg)) + x3)).toInt) r 0 15 (((iN ((upd3 (upd3 M r 2 (x1).toNatClampNeg (((iN (M r 2 (x1).toNatClampNeg)) - x3)).toInt) r 2 (x2).toNatClampNeg (((iN ((upd3 M r 2 (x1).toNatClampNeg (((iN (M r 2 (x1).toNatClampNeg)) - x3)).toInt) r 2 (x2).toNatClampNeg)) + x3)).toInt) r 0 15)) + x3)).toInt))) :
  G l E d m_Choir_handOver 0 [(0, (.ref r, 11)), (1, (.int x1, 0)), (2, (.int x2, 0)), (3, (.int x3, 0))] [] M K := G.blk 60 _ hd ok_Choir_handOver rfl h
def bt_Choir_takeOff : BtT := [(0, [0, 1, 2], true, [(0, .aload_n 0, 1, 0, 0, 0, m0),
   (1, .getfield 31, 3, 6, 0, 276, m0),
   (4, .iload_n 1, 1, 0, 0, 0, m0),
   (5, .dup2, 1, 0, 0, 0, m0),
   (6, .iaload, 1, 0, 0, 0, m0),
   (7, .iload_n 2, 1, 0, 0, 0, m0),
   (8, .isub, 1, 0, 0, 0, m0),
   (9, .iastore, 1, 0, 0, 0, m0),
   (10, .aload_n 0, 1, 0, 0, 0, m0),
   (11, .getfield 31, 3, 6, 0, 276, m0),
   (14, .iload_n 1, 1, 0, 0, 0, m0),
   (15, .iaload, 1, 0, 0, 0, m0),
   (16, .ifCond .ne 10, 3, 26, 0, 0, m0),
   (19, .nop, 0, 0, 0, 0, m0)]),
  (19, [], false, [(19, .aload_n 0, 1, 0, 0, 0, m0),
   (20, .getfield 28, 3, 5, 0, 274, m0),
   (23, .iload_n 1, 1, 0, 0, 0, m0),
   (24, .iconst (-1), 1, 0, 0, 0, m0),
   (25, .iastore, 1, 0, 0, 0, m0),
   (26, .nop, 0, 0, 0, 0, m0)]),
  (26, [], false, [(26, .return_, 1, 0, 0, 0, m0)])]
theorem ok_Choir_takeOff : okBt m_Choir_takeOff bt_Choir_takeOff = true := by decide +kernel
set_option maxRecDepth 100000 in
theorem b_Choir_takeOff_0 {l : Launch} {E : EnvT} {d : Nat} {K : AV → Mem → Prop} {M : Mem} {r : Nat} {x1 : Int32} {x2 : Int32} (hd : 1 ≤ d)
  (h : (vp_in x1 48 ∧ vp_in x1 48 ∧ vp_in x1 48 ∧ ((¬ (iN ((upd3 M r 7 (x1).toNatClampNeg (((iN (M r 7 (x1).toNatClampNeg)) - x2)).toInt) r 7 (x1).toNatClampNeg)) = 0 →
   K (.null, 0) (upd3 M r 7 (x1).toNatClampNeg (((iN (M r 7 (x1).toNatClampNeg)) - x2)).toInt)) ∧
  ((iN ((upd3 M r 7 (x1).toNatClampNeg (((iN (M r 7 (x1).toNatClampNeg)) - x2)).toInt) r 7 (x1).toNatClampNeg)) = 0 →
   (vp_in x1 48 ∧ K (.null, 0) (upd3 (upd3 M r 7 (x1).toNatClampNeg (((iN (M r 7 (x1).toNatClampNeg)) - x2)).toInt) r 6 (x1).toNatClampNeg ((iN (-1))).toInt)))))) :
  G l E d m_Choir_takeOff 0 [(0, (.ref r, 11)), (1, (.int x1, 0)), (2, (.int x2, 0))] [] M K := G.blk 60 _ hd ok_Choir_takeOff rfl h
def bt_Choir_settle : BtT := [(0, [0], true, [(0, .iconst 0, 1, 0, 0, 0, m0),
   (1, .istore_n 1, 1, 0, 0, 0, m0),
   (2, .iconst 0, 1, 0, 0, 0, m0),
   (3, .istore_n 2, 1, 0, 0, 0, m0),
   (4, .nop, 0, 0, 0, 0, m0)]),
  (4, [0, 1, 2], true, [(4, .iload_n 2, 1, 0, 0, 0, m0),
   (5, .bipush 8, 2, 0, 0, 0, m0),
   (7, .if_icmp .ge 84, 3, 91, 0, 0, m0),
   (10, .nop, 0, 0, 0, 0, m0)]),
  (10, [], false, [(10, .iload_n 1, 1, 0, 0, 0, m0),
   (11, .aload_n 0, 1, 0, 0, 0, m0),
   (12, .getfield 37, 3, 7, 0, 278, m0),
   (15, .getfield 72, 3, 3, 7, 250, m0),
   (18, .if_icmp .ge 73, 3, 91, 0, 0, m0),
   (21, .nop, 0, 0, 0, 0, m0)]),
  (21, [], false, [(21, .aload_n 0, 1, 0, 0, 0, m0),
   (22, .iconst (-1), 1, 0, 0, 0, m0),
   (23, .aload_n 0, 1, 0, 0, 0, m0),
   (24, .getfield 37, 3, 7, 0, 278, m0),
   (27, .getfield 122, 3, 1, 7, 245, m0),
   (30, .iload_n 1, 1, 0, 0, 0, m0),
   (31, .iaload, 1, 0, 0, 0, m0),
   (32, .invokevirtual 107, 3, 0, 0, 798, m_Choir_slotOf),
   (35, .istore_n 3, 1, 0, 0, 0, m0),
   (36, .iload_n 3, 1, 0, 0, 0, m0),
   (37, .iconst (-1), 1, 0, 0, 0, m0),
   (38, .if_icmp .ne 9, 3, 47, 0, 0, m0),
   (41, .nop, 0, 0, 0, 0, m0)]),
  (41, [], false, [(41, .iinc 1 1, 3, 0, 0, 0, m0),
   (44, .goto 41, 3, 85, 0, 0, m0)]),
  (47, [], false, [(47, .aload_n 0, 1, 0, 0, 0, m0),
   (48, .getfield 28, 3, 5, 0, 274, m0),
   (51, .iload_n 3, 1, 0, 0, 0, m0),
   (52, .aload_n 0, 1, 0, 0, 0, m0),
   (53, .getfield 37, 3, 7, 0, 278, m0),
   (56, .getfield 119, 3, 0, 7, 242, m0),
   (59, .iload_n 1, 1, 0, 0, 0, m0),
   (60, .iaload, 1, 0, 0, 0, m0),
   (61, .iastore, 1, 0, 0, 0, m0),
   (62, .aload_n 0, 1, 0, 0, 0, m0),
   (63, .getfield 31, 3, 6, 0, 276, m0),
   (66, .iload_n 3, 1, 0, 0, 0, m0),
   (67, .aload_n 0, 1, 0, 0, 0, m0),
   (68, .getfield 37, 3, 7, 0, 278, m0),
   (71, .getfield 116, 3, 2, 7, 248, m0),
   (74, .iload_n 1, 1, 0, 0, 0, m0),
   (75, .iaload, 1, 0, 0, 0, m0),
   (76, .iastore, 1, 0, 0, 0, m0),
   (77, .aload_n 0, 1, 0, 0, 0, m0),
   (78, .getfield 37, 3, 7, 0, 278, m0),
   (81, .iload_n 1, 1, 0, 0, 0, m0),
   (82, .invokevirtual 174, 3, 0, 0, 1050, m_Waiting_leave),
   (85, .nop, 0, 0, 0, 0, m0)]),
  (85, [], false, [(85, .iinc 2 1, 3, 0, 0, 0, m0),
   (88, .goto (-84), 3, 4, 0, 0, m0)]),
  (91, [], false, [(91, .return_, 1, 0, 0, 0, m0)])]
theorem ok_Choir_settle : okBt m_Choir_settle bt_Choir_settle = true := by decide +kernel
set_option maxRecDepth 100000 in
theorem b_Choir_settle_0 {l : Launch} {E : EnvT} {d : Nat} {K : AV → Mem → Prop} {M : Mem} {r : Nat}  (hd : 1 ≤ d)
  (h : G l E d m_Choir_settle 4 [(0, (.ref r, 11)), (1, (.int (iN 0), 0)), (2, (.int (iN 0), 0))] [] M K) :
  G l E d m_Choir_settle 0 [(0, (.ref r, 11))] [] M K := G.blk 60 _ hd ok_Choir_settle rfl h
set_option maxRecDepth 100000 in
theorem b_Choir_settle_4 {l : Launch} {E : EnvT} {d : Nat} {K : AV → Mem → Prop} {M : Mem} {r : Nat} {x1 : Int32} {x2 : Int32} (hd : 1 ≤ d)
  (h : (((iN 8) ≤ x2 →
   K (.null, 0) M) ∧
  (¬ (iN 8) ≤ x2 →
   (((iN (M r 8 3)) ≤ x1 →
    K (.null, 0) M) ∧
   (¬ (iN (M r 8 3)) ≤ x1 →
    (vp_in x1 8 ∧ CT l E (d - 1) m_Choir_slotOf [(.ref r, 11), (.int (iN (-1)), 0), (.int (iN (M r 10 (x1).toNatClampNeg)), 0)] M (fun v1 M1 =>
     ((¬ (toI v1) = (iN (-1)) →
      (vp_in x1 8 ∧ vp_in (toI v1) 48 ∧ vp_in x1 8 ∧ vp_in (toI v1) 48 ∧ CT l E (d - 1) m_Waiting_leave [(.ref r, 19), (.int x1, 0)] (upd3 (upd3 M1 r 6 ((toI v1)).toNatClampNeg ((iN (M1 r 9 (x1).toNatClampNeg))).toInt) r 7 ((toI v1)).toNatClampNeg ((iN ((upd3 M1 r 6 ((toI v1)).toNatClampNeg ((iN (M1 r 9 (x1).toNatClampNeg))).toInt) r 11 (x1).toNatClampNeg))).toInt) (fun v2 M2 =>
       G l E d m_Choir_settle 4 [(0, (.ref r, 11)), (1, (.int x1, 0)), (2, (.int (x2 + iN 1), 0))] [] M2 K))) ∧
     ((toI v1) = (iN (-1)) →
      G l E d m_Choir_settle 4 [(0, (.ref r, 11)), (1, (.int (x1 + iN 1), 0)), (2, (.int (x2 + iN 1), 0))] [] M1 K))))))))) :
  G l E d m_Choir_settle 4 [(0, (.ref r, 11)), (1, (.int x1, 0)), (2, (.int x2, 0))] [] M K := G.blk 60 _ hd ok_Choir_settle rfl h
def bt_Choir_payCoins : BtT := [(0, [0, 1, 2, 3], true, [(0, .aload_n 0, 1, 0, 0, 0, m0),
   (1, .iload_n 1, 1, 0, 0, 0, m0),
   (2, .iload_n 2, 1, 0, 0, 0, m0),
   (3, .invokevirtual 158, 3, 0, 0, 1028, m_Choir_areTwo),
   (6, .ifCond .ne 5, 3, 11, 0, 0, m0),
   (9, .nop, 0, 0, 0, 0, m0)]),
  (9, [], false, [(9, .iconst 0, 1, 0, 0, 0, m0),
   (10, .ireturn, 1, 0, 0, 0, m0)]),
  (11, [], false, [(11, .aload_n 0, 1, 0, 0, 0, m0),
   (12, .iload_n 1, 1, 0, 0, 0, m0),
   (13, .iload_n 2, 1, 0, 0, 0, m0),
   (14, .invokevirtual 107, 3, 0, 0, 798, m_Choir_slotOf),
   (17, .istore 4, 2, 0, 0, 0, m0),
   (19, .iload 4, 2, 0, 0, 0, m0),
   (21, .iconst (-1), 1, 0, 0, 0, m0),
   (22, .if_icmp .eq 38, 3, 60, 0, 0, m0),
   (25, .nop, 0, 0, 0, 0, m0)]),
  (25, [], false, [(25, .aload_n 0, 1, 0, 0, 0, m0),
   (26, .getfield 31, 3, 6, 0, 276, m0),
   (29, .iload 4, 2, 0, 0, 0, m0),
   (31, .iaload, 1, 0, 0, 0, m0),
   (32, .iload_n 3, 1, 0, 0, 0, m0),
   (33, .if_icmp .lt 27, 3, 60, 0, 0, m0),
   (36, .nop, 0, 0, 0, 0, m0)]),
  (36, [], false, [(36, .aload_n 0, 1, 0, 0, 0, m0),
   (37, .getfield 15, 3, 1, 0, 263, m0),
   (40, .iload_n 1, 1, 0, 0, 0, m0),
   (41, .iaload, 1, 0, 0, 0, m0),
   (42, .iload_n 3, 1, 0, 0, 0, m0),
   (43, .if_icmp .lt 17, 3, 60, 0, 0, m0),
   (46, .nop, 0, 0, 0, 0, m0)]),
  (46, [], false, [(46, .aload_n 0, 1, 0, 0, 0, m0),
   (47, .getfield 15, 3, 1, 0, 263, m0),
   (50, .iload_n 2, 1, 0, 0, 0, m0),
   (51, .iaload, 1, 0, 0, 0, m0),
   (52, .iload_n 3, 1, 0, 0, 0, m0),
   (53, .iadd, 1, 0, 0, 0, m0),
   (54, .sipush 9999, 3, 0, 0, 0, m0),
   (57, .if_icmp .le 5, 3, 62, 0, 0, m0),
   (60, .nop, 0, 0, 0, 0, m0)]),
  (60, [], false, [(60, .iconst 0, 1, 0, 0, 0, m0),
   (61, .ireturn, 1, 0, 0, 0, m0)]),
  (62, [], false, [(62, .aload_n 0, 1, 0, 0, 0, m0),
   (63, .iload_n 1, 1, 0, 0, 0, m0),
   (64, .iload_n 2, 1, 0, 0, 0, m0),
   (65, .iload_n 3, 1, 0, 0, 0, m0),
   (66, .invokevirtual 164, 3, 0, 0, 1038, m_Choir_handOver),
   (69, .aload_n 0, 1, 0, 0, 0, m0),
   (70, .iload 4, 2, 0, 0, 0, m0),
   (72, .iload_n 3, 1, 0, 0, 0, m0),
   (73, .invokevirtual 168, 3, 0, 0, 1042, m_Choir_takeOff),
   (76, .aload_n 0, 1, 0, 0, 0, m0),
   (77, .invokevirtual 171, 3, 0, 0, 1046, m_Choir_settle),
   (80, .iconst 1, 1, 0, 0, 0, m0),
   (81, .ireturn, 1, 0, 0, 0, m0)])]
theorem ok_Choir_payCoins : okBt m_Choir_payCoins bt_Choir_payCoins = true := by decide +kernel
set_option maxRecDepth 100000 in
theorem b_Choir_payCoins_0 {l : Launch} {E : EnvT} {d : Nat} {K : AV → Mem → Prop} {M : Mem} {r : Nat} {x1 : Int32} {x2 : Int32} {x3 : Int32} (hd : 1 ≤ d)
  (h : CT l E (d - 1) m_Choir_areTwo [(.ref r, 11), (.int x1, 0), (.int x2, 0)] M (fun v1 M1 =>
   ((¬ (toI v1) = 0 →
    CT l E (d - 1) m_Choir_slotOf [(.ref r, 11), (.int x1, 0), (.int x2, 0)] M1 (fun v2 M2 =>
     (((toI v2) = (iN (-1)) →
      ((((iN 0) = 0 ∨ (iN 0) = 1)) ∧ K (.int (iN 0), 0) M2)) ∧
     (¬ (toI v2) = (iN (-1)) →
      (vp_in (toI v2) 48 ∧ (((iN (M2 r 7 ((toI v2)).toNatClampNeg)) < x3 →
       ((((iN 0) = 0 ∨ (iN 0) = 1)) ∧ K (.int (iN 0), 0) M2)) ∧
      (¬ (iN (M2 r 7 ((toI v2)).toNatClampNeg)) < x3 →
       (vp_in x1 8 ∧ (((iN (M2 r 2 (x1).toNatClampNeg)) < x3 →
        ((((iN 0) = 0 ∨ (iN 0) = 1)) ∧ K (.int (iN 0), 0) M2)) ∧
       (¬ (iN (M2 r 2 (x1).toNatClampNeg)) < x3 →
        (vp_in x2 8 ∧ ((((iN (M2 r 2 (x2).toNatClampNeg)) + x3) ≤ (iN 9999) →
         CT l E (d - 1) m_Choir_handOver [(.ref r, 11), (.int x1, 0), (.int x2, 0), (.int x3, 0)] M2 (fun v3 M3 =>
          CT l E (d - 1) m_Choir_takeOff [(.ref r, 11), (.int (toI v2), 0), (.int x3, 0)] M3 (fun v4 M4 =>
           CT l E (d - 1) m_Choir_settle [(.ref r, 11)] M4 (fun v5 M5 =>
            ((((iN 1) = 0 ∨ (iN 1) = 1)) ∧ K (.int (iN 1), 0) M5))))) ∧
        (¬ ((iN (M2 r 2 (x2).toNatClampNeg)) + x3) ≤ (iN 9999) →
         ((((iN 0) = 0 ∨ (iN 0) = 1)) ∧ K (.int (iN 0), 0) M2)))))))))))))) ∧
   ((toI v1) = 0 →
    ((((iN 0) = 0 ∨ (iN 0) = 1)) ∧ K (.int (iN 0), 0) M1))))) :
  G l E d m_Choir_payCoins 0 [(0, (.ref r, 11)), (1, (.int x1, 0)), (2, (.int x2, 0)), (3, (.int x3, 0))] [] M K := G.blk 60 _ hd ok_Choir_payCoins rfl h
def bt_Choir_netTwo : BtT := [(0, [0, 1, 2], true, [(0, .aload_n 0, 1, 0, 0, 0, m0),
   (1, .iload_n 1, 1, 0, 0, 0, m0),
   (2, .iload_n 2, 1, 0, 0, 0, m0),
   (3, .invokevirtual 158, 3, 0, 0, 1028, m_Choir_areTwo),
   (6, .ifCond .ne 5, 3, 11, 0, 0, m0),
   (9, .nop, 0, 0, 0, 0, m0)]),
  (9, [], false, [(9, .iconst 0, 1, 0, 0, 0, m0),
   (10, .ireturn, 1, 0, 0, 0, m0)]),
  (11, [], false, [(11, .aload_n 0, 1, 0, 0, 0, m0),
   (12, .iload_n 1, 1, 0, 0, 0, m0),
   (13, .iload_n 2, 1, 0, 0, 0, m0),
   (14, .invokevirtual 107, 3, 0, 0, 798, m_Choir_slotOf),
   (17, .istore_n 3, 1, 0, 0, 0, m0),
   (18, .aload_n 0, 1, 0, 0, 0, m0),
   (19, .iload_n 2, 1, 0, 0, 0, m0),
   (20, .iload_n 1, 1, 0, 0, 0, m0),
   (21, .invokevirtual 107, 3, 0, 0, 798, m_Choir_slotOf),
   (24, .istore 4, 2, 0, 0, 0, m0),
   (26, .iload_n 3, 1, 0, 0, 0, m0),
   (27, .iconst (-1), 1, 0, 0, 0, m0),
   (28, .if_icmp .eq 9, 3, 37, 0, 0, m0),
   (31, .nop, 0, 0, 0, 0, m0)]),
  (31, [], false, [(31, .iload 4, 2, 0, 0, 0, m0),
   (33, .iconst (-1), 1, 0, 0, 0, m0),
   (34, .if_icmp .ne 5, 3, 39, 0, 0, m0),
   (37, .nop, 0, 0, 0, 0, m0)]),
  (37, [], false, [(37, .iconst 0, 1, 0, 0, 0, m0),
   (38, .ireturn, 1, 0, 0, 0, m0)]),
  (39, [], false, [(39, .aload_n 0, 1, 0, 0, 0, m0),
   (40, .getfield 31, 3, 6, 0, 276, m0),
   (43, .iload_n 3, 1, 0, 0, 0, m0),
   (44, .iaload, 1, 0, 0, 0, m0),
   (45, .aload_n 0, 1, 0, 0, 0, m0),
   (46, .getfield 31, 3, 6, 0, 276, m0),
   (49, .iload 4, 2, 0, 0, 0, m0),
   (51, .iaload, 1, 0, 0, 0, m0),
   (52, .invokestatic 145, 3, 0, 0, 938, m_Math_min),
   (55, .istore 5, 2, 0, 0, 0, m0),
   (57, .aload_n 0, 1, 0, 0, 0, m0),
   (58, .iload_n 3, 1, 0, 0, 0, m0),
   (59, .iload 5, 2, 0, 0, 0, m0),
   (61, .invokevirtual 168, 3, 0, 0, 1042, m_Choir_takeOff),
   (64, .aload_n 0, 1, 0, 0, 0, m0),
   (65, .iload 4, 2, 0, 0, 0, m0),
   (67, .iload 5, 2, 0, 0, 0, m0),
   (69, .invokevirtual 168, 3, 0, 0, 1042, m_Choir_takeOff),
   (72, .aload_n 0, 1, 0, 0, 0, m0),
   (73, .invokevirtual 171, 3, 0, 0, 1046, m_Choir_settle),
   (76, .iload 5, 2, 0, 0, 0, m0),
   (78, .ireturn, 1, 0, 0, 0, m0)])]
theorem ok_Choir_netTwo : okBt m_Choir_netTwo bt_Choir_netTwo = true := by decide +kernel
set_option maxRecDepth 100000 in
theorem b_Choir_netTwo_0 {l : Launch} {E : EnvT} {d : Nat} {K : AV → Mem → Prop} {M : Mem} {r : Nat} {x1 : Int32} {x2 : Int32} (hd : 1 ≤ d)
  (h : CT l E (d - 1) m_Choir_areTwo [(.ref r, 11), (.int x1, 0), (.int x2, 0)] M (fun v1 M1 =>
   ((¬ (toI v1) = 0 →
    CT l E (d - 1) m_Choir_slotOf [(.ref r, 11), (.int x1, 0), (.int x2, 0)] M1 (fun v2 M2 =>
     CT l E (d - 1) m_Choir_slotOf [(.ref r, 11), (.int x2, 0), (.int x1, 0)] M2 (fun v3 M3 =>
      (((toI v2) = (iN (-1)) →
       K (.int (iN 0), 0) M3) ∧
      (¬ (toI v2) = (iN (-1)) →
       ((¬ (toI v3) = (iN (-1)) →
        (vp_in (toI v2) 48 ∧ vp_in (toI v3) 48 ∧ CT l E (d - 1) m_Math_min [(.int (iN (M3 r 7 ((toI v2)).toNatClampNeg)), 0), (.int (iN (M3 r 7 ((toI v3)).toNatClampNeg)), 0)] M3 (fun v4 M4 =>
         CT l E (d - 1) m_Choir_takeOff [(.ref r, 11), (.int (toI v2), 0), (.int (toI v4), 0)] M4 (fun v5 M5 =>
          CT l E (d - 1) m_Choir_takeOff [(.ref r, 11), (.int (toI v3), 0), (.int (toI v4), 0)] M5 (fun v6 M6 =>
           CT l E (d - 1) m_Choir_settle [(.ref r, 11)] M6 (fun v7 M7 =>
            K (.int (toI v4), 0) M7)))))) ∧
       ((toI v3) = (iN (-1)) →
        K (.int (iN 0), 0) M3))))))) ∧
   ((toI v1) = 0 →
    K (.int (iN 0), 0) M1)))) :
  G l E d m_Choir_netTwo 0 [(0, (.ref r, 11)), (1, (.int x1, 0)), (2, (.int x2, 0))] [] M K := G.blk 60 _ hd ok_Choir_netTwo rfl h
def bt_Choir_keepSunday : BtT := [(0, [0], true, [(0, .aload_n 0, 1, 0, 0, 0, m0),
   (1, .getfield 60, 3, 14, 0, 299, m0),
   (4, .sipush 9999, 3, 0, 0, 0, m0),
   (7, .if_icmp .lt 5, 3, 12, 0, 0, m0),
   (10, .nop, 0, 0, 0, 0, m0)]),
  (10, [], false, [(10, .iconst 0, 1, 0, 0, 0, m0),
   (11, .ireturn, 1, 0, 0, 0, m0)]),
  (12, [], false, [(12, .aload_n 0, 1, 0, 0, 0, m0),
   (13, .dup, 1, 0, 0, 0, m0),
   (14, .getfield 60, 3, 14, 0, 299, m0),
   (17, .iconst 1, 1, 0, 0, 0, m0),
   (18, .iadd, 1, 0, 0, 0, m0),
   (19, .putfield 60, 3, 14, 0, 299, m0),
   (22, .iconst 0, 1, 0, 0, 0, m0),
   (23, .istore_n 1, 1, 0, 0, 0, m0),
   (24, .nop, 0, 0, 0, 0, m0)]),
  (24, [0, 1], true, [(24, .iload_n 1, 1, 0, 0, 0, m0),
   (25, .aload_n 0, 1, 0, 0, 0, m0),
   (26, .getfield 41, 3, 8, 0, 280, m0),
   (29, .if_icmp .ge 60, 3, 89, 0, 0, m0),
   (32, .nop, 0, 0, 0, 0, m0)]),
  (32, [], false, [(32, .iconst 0, 1, 0, 0, 0, m0),
   (33, .istore_n 2, 1, 0, 0, 0, m0),
   (34, .nop, 0, 0, 0, 0, m0)]),
  (34, [0, 1, 2], true, [(34, .iload_n 2, 1, 0, 0, 0, m0),
   (35, .aload_n 0, 1, 0, 0, 0, m0),
   (36, .getfield 22, 3, 3, 0, 269, m0),
   (39, .iload_n 1, 1, 0, 0, 0, m0),
   (40, .iaload, 1, 0, 0, 0, m0),
   (41, .if_icmp .ge 42, 3, 83, 0, 0, m0),
   (44, .nop, 0, 0, 0, 0, m0)]),
  (44, [], false, [(44, .aload_n 0, 1, 0, 0, 0, m0),
   (45, .getfield 48, 3, 10, 0, 287, m0),
   (48, .iload_n 1, 1, 0, 0, 0, m0),
   (49, .invokestatic 103, 3, 0, 0, 924, m_Choir_isIn),
   (52, .ifCond .ne 31, 3, 83, 0, 0, m0),
   (55, .nop, 0, 0, 0, 0, m0)]),
  (55, [], false, [(55, .iload_n 1, 1, 0, 0, 0, m0),
   (56, .iload_n 2, 1, 0, 0, 0, m0),
   (57, .invokestatic 89, 3, 0, 0, 760, m_Choir_slot),
   (60, .istore_n 3, 1, 0, 0, 0, m0),
   (61, .aload_n 0, 1, 0, 0, 0, m0),
   (62, .getfield 31, 3, 6, 0, 276, m0),
   (65, .iload_n 3, 1, 0, 0, 0, m0),
   (66, .aload_n 0, 1, 0, 0, 0, m0),
   (67, .aload_n 0, 1, 0, 0, 0, m0),
   (68, .getfield 31, 3, 6, 0, 276, m0),
   (71, .iload_n 3, 1, 0, 0, 0, m0),
   (72, .iaload, 1, 0, 0, 0, m0),
   (73, .invokevirtual 148, 3, 0, 0, 931, m_Choir_grown),
   (76, .iastore, 1, 0, 0, 0, m0),
   (77, .iinc 2 1, 3, 0, 0, 0, m0),
   (80, .goto (-46), 3, 34, 0, 0, m0)]),
  (83, [], false, [(83, .iinc 1 1, 3, 0, 0, 0, m0),
   (86, .goto (-62), 3, 24, 0, 0, m0)]),
  (89, [], false, [(89, .iconst 1, 1, 0, 0, 0, m0),
   (90, .ireturn, 1, 0, 0, 0, m0)])]
theorem ok_Choir_keepSunday : okBt m_Choir_keepSunday bt_Choir_keepSunday = true := by decide +kernel
set_option maxRecDepth 100000 in
theorem b_Choir_keepSunday_0 {l : Launch} {E : EnvT} {d : Nat} {K : AV → Mem → Prop} {M : Mem} {r : Nat}  (hd : 1 ≤ d)
  (h : (((iN (M r 0 14)) < (iN 9999) →
   G l E d m_Choir_keepSunday 24 [(0, (.ref r, 11)), (1, (.int (iN 0), 0))] [] (upd3 M r 0 14 (((iN (M r 0 14)) + (iN 1))).toInt) K) ∧
  (¬ (iN (M r 0 14)) < (iN 9999) →
   ((((iN 0) = 0 ∨ (iN 0) = 1)) ∧ K (.int (iN 0), 0) M)))) :
  G l E d m_Choir_keepSunday 0 [(0, (.ref r, 11))] [] M K := G.blk 60 _ hd ok_Choir_keepSunday rfl h
set_option maxRecDepth 100000 in
theorem b_Choir_keepSunday_24 {l : Launch} {E : EnvT} {d : Nat} {K : AV → Mem → Prop} {M : Mem} {r : Nat} {x1 : Int32} (hd : 1 ≤ d)
  (h : (((iN (M r 0 8)) ≤ x1 →
   ((((iN 1) = 0 ∨ (iN 1) = 1)) ∧ K (.int (iN 1), 0) M)) ∧
  (¬ (iN (M r 0 8)) ≤ x1 →
   G l E d m_Choir_keepSunday 34 [(0, (.ref r, 11)), (1, (.int x1, 0)), (2, (.int (iN 0), 0))] [] M K))) :
  G l E d m_Choir_keepSunday 24 [(0, (.ref r, 11)), (1, (.int x1, 0))] [] M K := G.blk 60 _ hd ok_Choir_keepSunday rfl h
set_option maxRecDepth 100000 in
theorem b_Choir_keepSunday_34 {l : Launch} {E : EnvT} {d : Nat} {K : AV → Mem → Prop} {M : Mem} {r : Nat} {x1 : Int32} {x2 : Int32} (hd : 1 ≤ d)
  (h : (vp_in x1 8 ∧ (((iN (M r 4 (x1).toNatClampNeg)) ≤ x2 →
   G l E d m_Choir_keepSunday 24 [(0, (.ref r, 11)), (1, (.int (x1 + iN 1), 0))] [] M K) ∧
  (¬ (iN (M r 4 (x1).toNatClampNeg)) ≤ x2 →
   CT l E (d - 1) m_Choir_isIn [(.int (iN (M r 0 10)), 0), (.int x1, 0)] M (fun v1 M1 =>
    ((¬ (toI v1) = 0 →
     G l E d m_Choir_keepSunday 24 [(0, (.ref r, 11)), (1, (.int (x1 + iN 1), 0))] [] M1 K) ∧
    ((toI v1) = 0 →
     CT l E (d - 1) m_Choir_slot [(.int x1, 0), (.int x2, 0)] M1 (fun v2 M2 =>
      (vp_in (toI v2) 48 ∧ CT l E (d - 1) m_Choir_grown [(.ref r, 11), (.int (iN (M2 r 7 ((toI v2)).toNatClampNeg)), 0)] M2 (fun v3 M3 =>
       (vp_in (toI v2) 48 ∧ G l E d m_Choir_keepSunday 34 [(0, (.ref r, 11)), (1, (.int x1, 0)), (2, (.int (x2 + iN 1), 0))] [] (upd3 M3 r 7 ((toI v2)).toNatClampNeg ((toI v3)).toInt) K))))))))))) :
  G l E d m_Choir_keepSunday 34 [(0, (.ref r, 11)), (1, (.int x1, 0)), (2, (.int x2, 0))] [] M K := G.blk 60 _ hd ok_Choir_keepSunday rfl h
def bt_Choir_catchCold : BtT := [(0, [0, 1], true, [(0, .aload_n 0, 1, 0, 0, 0, m0),
   (1, .iload_n 1, 1, 0, 0, 0, m0),
   (2, .invokevirtual 93, 3, 0, 0, 1023, m_Choir_lives),
   (5, .ifCond .eq 14, 3, 19, 0, 0, m0),
   (8, .nop, 0, 0, 0, 0, m0)]),
  (8, [], false, [(8, .aload_n 0, 1, 0, 0, 0, m0),
   (9, .getfield 51, 3, 11, 0, 290, m0),
   (12, .iload_n 1, 1, 0, 0, 0, m0),
   (13, .invokestatic 103, 3, 0, 0, 924, m_Choir_isIn),
   (16, .ifCond .eq 5, 3, 21, 0, 0, m0),
   (19, .nop, 0, 0, 0, 0, m0)]),
  (19, [], false, [(19, .iconst (-1), 1, 0, 0, 0, m0),
   (20, .ireturn, 1, 0, 0, 0, m0)]),
  (21, [], false, [(21, .aload_n 0, 1, 0, 0, 0, m0),
   (22, .getfield 63, 3, 15, 0, 301, m0),
   (25, .istore_n 2, 1, 0, 0, 0, m0),
   (26, .iconst 0, 1, 0, 0, 0, m0),
   (27, .istore_n 3, 1, 0, 0, 0, m0),
   (28, .nop, 0, 0, 0, 0, m0)]),
  (28, [0, 1, 2, 3], true, [(28, .iload_n 3, 1, 0, 0, 0, m0),
   (29, .aload_n 0, 1, 0, 0, 0, m0),
   (30, .getfield 41, 3, 8, 0, 280, m0),
   (33, .if_icmp .ge 70, 3, 103, 0, 0, m0),
   (36, .nop, 0, 0, 0, 0, m0)]),
  (36, [], false, [(36, .aload_n 0, 1, 0, 0, 0, m0),
   (37, .iload_n 1, 1, 0, 0, 0, m0),
   (38, .iload_n 3, 1, 0, 0, 0, m0),
   (39, .invokevirtual 107, 3, 0, 0, 798, m_Choir_slotOf),
   (42, .istore 4, 2, 0, 0, 0, m0),
   (44, .iload 4, 2, 0, 0, 0, m0),
   (46, .iconst (-1), 1, 0, 0, 0, m0),
   (47, .if_icmp .eq 50, 3, 97, 0, 0, m0),
   (50, .nop, 0, 0, 0, 0, m0)]),
  (50, [], false, [(50, .aload_n 0, 1, 0, 0, 0, m0),
   (51, .getfield 31, 3, 6, 0, 276, m0),
   (54, .iload 4, 2, 0, 0, 0, m0),
   (56, .iaload, 1, 0, 0, 0, m0),
   (57, .aload_n 0, 1, 0, 0, 0, m0),
   (58, .getfield 15, 3, 1, 0, 263, m0),
   (61, .iload_n 1, 1, 0, 0, 0, m0),
   (62, .iaload, 1, 0, 0, 0, m0),
   (63, .sipush 9999, 3, 0, 0, 0, m0),
   (66, .aload_n 0, 1, 0, 0, 0, m0),
   (67, .getfield 15, 3, 1, 0, 263, m0),
   (70, .iload_n 3, 1, 0, 0, 0, m0),
   (71, .iaload, 1, 0, 0, 0, m0),
   (72, .isub, 1, 0, 0, 0, m0),
   (73, .invokestatic 145, 3, 0, 0, 938, m_Math_min),
   (76, .invokestatic 145, 3, 0, 0, 938, m_Math_min),
   (79, .istore 5, 2, 0, 0, 0, m0),
   (81, .aload_n 0, 1, 0, 0, 0, m0),
   (82, .iload_n 1, 1, 0, 0, 0, m0),
   (83, .iload_n 3, 1, 0, 0, 0, m0),
   (84, .iload 5, 2, 0, 0, 0, m0),
   (86, .invokevirtual 164, 3, 0, 0, 1038, m_Choir_handOver),
   (89, .aload_n 0, 1, 0, 0, 0, m0),
   (90, .iload 4, 2, 0, 0, 0, m0),
   (92, .iload 5, 2, 0, 0, 0, m0),
   (94, .invokevirtual 168, 3, 0, 0, 1042, m_Choir_takeOff),
   (97, .nop, 0, 0, 0, 0, m0)]),
  (97, [], false, [(97, .iinc 3 1, 3, 0, 0, 0, m0),
   (100, .goto (-72), 3, 28, 0, 0, m0)]),
  (103, [], false, [(103, .aload_n 0, 1, 0, 0, 0, m0),
   (104, .dup, 1, 0, 0, 0, m0),
   (105, .getfield 51, 3, 11, 0, 290, m0),
   (108, .iconst 1, 1, 0, 0, 0, m0),
   (109, .iload_n 1, 1, 0, 0, 0, m0),
   (110, .ishl, 1, 0, 0, 0, m0),
   (111, .ior, 1, 0, 0, 0, m0),
   (112, .putfield 51, 3, 11, 0, 290, m0),
   (115, .aload_n 0, 1, 0, 0, 0, m0),
   (116, .invokevirtual 171, 3, 0, 0, 1046, m_Choir_settle),
   (119, .aload_n 0, 1, 0, 0, 0, m0),
   (120, .getfield 63, 3, 15, 0, 301, m0),
   (123, .iload_n 2, 1, 0, 0, 0, m0),
   (124, .isub, 1, 0, 0, 0, m0),
   (125, .ireturn, 1, 0, 0, 0, m0)])]
theorem ok_Choir_catchCold : okBt m_Choir_catchCold bt_Choir_catchCold = true := by decide +kernel
set_option maxRecDepth 100000 in
theorem b_Choir_catchCold_0 {l : Launch} {E : EnvT} {d : Nat} {K : AV → Mem → Prop} {M : Mem} {r : Nat} {x1 : Int32} (hd : 1 ≤ d)
  (h : CT l E (d - 1) m_Choir_lives [(.ref r, 11), (.int x1, 0)] M (fun v1 M1 =>
   (((toI v1) = 0 →
    K (.int (iN (-1)), 0) M1) ∧
   (¬ (toI v1) = 0 →
    CT l E (d - 1) m_Choir_isIn [(.int (iN (M1 r 0 11)), 0), (.int x1, 0)] M1 (fun v2 M2 =>
     (((toI v2) = 0 →
      G l E d m_Choir_catchCold 28 [(0, (.ref r, 11)), (1, (.int x1, 0)), (2, (.int (iN (M2 r 0 15)), 0)), (3, (.int (iN 0), 0))] [] M2 K) ∧
     (¬ (toI v2) = 0 →
      K (.int (iN (-1)), 0) M2))))))) :
  G l E d m_Choir_catchCold 0 [(0, (.ref r, 11)), (1, (.int x1, 0))] [] M K := G.blk 60 _ hd ok_Choir_catchCold rfl h
set_option maxRecDepth 100000 in
theorem b_Choir_catchCold_28 {l : Launch} {E : EnvT} {d : Nat} {K : AV → Mem → Prop} {M : Mem} {r : Nat} {x1 : Int32} {x2 : Int32} {x3 : Int32} (hd : 1 ≤ d)
  (h : (((iN (M r 0 8)) ≤ x3 →
   CT l E (d - 1) m_Choir_settle [(.ref r, 11)] (upd3 M r 0 11 (((iN (M r 0 11)) ||| ((iN 1) <<< (x1 &&& 31)))).toInt) (fun v1 M1 =>
    K (.int ((iN (M1 r 0 15)) - x2), 0) M1)) ∧
  (¬ (iN (M r 0 8)) ≤ x3 →
   CT l E (d - 1) m_Choir_slotOf [(.ref r, 11), (.int x1, 0), (.int x3, 0)] M (fun v2 M2 =>
    (((toI v2) = (iN (-1)) →
     G l E d m_Choir_catchCold 28 [(0, (.ref r, 11)), (1, (.int x1, 0)), (2, (.int x2, 0)), (3, (.int (x3 + iN 1), 0))] [] M2 K) ∧
    (¬ (toI v2) = (iN (-1)) →
     (vp_in (toI v2) 48 ∧ vp_in x1 8 ∧ vp_in x3 8 ∧ CT l E (d - 1) m_Math_min [(.int (iN (M2 r 2 (x1).toNatClampNeg)), 0), (.int ((iN 9999) - (iN (M2 r 2 (x3).toNatClampNeg))), 0)] M2 (fun v3 M3 =>
      CT l E (d - 1) m_Math_min [(.int (iN (M2 r 7 ((toI v2)).toNatClampNeg)), 0), (.int (toI v3), 0)] M3 (fun v4 M4 =>
       CT l E (d - 1) m_Choir_handOver [(.ref r, 11), (.int x1, 0), (.int x3, 0), (.int (toI v4), 0)] M4 (fun v5 M5 =>
        CT l E (d - 1) m_Choir_takeOff [(.ref r, 11), (.int (toI v2), 0), (.int (toI v4), 0)] M5 (fun v6 M6 =>
         G l E d m_Choir_catchCold 28 [(0, (.ref r, 11)), (1, (.int x1, 0)), (2, (.int x2, 0)), (3, (.int (x3 + iN 1), 0))] [] M6 K))))))))))) :
  G l E d m_Choir_catchCold 28 [(0, (.ref r, 11)), (1, (.int x1, 0)), (2, (.int x2, 0)), (3, (.int x3, 0))] [] M K := G.blk 60 _ hd ok_Choir_catchCold rfl h
def bt_Choir_passOnHeld : BtT := [(0, [0, 1, 2], true, [(0, .iconst 0, 1, 0, 0, 0, m0),
   (1, .istore_n 3, 1, 0, 0, 0, m0),
   (2, .nop, 0, 0, 0, 0, m0)]),
  (2, [0, 1, 2, 3], true, [(2, .iload_n 3, 1, 0, 0, 0, m0),
   (3, .aload_n 0, 1, 0, 0, 0, m0),
   (4, .getfield 41, 3, 8, 0, 280, m0),
   (7, .if_icmp .ge 59, 3, 66, 0, 0, m0),
   (10, .nop, 0, 0, 0, 0, m0)]),
  (10, [], false, [(10, .aload_n 0, 1, 0, 0, 0, m0),
   (11, .iload_n 1, 1, 0, 0, 0, m0),
   (12, .iload_n 3, 1, 0, 0, 0, m0),
   (13, .invokevirtual 107, 3, 0, 0, 798, m_Choir_slotOf),
   (16, .istore 4, 2, 0, 0, 0, m0),
   (18, .iload 4, 2, 0, 0, 0, m0),
   (20, .iconst (-1), 1, 0, 0, 0, m0),
   (21, .if_icmp .eq 39, 3, 60, 0, 0, m0),
   (24, .nop, 0, 0, 0, 0, m0)]),
  (24, [], false, [(24, .aload_n 0, 1, 0, 0, 0, m0),
   (25, .getfield 31, 3, 6, 0, 276, m0),
   (28, .iload 4, 2, 0, 0, 0, m0),
   (30, .iaload, 1, 0, 0, 0, m0),
   (31, .istore 5, 2, 0, 0, 0, m0),
   (33, .aload_n 0, 1, 0, 0, 0, m0),
   (34, .iload 4, 2, 0, 0, 0, m0),
   (36, .iload 5, 2, 0, 0, 0, m0),
   (38, .invokevirtual 168, 3, 0, 0, 1042, m_Choir_takeOff),
   (41, .iload_n 2, 1, 0, 0, 0, m0),
   (42, .iconst (-1), 1, 0, 0, 0, m0),
   (43, .if_icmp .eq 17, 3, 60, 0, 0, m0),
   (46, .nop, 0, 0, 0, 0, m0)]),
  (46, [], false, [(46, .iload_n 2, 1, 0, 0, 0, m0),
   (47, .iload_n 3, 1, 0, 0, 0, m0),
   (48, .if_icmp .eq 12, 3, 60, 0, 0, m0),
   (51, .nop, 0, 0, 0, 0, m0)]),
  (51, [], false, [(51, .aload_n 0, 1, 0, 0, 0, m0),
   (52, .iload_n 2, 1, 0, 0, 0, m0),
   (53, .iload_n 3, 1, 0, 0, 0, m0),
   (54, .iload 5, 2, 0, 0, 0, m0),
   (56, .invokevirtual 161, 3, 0, 0, 1029, m_Choir_owe),
   (59, .pop, 1, 0, 0, 0, m0),
   (60, .nop, 0, 0, 0, 0, m0)]),
  (60, [], false, [(60, .iinc 3 1, 3, 0, 0, 0, m0),
   (63, .goto (-61), 3, 2, 0, 0, m0)]),
  (66, [], false, [(66, .return_, 1, 0, 0, 0, m0)])]
theorem ok_Choir_passOnHeld : okBt m_Choir_passOnHeld bt_Choir_passOnHeld = true := by decide +kernel
set_option maxRecDepth 100000 in
theorem b_Choir_passOnHeld_0 {l : Launch} {E : EnvT} {d : Nat} {K : AV → Mem → Prop} {M : Mem} {r : Nat} {x1 : Int32} {x2 : Int32} (hd : 1 ≤ d)
  (h : G l E d m_Choir_passOnHeld 2 [(0, (.ref r, 11)), (1, (.int x1, 0)), (2, (.int x2, 0)), (3, (.int (iN 0), 0))] [] M K) :
  G l E d m_Choir_passOnHeld 0 [(0, (.ref r, 11)), (1, (.int x1, 0)), (2, (.int x2, 0))] [] M K := G.blk 60 _ hd ok_Choir_passOnHeld rfl h
set_option maxRecDepth 100000 in
theorem b_Choir_passOnHeld_2 {l : Launch} {E : EnvT} {d : Nat} {K : AV → Mem → Prop} {M : Mem} {r : Nat} {x1 : Int32} {x2 : Int32} {x3 : Int32} (hd : 1 ≤ d)
  (h : (((iN (M r 0 8)) ≤ x3 →
   K (.null, 0) M) ∧
  (¬ (iN (M r 0 8)) ≤ x3 →
   CT l E (d - 1) m_Choir_slotOf [(.ref r, 11), (.int x1, 0), (.int x3, 0)] M (fun v1 M1 =>
    (((toI v1) = (iN (-1)) →
     G l E d m_Choir_passOnHeld 2 [(0, (.ref r, 11)), (1, (.int x1, 0)), (2, (.int x2, 0)), (3, (.int (x3 + iN 1), 0))] [] M1 K) ∧
    (¬ (toI v1) = (iN (-1)) →
     (vp_in (toI v1) 48 ∧ CT l E (d - 1) m_Choir_takeOff [(.ref r, 11), (.int (toI v1), 0), (.int (iN (M1 r 7 ((toI v1)).toNatClampNeg)), 0)] M1 (fun v2 M2 =>
      ((x2 = (iN (-1)) →
       G l E d m_Choir_passOnHeld 2 [(0, (.ref r, 11)), (1, (.int x1, 0)), (2, (.int x2, 0)), (3, (.int (x3 + iN 1), 0))] [] M2 K) ∧
      (¬ x2 = (iN (-1)) →
       ((x2 = x3 →
        G l E d m_Choir_passOnHeld 2 [(0, (.ref r, 11)), (1, (.int x1, 0)), (2, (.int x2, 0)), (3, (.int (x3 + iN 1), 0))] [] M2 K) ∧
       (¬ x2 = x3 →
        CT l E (d - 1) m_Choir_owe [(.ref r, 11), (.int x2, 0), (.int x3, 0), (.int (iN (M1 r 7 ((toI v1)).toNatClampNeg)), 0)] M2 (fun v3 M3 =>
         G l E d m_Choir_passOnHeld 2 [(0, (.ref r, 11)), (1, (.int x1, 0)), (2, (.int x2, 0)), (3, (.int (x3 + iN 1), 0))] [] M3 K))))))))))))) :
  G l E d m_Choir_passOnHeld 2 [(0, (.ref r, 11)), (1, (.int x1, 0)), (2, (.int x2, 0)), (3, (.int x3, 0))] [] M K := G.blk 60 _ hd ok_Choir_passOnHeld rfl h
def bt_Choir_passOnWaiting : BtT := [(0, [0, 1, 2], true, [(0, .iconst 0, 1, 0, 0, 0, m0),
   (1, .istore_n 3, 1, 0, 0, 0, m0),
   (2, .iconst 0, 1, 0, 0, 0, m0),
   (3, .istore 4, 2, 0, 0, 0, m0),
   (5, .nop, 0, 0, 0, 0, m0)]),
  (5, [0, 1, 2, 3, 4], true, [(5, .iload 4, 2, 0, 0, 0, m0),
   (7, .bipush 8, 2, 0, 0, 0, m0),
   (9, .if_icmp .ge 90, 3, 99, 0, 0, m0),
   (12, .nop, 0, 0, 0, 0, m0)]),
  (12, [], false, [(12, .iload_n 3, 1, 0, 0, 0, m0),
   (13, .aload_n 0, 1, 0, 0, 0, m0),
   (14, .getfield 37, 3, 7, 0, 278, m0),
   (17, .getfield 72, 3, 3, 7, 250, m0),
   (20, .if_icmp .ge 79, 3, 99, 0, 0, m0),
   (23, .nop, 0, 0, 0, 0, m0)]),
  (23, [], false, [(23, .aload_n 0, 1, 0, 0, 0, m0),
   (24, .getfield 37, 3, 7, 0, 278, m0),
   (27, .getfield 119, 3, 0, 7, 242, m0),
   (30, .iload_n 3, 1, 0, 0, 0, m0),
   (31, .iaload, 1, 0, 0, 0, m0),
   (32, .iload_n 1, 1, 0, 0, 0, m0),
   (33, .if_icmp .ne 57, 3, 90, 0, 0, m0),
   (36, .nop, 0, 0, 0, 0, m0)]),
  (36, [], false, [(36, .aload_n 0, 1, 0, 0, 0, m0),
   (37, .getfield 37, 3, 7, 0, 278, m0),
   (40, .getfield 122, 3, 1, 7, 245, m0),
   (43, .iload_n 3, 1, 0, 0, 0, m0),
   (44, .iaload, 1, 0, 0, 0, m0),
   (45, .istore 5, 2, 0, 0, 0, m0),
   (47, .aload_n 0, 1, 0, 0, 0, m0),
   (48, .getfield 37, 3, 7, 0, 278, m0),
   (51, .getfield 116, 3, 2, 7, 248, m0),
   (54, .iload_n 3, 1, 0, 0, 0, m0),
   (55, .iaload, 1, 0, 0, 0, m0),
   (56, .istore 6, 2, 0, 0, 0, m0),
   (58, .aload_n 0, 1, 0, 0, 0, m0),
   (59, .getfield 37, 3, 7, 0, 278, m0),
   (62, .iload_n 3, 1, 0, 0, 0, m0),
   (63, .invokevirtual 174, 3, 0, 0, 1050, m_Waiting_leave),
   (66, .iload_n 2, 1, 0, 0, 0, m0),
   (67, .iconst (-1), 1, 0, 0, 0, m0),
   (68, .if_icmp .eq 19, 3, 87, 0, 0, m0),
   (71, .nop, 0, 0, 0, 0, m0)]),
  (71, [], false, [(71, .iload_n 2, 1, 0, 0, 0, m0),
   (72, .iload 5, 2, 0, 0, 0, m0),
   (74, .if_icmp .eq 13, 3, 87, 0, 0, m0),
   (77, .nop, 0, 0, 0, 0, m0)]),
  (77, [], false, [(77, .aload_n 0, 1, 0, 0, 0, m0),
   (78, .iload_n 2, 1, 0, 0, 0, m0),
   (79, .iload 5, 2, 0, 0, 0, m0),
   (81, .iload 6, 2, 0, 0, 0, m0),
   (83, .invokevirtual 161, 3, 0, 0, 1029, m_Choir_owe),
   (86, .pop, 1, 0, 0, 0, m0),
   (87, .nop, 0, 0, 0, 0, m0)]),
  (87, [], false, [(87, .goto 6, 3, 93, 0, 0, m0)]),
  (90, [], false, [(90, .iinc 3 1, 3, 0, 0, 0, m0),
   (93, .nop, 0, 0, 0, 0, m0)]),
  (93, [], false, [(93, .iinc 4 1, 3, 0, 0, 0, m0),
   (96, .goto (-91), 3, 5, 0, 0, m0)]),
  (99, [], false, [(99, .return_, 1, 0, 0, 0, m0)])]
theorem ok_Choir_passOnWaiting : okBt m_Choir_passOnWaiting bt_Choir_passOnWaiting = true := by decide +kernel
set_option maxRecDepth 100000 in
theorem b_Choir_passOnWaiting_0 {l : Launch} {E : EnvT} {d : Nat} {K : AV → Mem → Prop} {M : Mem} {r : Nat} {x1 : Int32} {x2 : Int32} (hd : 1 ≤ d)
  (h : G l E d m_Choir_passOnWaiting 5 [(0, (.ref r, 11)), (1, (.int x1, 0)), (2, (.int x2, 0)), (3, (.int (iN 0), 0)), (4, (.int (iN 0), 0))] [] M K) :
  G l E d m_Choir_passOnWaiting 0 [(0, (.ref r, 11)), (1, (.int x1, 0)), (2, (.int x2, 0))] [] M K := G.blk 60 _ hd ok_Choir_passOnWaiting rfl h
set_option maxRecDepth 100000 in
theorem b_Choir_passOnWaiting_5 {l : Launch} {E : EnvT} {d : Nat} {K : AV → Mem → Prop} {M : Mem} {r : Nat} {x1 : Int32} {x2 : Int32} {x3 : Int32} {x4 : Int32} (hd : 1 ≤ d)
  (h : (((iN 8) ≤ x4 →
   K (.null, 0) M) ∧
  (¬ (iN 8) ≤ x4 →
   (((iN (M r 8 3)) ≤ x3 →
    K (.null, 0) M) ∧
   (¬ (iN (M r 8 3)) ≤ x3 →
    (vp_in x3 8 ∧ ((¬ (iN (M r 9 (x3).toNatClampNeg)) = x1 →
     G l E d m_Choir_passOnWaiting 5 [(0, (.ref r, 11)), (1, (.int x1, 0)), (2, (.int x2, 0)), (3, (.int (x3 + iN 1), 0)), (4, (.int (x4 + iN 1), 0))] [] M K) ∧
    ((iN (M r 9 (x3).toNatClampNeg)) = x1 →
     (vp_in x3 8 ∧ vp_in x3 8 ∧ CT l E (d - 1) m_Waiting_leave [(.ref r, 19), (.int x3, 0)] M (fun v1 M1 =>
      ((x2 = (iN (-1)) →
       G l E d m_Choir_passOnWaiting 5 [(0, (.ref r, 11)), (1, (.int x1, 0)), (2, (.int x2, 0)), (3, (.int x3, 0)), (4, (.int (x4 + iN 1), 0))] [] M1 K) ∧
      (¬ x2 = (iN (-1)) →
       ((x2 = (iN (M r 10 (x3).toNatClampNeg)) →
        G l E d m_Choir_passOnWaiting 5 [(0, (.ref r, 11)), (1, (.int x1, 0)), (2, (.int x2, 0)), (3, (.int x3, 0)), (4, (.int (x4 + iN 1), 0))] [] M1 K) ∧
       (¬ x2 = (iN (M r 10 (x3).toNatClampNeg)) →
        CT l E (d - 1) m_Choir_owe [(.ref r, 11), (.int x2, 0), (.int (iN (M r 10 (x3).toNatClampNeg)), 0), (.int (iN (M r 11 (x3).toNatClampNeg)), 0)] M1 (fun v2 M2 =>
         G l E d m_Choir_passOnWaiting 5 [(0, (.ref r, 11)), (1, (.int x1, 0)), (2, (.int x2, 0)), (3, (.int x3, 0)), (4, (.int (x4 + iN 1), 0))] [] M2 K))))))))))))))) :
  G l E d m_Choir_passOnWaiting 5 [(0, (.ref r, 11)), (1, (.int x1, 0)), (2, (.int x2, 0)), (3, (.int x3, 0)), (4, (.int x4, 0))] [] M K := G.blk 60 _ hd ok_Choir_passOnWaiting rfl h
def bt_Choir_forgetLine : BtT := [(0, [0, 1], true, [(0, .iconst 0, 1, 0, 0, 0, m0),
   (1, .istore_n 2, 1, 0, 0, 0, m0),
   (2, .nop, 0, 0, 0, 0, m0)]),
  (2, [0, 1, 2], true, [(2, .iload_n 2, 1, 0, 0, 0, m0),
   (3, .aload_n 0, 1, 0, 0, 0, m0),
   (4, .getfield 22, 3, 3, 0, 269, m0),
   (7, .iload_n 1, 1, 0, 0, 0, m0),
   (8, .iaload, 1, 0, 0, 0, m0),
   (9, .if_icmp .ge 28, 3, 37, 0, 0, m0),
   (12, .nop, 0, 0, 0, 0, m0)]),
  (12, [], false, [(12, .aload_n 0, 1, 0, 0, 0, m0),
   (13, .iload_n 1, 1, 0, 0, 0, m0),
   (14, .iload_n 2, 1, 0, 0, 0, m0),
   (15, .invokestatic 89, 3, 0, 0, 760, m_Choir_slot),
   (18, .aload_n 0, 1, 0, 0, 0, m0),
   (19, .getfield 31, 3, 6, 0, 276, m0),
   (22, .iload_n 1, 1, 0, 0, 0, m0),
   (23, .iload_n 2, 1, 0, 0, 0, m0),
   (24, .invokestatic 89, 3, 0, 0, 760, m_Choir_slot),
   (27, .iaload, 1, 0, 0, 0, m0),
   (28, .invokevirtual 168, 3, 0, 0, 1042, m_Choir_takeOff),
   (31, .iinc 2 1, 3, 0, 0, 0, m0),
   (34, .goto (-32), 3, 2, 0, 0, m0)]),
  (37, [], false, [(37, .iconst 0, 1, 0, 0, 0, m0),
   (38, .istore_n 2, 1, 0, 0, 0, m0),
   (39, .iconst 0, 1, 0, 0, 0, m0),
   (40, .istore_n 3, 1, 0, 0, 0, m0),
   (41, .nop, 0, 0, 0, 0, m0)]),
  (41, [0, 1, 2, 3], true, [(41, .iload_n 3, 1, 0, 0, 0, m0),
   (42, .bipush 8, 2, 0, 0, 0, m0),
   (44, .if_icmp .ge 47, 3, 91, 0, 0, m0),
   (47, .nop, 0, 0, 0, 0, m0)]),
  (47, [], false, [(47, .iload_n 2, 1, 0, 0, 0, m0),
   (48, .aload_n 0, 1, 0, 0, 0, m0),
   (49, .getfield 37, 3, 7, 0, 278, m0),
   (52, .getfield 72, 3, 3, 7, 250, m0),
   (55, .if_icmp .ge 36, 3, 91, 0, 0, m0),
   (58, .nop, 0, 0, 0, 0, m0)]),
  (58, [], false, [(58, .aload_n 0, 1, 0, 0, 0, m0),
   (59, .getfield 37, 3, 7, 0, 278, m0),
   (62, .getfield 122, 3, 1, 7, 245, m0),
   (65, .iload_n 2, 1, 0, 0, 0, m0),
   (66, .iaload, 1, 0, 0, 0, m0),
   (67, .iload_n 1, 1, 0, 0, 0, m0),
   (68, .if_icmp .ne 14, 3, 82, 0, 0, m0),
   (71, .nop, 0, 0, 0, 0, m0)]),
  (71, [], false, [(71, .aload_n 0, 1, 0, 0, 0, m0),
   (72, .getfield 37, 3, 7, 0, 278, m0),
   (75, .iload_n 2, 1, 0, 0, 0, m0),
   (76, .invokevirtual 174, 3, 0, 0, 1050, m_Waiting_leave),
   (79, .goto 6, 3, 85, 0, 0, m0)]),
  (82, [], false, [(82, .iinc 2 1, 3, 0, 0, 0, m0),
   (85, .nop, 0, 0, 0, 0, m0)]),
  (85, [], false, [(85, .iinc 3 1, 3, 0, 0, 0, m0),
   (88, .goto (-47), 3, 41, 0, 0, m0)]),
  (91, [], false, [(91, .return_, 1, 0, 0, 0, m0)])]
theorem ok_Choir_forgetLine : okBt m_Choir_forgetLine bt_Choir_forgetLine = true := by decide +kernel
set_option maxRecDepth 100000 in
theorem b_Choir_forgetLine_0 {l : Launch} {E : EnvT} {d : Nat} {K : AV → Mem → Prop} {M : Mem} {r : Nat} {x1 : Int32} (hd : 1 ≤ d)
  (h : G l E d m_Choir_forgetLine 2 [(0, (.ref r, 11)), (1, (.int x1, 0)), (2, (.int (iN 0), 0))] [] M K) :
  G l E d m_Choir_forgetLine 0 [(0, (.ref r, 11)), (1, (.int x1, 0))] [] M K := G.blk 60 _ hd ok_Choir_forgetLine rfl h
set_option maxRecDepth 100000 in
theorem b_Choir_forgetLine_2 {l : Launch} {E : EnvT} {d : Nat} {K : AV → Mem → Prop} {M : Mem} {r : Nat} {x1 : Int32} {x2 : Int32} (hd : 1 ≤ d)
  (h : (vp_in x1 8 ∧ (((iN (M r 4 (x1).toNatClampNeg)) ≤ x2 →
   G l E d m_Choir_forgetLine 41 [(0, (.ref r, 11)), (1, (.int x1, 0)), (2, (.int (iN 0), 0)), (3, (.int (iN 0), 0))] [] M K) ∧
  (¬ (iN (M r 4 (x1).toNatClampNeg)) ≤ x2 →
   CT l E (d - 1) m_Choir_slot [(.int x1, 0), (.int x2, 0)] M (fun v1 M1 =>
    CT l E (d - 1) m_Choir_slot [(.int x1, 0), (.int x2, 0)] M1 (fun v2 M2 =>
     (vp_in (toI v2) 48 ∧ CT l E (d - 1) m_Choir_takeOff [(.ref r, 11), (.int (toI v1), 0), (.int (iN (M2 r 7 ((toI v2)).toNatClampNeg)), 0)] M2 (fun v3 M3 =>
      G l E d m_Choir_forgetLine 2 [(0, (.ref r, 11)), (1, (.int x1, 0)), (2, (.int (x2 + iN 1), 0))] [] M3 K)))))))) :
  G l E d m_Choir_forgetLine 2 [(0, (.ref r, 11)), (1, (.int x1, 0)), (2, (.int x2, 0))] [] M K := G.blk 60 _ hd ok_Choir_forgetLine rfl h
set_option maxRecDepth 100000 in
theorem b_Choir_forgetLine_41 {l : Launch} {E : EnvT} {d : Nat} {K : AV → Mem → Prop} {M : Mem} {r : Nat} {x1 : Int32} {x2 : Int32} {x3 : Int32} (hd : 1 ≤ d)
  (h : (((iN 8) ≤ x3 →
   K (.null, 0) M) ∧
  (¬ (iN 8) ≤ x3 →
   (((iN (M r 8 3)) ≤ x2 →
    K (.null, 0) M) ∧
   (¬ (iN (M r 8 3)) ≤ x2 →
    (vp_in x2 8 ∧ ((¬ (iN (M r 10 (x2).toNatClampNeg)) = x1 →
     G l E d m_Choir_forgetLine 41 [(0, (.ref r, 11)), (1, (.int x1, 0)), (2, (.int (x2 + iN 1), 0)), (3, (.int (x3 + iN 1), 0))] [] M K) ∧
    ((iN (M r 10 (x2).toNatClampNeg)) = x1 →
     CT l E (d - 1) m_Waiting_leave [(.ref r, 19), (.int x2, 0)] M (fun v1 M1 =>
      G l E d m_Choir_forgetLine 41 [(0, (.ref r, 11)), (1, (.int x1, 0)), (2, (.int x2, 0)), (3, (.int (x3 + iN 1), 0))] [] M1 K))))))))) :
  G l E d m_Choir_forgetLine 41 [(0, (.ref r, 11)), (1, (.int x1, 0)), (2, (.int x2, 0)), (3, (.int x3, 0))] [] M K := G.blk 60 _ hd ok_Choir_forgetLine rfl h
def bt_Choir_bury : BtT := [(0, [0, 1], true, [(0, .aload_n 0, 1, 0, 0, 0, m0),
   (1, .iload_n 1, 1, 0, 0, 0, m0),
   (2, .invokevirtual 93, 3, 0, 0, 1023, m_Choir_lives),
   (5, .ifCond .ne 5, 3, 10, 0, 0, m0),
   (8, .nop, 0, 0, 0, 0, m0)]),
  (8, [], false, [(8, .iconst 0, 1, 0, 0, 0, m0),
   (9, .ireturn, 1, 0, 0, 0, m0)]),
  (10, [], false, [(10, .aload_n 0, 1, 0, 0, 0, m0),
   (11, .aload_n 0, 1, 0, 0, 0, m0),
   (12, .getfield 19, 3, 2, 0, 266, m0),
   (15, .iload_n 1, 1, 0, 0, 0, m0),
   (16, .iaload, 1, 0, 0, 0, m0),
   (17, .invokevirtual 93, 3, 0, 0, 1023, m_Choir_lives),
   (20, .ifCond .eq 12, 3, 32, 0, 0, m0),
   (23, .nop, 0, 0, 0, 0, m0)]),
  (23, [], false, [(23, .aload_n 0, 1, 0, 0, 0, m0),
   (24, .getfield 19, 3, 2, 0, 266, m0),
   (27, .iload_n 1, 1, 0, 0, 0, m0),
   (28, .iaload, 1, 0, 0, 0, m0),
   (29, .goto 4, 3, 33, 0, 0, m0)]),
  (32, [], false, [(32, .iconst (-1), 1, 0, 0, 0, m0),
   (33, .nop, 0, 0, 0, 0, m0)]),
  (33, [], false, [(33, .istore_n 2, 1, 0, 0, 0, m0),
   (34, .iload_n 2, 1, 0, 0, 0, m0),
   (35, .iconst (-1), 1, 0, 0, 0, m0),
   (36, .if_icmp .eq 28, 3, 64, 0, 0, m0),
   (39, .nop, 0, 0, 0, 0, m0)]),
  (39, [], false, [(39, .aload_n 0, 1, 0, 0, 0, m0),
   (40, .getfield 15, 3, 1, 0, 263, m0),
   (43, .iload_n 2, 1, 0, 0, 0, m0),
   (44, .sipush 9999, 3, 0, 0, 0, m0),
   (47, .aload_n 0, 1, 0, 0, 0, m0),
   (48, .getfield 15, 3, 1, 0, 263, m0),
   (51, .iload_n 2, 1, 0, 0, 0, m0),
   (52, .iaload, 1, 0, 0, 0, m0),
   (53, .aload_n 0, 1, 0, 0, 0, m0),
   (54, .getfield 15, 3, 1, 0, 263, m0),
   (57, .iload_n 1, 1, 0, 0, 0, m0),
   (58, .iaload, 1, 0, 0, 0, m0),
   (59, .iadd, 1, 0, 0, 0, m0),
   (60, .invokestatic 145, 3, 0, 0, 938, m_Math_min),
   (63, .iastore, 1, 0, 0, 0, m0),
   (64, .nop, 0, 0, 0, 0, m0)]),
  (64, [], false, [(64, .aload_n 0, 1, 0, 0, 0, m0),
   (65, .getfield 15, 3, 1, 0, 263, m0),
   (68, .iload_n 1, 1, 0, 0, 0, m0),
   (69, .iconst 0, 1, 0, 0, 0, m0),
   (70, .iastore, 1, 0, 0, 0, m0),
   (71, .aload_n 0, 1, 0, 0, 0, m0),
   (72, .iload_n 1, 1, 0, 0, 0, m0),
   (73, .iload_n 2, 1, 0, 0, 0, m0),
   (74, .invokevirtual 181, 3, 0, 0, 1097, m_Choir_passOnHeld),
   (77, .aload_n 0, 1, 0, 0, 0, m0),
   (78, .iload_n 1, 1, 0, 0, 0, m0),
   (79, .iload_n 2, 1, 0, 0, 0, m0),
   (80, .invokevirtual 184, 3, 0, 0, 1101, m_Choir_passOnWaiting),
   (83, .aload_n 0, 1, 0, 0, 0, m0),
   (84, .iload_n 1, 1, 0, 0, 0, m0),
   (85, .invokevirtual 187, 3, 0, 0, 1105, m_Choir_forgetLine),
   (88, .nop, 0, 0, 0, 0, m0)]),
  (88, [0, 1], true, [(88, .aload_n 0, 1, 0, 0, 0, m0),
   (89, .dup, 1, 0, 0, 0, m0),
   (90, .getfield 51, 3, 11, 0, 290, m0),
   (93, .iconst 1, 1, 0, 0, 0, m0),
   (94, .iload_n 1, 1, 0, 0, 0, m0),
   (95, .ishl, 1, 0, 0, 0, m0),
   (96, .iconst (-1), 1, 0, 0, 0, m0),
   (97, .ixor, 1, 0, 0, 0, m0),
   (98, .iand, 1, 0, 0, 0, m0),
   (99, .putfield 51, 3, 11, 0, 290, m0),
   (102, .aload_n 0, 1, 0, 0, 0, m0),
   (103, .dup, 1, 0, 0, 0, m0),
   (104, .getfield 54, 3, 12, 0, 293, m0),
   (107, .iconst 1, 1, 0, 0, 0, m0),
   (108, .iload_n 1, 1, 0, 0, 0, m0),
   (109, .ishl, 1, 0, 0, 0, m0),
   (110, .ior, 1, 0, 0, 0, m0),
   (111, .putfield 54, 3, 12, 0, 293, m0),
   (114, .aload_n 0, 1, 0, 0, 0, m0),
   (115, .invokevirtual 171, 3, 0, 0, 1046, m_Choir_settle),
   (118, .iconst 1, 1, 0, 0, 0, m0),
   (119, .ireturn, 1, 0, 0, 0, m0)])]
theorem ok_Choir_bury : okBt m_Choir_bury bt_Choir_bury = true := by decide +kernel
set_option maxRecDepth 100000 in
theorem b_Choir_bury_0 {l : Launch} {E : EnvT} {d : Nat} {K : AV → Mem → Prop} {M : Mem} {r : Nat} {x1 : Int32} (hd : 1 ≤ d)
  (h : CT l E (d - 1) m_Choir_lives [(.ref r, 11), (.int x1, 0)] M (fun v1 M1 =>
   ((¬ (toI v1) = 0 →
    (vp_in x1 8 ∧ CT l E (d - 1) m_Choir_lives [(.ref r, 11), (.int (iN (M1 r 3 (x1).toNatClampNeg)), 0)] M1 (fun v2 M2 =>
     (((toI v2) = 0 →
      (((iN (-1)) = (iN (-1)) →
       (vp_in x1 8 ∧ CT l E (d - 1) m_Choir_passOnHeld [(.ref r, 11), (.int x1, 0), (.int (iN (-1)), 0)] (upd3 M2 r 2 (x1).toNatClampNeg ((iN 0)).toInt) (fun v3 M3 =>
        CT l E (d - 1) m_Choir_passOnWaiting [(.ref r, 11), (.int x1, 0), (.int (iN (-1)), 0)] M3 (fun v4 M4 =>
         CT l E (d - 1) m_Choir_forgetLine [(.ref r, 11), (.int x1, 0)] M4 (fun v5 M5 =>
          G l E d m_Choir_bury 88 [(0, (.ref r, 11)), (1, (.int x1, 0))] [] M5 K))))) ∧
      (¬ (iN (-1)) = (iN (-1)) →
       (vp_in (iN (-1)) 8 ∧ vp_in x1 8 ∧ CT l E (d - 1) m_Math_min [(.int (iN 9999), 0), (.int ((iN (M2 r 2 ((iN (-1))).toNatClampNeg)) + (iN (M2 r 2 (x1).toNatClampNeg))), 0)] M2 (fun v6 M6 =>
        (vp_in (iN (-1)) 8 ∧ vp_in x1 8 ∧ CT l E (d - 1) m_Choir_passOnHeld [(.ref r, 11), (.int x1, 0), (.int (iN (-1)), 0)] (upd3 (upd3 M6 r 2 ((iN (-1))).toNatClampNeg ((toI v6)).toInt) r 2 (x1).toNatClampNeg ((iN 0)).toInt) (fun v7 M7 =>
         CT l E (d - 1) m_Choir_passOnWaiting [(.ref r, 11), (.int x1, 0), (.int (iN (-1)), 0)] M7 (fun v8 M8 =>
          CT l E (d - 1) m_Choir_forgetLine [(.ref r, 11), (.int x1, 0)] M8 (fun v9 M9 =>
           G l E d m_Choir_bury 88 [(0, (.ref r, 11)), (1, (.int x1, 0))] [] M9 K))))))))) ∧
     (¬ (toI v2) = 0 →
      (vp_in x1 8 ∧ (((iN (M2 r 3 (x1).toNatClampNeg)) = (iN (-1)) →
       (vp_in x1 8 ∧ CT l E (d - 1) m_Choir_passOnHeld [(.ref r, 11), (.int x1, 0), (.int (iN (M2 r 3 (x1).toNatClampNeg)), 0)] (upd3 M2 r 2 (x1).toNatClampNeg ((iN 0)).toInt) (fun v10 M10 =>
        CT l E (d - 1) m_Choir_passOnWaiting [(.ref r, 11), (.int x1, 0), (.int (iN (M2 r 3 (x1).toNatClampNeg)), 0)] M10 (fun v11 M11 =>
         CT l E (d - 1) m_Choir_forgetLine [(.ref r, 11), (.int x1, 0)] M11 (fun v12 M12 =>
          G l E d m_Choir_bury 88 [(0, (.ref r, 11)), (1, (.int x1, 0))] [] M12 K))))) ∧
      (¬ (iN (M2 r 3 (x1).toNatClampNeg)) = (iN (-1)) →
       (vp_in (iN (M2 r 3 (x1).toNatClampNeg)) 8 ∧ vp_in x1 8 ∧ CT l E (d - 1) m_Math_min [(.int (iN 9999), 0), (.int ((iN (M2 r 2 ((iN (M2 r 3 (x1).toNatClampNeg))).toNatClampNeg)) + (iN (M2 r 2 (x1).toNatClampNeg))), 0)] M2 (fun v13 M13 =>
        (vp_in (iN (M2 r 3 (x1).toNatClampNeg)) 8 ∧ vp_in x1 8 ∧ CT l E (d - 1) m_Choir_passOnHeld [(.ref r, 11), (.int x1, 0), (.int (iN (M2 r 3 (x1).toNatClampNeg)), 0)] (upd3 (upd3 M13 r 2 ((iN (M2 r 3 (x1).toNatClampNeg))).toNatClampNeg ((toI v13)).toInt) r 2 (x1).toNatClampNeg ((iN 0)).toInt) (fun v14 M14 =>
         CT l E (d - 1) m_Choir_passOnWaiting [(.ref r, 11), (.int x1, 0), (.int (iN (M2 r 3 (x1).toNatClampNeg)), 0)] M14 (fun v15 M15 =>
          CT l E (d - 1) m_Choir_forgetLine [(.ref r, 11), (.int x1, 0)] M15 (fun v16 M16 =>
           G l E d m_Choir_bury 88 [(0, (.ref r, 11)), (1, (.int x1, 0))] [] M16 K)))))))))))))) ∧
   ((toI v1) = 0 →
    ((((iN 0) = 0 ∨ (iN 0) = 1)) ∧ K (.int (iN 0), 0) M1))))) :
  G l E d m_Choir_bury 0 [(0, (.ref r, 11)), (1, (.int x1, 0))] [] M K := G.blk 60 _ hd ok_Choir_bury rfl h
set_option maxRecDepth 100000 in
theorem b_Choir_bury_88 {l : Launch} {E : EnvT} {d : Nat} {K : AV → Mem → Prop} {M : Mem} {r : Nat} {x1 : Int32} (hd : 1 ≤ d)
  (h : CT l E (d - 1) m_Choir_settle [(.ref r, 11)] (upd3 (upd3 M r 0 11 (((iN (M r 0 11)) &&& (((iN 1) <<< (x1 &&& 31)) ^^^ (iN (-1))))).toInt) r 0 12 (((iN ((upd3 M r 0 11 (((iN (M r 0 11)) &&& (((iN 1) <<< (x1 &&& 31)) ^^^ (iN (-1))))).toInt) r 0 12)) ||| ((iN 1) <<< (x1 &&& 31)))).toInt) (fun v1 M1 =>
   ((((iN 1) = 0 ∨ (iN 1) = 1)) ∧ K (.int (iN 1), 0) M1))) :
  G l E d m_Choir_bury 88 [(0, (.ref r, 11)), (1, (.int x1, 0))] [] M K := G.blk 60 _ hd ok_Choir_bury rfl h
def bt_Choir_livingCount : BtT := [(0, [0], true, [(0, .aload_n 0, 1, 0, 0, 0, m0),
   (1, .getfield 41, 3, 8, 0, 280, m0),
   (4, .aload_n 0, 1, 0, 0, 0, m0),
   (5, .getfield 54, 3, 12, 0, 293, m0),
   (8, .invokestatic 97, 3, 0, 0, 1113, m_Integer_bitCount),
   (11, .isub, 1, 0, 0, 0, m0),
   (12, .ireturn, 1, 0, 0, 0, m0)])]
theorem ok_Choir_livingCount : okBt m_Choir_livingCount bt_Choir_livingCount = true := by decide +kernel
set_option maxRecDepth 100000 in
theorem b_Choir_livingCount_0 {l : Launch} {E : EnvT} {d : Nat} {K : AV → Mem → Prop} {M : Mem} {r : Nat}  (hd : 1 ≤ d)
  (h : CT l E (d - 1) m_Integer_bitCount [(.int (iN (M r 0 12)), 0)] M (fun v1 M1 =>
   K (.int ((iN (M r 0 8)) - (toI v1)), 0) M1)) :
  G l E d m_Choir_livingCount 0 [(0, (.ref r, 11))] [] M K := G.blk 60 _ hd ok_Choir_livingCount rfl h
def bt_Choir_netAll : BtT := [(0, [0], true, [(0, .iconst 0, 1, 0, 0, 0, m0),
   (1, .istore_n 1, 1, 0, 0, 0, m0),
   (2, .iconst 0, 1, 0, 0, 0, m0),
   (3, .istore_n 2, 1, 0, 0, 0, m0),
   (4, .nop, 0, 0, 0, 0, m0)]),
  (4, [0, 1, 2], true, [(4, .iload_n 2, 1, 0, 0, 0, m0),
   (5, .aload_n 0, 1, 0, 0, 0, m0),
   (6, .getfield 41, 3, 8, 0, 280, m0),
   (9, .if_icmp .ge 36, 3, 45, 0, 0, m0),
   (12, .nop, 0, 0, 0, 0, m0)]),
  (12, [], false, [(12, .iload_n 2, 1, 0, 0, 0, m0),
   (13, .iconst 1, 1, 0, 0, 0, m0),
   (14, .iadd, 1, 0, 0, 0, m0),
   (15, .istore_n 3, 1, 0, 0, 0, m0),
   (16, .nop, 0, 0, 0, 0, m0)]),
  (16, [0, 1, 2, 3], true, [(16, .iload_n 3, 1, 0, 0, 0, m0),
   (17, .aload_n 0, 1, 0, 0, 0, m0),
   (18, .getfield 41, 3, 8, 0, 280, m0),
   (21, .if_icmp .ge 18, 3, 39, 0, 0, m0),
   (24, .nop, 0, 0, 0, 0, m0)]),
  (24, [], false, [(24, .iload_n 1, 1, 0, 0, 0, m0),
   (25, .aload_n 0, 1, 0, 0, 0, m0),
   (26, .iload_n 2, 1, 0, 0, 0, m0),
   (27, .iload_n 3, 1, 0, 0, 0, m0),
   (28, .invokevirtual 178, 3, 0, 0, 1134, m_Choir_netTwo),
   (31, .iadd, 1, 0, 0, 0, m0),
   (32, .istore_n 1, 1, 0, 0, 0, m0),
   (33, .iinc 3 1, 3, 0, 0, 0, m0),
   (36, .goto (-20), 3, 16, 0, 0, m0)]),
  (39, [], false, [(39, .iinc 2 1, 3, 0, 0, 0, m0),
   (42, .goto (-38), 3, 4, 0, 0, m0)]),
  (45, [], false, [(45, .iload_n 1, 1, 0, 0, 0, m0),
   (46, .ireturn, 1, 0, 0, 0, m0)])]
theorem ok_Choir_netAll : okBt m_Choir_netAll bt_Choir_netAll = true := by decide +kernel
set_option maxRecDepth 100000 in
theorem b_Choir_netAll_0 {l : Launch} {E : EnvT} {d : Nat} {K : AV → Mem → Prop} {M : Mem} {r : Nat}  (hd : 1 ≤ d)
  (h : G l E d m_Choir_netAll 4 [(0, (.ref r, 11)), (1, (.int (iN 0), 0)), (2, (.int (iN 0), 0))] [] M K) :
  G l E d m_Choir_netAll 0 [(0, (.ref r, 11))] [] M K := G.blk 60 _ hd ok_Choir_netAll rfl h
set_option maxRecDepth 100000 in
theorem b_Choir_netAll_4 {l : Launch} {E : EnvT} {d : Nat} {K : AV → Mem → Prop} {M : Mem} {r : Nat} {x1 : Int32} {x2 : Int32} (hd : 1 ≤ d)
  (h : (((iN (M r 0 8)) ≤ x2 →
   K (.int x1, 0) M) ∧
  (¬ (iN (M r 0 8)) ≤ x2 →
   G l E d m_Choir_netAll 16 [(0, (.ref r, 11)), (1, (.int x1, 0)), (2, (.int x2, 0)), (3, (.int (x2 + (iN 1)), 0))] [] M K))) :
  G l E d m_Choir_netAll 4 [(0, (.ref r, 11)), (1, (.int x1, 0)), (2, (.int x2, 0))] [] M K := G.blk 60 _ hd ok_Choir_netAll rfl h
set_option maxRecDepth 100000 in
theorem b_Choir_netAll_16 {l : Launch} {E : EnvT} {d : Nat} {K : AV → Mem → Prop} {M : Mem} {r : Nat} {x1 : Int32} {x2 : Int32} {x3 : Int32} (hd : 1 ≤ d)
  (h : (((iN (M r 0 8)) ≤ x3 →
   G l E d m_Choir_netAll 4 [(0, (.ref r, 11)), (1, (.int x1, 0)), (2, (.int (x2 + iN 1), 0))] [] M K) ∧
  (¬ (iN (M r 0 8)) ≤ x3 →
   CT l E (d - 1) m_Choir_netTwo [(.ref r, 11), (.int x2, 0), (.int x3, 0)] M (fun v1 M1 =>
    G l E d m_Choir_netAll 16 [(0, (.ref r, 11)), (1, (.int (x1 + (toI v1)), 0)), (2, (.int x2, 0)), (3, (.int (x3 + iN 1), 0))] [] M1 K)))) :
  G l E d m_Choir_netAll 16 [(0, (.ref r, 11)), (1, (.int x1, 0)), (2, (.int x2, 0)), (3, (.int x3, 0))] [] M K := G.blk 60 _ hd ok_Choir_netAll rfl h
def bt_Choir_balanceOf : BtT := [(0, [0, 1], true, [(0, .aload_n 0, 1, 0, 0, 0, m0),
   (1, .iload_n 1, 1, 0, 0, 0, m0),
   (2, .invokevirtual 125, 3, 0, 0, 1143, m_Choir_isOwedInAll),
   (5, .aload_n 0, 1, 0, 0, 0, m0),
   (6, .iload_n 1, 1, 0, 0, 0, m0),
   (7, .invokevirtual 128, 3, 0, 0, 1144, m_Choir_owesInAll),
   (10, .isub, 1, 0, 0, 0, m0),
   (11, .ireturn, 1, 0, 0, 0, m0)])]
theorem ok_Choir_balanceOf : okBt m_Choir_balanceOf bt_Choir_balanceOf = true := by decide +kernel
set_option maxRecDepth 100000 in
theorem b_Choir_balanceOf_0 {l : Launch} {E : EnvT} {d : Nat} {K : AV → Mem → Prop} {M : Mem} {r : Nat} {x1 : Int32} (hd : 1 ≤ d)
  (h : CT l E (d - 1) m_Choir_isOwedInAll [(.ref r, 11), (.int x1, 0)] M (fun v1 M1 =>
   CT l E (d - 1) m_Choir_owesInAll [(.ref r, 11), (.int x1, 0)] M1 (fun v2 M2 =>
    K (.int ((toI v1) - (toI v2)), 0) M2))) :
  G l E d m_Choir_balanceOf 0 [(0, (.ref r, 11)), (1, (.int x1, 0))] [] M K := G.blk 60 _ hd ok_Choir_balanceOf rfl h
def bt_Choir_lacks : BtT := [(0, [0, 1], true, [(0, .iconst 0, 1, 0, 0, 0, m0),
   (1, .aload_n 0, 1, 0, 0, 0, m0),
   (2, .getfield 15, 3, 1, 0, 263, m0),
   (5, .iload_n 1, 1, 0, 0, 0, m0),
   (6, .iaload, 1, 0, 0, 0, m0),
   (7, .aload_n 0, 1, 0, 0, 0, m0),
   (8, .iload_n 1, 1, 0, 0, 0, m0),
   (9, .invokevirtual 131, 3, 0, 0, 1187, m_Choir_balanceOf),
   (12, .iadd, 1, 0, 0, 0, m0),
   (13, .ineg, 1, 0, 0, 0, m0),
   (14, .invokestatic 134, 3, 0, 0, 935, m_Math_max),
   (17, .ireturn, 1, 0, 0, 0, m0)])]
theorem ok_Choir_lacks : okBt m_Choir_lacks bt_Choir_lacks = true := by decide +kernel
set_option maxRecDepth 100000 in
theorem b_Choir_lacks_0 {l : Launch} {E : EnvT} {d : Nat} {K : AV → Mem → Prop} {M : Mem} {r : Nat} {x1 : Int32} (hd : 1 ≤ d)
  (h : (vp_in x1 8 ∧ CT l E (d - 1) m_Choir_balanceOf [(.ref r, 11), (.int x1, 0)] M (fun v1 M1 =>
   CT l E (d - 1) m_Math_max [(.int (iN 0), 0), (.int (-((iN (M r 2 (x1).toNatClampNeg)) + (toI v1))), 0)] M1 (fun v2 M2 =>
    K (.int (toI v2), 0) M2)))) :
  G l E d m_Choir_lacks 0 [(0, (.ref r, 11)), (1, (.int x1, 0))] [] M K := G.blk 60 _ hd ok_Choir_lacks rfl h
def bt_Choir_freeNotes : BtT := [(0, [0, 1], true, [(0, .iconst 0, 1, 0, 0, 0, m0),
   (1, .istore_n 2, 1, 0, 0, 0, m0),
   (2, .iconst 0, 1, 0, 0, 0, m0),
   (3, .istore_n 3, 1, 0, 0, 0, m0),
   (4, .nop, 0, 0, 0, 0, m0)]),
  (4, [0, 1, 2, 3], true, [(4, .iload_n 3, 1, 0, 0, 0, m0),
   (5, .aload_n 0, 1, 0, 0, 0, m0),
   (6, .getfield 22, 3, 3, 0, 269, m0),
   (9, .iload_n 1, 1, 0, 0, 0, m0),
   (10, .iaload, 1, 0, 0, 0, m0),
   (11, .if_icmp .ge 26, 3, 37, 0, 0, m0),
   (14, .nop, 0, 0, 0, 0, m0)]),
  (14, [], false, [(14, .aload_n 0, 1, 0, 0, 0, m0),
   (15, .getfield 28, 3, 5, 0, 274, m0),
   (18, .iload_n 1, 1, 0, 0, 0, m0),
   (19, .iload_n 3, 1, 0, 0, 0, m0),
   (20, .invokestatic 89, 3, 0, 0, 760, m_Choir_slot),
   (23, .iaload, 1, 0, 0, 0, m0),
   (24, .iconst (-1), 1, 0, 0, 0, m0),
   (25, .if_icmp .ne 6, 3, 31, 0, 0, m0),
   (28, .nop, 0, 0, 0, 0, m0)]),
  (28, [], false, [(28, .iinc 2 1, 3, 0, 0, 0, m0),
   (31, .nop, 0, 0, 0, 0, m0)]),
  (31, [], false, [(31, .iinc 3 1, 3, 0, 0, 0, m0),
   (34, .goto (-30), 3, 4, 0, 0, m0)]),
  (37, [], false, [(37, .iload_n 2, 1, 0, 0, 0, m0),
   (38, .ireturn, 1, 0, 0, 0, m0)])]
theorem ok_Choir_freeNotes : okBt m_Choir_freeNotes bt_Choir_freeNotes = true := by decide +kernel
set_option maxRecDepth 100000 in
theorem b_Choir_freeNotes_0 {l : Launch} {E : EnvT} {d : Nat} {K : AV → Mem → Prop} {M : Mem} {r : Nat} {x1 : Int32} (hd : 1 ≤ d)
  (h : G l E d m_Choir_freeNotes 4 [(0, (.ref r, 11)), (1, (.int x1, 0)), (2, (.int (iN 0), 0)), (3, (.int (iN 0), 0))] [] M K) :
  G l E d m_Choir_freeNotes 0 [(0, (.ref r, 11)), (1, (.int x1, 0))] [] M K := G.blk 60 _ hd ok_Choir_freeNotes rfl h
set_option maxRecDepth 100000 in
theorem b_Choir_freeNotes_4 {l : Launch} {E : EnvT} {d : Nat} {K : AV → Mem → Prop} {M : Mem} {r : Nat} {x1 : Int32} {x2 : Int32} {x3 : Int32} (hd : 1 ≤ d)
  (h : (vp_in x1 8 ∧ (((iN (M r 4 (x1).toNatClampNeg)) ≤ x3 →
   K (.int x2, 0) M) ∧
  (¬ (iN (M r 4 (x1).toNatClampNeg)) ≤ x3 →
   CT l E (d - 1) m_Choir_slot [(.int x1, 0), (.int x3, 0)] M (fun v1 M1 =>
    (vp_in (toI v1) 48 ∧ ((¬ (iN (M1 r 6 ((toI v1)).toNatClampNeg)) = (iN (-1)) →
     G l E d m_Choir_freeNotes 4 [(0, (.ref r, 11)), (1, (.int x1, 0)), (2, (.int x2, 0)), (3, (.int (x3 + iN 1), 0))] [] M1 K) ∧
    ((iN (M1 r 6 ((toI v1)).toNatClampNeg)) = (iN (-1)) →
     G l E d m_Choir_freeNotes 4 [(0, (.ref r, 11)), (1, (.int x1, 0)), (2, (.int (x2 + iN 1), 0)), (3, (.int (x3 + iN 1), 0))] [] M1 K)))))))) :
  G l E d m_Choir_freeNotes 4 [(0, (.ref r, 11)), (1, (.int x1, 0)), (2, (.int x2, 0)), (3, (.int x3, 0))] [] M K := G.blk 60 _ hd ok_Choir_freeNotes rfl h
def bt_Choir_clearRing : BtT := [(0, [0, 1, 2], true, [(0, .sipush 999, 3, 0, 0, 0, m0),
   (3, .istore_n 3, 1, 0, 0, 0, m0),
   (4, .iconst 0, 1, 0, 0, 0, m0),
   (5, .istore 4, 2, 0, 0, 0, m0),
   (7, .nop, 0, 0, 0, 0, m0)]),
  (7, [0, 1, 2, 3, 4], true, [(7, .iload 4, 2, 0, 0, 0, m0),
   (9, .iload_n 2, 1, 0, 0, 0, m0),
   (10, .if_icmp .ge 30, 3, 40, 0, 0, m0),
   (13, .nop, 0, 0, 0, 0, m0)]),
  (13, [], false, [(13, .iload_n 3, 1, 0, 0, 0, m0),
   (14, .aload_n 0, 1, 0, 0, 0, m0),
   (15, .aload_n 1, 1, 0, 0, 0, m0),
   (16, .iload 4, 2, 0, 0, 0, m0),
   (18, .iaload, 1, 0, 0, 0, m0),
   (19, .aload_n 1, 1, 0, 0, 0, m0),
   (20, .iload 4, 2, 0, 0, 0, m0),
   (22, .iconst 1, 1, 0, 0, 0, m0),
   (23, .iadd, 1, 0, 0, 0, m0),
   (24, .iload_n 2, 1, 0, 0, 0, m0),
   (25, .irem, 1, 0, 0, 0, m0),
   (26, .iaload, 1, 0, 0, 0, m0),
   (27, .invokevirtual 113, 3, 0, 0, 987, m_Choir_debtAtNote),
   (30, .invokestatic 145, 3, 0, 0, 938, m_Math_min),
   (33, .istore_n 3, 1, 0, 0, 0, m0),
   (34, .iinc 4 1, 3, 0, 0, 0, m0),
   (37, .goto (-30), 3, 7, 0, 0, m0)]),
  (40, [], false, [(40, .iconst 0, 1, 0, 0, 0, m0),
   (41, .istore 4, 2, 0, 0, 0, m0),
   (43, .nop, 0, 0, 0, 0, m0)]),
  (43, [0, 1, 2, 3, 4], true, [(43, .iload 4, 2, 0, 0, 0, m0),
   (45, .iload_n 2, 1, 0, 0, 0, m0),
   (46, .if_icmp .ge 40, 3, 86, 0, 0, m0),
   (49, .nop, 0, 0, 0, 0, m0)]),
  (49, [], false, [(49, .aload_n 0, 1, 0, 0, 0, m0),
   (50, .aload_n 1, 1, 0, 0, 0, m0),
   (51, .iload 4, 2, 0, 0, 0, m0),
   (53, .iaload, 1, 0, 0, 0, m0),
   (54, .aload_n 1, 1, 0, 0, 0, m0),
   (55, .iload 4, 2, 0, 0, 0, m0),
   (57, .iconst 1, 1, 0, 0, 0, m0),
   (58, .iadd, 1, 0, 0, 0, m0),
   (59, .iload_n 2, 1, 0, 0, 0, m0),
   (60, .irem, 1, 0, 0, 0, m0),
   (61, .iaload, 1, 0, 0, 0, m0),
   (62, .invokevirtual 107, 3, 0, 0, 798, m_Choir_slotOf),
   (65, .istore 5, 2, 0, 0, 0, m0),
   (67, .iload 5, 2, 0, 0, 0, m0),
   (69, .iconst (-1), 1, 0, 0, 0, m0),
   (70, .if_icmp .eq 10, 3, 80, 0, 0, m0),
   (73, .nop, 0, 0, 0, 0, m0)]),
  (73, [], false, [(73, .aload_n 0, 1, 0, 0, 0, m0),
   (74, .iload 5, 2, 0, 0, 0, m0),
   (76, .iload_n 3, 1, 0, 0, 0, m0),
   (77, .invokevirtual 168, 3, 0, 0, 1042, m_Choir_takeOff),
   (80, .nop, 0, 0, 0, 0, m0)]),
  (80, [], false, [(80, .iinc 4 1, 3, 0, 0, 0, m0),
   (83, .goto (-40), 3, 43, 0, 0, m0)]),
  (86, [], false, [(86, .aload_n 0, 1, 0, 0, 0, m0),
   (87, .invokevirtual 171, 3, 0, 0, 1046, m_Choir_settle),
   (90, .iload_n 3, 1, 0, 0, 0, m0),
   (91, .ireturn, 1, 0, 0, 0, m0)])]
theorem ok_Choir_clearRing : okBt m_Choir_clearRing bt_Choir_clearRing = true := by decide +kernel
set_option maxRecDepth 100000 in
theorem b_Choir_clearRing_0 {l : Launch} {E : EnvT} {d : Nat} {K : AV → Mem → Prop} {M : Mem} {r r2 : Nat} {x2 : Int32} (hd : 1 ≤ d)
  (h : G l E d m_Choir_clearRing 7 [(0, (.ref r, 11)), (1, (.ref r2, 34)), (2, (.int x2, 0)), (3, (.int (iN 999), 0)), (4, (.int (iN 0), 0))] [] M K) :
  G l E d m_Choir_clearRing 0 [(0, (.ref r, 11)), (1, (.ref r2, 34)), (2, (.int x2, 0))] [] M K := G.blk 60 _ hd ok_Choir_clearRing rfl h
set_option maxRecDepth 100000 in
theorem b_Choir_clearRing_7 {l : Launch} {E : EnvT} {d : Nat} {K : AV → Mem → Prop} {M : Mem} {r r2 : Nat} {x2 : Int32} {x3 : Int32} {x4 : Int32} (hd : 1 ≤ d)
  (h : ((x2 ≤ x4 →
   G l E d m_Choir_clearRing 43 [(0, (.ref r, 11)), (1, (.ref r2, 34)), (2, (.int x2, 0)), (3, (.int x3, 0)), (4, (.int (iN 0), 0))] [] M K) ∧
  (¬ x2 ≤ x4 →
   (vp_in x4 8 ∧ ¬ x2 = 0 ∧ vp_in (iR (x4 + (iN 1)) x2) 8 ∧ CT l E (d - 1) m_Choir_debtAtNote [(.ref r, 11), (.int (iN (M r2 4 (x4).toNatClampNeg)), 0), (.int (iN (M r2 4 ((iR (x4 + (iN 1)) x2)).toNatClampNeg)), 0)] M (fun v1 M1 =>
    CT l E (d - 1) m_Math_min [(.int x3, 0), (.int (toI v1), 0)] M1 (fun v2 M2 =>
     G l E d m_Choir_clearRing 7 [(0, (.ref r, 11)), (1, (.ref r2, 34)), (2, (.int x2, 0)), (3, (.int (toI v2), 0)), (4, (.int (x4 + iN 1), 0))] [] M2 K)))))) :
  G l E d m_Choir_clearRing 7 [(0, (.ref r, 11)), (1, (.ref r2, 34)), (2, (.int x2, 0)), (3, (.int x3, 0)), (4, (.int x4, 0))] [] M K := G.blk 60 _ hd ok_Choir_clearRing rfl h
set_option maxRecDepth 100000 in
theorem b_Choir_clearRing_43 {l : Launch} {E : EnvT} {d : Nat} {K : AV → Mem → Prop} {M : Mem} {r r2 : Nat} {x2 : Int32} {x3 : Int32} {x4 : Int32} (hd : 1 ≤ d)
  (h : ((x2 ≤ x4 →
   CT l E (d - 1) m_Choir_settle [(.ref r, 11)] M (fun v1 M1 =>
    K (.int x3, 0) M1)) ∧
  (¬ x2 ≤ x4 →
   (vp_in x4 8 ∧ ¬ x2 = 0 ∧ vp_in (iR (x4 + (iN 1)) x2) 8 ∧ CT l E (d - 1) m_Choir_slotOf [(.ref r, 11), (.int (iN (M r2 4 (x4).toNatClampNeg)), 0), (.int (iN (M r2 4 ((iR (x4 + (iN 1)) x2)).toNatClampNeg)), 0)] M (fun v2 M2 =>
    (((toI v2) = (iN (-1)) →
     G l E d m_Choir_clearRing 43 [(0, (.ref r, 11)), (1, (.ref r2, 34)), (2, (.int x2, 0)), (3, (.int x3, 0)), (4, (.int (x4 + iN 1), 0))] [] M2 K) ∧
    (¬ (toI v2) = (iN (-1)) →
     CT l E (d - 1) m_Choir_takeOff [(.ref r, 11), (.int (toI v2), 0), (.int x3, 0)] M2 (fun v3 M3 =>
      G l E d m_Choir_clearRing 43 [(0, (.ref r, 11)), (1, (.ref r2, 34)), (2, (.int x2, 0)), (3, (.int x3, 0)), (4, (.int (x4 + iN 1), 0))] [] M3 K)))))))) :
  G l E d m_Choir_clearRing 43 [(0, (.ref r, 11)), (1, (.ref r2, 34)), (2, (.int x2, 0)), (3, (.int x3, 0)), (4, (.int x4, 0))] [] M K := G.blk 60 _ hd ok_Choir_clearRing rfl h
def bt_Choir_livingAt : BtT := [(0, [0, 1], true, [(0, .iload_n 1, 1, 0, 0, 0, m0),
   (1, .istore_n 2, 1, 0, 0, 0, m0),
   (2, .iconst 0, 1, 0, 0, 0, m0),
   (3, .istore_n 3, 1, 0, 0, 0, m0),
   (4, .nop, 0, 0, 0, 0, m0)]),
  (4, [0, 2, 3], true, [(4, .iload_n 3, 1, 0, 0, 0, m0),
   (5, .aload_n 0, 1, 0, 0, 0, m0),
   (6, .getfield 41, 3, 8, 0, 280, m0),
   (9, .if_icmp .ge 26, 3, 35, 0, 0, m0),
   (12, .nop, 0, 0, 0, 0, m0)]),
  (12, [], false, [(12, .aload_n 0, 1, 0, 0, 0, m0),
   (13, .iload_n 3, 1, 0, 0, 0, m0),
   (14, .invokevirtual 93, 3, 0, 0, 1023, m_Choir_lives),
   (17, .ifCond .eq 12, 3, 29, 0, 0, m0),
   (20, .nop, 0, 0, 0, 0, m0)]),
  (20, [], false, [(20, .iload_n 2, 1, 0, 0, 0, m0),
   (21, .ifCond .ne 5, 3, 26, 0, 0, m0),
   (24, .nop, 0, 0, 0, 0, m0)]),
  (24, [], false, [(24, .iload_n 3, 1, 0, 0, 0, m0),
   (25, .ireturn, 1, 0, 0, 0, m0)]),
  (26, [], false, [(26, .iinc 2 (-1), 3, 0, 0, 0, m0),
   (29, .nop, 0, 0, 0, 0, m0)]),
  (29, [], false, [(29, .iinc 3 1, 3, 0, 0, 0, m0),
   (32, .goto (-28), 3, 4, 0, 0, m0)]),
  (35, [], false, [(35, .iconst (-1), 1, 0, 0, 0, m0),
   (36, .ireturn, 1, 0, 0, 0, m0)])]
theorem ok_Choir_livingAt : okBt m_Choir_livingAt bt_Choir_livingAt = true := by decide +kernel
set_option maxRecDepth 100000 in
theorem b_Choir_livingAt_0 {l : Launch} {E : EnvT} {d : Nat} {K : AV → Mem → Prop} {M : Mem} {r : Nat} {x1 : Int32} (hd : 1 ≤ d)
  (h : G l E d m_Choir_livingAt 4 [(0, (.ref r, 11)), (2, (.int x1, 0)), (3, (.int (iN 0), 0))] [] M K) :
  G l E d m_Choir_livingAt 0 [(0, (.ref r, 11)), (1, (.int x1, 0))] [] M K := G.blk 60 _ hd ok_Choir_livingAt rfl h
set_option maxRecDepth 100000 in
theorem b_Choir_livingAt_4 {l : Launch} {E : EnvT} {d : Nat} {K : AV → Mem → Prop} {M : Mem} {r : Nat} {x2 : Int32} {x3 : Int32} (hd : 1 ≤ d)
  (h : (((iN (M r 0 8)) ≤ x3 →
   K (.int (iN (-1)), 0) M) ∧
  (¬ (iN (M r 0 8)) ≤ x3 →
   CT l E (d - 1) m_Choir_lives [(.ref r, 11), (.int x3, 0)] M (fun v1 M1 =>
    (((toI v1) = 0 →
     G l E d m_Choir_livingAt 4 [(0, (.ref r, 11)), (2, (.int x2, 0)), (3, (.int (x3 + iN 1), 0))] [] M1 K) ∧
    (¬ (toI v1) = 0 →
     ((¬ x2 = 0 →
      G l E d m_Choir_livingAt 4 [(0, (.ref r, 11)), (2, (.int (x2 + iN (-1)), 0)), (3, (.int (x3 + iN 1), 0))] [] M1 K) ∧
     (x2 = 0 →
      K (.int x3, 0) M1)))))))) :
  G l E d m_Choir_livingAt 4 [(0, (.ref r, 11)), (2, (.int x2, 0)), (3, (.int x3, 0))] [] M K := G.blk 60 _ hd ok_Choir_livingAt rfl h
def bt_Choir_takeFrom : BtT := [(0, [0, 1], true, [(0, .aload_n 1, 1, 0, 0, 0, m0),
   (1, .getfield 11, 3, 0, 0, 262, m0),
   (4, .iconst 0, 1, 0, 0, 0, m0),
   (5, .aload_n 0, 1, 0, 0, 0, m0),
   (6, .getfield 11, 3, 0, 0, 262, m0),
   (9, .iconst 0, 1, 0, 0, 0, m0),
   (10, .bipush 8, 2, 0, 0, 0, m0),
   (12, .invokestatic 75, 3, 0, 0, 1409, m_copy),
   (15, .aload_n 1, 1, 0, 0, 0, m0),
   (16, .getfield 15, 3, 1, 0, 263, m0),
   (19, .iconst 0, 1, 0, 0, 0, m0),
   (20, .aload_n 0, 1, 0, 0, 0, m0),
   (21, .getfield 15, 3, 1, 0, 263, m0),
   (24, .iconst 0, 1, 0, 0, 0, m0),
   (25, .bipush 8, 2, 0, 0, 0, m0),
   (27, .invokestatic 75, 3, 0, 0, 1409, m_copy),
   (30, .aload_n 1, 1, 0, 0, 0, m0),
   (31, .getfield 19, 3, 2, 0, 266, m0),
   (34, .iconst 0, 1, 0, 0, 0, m0),
   (35, .aload_n 0, 1, 0, 0, 0, m0),
   (36, .getfield 19, 3, 2, 0, 266, m0),
   (39, .iconst 0, 1, 0, 0, 0, m0),
   (40, .bipush 8, 2, 0, 0, 0, m0),
   (42, .invokestatic 75, 3, 0, 0, 1409, m_copy),
   (45, .aload_n 1, 1, 0, 0, 0, m0),
   (46, .getfield 22, 3, 3, 0, 269, m0),
   (49, .iconst 0, 1, 0, 0, 0, m0),
   (50, .aload_n 0, 1, 0, 0, 0, m0),
   (51, .getfield 22, 3, 3, 0, 269, m0),
   (54, .iconst 0, 1, 0, 0, 0, m0),
   (55, .bipush 8, 2, 0, 0, 0, m0),
   (57, .invokestatic 75, 3, 0, 0, 1409, m_copy),
   (60, .nop, 0, 0, 0, 0, m0)]),
  (60, [0, 1], true, [(60, .aload_n 1, 1, 0, 0, 0, m0),
   (61, .getfield 25, 3, 4, 0, 272, m0),
   (64, .iconst 0, 1, 0, 0, 0, m0),
   (65, .aload_n 0, 1, 0, 0, 0, m0),
   (66, .getfield 25, 3, 4, 0, 272, m0),
   (69, .iconst 0, 1, 0, 0, 0, m0),
   (70, .bipush 48, 2, 0, 0, 0, m0),
   (72, .invokestatic 75, 3, 0, 0, 1409, m_copy),
   (75, .aload_n 1, 1, 0, 0, 0, m0),
   (76, .getfield 28, 3, 5, 0, 274, m0),
   (79, .iconst 0, 1, 0, 0, 0, m0),
   (80, .aload_n 0, 1, 0, 0, 0, m0),
   (81, .getfield 28, 3, 5, 0, 274, m0),
   (84, .iconst 0, 1, 0, 0, 0, m0),
   (85, .bipush 48, 2, 0, 0, 0, m0),
   (87, .invokestatic 75, 3, 0, 0, 1409, m_copy),
   (90, .aload_n 1, 1, 0, 0, 0, m0),
   (91, .getfield 31, 3, 6, 0, 276, m0),
   (94, .iconst 0, 1, 0, 0, 0, m0),
   (95, .aload_n 0, 1, 0, 0, 0, m0),
   (96, .getfield 31, 3, 6, 0, 276, m0),
   (99, .iconst 0, 1, 0, 0, 0, m0),
   (100, .bipush 48, 2, 0, 0, 0, m0),
   (102, .invokestatic 75, 3, 0, 0, 1409, m_copy),
   (105, .aload_n 0, 1, 0, 0, 0, m0),
   (106, .getfield 37, 3, 7, 0, 278, m0),
   (109, .aload_n 1, 1, 0, 0, 0, m0),
   (110, .getfield 37, 3, 7, 0, 278, m0),
   (113, .invokevirtual 81, 3, 0, 0, 1410, m_Waiting_takeFrom),
   (116, .aload_n 0, 1, 0, 0, 0, m0),
   (117, .aload_n 1, 1, 0, 0, 0, m0),
   (118, .getfield 41, 3, 8, 0, 280, m0),
   (121, .putfield 41, 3, 8, 0, 280, m0),
   (124, .nop, 0, 0, 0, 0, m0)]),
  (124, [0, 1], true, [(124, .aload_n 0, 1, 0, 0, 0, m0),
   (125, .aload_n 1, 1, 0, 0, 0, m0),
   (126, .getfield 45, 3, 9, 0, 284, m0),
   (129, .putfield 45, 3, 9, 0, 284, m0),
   (132, .aload_n 0, 1, 0, 0, 0, m0),
   (133, .aload_n 1, 1, 0, 0, 0, m0),
   (134, .getfield 48, 3, 10, 0, 287, m0),
   (137, .putfield 48, 3, 10, 0, 287, m0),
   (140, .aload_n 0, 1, 0, 0, 0, m0),
   (141, .aload_n 1, 1, 0, 0, 0, m0),
   (142, .getfield 51, 3, 11, 0, 290, m0),
   (145, .putfield 51, 3, 11, 0, 290, m0),
   (148, .aload_n 0, 1, 0, 0, 0, m0),
   (149, .aload_n 1, 1, 0, 0, 0, m0),
   (150, .getfield 54, 3, 12, 0, 293, m0),
   (153, .putfield 54, 3, 12, 0, 293, m0),
   (156, .aload_n 0, 1, 0, 0, 0, m0),
   (157, .aload_n 1, 1, 0, 0, 0, m0),
   (158, .getfield 57, 3, 13, 0, 296, m0),
   (161, .putfield 57, 3, 13, 0, 296, m0),
   (164, .aload_n 0, 1, 0, 0, 0, m0),
   (165, .aload_n 1, 1, 0, 0, 0, m0),
   (166, .getfield 60, 3, 14, 0, 299, m0),
   (169, .putfield 60, 3, 14, 0, 299, m0),
   (172, .aload_n 0, 1, 0, 0, 0, m0),
   (173, .aload_n 1, 1, 0, 0, 0, m0),
   (174, .getfield 63, 3, 15, 0, 301, m0),
   (177, .putfield 63, 3, 15, 0, 301, m0),
   (180, .return_, 1, 0, 0, 0, m0)])]
theorem ok_Choir_takeFrom : okBt m_Choir_takeFrom bt_Choir_takeFrom = true := by decide +kernel
set_option maxRecDepth 100000 in
theorem b_Choir_takeFrom_0 {l : Launch} {E : EnvT} {d : Nat} {K : AV → Mem → Prop} {M : Mem} {r r2 : Nat}  (hd : 1 ≤ d)
  (h : (¬ (iN 0) < 0 ∧ ¬ (iN 0) < 0 ∧ ¬ (iN 8) < 0 ∧ ((iN 0)).toNatClampNeg + ((iN 8)).toNatClampNeg ≤ 8 ∧ ((iN 0)).toNatClampNeg + ((iN 8)).toNatClampNeg ≤ 8 ∧ ¬ (iN 0) < 0 ∧ ¬ (iN 0) < 0 ∧ ¬ (iN 8) < 0 ∧ ((iN 0)).toNatClampNeg + ((iN 8)).toNatClampNeg ≤ 8 ∧ ((iN 0)).toNatClampNeg + ((iN 8)).toNatClampNeg ≤ 8 ∧ ¬ (iN 0) < 0 ∧ ¬ (iN 0) < 0 ∧ ¬ (iN 8) < 0 ∧ ((iN 0)).toNatClampNeg + ((iN 8)).toNatClampNeg ≤ 8 ∧ ((iN 0)).toNatClampNeg + ((iN 8)).toNatClampNeg ≤ 8 ∧ ¬ (iN 0) < 0 ∧ ¬ (iN 0) < 0 ∧ ¬ (iN 8) < 0 ∧ ((iN 0)).toNatClampNeg + ((iN 8)).toNatClampNeg ≤ 8 ∧ ((iN 0)).toNatClampNeg + ((iN 8)).toNatClampNeg ≤ 8 ∧ G l E d m_Choir_takeFrom 60 [(0, (.ref r, 11)), (1, (.ref r2, 11))] [] (cpyM (cpyM (cpyM (cpyM M r2 1 r 1 ((iN 0)).toNatClampNeg ((iN 0)).toNatClampNeg ((iN 8)).toNatClampNeg) r2 2 r 2 ((iN 0)).toNatClampNeg ((iN 0)).toNatClampNeg ((iN 8)).toNatClampNeg) r2 3 r 3 ((iN 0)).toNatClampNeg ((iN 0)).toNatClampNeg ((iN 8)).toNatClampNeg) r2 4 r 4 ((iN 0)).toNatClampNeg ((iN 0)).toNatClampNeg ((iN 8)).toNatClampNeg) K)) :
  G l E d m_Choir_takeFrom 0 [(0, (.ref r, 11)), (1, (.ref r2, 11))] [] M K := G.blk 60 _ hd ok_Choir_takeFrom rfl h
set_option maxRecDepth 100000 in
theorem b_Choir_takeFrom_60 {l : Launch} {E : EnvT} {d : Nat} {K : AV → Mem → Prop} {M : Mem} {r r2 : Nat}  (hd : 1 ≤ d)
  (h : (¬ (iN 0) < 0 ∧ ¬ (iN 0) < 0 ∧ ¬ (iN 48) < 0 ∧ ((iN 0)).toNatClampNeg + ((iN 48)).toNatClampNeg ≤ 48 ∧ ((iN 0)).toNatClampNeg + ((iN 48)).toNatClampNeg ≤ 48 ∧ ¬ (iN 0) < 0 ∧ ¬ (iN 0) < 0 ∧ ¬ (iN 48) < 0 ∧ ((iN 0)).toNatClampNeg + ((iN 48)).toNatClampNeg ≤ 48 ∧ ((iN 0)).toNatClampNeg + ((iN 48)).toNatClampNeg ≤ 48 ∧ ¬ (iN 0) < 0 ∧ ¬ (iN 0) < 0 ∧ ¬ (iN 48) < 0 ∧ ((iN 0)).toNatClampNeg + ((iN 48)).toNatClampNeg ≤ 48 ∧ ((iN 0)).toNatClampNeg + ((iN 48)).toNatClampNeg ≤ 48 ∧ CT l E (d - 1) m_Waiting_takeFrom [(.ref r, 19), (.ref r2, 19)] (cpyM (cpyM (cpyM M r2 5 r 5 ((iN 0)).toNatClampNeg ((iN 0)).toNatClampNeg ((iN 48)).toNatClampNeg) r2 6 r 6 ((iN 0)).toNatClampNeg ((iN 0)).toNatClampNeg ((iN 48)).toNatClampNeg) r2 7 r 7 ((iN 0)).toNatClampNeg ((iN 0)).toNatClampNeg ((iN 48)).toNatClampNeg) (fun v1 M1 =>
   G l E d m_Choir_takeFrom 124 [(0, (.ref r, 11)), (1, (.ref r2, 11))] [] (upd3 M1 r 0 8 ((iN (M1 r2 0 8))).toInt) K))) :
  G l E d m_Choir_takeFrom 60 [(0, (.ref r, 11)), (1, (.ref r2, 11))] [] M K := G.blk 60 _ hd ok_Choir_takeFrom rfl h
set_option maxRecDepth 100000 in
theorem b_Choir_takeFrom_124 {l : Launch} {E : EnvT} {d : Nat} {K : AV → Mem → Prop} {M : Mem} {r r2 : Nat}  (hd : 1 ≤ d)
  (h : K (.null, 0) (upd3 (upd3 (upd3 (upd3 (upd3 (upd3 (upd3 M r 0 9 ((iN (M r2 0 9))).toInt) r 0 10 ((iN ((upd3 M r 0 9 ((iN (M r2 0 9))).toInt) r2 0 10))).toInt) r 0 11 ((iN ((upd3 (upd3 M r 0 9 ((iN (M r2 0 9))).toInt) r 0 10 ((iN ((upd3 M r 0 9 ((iN (M r2 0 9))).toInt) r2 0 10))).toInt) r2 0 11))).toInt) r 0 12 ((iN ((upd3 (upd3 (upd3 M r 0 9 ((iN (M r2 0 9))).toInt) r 0 10 ((iN ((upd3 M r 0 9 ((iN (M r2 0 9))).toInt) r2 0 10))).toInt) r 0 11 ((iN ((upd3 (upd3 M r 0 9 ((iN (M r2 0 9))).toInt) r 0 10 ((iN ((upd3 M r 0 9 ((iN (M r2 0 9))).toInt) r2 0 10))).toInt) r2 0 11))).toInt) r2 0 12))).toInt) r 0 13 ((iN ((upd3 (upd3 (upd3 (upd3 M r 0 9 ((iN (M r2 0 9))).toInt) r 0 10 ((iN ((upd3 M r 0 9 ((iN (M r2 0 9))).toInt) r2 0 10))).toInt) r 0 11 ((iN ((upd3 (upd3 M r 0 9 ((iN (M r2 0 9))).toInt) r 0 10 ((iN ((upd3 M r 0 9 ((iN (M r2 0 9))).toInt) r2 0 10))).toInt) r2 0 11))).toInt) r 0 12 ((iN ((upd3 (upd3 (upd3 M r 0 9 ((iN (M r2 0 9))).toInt) r 0 10 ((iN ((upd3 M r 0 9 ((iN (M r2 0 9))).toInt) r2 0 10))).toInt) r 0 11 ((iN ((upd3 (upd3 M r 0 9 ((iN (M r2 0 9))).toInt) r 0 10 ((iN ((upd3 M r 0 9 ((iN (M r2 0 9))).toInt) r2 0 10))).toInt) r2 0 11))).toInt) r2 0 12))).toInt) r2 0 13))).toInt) r 0 14 ((iN ((upd3 (upd3 (upd3 (upd3 (upd3 M r 0 9 ((iN (M r2 0 9))).toInt) r 0 10 ((iN ((upd3 M r 0 9 ((iN (M r2 0 9))).toInt) r2 0 10))).toInt) r 0 11 ((iN ((upd3 (upd3 M r 0 9 ((iN (M r2 0 9))).toInt) r 0 10 ((iN ((upd3 M r 0 9 ((iN (M r2 0 9))).toInt) r2 0 10))).toInt) r2 0 11))).toInt) r 0 12 ((iN ((upd3 (upd3 (upd3 M r 0 9 ((iN (M r2 0 9))).toInt) r 0 10 ((iN ((upd3 M r 0 9 ((iN (M r2 0 9))).toInt) r2 0 10))).toInt) r 0 11 ((iN ((upd3 (upd3 M r 0 9 ((iN (M r2 0 9))).toInt) r 0 10 ((iN ((upd3 M r 0 9 ((iN (M r2 0 9))).toInt) r2 0 10))).toInt) r2 0 11))).toInt) r2 0 12))).toInt) r 0 13 ((iN ((upd3 (upd3 (upd3 (upd3 M r 0 9 ((iN (M r2 0 9))).toInt) r 0 10 ((iN ((upd3 M r 0 9 ((iN (M r2 0 9))).toInt) r2 0 10))).toInt) r 0 11 ((iN ((upd3 (upd3 M r 0 9 ((iN (M r2 0 9))).toInt) r 0 10 ((iN ((upd3 M r 0 9 ((iN (M r2 0 9))).toInt) r2 0 10))).toInt) r2 0 11))).toInt) r 0 12 ((iN ((upd3 (upd3 (upd3 M r 0 9 ((iN (M r2 0 9))).toInt) r 0 10 ((iN ((upd3 M r 0 9 ((iN (M r2 0 9))).toInt) r2 0 10))).toInt) r 0 11 ((iN ((upd3 (upd3 M r 0 9 ((iN (M r2 0 9))).toInt) r 0 10 ((iN ((upd3 M r 0 9 ((iN (M r2 0 9))).toInt) r2 0 10))).toInt) r2 0 11))).toInt) r2 0 12))).toInt) r2 0 13))).toInt) r2 0 14))).toInt) r 0 15 ((iN ((upd3 (upd3 (upd3 (upd3 (upd3 (upd3 M r 0 9 ((iN (M r2 0 9))).toInt) r 0 10 ((iN ((upd3 M r 0 9 ((iN (M r2 0 9))).toInt) r2 0 10))).toInt) r 0 11 ((iN ((upd3 (upd3 M r 0 9 ((iN (M r2 0 9))).toInt) r 0 10 ((iN ((upd3 M r 0 9 ((iN (M r2 0 9))).toInt) r2 0 10))).toInt) r2 0 11))).toInt) r 0 12 ((iN ((upd3 (upd3 (upd3 M r 0 9 ((iN (M r2 0 9))).toInt) r 0 10 ((iN ((upd3 M r 0 9 ((iN (M r2 0 9))).toInt) r2 0 10))).toInt) r 0 11 ((iN ((upd3 (upd3 M r 0 9 ((iN (M r2 0 9))).toInt) r 0 10 ((iN ((upd3 M r 0 9 ((iN (M r2 0 9))).toInt) r2 0 10))).toInt) r2 0 11))).toInt) r2 0 12))).toInt) r 0 13 ((iN ((upd3 (upd3 (upd3 (upd3 M r 0 9 ((iN (M r2 0 9))).toInt) r 0 10 ((iN ((upd3 M r 0 9 ((iN (M r2 0 9))).toInt) r2 0 10))).toInt) r 0 11 ((iN ((upd3 (upd3 M r 0 9 ((iN (M r2 0 9))).toInt) r 0 10 ((iN ((upd3 M r 0 9 ((iN (M r2 0 9))).toInt) r2 0 10))).toInt) r2 0 11))).toInt) r 0 12 ((iN ((upd3 (upd3 (upd3 M r 0 9 ((iN (M r2 0 9))).toInt) r 0 10 ((iN ((upd3 M r 0 9 ((iN (M r2 0 9))).toInt) r2 0 10))).toInt) r 0 11 ((iN ((upd3 (upd3 M r 0 9 ((iN (M r2 0 9))).toInt) r 0 10 ((iN ((upd3 M r 0 9 ((iN (M r2 0 9))).toInt) r2 0 10))).toInt) r2 0 11))).toInt) r2 0 12))).toInt) r2 0 13))).toInt) r 0 14 ((iN ((upd3 (upd3 (upd3 (upd3 (upd3 M r 0 9 ((iN (M r2 0 9))).toInt) r 0 10 ((iN ((upd3 M r 0 9 ((iN (M r2 0 9))).toInt) r2 0 10))).toInt) r 0 11 ((iN ((upd3 (upd3 M r 0 9 ((iN (M r2 0 9))).toInt) r 0 10 ((iN ((upd3 M r 0 9 ((iN (M r2 0 9))).toInt) r2 0 10))).toInt) r2 0 11))).toInt) r 0 12 ((iN ((upd3 (upd3 (upd3 M r 0 9 ((iN (M r2 0 9))).toInt) r 0 10 ((iN ((upd3 M r 0 9 ((iN (M r2 0 9))).toInt) r2 0 10))).toInt) r 0 11 ((iN ((upd3 (upd3 M r 0 9 ((iN (M r2 0 9))).toInt) r 0 10 ((iN ((upd3 M r 0 9 ((iN (M r2 0 9))).toInt) r2 0 10))).toInt) r2 0 11))).toInt) r2 0 12))).toInt) r 0 13 ((iN ((upd3 (upd3 (upd3 (upd3 M r 0 9 ((iN (M r2 0 9))).toInt) r 0 10 ((iN ((upd3 M r 0 9 ((iN (M r2 0 9))).toInt) r2 0 10))).toInt) r 0 11 ((iN ((upd3 (upd3 M r 0 9 ((iN (M r2 0 9))).toInt) r 0 10 ((iN ((upd3 M r 0 9 ((iN (M r2 0 9))).toInt) r2 0 10))).toInt) r2 0 11))).toInt) r 0 12 ((iN ((upd3 (upd3 (upd3 M r 0 9 ((iN (M r2 0 9))).toInt) r 0 10 ((iN ((upd3 M r 0 9 ((iN (M r2 0 9))).toInt) r2 0 10))).toInt) r 0 11 ((iN ((upd3 (upd3 M r 0 9 ((iN (M r2 0 9))).toInt) r 0 10 ((iN ((upd3 M r 0 9 ((iN (M r2 0 9))).toInt) r2 0 10))).toInt) r2 0 11))).toInt) r2 0 12))).toInt) r2 0 13))).toInt) r2 0 14))).toInt) r2 0 15))).toInt)) :
  G l E d m_Choir_takeFrom 124 [(0, (.ref r, 11)), (1, (.ref r2, 11))] [] M K := G.blk 60 _ hd ok_Choir_takeFrom rfl h
