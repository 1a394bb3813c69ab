def bt_Tokens_kindOf : BtT := [(0, [0], true, [(0, .iload_n 0, 1, 0, 0, 0, m0),
   (1, .bipush 97, 2, 0, 0, 0, m0),
   (3, .if_icmp .lt 11, 3, 14, 0, 0, m0),
   (6, .nop, 0, 0, 0, 0, m0)]),
  (6, [], false, [(6, .iload_n 0, 1, 0, 0, 0, m0),
   (7, .bipush 122, 2, 0, 0, 0, m0),
   (9, .if_icmp .gt 5, 3, 14, 0, 0, m0),
   (12, .nop, 0, 0, 0, 0, m0)]),
  (12, [], false, [(12, .iconst 1, 1, 0, 0, 0, m0),
   (13, .ireturn, 1, 0, 0, 0, m0)]),
  (14, [], false, [(14, .iload_n 0, 1, 0, 0, 0, m0),
   (15, .bipush 48, 2, 0, 0, 0, m0),
   (17, .if_icmp .lt 11, 3, 28, 0, 0, m0),
   (20, .nop, 0, 0, 0, 0, m0)]),
  (20, [], false, [(20, .iload_n 0, 1, 0, 0, 0, m0),
   (21, .bipush 57, 2, 0, 0, 0, m0),
   (23, .if_icmp .gt 5, 3, 28, 0, 0, m0),
   (26, .nop, 0, 0, 0, 0, m0)]),
  (26, [], false, [(26, .iconst 2, 1, 0, 0, 0, m0),
   (27, .ireturn, 1, 0, 0, 0, m0)]),
  (28, [], false, [(28, .iload_n 0, 1, 0, 0, 0, m0),
   (29, .bipush 59, 2, 0, 0, 0, m0),
   (31, .if_icmp .eq 21, 3, 52, 0, 0, m0),
   (34, .nop, 0, 0, 0, 0, m0)]),
  (34, [], false, [(34, .iload_n 0, 1, 0, 0, 0, m0),
   (35, .bipush 60, 2, 0, 0, 0, m0),
   (37, .if_icmp .eq 15, 3, 52, 0, 0, m0),
   (40, .nop, 0, 0, 0, 0, m0)]),
  (40, [], false, [(40, .iload_n 0, 1, 0, 0, 0, m0),
   (41, .bipush 62, 2, 0, 0, 0, m0),
   (43, .if_icmp .eq 9, 3, 52, 0, 0, m0),
   (46, .nop, 0, 0, 0, 0, m0)]),
  (46, [], false, [(46, .iload_n 0, 1, 0, 0, 0, m0),
   (47, .bipush 61, 2, 0, 0, 0, m0),
   (49, .if_icmp .ne 7, 3, 56, 0, 0, m0),
   (52, .nop, 0, 0, 0, 0, m0)]),
  (52, [], false, [(52, .iconst 3, 1, 0, 0, 0, m0),
   (53, .goto 4, 3, 57, 0, 0, m0)]),
  (56, [], false, [(56, .iconst 4, 1, 0, 0, 0, m0),
   (57, .nop, 0, 0, 0, 0, m0)]),
  (57, [], false, [(57, .ireturn, 1, 0, 0, 0, m0)])]
theorem ok_Tokens_kindOf : okBt m_Tokens_kindOf bt_Tokens_kindOf = true := by decide +kernel
set_option maxRecDepth 100000 in
theorem b_Tokens_kindOf_0 {l : Launch} {E : EnvT} {d : Nat} {K : AV → Mem → Prop} {M : Mem} {x0 : Int32} (hd : 1 ≤ d)
  (h : ((x0 < (iN 97) →
   ((x0 < (iN 48) →
    ((x0 = (iN 59) →
     K (.int (iN 3), 0) M) ∧
    (¬ x0 = (iN 59) →
     ((x0 = (iN 60) →
      K (.int (iN 3), 0) M) ∧
     (¬ x0 = (iN 60) →
      ((x0 = (iN 62) →
       K (.int (iN 3), 0) M) ∧
      (¬ x0 = (iN 62) →
       ((¬ x0 = (iN 61) →
        K (.int (iN 4), 0) M) ∧
       (x0 = (iN 61) →
        K (.int (iN 3), 0) M))))))))) ∧
   (¬ x0 < (iN 48) →
    (((iN 57) < x0 →
     ((x0 = (iN 59) →
      K (.int (iN 3), 0) M) ∧
     (¬ x0 = (iN 59) →
      ((x0 = (iN 60) →
       K (.int (iN 3), 0) M) ∧
      (¬ x0 = (iN 60) →
       ((x0 = (iN 62) →
        K (.int (iN 3), 0) M) ∧
       (¬ x0 = (iN 62) →
        ((¬ x0 = (iN 61) →
         K (.int (iN 4), 0) M) ∧
        (x0 = (iN 61) →
         K (.int (iN 3), 0) M))))))))) ∧
    (¬ (iN 57) < x0 →
     K (.int (iN 2), 0) M))))) ∧
  (¬ x0 < (iN 97) →
   (((iN 122) < x0 →
    ((x0 < (iN 48) →
     ((x0 = (iN 59) →
      K (.int (iN 3), 0) M) ∧
     (¬ x0 = (iN 59) →
      ((x0 = (iN 60) →
       K (.int (iN 3), 0) M) ∧
      (¬ x0 = (iN 60) →
       ((x0 = (iN 62) →
        K (.int (iN 3), 0) M) ∧
       (¬ x0 = (iN 62) →
        ((¬ x0 = (iN 61) →
         K (.int (iN 4), 0) M) ∧
        (x0 = (iN 61) →
         K (.int (iN 3), 0) M))))))))) ∧
    (¬ x0 < (iN 48) →
     (((iN 57) < x0 →
      ((x0 = (iN 59) →
       K (.int (iN 3), 0) M) ∧
      (¬ x0 = (iN 59) →
       ((x0 = (iN 60) →
        K (.int (iN 3), 0) M) ∧
       (¬ x0 = (iN 60) →
        ((x0 = (iN 62) →
         K (.int (iN 3), 0) M) ∧
        (¬ x0 = (iN 62) →
         ((¬ x0 = (iN 61) →
          K (.int (iN 4), 0) M) ∧
         (x0 = (iN 61) →
          K (.int (iN 3), 0) M))))))))) ∧
     (¬ (iN 57) < x0 →
      K (.int (iN 2), 0) M))))) ∧
   (¬ (iN 122) < x0 →
    K (.int (iN 1), 0) M))))) :
  G l E d m_Tokens_kindOf 0 [(0, (.int x0, 0))] [] M K := G.blk 60 _ hd ok_Tokens_kindOf rfl h
def bt_Tokens_readWord : BtT := [(0, [0], true, [(0, .aload_n 0, 1, 0, 0, 0, m0),
   (1, .lconst 0, 1, 0, 0, 0, m0),
   (2, .putfield 40, 3, 9, 5, 163, m0),
   (5, .aload_n 0, 1, 0, 0, 0, m0),
   (6, .iconst 0, 1, 0, 0, 0, m0),
   (7, .putfield 34, 3, 7, 5, 159, m0),
   (10, .nop, 0, 0, 0, 0, m0)]),
  (10, [0], true, [(10, .aload_n 0, 1, 0, 0, 0, m0),
   (11, .getfield 19, 3, 2, 5, 148, m0),
   (14, .aload_n 0, 1, 0, 0, 0, m0),
   (15, .getfield 15, 3, 1, 5, 147, m0),
   (18, .if_icmp .ge 90, 3, 108, 0, 0, m0),
   (21, .nop, 0, 0, 0, 0, m0)]),
  (21, [], false, [(21, .aload_n 0, 1, 0, 0, 0, m0),
   (22, .getfield 9, 3, 0, 5, 146, m0),
   (25, .aload_n 0, 1, 0, 0, 0, m0),
   (26, .getfield 19, 3, 2, 5, 148, m0),
   (29, .baload, 1, 0, 0, 0, m0),
   (30, .bipush 97, 2, 0, 0, 0, m0),
   (32, .if_icmp .lt 76, 3, 108, 0, 0, m0),
   (35, .nop, 0, 0, 0, 0, m0)]),
  (35, [], false, [(35, .aload_n 0, 1, 0, 0, 0, m0),
   (36, .getfield 9, 3, 0, 5, 146, m0),
   (39, .aload_n 0, 1, 0, 0, 0, m0),
   (40, .getfield 19, 3, 2, 5, 148, m0),
   (43, .baload, 1, 0, 0, 0, m0),
   (44, .bipush 122, 2, 0, 0, 0, m0),
   (46, .if_icmp .gt 62, 3, 108, 0, 0, m0),
   (49, .nop, 0, 0, 0, 0, m0)]),
  (49, [], false, [(49, .aload_n 0, 1, 0, 0, 0, m0),
   (50, .getfield 34, 3, 7, 5, 159, m0),
   (53, .bipush 8, 2, 0, 0, 0, m0),
   (55, .if_icmp .ge 30, 3, 85, 0, 0, m0),
   (58, .nop, 0, 0, 0, 0, m0)]),
  (58, [], false, [(58, .aload_n 0, 1, 0, 0, 0, m0),
   (59, .aload_n 0, 1, 0, 0, 0, m0),
   (60, .getfield 40, 3, 9, 5, 163, m0),
   (63, .ldc2_w 70, 3, 1, 27, 664, m0),
   (66, .lmul, 1, 0, 0, 0, m0),
   (67, .aload_n 0, 1, 0, 0, 0, m0),
   (68, .getfield 9, 3, 0, 5, 146, m0),
   (71, .aload_n 0, 1, 0, 0, 0, m0),
   (72, .getfield 19, 3, 2, 5, 148, m0),
   (75, .baload, 1, 0, 0, 0, m0),
   (76, .i2l, 1, 0, 0, 0, m0),
   (77, .ladd, 1, 0, 0, 0, m0),
   (78, .ldc2_w 72, 3, 1, 96, 665, m0),
   (81, .lsub, 1, 0, 0, 0, m0),
   (82, .putfield 40, 3, 9, 5, 163, m0),
   (85, .nop, 0, 0, 0, 0, m0)]),
  (85, [], false, [(85, .aload_n 0, 1, 0, 0, 0, m0),
   (86, .dup, 1, 0, 0, 0, m0),
   (87, .getfield 34, 3, 7, 5, 159, m0),
   (90, .iconst 1, 1, 0, 0, 0, m0),
   (91, .iadd, 1, 0, 0, 0, m0),
   (92, .putfield 34, 3, 7, 5, 159, m0),
   (95, .aload_n 0, 1, 0, 0, 0, m0),
   (96, .dup, 1, 0, 0, 0, m0),
   (97, .getfield 19, 3, 2, 5, 148, m0),
   (100, .iconst 1, 1, 0, 0, 0, m0),
   (101, .iadd, 1, 0, 0, 0, m0),
   (102, .putfield 19, 3, 2, 5, 148, m0),
   (105, .goto (-95), 3, 10, 0, 0, m0)]),
  (108, [], false, [(108, .return_, 1, 0, 0, 0, m0)])]
theorem ok_Tokens_readWord : okBt m_Tokens_readWord bt_Tokens_readWord = true := by decide +kernel
set_option maxRecDepth 100000 in
theorem b_Tokens_readWord_0 {l : Launch} {E : EnvT} {d : Nat} {K : AV → Mem → Prop} {M : Mem} {r : Nat}  (hd : 1 ≤ d)
  (h : G l E d m_Tokens_readWord 10 [(0, (.ref r, 4))] [] (upd3 (upd3 M r 0 9 ((lI 0)).toInt) r 0 7 ((iN 0)).toInt) K) :
  G l E d m_Tokens_readWord 0 [(0, (.ref r, 4))] [] M K := G.blk 60 _ hd ok_Tokens_readWord rfl h
set_option maxRecDepth 100000 in
theorem b_Tokens_readWord_10 {l : Launch} {E : EnvT} {d : Nat} {K : AV → Mem → Prop} {M : Mem} {r : Nat}  (hd : 1 ≤ d)
  (h : (((iN (M r 0 1)) ≤ (iN (M r 0 2)) →
   K (.null, 0) M) ∧
  (¬ (iN (M r 0 1)) ≤ (iN (M r 0 2)) →
   (((M r 0 0).toNat, 2) ∈ CL ∧ vp_in (iN (M r 0 2)) 900 ∧ (((iN (M (M r 0 0).toNat 2 ((iN (M r 0 2))).toNatClampNeg)) < (iN 97) →
    K (.null, 0) M) ∧
   (¬ (iN (M (M r 0 0).toNat 2 ((iN (M r 0 2))).toNatClampNeg)) < (iN 97) →
    (((M r 0 0).toNat, 2) ∈ CL ∧ vp_in (iN (M r 0 2)) 900 ∧ (((iN 122) < (iN (M (M r 0 0).toNat 2 ((iN (M r 0 2))).toNatClampNeg)) →
     K (.null, 0) M) ∧
    (¬ (iN 122) < (iN (M (M r 0 0).toNat 2 ((iN (M r 0 2))).toNatClampNeg)) →
     (((iN 8) ≤ (iN (M r 0 7)) →
      G l E d m_Tokens_readWord 10 [(0, (.ref r, 4))] [] (upd3 (upd3 M r 0 7 (((iN (M r 0 7)) + (iN 1))).toInt) r 0 2 (((iN ((upd3 M r 0 7 (((iN (M r 0 7)) + (iN 1))).toInt) r 0 2)) + (iN 1))).toInt) K) ∧
     (¬ (iN 8) ≤ (iN (M r 0 7)) →
      (((M r 0 0).toNat, 2) ∈ CL ∧ vp_in (iN (M r 0 2)) 900 ∧ G l E d m_Tokens_readWord 10 [(0, (.ref r, 4))] [] (upd3 (upd3 (upd3 M r 0 9 (((((lI (M r 0 9)) * (lI 27)) + ((iN (M (M r 0 0).toNat 2 ((iN (M r 0 2))).toNatClampNeg))).toInt64) - (lI 96))).toInt) r 0 7 (((iN ((upd3 M r 0 9 (((((lI (M r 0 9)) * (lI 27)) + ((iN (M (M r 0 0).toNat 2 ((iN (M r 0 2))).toNatClampNeg))).toInt64) - (lI 96))).toInt) r 0 7)) + (iN 1))).toInt) r 0 2 (((iN ((upd3 (upd3 M r 0 9 (((((lI (M r 0 9)) * (lI 27)) + ((iN (M (M r 0 0).toNat 2 ((iN (M r 0 2))).toNatClampNeg))).toInt64) - (lI 96))).toInt) r 0 7 (((iN ((upd3 M r 0 9 (((((lI (M r 0 9)) * (lI 27)) + ((iN (M (M r 0 0).toNat 2 ((iN (M r 0 2))).toNatClampNeg))).toInt64) - (lI 96))).toInt) r 0 7)) + (iN 1))).toInt) r 0 2)) + (iN 1))).toInt) K)))))))))))) :
  G l E d m_Tokens_readWord 10 [(0, (.ref r, 4))] [] M K := G.blk 60 _ hd ok_Tokens_readWord rfl h
def bt_Tokens_keywordOf : BtT := [(0, [0], true, [(0, .iconst 0, 1, 0, 0, 0, m0),
   (1, .istore_n 2, 1, 0, 0, 0, m0),
   (2, .lconst 0, 1, 0, 0, 0, m0),
   (3, .lstore_n 3, 1, 0, 0, 0, m0),
   (4, .iconst 0, 1, 0, 0, 0, m0),
   (5, .istore 5, 2, 0, 0, 0, m0),
   (7, .nop, 0, 0, 0, 0, m0)]),
  (7, [0, 2, 3, 5], true, [(7, .iload 5, 2, 0, 0, 0, m0),
   (9, .ldc 74, 2, 2, 0, 0, m0),
   (11, .invokevirtual 76, 3, 0, 0, 670, m_Str_length),
   (14, .if_icmp .ge 55, 3, 69, 0, 0, m0),
   (17, .nop, 0, 0, 0, 0, m0)]),
  (17, [], false, [(17, .ldc 74, 2, 2, 0, 0, m0),
   (19, .iload 5, 2, 0, 0, 0, m0),
   (21, .invokevirtual 81, 3, 0, 0, 680, m_Str_charAt),
   (24, .istore 6, 2, 0, 0, 0, m0),
   (26, .iload 6, 2, 0, 0, 0, m0),
   (28, .bipush 32, 2, 0, 0, 0, m0),
   (30, .if_icmp .eq 20, 3, 50, 0, 0, m0),
   (33, .nop, 0, 0, 0, 0, m0)]),
  (33, [], false, [(33, .lload_n 3, 1, 0, 0, 0, m0),
   (34, .ldc2_w 70, 3, 1, 27, 664, m0),
   (37, .lmul, 1, 0, 0, 0, m0),
   (38, .iload 6, 2, 0, 0, 0, m0),
   (40, .i2l, 1, 0, 0, 0, m0),
   (41, .ladd, 1, 0, 0, 0, m0),
   (42, .ldc2_w 72, 3, 1, 96, 665, m0),
   (45, .lsub, 1, 0, 0, 0, m0),
   (46, .lstore_n 3, 1, 0, 0, 0, m0),
   (47, .goto 16, 3, 63, 0, 0, m0)]),
  (50, [], false, [(50, .lload_n 3, 1, 0, 0, 0, m0),
   (51, .lload_n 0, 1, 0, 0, 0, m0),
   (52, .lcmp, 1, 0, 0, 0, m0),
   (53, .ifCond .ne 5, 3, 58, 0, 0, m0),
   (56, .nop, 0, 0, 0, 0, m0)]),
  (56, [], false, [(56, .iload_n 2, 1, 0, 0, 0, m0),
   (57, .ireturn, 1, 0, 0, 0, m0)]),
  (58, [], false, [(58, .iinc 2 1, 3, 0, 0, 0, m0),
   (61, .lconst 0, 1, 0, 0, 0, m0),
   (62, .lstore_n 3, 1, 0, 0, 0, m0),
   (63, .nop, 0, 0, 0, 0, m0)]),
  (63, [], false, [(63, .iinc 5 1, 3, 0, 0, 0, m0),
   (66, .goto (-59), 3, 7, 0, 0, m0)]),
  (69, [], false, [(69, .iconst (-1), 1, 0, 0, 0, m0),
   (70, .ireturn, 1, 0, 0, 0, m0)])]
theorem ok_Tokens_keywordOf : okBt m_Tokens_keywordOf bt_Tokens_keywordOf = true := by decide +kernel
set_option maxRecDepth 100000 in
theorem b_Tokens_keywordOf_0 {l : Launch} {E : EnvT} {d : Nat} {K : AV → Mem → Prop} {M : Mem} {x0 : Int64} (hd : 1 ≤ d)
  (h : G l E d m_Tokens_keywordOf 7 [(0, (.long x0, 0)), (2, (.int (iN 0), 0)), (3, (.long (lI 0), 0)), (5, (.int (iN 0), 0))] [] M K) :
  G l E d m_Tokens_keywordOf 0 [(0, (.long x0, 0))] [] M K := G.blk 60 _ hd ok_Tokens_keywordOf rfl h
set_option maxRecDepth 100000 in
theorem b_Tokens_keywordOf_7 {l : Launch} {E : EnvT} {d : Nat} {K : AV → Mem → Prop} {M : Mem} {x0 : Int64} {x2 : Int32} {x3 : Int64} {x5 : Int32} (hd : 1 ≤ d)
  (h : CT l E (d - 1) m_Str_length [(.ref 0, 999)] M (fun v1 M1 =>
   (((toI v1) ≤ x5 →
    K (.int (iN (-1)), 0) M1) ∧
   (¬ (toI v1) ≤ x5 →
    CT l E (d - 1) m_Str_charAt [(.ref 0, 999), (.int x5, 0)] M1 (fun v2 M2 =>
     (((toI v2) = (iN 32) →
      ((¬ (lg_cmp x3 x0) = 0 →
       G l E d m_Tokens_keywordOf 7 [(0, (.long x0, 0)), (2, (.int (x2 + iN 1), 0)), (3, (.long (lI 0), 0)), (5, (.int (x5 + iN 1), 0))] [] M2 K) ∧
      ((lg_cmp x3 x0) = 0 →
       K (.int x2, 0) M2))) ∧
     (¬ (toI v2) = (iN 32) →
      G l E d m_Tokens_keywordOf 7 [(0, (.long x0, 0)), (2, (.int x2, 0)), (3, (.long (((x3 * (lI 27)) + ((toI v2)).toInt64) - (lI 96)), 0)), (5, (.int (x5 + iN 1), 0))] [] M2 K))))))) :
  G l E d m_Tokens_keywordOf 7 [(0, (.long x0, 0)), (2, (.int x2, 0)), (3, (.long x3, 0)), (5, (.int x5, 0))] [] M K := G.blk 60 _ hd ok_Tokens_keywordOf rfl h
def bt_Tokens_readNumber : BtT := [(0, [0], true, [(0, .iconst 0, 1, 0, 0, 0, m0),
   (1, .istore_n 1, 1, 0, 0, 0, m0),
   (2, .aload_n 0, 1, 0, 0, 0, m0),
   (3, .iconst 0, 1, 0, 0, 0, m0),
   (4, .putfield 28, 3, 5, 5, 154, m0),
   (7, .nop, 0, 0, 0, 0, m0)]),
  (7, [0, 1], true, [(7, .aload_n 0, 1, 0, 0, 0, m0),
   (8, .getfield 19, 3, 2, 5, 148, m0),
   (11, .aload_n 0, 1, 0, 0, 0, m0),
   (12, .getfield 15, 3, 1, 5, 147, m0),
   (15, .if_icmp .ge 76, 3, 91, 0, 0, m0),
   (18, .nop, 0, 0, 0, 0, m0)]),
  (18, [], false, [(18, .aload_n 0, 1, 0, 0, 0, m0),
   (19, .getfield 9, 3, 0, 5, 146, m0),
   (22, .aload_n 0, 1, 0, 0, 0, m0),
   (23, .getfield 19, 3, 2, 5, 148, m0),
   (26, .baload, 1, 0, 0, 0, m0),
   (27, .bipush 48, 2, 0, 0, 0, m0),
   (29, .if_icmp .lt 62, 3, 91, 0, 0, m0),
   (32, .nop, 0, 0, 0, 0, m0)]),
  (32, [], false, [(32, .aload_n 0, 1, 0, 0, 0, m0),
   (33, .getfield 9, 3, 0, 5, 146, m0),
   (36, .aload_n 0, 1, 0, 0, 0, m0),
   (37, .getfield 19, 3, 2, 5, 148, m0),
   (40, .baload, 1, 0, 0, 0, m0),
   (41, .bipush 57, 2, 0, 0, 0, m0),
   (43, .if_icmp .gt 48, 3, 91, 0, 0, m0),
   (46, .nop, 0, 0, 0, 0, m0)]),
  (46, [], false, [(46, .iload_n 1, 1, 0, 0, 0, m0),
   (47, .iconst 4, 1, 0, 0, 0, m0),
   (48, .if_icmp .ge 27, 3, 75, 0, 0, m0),
   (51, .nop, 0, 0, 0, 0, m0)]),
  (51, [], false, [(51, .aload_n 0, 1, 0, 0, 0, m0),
   (52, .aload_n 0, 1, 0, 0, 0, m0),
   (53, .getfield 28, 3, 5, 5, 154, m0),
   (56, .bipush 10, 2, 0, 0, 0, m0),
   (58, .imul, 1, 0, 0, 0, m0),
   (59, .aload_n 0, 1, 0, 0, 0, m0),
   (60, .getfield 9, 3, 0, 5, 146, m0),
   (63, .aload_n 0, 1, 0, 0, 0, m0),
   (64, .getfield 19, 3, 2, 5, 148, m0),
   (67, .baload, 1, 0, 0, 0, m0),
   (68, .iadd, 1, 0, 0, 0, m0),
   (69, .bipush 48, 2, 0, 0, 0, m0),
   (71, .isub, 1, 0, 0, 0, m0),
   (72, .putfield 28, 3, 5, 5, 154, m0),
   (75, .nop, 0, 0, 0, 0, m0)]),
  (75, [], false, [(75, .iinc 1 1, 3, 0, 0, 0, m0),
   (78, .aload_n 0, 1, 0, 0, 0, m0),
   (79, .dup, 1, 0, 0, 0, m0),
   (80, .getfield 19, 3, 2, 5, 148, m0),
   (83, .iconst 1, 1, 0, 0, 0, m0),
   (84, .iadd, 1, 0, 0, 0, m0),
   (85, .putfield 19, 3, 2, 5, 148, m0),
   (88, .goto (-81), 3, 7, 0, 0, m0)]),
  (91, [], false, [(91, .iload_n 1, 1, 0, 0, 0, m0),
   (92, .iconst 4, 1, 0, 0, 0, m0),
   (93, .if_icmp .le 8, 3, 101, 0, 0, m0),
   (96, .nop, 0, 0, 0, 0, m0)]),
  (96, [], false, [(96, .aload_n 0, 1, 0, 0, 0, m0),
   (97, .iconst 4, 1, 0, 0, 0, m0),
   (98, .putfield 22, 3, 3, 5, 149, m0),
   (101, .nop, 0, 0, 0, 0, m0)]),
  (101, [], false, [(101, .return_, 1, 0, 0, 0, m0)])]
theorem ok_Tokens_readNumber : okBt m_Tokens_readNumber bt_Tokens_readNumber = true := by decide +kernel
set_option maxRecDepth 100000 in
theorem b_Tokens_readNumber_0 {l : Launch} {E : EnvT} {d : Nat} {K : AV → Mem → Prop} {M : Mem} {r : Nat}  (hd : 1 ≤ d)
  (h : G l E d m_Tokens_readNumber 7 [(0, (.ref r, 4)), (1, (.int (iN 0), 0))] [] (upd3 M r 0 5 ((iN 0)).toInt) K) :
  G l E d m_Tokens_readNumber 0 [(0, (.ref r, 4))] [] M K := G.blk 60 _ hd ok_Tokens_readNumber rfl h
set_option maxRecDepth 100000 in
theorem b_Tokens_readNumber_7 {l : Launch} {E : EnvT} {d : Nat} {K : AV → Mem → Prop} {M : Mem} {r : Nat} {x1 : Int32} (hd : 1 ≤ d)
  (h : (((iN (M r 0 1)) ≤ (iN (M r 0 2)) →
   ((x1 ≤ (iN 4) →
    K (.null, 0) M) ∧
   (¬ x1 ≤ (iN 4) →
    K (.null, 0) (upd3 M r 0 3 ((iN 4)).toInt)))) ∧
  (¬ (iN (M r 0 1)) ≤ (iN (M r 0 2)) →
   (((M r 0 0).toNat, 2) ∈ CL ∧ vp_in (iN (M r 0 2)) 900 ∧ (((iN (M (M r 0 0).toNat 2 ((iN (M r 0 2))).toNatClampNeg)) < (iN 48) →
    ((x1 ≤ (iN 4) →
     K (.null, 0) M) ∧
    (¬ x1 ≤ (iN 4) →
     K (.null, 0) (upd3 M r 0 3 ((iN 4)).toInt)))) ∧
   (¬ (iN (M (M r 0 0).toNat 2 ((iN (M r 0 2))).toNatClampNeg)) < (iN 48) →
    (((M r 0 0).toNat, 2) ∈ CL ∧ vp_in (iN (M r 0 2)) 900 ∧ (((iN 57) < (iN (M (M r 0 0).toNat 2 ((iN (M r 0 2))).toNatClampNeg)) →
     ((x1 ≤ (iN 4) →
      K (.null, 0) M) ∧
     (¬ x1 ≤ (iN 4) →
      K (.null, 0) (upd3 M r 0 3 ((iN 4)).toInt)))) ∧
    (¬ (iN 57) < (iN (M (M r 0 0).toNat 2 ((iN (M r 0 2))).toNatClampNeg)) →
     (((iN 4) ≤ x1 →
      G l E d m_Tokens_readNumber 7 [(0, (.ref r, 4)), (1, (.int (x1 + iN 1), 0))] [] (upd3 M r 0 2 (((iN (M r 0 2)) + (iN 1))).toInt) K) ∧
     (¬ (iN 4) ≤ x1 →
      (((M r 0 0).toNat, 2) ∈ CL ∧ vp_in (iN (M r 0 2)) 900 ∧ G l E d m_Tokens_readNumber 7 [(0, (.ref r, 4)), (1, (.int (x1 + iN 1), 0))] [] (upd3 (upd3 M r 0 5 (((((iN (M r 0 5)) * (iN 10)) + (iN (M (M r 0 0).toNat 2 ((iN (M r 0 2))).toNatClampNeg))) - (iN 48))).toInt) r 0 2 (((iN ((upd3 M r 0 5 (((((iN (M r 0 5)) * (iN 10)) + (iN (M (M r 0 0).toNat 2 ((iN (M r 0 2))).toNatClampNeg))) - (iN 48))).toInt) r 0 2)) + (iN 1))).toInt) K)))))))))))) :
  G l E d m_Tokens_readNumber 7 [(0, (.ref r, 4)), (1, (.int x1, 0))] [] M K := G.blk 60 _ hd ok_Tokens_readNumber rfl h
def bt_Tokens_advance : BtT := [(0, [0], true, [(0, .aload_n 0, 1, 0, 0, 0, m0),
   (1, .getfield 19, 3, 2, 5, 148, m0),
   (4, .aload_n 0, 1, 0, 0, 0, m0),
   (5, .getfield 15, 3, 1, 5, 147, m0),
   (8, .if_icmp .ge 44, 3, 52, 0, 0, m0),
   (11, .nop, 0, 0, 0, 0, m0)]),
  (11, [], false, [(11, .aload_n 0, 1, 0, 0, 0, m0),
   (12, .getfield 9, 3, 0, 5, 146, m0),
   (15, .aload_n 0, 1, 0, 0, 0, m0),
   (16, .getfield 19, 3, 2, 5, 148, m0),
   (19, .baload, 1, 0, 0, 0, m0),
   (20, .bipush 32, 2, 0, 0, 0, m0),
   (22, .if_icmp .eq 17, 3, 39, 0, 0, m0),
   (25, .nop, 0, 0, 0, 0, m0)]),
  (25, [], false, [(25, .aload_n 0, 1, 0, 0, 0, m0),
   (26, .getfield 9, 3, 0, 5, 146, m0),
   (29, .aload_n 0, 1, 0, 0, 0, m0),
   (30, .getfield 19, 3, 2, 5, 148, m0),
   (33, .baload, 1, 0, 0, 0, m0),
   (34, .bipush 10, 2, 0, 0, 0, m0),
   (36, .if_icmp .ne 16, 3, 52, 0, 0, m0),
   (39, .nop, 0, 0, 0, 0, m0)]),
  (39, [], false, [(39, .aload_n 0, 1, 0, 0, 0, m0),
   (40, .dup, 1, 0, 0, 0, m0),
   (41, .getfield 19, 3, 2, 5, 148, m0),
   (44, .iconst 1, 1, 0, 0, 0, m0),
   (45, .iadd, 1, 0, 0, 0, m0),
   (46, .putfield 19, 3, 2, 5, 148, m0),
   (49, .goto (-49), 3, 0, 0, 0, m0)]),
  (52, [0], true, [(52, .aload_n 0, 1, 0, 0, 0, m0),
   (53, .aload_n 0, 1, 0, 0, 0, m0),
   (54, .getfield 19, 3, 2, 5, 148, m0),
   (57, .putfield 25, 3, 4, 5, 152, m0),
   (60, .aload_n 0, 1, 0, 0, 0, m0),
   (61, .aload_n 0, 1, 0, 0, 0, m0),
   (62, .getfield 19, 3, 2, 5, 148, m0),
   (65, .aload_n 0, 1, 0, 0, 0, m0),
   (66, .getfield 15, 3, 1, 5, 147, m0),
   (69, .if_icmp .ge 18, 3, 87, 0, 0, m0),
   (72, .nop, 0, 0, 0, 0, m0)]),
  (72, [], false, [(72, .aload_n 0, 1, 0, 0, 0, m0),
   (73, .getfield 9, 3, 0, 5, 146, m0),
   (76, .aload_n 0, 1, 0, 0, 0, m0),
   (77, .getfield 19, 3, 2, 5, 148, m0),
   (80, .baload, 1, 0, 0, 0, m0),
   (81, .invokestatic 56, 3, 0, 0, 657, m_Tokens_kindOf),
   (84, .goto 4, 3, 88, 0, 0, m0)]),
  (87, [], false, [(87, .iconst 0, 1, 0, 0, 0, m0),
   (88, .nop, 0, 0, 0, 0, m0)]),
  (88, [], false, [(88, .putfield 22, 3, 3, 5, 149, m0),
   (91, .nop, 0, 0, 0, 0, m0)]),
  (91, [0], true, [(91, .aload_n 0, 1, 0, 0, 0, m0),
   (92, .iconst (-1), 1, 0, 0, 0, m0),
   (93, .putfield 37, 3, 8, 5, 160, m0),
   (96, .aload_n 0, 1, 0, 0, 0, m0),
   (97, .getfield 22, 3, 3, 5, 149, m0),
   (100, .tableswitch 92 1 3 #[28, 59, 66], 28, 0, 0, 0, m0)]),
  (128, [], false, [(128, .aload_n 0, 1, 0, 0, 0, m0),
   (129, .invokevirtual 60, 3, 0, 0, 660, m_Tokens_readWord),
   (132, .aload_n 0, 1, 0, 0, 0, m0),
   (133, .aload_n 0, 1, 0, 0, 0, m0),
   (134, .getfield 34, 3, 7, 5, 159, m0),
   (137, .bipush 8, 2, 0, 0, 0, m0),
   (139, .if_icmp .le 7, 3, 146, 0, 0, m0),
   (142, .nop, 0, 0, 0, 0, m0)]),
  (142, [], false, [(142, .iconst (-1), 1, 0, 0, 0, m0),
   (143, .goto 10, 3, 153, 0, 0, m0)]),
  (146, [], false, [(146, .aload_n 0, 1, 0, 0, 0, m0),
   (147, .getfield 40, 3, 9, 5, 163, m0),
   (150, .invokestatic 63, 3, 0, 0, 666, m_Tokens_keywordOf),
   (153, .nop, 0, 0, 0, 0, m0)]),
  (153, [], false, [(153, .putfield 37, 3, 8, 5, 160, m0),
   (156, .goto 36, 3, 192, 0, 0, m0)]),
  (159, [], false, [(159, .aload_n 0, 1, 0, 0, 0, m0),
   (160, .invokevirtual 67, 3, 0, 0, 718, m_Tokens_readNumber),
   (163, .goto 29, 3, 192, 0, 0, m0)]),
  (166, [], false, [(166, .aload_n 0, 1, 0, 0, 0, m0),
   (167, .aload_n 0, 1, 0, 0, 0, m0),
   (168, .getfield 9, 3, 0, 5, 146, m0),
   (171, .aload_n 0, 1, 0, 0, 0, m0),
   (172, .getfield 19, 3, 2, 5, 148, m0),
   (175, .baload, 1, 0, 0, 0, m0),
   (176, .putfield 31, 3, 6, 5, 157, m0),
   (179, .aload_n 0, 1, 0, 0, 0, m0),
   (180, .dup, 1, 0, 0, 0, m0),
   (181, .getfield 19, 3, 2, 5, 148, m0),
   (184, .iconst 1, 1, 0, 0, 0, m0),
   (185, .iadd, 1, 0, 0, 0, m0),
   (186, .putfield 19, 3, 2, 5, 148, m0),
   (189, .goto 3, 3, 192, 0, 0, m0)]),
  (192, [], false, [(192, .return_, 1, 0, 0, 0, m0)])]
theorem ok_Tokens_advance : okBt m_Tokens_advance bt_Tokens_advance = true := by decide +kernel
set_option maxRecDepth 100000 in
theorem b_Tokens_advance_0 {l : Launch} {E : EnvT} {d : Nat} {K : AV → Mem → Prop} {M : Mem} {r : Nat}  (hd : 1 ≤ d)
  (h : (((iN (M r 0 1)) ≤ (iN (M r 0 2)) →
   G l E d m_Tokens_advance 52 [(0, (.ref r, 4))] [] M K) ∧
  (¬ (iN (M r 0 1)) ≤ (iN (M r 0 2)) →
   (((M r 0 0).toNat, 2) ∈ CL ∧ vp_in (iN (M r 0 2)) 900 ∧ (((iN (M (M r 0 0).toNat 2 ((iN (M r 0 2))).toNatClampNeg)) = (iN 32) →
    G l E d m_Tokens_advance 0 [(0, (.ref r, 4))] [] (upd3 M r 0 2 (((iN (M r 0 2)) + (iN 1))).toInt) K) ∧
   (¬ (iN (M (M r 0 0).toNat 2 ((iN (M r 0 2))).toNatClampNeg)) = (iN 32) →
    (((M r 0 0).toNat, 2) ∈ CL ∧ vp_in (iN (M r 0 2)) 900 ∧ ((¬ (iN (M (M r 0 0).toNat 2 ((iN (M r 0 2))).toNatClampNeg)) = (iN 10) →
     G l E d m_Tokens_advance 52 [(0, (.ref r, 4))] [] M K) ∧
    ((iN (M (M r 0 0).toNat 2 ((iN (M r 0 2))).toNatClampNeg)) = (iN 10) →
     G l E d m_Tokens_advance 0 [(0, (.ref r, 4))] [] (upd3 M r 0 2 (((iN (M r 0 2)) + (iN 1))).toInt) K))))))))) :
  G l E d m_Tokens_advance 0 [(0, (.ref r, 4))] [] M K := G.blk 60 _ hd ok_Tokens_advance rfl h
set_option maxRecDepth 100000 in
theorem b_Tokens_advance_52 {l : Launch} {E : EnvT} {d : Nat} {K : AV → Mem → Prop} {M : Mem} {r : Nat}  (hd : 1 ≤ d)
  (h : (((iN ((upd3 M r 0 4 ((iN (M r 0 2))).toInt) r 0 1)) ≤ (iN ((upd3 M r 0 4 ((iN (M r 0 2))).toInt) r 0 2)) →
   G l E d m_Tokens_advance 91 [(0, (.ref r, 4))] [] (upd3 (upd3 M r 0 4 ((iN (M r 0 2))).toInt) r 0 3 ((iN 0)).toInt) K) ∧
  (¬ (iN ((upd3 M r 0 4 ((iN (M r 0 2))).toInt) r 0 1)) ≤ (iN ((upd3 M r 0 4 ((iN (M r 0 2))).toInt) r 0 2)) →
   ((((upd3 M r 0 4 ((iN (M r 0 2))).toInt) r 0 0).toNat, 2) ∈ CL ∧ vp_in (iN ((upd3 M r 0 4 ((iN (M r 0 2))).toInt) r 0 2)) 900 ∧ CT l E (d - 1) m_Tokens_kindOf [(.int (iN ((upd3 M r 0 4 ((iN (M r 0 2))).toInt) ((upd3 M r 0 4 ((iN (M r 0 2))).toInt) r 0 0).toNat 2 ((iN ((upd3 M r 0 4 ((iN (M r 0 2))).toInt) r 0 2))).toNatClampNeg)), 0)] (upd3 M r 0 4 ((iN (M r 0 2))).toInt) (fun v1 M1 =>
    G l E d m_Tokens_advance 91 [(0, (.ref r, 4))] [] (upd3 M1 r 0 3 ((toI v1)).toInt) K))))) :
  G l E d m_Tokens_advance 52 [(0, (.ref r, 4))] [] M K := G.blk 60 _ hd ok_Tokens_advance rfl h
set_option maxRecDepth 100000 in
theorem b_Tokens_advance_91 {l : Launch} {E : EnvT} {d : Nat} {K : AV → Mem → Prop} {M : Mem} {r : Nat}  (hd : 1 ≤ d)
  (h : (((iN ((upd3 M r 0 8 ((iN (-1))).toInt) r 0 3)) = iN 1 →
   CT l E (d - 1) m_Tokens_readWord [(.ref r, 4)] (upd3 M r 0 8 ((iN (-1))).toInt) (fun v2 M2 =>
    (((iN (M2 r 0 7)) ≤ (iN 8) →
     CT l E (d - 1) m_Tokens_keywordOf [(.long (lI (M2 r 0 9)), 0)] M2 (fun v3 M3 =>
      K (.null, 0) (upd3 M3 r 0 8 ((toI v3)).toInt))) ∧
    (¬ (iN (M2 r 0 7)) ≤ (iN 8) →
     K (.null, 0) (upd3 M2 r 0 8 ((iN (-1))).toInt))))) ∧
  (¬ (iN ((upd3 M r 0 8 ((iN (-1))).toInt) r 0 3)) = iN 1 →
   (((iN ((upd3 M r 0 8 ((iN (-1))).toInt) r 0 3)) = iN 2 →
   CT l E (d - 1) m_Tokens_readNumber [(.ref r, 4)] (upd3 M r 0 8 ((iN (-1))).toInt) (fun v1 M1 =>
    K (.null, 0) M1)) ∧
  (¬ (iN ((upd3 M r 0 8 ((iN (-1))).toInt) r 0 3)) = iN 2 →
   (((iN ((upd3 M r 0 8 ((iN (-1))).toInt) r 0 3)) = iN 3 →
   ((((upd3 M r 0 8 ((iN (-1))).toInt) r 0 0).toNat, 2) ∈ CL ∧ vp_in (iN ((upd3 M r 0 8 ((iN (-1))).toInt) r 0 2)) 900 ∧ K (.null, 0) (upd3 (upd3 (upd3 M r 0 8 ((iN (-1))).toInt) r 0 6 ((iN ((upd3 M r 0 8 ((iN (-1))).toInt) ((upd3 M r 0 8 ((iN (-1))).toInt) r 0 0).toNat 2 ((iN ((upd3 M r 0 8 ((iN (-1))).toInt) r 0 2))).toNatClampNeg))).toInt) r 0 2 (((iN ((upd3 (upd3 M r 0 8 ((iN (-1))).toInt) r 0 6 ((iN ((upd3 M r 0 8 ((iN (-1))).toInt) ((upd3 M r 0 8 ((iN (-1))).toInt) r 0 0).toNat 2 ((iN ((upd3 M r 0 8 ((iN (-1))).toInt) r 0 2))).toNatClampNeg))).toInt) r 0 2)) + (iN 1))).toInt))) ∧
  (¬ (iN ((upd3 M r 0 8 ((iN (-1))).toInt) r 0 3)) = iN 3 →
   K (.null, 0) (upd3 M r 0 8 ((iN (-1))).toInt)))))))) :
  G l E d m_Tokens_advance 91 [(0, (.ref r, 4))] [] M K := G.blk 60 _ hd ok_Tokens_advance rfl h
def bt_Tokens_start : BtT := [(0, [0, 1, 2], true, [(0, .aload_n 0, 1, 0, 0, 0, m0),
   (1, .aload_n 1, 1, 0, 0, 0, m0),
   (2, .putfield 9, 3, 0, 5, 146, m0),
   (5, .aload_n 0, 1, 0, 0, 0, m0),
   (6, .iload_n 2, 1, 0, 0, 0, m0),
   (7, .aload_n 1, 1, 0, 0, 0, m0),
   (8, .arraylength, 1, 0, 0, 0, m0),
   (9, .invokestatic 47, 3, 0, 0, 650, m_Math_min),
   (12, .putfield 15, 3, 1, 5, 147, m0),
   (15, .aload_n 0, 1, 0, 0, 0, m0),
   (16, .iconst 0, 1, 0, 0, 0, m0),
   (17, .putfield 19, 3, 2, 5, 148, m0),
   (20, .aload_n 0, 1, 0, 0, 0, m0),
   (21, .iconst 0, 1, 0, 0, 0, m0),
   (22, .putfield 44, 3, 10, 5, 165, m0),
   (25, .aload_n 0, 1, 0, 0, 0, m0),
   (26, .invokevirtual 53, 3, 0, 0, 653, m_Tokens_advance),
   (29, .return_, 1, 0, 0, 0, m0)])]
theorem ok_Tokens_start : okBt m_Tokens_start bt_Tokens_start = true := by decide +kernel
set_option maxRecDepth 100000 in
theorem b_Tokens_start_0 {l : Launch} {E : EnvT} {d : Nat} {K : AV → Mem → Prop} {M : Mem} {r : Nat} {x2 : Int32} (hd : 1 ≤ d)
  (h : CT l E (d - 1) m_Math_min [(.int x2, 0), (.int (iN 900), 0)] (upd3 M r 0 0 (0 : Int)) (fun v1 M1 =>
   CT l E (d - 1) m_Tokens_advance [(.ref r, 4)] (upd3 (upd3 (upd3 M1 r 0 1 ((toI v1)).toInt) r 0 2 ((iN 0)).toInt) r 0 10 ((iN 0)).toInt) (fun v2 M2 =>
    K (.null, 0) M2))) :
  G l E d m_Tokens_start 0 [(0, (.ref r, 4)), (1, (.ref 0, 2)), (2, (.int x2, 0))] [] M K := G.blk 60 _ hd ok_Tokens_start rfl h
def bt_Tokens_refuse : BtT := [(0, [0, 1], true, [(0, .aload_n 0, 1, 0, 0, 0, m0),
   (1, .aload_n 0, 1, 0, 0, 0, m0),
   (2, .getfield 22, 3, 3, 5, 149, m0),
   (5, .iconst 4, 1, 0, 0, 0, m0),
   (6, .if_icmp .ne 7, 3, 13, 0, 0, m0),
   (9, .nop, 0, 0, 0, 0, m0)]),
  (9, [], false, [(9, .iconst 1, 1, 0, 0, 0, m0),
   (10, .goto 4, 3, 14, 0, 0, m0)]),
  (13, [], false, [(13, .iload_n 1, 1, 0, 0, 0, m0),
   (14, .nop, 0, 0, 0, 0, m0)]),
  (14, [], false, [(14, .putfield 44, 3, 10, 5, 165, m0),
   (17, .iconst 0, 1, 0, 0, 0, m0),
   (18, .ireturn, 1, 0, 0, 0, m0)])]
theorem ok_Tokens_refuse : okBt m_Tokens_refuse bt_Tokens_refuse = true := by decide +kernel
set_option maxRecDepth 100000 in
theorem b_Tokens_refuse_0 {l : Launch} {E : EnvT} {d : Nat} {K : AV → Mem → Prop} {M : Mem} {r : Nat} {x1 : Int32} (hd : 1 ≤ d)
  (h : ((¬ (iN (M r 0 3)) = (iN 4) →
   ((((iN 0) = 0 ∨ (iN 0) = 1)) ∧ K (.int (iN 0), 0) (upd3 M r 0 10 (x1).toInt))) ∧
  ((iN (M r 0 3)) = (iN 4) →
   ((((iN 0) = 0 ∨ (iN 0) = 1)) ∧ K (.int (iN 0), 0) (upd3 M r 0 10 ((iN 1)).toInt))))) :
  G l E d m_Tokens_refuse 0 [(0, (.ref r, 4)), (1, (.int x1, 0))] [] M K := G.blk 60 _ hd ok_Tokens_refuse rfl h
def bt_Tokens_standsName : BtT := [(0, [0], true, [(0, .aload_n 0, 1, 0, 0, 0, m0),
   (1, .getfield 22, 3, 3, 5, 149, m0),
   (4, .iconst 1, 1, 0, 0, 0, m0),
   (5, .if_icmp .ne 20, 3, 25, 0, 0, m0),
   (8, .nop, 0, 0, 0, 0, m0)]),
  (8, [], false, [(8, .aload_n 0, 1, 0, 0, 0, m0),
   (9, .getfield 34, 3, 7, 5, 159, m0),
   (12, .bipush 8, 2, 0, 0, 0, m0),
   (14, .if_icmp .gt 11, 3, 25, 0, 0, m0),
   (17, .nop, 0, 0, 0, 0, m0)]),
  (17, [], false, [(17, .aload_n 0, 1, 0, 0, 0, m0),
   (18, .getfield 37, 3, 8, 5, 160, m0),
   (21, .iconst (-1), 1, 0, 0, 0, m0),
   (22, .if_icmp .eq 11, 3, 33, 0, 0, m0),
   (25, .nop, 0, 0, 0, 0, m0)]),
  (25, [], false, [(25, .aload_n 0, 1, 0, 0, 0, m0),
   (26, .iconst 2, 1, 0, 0, 0, m0),
   (27, .invokevirtual 85, 3, 0, 0, 735, m_Tokens_refuse),
   (30, .ifCond .eq 7, 3, 37, 0, 0, m0),
   (33, .nop, 0, 0, 0, 0, m0)]),
  (33, [], false, [(33, .iconst 1, 1, 0, 0, 0, m0),
   (34, .goto 4, 3, 38, 0, 0, m0)]),
  (37, [], false, [(37, .iconst 0, 1, 0, 0, 0, m0),
   (38, .nop, 0, 0, 0, 0, m0)]),
  (38, [], false, [(38, .ireturn, 1, 0, 0, 0, m0)])]
theorem ok_Tokens_standsName : okBt m_Tokens_standsName bt_Tokens_standsName = true := by decide +kernel
set_option maxRecDepth 100000 in
theorem b_Tokens_standsName_0 {l : Launch} {E : EnvT} {d : Nat} {K : AV → Mem → Prop} {M : Mem} {r : Nat}  (hd : 1 ≤ d)
  (h : ((¬ (iN (M r 0 3)) = (iN 1) →
   CT l E (d - 1) m_Tokens_refuse [(.ref r, 4), (.int (iN 2), 0)] M (fun v1 M1 =>
    (((toI v1) = 0 →
     ((((iN 0) = 0 ∨ (iN 0) = 1)) ∧ K (.int (iN 0), 0) M1)) ∧
    (¬ (toI v1) = 0 →
     ((((iN 1) = 0 ∨ (iN 1) = 1)) ∧ K (.int (iN 1), 0) M1))))) ∧
  ((iN (M r 0 3)) = (iN 1) →
   (((iN 8) < (iN (M r 0 7)) →
    CT l E (d - 1) m_Tokens_refuse [(.ref r, 4), (.int (iN 2), 0)] M (fun v2 M2 =>
     (((toI v2) = 0 →
      ((((iN 0) = 0 ∨ (iN 0) = 1)) ∧ K (.int (iN 0), 0) M2)) ∧
     (¬ (toI v2) = 0 →
      ((((iN 1) = 0 ∨ (iN 1) = 1)) ∧ K (.int (iN 1), 0) M2))))) ∧
   (¬ (iN 8) < (iN (M r 0 7)) →
    (((iN (M r 0 8)) = (iN (-1)) →
     ((((iN 1) = 0 ∨ (iN 1) = 1)) ∧ K (.int (iN 1), 0) M)) ∧
    (¬ (iN (M r 0 8)) = (iN (-1)) →
     CT l E (d - 1) m_Tokens_refuse [(.ref r, 4), (.int (iN 2), 0)] M (fun v3 M3 =>
      (((toI v3) = 0 →
       ((((iN 0) = 0 ∨ (iN 0) = 1)) ∧ K (.int (iN 0), 0) M3)) ∧
      (¬ (toI v3) = 0 →
       ((((iN 1) = 0 ∨ (iN 1) = 1)) ∧ K (.int (iN 1), 0) M3))))))))))) :
  G l E d m_Tokens_standsName 0 [(0, (.ref r, 4))] [] M K := G.blk 60 _ hd ok_Tokens_standsName rfl h
def bt_Tokens_takeKeyword : BtT := [(0, [0, 1], true, [(0, .aload_n 0, 1, 0, 0, 0, m0),
   (1, .invokevirtual 53, 3, 0, 0, 653, m_Tokens_advance),
   (4, .aload_n 0, 1, 0, 0, 0, m0),
   (5, .getfield 37, 3, 8, 5, 160, m0),
   (8, .iload_n 1, 1, 0, 0, 0, m0),
   (9, .if_icmp .eq 11, 3, 20, 0, 0, m0),
   (12, .nop, 0, 0, 0, 0, m0)]),
  (12, [], false, [(12, .aload_n 0, 1, 0, 0, 0, m0),
   (13, .iconst 2, 1, 0, 0, 0, m0),
   (14, .invokevirtual 85, 3, 0, 0, 735, m_Tokens_refuse),
   (17, .ifCond .eq 7, 3, 24, 0, 0, m0),
   (20, .nop, 0, 0, 0, 0, m0)]),
  (20, [], false, [(20, .iconst 1, 1, 0, 0, 0, m0),
   (21, .goto 4, 3, 25, 0, 0, m0)]),
  (24, [], false, [(24, .iconst 0, 1, 0, 0, 0, m0),
   (25, .nop, 0, 0, 0, 0, m0)]),
  (25, [], false, [(25, .ireturn, 1, 0, 0, 0, m0)])]
theorem ok_Tokens_takeKeyword : okBt m_Tokens_takeKeyword bt_Tokens_takeKeyword = true := by decide +kernel
set_option maxRecDepth 100000 in
theorem b_Tokens_takeKeyword_0 {l : Launch} {E : EnvT} {d : Nat} {K : AV → Mem → Prop} {M : Mem} {r : Nat} {x1 : Int32} (hd : 1 ≤ d)
  (h : CT l E (d - 1) m_Tokens_advance [(.ref r, 4)] M (fun v1 M1 =>
   (((iN (M1 r 0 8)) = x1 →
    ((((iN 1) = 0 ∨ (iN 1) = 1)) ∧ K (.int (iN 1), 0) M1)) ∧
   (¬ (iN (M1 r 0 8)) = x1 →
    CT l E (d - 1) m_Tokens_refuse [(.ref r, 4), (.int (iN 2), 0)] M1 (fun v2 M2 =>
     (((toI v2) = 0 →
      ((((iN 0) = 0 ∨ (iN 0) = 1)) ∧ K (.int (iN 0), 0) M2)) ∧
     (¬ (toI v2) = 0 →
      ((((iN 1) = 0 ∨ (iN 1) = 1)) ∧ K (.int (iN 1), 0) M2)))))))) :
  G l E d m_Tokens_takeKeyword 0 [(0, (.ref r, 4)), (1, (.int x1, 0))] [] M K := G.blk 60 _ hd ok_Tokens_takeKeyword rfl h
def bt_Tokens_standsNumber : BtT := [(0, [0, 1, 2], true, [(0, .aload_n 0, 1, 0, 0, 0, m0),
   (1, .getfield 22, 3, 3, 5, 149, m0),
   (4, .iconst 2, 1, 0, 0, 0, m0),
   (5, .if_icmp .eq 9, 3, 14, 0, 0, m0),
   (8, .nop, 0, 0, 0, 0, m0)]),
  (8, [], false, [(8, .aload_n 0, 1, 0, 0, 0, m0),
   (9, .iconst 2, 1, 0, 0, 0, m0),
   (10, .invokevirtual 85, 3, 0, 0, 735, m_Tokens_refuse),
   (13, .ireturn, 1, 0, 0, 0, m0)]),
  (14, [], false, [(14, .aload_n 0, 1, 0, 0, 0, m0),
   (15, .getfield 28, 3, 5, 5, 154, m0),
   (18, .iload_n 1, 1, 0, 0, 0, m0),
   (19, .if_icmp .lt 11, 3, 30, 0, 0, m0),
   (22, .nop, 0, 0, 0, 0, m0)]),
  (22, [], false, [(22, .aload_n 0, 1, 0, 0, 0, m0),
   (23, .getfield 28, 3, 5, 5, 154, m0),
   (26, .iload_n 2, 1, 0, 0, 0, m0),
   (27, .if_icmp .le 11, 3, 38, 0, 0, m0),
   (30, .nop, 0, 0, 0, 0, m0)]),
  (30, [], false, [(30, .aload_n 0, 1, 0, 0, 0, m0),
   (31, .iconst 4, 1, 0, 0, 0, m0),
   (32, .invokevirtual 85, 3, 0, 0, 735, m_Tokens_refuse),
   (35, .ifCond .eq 7, 3, 42, 0, 0, m0),
   (38, .nop, 0, 0, 0, 0, m0)]),
  (38, [], false, [(38, .iconst 1, 1, 0, 0, 0, m0),
   (39, .goto 4, 3, 43, 0, 0, m0)]),
  (42, [], false, [(42, .iconst 0, 1, 0, 0, 0, m0),
   (43, .nop, 0, 0, 0, 0, m0)]),
  (43, [], false, [(43, .ireturn, 1, 0, 0, 0, m0)])]
theorem ok_Tokens_standsNumber : okBt m_Tokens_standsNumber bt_Tokens_standsNumber = true := by decide +kernel
set_option maxRecDepth 100000 in
theorem b_Tokens_standsNumber_0 {l : Launch} {E : EnvT} {d : Nat} {K : AV → Mem → Prop} {M : Mem} {r : Nat} {x1 : Int32} {x2 : Int32} (hd : 1 ≤ d)
  (h : (((iN (M r 0 3)) = (iN 2) →
   (((iN (M r 0 5)) < x1 →
    CT l E (d - 1) m_Tokens_refuse [(.ref r, 4), (.int (iN 4), 0)] M (fun v1 M1 =>
     (((toI v1) = 0 →
      ((((iN 0) = 0 ∨ (iN 0) = 1)) ∧ K (.int (iN 0), 0) M1)) ∧
     (¬ (toI v1) = 0 →
      ((((iN 1) = 0 ∨ (iN 1) = 1)) ∧ K (.int (iN 1), 0) M1))))) ∧
   (¬ (iN (M r 0 5)) < x1 →
    (((iN (M r 0 5)) ≤ x2 →
     ((((iN 1) = 0 ∨ (iN 1) = 1)) ∧ K (.int (iN 1), 0) M)) ∧
    (¬ (iN (M r 0 5)) ≤ x2 →
     CT l E (d - 1) m_Tokens_refuse [(.ref r, 4), (.int (iN 4), 0)] M (fun v2 M2 =>
      (((toI v2) = 0 →
       ((((iN 0) = 0 ∨ (iN 0) = 1)) ∧ K (.int (iN 0), 0) M2)) ∧
      (¬ (toI v2) = 0 →
       ((((iN 1) = 0 ∨ (iN 1) = 1)) ∧ K (.int (iN 1), 0) M2))))))))) ∧
  (¬ (iN (M r 0 3)) = (iN 2) →
   CT l E (d - 1) m_Tokens_refuse [(.ref r, 4), (.int (iN 2), 0)] M (fun v3 M3 =>
    ((((toI v3) = 0 ∨ (toI v3) = 1)) ∧ K (.int (toI v3), 0) M3))))) :
  G l E d m_Tokens_standsNumber 0 [(0, (.ref r, 4)), (1, (.int x1, 0)), (2, (.int x2, 0))] [] M K := G.blk 60 _ hd ok_Tokens_standsNumber rfl h
def bt_Tokens_takeNumber : BtT := [(0, [0, 1, 2], true, [(0, .aload_n 0, 1, 0, 0, 0, m0),
   (1, .invokevirtual 53, 3, 0, 0, 653, m_Tokens_advance),
   (4, .aload_n 0, 1, 0, 0, 0, m0),
   (5, .iload_n 1, 1, 0, 0, 0, m0),
   (6, .iload_n 2, 1, 0, 0, 0, m0),
   (7, .invokevirtual 92, 3, 0, 0, 748, m_Tokens_standsNumber),
   (10, .ireturn, 1, 0, 0, 0, m0)])]
theorem ok_Tokens_takeNumber : okBt m_Tokens_takeNumber bt_Tokens_takeNumber = true := by decide +kernel
set_option maxRecDepth 100000 in
theorem b_Tokens_takeNumber_0 {l : Launch} {E : EnvT} {d : Nat} {K : AV → Mem → Prop} {M : Mem} {r : Nat} {x1 : Int32} {x2 : Int32} (hd : 1 ≤ d)
  (h : CT l E (d - 1) m_Tokens_advance [(.ref r, 4)] M (fun v1 M1 =>
   CT l E (d - 1) m_Tokens_standsNumber [(.ref r, 4), (.int x1, 0), (.int x2, 0)] M1 (fun v2 M2 =>
    ((((toI v2) = 0 ∨ (toI v2) = 1)) ∧ K (.int (toI v2), 0) M2)))) :
  G l E d m_Tokens_takeNumber 0 [(0, (.ref r, 4)), (1, (.int x1, 0)), (2, (.int x2, 0))] [] M K := G.blk 60 _ hd ok_Tokens_takeNumber rfl h
def bt_Tokens_standsSign : BtT := [(0, [0, 1], true, [(0, .aload_n 0, 1, 0, 0, 0, m0),
   (1, .getfield 22, 3, 3, 5, 149, m0),
   (4, .iconst 3, 1, 0, 0, 0, m0),
   (5, .if_icmp .ne 11, 3, 16, 0, 0, m0),
   (8, .nop, 0, 0, 0, 0, m0)]),
  (8, [], false, [(8, .aload_n 0, 1, 0, 0, 0, m0),
   (9, .getfield 31, 3, 6, 5, 157, m0),
   (12, .iload_n 1, 1, 0, 0, 0, m0),
   (13, .if_icmp .eq 11, 3, 24, 0, 0, m0),
   (16, .nop, 0, 0, 0, 0, m0)]),
  (16, [], false, [(16, .aload_n 0, 1, 0, 0, 0, m0),
   (17, .iconst 2, 1, 0, 0, 0, m0),
   (18, .invokevirtual 85, 3, 0, 0, 735, m_Tokens_refuse),
   (21, .ifCond .eq 7, 3, 28, 0, 0, m0),
   (24, .nop, 0, 0, 0, 0, m0)]),
  (24, [], false, [(24, .iconst 1, 1, 0, 0, 0, m0),
   (25, .goto 4, 3, 29, 0, 0, m0)]),
  (28, [], false, [(28, .iconst 0, 1, 0, 0, 0, m0),
   (29, .nop, 0, 0, 0, 0, m0)]),
  (29, [], false, [(29, .ireturn, 1, 0, 0, 0, m0)])]
theorem ok_Tokens_standsSign : okBt m_Tokens_standsSign bt_Tokens_standsSign = true := by decide +kernel
set_option maxRecDepth 100000 in
theorem b_Tokens_standsSign_0 {l : Launch} {E : EnvT} {d : Nat} {K : AV → Mem → Prop} {M : Mem} {r : Nat} {x1 : Int32} (hd : 1 ≤ d)
  (h : ((¬ (iN (M r 0 3)) = (iN 3) →
   CT l E (d - 1) m_Tokens_refuse [(.ref r, 4), (.int (iN 2), 0)] M (fun v1 M1 =>
    (((toI v1) = 0 →
     ((((iN 0) = 0 ∨ (iN 0) = 1)) ∧ K (.int (iN 0), 0) M1)) ∧
    (¬ (toI v1) = 0 →
     ((((iN 1) = 0 ∨ (iN 1) = 1)) ∧ K (.int (iN 1), 0) M1))))) ∧
  ((iN (M r 0 3)) = (iN 3) →
   (((iN (M r 0 6)) = x1 →
    ((((iN 1) = 0 ∨ (iN 1) = 1)) ∧ K (.int (iN 1), 0) M)) ∧
   (¬ (iN (M r 0 6)) = x1 →
    CT l E (d - 1) m_Tokens_refuse [(.ref r, 4), (.int (iN 2), 0)] M (fun v2 M2 =>
     (((toI v2) = 0 →
      ((((iN 0) = 0 ∨ (iN 0) = 1)) ∧ K (.int (iN 0), 0) M2)) ∧
     (¬ (toI v2) = 0 →
      ((((iN 1) = 0 ∨ (iN 1) = 1)) ∧ K (.int (iN 1), 0) M2))))))))) :
  G l E d m_Tokens_standsSign 0 [(0, (.ref r, 4)), (1, (.int x1, 0))] [] M K := G.blk 60 _ hd ok_Tokens_standsSign rfl h
def bt_Tokens_takeSinger : BtT := [(0, [0, 1, 2], true, [(0, .aload_n 0, 1, 0, 0, 0, m0),
   (1, .invokevirtual 53, 3, 0, 0, 653, m_Tokens_advance),
   (4, .aload_n 0, 1, 0, 0, 0, m0),
   (5, .invokevirtual 96, 3, 0, 0, 792, m_Tokens_standsName),
   (8, .ifCond .ne 5, 3, 13, 0, 0, m0),
   (11, .nop, 0, 0, 0, 0, m0)]),
  (11, [], false, [(11, .iconst (-1), 1, 0, 0, 0, m0),
   (12, .ireturn, 1, 0, 0, 0, m0)]),
  (13, [], false, [(13, .aload_n 1, 1, 0, 0, 0, m0),
   (14, .aload_n 0, 1, 0, 0, 0, m0),
   (15, .getfield 40, 3, 9, 5, 163, m0),
   (18, .invokevirtual 100, 3, 0, 0, 793, m_Choir_find),
   (21, .istore_n 3, 1, 0, 0, 0, m0),
   (22, .iload_n 3, 1, 0, 0, 0, m0),
   (23, .iconst (-1), 1, 0, 0, 0, m0),
   (24, .if_icmp .ne 12, 3, 36, 0, 0, m0),
   (27, .nop, 0, 0, 0, 0, m0)]),
  (27, [], false, [(27, .aload_n 0, 1, 0, 0, 0, m0),
   (28, .iconst 3, 1, 0, 0, 0, m0),
   (29, .invokevirtual 85, 3, 0, 0, 735, m_Tokens_refuse),
   (32, .pop, 1, 0, 0, 0, m0),
   (33, .goto 16, 3, 49, 0, 0, m0)]),
  (36, [], false, [(36, .iload_n 3, 1, 0, 0, 0, m0),
   (37, .iload_n 2, 1, 0, 0, 0, m0),
   (38, .if_icmp .ne 11, 3, 49, 0, 0, m0),
   (41, .nop, 0, 0, 0, 0, m0)]),
  (41, [], false, [(41, .aload_n 0, 1, 0, 0, 0, m0),
   (42, .iconst 5, 1, 0, 0, 0, m0),
   (43, .invokevirtual 85, 3, 0, 0, 735, m_Tokens_refuse),
   (46, .pop, 1, 0, 0, 0, m0),
   (47, .iconst (-1), 1, 0, 0, 0, m0),
   (48, .istore_n 3, 1, 0, 0, 0, m0),
   (49, .nop, 0, 0, 0, 0, m0)]),
  (49, [], false, [(49, .iload_n 3, 1, 0, 0, 0, m0),
   (50, .ireturn, 1, 0, 0, 0, m0)])]
theorem ok_Tokens_takeSinger : okBt m_Tokens_takeSinger bt_Tokens_takeSinger = true := by decide +kernel
set_option maxRecDepth 100000 in
theorem b_Tokens_takeSinger_0 {l : Launch} {E : EnvT} {d : Nat} {K : AV → Mem → Prop} {M : Mem} {r r2 : Nat} {x2 : Int32} (hd : 1 ≤ d)
  (h : CT l E (d - 1) m_Tokens_advance [(.ref r, 4)] M (fun v1 M1 =>
   CT l E (d - 1) m_Tokens_standsName [(.ref r, 4)] M1 (fun v2 M2 =>
    ((¬ (toI v2) = 0 →
     CT l E (d - 1) m_Choir_find [(.ref r2, 11), (.long (lI (M2 r 0 9)), 0)] M2 (fun v3 M3 =>
      ((¬ (toI v3) = (iN (-1)) →
       ((¬ (toI v3) = x2 →
        K (.int (toI v3), 0) M3) ∧
       ((toI v3) = x2 →
        CT l E (d - 1) m_Tokens_refuse [(.ref r, 4), (.int (iN 5), 0)] M3 (fun v4 M4 =>
         K (.int (iN (-1)), 0) M4)))) ∧
      ((toI v3) = (iN (-1)) →
       CT l E (d - 1) m_Tokens_refuse [(.ref r, 4), (.int (iN 3), 0)] M3 (fun v5 M5 =>
        K (.int (toI v3), 0) M5))))) ∧
    ((toI v2) = 0 →
     K (.int (iN (-1)), 0) M2))))) :
  G l E d m_Tokens_takeSinger 0 [(0, (.ref r, 4)), (1, (.ref r2, 11)), (2, (.int x2, 0))] [] M K := G.blk 60 _ hd ok_Tokens_takeSinger rfl h
def bt_Tokens_takeSign : BtT := [(0, [0, 1], true, [(0, .aload_n 0, 1, 0, 0, 0, m0),
   (1, .invokevirtual 53, 3, 0, 0, 653, m_Tokens_advance),
   (4, .aload_n 0, 1, 0, 0, 0, m0),
   (5, .iload_n 1, 1, 0, 0, 0, m0),
   (6, .invokevirtual 89, 3, 0, 0, 818, m_Tokens_standsSign),
   (9, .ireturn, 1, 0, 0, 0, m0)])]
theorem ok_Tokens_takeSign : okBt m_Tokens_takeSign bt_Tokens_takeSign = true := by decide +kernel
set_option maxRecDepth 100000 in
theorem b_Tokens_takeSign_0 {l : Launch} {E : EnvT} {d : Nat} {K : AV → Mem → Prop} {M : Mem} {r : Nat} {x1 : Int32} (hd : 1 ≤ d)
  (h : CT l E (d - 1) m_Tokens_advance [(.ref r, 4)] M (fun v1 M1 =>
   CT l E (d - 1) m_Tokens_standsSign [(.ref r, 4), (.int x1, 0)] M1 (fun v2 M2 =>
    ((((toI v2) = 0 ∨ (toI v2) = 1)) ∧ K (.int (toI v2), 0) M2)))) :
  G l E d m_Tokens_takeSign 0 [(0, (.ref r, 4)), (1, (.int x1, 0))] [] M K := G.blk 60 _ hd ok_Tokens_takeSign rfl h
def bt_Tokens_takeCompares : BtT := [(0, [0], true, [(0, .aload_n 0, 1, 0, 0, 0, m0),
   (1, .invokevirtual 53, 3, 0, 0, 653, m_Tokens_advance),
   (4, .aload_n 0, 1, 0, 0, 0, m0),
   (5, .getfield 22, 3, 3, 5, 149, m0),
   (8, .iconst 3, 1, 0, 0, 0, m0),
   (9, .if_icmp .ne 12, 3, 21, 0, 0, m0),
   (12, .nop, 0, 0, 0, 0, m0)]),
  (12, [], false, [(12, .aload_n 0, 1, 0, 0, 0, m0),
   (13, .getfield 31, 3, 6, 5, 157, m0),
   (16, .bipush 59, 2, 0, 0, 0, m0),
   (18, .if_icmp .ne 11, 3, 29, 0, 0, m0),
   (21, .nop, 0, 0, 0, 0, m0)]),
  (21, [], false, [(21, .aload_n 0, 1, 0, 0, 0, m0),
   (22, .iconst 2, 1, 0, 0, 0, m0),
   (23, .invokevirtual 85, 3, 0, 0, 735, m_Tokens_refuse),
   (26, .ifCond .eq 7, 3, 33, 0, 0, m0),
   (29, .nop, 0, 0, 0, 0, m0)]),
  (29, [], false, [(29, .iconst 1, 1, 0, 0, 0, m0),
   (30, .goto 4, 3, 34, 0, 0, m0)]),
  (33, [], false, [(33, .iconst 0, 1, 0, 0, 0, m0),
   (34, .nop, 0, 0, 0, 0, m0)]),
  (34, [], false, [(34, .ireturn, 1, 0, 0, 0, m0)])]
theorem ok_Tokens_takeCompares : okBt m_Tokens_takeCompares bt_Tokens_takeCompares = true := by decide +kernel
set_option maxRecDepth 100000 in
theorem b_Tokens_takeCompares_0 {l : Launch} {E : EnvT} {d : Nat} {K : AV → Mem → Prop} {M : Mem} {r : Nat}  (hd : 1 ≤ d)
  (h : CT l E (d - 1) m_Tokens_advance [(.ref r, 4)] M (fun v1 M1 =>
   ((¬ (iN (M1 r 0 3)) = (iN 3) →
    CT l E (d - 1) m_Tokens_refuse [(.ref r, 4), (.int (iN 2), 0)] M1 (fun v2 M2 =>
     (((toI v2) = 0 →
      ((((iN 0) = 0 ∨ (iN 0) = 1)) ∧ K (.int (iN 0), 0) M2)) ∧
     (¬ (toI v2) = 0 →
      ((((iN 1) = 0 ∨ (iN 1) = 1)) ∧ K (.int (iN 1), 0) M2))))) ∧
   ((iN (M1 r 0 3)) = (iN 3) →
    ((¬ (iN (M1 r 0 6)) = (iN 59) →
     ((((iN 1) = 0 ∨ (iN 1) = 1)) ∧ K (.int (iN 1), 0) M1)) ∧
    ((iN (M1 r 0 6)) = (iN 59) →
     CT l E (d - 1) m_Tokens_refuse [(.ref r, 4), (.int (iN 2), 0)] M1 (fun v3 M3 =>
      (((toI v3) = 0 →
       ((((iN 0) = 0 ∨ (iN 0) = 1)) ∧ K (.int (iN 0), 0) M3)) ∧
      (¬ (toI v3) = 0 →
       ((((iN 1) = 0 ∨ (iN 1) = 1)) ∧ K (.int (iN 1), 0) M3)))))))))) :
  G l E d m_Tokens_takeCompares 0 [(0, (.ref r, 4))] [] M K := G.blk 60 _ hd ok_Tokens_takeCompares rfl h
