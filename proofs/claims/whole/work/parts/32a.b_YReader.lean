def bt_YReader_readEnd : BtT := [(0, [0, 1], true, [(0, .aload_n 0, 1, 0, 0, 0, m0),
   (1, .getfield 22, 3, 2, 9, 210, m0),
   (4, .ifCond .ne 12, 3, 16, 0, 0, m0),
   (7, .nop, 0, 0, 0, 0, m0)]),
  (7, [], false, [(7, .aload_n 0, 1, 0, 0, 0, m0),
   (8, .getfield 12, 3, 0, 9, 207, m0),
   (11, .iconst 2, 1, 0, 0, 0, m0),
   (12, .invokevirtual 56, 3, 0, 0, 853, m_Tokens_refuse),
   (15, .ireturn, 1, 0, 0, 0, m0)]),
  (16, [], false, [(16, .aload_n 0, 1, 0, 0, 0, m0),
   (17, .dup, 1, 0, 0, 0, m0),
   (18, .getfield 22, 3, 2, 9, 210, m0),
   (21, .iconst 1, 1, 0, 0, 0, m0),
   (22, .isub, 1, 0, 0, 0, m0),
   (23, .putfield 22, 3, 2, 9, 210, m0),
   (26, .aload_n 1, 1, 0, 0, 0, m0),
   (27, .aload_n 0, 1, 0, 0, 0, m0),
   (28, .getfield 18, 3, 1, 9, 209, m0),
   (31, .aload_n 0, 1, 0, 0, 0, m0),
   (32, .getfield 22, 3, 2, 9, 210, m0),
   (35, .iaload, 1, 0, 0, 0, m0),
   (36, .invokevirtual 60, 3, 0, 0, 854, m_Years_addEnd),
   (39, .aload_n 0, 1, 0, 0, 0, m0),
   (40, .getfield 12, 3, 0, 9, 207, m0),
   (43, .bipush 59, 2, 0, 0, 0, m0),
   (45, .invokevirtual 64, 3, 0, 0, 858, m_Tokens_takeSign),
   (48, .ireturn, 1, 0, 0, 0, m0)])]
theorem ok_YReader_readEnd : okBt m_YReader_readEnd bt_YReader_readEnd = true := by decide +kernel
set_option maxRecDepth 100000 in
theorem b_YReader_readEnd_0 {l : Launch} {E : EnvT} {d : Nat} {K : AV → Mem → Prop} {M : Mem} {r2 : Nat}  (hd : 1 ≤ d)
  (h : ((¬ (iN (M 3 0 2)) = 0 →
   (vp_in (iN ((upd3 M 3 0 2 (((iN (M 3 0 2)) - (iN 1))).toInt) 3 0 2)) 3 ∧ CT l E (d - 1) m_Years_addEnd [(.ref r2, 23), (.int (iN ((upd3 M 3 0 2 (((iN (M 3 0 2)) - (iN 1))).toInt) 3 1 ((iN ((upd3 M 3 0 2 (((iN (M 3 0 2)) - (iN 1))).toInt) 3 0 2))).toNatClampNeg)), 0)] (upd3 M 3 0 2 (((iN (M 3 0 2)) - (iN 1))).toInt) (fun v1 M1 =>
    CT l E (d - 1) m_Tokens_takeSign [(.ref 4, 4), (.int (iN 59), 0)] M1 (fun v2 M2 =>
     ((((toI v2) = 0 ∨ (toI v2) = 1)) ∧ K (.int (toI v2), 0) M2))))) ∧
  ((iN (M 3 0 2)) = 0 →
   CT l E (d - 1) m_Tokens_refuse [(.ref 4, 4), (.int (iN 2), 0)] M (fun v3 M3 =>
    ((((toI v3) = 0 ∨ (toI v3) = 1)) ∧ K (.int (toI v3), 0) M3))))) :
  G l E d m_YReader_readEnd 0 [(0, (.ref 3, 6)), (1, (.ref r2, 23))] [] M K := G.blk 60 _ hd ok_YReader_readEnd rfl h
def bt_YReader_beginsStep : BtT := [(0, [0], true, [(0, .iload_n 0, 1, 0, 0, 0, m0),
   (1, .tableswitch 93 3 21 #[91, 93, 93, 93, 93, 93, 91, 93, 91, 91, 91, 91, 91, 91, 93, 93, 91, 93, 91], 91, 0, 0, 0, m0)]),
  (92, [], false, [(92, .iconst 1, 1, 0, 0, 0, m0),
   (93, .ireturn, 1, 0, 0, 0, m0)]),
  (94, [], false, [(94, .iconst 0, 1, 0, 0, 0, m0),
   (95, .ireturn, 1, 0, 0, 0, m0)])]
theorem ok_YReader_beginsStep : okBt m_YReader_beginsStep bt_YReader_beginsStep = true := by decide +kernel
set_option maxRecDepth 100000 in
theorem b_YReader_beginsStep_0 {l : Launch} {E : EnvT} {d : Nat} {K : AV → Mem → Prop} {M : Mem} {x0 : Int32} (hd : 1 ≤ d)
  (h : ((x0 = iN 3 →
   ((((iN 1) = 0 ∨ (iN 1) = 1)) ∧ K (.int (iN 1), 0) M)) ∧
  (¬ x0 = iN 3 →
   ((x0 = iN 4 →
   ((((iN 0) = 0 ∨ (iN 0) = 1)) ∧ K (.int (iN 0), 0) M)) ∧
  (¬ x0 = iN 4 →
   ((x0 = iN 5 →
   ((((iN 0) = 0 ∨ (iN 0) = 1)) ∧ K (.int (iN 0), 0) M)) ∧
  (¬ x0 = iN 5 →
   ((x0 = iN 6 →
   ((((iN 0) = 0 ∨ (iN 0) = 1)) ∧ K (.int (iN 0), 0) M)) ∧
  (¬ x0 = iN 6 →
   ((x0 = iN 7 →
   ((((iN 0) = 0 ∨ (iN 0) = 1)) ∧ K (.int (iN 0), 0) M)) ∧
  (¬ x0 = iN 7 →
   ((x0 = iN 8 →
   ((((iN 0) = 0 ∨ (iN 0) = 1)) ∧ K (.int (iN 0), 0) M)) ∧
  (¬ x0 = iN 8 →
   ((x0 = iN 9 →
   ((((iN 1) = 0 ∨ (iN 1) = 1)) ∧ K (.int (iN 1), 0) M)) ∧
  (¬ x0 = iN 9 →
   ((x0 = iN 10 →
   ((((iN 0) = 0 ∨ (iN 0) = 1)) ∧ K (.int (iN 0), 0) M)) ∧
  (¬ x0 = iN 10 →
   ((x0 = iN 11 →
   ((((iN 1) = 0 ∨ (iN 1) = 1)) ∧ K (.int (iN 1), 0) M)) ∧
  (¬ x0 = iN 11 →
   ((x0 = iN 12 →
   ((((iN 1) = 0 ∨ (iN 1) = 1)) ∧ K (.int (iN 1), 0) M)) ∧
  (¬ x0 = iN 12 →
   ((x0 = iN 13 →
   ((((iN 1) = 0 ∨ (iN 1) = 1)) ∧ K (.int (iN 1), 0) M)) ∧
  (¬ x0 = iN 13 →
   ((x0 = iN 14 →
   ((((iN 1) = 0 ∨ (iN 1) = 1)) ∧ K (.int (iN 1), 0) M)) ∧
  (¬ x0 = iN 14 →
   ((x0 = iN 15 →
   ((((iN 1) = 0 ∨ (iN 1) = 1)) ∧ K (.int (iN 1), 0) M)) ∧
  (¬ x0 = iN 15 →
   ((x0 = iN 16 →
   ((((iN 1) = 0 ∨ (iN 1) = 1)) ∧ K (.int (iN 1), 0) M)) ∧
  (¬ x0 = iN 16 →
   ((x0 = iN 17 →
   ((((iN 0) = 0 ∨ (iN 0) = 1)) ∧ K (.int (iN 0), 0) M)) ∧
  (¬ x0 = iN 17 →
   ((x0 = iN 18 →
   ((((iN 0) = 0 ∨ (iN 0) = 1)) ∧ K (.int (iN 0), 0) M)) ∧
  (¬ x0 = iN 18 →
   ((x0 = iN 19 →
   ((((iN 1) = 0 ∨ (iN 1) = 1)) ∧ K (.int (iN 1), 0) M)) ∧
  (¬ x0 = iN 19 →
   ((x0 = iN 20 →
   ((((iN 0) = 0 ∨ (iN 0) = 1)) ∧ K (.int (iN 0), 0) M)) ∧
  (¬ x0 = iN 20 →
   ((x0 = iN 21 →
   ((((iN 1) = 0 ∨ (iN 1) = 1)) ∧ K (.int (iN 1), 0) M)) ∧
  (¬ x0 = iN 21 →
   ((((iN 0) = 0 ∨ (iN 0) = 1)) ∧ K (.int (iN 0), 0) M)))))))))))))))))))))))))))))))))))))))) :
  G l E d m_YReader_beginsStep 0 [(0, (.int x0, 0))] [] M K := G.blk 60 _ hd ok_YReader_beginsStep rfl h
def bt_YReader_readTestWord : BtT := [(0, [0, 1, 2], true, [(0, .aload_n 0, 1, 0, 0, 0, m0),
   (1, .getfield 12, 3, 0, 9, 207, m0),
   (4, .invokevirtual 49, 3, 0, 0, 874, m_Tokens_advance),
   (7, .aload_n 0, 1, 0, 0, 0, m0),
   (8, .getfield 12, 3, 0, 9, 207, m0),
   (11, .getfield 38, 3, 8, 5, 162, m0),
   (14, .istore_n 3, 1, 0, 0, 0, m0),
   (15, .aload_n 1, 1, 0, 0, 0, m0),
   (16, .getfield 85, 3, 0, 8, 344, m0),
   (19, .iload_n 2, 1, 0, 0, 0, m0),
   (20, .iload_n 3, 1, 0, 0, 0, m0),
   (21, .iastore, 1, 0, 0, 0, m0),
   (22, .iload_n 3, 1, 0, 0, 0, m0),
   (23, .bipush 17, 2, 0, 0, 0, m0),
   (25, .if_icmp .eq 14, 3, 39, 0, 0, m0),
   (28, .nop, 0, 0, 0, 0, m0)]),
  (28, [], false, [(28, .iload_n 3, 1, 0, 0, 0, m0),
   (29, .iconst 1, 1, 0, 0, 0, m0),
   (30, .if_icmp .eq 9, 3, 39, 0, 0, m0),
   (33, .nop, 0, 0, 0, 0, m0)]),
  (33, [], false, [(33, .iload_n 3, 1, 0, 0, 0, m0),
   (34, .bipush 18, 2, 0, 0, 0, m0),
   (36, .if_icmp .ne 7, 3, 43, 0, 0, m0),
   (39, .nop, 0, 0, 0, 0, m0)]),
  (39, [], false, [(39, .iconst 1, 1, 0, 0, 0, m0),
   (40, .goto 4, 3, 44, 0, 0, m0)]),
  (43, [], false, [(43, .iconst 0, 1, 0, 0, 0, m0),
   (44, .nop, 0, 0, 0, 0, m0)]),
  (44, [], false, [(44, .istore 4, 2, 0, 0, 0, m0),
   (46, .iload 4, 2, 0, 0, 0, m0),
   (48, .ifCond .ne 14, 3, 62, 0, 0, m0),
   (51, .nop, 0, 0, 0, 0, m0)]),
  (51, [], false, [(51, .aload_n 0, 1, 0, 0, 0, m0),
   (52, .getfield 12, 3, 0, 9, 207, m0),
   (55, .iconst 2, 1, 0, 0, 0, m0),
   (56, .invokevirtual 56, 3, 0, 0, 853, m_Tokens_refuse),
   (59, .ifCond .eq 7, 3, 66, 0, 0, m0),
   (62, .nop, 0, 0, 0, 0, m0)]),
  (62, [], false, [(62, .iconst 1, 1, 0, 0, 0, m0),
   (63, .goto 4, 3, 67, 0, 0, m0)]),
  (66, [], false, [(66, .iconst 0, 1, 0, 0, 0, m0),
   (67, .nop, 0, 0, 0, 0, m0)]),
  (67, [], false, [(67, .ireturn, 1, 0, 0, 0, m0)])]
theorem ok_YReader_readTestWord : okBt m_YReader_readTestWord bt_YReader_readTestWord = true := by decide +kernel
set_option maxRecDepth 100000 in
theorem b_YReader_readTestWord_0 {l : Launch} {E : EnvT} {d : Nat} {K : AV → Mem → Prop} {M : Mem} {r2 : Nat} {x2 : Int32} (hd : 1 ≤ d)
  (h : CT l E (d - 1) m_Tokens_advance [(.ref 4, 4)] M (fun v1 M1 =>
   (vp_in x2 60 ∧ (((iN (M1 4 0 8)) = (iN 17) →
    ((¬ (iN 1) = 0 →
     ((((iN 1) = 0 ∨ (iN 1) = 1)) ∧ K (.int (iN 1), 0) (upd3 M1 r2 1 (x2).toNatClampNeg ((iN (M1 4 0 8))).toInt))) ∧
    ((iN 1) = 0 →
     CT l E (d - 1) m_Tokens_refuse [(.ref 4, 4), (.int (iN 2), 0)] (upd3 M1 r2 1 (x2).toNatClampNeg ((iN (M1 4 0 8))).toInt) (fun v2 M2 =>
      (((toI v2) = 0 →
       ((((iN 0) = 0 ∨ (iN 0) = 1)) ∧ K (.int (iN 0), 0) M2)) ∧
      (¬ (toI v2) = 0 →
       ((((iN 1) = 0 ∨ (iN 1) = 1)) ∧ K (.int (iN 1), 0) M2))))))) ∧
   (¬ (iN (M1 4 0 8)) = (iN 17) →
    (((iN (M1 4 0 8)) = (iN 1) →
     ((¬ (iN 1) = 0 →
      ((((iN 1) = 0 ∨ (iN 1) = 1)) ∧ K (.int (iN 1), 0) (upd3 M1 r2 1 (x2).toNatClampNeg ((iN (M1 4 0 8))).toInt))) ∧
     ((iN 1) = 0 →
      CT l E (d - 1) m_Tokens_refuse [(.ref 4, 4), (.int (iN 2), 0)] (upd3 M1 r2 1 (x2).toNatClampNeg ((iN (M1 4 0 8))).toInt) (fun v3 M3 =>
       (((toI v3) = 0 →
        ((((iN 0) = 0 ∨ (iN 0) = 1)) ∧ K (.int (iN 0), 0) M3)) ∧
       (¬ (toI v3) = 0 →
        ((((iN 1) = 0 ∨ (iN 1) = 1)) ∧ K (.int (iN 1), 0) M3))))))) ∧
    (¬ (iN (M1 4 0 8)) = (iN 1) →
     ((¬ (iN (M1 4 0 8)) = (iN 18) →
      ((¬ (iN 0) = 0 →
       ((((iN 1) = 0 ∨ (iN 1) = 1)) ∧ K (.int (iN 1), 0) (upd3 M1 r2 1 (x2).toNatClampNeg ((iN (M1 4 0 8))).toInt))) ∧
      ((iN 0) = 0 →
       CT l E (d - 1) m_Tokens_refuse [(.ref 4, 4), (.int (iN 2), 0)] (upd3 M1 r2 1 (x2).toNatClampNeg ((iN (M1 4 0 8))).toInt) (fun v4 M4 =>
        (((toI v4) = 0 →
         ((((iN 0) = 0 ∨ (iN 0) = 1)) ∧ K (.int (iN 0), 0) M4)) ∧
        (¬ (toI v4) = 0 →
         ((((iN 1) = 0 ∨ (iN 1) = 1)) ∧ K (.int (iN 1), 0) M4))))))) ∧
     ((iN (M1 4 0 8)) = (iN 18) →
      ((¬ (iN 1) = 0 →
       ((((iN 1) = 0 ∨ (iN 1) = 1)) ∧ K (.int (iN 1), 0) (upd3 M1 r2 1 (x2).toNatClampNeg ((iN (M1 4 0 8))).toInt))) ∧
      ((iN 1) = 0 →
       CT l E (d - 1) m_Tokens_refuse [(.ref 4, 4), (.int (iN 2), 0)] (upd3 M1 r2 1 (x2).toNatClampNeg ((iN (M1 4 0 8))).toInt) (fun v5 M5 =>
        (((toI v5) = 0 →
         ((((iN 0) = 0 ∨ (iN 0) = 1)) ∧ K (.int (iN 0), 0) M5)) ∧
        (¬ (toI v5) = 0 →
         ((((iN 1) = 0 ∨ (iN 1) = 1)) ∧ K (.int (iN 1), 0) M5))))))))))))))) :
  G l E d m_YReader_readTestWord 0 [(0, (.ref 3, 6)), (1, (.ref r2, 23)), (2, (.int x2, 0))] [] M K := G.blk 60 _ hd ok_YReader_readTestWord rfl h
def bt_YReader_tailOf : BtT := [(0, [0], true, [(0, .iload_n 0, 1, 0, 0, 0, m0),
   (1, .tableswitch 109 1 19 #[97, 109, 103, 109, 109, 109, 109, 109, 91, 109, 91, 109, 103, 100, 109, 109, 94, 103, 106], 91, 0, 0, 0, m0)]),
  (92, [], false, [(92, .ldc 88, 2, 2, 1, 0, m0),
   (94, .areturn, 1, 0, 0, 0, m0)]),
  (95, [], false, [(95, .ldc 90, 2, 2, 2, 0, m0),
   (97, .areturn, 1, 0, 0, 0, m0)]),
  (98, [], false, [(98, .ldc 92, 2, 2, 3, 0, m0),
   (100, .areturn, 1, 0, 0, 0, m0)]),
  (101, [], false, [(101, .ldc 94, 2, 2, 4, 0, m0),
   (103, .areturn, 1, 0, 0, 0, m0)]),
  (104, [], false, [(104, .ldc 96, 2, 2, 5, 0, m0),
   (106, .areturn, 1, 0, 0, 0, m0)]),
  (107, [], false, [(107, .ldc 98, 2, 2, 6, 0, m0),
   (109, .areturn, 1, 0, 0, 0, m0)]),
  (110, [], false, [(110, .ldc 100, 2, 2, 7, 0, m0),
   (112, .areturn, 1, 0, 0, 0, m0)])]
theorem ok_YReader_tailOf : okBt m_YReader_tailOf bt_YReader_tailOf = true := by decide +kernel
set_option maxRecDepth 100000 in
theorem b_YReader_tailOf_0 {l : Launch} {E : EnvT} {d : Nat} {K : AV → Mem → Prop} {M : Mem} {x0 : Int32} (hd : 1 ≤ d)
  (h : ((x0 = iN 1 →
   K (.ref 3, 999) M) ∧
  (¬ x0 = iN 1 →
   ((x0 = iN 2 →
   K (.ref 7, 999) M) ∧
  (¬ x0 = iN 2 →
   ((x0 = iN 3 →
   K (.ref 5, 999) M) ∧
  (¬ x0 = iN 3 →
   ((x0 = iN 4 →
   K (.ref 7, 999) M) ∧
  (¬ x0 = iN 4 →
   ((x0 = iN 5 →
   K (.ref 7, 999) M) ∧
  (¬ x0 = iN 5 →
   ((x0 = iN 6 →
   K (.ref 7, 999) M) ∧
  (¬ x0 = iN 6 →
   ((x0 = iN 7 →
   K (.ref 7, 999) M) ∧
  (¬ x0 = iN 7 →
   ((x0 = iN 8 →
   K (.ref 7, 999) M) ∧
  (¬ x0 = iN 8 →
   ((x0 = iN 9 →
   K (.ref 1, 999) M) ∧
  (¬ x0 = iN 9 →
   ((x0 = iN 10 →
   K (.ref 7, 999) M) ∧
  (¬ x0 = iN 10 →
   ((x0 = iN 11 →
   K (.ref 1, 999) M) ∧
  (¬ x0 = iN 11 →
   ((x0 = iN 12 →
   K (.ref 7, 999) M) ∧
  (¬ x0 = iN 12 →
   ((x0 = iN 13 →
   K (.ref 5, 999) M) ∧
  (¬ x0 = iN 13 →
   ((x0 = iN 14 →
   K (.ref 4, 999) M) ∧
  (¬ x0 = iN 14 →
   ((x0 = iN 15 →
   K (.ref 7, 999) M) ∧
  (¬ x0 = iN 15 →
   ((x0 = iN 16 →
   K (.ref 7, 999) M) ∧
  (¬ x0 = iN 16 →
   ((x0 = iN 17 →
   K (.ref 2, 999) M) ∧
  (¬ x0 = iN 17 →
   ((x0 = iN 18 →
   K (.ref 5, 999) M) ∧
  (¬ x0 = iN 18 →
   ((x0 = iN 19 →
   K (.ref 6, 999) M) ∧
  (¬ x0 = iN 19 →
   K (.ref 7, 999) M))))))))))))))))))))))))))))))))))))))) :
  G l E d m_YReader_tailOf 0 [(0, (.int x0, 0))] [] M K := G.blk 60 _ hd ok_YReader_tailOf rfl h
def bt_YReader_leastOf : BtT := [(0, [0], true, [(0, .iload_n 0, 1, 0, 0, 0, m0),
   (1, .bipush 17, 2, 0, 0, 0, m0),
   (3, .if_icmp .eq 8, 3, 11, 0, 0, m0),
   (6, .nop, 0, 0, 0, 0, m0)]),
  (6, [], false, [(6, .iload_n 0, 1, 0, 0, 0, m0),
   (7, .iconst 1, 1, 0, 0, 0, m0),
   (8, .if_icmp .ne 7, 3, 15, 0, 0, m0),
   (11, .nop, 0, 0, 0, 0, m0)]),
  (11, [], false, [(11, .iconst 0, 1, 0, 0, 0, m0),
   (12, .goto 4, 3, 16, 0, 0, m0)]),
  (15, [], false, [(15, .iconst 1, 1, 0, 0, 0, m0),
   (16, .nop, 0, 0, 0, 0, m0)]),
  (16, [], false, [(16, .ireturn, 1, 0, 0, 0, m0)])]
theorem ok_YReader_leastOf : okBt m_YReader_leastOf bt_YReader_leastOf = true := by decide +kernel
set_option maxRecDepth 100000 in
theorem b_YReader_leastOf_0 {l : Launch} {E : EnvT} {d : Nat} {K : AV → Mem → Prop} {M : Mem} {x0 : Int32} (hd : 1 ≤ d)
  (h : ((x0 = (iN 17) →
   K (.int (iN 0), 0) M) ∧
  (¬ x0 = (iN 17) →
   ((¬ x0 = (iN 1) →
    K (.int (iN 1), 0) M) ∧
   (x0 = (iN 1) →
    K (.int (iN 0), 0) M))))) :
  G l E d m_YReader_leastOf 0 [(0, (.int x0, 0))] [] M K := G.blk 60 _ hd ok_YReader_leastOf rfl h
def bt_YReader_mostOf : BtT := [(0, [0], true, [(0, .iload_n 0, 1, 0, 0, 0, m0),
   (1, .lookupswitch 45 #[(1, 41), (9, 35), (19, 38)], 35, 0, 0, 0, m0)]),
  (36, [], false, [(36, .bipush 99, 2, 0, 0, 0, m0),
   (38, .ireturn, 1, 0, 0, 0, m0)]),
  (39, [], false, [(39, .bipush 99, 2, 0, 0, 0, m0),
   (41, .ireturn, 1, 0, 0, 0, m0)]),
  (42, [], false, [(42, .sipush 9999, 3, 0, 0, 0, m0),
   (45, .ireturn, 1, 0, 0, 0, m0)]),
  (46, [], false, [(46, .sipush 999, 3, 0, 0, 0, m0),
   (49, .ireturn, 1, 0, 0, 0, m0)])]
theorem ok_YReader_mostOf : okBt m_YReader_mostOf bt_YReader_mostOf = true := by decide +kernel
set_option maxRecDepth 100000 in
theorem b_YReader_mostOf_0 {l : Launch} {E : EnvT} {d : Nat} {K : AV → Mem → Prop} {M : Mem} {x0 : Int32} (hd : 1 ≤ d)
  (h : ((x0 = iN 1 →
   K (.int (iN 9999), 0) M) ∧
  (¬ x0 = iN 1 →
   ((x0 = iN 9 →
   K (.int (iN 99), 0) M) ∧
  (¬ x0 = iN 9 →
   ((x0 = iN 19 →
   K (.int (iN 99), 0) M) ∧
  (¬ x0 = iN 19 →
   K (.int (iN 999), 0) M))))))) :
  G l E d m_YReader_mostOf 0 [(0, (.int x0, 0))] [] M K := G.blk 60 _ hd ok_YReader_mostOf rfl h
def bt_YReader_readTail : BtT := [(0, [0, 1, 2, 3], true, [(0, .aload_n 2, 1, 0, 0, 0, m0),
   (1, .getfield 85, 3, 0, 8, 344, m0),
   (4, .iload_n 3, 1, 0, 0, 0, m0),
   (5, .iaload, 1, 0, 0, 0, m0),
   (6, .invokestatic 102, 3, 0, 0, 879, m_YReader_tailOf),
   (9, .astore 4, 2, 0, 0, 0, m0),
   (11, .iconst 1, 1, 0, 0, 0, m0),
   (12, .istore 5, 2, 0, 0, 0, m0),
   (14, .iconst 0, 1, 0, 0, 0, m0),
   (15, .istore 6, 2, 0, 0, 0, m0),
   (17, .nop, 0, 0, 0, 0, m0)]),
  (17, [0, 1, 2, 3, 4, 5, 6], true, [(17, .iload 6, 2, 0, 0, 0, m0),
   (19, .aload 4, 2, 0, 0, 0, m0),
   (21, .invokevirtual 106, 3, 0, 0, 889, m_Str_length),
   (24, .if_icmp .ge 215, 3, 239, 0, 0, m0),
   (27, .nop, 0, 0, 0, 0, m0)]),
  (27, [], false, [(27, .iload 5, 2, 0, 0, 0, m0),
   (29, .ifCond .eq 210, 3, 239, 0, 0, m0),
   (32, .nop, 0, 0, 0, 0, m0)]),
  (32, [], false, [(32, .aload 4, 2, 0, 0, 0, m0),
   (34, .iload 6, 2, 0, 0, 0, m0),
   (36, .invokevirtual 112, 3, 0, 0, 890, m_Str_charAt),
   (39, .istore 7, 2, 0, 0, 0, m0),
   (41, .iload 7, 2, 0, 0, 0, m0),
   (43, .lookupswitch 150 #[(97, 41), (98, 76), (99, 125), (116, 111)], 41, 0, 0, 0, m0)]),
  (84, [], false, [(84, .aload_n 2, 1, 0, 0, 0, m0),
   (85, .getfield 116, 3, 1, 8, 347, m0),
   (88, .iload_n 3, 1, 0, 0, 0, m0),
   (89, .aload_n 0, 1, 0, 0, 0, m0),
   (90, .getfield 12, 3, 0, 9, 207, m0),
   (93, .aload_n 1, 1, 0, 0, 0, m0),
   (94, .iconst (-1), 1, 0, 0, 0, m0),
   (95, .invokevirtual 119, 3, 0, 0, 891, m_Tokens_takeSinger),
   (98, .iastore, 1, 0, 0, 0, m0),
   (99, .aload_n 2, 1, 0, 0, 0, m0),
   (100, .getfield 116, 3, 1, 8, 347, m0),
   (103, .iload_n 3, 1, 0, 0, 0, m0),
   (104, .iaload, 1, 0, 0, 0, m0),
   (105, .iconst (-1), 1, 0, 0, 0, m0),
   (106, .if_icmp .eq 7, 3, 113, 0, 0, m0),
   (109, .nop, 0, 0, 0, 0, m0)]),
  (109, [], false, [(109, .iconst 1, 1, 0, 0, 0, m0),
   (110, .goto 4, 3, 114, 0, 0, m0)]),
  (113, [], false, [(113, .iconst 0, 1, 0, 0, 0, m0),
   (114, .nop, 0, 0, 0, 0, m0)]),
  (114, [], false, [(114, .istore 5, 2, 0, 0, 0, m0),
   (116, .goto 117, 3, 233, 0, 0, m0)]),
  (119, [], false, [(119, .aload_n 2, 1, 0, 0, 0, m0),
   (120, .getfield 123, 3, 2, 8, 350, m0),
   (123, .iload_n 3, 1, 0, 0, 0, m0),
   (124, .aload_n 0, 1, 0, 0, 0, m0),
   (125, .getfield 12, 3, 0, 9, 207, m0),
   (128, .aload_n 1, 1, 0, 0, 0, m0),
   (129, .iconst (-1), 1, 0, 0, 0, m0),
   (130, .invokevirtual 119, 3, 0, 0, 891, m_Tokens_takeSinger),
   (133, .iastore, 1, 0, 0, 0, m0),
   (134, .aload_n 2, 1, 0, 0, 0, m0),
   (135, .getfield 123, 3, 2, 8, 350, m0),
   (138, .iload_n 3, 1, 0, 0, 0, m0),
   (139, .iaload, 1, 0, 0, 0, m0),
   (140, .iconst (-1), 1, 0, 0, 0, m0),
   (141, .if_icmp .eq 7, 3, 148, 0, 0, m0),
   (144, .nop, 0, 0, 0, 0, m0)]),
  (144, [], false, [(144, .iconst 1, 1, 0, 0, 0, m0),
   (145, .goto 4, 3, 149, 0, 0, m0)]),
  (148, [], false, [(148, .iconst 0, 1, 0, 0, 0, m0),
   (149, .nop, 0, 0, 0, 0, m0)]),
  (149, [], false, [(149, .istore 5, 2, 0, 0, 0, m0),
   (151, .goto 82, 3, 233, 0, 0, m0)]),
  (154, [], false, [(154, .aload_n 0, 1, 0, 0, 0, m0),
   (155, .getfield 12, 3, 0, 9, 207, m0),
   (158, .bipush 10, 2, 0, 0, 0, m0),
   (160, .invokevirtual 126, 3, 0, 0, 892, m_Tokens_takeKeyword),
   (163, .istore 5, 2, 0, 0, 0, m0),
   (165, .goto 68, 3, 233, 0, 0, m0)]),
  (168, [], false, [(168, .aload_n 0, 1, 0, 0, 0, m0),
   (169, .getfield 12, 3, 0, 9, 207, m0),
   (172, .invokevirtual 129, 3, 0, 0, 893, m_Tokens_takeCompares),
   (175, .istore 5, 2, 0, 0, 0, m0),
   (177, .aload_n 2, 1, 0, 0, 0, m0),
   (178, .getfield 133, 3, 4, 8, 356, m0),
   (181, .iload_n 3, 1, 0, 0, 0, m0),
   (182, .aload_n 0, 1, 0, 0, 0, m0),
   (183, .getfield 12, 3, 0, 9, 207, m0),
   (186, .getfield 136, 3, 6, 5, 158, m0),
   (189, .iastore, 1, 0, 0, 0, m0),
   (190, .goto 43, 3, 233, 0, 0, m0)]),
  (193, [], false, [(193, .aload_n 0, 1, 0, 0, 0, m0),
   (194, .getfield 12, 3, 0, 9, 207, m0),
   (197, .aload_n 2, 1, 0, 0, 0, m0),
   (198, .getfield 85, 3, 0, 8, 344, m0),
   (201, .iload_n 3, 1, 0, 0, 0, m0),
   (202, .iaload, 1, 0, 0, 0, m0),
   (203, .invokestatic 139, 3, 0, 0, 897, m_YReader_leastOf),
   (206, .aload_n 2, 1, 0, 0, 0, m0),
   (207, .getfield 85, 3, 0, 8, 344, m0),
   (210, .iload_n 3, 1, 0, 0, 0, m0),
   (211, .iaload, 1, 0, 0, 0, m0),
   (212, .invokestatic 142, 3, 0, 0, 900, m_YReader_mostOf),
   (215, .invokevirtual 145, 3, 0, 0, 903, m_Tokens_takeNumber),
   (218, .istore 5, 2, 0, 0, 0, m0),
   (220, .aload_n 2, 1, 0, 0, 0, m0),
   (221, .getfield 149, 3, 3, 8, 353, m0),
   (224, .iload_n 3, 1, 0, 0, 0, m0),
   (225, .aload_n 0, 1, 0, 0, 0, m0),
   (226, .getfield 12, 3, 0, 9, 207, m0),
   (229, .getfield 152, 3, 5, 5, 156, m0),
   (232, .iastore, 1, 0, 0, 0, m0),
   (233, .nop, 0, 0, 0, 0, m0)]),
  (233, [], false, [(233, .iinc 6 1, 3, 0, 0, 0, m0),
   (236, .goto (-219), 3, 17, 0, 0, m0)]),
  (239, [], false, [(239, .iload 5, 2, 0, 0, 0, m0),
   (241, .ireturn, 1, 0, 0, 0, m0)])]
theorem ok_YReader_readTail : okBt m_YReader_readTail bt_YReader_readTail = true := by decide +kernel
set_option maxRecDepth 100000 in
theorem b_YReader_readTail_0 {l : Launch} {E : EnvT} {d : Nat} {K : AV → Mem → Prop} {M : Mem} {r2 r3 : Nat} {x3 : Int32} (hd : 1 ≤ d)
  (h : (vp_in x3 60 ∧ CT l E (d - 1) m_YReader_tailOf [(.int (iN (M r3 1 (x3).toNatClampNeg)), 0)] M (fun v1 M1 =>
   G l E d m_YReader_readTail 17 [(0, (.ref 3, 6)), (1, (.ref r2, 11)), (2, (.ref r3, 23)), (3, (.int x3, 0)), (4, (.ref (toR v1), 999)), (5, (.int (iN 1), 0)), (6, (.int (iN 0), 0))] [] M1 K))) :
  G l E d m_YReader_readTail 0 [(0, (.ref 3, 6)), (1, (.ref r2, 11)), (2, (.ref r3, 23)), (3, (.int x3, 0))] [] M K := G.blk 60 _ hd ok_YReader_readTail rfl h
set_option maxRecDepth 100000 in
theorem b_YReader_readTail_17 {l : Launch} {E : EnvT} {d : Nat} {K : AV → Mem → Prop} {M : Mem} {r2 r3 q4 : Nat} {x3 : Int32} {x5 : Int32} {x6 : Int32} (hd : 1 ≤ d)
  (h : CT l E (d - 1) m_Str_length [(.ref q4, 999)] M (fun v1 M1 =>
   (((toI v1) ≤ x6 →
    (((x5 = 0 ∨ x5 = 1)) ∧ K (.int x5, 0) M1)) ∧
   (¬ (toI v1) ≤ x6 →
    ((x5 = 0 →
     (((x5 = 0 ∨ x5 = 1)) ∧ K (.int x5, 0) M1)) ∧
    (¬ x5 = 0 →
     CT l E (d - 1) m_Str_charAt [(.ref q4, 999), (.int x6, 0)] M1 (fun v2 M2 =>
      (((toI v2) = iN 97 →
       CT l E (d - 1) m_Tokens_takeSinger [(.ref 4, 4), (.ref r2, 11), (.int (iN (-1)), 0)] M2 (fun v9 M9 =>
        (vp_in x3 60 ∧ vp_in x3 60 ∧ (((iN ((upd3 M9 r3 2 (x3).toNatClampNeg ((toI v9)).toInt) r3 2 (x3).toNatClampNeg)) = (iN (-1)) →
         G l E d m_YReader_readTail 17 [(0, (.ref 3, 6)), (1, (.ref r2, 11)), (2, (.ref r3, 23)), (3, (.int x3, 0)), (4, (.ref q4, 999)), (5, (.int (iN 0), 0)), (6, (.int (x6 + iN 1), 0))] [] (upd3 M9 r3 2 (x3).toNatClampNeg ((toI v9)).toInt) K) ∧
        (¬ (iN ((upd3 M9 r3 2 (x3).toNatClampNeg ((toI v9)).toInt) r3 2 (x3).toNatClampNeg)) = (iN (-1)) →
         G l E d m_YReader_readTail 17 [(0, (.ref 3, 6)), (1, (.ref r2, 11)), (2, (.ref r3, 23)), (3, (.int x3, 0)), (4, (.ref q4, 999)), (5, (.int (iN 1), 0)), (6, (.int (x6 + iN 1), 0))] [] (upd3 M9 r3 2 (x3).toNatClampNeg ((toI v9)).toInt) K))))) ∧
      (¬ (toI v2) = iN 97 →
       (((toI v2) = iN 98 →
       CT l E (d - 1) m_Tokens_takeSinger [(.ref 4, 4), (.ref r2, 11), (.int (iN (-1)), 0)] M2 (fun v8 M8 =>
        (vp_in x3 60 ∧ vp_in x3 60 ∧ (((iN ((upd3 M8 r3 3 (x3).toNatClampNeg ((toI v8)).toInt) r3 3 (x3).toNatClampNeg)) = (iN (-1)) →
         G l E d m_YReader_readTail 17 [(0, (.ref 3, 6)), (1, (.ref r2, 11)), (2, (.ref r3, 23)), (3, (.int x3, 0)), (4, (.ref q4, 999)), (5, (.int (iN 0), 0)), (6, (.int (x6 + iN 1), 0))] [] (upd3 M8 r3 3 (x3).toNatClampNeg ((toI v8)).toInt) K) ∧
        (¬ (iN ((upd3 M8 r3 3 (x3).toNatClampNeg ((toI v8)).toInt) r3 3 (x3).toNatClampNeg)) = (iN (-1)) →
         G l E d m_YReader_readTail 17 [(0, (.ref 3, 6)), (1, (.ref r2, 11)), (2, (.ref r3, 23)), (3, (.int x3, 0)), (4, (.ref q4, 999)), (5, (.int (iN 1), 0)), (6, (.int (x6 + iN 1), 0))] [] (upd3 M8 r3 3 (x3).toNatClampNeg ((toI v8)).toInt) K))))) ∧
      (¬ (toI v2) = iN 98 →
       (((toI v2) = iN 99 →
       CT l E (d - 1) m_Tokens_takeCompares [(.ref 4, 4)] M2 (fun v7 M7 =>
        (vp_in x3 60 ∧ G l E d m_YReader_readTail 17 [(0, (.ref 3, 6)), (1, (.ref r2, 11)), (2, (.ref r3, 23)), (3, (.int x3, 0)), (4, (.ref q4, 999)), (5, (.int (toI v7), 0)), (6, (.int (x6 + iN 1), 0))] [] (upd3 M7 r3 5 (x3).toNatClampNeg ((iN (M7 4 0 6))).toInt) K))) ∧
      (¬ (toI v2) = iN 99 →
       (((toI v2) = iN 116 →
       CT l E (d - 1) m_Tokens_takeKeyword [(.ref 4, 4), (.int (iN 10), 0)] M2 (fun v6 M6 =>
        G l E d m_YReader_readTail 17 [(0, (.ref 3, 6)), (1, (.ref r2, 11)), (2, (.ref r3, 23)), (3, (.int x3, 0)), (4, (.ref q4, 999)), (5, (.int (toI v6), 0)), (6, (.int (x6 + iN 1), 0))] [] M6 K)) ∧
      (¬ (toI v2) = iN 116 →
       (vp_in x3 60 ∧ CT l E (d - 1) m_YReader_leastOf [(.int (iN (M2 r3 1 (x3).toNatClampNeg)), 0)] M2 (fun v3 M3 =>
        (vp_in x3 60 ∧ CT l E (d - 1) m_YReader_mostOf [(.int (iN (M3 r3 1 (x3).toNatClampNeg)), 0)] M3 (fun v4 M4 =>
         CT l E (d - 1) m_Tokens_takeNumber [(.ref 4, 4), (.int (toI v3), 0), (.int (toI v4), 0)] M4 (fun v5 M5 =>
          (vp_in x3 60 ∧ G l E d m_YReader_readTail 17 [(0, (.ref 3, 6)), (1, (.ref r2, 11)), (2, (.ref r3, 23)), (3, (.int x3, 0)), (4, (.ref q4, 999)), (5, (.int (toI v5), 0)), (6, (.int (x6 + iN 1), 0))] [] (upd3 M5 r3 4 (x3).toNatClampNeg ((iN (M5 4 0 5))).toInt) K))))))))))))))))))))) :
  G l E d m_YReader_readTail 17 [(0, (.ref 3, 6)), (1, (.ref r2, 11)), (2, (.ref r3, 23)), (3, (.int x3, 0)), (4, (.ref q4, 999)), (5, (.int x5, 0)), (6, (.int x6, 0))] [] M K := G.blk 60 _ hd ok_YReader_readTail rfl h
def bt_YReader_readStep : BtT := [(0, [0, 1, 2], true, [(0, .aload_n 0, 1, 0, 0, 0, m0),
   (1, .getfield 12, 3, 0, 9, 207, m0),
   (4, .getfield 38, 3, 8, 5, 162, m0),
   (7, .istore_n 3, 1, 0, 0, 0, m0),
   (8, .iload_n 3, 1, 0, 0, 0, m0),
   (9, .invokestatic 67, 3, 0, 0, 863, m_YReader_beginsStep),
   (12, .ifCond .ne 12, 3, 24, 0, 0, m0),
   (15, .nop, 0, 0, 0, 0, m0)]),
  (15, [], false, [(15, .aload_n 0, 1, 0, 0, 0, m0),
   (16, .getfield 12, 3, 0, 9, 207, m0),
   (19, .iconst 2, 1, 0, 0, 0, m0),
   (20, .invokevirtual 56, 3, 0, 0, 853, m_Tokens_refuse),
   (23, .ireturn, 1, 0, 0, 0, m0)]),
  (24, [], false, [(24, .aload_n 2, 1, 0, 0, 0, m0),
   (25, .getfield 70, 3, 7, 8, 362, m0),
   (28, .bipush 30, 2, 0, 0, 0, m0),
   (30, .if_icmp .lt 13, 3, 43, 0, 0, m0),
   (33, .nop, 0, 0, 0, 0, m0)]),
  (33, [], false, [(33, .aload_n 0, 1, 0, 0, 0, m0),
   (34, .getfield 12, 3, 0, 9, 207, m0),
   (37, .bipush 6, 2, 0, 0, 0, m0),
   (39, .invokevirtual 56, 3, 0, 0, 853, m_Tokens_refuse),
   (42, .ireturn, 1, 0, 0, 0, m0)]),
  (43, [], false, [(43, .iload_n 3, 1, 0, 0, 0, m0),
   (44, .bipush 16, 2, 0, 0, 0, m0),
   (46, .if_icmp .eq 9, 3, 55, 0, 0, m0),
   (49, .nop, 0, 0, 0, 0, m0)]),
  (49, [], false, [(49, .iload_n 3, 1, 0, 0, 0, m0),
   (50, .bipush 19, 2, 0, 0, 0, m0),
   (52, .if_icmp .ne 7, 3, 59, 0, 0, m0),
   (55, .nop, 0, 0, 0, 0, m0)]),
  (55, [], false, [(55, .iconst 1, 1, 0, 0, 0, m0),
   (56, .goto 4, 3, 60, 0, 0, m0)]),
  (59, [], false, [(59, .iconst 0, 1, 0, 0, 0, m0),
   (60, .nop, 0, 0, 0, 0, m0)]),
  (60, [], false, [(60, .istore 4, 2, 0, 0, 0, m0),
   (62, .iload 4, 2, 0, 0, 0, m0),
   (64, .ifCond .eq 21, 3, 85, 0, 0, m0),
   (67, .nop, 0, 0, 0, 0, m0)]),
  (67, [], false, [(67, .aload_n 0, 1, 0, 0, 0, m0),
   (68, .getfield 22, 3, 2, 9, 210, m0),
   (71, .iconst 3, 1, 0, 0, 0, m0),
   (72, .if_icmp .lt 13, 3, 85, 0, 0, m0),
   (75, .nop, 0, 0, 0, 0, m0)]),
  (75, [], false, [(75, .aload_n 0, 1, 0, 0, 0, m0),
   (76, .getfield 12, 3, 0, 9, 207, m0),
   (79, .bipush 7, 2, 0, 0, 0, m0),
   (81, .invokevirtual 56, 3, 0, 0, 853, m_Tokens_refuse),
   (84, .ireturn, 1, 0, 0, 0, m0)]),
  (85, [0, 1, 2, 3, 4], true, [(85, .aload_n 2, 1, 0, 0, 0, m0),
   (86, .iload_n 3, 1, 0, 0, 0, m0),
   (87, .invokevirtual 73, 3, 0, 0, 866, m_Years_addStep),
   (90, .istore 5, 2, 0, 0, 0, m0),
   (92, .iload 4, 2, 0, 0, 0, m0),
   (94, .ifCond .eq 24, 3, 118, 0, 0, m0),
   (97, .nop, 0, 0, 0, 0, m0)]),
  (97, [], false, [(97, .aload_n 0, 1, 0, 0, 0, m0),
   (98, .getfield 18, 3, 1, 9, 209, m0),
   (101, .aload_n 0, 1, 0, 0, 0, m0),
   (102, .getfield 22, 3, 2, 9, 210, m0),
   (105, .iload 5, 2, 0, 0, 0, m0),
   (107, .iastore, 1, 0, 0, 0, m0),
   (108, .aload_n 0, 1, 0, 0, 0, m0),
   (109, .dup, 1, 0, 0, 0, m0),
   (110, .getfield 22, 3, 2, 9, 210, m0),
   (113, .iconst 1, 1, 0, 0, 0, m0),
   (114, .iadd, 1, 0, 0, 0, m0),
   (115, .putfield 22, 3, 2, 9, 210, m0),
   (118, .nop, 0, 0, 0, 0, m0)]),
  (118, [], false, [(118, .iload_n 3, 1, 0, 0, 0, m0),
   (119, .bipush 16, 2, 0, 0, 0, m0),
   (121, .if_icmp .ne 15, 3, 136, 0, 0, m0),
   (124, .nop, 0, 0, 0, 0, m0)]),
  (124, [], false, [(124, .aload_n 0, 1, 0, 0, 0, m0),
   (125, .aload_n 2, 1, 0, 0, 0, m0),
   (126, .iload 5, 2, 0, 0, 0, m0),
   (128, .invokevirtual 77, 3, 0, 0, 870, m_YReader_readTestWord),
   (131, .ifCond .ne 5, 3, 136, 0, 0, m0),
   (134, .nop, 0, 0, 0, 0, m0)]),
  (134, [], false, [(134, .iconst 0, 1, 0, 0, 0, m0),
   (135, .ireturn, 1, 0, 0, 0, m0)]),
  (136, [], false, [(136, .aload_n 0, 1, 0, 0, 0, m0),
   (137, .aload_n 1, 1, 0, 0, 0, m0),
   (138, .aload_n 2, 1, 0, 0, 0, m0),
   (139, .iload 5, 2, 0, 0, 0, m0),
   (141, .invokevirtual 81, 3, 0, 0, 875, m_YReader_readTail),
   (144, .ifCond .eq 19, 3, 163, 0, 0, m0),
   (147, .nop, 0, 0, 0, 0, m0)]),
  (147, [], false, [(147, .aload_n 0, 1, 0, 0, 0, m0),
   (148, .getfield 12, 3, 0, 9, 207, m0),
   (151, .bipush 59, 2, 0, 0, 0, m0),
   (153, .invokevirtual 64, 3, 0, 0, 858, m_Tokens_takeSign),
   (156, .ifCond .eq 7, 3, 163, 0, 0, m0),
   (159, .nop, 0, 0, 0, 0, m0)]),
  (159, [], false, [(159, .iconst 1, 1, 0, 0, 0, m0),
   (160, .goto 4, 3, 164, 0, 0, m0)]),
  (163, [], false, [(163, .iconst 0, 1, 0, 0, 0, m0),
   (164, .nop, 0, 0, 0, 0, m0)]),
  (164, [], false, [(164, .ireturn, 1, 0, 0, 0, m0)])]
theorem ok_YReader_readStep : okBt m_YReader_readStep bt_YReader_readStep = true := by decide +kernel
set_option maxRecDepth 100000 in
theorem b_YReader_readStep_0 {l : Launch} {E : EnvT} {d : Nat} {K : AV → Mem → Prop} {M : Mem} {r2 r3 : Nat}  (hd : 1 ≤ d)
  (h : CT l E (d - 1) m_YReader_beginsStep [(.int (iN (M 4 0 8)), 0)] M (fun v1 M1 =>
   ((¬ (toI v1) = 0 →
    (((iN (M1 r3 0 7)) < (iN 30) →
     (((iN (M 4 0 8)) = (iN 16) →
      (((iN 1) = 0 →
       G l E d m_YReader_readStep 85 [(0, (.ref 3, 6)), (1, (.ref r2, 11)), (2, (.ref r3, 23)), (3, (.int (iN (M 4 0 8)), 0)), (4, (.int (iN 1), 0))] [] M1 K) ∧
      (¬ (iN 1) = 0 →
       (((iN (M1 3 0 2)) < (iN 3) →
        G l E d m_YReader_readStep 85 [(0, (.ref 3, 6)), (1, (.ref r2, 11)), (2, (.ref r3, 23)), (3, (.int (iN (M 4 0 8)), 0)), (4, (.int (iN 1), 0))] [] M1 K) ∧
       (¬ (iN (M1 3 0 2)) < (iN 3) →
        CT l E (d - 1) m_Tokens_refuse [(.ref 4, 4), (.int (iN 7), 0)] M1 (fun v2 M2 =>
         ((((toI v2) = 0 ∨ (toI v2) = 1)) ∧ K (.int (toI v2), 0) M2))))))) ∧
     (¬ (iN (M 4 0 8)) = (iN 16) →
      ((¬ (iN (M 4 0 8)) = (iN 19) →
       (((iN 0) = 0 →
        G l E d m_YReader_readStep 85 [(0, (.ref 3, 6)), (1, (.ref r2, 11)), (2, (.ref r3, 23)), (3, (.int (iN (M 4 0 8)), 0)), (4, (.int (iN 0), 0))] [] M1 K) ∧
       (¬ (iN 0) = 0 →
        (((iN (M1 3 0 2)) < (iN 3) →
         G l E d m_YReader_readStep 85 [(0, (.ref 3, 6)), (1, (.ref r2, 11)), (2, (.ref r3, 23)), (3, (.int (iN (M 4 0 8)), 0)), (4, (.int (iN 0), 0))] [] M1 K) ∧
        (¬ (iN (M1 3 0 2)) < (iN 3) →
         CT l E (d - 1) m_Tokens_refuse [(.ref 4, 4), (.int (iN 7), 0)] M1 (fun v3 M3 =>
          ((((toI v3) = 0 ∨ (toI v3) = 1)) ∧ K (.int (toI v3), 0) M3))))))) ∧
      ((iN (M 4 0 8)) = (iN 19) →
       (((iN 1) = 0 →
        G l E d m_YReader_readStep 85 [(0, (.ref 3, 6)), (1, (.ref r2, 11)), (2, (.ref r3, 23)), (3, (.int (iN (M 4 0 8)), 0)), (4, (.int (iN 1), 0))] [] M1 K) ∧
       (¬ (iN 1) = 0 →
        (((iN (M1 3 0 2)) < (iN 3) →
         G l E d m_YReader_readStep 85 [(0, (.ref 3, 6)), (1, (.ref r2, 11)), (2, (.ref r3, 23)), (3, (.int (iN (M 4 0 8)), 0)), (4, (.int (iN 1), 0))] [] M1 K) ∧
        (¬ (iN (M1 3 0 2)) < (iN 3) →
         CT l E (d - 1) m_Tokens_refuse [(.ref 4, 4), (.int (iN 7), 0)] M1 (fun v4 M4 =>
          ((((toI v4) = 0 ∨ (toI v4) = 1)) ∧ K (.int (toI v4), 0) M4))))))))))) ∧
    (¬ (iN (M1 r3 0 7)) < (iN 30) →
     CT l E (d - 1) m_Tokens_refuse [(.ref 4, 4), (.int (iN 6), 0)] M1 (fun v5 M5 =>
      ((((toI v5) = 0 ∨ (toI v5) = 1)) ∧ K (.int (toI v5), 0) M5))))) ∧
   ((toI v1) = 0 →
    CT l E (d - 1) m_Tokens_refuse [(.ref 4, 4), (.int (iN 2), 0)] M1 (fun v6 M6 =>
     ((((toI v6) = 0 ∨ (toI v6) = 1)) ∧ K (.int (toI v6), 0) M6)))))) :
  G l E d m_YReader_readStep 0 [(0, (.ref 3, 6)), (1, (.ref r2, 11)), (2, (.ref r3, 23))] [] M K := G.blk 60 _ hd ok_YReader_readStep rfl h
set_option maxRecDepth 100000 in
theorem b_YReader_readStep_85 {l : Launch} {E : EnvT} {d : Nat} {K : AV → Mem → Prop} {M : Mem} {r2 r3 : Nat} {x3 : Int32} {x4 : Int32} (hd : 1 ≤ d)
  (h : CT l E (d - 1) m_Years_addStep [(.ref r3, 23), (.int x3, 0)] M (fun v1 M1 =>
   ((x4 = 0 →
    ((¬ x3 = (iN 16) →
     CT l E (d - 1) m_YReader_readTail [(.ref 3, 6), (.ref r2, 11), (.ref r3, 23), (.int (toI v1), 0)] M1 (fun v2 M2 =>
      (((toI v2) = 0 →
       ((((iN 0) = 0 ∨ (iN 0) = 1)) ∧ K (.int (iN 0), 0) M2)) ∧
      (¬ (toI v2) = 0 →
       CT l E (d - 1) m_Tokens_takeSign [(.ref 4, 4), (.int (iN 59), 0)] M2 (fun v3 M3 =>
        (((toI v3) = 0 →
         ((((iN 0) = 0 ∨ (iN 0) = 1)) ∧ K (.int (iN 0), 0) M3)) ∧
        (¬ (toI v3) = 0 →
         ((((iN 1) = 0 ∨ (iN 1) = 1)) ∧ K (.int (iN 1), 0) M3)))))))) ∧
    (x3 = (iN 16) →
     CT l E (d - 1) m_YReader_readTestWord [(.ref 3, 6), (.ref r3, 23), (.int (toI v1), 0)] M1 (fun v4 M4 =>
      ((¬ (toI v4) = 0 →
       CT l E (d - 1) m_YReader_readTail [(.ref 3, 6), (.ref r2, 11), (.ref r3, 23), (.int (toI v1), 0)] M4 (fun v5 M5 =>
        (((toI v5) = 0 →
         ((((iN 0) = 0 ∨ (iN 0) = 1)) ∧ K (.int (iN 0), 0) M5)) ∧
        (¬ (toI v5) = 0 →
         CT l E (d - 1) m_Tokens_takeSign [(.ref 4, 4), (.int (iN 59), 0)] M5 (fun v6 M6 =>
          (((toI v6) = 0 →
           ((((iN 0) = 0 ∨ (iN 0) = 1)) ∧ K (.int (iN 0), 0) M6)) ∧
          (¬ (toI v6) = 0 →
           ((((iN 1) = 0 ∨ (iN 1) = 1)) ∧ K (.int (iN 1), 0) M6)))))))) ∧
      ((toI v4) = 0 →
       ((((iN 0) = 0 ∨ (iN 0) = 1)) ∧ K (.int (iN 0), 0) M4))))))) ∧
   (¬ x4 = 0 →
    (vp_in (iN (M1 3 0 2)) 3 ∧ ((¬ x3 = (iN 16) →
     CT l E (d - 1) m_YReader_readTail [(.ref 3, 6), (.ref r2, 11), (.ref r3, 23), (.int (toI v1), 0)] (upd3 (upd3 M1 3 1 ((iN (M1 3 0 2))).toNatClampNeg ((toI v1)).toInt) 3 0 2 (((iN ((upd3 M1 3 1 ((iN (M1 3 0 2))).toNatClampNeg ((toI v1)).toInt) 3 0 2)) + (iN 1))).toInt) (fun v7 M7 =>
      (((toI v7) = 0 →
       ((((iN 0) = 0 ∨ (iN 0) = 1)) ∧ K (.int (iN 0), 0) M7)) ∧
      (¬ (toI v7) = 0 →
       CT l E (d - 1) m_Tokens_takeSign [(.ref 4, 4), (.int (iN 59), 0)] M7 (fun v8 M8 =>
        (((toI v8) = 0 →
         ((((iN 0) = 0 ∨ (iN 0) = 1)) ∧ K (.int (iN 0), 0) M8)) ∧
        (¬ (toI v8) = 0 →
         ((((iN 1) = 0 ∨ (iN 1) = 1)) ∧ K (.int (iN 1), 0) M8)))))))) ∧
    (x3 = (iN 16) →
     CT l E (d - 1) m_YReader_readTestWord [(.ref 3, 6), (.ref r3, 23), (.int (toI v1), 0)] (upd3 (upd3 M1 3 1 ((iN (M1 3 0 2))).toNatClampNeg ((toI v1)).toInt) 3 0 2 (((iN ((upd3 M1 3 1 ((iN (M1 3 0 2))).toNatClampNeg ((toI v1)).toInt) 3 0 2)) + (iN 1))).toInt) (fun v9 M9 =>
      ((¬ (toI v9) = 0 →
       CT l E (d - 1) m_YReader_readTail [(.ref 3, 6), (.ref r2, 11), (.ref r3, 23), (.int (toI v1), 0)] M9 (fun v10 M10 =>
        (((toI v10) = 0 →
         ((((iN 0) = 0 ∨ (iN 0) = 1)) ∧ K (.int (iN 0), 0) M10)) ∧
        (¬ (toI v10) = 0 →
         CT l E (d - 1) m_Tokens_takeSign [(.ref 4, 4), (.int (iN 59), 0)] M10 (fun v11 M11 =>
          (((toI v11) = 0 →
           ((((iN 0) = 0 ∨ (iN 0) = 1)) ∧ K (.int (iN 0), 0) M11)) ∧
          (¬ (toI v11) = 0 →
           ((((iN 1) = 0 ∨ (iN 1) = 1)) ∧ K (.int (iN 1), 0) M11)))))))) ∧
      ((toI v9) = 0 →
       ((((iN 0) = 0 ∨ (iN 0) = 1)) ∧ K (.int (iN 0), 0) M9))))))))))) :
  G l E d m_YReader_readStep 85 [(0, (.ref 3, 6)), (1, (.ref r2, 11)), (2, (.ref r3, 23)), (3, (.int x3, 0)), (4, (.int x4, 0))] [] M K := G.blk 60 _ hd ok_YReader_readStep rfl h
def bt_YReader_readAll : BtT := [(0, [0, 1, 2, 3, 4], true, [(0, .aload 4, 2, 0, 0, 0, m0),
   (2, .invokevirtual 26, 3, 0, 0, 847, m_Years_forget),
   (5, .aload_n 0, 1, 0, 0, 0, m0),
   (6, .iconst 0, 1, 0, 0, 0, m0),
   (7, .putfield 22, 3, 2, 9, 210, m0),
   (10, .aload_n 0, 1, 0, 0, 0, m0),
   (11, .getfield 12, 3, 0, 9, 207, m0),
   (14, .aload_n 1, 1, 0, 0, 0, m0),
   (15, .iload_n 2, 1, 0, 0, 0, m0),
   (16, .invokevirtual 31, 3, 0, 0, 848, m_Tokens_start),
   (19, .iconst 0, 1, 0, 0, 0, m0),
   (20, .istore 5, 2, 0, 0, 0, m0),
   (22, .nop, 0, 0, 0, 0, m0)]),
  (22, [0, 2, 3, 4, 5], true, [(22, .iload 5, 2, 0, 0, 0, m0),
   (24, .iload_n 2, 1, 0, 0, 0, m0),
   (25, .if_icmp .gt 63, 3, 88, 0, 0, m0),
   (28, .nop, 0, 0, 0, 0, m0)]),
  (28, [], false, [(28, .aload_n 0, 1, 0, 0, 0, m0),
   (29, .getfield 12, 3, 0, 9, 207, m0),
   (32, .getfield 35, 3, 3, 5, 151, m0),
   (35, .ifCond .eq 53, 3, 88, 0, 0, m0),
   (38, .nop, 0, 0, 0, 0, m0)]),
  (38, [], false, [(38, .aload_n 0, 1, 0, 0, 0, m0),
   (39, .getfield 12, 3, 0, 9, 207, m0),
   (42, .getfield 38, 3, 8, 5, 162, m0),
   (45, .bipush 20, 2, 0, 0, 0, m0),
   (47, .if_icmp .ne 12, 3, 59, 0, 0, m0),
   (50, .nop, 0, 0, 0, 0, m0)]),
  (50, [], false, [(50, .aload_n 0, 1, 0, 0, 0, m0),
   (51, .aload 4, 2, 0, 0, 0, m0),
   (53, .invokevirtual 41, 3, 0, 0, 849, m_YReader_readEnd),
   (56, .goto 10, 3, 66, 0, 0, m0)]),
  (59, [], false, [(59, .aload_n 0, 1, 0, 0, 0, m0),
   (60, .aload_n 3, 1, 0, 0, 0, m0),
   (61, .aload 4, 2, 0, 0, 0, m0),
   (63, .invokevirtual 45, 3, 0, 0, 859, m_YReader_readStep),
   (66, .nop, 0, 0, 0, 0, m0)]),
  (66, [], false, [(66, .istore 6, 2, 0, 0, 0, m0),
   (68, .iload 6, 2, 0, 0, 0, m0),
   (70, .ifCond .ne 5, 3, 75, 0, 0, m0),
   (73, .nop, 0, 0, 0, 0, m0)]),
  (73, [], false, [(73, .iconst 0, 1, 0, 0, 0, m0),
   (74, .ireturn, 1, 0, 0, 0, m0)]),
  (75, [], false, [(75, .aload_n 0, 1, 0, 0, 0, m0),
   (76, .getfield 12, 3, 0, 9, 207, m0),
   (79, .invokevirtual 49, 3, 0, 0, 874, m_Tokens_advance),
   (82, .iinc 5 1, 3, 0, 0, 0, m0),
   (85, .goto (-63), 3, 22, 0, 0, m0)]),
  (88, [], false, [(88, .aload 4, 2, 0, 0, 0, m0),
   (90, .iconst 1, 1, 0, 0, 0, m0),
   (91, .putfield 52, 3, 8, 8, 365, m0),
   (94, .aload_n 0, 1, 0, 0, 0, m0),
   (95, .getfield 22, 3, 2, 9, 210, m0),
   (98, .ifCond .eq 14, 3, 112, 0, 0, m0),
   (101, .nop, 0, 0, 0, 0, m0)]),
  (101, [], false, [(101, .aload_n 0, 1, 0, 0, 0, m0),
   (102, .getfield 12, 3, 0, 9, 207, m0),
   (105, .iconst 2, 1, 0, 0, 0, m0),
   (106, .invokevirtual 56, 3, 0, 0, 853, m_Tokens_refuse),
   (109, .ifCond .eq 7, 3, 116, 0, 0, m0),
   (112, .nop, 0, 0, 0, 0, m0)]),
  (112, [], false, [(112, .iconst 1, 1, 0, 0, 0, m0),
   (113, .goto 4, 3, 117, 0, 0, m0)]),
  (116, [], false, [(116, .iconst 0, 1, 0, 0, 0, m0),
   (117, .nop, 0, 0, 0, 0, m0)]),
  (117, [], false, [(117, .ireturn, 1, 0, 0, 0, m0)])]
theorem ok_YReader_readAll : okBt m_YReader_readAll bt_YReader_readAll = true := by decide +kernel
set_option maxRecDepth 100000 in
theorem b_YReader_readAll_0 {l : Launch} {E : EnvT} {d : Nat} {K : AV → Mem → Prop} {M : Mem} {r3 r4 : Nat} {x2 : Int32} (hd : 1 ≤ d)
  (h : CT l E (d - 1) m_Years_forget [(.ref r4, 23)] M (fun v1 M1 =>
   CT l E (d - 1) m_Tokens_start [(.ref 4, 4), (.ref 0, 2), (.int x2, 0)] (upd3 M1 3 0 2 ((iN 0)).toInt) (fun v2 M2 =>
    G l E d m_YReader_readAll 22 [(0, (.ref 3, 6)), (2, (.int x2, 0)), (3, (.ref r3, 11)), (4, (.ref r4, 23)), (5, (.int (iN 0), 0))] [] M2 K))) :
  G l E d m_YReader_readAll 0 [(0, (.ref 3, 6)), (1, (.ref 0, 2)), (2, (.int x2, 0)), (3, (.ref r3, 11)), (4, (.ref r4, 23))] [] M K := G.blk 60 _ hd ok_YReader_readAll rfl h
set_option maxRecDepth 100000 in
theorem b_YReader_readAll_22 {l : Launch} {E : EnvT} {d : Nat} {K : AV → Mem → Prop} {M : Mem} {r3 r4 : Nat} {x2 : Int32} {x5 : Int32} (hd : 1 ≤ d)
  (h : ((x2 < x5 →
   (((iN 1) = 0 ∨ (iN 1) = 1) ∧ (((iN ((upd3 M r4 0 8 ((iN 1)).toInt) 3 0 2)) = 0 →
    ((((iN 1) = 0 ∨ (iN 1) = 1)) ∧ K (.int (iN 1), 0) (upd3 M r4 0 8 ((iN 1)).toInt))) ∧
   (¬ (iN ((upd3 M r4 0 8 ((iN 1)).toInt) 3 0 2)) = 0 →
    CT l E (d - 1) m_Tokens_refuse [(.ref 4, 4), (.int (iN 2), 0)] (upd3 M r4 0 8 ((iN 1)).toInt) (fun v1 M1 =>
     (((toI v1) = 0 →
      ((((iN 0) = 0 ∨ (iN 0) = 1)) ∧ K (.int (iN 0), 0) M1)) ∧
     (¬ (toI v1) = 0 →
      ((((iN 1) = 0 ∨ (iN 1) = 1)) ∧ K (.int (iN 1), 0) M1)))))))) ∧
  (¬ x2 < x5 →
   (((iN (M 4 0 3)) = 0 →
    (((iN 1) = 0 ∨ (iN 1) = 1) ∧ (((iN ((upd3 M r4 0 8 ((iN 1)).toInt) 3 0 2)) = 0 →
     ((((iN 1) = 0 ∨ (iN 1) = 1)) ∧ K (.int (iN 1), 0) (upd3 M r4 0 8 ((iN 1)).toInt))) ∧
    (¬ (iN ((upd3 M r4 0 8 ((iN 1)).toInt) 3 0 2)) = 0 →
     CT l E (d - 1) m_Tokens_refuse [(.ref 4, 4), (.int (iN 2), 0)] (upd3 M r4 0 8 ((iN 1)).toInt) (fun v2 M2 =>
      (((toI v2) = 0 →
       ((((iN 0) = 0 ∨ (iN 0) = 1)) ∧ K (.int (iN 0), 0) M2)) ∧
      (¬ (toI v2) = 0 →
       ((((iN 1) = 0 ∨ (iN 1) = 1)) ∧ K (.int (iN 1), 0) M2)))))))) ∧
   (¬ (iN (M 4 0 3)) = 0 →
    ((¬ (iN (M 4 0 8)) = (iN 20) →
     CT l E (d - 1) m_YReader_readStep [(.ref 3, 6), (.ref r3, 11), (.ref r4, 23)] M (fun v3 M3 =>
      ((¬ (toI v3) = 0 →
       CT l E (d - 1) m_Tokens_advance [(.ref 4, 4)] M3 (fun v4 M4 =>
        G l E d m_YReader_readAll 22 [(0, (.ref 3, 6)), (2, (.int x2, 0)), (3, (.ref r3, 11)), (4, (.ref r4, 23)), (5, (.int (x5 + iN 1), 0))] [] M4 K)) ∧
      ((toI v3) = 0 →
       ((((iN 0) = 0 ∨ (iN 0) = 1)) ∧ K (.int (iN 0), 0) M3))))) ∧
    ((iN (M 4 0 8)) = (iN 20) →
     CT l E (d - 1) m_YReader_readEnd [(.ref 3, 6), (.ref r4, 23)] M (fun v5 M5 =>
      ((¬ (toI v5) = 0 →
       CT l E (d - 1) m_Tokens_advance [(.ref 4, 4)] M5 (fun v6 M6 =>
        G l E d m_YReader_readAll 22 [(0, (.ref 3, 6)), (2, (.int x2, 0)), (3, (.ref r3, 11)), (4, (.ref r4, 23)), (5, (.int (x5 + iN 1), 0))] [] M6 K)) ∧
      ((toI v5) = 0 →
       ((((iN 0) = 0 ∨ (iN 0) = 1)) ∧ K (.int (iN 0), 0) M5))))))))))) :
  G l E d m_YReader_readAll 22 [(0, (.ref 3, 6)), (2, (.int x2, 0)), (3, (.ref r3, 11)), (4, (.ref r4, 23)), (5, (.int x5, 0))] [] M K := G.blk 60 _ hd ok_YReader_readAll rfl h
