def bt_CReader_isVoice : BtT := [(0, [0], true, [(0, .iload_n 0, 1, 0, 0, 0, m0),
   (1, .iconst 2, 1, 0, 0, 0, m0),
   (2, .if_icmp .eq 13, 3, 15, 0, 0, m0),
   (5, .nop, 0, 0, 0, 0, m0)]),
  (5, [], false, [(5, .iload_n 0, 1, 0, 0, 0, m0),
   (6, .iconst 3, 1, 0, 0, 0, m0),
   (7, .if_icmp .eq 8, 3, 15, 0, 0, m0),
   (10, .nop, 0, 0, 0, 0, m0)]),
  (10, [], false, [(10, .iload_n 0, 1, 0, 0, 0, m0),
   (11, .iconst 4, 1, 0, 0, 0, m0),
   (12, .if_icmp .ne 7, 3, 19, 0, 0, m0),
   (15, .nop, 0, 0, 0, 0, m0)]),
  (15, [], false, [(15, .iconst 1, 1, 0, 0, 0, m0),
   (16, .goto 4, 3, 20, 0, 0, m0)]),
  (19, [], false, [(19, .iconst 0, 1, 0, 0, 0, m0),
   (20, .nop, 0, 0, 0, 0, m0)]),
  (20, [], false, [(20, .ireturn, 1, 0, 0, 0, m0)])]
theorem ok_CReader_isVoice : okBt m_CReader_isVoice bt_CReader_isVoice = true := by decide +kernel
set_option maxRecDepth 100000 in
theorem b_CReader_isVoice_0 {l : Launch} {E : EnvT} {d : Nat} {K : AV → Mem → Prop} {M : Mem} {x0 : Int32} (hd : 1 ≤ d)
  (h : ((x0 = (iN 2) →
   ((((iN 1) = 0 ∨ (iN 1) = 1)) ∧ K (.int (iN 1), 0) M)) ∧
  (¬ x0 = (iN 2) →
   ((x0 = (iN 3) →
    ((((iN 1) = 0 ∨ (iN 1) = 1)) ∧ K (.int (iN 1), 0) M)) ∧
   (¬ x0 = (iN 3) →
    ((¬ x0 = (iN 4) →
     ((((iN 0) = 0 ∨ (iN 0) = 1)) ∧ K (.int (iN 0), 0) M)) ∧
    (x0 = (iN 4) →
     ((((iN 1) = 0 ∨ (iN 1) = 1)) ∧ K (.int (iN 1), 0) M)))))))) :
  G l E d m_CReader_isVoice 0 [(0, (.int x0, 0))] [] M K := G.blk 60 _ hd ok_CReader_isVoice rfl h
def bt_CReader_addVoice : BtT := [(0, [0, 1, 2], true, [(0, .iconst 1, 1, 0, 0, 0, m0),
   (1, .iload_n 2, 1, 0, 0, 0, m0),
   (2, .ishl, 1, 0, 0, 0, m0),
   (3, .istore_n 3, 1, 0, 0, 0, m0),
   (4, .aload_n 0, 1, 0, 0, 0, m0),
   (5, .getfield 12, 3, 0, 1, 191, m0),
   (8, .getfield 35, 3, 8, 5, 161, m0),
   (11, .iconst 2, 1, 0, 0, 0, m0),
   (12, .if_icmp .ne 22, 3, 34, 0, 0, m0),
   (15, .nop, 0, 0, 0, 0, m0)]),
  (15, [], false, [(15, .aload_n 1, 1, 0, 0, 0, m0),
   (16, .getfield 103, 3, 9, 0, 285, m0),
   (19, .istore 4, 2, 0, 0, 0, m0),
   (21, .aload_n 1, 1, 0, 0, 0, m0),
   (22, .dup, 1, 0, 0, 0, m0),
   (23, .getfield 103, 3, 9, 0, 285, m0),
   (26, .iload_n 3, 1, 0, 0, 0, m0),
   (27, .ior, 1, 0, 0, 0, m0),
   (28, .putfield 103, 3, 9, 0, 285, m0),
   (31, .goto 49, 3, 80, 0, 0, m0)]),
  (34, [], false, [(34, .aload_n 0, 1, 0, 0, 0, m0),
   (35, .getfield 12, 3, 0, 1, 191, m0),
   (38, .getfield 35, 3, 8, 5, 161, m0),
   (41, .iconst 3, 1, 0, 0, 0, m0),
   (42, .if_icmp .ne 22, 3, 64, 0, 0, m0),
   (45, .nop, 0, 0, 0, 0, m0)]),
  (45, [], false, [(45, .aload_n 1, 1, 0, 0, 0, m0),
   (46, .getfield 106, 3, 11, 0, 291, m0),
   (49, .istore 4, 2, 0, 0, 0, m0),
   (51, .aload_n 1, 1, 0, 0, 0, m0),
   (52, .dup, 1, 0, 0, 0, m0),
   (53, .getfield 106, 3, 11, 0, 291, m0),
   (56, .iload_n 3, 1, 0, 0, 0, m0),
   (57, .ior, 1, 0, 0, 0, m0),
   (58, .putfield 106, 3, 11, 0, 291, m0),
   (61, .goto 19, 3, 80, 0, 0, m0)]),
  (64, [], false, [(64, .aload_n 1, 1, 0, 0, 0, m0),
   (65, .getfield 109, 3, 10, 0, 288, m0),
   (68, .istore 4, 2, 0, 0, 0, m0),
   (70, .aload_n 1, 1, 0, 0, 0, m0),
   (71, .dup, 1, 0, 0, 0, m0),
   (72, .getfield 109, 3, 10, 0, 288, m0),
   (75, .iload_n 3, 1, 0, 0, 0, m0),
   (76, .ior, 1, 0, 0, 0, m0),
   (77, .putfield 109, 3, 10, 0, 288, m0),
   (80, .nop, 0, 0, 0, 0, m0)]),
  (80, [], false, [(80, .iload 4, 2, 0, 0, 0, m0),
   (82, .iload_n 3, 1, 0, 0, 0, m0),
   (83, .iand, 1, 0, 0, 0, m0),
   (84, .ifCond .ne 7, 3, 91, 0, 0, m0),
   (87, .nop, 0, 0, 0, 0, m0)]),
  (87, [], false, [(87, .iconst 1, 1, 0, 0, 0, m0),
   (88, .goto 4, 3, 92, 0, 0, m0)]),
  (91, [], false, [(91, .iconst 0, 1, 0, 0, 0, m0),
   (92, .nop, 0, 0, 0, 0, m0)]),
  (92, [], false, [(92, .ireturn, 1, 0, 0, 0, m0)])]
theorem ok_CReader_addVoice : okBt m_CReader_addVoice bt_CReader_addVoice = true := by decide +kernel
set_option maxRecDepth 100000 in
theorem b_CReader_addVoice_0 {l : Launch} {E : EnvT} {d : Nat} {K : AV → Mem → Prop} {M : Mem} {r2 : Nat} {x2 : Int32} (hd : 1 ≤ d)
  (h : ((¬ (iN (M 2 0 8)) = (iN 2) →
   ((¬ (iN (M 2 0 8)) = (iN 3) →
    ((¬ ((iN (M r2 0 10)) &&& ((iN 1) <<< (x2 &&& 31))) = 0 →
     ((((iN 0) = 0 ∨ (iN 0) = 1)) ∧ K (.int (iN 0), 0) (upd3 M r2 0 10 (((iN (M r2 0 10)) ||| ((iN 1) <<< (x2 &&& 31)))).toInt))) ∧
    (((iN (M r2 0 10)) &&& ((iN 1) <<< (x2 &&& 31))) = 0 →
     ((((iN 1) = 0 ∨ (iN 1) = 1)) ∧ K (.int (iN 1), 0) (upd3 M r2 0 10 (((iN (M r2 0 10)) ||| ((iN 1) <<< (x2 &&& 31)))).toInt))))) ∧
   ((iN (M 2 0 8)) = (iN 3) →
    ((¬ ((iN (M r2 0 11)) &&& ((iN 1) <<< (x2 &&& 31))) = 0 →
     ((((iN 0) = 0 ∨ (iN 0) = 1)) ∧ K (.int (iN 0), 0) (upd3 M r2 0 11 (((iN (M r2 0 11)) ||| ((iN 1) <<< (x2 &&& 31)))).toInt))) ∧
    (((iN (M r2 0 11)) &&& ((iN 1) <<< (x2 &&& 31))) = 0 →
     ((((iN 1) = 0 ∨ (iN 1) = 1)) ∧ K (.int (iN 1), 0) (upd3 M r2 0 11 (((iN (M r2 0 11)) ||| ((iN 1) <<< (x2 &&& 31)))).toInt))))))) ∧
  ((iN (M 2 0 8)) = (iN 2) →
   ((¬ ((iN (M r2 0 9)) &&& ((iN 1) <<< (x2 &&& 31))) = 0 →
    ((((iN 0) = 0 ∨ (iN 0) = 1)) ∧ K (.int (iN 0), 0) (upd3 M r2 0 9 (((iN (M r2 0 9)) ||| ((iN 1) <<< (x2 &&& 31)))).toInt))) ∧
   (((iN (M r2 0 9)) &&& ((iN 1) <<< (x2 &&& 31))) = 0 →
    ((((iN 1) = 0 ∨ (iN 1) = 1)) ∧ K (.int (iN 1), 0) (upd3 M r2 0 9 (((iN (M r2 0 9)) ||| ((iN 1) <<< (x2 &&& 31)))).toInt))))))) :
  G l E d m_CReader_addVoice 0 [(0, (.ref 1, 3)), (1, (.ref r2, 11)), (2, (.int x2, 0))] [] M K := G.blk 60 _ hd ok_CReader_addVoice rfl h
def bt_CReader_readVoices : BtT := [(0, [0, 1, 2], true, [(0, .iconst 0, 1, 0, 0, 0, m0),
   (1, .istore_n 3, 1, 0, 0, 0, m0),
   (2, .nop, 0, 0, 0, 0, m0)]),
  (2, [0, 1, 2, 3], true, [(2, .iload_n 3, 1, 0, 0, 0, m0),
   (3, .iconst 3, 1, 0, 0, 0, m0),
   (4, .if_icmp .gt 49, 3, 53, 0, 0, m0),
   (7, .nop, 0, 0, 0, 0, m0)]),
  (7, [], false, [(7, .aload_n 0, 1, 0, 0, 0, m0),
   (8, .getfield 12, 3, 0, 1, 191, m0),
   (11, .getfield 35, 3, 8, 5, 161, m0),
   (14, .invokestatic 97, 3, 0, 0, 767, m_CReader_isVoice),
   (17, .ifCond .ne 5, 3, 22, 0, 0, m0),
   (20, .nop, 0, 0, 0, 0, m0)]),
  (20, [], false, [(20, .iconst 1, 1, 0, 0, 0, m0),
   (21, .ireturn, 1, 0, 0, 0, m0)]),
  (22, [], false, [(22, .aload_n 0, 1, 0, 0, 0, m0),
   (23, .aload_n 1, 1, 0, 0, 0, m0),
   (24, .iload_n 2, 1, 0, 0, 0, m0),
   (25, .invokevirtual 100, 3, 0, 0, 770, m_CReader_addVoice),
   (28, .ifCond .ne 12, 3, 40, 0, 0, m0),
   (31, .nop, 0, 0, 0, 0, m0)]),
  (31, [], false, [(31, .aload_n 0, 1, 0, 0, 0, m0),
   (32, .getfield 12, 3, 0, 1, 191, m0),
   (35, .iconst 5, 1, 0, 0, 0, m0),
   (36, .invokevirtual 51, 3, 0, 0, 726, m_Tokens_refuse),
   (39, .ireturn, 1, 0, 0, 0, m0)]),
  (40, [], false, [(40, .aload_n 0, 1, 0, 0, 0, m0),
   (41, .getfield 12, 3, 0, 1, 191, m0),
   (44, .invokevirtual 55, 3, 0, 0, 730, m_Tokens_advance),
   (47, .iinc 3 1, 3, 0, 0, 0, m0),
   (50, .goto (-48), 3, 2, 0, 0, m0)]),
  (53, [], false, [(53, .iconst 1, 1, 0, 0, 0, m0),
   (54, .ireturn, 1, 0, 0, 0, m0)])]
theorem ok_CReader_readVoices : okBt m_CReader_readVoices bt_CReader_readVoices = true := by decide +kernel
set_option maxRecDepth 100000 in
theorem b_CReader_readVoices_0 {l : Launch} {E : EnvT} {d : Nat} {K : AV → Mem → Prop} {M : Mem} {r2 : Nat} {x2 : Int32} (hd : 1 ≤ d)
  (h : G l E d m_CReader_readVoices 2 [(0, (.ref 1, 3)), (1, (.ref r2, 11)), (2, (.int x2, 0)), (3, (.int (iN 0), 0))] [] M K) :
  G l E d m_CReader_readVoices 0 [(0, (.ref 1, 3)), (1, (.ref r2, 11)), (2, (.int x2, 0))] [] M K := G.blk 60 _ hd ok_CReader_readVoices rfl h
set_option maxRecDepth 100000 in
theorem b_CReader_readVoices_2 {l : Launch} {E : EnvT} {d : Nat} {K : AV → Mem → Prop} {M : Mem} {r2 : Nat} {x2 : Int32} {x3 : Int32} (hd : 1 ≤ d)
  (h : (((iN 3) < x3 →
   ((((iN 1) = 0 ∨ (iN 1) = 1)) ∧ K (.int (iN 1), 0) M)) ∧
  (¬ (iN 3) < x3 →
   CT l E (d - 1) m_CReader_isVoice [(.int (iN (M 2 0 8)), 0)] M (fun v1 M1 =>
    ((¬ (toI v1) = 0 →
     CT l E (d - 1) m_CReader_addVoice [(.ref 1, 3), (.ref r2, 11), (.int x2, 0)] M1 (fun v2 M2 =>
      ((¬ (toI v2) = 0 →
       CT l E (d - 1) m_Tokens_advance [(.ref 2, 4)] M2 (fun v3 M3 =>
        G l E d m_CReader_readVoices 2 [(0, (.ref 1, 3)), (1, (.ref r2, 11)), (2, (.int x2, 0)), (3, (.int (x3 + iN 1), 0))] [] M3 K)) ∧
      ((toI v2) = 0 →
       CT l E (d - 1) m_Tokens_refuse [(.ref 2, 4), (.int (iN 5), 0)] M2 (fun v4 M4 =>
        ((((toI v4) = 0 ∨ (toI v4) = 1)) ∧ K (.int (toI v4), 0) M4)))))) ∧
    ((toI v1) = 0 →
     ((((iN 1) = 0 ∨ (iN 1) = 1)) ∧ K (.int (iN 1), 0) M1))))))) :
  G l E d m_CReader_readVoices 2 [(0, (.ref 1, 3)), (1, (.ref r2, 11)), (2, (.int x2, 0)), (3, (.int x3, 0))] [] M K := G.blk 60 _ hd ok_CReader_readVoices rfl h
def bt_CReader_readLine : BtT := [(0, [0, 1, 2], true, [(0, .aload_n 1, 1, 0, 0, 0, m0),
   (1, .getfield 112, 3, 3, 0, 270, m0),
   (4, .iload_n 2, 1, 0, 0, 0, m0),
   (5, .iconst 0, 1, 0, 0, 0, m0),
   (6, .iastore, 1, 0, 0, 0, m0),
   (7, .aload_n 0, 1, 0, 0, 0, m0),
   (8, .getfield 12, 3, 0, 1, 191, m0),
   (11, .invokevirtual 55, 3, 0, 0, 730, m_Tokens_advance),
   (14, .iconst 0, 1, 0, 0, 0, m0),
   (15, .istore_n 3, 1, 0, 0, 0, m0),
   (16, .nop, 0, 0, 0, 0, m0)]),
  (16, [0, 1, 2, 3], true, [(16, .iload_n 3, 1, 0, 0, 0, m0),
   (17, .bipush 6, 2, 0, 0, 0, m0),
   (19, .if_icmp .gt 76, 3, 95, 0, 0, m0),
   (22, .nop, 0, 0, 0, 0, m0)]),
  (22, [], false, [(22, .iload_n 3, 1, 0, 0, 0, m0),
   (23, .ifCond .le 16, 3, 39, 0, 0, m0),
   (26, .nop, 0, 0, 0, 0, m0)]),
  (26, [], false, [(26, .aload_n 0, 1, 0, 0, 0, m0),
   (27, .getfield 12, 3, 0, 1, 191, m0),
   (30, .getfield 31, 3, 3, 5, 150, m0),
   (33, .iconst 2, 1, 0, 0, 0, m0),
   (34, .if_icmp .eq 5, 3, 39, 0, 0, m0),
   (37, .nop, 0, 0, 0, 0, m0)]),
  (37, [], false, [(37, .iconst 1, 1, 0, 0, 0, m0),
   (38, .ireturn, 1, 0, 0, 0, m0)]),
  (39, [], false, [(39, .aload_n 0, 1, 0, 0, 0, m0),
   (40, .getfield 12, 3, 0, 1, 191, m0),
   (43, .iconst 0, 1, 0, 0, 0, m0),
   (44, .bipush 24, 2, 0, 0, 0, m0),
   (46, .invokevirtual 116, 3, 0, 0, 778, m_Tokens_standsNumber),
   (49, .ifCond .ne 5, 3, 54, 0, 0, m0),
   (52, .nop, 0, 0, 0, 0, m0)]),
  (52, [], false, [(52, .iconst 0, 1, 0, 0, 0, m0),
   (53, .ireturn, 1, 0, 0, 0, m0)]),
  (54, [], false, [(54, .iload_n 3, 1, 0, 0, 0, m0),
   (55, .bipush 6, 2, 0, 0, 0, m0),
   (57, .if_icmp .ne 13, 3, 70, 0, 0, m0),
   (60, .nop, 0, 0, 0, 0, m0)]),
  (60, [], false, [(60, .aload_n 0, 1, 0, 0, 0, m0),
   (61, .getfield 12, 3, 0, 1, 191, m0),
   (64, .bipush 6, 2, 0, 0, 0, m0),
   (66, .invokevirtual 51, 3, 0, 0, 726, m_Tokens_refuse),
   (69, .ireturn, 1, 0, 0, 0, m0)]),
  (70, [], false, [(70, .aload_n 1, 1, 0, 0, 0, m0),
   (71, .iload_n 2, 1, 0, 0, 0, m0),
   (72, .aload_n 0, 1, 0, 0, 0, m0),
   (73, .getfield 12, 3, 0, 1, 191, m0),
   (76, .getfield 80, 3, 5, 5, 155, m0),
   (79, .invokevirtual 119, 3, 0, 0, 779, m_Choir_addNote),
   (82, .aload_n 0, 1, 0, 0, 0, m0),
   (83, .getfield 12, 3, 0, 1, 191, m0),
   (86, .invokevirtual 55, 3, 0, 0, 730, m_Tokens_advance),
   (89, .iinc 3 1, 3, 0, 0, 0, m0),
   (92, .goto (-76), 3, 16, 0, 0, m0)]),
  (95, [], false, [(95, .iconst 1, 1, 0, 0, 0, m0),
   (96, .ireturn, 1, 0, 0, 0, m0)])]
theorem ok_CReader_readLine : okBt m_CReader_readLine bt_CReader_readLine = true := by decide +kernel
set_option maxRecDepth 100000 in
theorem b_CReader_readLine_0 {l : Launch} {E : EnvT} {d : Nat} {K : AV → Mem → Prop} {M : Mem} {r2 : Nat} {x2 : Int32} (hd : 1 ≤ d)
  (h : (vp_in x2 8 ∧ CT l E (d - 1) m_Tokens_advance [(.ref 2, 4)] (upd3 M r2 4 (x2).toNatClampNeg ((iN 0)).toInt) (fun v1 M1 =>
   G l E d m_CReader_readLine 16 [(0, (.ref 1, 3)), (1, (.ref r2, 11)), (2, (.int x2, 0)), (3, (.int (iN 0), 0))] [] M1 K))) :
  G l E d m_CReader_readLine 0 [(0, (.ref 1, 3)), (1, (.ref r2, 11)), (2, (.int x2, 0))] [] M K := G.blk 60 _ hd ok_CReader_readLine rfl h
set_option maxRecDepth 100000 in
theorem b_CReader_readLine_16 {l : Launch} {E : EnvT} {d : Nat} {K : AV → Mem → Prop} {M : Mem} {r2 : Nat} {x2 : Int32} {x3 : Int32} (hd : 1 ≤ d)
  (h : (((iN 6) < x3 →
   ((((iN 1) = 0 ∨ (iN 1) = 1)) ∧ K (.int (iN 1), 0) M)) ∧
  (¬ (iN 6) < x3 →
   ((x3 ≤ 0 →
    CT l E (d - 1) m_Tokens_standsNumber [(.ref 2, 4), (.int (iN 0), 0), (.int (iN 24), 0)] M (fun v1 M1 =>
     ((¬ (toI v1) = 0 →
      ((¬ x3 = (iN 6) →
       CT l E (d - 1) m_Choir_addNote [(.ref r2, 11), (.int x2, 0), (.int (iN (M1 2 0 5)), 0)] M1 (fun v2 M2 =>
        CT l E (d - 1) m_Tokens_advance [(.ref 2, 4)] M2 (fun v3 M3 =>
         G l E d m_CReader_readLine 16 [(0, (.ref 1, 3)), (1, (.ref r2, 11)), (2, (.int x2, 0)), (3, (.int (x3 + iN 1), 0))] [] M3 K))) ∧
      (x3 = (iN 6) →
       CT l E (d - 1) m_Tokens_refuse [(.ref 2, 4), (.int (iN 6), 0)] M1 (fun v4 M4 =>
        ((((toI v4) = 0 ∨ (toI v4) = 1)) ∧ K (.int (toI v4), 0) M4))))) ∧
     ((toI v1) = 0 →
      ((((iN 0) = 0 ∨ (iN 0) = 1)) ∧ K (.int (iN 0), 0) M1))))) ∧
   (¬ x3 ≤ 0 →
    (((iN (M 2 0 3)) = (iN 2) →
     CT l E (d - 1) m_Tokens_standsNumber [(.ref 2, 4), (.int (iN 0), 0), (.int (iN 24), 0)] M (fun v5 M5 =>
      ((¬ (toI v5) = 0 →
       ((¬ x3 = (iN 6) →
        CT l E (d - 1) m_Choir_addNote [(.ref r2, 11), (.int x2, 0), (.int (iN (M5 2 0 5)), 0)] M5 (fun v6 M6 =>
         CT l E (d - 1) m_Tokens_advance [(.ref 2, 4)] M6 (fun v7 M7 =>
          G l E d m_CReader_readLine 16 [(0, (.ref 1, 3)), (1, (.ref r2, 11)), (2, (.int x2, 0)), (3, (.int (x3 + iN 1), 0))] [] M7 K))) ∧
       (x3 = (iN 6) →
        CT l E (d - 1) m_Tokens_refuse [(.ref 2, 4), (.int (iN 6), 0)] M5 (fun v8 M8 =>
         ((((toI v8) = 0 ∨ (toI v8) = 1)) ∧ K (.int (toI v8), 0) M8))))) ∧
      ((toI v5) = 0 →
       ((((iN 0) = 0 ∨ (iN 0) = 1)) ∧ K (.int (iN 0), 0) M5))))) ∧
    (¬ (iN (M 2 0 3)) = (iN 2) →
     ((((iN 1) = 0 ∨ (iN 1) = 1)) ∧ K (.int (iN 1), 0) M)))))))) :
  G l E d m_CReader_readLine 16 [(0, (.ref 1, 3)), (1, (.ref r2, 11)), (2, (.int x2, 0)), (3, (.int x3, 0))] [] M K := G.blk 60 _ hd ok_CReader_readLine rfl h
def bt_CReader_readSinger : BtT := [(0, [0, 1], true, [(0, .aload_n 1, 1, 0, 0, 0, m0),
   (1, .getfield 58, 3, 8, 0, 282, m0),
   (4, .bipush 8, 2, 0, 0, 0, m0),
   (6, .if_icmp .lt 13, 3, 19, 0, 0, m0),
   (9, .nop, 0, 0, 0, 0, m0)]),
  (9, [], false, [(9, .aload_n 0, 1, 0, 0, 0, m0),
   (10, .getfield 12, 3, 0, 1, 191, m0),
   (13, .bipush 6, 2, 0, 0, 0, m0),
   (15, .invokevirtual 51, 3, 0, 0, 726, m_Tokens_refuse),
   (18, .ireturn, 1, 0, 0, 0, m0)]),
  (19, [], false, [(19, .aload_n 0, 1, 0, 0, 0, m0),
   (20, .getfield 12, 3, 0, 1, 191, m0),
   (23, .invokevirtual 55, 3, 0, 0, 730, m_Tokens_advance),
   (26, .aload_n 0, 1, 0, 0, 0, m0),
   (27, .getfield 12, 3, 0, 1, 191, m0),
   (30, .invokevirtual 61, 3, 0, 0, 731, m_Tokens_standsName),
   (33, .ifCond .ne 5, 3, 38, 0, 0, m0),
   (36, .nop, 0, 0, 0, 0, m0)]),
  (36, [], false, [(36, .iconst 0, 1, 0, 0, 0, m0),
   (37, .ireturn, 1, 0, 0, 0, m0)]),
  (38, [], false, [(38, .aload_n 1, 1, 0, 0, 0, m0),
   (39, .aload_n 0, 1, 0, 0, 0, m0),
   (40, .getfield 12, 3, 0, 1, 191, m0),
   (43, .getfield 65, 3, 9, 5, 164, m0),
   (46, .invokevirtual 69, 3, 0, 0, 736, m_Choir_find),
   (49, .iconst (-1), 1, 0, 0, 0, m0),
   (50, .if_icmp .eq 12, 3, 62, 0, 0, m0),
   (53, .nop, 0, 0, 0, 0, m0)]),
  (53, [], false, [(53, .aload_n 0, 1, 0, 0, 0, m0),
   (54, .getfield 12, 3, 0, 1, 191, m0),
   (57, .iconst 3, 1, 0, 0, 0, m0),
   (58, .invokevirtual 51, 3, 0, 0, 726, m_Tokens_refuse),
   (61, .ireturn, 1, 0, 0, 0, m0)]),
  (62, [], false, [(62, .aload_n 0, 1, 0, 0, 0, m0),
   (63, .getfield 12, 3, 0, 1, 191, m0),
   (66, .getfield 65, 3, 9, 5, 164, m0),
   (69, .lstore_n 2, 1, 0, 0, 0, m0),
   (70, .aload_n 0, 1, 0, 0, 0, m0),
   (71, .getfield 12, 3, 0, 1, 191, m0),
   (74, .iconst 1, 1, 0, 0, 0, m0),
   (75, .invokevirtual 73, 3, 0, 0, 740, m_Tokens_takeKeyword),
   (78, .ifCond .eq 17, 3, 95, 0, 0, m0),
   (81, .nop, 0, 0, 0, 0, m0)]),
  (81, [], false, [(81, .aload_n 0, 1, 0, 0, 0, m0),
   (82, .getfield 12, 3, 0, 1, 191, m0),
   (85, .iconst 0, 1, 0, 0, 0, m0),
   (86, .sipush 999, 3, 0, 0, 0, m0),
   (89, .invokevirtual 76, 3, 0, 0, 744, m_Tokens_takeNumber),
   (92, .ifCond .ne 5, 3, 97, 0, 0, m0),
   (95, .nop, 0, 0, 0, 0, m0)]),
  (95, [], false, [(95, .iconst 0, 1, 0, 0, 0, m0),
   (96, .ireturn, 1, 0, 0, 0, m0)]),
  (97, [], false, [(97, .aload_n 1, 1, 0, 0, 0, m0),
   (98, .lload_n 2, 1, 0, 0, 0, m0),
   (99, .aload_n 0, 1, 0, 0, 0, m0),
   (100, .getfield 12, 3, 0, 1, 191, m0),
   (103, .getfield 80, 3, 5, 5, 155, m0),
   (106, .invokevirtual 83, 3, 0, 0, 752, m_Choir_addSinger),
   (109, .istore 4, 2, 0, 0, 0, m0),
   (111, .aload_n 0, 1, 0, 0, 0, m0),
   (112, .getfield 12, 3, 0, 1, 191, m0),
   (115, .invokevirtual 55, 3, 0, 0, 730, m_Tokens_advance),
   (118, .aload_n 0, 1, 0, 0, 0, m0),
   (119, .aload_n 1, 1, 0, 0, 0, m0),
   (120, .iload 4, 2, 0, 0, 0, m0),
   (122, .invokevirtual 87, 3, 0, 0, 763, m_CReader_readVoices),
   (125, .ifCond .ne 5, 3, 130, 0, 0, m0),
   (128, .nop, 0, 0, 0, 0, m0)]),
  (128, [], false, [(128, .iconst 0, 1, 0, 0, 0, m0),
   (129, .ireturn, 1, 0, 0, 0, m0)]),
  (130, [], false, [(130, .aload_n 0, 1, 0, 0, 0, m0),
   (131, .getfield 12, 3, 0, 1, 191, m0),
   (134, .getfield 35, 3, 8, 5, 161, m0),
   (137, .iconst 5, 1, 0, 0, 0, m0),
   (138, .if_icmp .ne 15, 3, 153, 0, 0, m0),
   (141, .nop, 0, 0, 0, 0, m0)]),
  (141, [], false, [(141, .aload_n 0, 1, 0, 0, 0, m0),
   (142, .aload_n 1, 1, 0, 0, 0, m0),
   (143, .iload 4, 2, 0, 0, 0, m0),
   (145, .invokevirtual 91, 3, 0, 0, 774, m_CReader_readLine),
   (148, .ifCond .ne 5, 3, 153, 0, 0, m0),
   (151, .nop, 0, 0, 0, 0, m0)]),
  (151, [], false, [(151, .iconst 0, 1, 0, 0, 0, m0),
   (152, .ireturn, 1, 0, 0, 0, m0)]),
  (153, [], false, [(153, .aload_n 0, 1, 0, 0, 0, m0),
   (154, .getfield 12, 3, 0, 1, 191, m0),
   (157, .bipush 59, 2, 0, 0, 0, m0),
   (159, .invokevirtual 94, 3, 0, 0, 780, m_Tokens_standsSign),
   (162, .ireturn, 1, 0, 0, 0, m0)])]
theorem ok_CReader_readSinger : okBt m_CReader_readSinger bt_CReader_readSinger = true := by decide +kernel
set_option maxRecDepth 100000 in
theorem b_CReader_readSinger_0 {l : Launch} {E : EnvT} {d : Nat} {K : AV → Mem → Prop} {M : Mem} {r2 : Nat}  (hd : 1 ≤ d)
  (h : (((iN (M r2 0 8)) < (iN 8) →
   CT l E (d - 1) m_Tokens_advance [(.ref 2, 4)] M (fun v1 M1 =>
    CT l E (d - 1) m_Tokens_standsName [(.ref 2, 4)] M1 (fun v2 M2 =>
     ((¬ (toI v2) = 0 →
      CT l E (d - 1) m_Choir_find [(.ref r2, 11), (.long (lI (M2 2 0 9)), 0)] M2 (fun v3 M3 =>
       (((toI v3) = (iN (-1)) →
        CT l E (d - 1) m_Tokens_takeKeyword [(.ref 2, 4), (.int (iN 1), 0)] M3 (fun v4 M4 =>
         (((toI v4) = 0 →
          ((((iN 0) = 0 ∨ (iN 0) = 1)) ∧ K (.int (iN 0), 0) M4)) ∧
         (¬ (toI v4) = 0 →
          CT l E (d - 1) m_Tokens_takeNumber [(.ref 2, 4), (.int (iN 0), 0), (.int (iN 999), 0)] M4 (fun v5 M5 =>
           ((¬ (toI v5) = 0 →
            CT l E (d - 1) m_Choir_addSinger [(.ref r2, 11), (.long (lI (M3 2 0 9)), 0), (.int (iN (M5 2 0 5)), 0)] M5 (fun v6 M6 =>
             CT l E (d - 1) m_Tokens_advance [(.ref 2, 4)] M6 (fun v7 M7 =>
              CT l E (d - 1) m_CReader_readVoices [(.ref 1, 3), (.ref r2, 11), (.int (toI v6), 0)] M7 (fun v8 M8 =>
               ((¬ (toI v8) = 0 →
                ((¬ (iN (M8 2 0 8)) = (iN 5) →
                 CT l E (d - 1) m_Tokens_standsSign [(.ref 2, 4), (.int (iN 59), 0)] M8 (fun v9 M9 =>
                  ((((toI v9) = 0 ∨ (toI v9) = 1)) ∧ K (.int (toI v9), 0) M9))) ∧
                ((iN (M8 2 0 8)) = (iN 5) →
                 CT l E (d - 1) m_CReader_readLine [(.ref 1, 3), (.ref r2, 11), (.int (toI v6), 0)] M8 (fun v10 M10 =>
                  ((¬ (toI v10) = 0 →
                   CT l E (d - 1) m_Tokens_standsSign [(.ref 2, 4), (.int (iN 59), 0)] M10 (fun v11 M11 =>
                    ((((toI v11) = 0 ∨ (toI v11) = 1)) ∧ K (.int (toI v11), 0) M11))) ∧
                  ((toI v10) = 0 →
                   ((((iN 0) = 0 ∨ (iN 0) = 1)) ∧ K (.int (iN 0), 0) M10))))))) ∧
               ((toI v8) = 0 →
                ((((iN 0) = 0 ∨ (iN 0) = 1)) ∧ K (.int (iN 0), 0) M8))))))) ∧
           ((toI v5) = 0 →
            ((((iN 0) = 0 ∨ (iN 0) = 1)) ∧ K (.int (iN 0), 0) M5)))))))) ∧
       (¬ (toI v3) = (iN (-1)) →
        CT l E (d - 1) m_Tokens_refuse [(.ref 2, 4), (.int (iN 3), 0)] M3 (fun v12 M12 =>
         ((((toI v12) = 0 ∨ (toI v12) = 1)) ∧ K (.int (toI v12), 0) M12)))))) ∧
     ((toI v2) = 0 →
      ((((iN 0) = 0 ∨ (iN 0) = 1)) ∧ K (.int (iN 0), 0) M2)))))) ∧
  (¬ (iN (M r2 0 8)) < (iN 8) →
   CT l E (d - 1) m_Tokens_refuse [(.ref 2, 4), (.int (iN 6), 0)] M (fun v13 M13 =>
    ((((toI v13) = 0 ∨ (toI v13) = 1)) ∧ K (.int (toI v13), 0) M13))))) :
  G l E d m_CReader_readSinger 0 [(0, (.ref 1, 3)), (1, (.ref r2, 11))] [] M K := G.blk 60 _ hd ok_CReader_readSinger rfl h
def bt_CReader_readOwes : BtT := [(0, [0, 1], true, [(0, .aload_n 0, 1, 0, 0, 0, m0),
   (1, .getfield 12, 3, 0, 1, 191, m0),
   (4, .aload_n 1, 1, 0, 0, 0, m0),
   (5, .iconst (-1), 1, 0, 0, 0, m0),
   (6, .invokevirtual 123, 3, 0, 0, 788, m_Tokens_takeSinger),
   (9, .istore_n 2, 1, 0, 0, 0, m0),
   (10, .iload_n 2, 1, 0, 0, 0, m0),
   (11, .iconst (-1), 1, 0, 0, 0, m0),
   (12, .if_icmp .ne 5, 3, 17, 0, 0, m0),
   (15, .nop, 0, 0, 0, 0, m0)]),
  (15, [], false, [(15, .iconst 0, 1, 0, 0, 0, m0),
   (16, .ireturn, 1, 0, 0, 0, m0)]),
  (17, [], false, [(17, .aload_n 0, 1, 0, 0, 0, m0),
   (18, .getfield 12, 3, 0, 1, 191, m0),
   (21, .aload_n 1, 1, 0, 0, 0, m0),
   (22, .iload_n 2, 1, 0, 0, 0, m0),
   (23, .invokevirtual 123, 3, 0, 0, 788, m_Tokens_takeSinger),
   (26, .istore_n 3, 1, 0, 0, 0, m0),
   (27, .iload_n 3, 1, 0, 0, 0, m0),
   (28, .iconst (-1), 1, 0, 0, 0, m0),
   (29, .if_icmp .eq 16, 3, 45, 0, 0, m0),
   (32, .nop, 0, 0, 0, 0, m0)]),
  (32, [], false, [(32, .aload_n 0, 1, 0, 0, 0, m0),
   (33, .getfield 12, 3, 0, 1, 191, m0),
   (36, .iconst 1, 1, 0, 0, 0, m0),
   (37, .bipush 99, 2, 0, 0, 0, m0),
   (39, .invokevirtual 76, 3, 0, 0, 744, m_Tokens_takeNumber),
   (42, .ifCond .ne 5, 3, 47, 0, 0, m0),
   (45, .nop, 0, 0, 0, 0, m0)]),
  (45, [], false, [(45, .iconst 0, 1, 0, 0, 0, m0),
   (46, .ireturn, 1, 0, 0, 0, m0)]),
  (47, [], false, [(47, .aload_n 1, 1, 0, 0, 0, m0),
   (48, .iload_n 2, 1, 0, 0, 0, m0),
   (49, .iload_n 3, 1, 0, 0, 0, m0),
   (50, .aload_n 0, 1, 0, 0, 0, m0),
   (51, .getfield 12, 3, 0, 1, 191, m0),
   (54, .getfield 80, 3, 5, 5, 155, m0),
   (57, .invokevirtual 127, 3, 0, 0, 794, m_Choir_owe),
   (60, .ifCond .ne 13, 3, 73, 0, 0, m0),
   (63, .nop, 0, 0, 0, 0, m0)]),
  (63, [], false, [(63, .aload_n 0, 1, 0, 0, 0, m0),
   (64, .getfield 12, 3, 0, 1, 191, m0),
   (67, .bipush 6, 2, 0, 0, 0, m0),
   (69, .invokevirtual 51, 3, 0, 0, 726, m_Tokens_refuse),
   (72, .ireturn, 1, 0, 0, 0, m0)]),
  (73, [], false, [(73, .aload_n 0, 1, 0, 0, 0, m0),
   (74, .getfield 12, 3, 0, 1, 191, m0),
   (77, .bipush 59, 2, 0, 0, 0, m0),
   (79, .invokevirtual 131, 3, 0, 0, 814, m_Tokens_takeSign),
   (82, .ireturn, 1, 0, 0, 0, m0)])]
theorem ok_CReader_readOwes : okBt m_CReader_readOwes bt_CReader_readOwes = true := by decide +kernel
set_option maxRecDepth 100000 in
theorem b_CReader_readOwes_0 {l : Launch} {E : EnvT} {d : Nat} {K : AV → Mem → Prop} {M : Mem} {r2 : Nat}  (hd : 1 ≤ d)
  (h : CT l E (d - 1) m_Tokens_takeSinger [(.ref 2, 4), (.ref r2, 11), (.int (iN (-1)), 0)] M (fun v1 M1 =>
   ((¬ (toI v1) = (iN (-1)) →
    CT l E (d - 1) m_Tokens_takeSinger [(.ref 2, 4), (.ref r2, 11), (.int (toI v1), 0)] M1 (fun v2 M2 =>
     (((toI v2) = (iN (-1)) →
      ((((iN 0) = 0 ∨ (iN 0) = 1)) ∧ K (.int (iN 0), 0) M2)) ∧
     (¬ (toI v2) = (iN (-1)) →
      CT l E (d - 1) m_Tokens_takeNumber [(.ref 2, 4), (.int (iN 1), 0), (.int (iN 99), 0)] M2 (fun v3 M3 =>
       ((¬ (toI v3) = 0 →
        CT l E (d - 1) m_Choir_owe [(.ref r2, 11), (.int (toI v1), 0), (.int (toI v2), 0), (.int (iN (M3 2 0 5)), 0)] M3 (fun v4 M4 =>
         ((¬ (toI v4) = 0 →
          CT l E (d - 1) m_Tokens_takeSign [(.ref 2, 4), (.int (iN 59), 0)] M4 (fun v5 M5 =>
           ((((toI v5) = 0 ∨ (toI v5) = 1)) ∧ K (.int (toI v5), 0) M5))) ∧
         ((toI v4) = 0 →
          CT l E (d - 1) m_Tokens_refuse [(.ref 2, 4), (.int (iN 6), 0)] M4 (fun v6 M6 =>
           ((((toI v6) = 0 ∨ (toI v6) = 1)) ∧ K (.int (toI v6), 0) M6)))))) ∧
       ((toI v3) = 0 →
        ((((iN 0) = 0 ∨ (iN 0) = 1)) ∧ K (.int (iN 0), 0) M3)))))))) ∧
   ((toI v1) = (iN (-1)) →
    ((((iN 0) = 0 ∨ (iN 0) = 1)) ∧ K (.int (iN 0), 0) M1))))) :
  G l E d m_CReader_readOwes 0 [(0, (.ref 1, 3)), (1, (.ref r2, 11))] [] M K := G.blk 60 _ hd ok_CReader_readOwes rfl h
def bt_CReader_readHeir : BtT := [(0, [0, 1], true, [(0, .aload_n 0, 1, 0, 0, 0, m0),
   (1, .getfield 12, 3, 0, 1, 191, m0),
   (4, .aload_n 1, 1, 0, 0, 0, m0),
   (5, .iconst (-1), 1, 0, 0, 0, m0),
   (6, .invokevirtual 123, 3, 0, 0, 788, m_Tokens_takeSinger),
   (9, .istore_n 2, 1, 0, 0, 0, m0),
   (10, .iload_n 2, 1, 0, 0, 0, m0),
   (11, .iconst (-1), 1, 0, 0, 0, m0),
   (12, .if_icmp .ne 5, 3, 17, 0, 0, m0),
   (15, .nop, 0, 0, 0, 0, m0)]),
  (15, [], false, [(15, .iconst 0, 1, 0, 0, 0, m0),
   (16, .ireturn, 1, 0, 0, 0, m0)]),
  (17, [], false, [(17, .aload_n 0, 1, 0, 0, 0, m0),
   (18, .getfield 12, 3, 0, 1, 191, m0),
   (21, .aload_n 1, 1, 0, 0, 0, m0),
   (22, .iload_n 2, 1, 0, 0, 0, m0),
   (23, .invokevirtual 123, 3, 0, 0, 788, m_Tokens_takeSinger),
   (26, .istore_n 3, 1, 0, 0, 0, m0),
   (27, .iload_n 3, 1, 0, 0, 0, m0),
   (28, .iconst (-1), 1, 0, 0, 0, m0),
   (29, .if_icmp .ne 5, 3, 34, 0, 0, m0),
   (32, .nop, 0, 0, 0, 0, m0)]),
  (32, [], false, [(32, .iconst 0, 1, 0, 0, 0, m0),
   (33, .ireturn, 1, 0, 0, 0, m0)]),
  (34, [], false, [(34, .aload_n 1, 1, 0, 0, 0, m0),
   (35, .getfield 134, 3, 2, 0, 267, m0),
   (38, .iload_n 2, 1, 0, 0, 0, m0),
   (39, .iload_n 3, 1, 0, 0, 0, m0),
   (40, .iastore, 1, 0, 0, 0, m0),
   (41, .aload_n 0, 1, 0, 0, 0, m0),
   (42, .getfield 12, 3, 0, 1, 191, m0),
   (45, .bipush 59, 2, 0, 0, 0, m0),
   (47, .invokevirtual 131, 3, 0, 0, 814, m_Tokens_takeSign),
   (50, .ireturn, 1, 0, 0, 0, m0)])]
theorem ok_CReader_readHeir : okBt m_CReader_readHeir bt_CReader_readHeir = true := by decide +kernel
set_option maxRecDepth 100000 in
theorem b_CReader_readHeir_0 {l : Launch} {E : EnvT} {d : Nat} {K : AV → Mem → Prop} {M : Mem} {r2 : Nat}  (hd : 1 ≤ d)
  (h : CT l E (d - 1) m_Tokens_takeSinger [(.ref 2, 4), (.ref r2, 11), (.int (iN (-1)), 0)] M (fun v1 M1 =>
   ((¬ (toI v1) = (iN (-1)) →
    CT l E (d - 1) m_Tokens_takeSinger [(.ref 2, 4), (.ref r2, 11), (.int (toI v1), 0)] M1 (fun v2 M2 =>
     ((¬ (toI v2) = (iN (-1)) →
      (vp_in (toI v1) 8 ∧ CT l E (d - 1) m_Tokens_takeSign [(.ref 2, 4), (.int (iN 59), 0)] (upd3 M2 r2 3 ((toI v1)).toNatClampNeg ((toI v2)).toInt) (fun v3 M3 =>
       ((((toI v3) = 0 ∨ (toI v3) = 1)) ∧ K (.int (toI v3), 0) M3)))) ∧
     ((toI v2) = (iN (-1)) →
      ((((iN 0) = 0 ∨ (iN 0) = 1)) ∧ K (.int (iN 0), 0) M2))))) ∧
   ((toI v1) = (iN (-1)) →
    ((((iN 0) = 0 ∨ (iN 0) = 1)) ∧ K (.int (iN 0), 0) M1))))) :
  G l E d m_CReader_readHeir 0 [(0, (.ref 1, 3)), (1, (.ref r2, 11))] [] M K := G.blk 60 _ hd ok_CReader_readHeir rfl h
def bt_CReader_readHums : BtT := [(0, [0, 1], true, [(0, .aload_n 0, 1, 0, 0, 0, m0),
   (1, .getfield 18, 3, 1, 1, 193, m0),
   (4, .ifCond .eq 12, 3, 16, 0, 0, m0),
   (7, .nop, 0, 0, 0, 0, m0)]),
  (7, [], false, [(7, .aload_n 0, 1, 0, 0, 0, m0),
   (8, .getfield 12, 3, 0, 1, 191, m0),
   (11, .iconst 5, 1, 0, 0, 0, m0),
   (12, .invokevirtual 51, 3, 0, 0, 726, m_Tokens_refuse),
   (15, .ireturn, 1, 0, 0, 0, m0)]),
  (16, [], false, [(16, .aload_n 0, 1, 0, 0, 0, m0),
   (17, .iconst 1, 1, 0, 0, 0, m0),
   (18, .putfield 18, 3, 1, 1, 193, m0),
   (21, .aload_n 0, 1, 0, 0, 0, m0),
   (22, .getfield 12, 3, 0, 1, 191, m0),
   (25, .iconst 0, 1, 0, 0, 0, m0),
   (26, .bipush 50, 2, 0, 0, 0, m0),
   (28, .invokevirtual 76, 3, 0, 0, 744, m_Tokens_takeNumber),
   (31, .ifCond .ne 5, 3, 36, 0, 0, m0),
   (34, .nop, 0, 0, 0, 0, m0)]),
  (34, [], false, [(34, .iconst 0, 1, 0, 0, 0, m0),
   (35, .ireturn, 1, 0, 0, 0, m0)]),
  (36, [], false, [(36, .aload_n 1, 1, 0, 0, 0, m0),
   (37, .aload_n 0, 1, 0, 0, 0, m0),
   (38, .getfield 12, 3, 0, 1, 191, m0),
   (41, .getfield 80, 3, 5, 5, 155, m0),
   (44, .putfield 137, 3, 13, 0, 297, m0),
   (47, .aload_n 0, 1, 0, 0, 0, m0),
   (48, .getfield 12, 3, 0, 1, 191, m0),
   (51, .bipush 59, 2, 0, 0, 0, m0),
   (53, .invokevirtual 131, 3, 0, 0, 814, m_Tokens_takeSign),
   (56, .ireturn, 1, 0, 0, 0, m0)])]
theorem ok_CReader_readHums : okBt m_CReader_readHums bt_CReader_readHums = true := by decide +kernel
set_option maxRecDepth 100000 in
theorem b_CReader_readHums_0 {l : Launch} {E : EnvT} {d : Nat} {K : AV → Mem → Prop} {M : Mem} {r2 : Nat}  (hd : 1 ≤ d)
  (h : (((iN (M 1 0 1)) = 0 →
   (((iN 1) = 0 ∨ (iN 1) = 1) ∧ CT l E (d - 1) m_Tokens_takeNumber [(.ref 2, 4), (.int (iN 0), 0), (.int (iN 50), 0)] (upd3 M 1 0 1 ((iN 1)).toInt) (fun v1 M1 =>
    ((¬ (toI v1) = 0 →
     CT l E (d - 1) m_Tokens_takeSign [(.ref 2, 4), (.int (iN 59), 0)] (upd3 M1 r2 0 13 ((iN (M1 2 0 5))).toInt) (fun v2 M2 =>
      ((((toI v2) = 0 ∨ (toI v2) = 1)) ∧ K (.int (toI v2), 0) M2))) ∧
    ((toI v1) = 0 →
     ((((iN 0) = 0 ∨ (iN 0) = 1)) ∧ K (.int (iN 0), 0) M1)))))) ∧
  (¬ (iN (M 1 0 1)) = 0 →
   CT l E (d - 1) m_Tokens_refuse [(.ref 2, 4), (.int (iN 5), 0)] M (fun v3 M3 =>
    ((((toI v3) = 0 ∨ (toI v3) = 1)) ∧ K (.int (toI v3), 0) M3))))) :
  G l E d m_CReader_readHums 0 [(0, (.ref 1, 3)), (1, (.ref r2, 11))] [] M K := G.blk 60 _ hd ok_CReader_readHums rfl h
def bt_CReader_readAll : BtT := [(0, [0, 1, 2, 3], true, [(0, .aload_n 3, 1, 0, 0, 0, m0),
   (1, .invokevirtual 22, 3, 0, 0, 639, m_Choir_makeEmpty),
   (4, .aload_n 0, 1, 0, 0, 0, m0),
   (5, .iconst 0, 1, 0, 0, 0, m0),
   (6, .putfield 18, 3, 1, 1, 193, m0),
   (9, .aload_n 0, 1, 0, 0, 0, m0),
   (10, .getfield 12, 3, 0, 1, 191, m0),
   (13, .aload_n 1, 1, 0, 0, 0, m0),
   (14, .iload_n 2, 1, 0, 0, 0, m0),
   (15, .invokevirtual 27, 3, 0, 0, 646, m_Tokens_start),
   (18, .iconst 0, 1, 0, 0, 0, m0),
   (19, .istore 4, 2, 0, 0, 0, m0),
   (21, .nop, 0, 0, 0, 0, m0)]),
  (21, [0, 2, 3, 4], true, [(21, .iload 4, 2, 0, 0, 0, m0),
   (23, .iload_n 2, 1, 0, 0, 0, m0),
   (24, .if_icmp .gt 142, 3, 166, 0, 0, m0),
   (27, .nop, 0, 0, 0, 0, m0)]),
  (27, [], false, [(27, .aload_n 0, 1, 0, 0, 0, m0),
   (28, .getfield 12, 3, 0, 1, 191, m0),
   (31, .getfield 31, 3, 3, 5, 150, m0),
   (34, .ifCond .eq 132, 3, 166, 0, 0, m0),
   (37, .nop, 0, 0, 0, 0, m0)]),
  (37, [], false, [(37, .aload_n 0, 1, 0, 0, 0, m0),
   (38, .getfield 12, 3, 0, 1, 191, m0),
   (41, .getfield 35, 3, 8, 5, 161, m0),
   (44, .tableswitch 92 0 8 #[52, 92, 92, 92, 92, 92, 62, 72, 82], 52, 0, 0, 0, m0)]),
  (96, [], false, [(96, .aload_n 0, 1, 0, 0, 0, m0),
   (97, .aload_n 3, 1, 0, 0, 0, m0),
   (98, .invokevirtual 38, 3, 0, 0, 722, m_CReader_readSinger),
   (101, .istore 5, 2, 0, 0, 0, m0),
   (103, .goto 43, 3, 146, 0, 0, m0)]),
  (106, [], false, [(106, .aload_n 0, 1, 0, 0, 0, m0),
   (107, .aload_n 3, 1, 0, 0, 0, m0),
   (108, .invokevirtual 42, 3, 0, 0, 784, m_CReader_readOwes),
   (111, .istore 5, 2, 0, 0, 0, m0),
   (113, .goto 33, 3, 146, 0, 0, m0)]),
  (116, [], false, [(116, .aload_n 0, 1, 0, 0, 0, m0),
   (117, .aload_n 3, 1, 0, 0, 0, m0),
   (118, .invokevirtual 45, 3, 0, 0, 819, m_CReader_readHeir),
   (121, .istore 5, 2, 0, 0, 0, m0),
   (123, .goto 23, 3, 146, 0, 0, m0)]),
  (126, [], false, [(126, .aload_n 0, 1, 0, 0, 0, m0),
   (127, .aload_n 3, 1, 0, 0, 0, m0),
   (128, .invokevirtual 48, 3, 0, 0, 823, m_CReader_readHums),
   (131, .istore 5, 2, 0, 0, 0, m0),
   (133, .goto 13, 3, 146, 0, 0, m0)]),
  (136, [], false, [(136, .aload_n 0, 1, 0, 0, 0, m0),
   (137, .getfield 12, 3, 0, 1, 191, m0),
   (140, .iconst 2, 1, 0, 0, 0, m0),
   (141, .invokevirtual 51, 3, 0, 0, 726, m_Tokens_refuse),
   (144, .istore 5, 2, 0, 0, 0, m0),
   (146, .nop, 0, 0, 0, 0, m0)]),
  (146, [0, 2, 3, 4, 5], true, [(146, .iload 5, 2, 0, 0, 0, m0),
   (148, .ifCond .ne 5, 3, 153, 0, 0, m0),
   (151, .nop, 0, 0, 0, 0, m0)]),
  (151, [], false, [(151, .iconst 0, 1, 0, 0, 0, m0),
   (152, .ireturn, 1, 0, 0, 0, m0)]),
  (153, [], false, [(153, .aload_n 0, 1, 0, 0, 0, m0),
   (154, .getfield 12, 3, 0, 1, 191, m0),
   (157, .invokevirtual 55, 3, 0, 0, 730, m_Tokens_advance),
   (160, .iinc 4 1, 3, 0, 0, 0, m0),
   (163, .goto (-142), 3, 21, 0, 0, m0)]),
  (166, [], false, [(166, .iconst 1, 1, 0, 0, 0, m0),
   (167, .ireturn, 1, 0, 0, 0, m0)])]
theorem ok_CReader_readAll : okBt m_CReader_readAll bt_CReader_readAll = true := by decide +kernel
set_option maxRecDepth 100000 in
theorem b_CReader_readAll_0 {l : Launch} {E : EnvT} {d : Nat} {K : AV → Mem → Prop} {M : Mem} {r3 : Nat} {x2 : Int32} (hd : 1 ≤ d)
  (h : CT l E (d - 1) m_Choir_makeEmpty [(.ref r3, 11)] M (fun v1 M1 =>
   (((iN 0) = 0 ∨ (iN 0) = 1) ∧ CT l E (d - 1) m_Tokens_start [(.ref 2, 4), (.ref 0, 2), (.int x2, 0)] (upd3 M1 1 0 1 ((iN 0)).toInt) (fun v2 M2 =>
    G l E d m_CReader_readAll 21 [(0, (.ref 1, 3)), (2, (.int x2, 0)), (3, (.ref r3, 11)), (4, (.int (iN 0), 0))] [] M2 K)))) :
  G l E d m_CReader_readAll 0 [(0, (.ref 1, 3)), (1, (.ref 0, 2)), (2, (.int x2, 0)), (3, (.ref r3, 11))] [] M K := G.blk 60 _ hd ok_CReader_readAll rfl h
set_option maxRecDepth 100000 in
theorem b_CReader_readAll_21 {l : Launch} {E : EnvT} {d : Nat} {K : AV → Mem → Prop} {M : Mem} {r3 : Nat} {x2 : Int32} {x4 : Int32} (hd : 1 ≤ d)
  (h : ((x2 < x4 →
   ((((iN 1) = 0 ∨ (iN 1) = 1)) ∧ K (.int (iN 1), 0) M)) ∧
  (¬ x2 < x4 →
   (((iN (M 2 0 3)) = 0 →
    ((((iN 1) = 0 ∨ (iN 1) = 1)) ∧ K (.int (iN 1), 0) M)) ∧
   (¬ (iN (M 2 0 3)) = 0 →
    (((iN (M 2 0 8)) = iN 0 →
     CT l E (d - 1) m_CReader_readSinger [(.ref 1, 3), (.ref r3, 11)] M (fun v10 M10 =>
      G l E d m_CReader_readAll 146 [(0, (.ref 1, 3)), (2, (.int x2, 0)), (3, (.ref r3, 11)), (4, (.int x4, 0)), (5, (.int (toI v10), 0))] [] M10 K)) ∧
    (¬ (iN (M 2 0 8)) = iN 0 →
     (((iN (M 2 0 8)) = iN 1 →
     CT l E (d - 1) m_Tokens_refuse [(.ref 2, 4), (.int (iN 2), 0)] M (fun v9 M9 =>
      G l E d m_CReader_readAll 146 [(0, (.ref 1, 3)), (2, (.int x2, 0)), (3, (.ref r3, 11)), (4, (.int x4, 0)), (5, (.int (toI v9), 0))] [] M9 K)) ∧
    (¬ (iN (M 2 0 8)) = iN 1 →
     (((iN (M 2 0 8)) = iN 2 →
     CT l E (d - 1) m_Tokens_refuse [(.ref 2, 4), (.int (iN 2), 0)] M (fun v8 M8 =>
      G l E d m_CReader_readAll 146 [(0, (.ref 1, 3)), (2, (.int x2, 0)), (3, (.ref r3, 11)), (4, (.int x4, 0)), (5, (.int (toI v8), 0))] [] M8 K)) ∧
    (¬ (iN (M 2 0 8)) = iN 2 →
     (((iN (M 2 0 8)) = iN 3 →
     CT l E (d - 1) m_Tokens_refuse [(.ref 2, 4), (.int (iN 2), 0)] M (fun v7 M7 =>
      G l E d m_CReader_readAll 146 [(0, (.ref 1, 3)), (2, (.int x2, 0)), (3, (.ref r3, 11)), (4, (.int x4, 0)), (5, (.int (toI v7), 0))] [] M7 K)) ∧
    (¬ (iN (M 2 0 8)) = iN 3 →
     (((iN (M 2 0 8)) = iN 4 →
     CT l E (d - 1) m_Tokens_refuse [(.ref 2, 4), (.int (iN 2), 0)] M (fun v6 M6 =>
      G l E d m_CReader_readAll 146 [(0, (.ref 1, 3)), (2, (.int x2, 0)), (3, (.ref r3, 11)), (4, (.int x4, 0)), (5, (.int (toI v6), 0))] [] M6 K)) ∧
    (¬ (iN (M 2 0 8)) = iN 4 →
     (((iN (M 2 0 8)) = iN 5 →
     CT l E (d - 1) m_Tokens_refuse [(.ref 2, 4), (.int (iN 2), 0)] M (fun v5 M5 =>
      G l E d m_CReader_readAll 146 [(0, (.ref 1, 3)), (2, (.int x2, 0)), (3, (.ref r3, 11)), (4, (.int x4, 0)), (5, (.int (toI v5), 0))] [] M5 K)) ∧
    (¬ (iN (M 2 0 8)) = iN 5 →
     (((iN (M 2 0 8)) = iN 6 →
     CT l E (d - 1) m_CReader_readOwes [(.ref 1, 3), (.ref r3, 11)] M (fun v4 M4 =>
      G l E d m_CReader_readAll 146 [(0, (.ref 1, 3)), (2, (.int x2, 0)), (3, (.ref r3, 11)), (4, (.int x4, 0)), (5, (.int (toI v4), 0))] [] M4 K)) ∧
    (¬ (iN (M 2 0 8)) = iN 6 →
     (((iN (M 2 0 8)) = iN 7 →
     CT l E (d - 1) m_CReader_readHeir [(.ref 1, 3), (.ref r3, 11)] M (fun v3 M3 =>
      G l E d m_CReader_readAll 146 [(0, (.ref 1, 3)), (2, (.int x2, 0)), (3, (.ref r3, 11)), (4, (.int x4, 0)), (5, (.int (toI v3), 0))] [] M3 K)) ∧
    (¬ (iN (M 2 0 8)) = iN 7 →
     (((iN (M 2 0 8)) = iN 8 →
     CT l E (d - 1) m_CReader_readHums [(.ref 1, 3), (.ref r3, 11)] M (fun v2 M2 =>
      G l E d m_CReader_readAll 146 [(0, (.ref 1, 3)), (2, (.int x2, 0)), (3, (.ref r3, 11)), (4, (.int x4, 0)), (5, (.int (toI v2), 0))] [] M2 K)) ∧
    (¬ (iN (M 2 0 8)) = iN 8 →
     CT l E (d - 1) m_Tokens_refuse [(.ref 2, 4), (.int (iN 2), 0)] M (fun v1 M1 =>
      G l E d m_CReader_readAll 146 [(0, (.ref 1, 3)), (2, (.int x2, 0)), (3, (.ref r3, 11)), (4, (.int x4, 0)), (5, (.int (toI v1), 0))] [] M1 K)))))))))))))))))))))))) :
  G l E d m_CReader_readAll 21 [(0, (.ref 1, 3)), (2, (.int x2, 0)), (3, (.ref r3, 11)), (4, (.int x4, 0))] [] M K := G.blk 60 _ hd ok_CReader_readAll rfl h
set_option maxRecDepth 100000 in
theorem b_CReader_readAll_146 {l : Launch} {E : EnvT} {d : Nat} {K : AV → Mem → Prop} {M : Mem} {r3 : Nat} {x2 : Int32} {x4 : Int32} {x5 : Int32} (hd : 1 ≤ d)
  (h : ((¬ x5 = 0 →
   CT l E (d - 1) m_Tokens_advance [(.ref 2, 4)] M (fun v1 M1 =>
    G l E d m_CReader_readAll 21 [(0, (.ref 1, 3)), (2, (.int x2, 0)), (3, (.ref r3, 11)), (4, (.int (x4 + iN 1), 0))] [] M1 K)) ∧
  (x5 = 0 →
   ((((iN 0) = 0 ∨ (iN 0) = 1)) ∧ K (.int (iN 0), 0) M)))) :
  G l E d m_CReader_readAll 146 [(0, (.ref 1, 3)), (2, (.int x2, 0)), (3, (.ref r3, 11)), (4, (.int x4, 0)), (5, (.int x5, 0))] [] M K := G.blk 60 _ hd ok_CReader_readAll rfl h
