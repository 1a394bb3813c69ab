def bt_FN_chords : BtT := [(0, [0], true, [(0, .aload_n 0, 1, 0, 0, 0, m0),
   (1, .aload_n 0, 1, 0, 0, 0, m0),
   (2, .getfield 64, 3, 9, 10, 501, m0),
   (5, .invokevirtual 314, 3, 0, 0, 1130, m_Choir_netAll),
   (8, .invokevirtual 170, 3, 0, 0, 835, m_FN_answer),
   (11, .ireturn, 1, 0, 0, 0, m0)])]
theorem ok_FN_chords : okBt m_FN_chords bt_FN_chords = true := by decide +kernel
set_option maxRecDepth 100000 in
theorem b_FN_chords_0 {l : Launch} {E : EnvT} {d : Nat} {K : AV → Mem → Prop} {M : Mem}  (hd : 1 ≤ d)
  (h : (((M 0 0 9).toNat, 11) ∈ CL ∧ CT l E (d - 1) m_Choir_netAll [(.ref (M 0 0 9).toNat, 11)] M (fun v1 M1 =>
   CT l E (d - 1) m_FN_answer [(.ref 0, 0), (.int (toI v1), 0)] M1 (fun v2 M2 =>
    K (.int (toI v2), 0) M2)))) :
  G l E d m_FN_chords 0 [(0, (.ref 0, 0))] [] M K := G.blk 60 _ hd ok_FN_chords rfl h
def bt_FN_balance : BtT := [(0, [0, 1], true, [(0, .aload_n 0, 1, 0, 0, 0, m0),
   (1, .getfield 64, 3, 9, 10, 501, m0),
   (4, .iload_n 1, 1, 0, 0, 0, m0),
   (5, .invokevirtual 272, 3, 0, 0, 999, m_Choir_lives),
   (8, .ifCond .ne 9, 3, 17, 0, 0, m0),
   (11, .nop, 0, 0, 0, 0, m0)]),
  (11, [], false, [(11, .aload_n 0, 1, 0, 0, 0, m0),
   (12, .iconst 1, 1, 0, 0, 0, m0),
   (13, .invokevirtual 124, 3, 0, 0, 608, m_FN_refuse),
   (16, .ireturn, 1, 0, 0, 0, m0)]),
  (17, [], false, [(17, .aload_n 0, 1, 0, 0, 0, m0),
   (18, .aload_n 0, 1, 0, 0, 0, m0),
   (19, .getfield 64, 3, 9, 10, 501, m0),
   (22, .iload_n 1, 1, 0, 0, 0, m0),
   (23, .invokevirtual 317, 3, 0, 0, 1139, m_Choir_balanceOf),
   (26, .invokevirtual 170, 3, 0, 0, 835, m_FN_answer),
   (29, .ireturn, 1, 0, 0, 0, m0)])]
theorem ok_FN_balance : okBt m_FN_balance bt_FN_balance = true := by decide +kernel
set_option maxRecDepth 100000 in
theorem b_FN_balance_0 {l : Launch} {E : EnvT} {d : Nat} {K : AV → Mem → Prop} {M : Mem} {x1 : Int32} (hd : 1 ≤ d)
  (h : (((M 0 0 9).toNat, 11) ∈ CL ∧ CT l E (d - 1) m_Choir_lives [(.ref (M 0 0 9).toNat, 11), (.int x1, 0)] M (fun v1 M1 =>
   ((¬ (toI v1) = 0 →
    (((M1 0 0 9).toNat, 11) ∈ CL ∧ CT l E (d - 1) m_Choir_balanceOf [(.ref (M1 0 0 9).toNat, 11), (.int x1, 0)] M1 (fun v2 M2 =>
     CT l E (d - 1) m_FN_answer [(.ref 0, 0), (.int (toI v2), 0)] M2 (fun v3 M3 =>
      K (.int (toI v3), 0) M3)))) ∧
   ((toI v1) = 0 →
    CT l E (d - 1) m_FN_refuse [(.ref 0, 0), (.int (iN 1), 0)] M1 (fun v4 M4 =>
     K (.int (toI v4), 0) M4)))))) :
  G l E d m_FN_balance 0 [(0, (.ref 0, 0)), (1, (.int x1, 0))] [] M K := G.blk 60 _ hd ok_FN_balance rfl h
def bt_FN_payings : BtT := [(0, [0], true, [(0, .aload_n 0, 1, 0, 0, 0, m0),
   (1, .getfield 43, 3, 5, 10, 497, m0),
   (4, .aload_n 0, 1, 0, 0, 0, m0),
   (5, .getfield 64, 3, 9, 10, 501, m0),
   (8, .invokevirtual 320, 3, 0, 0, 1149, m_Ties_look),
   (11, .aload_n 0, 1, 0, 0, 0, m0),
   (12, .aload_n 0, 1, 0, 0, 0, m0),
   (13, .getfield 43, 3, 5, 10, 497, m0),
   (16, .invokevirtual 324, 3, 0, 0, 1156, m_Ties_unevenCount),
   (19, .aload_n 0, 1, 0, 0, 0, m0),
   (20, .getfield 43, 3, 5, 10, 497, m0),
   (23, .invokevirtual 327, 3, 0, 0, 1165, m_Ties_mostParts),
   (26, .isub, 1, 0, 0, 0, m0),
   (27, .invokevirtual 170, 3, 0, 0, 835, m_FN_answer),
   (30, .ireturn, 1, 0, 0, 0, m0)])]
theorem ok_FN_payings : okBt m_FN_payings bt_FN_payings = true := by decide +kernel
set_option maxRecDepth 100000 in
theorem b_FN_payings_0 {l : Launch} {E : EnvT} {d : Nat} {K : AV → Mem → Prop} {M : Mem}  (hd : 1 ≤ d)
  (h : (((M 0 0 9).toNat, 11) ∈ CL ∧ CT l E (d - 1) m_Ties_look [(.ref 12, 30), (.ref (M 0 0 9).toNat, 11)] M (fun v1 M1 =>
   CT l E (d - 1) m_Ties_unevenCount [(.ref 12, 30)] M1 (fun v2 M2 =>
    CT l E (d - 1) m_Ties_mostParts [(.ref 12, 30)] M2 (fun v3 M3 =>
     CT l E (d - 1) m_FN_answer [(.ref 0, 0), (.int ((toI v2) - (toI v3)), 0)] M3 (fun v4 M4 =>
      K (.int (toI v4), 0) M4)))))) :
  G l E d m_FN_payings 0 [(0, (.ref 0, 0))] [] M K := G.blk 60 _ hd ok_FN_payings rfl h
def bt_FN_parts : BtT := [(0, [0], true, [(0, .aload_n 0, 1, 0, 0, 0, m0),
   (1, .getfield 43, 3, 5, 10, 497, m0),
   (4, .aload_n 0, 1, 0, 0, 0, m0),
   (5, .getfield 64, 3, 9, 10, 501, m0),
   (8, .invokevirtual 320, 3, 0, 0, 1149, m_Ties_look),
   (11, .aload_n 0, 1, 0, 0, 0, m0),
   (12, .aload_n 0, 1, 0, 0, 0, m0),
   (13, .getfield 43, 3, 5, 10, 497, m0),
   (16, .invokevirtual 327, 3, 0, 0, 1165, m_Ties_mostParts),
   (19, .invokevirtual 170, 3, 0, 0, 835, m_FN_answer),
   (22, .ireturn, 1, 0, 0, 0, m0)])]
theorem ok_FN_parts : okBt m_FN_parts bt_FN_parts = true := by decide +kernel
set_option maxRecDepth 100000 in
theorem b_FN_parts_0 {l : Launch} {E : EnvT} {d : Nat} {K : AV → Mem → Prop} {M : Mem}  (hd : 1 ≤ d)
  (h : (((M 0 0 9).toNat, 11) ∈ CL ∧ CT l E (d - 1) m_Ties_look [(.ref 12, 30), (.ref (M 0 0 9).toNat, 11)] M (fun v1 M1 =>
   CT l E (d - 1) m_Ties_mostParts [(.ref 12, 30)] M1 (fun v2 M2 =>
    CT l E (d - 1) m_FN_answer [(.ref 0, 0), (.int (toI v2), 0)] M2 (fun v3 M3 =>
     K (.int (toI v3), 0) M3))))) :
  G l E d m_FN_parts 0 [(0, (.ref 0, 0))] [] M K := G.blk 60 _ hd ok_FN_parts rfl h
def bt_FN_shorts : BtT := [(0, [0], true, [(0, .iconst 0, 1, 0, 0, 0, m0),
   (1, .istore_n 1, 1, 0, 0, 0, m0),
   (2, .iconst 0, 1, 0, 0, 0, m0),
   (3, .istore_n 2, 1, 0, 0, 0, m0),
   (4, .nop, 0, 0, 0, 0, m0)]),
  (4, [0, 1, 2], true, [(4, .iload_n 2, 1, 0, 0, 0, m0),
   (5, .aload_n 0, 1, 0, 0, 0, m0),
   (6, .getfield 64, 3, 9, 10, 501, m0),
   (9, .getfield 167, 3, 8, 0, 283, m0),
   (12, .if_icmp .ge 26, 3, 38, 0, 0, m0),
   (15, .nop, 0, 0, 0, 0, m0)]),
  (15, [], false, [(15, .aload_n 0, 1, 0, 0, 0, m0),
   (16, .getfield 64, 3, 9, 10, 501, m0),
   (19, .iload_n 2, 1, 0, 0, 0, m0),
   (20, .invokevirtual 330, 3, 0, 0, 1183, m_Choir_lacks),
   (23, .ifCond .le 9, 3, 32, 0, 0, m0),
   (26, .nop, 0, 0, 0, 0, m0)]),
  (26, [], false, [(26, .iload_n 1, 1, 0, 0, 0, m0),
   (27, .iconst 1, 1, 0, 0, 0, m0),
   (28, .iload_n 2, 1, 0, 0, 0, m0),
   (29, .ishl, 1, 0, 0, 0, m0),
   (30, .ior, 1, 0, 0, 0, m0),
   (31, .istore_n 1, 1, 0, 0, 0, m0),
   (32, .nop, 0, 0, 0, 0, m0)]),
  (32, [], false, [(32, .iinc 2 1, 3, 0, 0, 0, m0),
   (35, .goto (-31), 3, 4, 0, 0, m0)]),
  (38, [], false, [(38, .aload_n 0, 1, 0, 0, 0, m0),
   (39, .iload_n 1, 1, 0, 0, 0, m0),
   (40, .invokevirtual 170, 3, 0, 0, 835, m_FN_answer),
   (43, .ireturn, 1, 0, 0, 0, m0)])]
theorem ok_FN_shorts : okBt m_FN_shorts bt_FN_shorts = true := by decide +kernel
set_option maxRecDepth 100000 in
theorem b_FN_shorts_0 {l : Launch} {E : EnvT} {d : Nat} {K : AV → Mem → Prop} {M : Mem}  (hd : 1 ≤ d)
  (h : G l E d m_FN_shorts 4 [(0, (.ref 0, 0)), (1, (.int (iN 0), 0)), (2, (.int (iN 0), 0))] [] M K) :
  G l E d m_FN_shorts 0 [(0, (.ref 0, 0))] [] M K := G.blk 60 _ hd ok_FN_shorts rfl h
set_option maxRecDepth 100000 in
theorem b_FN_shorts_4 {l : Launch} {E : EnvT} {d : Nat} {K : AV → Mem → Prop} {M : Mem} {x1 : Int32} {x2 : Int32} (hd : 1 ≤ d)
  (h : (((M 0 0 9).toNat, 11) ∈ CL ∧ (((iN (M (M 0 0 9).toNat 0 8)) ≤ x2 →
   CT l E (d - 1) m_FN_answer [(.ref 0, 0), (.int x1, 0)] M (fun v1 M1 =>
    K (.int (toI v1), 0) M1)) ∧
  (¬ (iN (M (M 0 0 9).toNat 0 8)) ≤ x2 →
   (((M 0 0 9).toNat, 11) ∈ CL ∧ CT l E (d - 1) m_Choir_lacks [(.ref (M 0 0 9).toNat, 11), (.int x2, 0)] M (fun v2 M2 =>
    (((toI v2) ≤ 0 →
     G l E d m_FN_shorts 4 [(0, (.ref 0, 0)), (1, (.int x1, 0)), (2, (.int (x2 + iN 1), 0))] [] M2 K) ∧
    (¬ (toI v2) ≤ 0 →
     G l E d m_FN_shorts 4 [(0, (.ref 0, 0)), (1, (.int (x1 ||| ((iN 1) <<< (x2 &&& 31))), 0)), (2, (.int (x2 + iN 1), 0))] [] M2 K)))))))) :
  G l E d m_FN_shorts 4 [(0, (.ref 0, 0)), (1, (.int x1, 0)), (2, (.int x2, 0))] [] M K := G.blk 60 _ hd ok_FN_shorts rfl h
def bt_FN_lacking : BtT := [(0, [0], true, [(0, .iconst 0, 1, 0, 0, 0, m0),
   (1, .istore_n 1, 1, 0, 0, 0, m0),
   (2, .iconst 0, 1, 0, 0, 0, m0),
   (3, .istore_n 2, 1, 0, 0, 0, m0),
   (4, .nop, 0, 0, 0, 0, m0)]),
  (4, [0, 1, 2], true, [(4, .iload_n 2, 1, 0, 0, 0, m0),
   (5, .aload_n 0, 1, 0, 0, 0, m0),
   (6, .getfield 64, 3, 9, 10, 501, m0),
   (9, .getfield 167, 3, 8, 0, 283, m0),
   (12, .if_icmp .ge 20, 3, 32, 0, 0, m0),
   (15, .nop, 0, 0, 0, 0, m0)]),
  (15, [], false, [(15, .iload_n 1, 1, 0, 0, 0, m0),
   (16, .aload_n 0, 1, 0, 0, 0, m0),
   (17, .getfield 64, 3, 9, 10, 501, m0),
   (20, .iload_n 2, 1, 0, 0, 0, m0),
   (21, .invokevirtual 330, 3, 0, 0, 1183, m_Choir_lacks),
   (24, .iadd, 1, 0, 0, 0, m0),
   (25, .istore_n 1, 1, 0, 0, 0, m0),
   (26, .iinc 2 1, 3, 0, 0, 0, m0),
   (29, .goto (-25), 3, 4, 0, 0, m0)]),
  (32, [], false, [(32, .aload_n 0, 1, 0, 0, 0, m0),
   (33, .iload_n 1, 1, 0, 0, 0, m0),
   (34, .invokevirtual 170, 3, 0, 0, 835, m_FN_answer),
   (37, .ireturn, 1, 0, 0, 0, m0)])]
theorem ok_FN_lacking : okBt m_FN_lacking bt_FN_lacking = true := by decide +kernel
set_option maxRecDepth 100000 in
theorem b_FN_lacking_0 {l : Launch} {E : EnvT} {d : Nat} {K : AV → Mem → Prop} {M : Mem}  (hd : 1 ≤ d)
  (h : G l E d m_FN_lacking 4 [(0, (.ref 0, 0)), (1, (.int (iN 0), 0)), (2, (.int (iN 0), 0))] [] M K) :
  G l E d m_FN_lacking 0 [(0, (.ref 0, 0))] [] M K := G.blk 60 _ hd ok_FN_lacking rfl h
set_option maxRecDepth 100000 in
theorem b_FN_lacking_4 {l : Launch} {E : EnvT} {d : Nat} {K : AV → Mem → Prop} {M : Mem} {x1 : Int32} {x2 : Int32} (hd : 1 ≤ d)
  (h : (((M 0 0 9).toNat, 11) ∈ CL ∧ (((iN (M (M 0 0 9).toNat 0 8)) ≤ x2 →
   CT l E (d - 1) m_FN_answer [(.ref 0, 0), (.int x1, 0)] M (fun v1 M1 =>
    K (.int (toI v1), 0) M1)) ∧
  (¬ (iN (M (M 0 0 9).toNat 0 8)) ≤ x2 →
   (((M 0 0 9).toNat, 11) ∈ CL ∧ CT l E (d - 1) m_Choir_lacks [(.ref (M 0 0 9).toNat, 11), (.int x2, 0)] M (fun v2 M2 =>
    G l E d m_FN_lacking 4 [(0, (.ref 0, 0)), (1, (.int (x1 + (toI v2)), 0)), (2, (.int (x2 + iN 1), 0))] [] M2 K)))))) :
  G l E d m_FN_lacking 4 [(0, (.ref 0, 0)), (1, (.int x1, 0)), (2, (.int x2, 0))] [] M K := G.blk 60 _ hd ok_FN_lacking rfl h
def bt_FN_measured : BtT := [(0, [0, 1, 2], true, [(0, .iload_n 2, 1, 0, 0, 0, m0),
   (1, .lookupswitch 45 #[(0, 27), (1, 36)], 27, 0, 0, 0, m0)]),
  (28, [], false, [(28, .aload_n 0, 1, 0, 0, 0, m0),
   (29, .getfield 64, 3, 9, 10, 501, m0),
   (32, .iload_n 1, 1, 0, 0, 0, m0),
   (33, .invokevirtual 242, 3, 0, 0, 962, m_Choir_isOwedInAll),
   (36, .ireturn, 1, 0, 0, 0, m0)]),
  (37, [], false, [(37, .aload_n 0, 1, 0, 0, 0, m0),
   (38, .getfield 64, 3, 9, 10, 501, m0),
   (41, .iload_n 1, 1, 0, 0, 0, m0),
   (42, .invokevirtual 239, 3, 0, 0, 958, m_Choir_owesInAll),
   (45, .ireturn, 1, 0, 0, 0, m0)]),
  (46, [], false, [(46, .aload_n 0, 1, 0, 0, 0, m0),
   (47, .getfield 64, 3, 9, 10, 501, m0),
   (50, .iload_n 1, 1, 0, 0, 0, m0),
   (51, .invokevirtual 272, 3, 0, 0, 999, m_Choir_lives),
   (54, .ifCond .eq 14, 3, 68, 0, 0, m0),
   (57, .nop, 0, 0, 0, 0, m0)]),
  (57, [], false, [(57, .aload_n 0, 1, 0, 0, 0, m0),
   (58, .getfield 64, 3, 9, 10, 501, m0),
   (61, .iload_n 1, 1, 0, 0, 0, m0),
   (62, .invokevirtual 359, 3, 0, 0, 1204, m_Choir_freeNotes),
   (65, .goto 4, 3, 69, 0, 0, m0)]),
  (68, [], false, [(68, .iconst 0, 1, 0, 0, 0, m0),
   (69, .nop, 0, 0, 0, 0, m0)]),
  (69, [], false, [(69, .ireturn, 1, 0, 0, 0, m0)])]
theorem ok_FN_measured : okBt m_FN_measured bt_FN_measured = true := by decide +kernel
set_option maxRecDepth 100000 in
theorem b_FN_measured_0 {l : Launch} {E : EnvT} {d : Nat} {K : AV → Mem → Prop} {M : Mem} {x1 : Int32} {x2 : Int32} (hd : 1 ≤ d)
  (h : ((x2 = iN 0 →
   (((M 0 0 9).toNat, 11) ∈ CL ∧ CT l E (d - 1) m_Choir_isOwedInAll [(.ref (M 0 0 9).toNat, 11), (.int x1, 0)] M (fun v4 M4 =>
    K (.int (toI v4), 0) M4))) ∧
  (¬ x2 = iN 0 →
   ((x2 = iN 1 →
   (((M 0 0 9).toNat, 11) ∈ CL ∧ CT l E (d - 1) m_Choir_owesInAll [(.ref (M 0 0 9).toNat, 11), (.int x1, 0)] M (fun v3 M3 =>
    K (.int (toI v3), 0) M3))) ∧
  (¬ x2 = iN 1 →
   (((M 0 0 9).toNat, 11) ∈ CL ∧ CT l E (d - 1) m_Choir_lives [(.ref (M 0 0 9).toNat, 11), (.int x1, 0)] M (fun v1 M1 =>
    (((toI v1) = 0 →
     K (.int (iN 0), 0) M1) ∧
    (¬ (toI v1) = 0 →
     (((M1 0 0 9).toNat, 11) ∈ CL ∧ CT l E (d - 1) m_Choir_freeNotes [(.ref (M1 0 0 9).toNat, 11), (.int x1, 0)] M1 (fun v2 M2 =>
      K (.int (toI v2), 0) M2))))))))))) :
  G l E d m_FN_measured 0 [(0, (.ref 0, 0)), (1, (.int x1, 0)), (2, (.int x2, 0))] [] M K := G.blk 60 _ hd ok_FN_measured rfl h
def bt_FN_firstWithMost : BtT := [(0, [0, 1], true, [(0, .iconst (-1), 1, 0, 0, 0, m0),
   (1, .istore_n 2, 1, 0, 0, 0, m0),
   (2, .iconst 0, 1, 0, 0, 0, m0),
   (3, .istore_n 3, 1, 0, 0, 0, m0),
   (4, .iconst 0, 1, 0, 0, 0, m0),
   (5, .istore 4, 2, 0, 0, 0, m0),
   (7, .nop, 0, 0, 0, 0, m0)]),
  (7, [0, 1, 2, 3, 4], true, [(7, .iload 4, 2, 0, 0, 0, m0),
   (9, .aload_n 0, 1, 0, 0, 0, m0),
   (10, .getfield 64, 3, 9, 10, 501, m0),
   (13, .getfield 167, 3, 8, 0, 283, m0),
   (16, .if_icmp .ge 30, 3, 46, 0, 0, m0),
   (19, .nop, 0, 0, 0, 0, m0)]),
  (19, [], false, [(19, .aload_n 0, 1, 0, 0, 0, m0),
   (20, .iload 4, 2, 0, 0, 0, m0),
   (22, .iload_n 1, 1, 0, 0, 0, m0),
   (23, .invokevirtual 425, 3, 0, 0, 1200, m_FN_measured),
   (26, .istore 5, 2, 0, 0, 0, m0),
   (28, .iload 5, 2, 0, 0, 0, m0),
   (30, .iload_n 3, 1, 0, 0, 0, m0),
   (31, .if_icmp .le 9, 3, 40, 0, 0, m0),
   (34, .nop, 0, 0, 0, 0, m0)]),
  (34, [], false, [(34, .iload 5, 2, 0, 0, 0, m0),
   (36, .istore_n 3, 1, 0, 0, 0, m0),
   (37, .iload 4, 2, 0, 0, 0, m0),
   (39, .istore_n 2, 1, 0, 0, 0, m0),
   (40, .nop, 0, 0, 0, 0, m0)]),
  (40, [], false, [(40, .iinc 4 1, 3, 0, 0, 0, m0),
   (43, .goto (-36), 3, 7, 0, 0, m0)]),
  (46, [], false, [(46, .aload_n 0, 1, 0, 0, 0, m0),
   (47, .iload_n 2, 1, 0, 0, 0, m0),
   (48, .bipush 6, 2, 0, 0, 0, m0),
   (50, .invokevirtual 236, 3, 0, 0, 954, m_FN_answerOr),
   (53, .ireturn, 1, 0, 0, 0, m0)])]
theorem ok_FN_firstWithMost : okBt m_FN_firstWithMost bt_FN_firstWithMost = true := by decide +kernel
set_option maxRecDepth 100000 in
theorem b_FN_firstWithMost_0 {l : Launch} {E : EnvT} {d : Nat} {K : AV → Mem → Prop} {M : Mem} {x1 : Int32} (hd : 1 ≤ d)
  (h : G l E d m_FN_firstWithMost 7 [(0, (.ref 0, 0)), (1, (.int x1, 0)), (2, (.int (iN (-1)), 0)), (3, (.int (iN 0), 0)), (4, (.int (iN 0), 0))] [] M K) :
  G l E d m_FN_firstWithMost 0 [(0, (.ref 0, 0)), (1, (.int x1, 0))] [] M K := G.blk 60 _ hd ok_FN_firstWithMost rfl h
set_option maxRecDepth 100000 in
theorem b_FN_firstWithMost_7 {l : Launch} {E : EnvT} {d : Nat} {K : AV → Mem → Prop} {M : Mem} {x1 : Int32} {x2 : Int32} {x3 : Int32} {x4 : Int32} (hd : 1 ≤ d)
  (h : (((M 0 0 9).toNat, 11) ∈ CL ∧ (((iN (M (M 0 0 9).toNat 0 8)) ≤ x4 →
   CT l E (d - 1) m_FN_answerOr [(.ref 0, 0), (.int x2, 0), (.int (iN 6), 0)] M (fun v1 M1 =>
    K (.int (toI v1), 0) M1)) ∧
  (¬ (iN (M (M 0 0 9).toNat 0 8)) ≤ x4 →
   CT l E (d - 1) m_FN_measured [(.ref 0, 0), (.int x4, 0), (.int x1, 0)] M (fun v2 M2 =>
    (((toI v2) ≤ x3 →
     G l E d m_FN_firstWithMost 7 [(0, (.ref 0, 0)), (1, (.int x1, 0)), (2, (.int x2, 0)), (3, (.int x3, 0)), (4, (.int (x4 + iN 1), 0))] [] M2 K) ∧
    (¬ (toI v2) ≤ x3 →
     G l E d m_FN_firstWithMost 7 [(0, (.ref 0, 0)), (1, (.int x1, 0)), (2, (.int x4, 0)), (3, (.int (toI v2), 0)), (4, (.int (x4 + iN 1), 0))] [] M2 K))))))) :
  G l E d m_FN_firstWithMost 7 [(0, (.ref 0, 0)), (1, (.int x1, 0)), (2, (.int x2, 0)), (3, (.int x3, 0)), (4, (.int x4, 0))] [] M K := G.blk 60 _ hd ok_FN_firstWithMost rfl h
def bt_FN_richest : BtT := [(0, [0], true, [(0, .aload_n 0, 1, 0, 0, 0, m0),
   (1, .iconst 0, 1, 0, 0, 0, m0),
   (2, .invokevirtual 333, 3, 0, 0, 1196, m_FN_firstWithMost),
   (5, .ireturn, 1, 0, 0, 0, m0)])]
theorem ok_FN_richest : okBt m_FN_richest bt_FN_richest = true := by decide +kernel
set_option maxRecDepth 100000 in
theorem b_FN_richest_0 {l : Launch} {E : EnvT} {d : Nat} {K : AV → Mem → Prop} {M : Mem}  (hd : 1 ≤ d)
  (h : CT l E (d - 1) m_FN_firstWithMost [(.ref 0, 0), (.int (iN 0), 0)] M (fun v1 M1 =>
   K (.int (toI v1), 0) M1)) :
  G l E d m_FN_richest 0 [(0, (.ref 0, 0))] [] M K := G.blk 60 _ hd ok_FN_richest rfl h
def bt_FN_deepest : BtT := [(0, [0], true, [(0, .aload_n 0, 1, 0, 0, 0, m0),
   (1, .iconst 1, 1, 0, 0, 0, m0),
   (2, .invokevirtual 333, 3, 0, 0, 1196, m_FN_firstWithMost),
   (5, .ireturn, 1, 0, 0, 0, m0)])]
theorem ok_FN_deepest : okBt m_FN_deepest bt_FN_deepest = true := by decide +kernel
set_option maxRecDepth 100000 in
theorem b_FN_deepest_0 {l : Launch} {E : EnvT} {d : Nat} {K : AV → Mem → Prop} {M : Mem}  (hd : 1 ≤ d)
  (h : CT l E (d - 1) m_FN_firstWithMost [(.ref 0, 0), (.int (iN 1), 0)] M (fun v1 M1 =>
   K (.int (toI v1), 0) M1)) :
  G l E d m_FN_deepest 0 [(0, (.ref 0, 0))] [] M K := G.blk 60 _ hd ok_FN_deepest rfl h
def bt_FN_tellFraction : BtT := [(0, [0, 1, 3], true, [(0, .lload_n 3, 1, 0, 0, 0, m0),
   (1, .lstore 5, 2, 0, 0, 0, m0),
   (3, .lload_n 1, 1, 0, 0, 0, m0),
   (4, .lstore 7, 2, 0, 0, 0, m0),
   (6, .iconst 0, 1, 0, 0, 0, m0),
   (7, .istore 9, 2, 0, 0, 0, m0),
   (9, .nop, 0, 0, 0, 0, m0)]),
  (9, [0, 1, 3, 5, 7, 9], true, [(9, .iload 9, 2, 0, 0, 0, m0),
   (11, .bipush 100, 2, 0, 0, 0, m0),
   (13, .if_icmp .ge 31, 3, 44, 0, 0, m0),
   (16, .nop, 0, 0, 0, 0, m0)]),
  (16, [], false, [(16, .lload 7, 2, 0, 0, 0, m0),
   (18, .lconst 0, 1, 0, 0, 0, m0),
   (19, .lcmp, 1, 0, 0, 0, m0),
   (20, .ifCond .eq 24, 3, 44, 0, 0, m0),
   (23, .nop, 0, 0, 0, 0, m0)]),
  (23, [], false, [(23, .lload 5, 2, 0, 0, 0, m0),
   (25, .lload 7, 2, 0, 0, 0, m0),
   (27, .lrem, 1, 0, 0, 0, m0),
   (28, .lstore 10, 2, 0, 0, 0, m0),
   (30, .lload 7, 2, 0, 0, 0, m0),
   (32, .lstore 5, 2, 0, 0, 0, m0),
   (34, .lload 10, 2, 0, 0, 0, m0),
   (36, .lstore 7, 2, 0, 0, 0, m0),
   (38, .iinc 9 1, 3, 0, 0, 0, m0),
   (41, .goto (-32), 3, 9, 0, 0, m0)]),
  (44, [], false, [(44, .aload_n 0, 1, 0, 0, 0, m0),
   (45, .lload 5, 2, 0, 0, 0, m0),
   (47, .lconst 0, 1, 0, 0, 0, m0),
   (48, .lcmp, 1, 0, 0, 0, m0),
   (49, .ifCond .ne 7, 3, 56, 0, 0, m0),
   (52, .nop, 0, 0, 0, 0, m0)]),
  (52, [], false, [(52, .lconst 0, 1, 0, 0, 0, m0),
   (53, .goto 7, 3, 60, 0, 0, m0)]),
  (56, [], false, [(56, .lload_n 1, 1, 0, 0, 0, m0),
   (57, .lload 5, 2, 0, 0, 0, m0),
   (59, .ldiv, 1, 0, 0, 0, m0),
   (60, .nop, 0, 0, 0, 0, m0)]),
  (60, [], false, [(60, .putfield 84, 3, 14, 10, 506, m0),
   (63, .aload_n 0, 1, 0, 0, 0, m0),
   (64, .lload 5, 2, 0, 0, 0, m0),
   (66, .lconst 0, 1, 0, 0, 0, m0),
   (67, .lcmp, 1, 0, 0, 0, m0),
   (68, .ifCond .ne 7, 3, 75, 0, 0, m0),
   (71, .nop, 0, 0, 0, 0, m0)]),
  (71, [], false, [(71, .lconst 1, 1, 0, 0, 0, m0),
   (72, .goto 7, 3, 79, 0, 0, m0)]),
  (75, [], false, [(75, .lload_n 3, 1, 0, 0, 0, m0),
   (76, .lload 5, 2, 0, 0, 0, m0),
   (78, .ldiv, 1, 0, 0, 0, m0),
   (79, .nop, 0, 0, 0, 0, m0)]),
  (79, [], false, [(79, .putfield 88, 3, 15, 10, 507, m0),
   (82, .return_, 1, 0, 0, 0, m0)])]
theorem ok_FN_tellFraction : okBt m_FN_tellFraction bt_FN_tellFraction = true := by decide +kernel
set_option maxRecDepth 100000 in
theorem b_FN_tellFraction_0 {l : Launch} {E : EnvT} {d : Nat} {K : AV → Mem → Prop} {M : Mem} {x1 : Int64} {x3 : Int64} (hd : 1 ≤ d)
  (h : G l E d m_FN_tellFraction 9 [(0, (.ref 0, 0)), (1, (.long x1, 0)), (3, (.long x3, 0)), (5, (.long x3, 0)), (7, (.long x1, 0)), (9, (.int (iN 0), 0))] [] M K) :
  G l E d m_FN_tellFraction 0 [(0, (.ref 0, 0)), (1, (.long x1, 0)), (3, (.long x3, 0))] [] M K := G.blk 60 _ hd ok_FN_tellFraction rfl h
set_option maxRecDepth 100000 in
theorem b_FN_tellFraction_9 {l : Launch} {E : EnvT} {d : Nat} {K : AV → Mem → Prop} {M : Mem} {x1 : Int64} {x3 : Int64} {x5 : Int64} {x7 : Int64} {x9 : Int32} (hd : 1 ≤ d)
  (h : (((iN 100) ≤ x9 →
   ((¬ (lg_cmp x5 (lI 0)) = 0 →
    (¬ x5 = 0 ∧ ((¬ (lg_cmp x5 (lI 0)) = 0 →
     (¬ x5 = 0 ∧ K (.null, 0) (upd3 (upd3 M 0 0 14 ((x1 / x5)).toInt) 0 0 15 ((x3 / x5)).toInt))) ∧
    ((lg_cmp x5 (lI 0)) = 0 →
     K (.null, 0) (upd3 (upd3 M 0 0 14 ((x1 / x5)).toInt) 0 0 15 ((lI 1)).toInt))))) ∧
   ((lg_cmp x5 (lI 0)) = 0 →
    ((¬ (lg_cmp x5 (lI 0)) = 0 →
     (¬ x5 = 0 ∧ K (.null, 0) (upd3 (upd3 M 0 0 14 ((lI 0)).toInt) 0 0 15 ((x3 / x5)).toInt))) ∧
    ((lg_cmp x5 (lI 0)) = 0 →
     K (.null, 0) (upd3 (upd3 M 0 0 14 ((lI 0)).toInt) 0 0 15 ((lI 1)).toInt)))))) ∧
  (¬ (iN 100) ≤ x9 →
   (((lg_cmp x7 (lI 0)) = 0 →
    ((¬ (lg_cmp x5 (lI 0)) = 0 →
     (¬ x5 = 0 ∧ ((¬ (lg_cmp x5 (lI 0)) = 0 →
      (¬ x5 = 0 ∧ K (.null, 0) (upd3 (upd3 M 0 0 14 ((x1 / x5)).toInt) 0 0 15 ((x3 / x5)).toInt))) ∧
     ((lg_cmp x5 (lI 0)) = 0 →
      K (.null, 0) (upd3 (upd3 M 0 0 14 ((x1 / x5)).toInt) 0 0 15 ((lI 1)).toInt))))) ∧
    ((lg_cmp x5 (lI 0)) = 0 →
     ((¬ (lg_cmp x5 (lI 0)) = 0 →
      (¬ x5 = 0 ∧ K (.null, 0) (upd3 (upd3 M 0 0 14 ((lI 0)).toInt) 0 0 15 ((x3 / x5)).toInt))) ∧
     ((lg_cmp x5 (lI 0)) = 0 →
      K (.null, 0) (upd3 (upd3 M 0 0 14 ((lI 0)).toInt) 0 0 15 ((lI 1)).toInt)))))) ∧
   (¬ (lg_cmp x7 (lI 0)) = 0 →
    (¬ x7 = 0 ∧ G l E d m_FN_tellFraction 9 [(0, (.ref 0, 0)), (1, (.long x1, 0)), (3, (.long x3, 0)), (5, (.long x7, 0)), (7, (.long (lR x5 x7), 0)), (9, (.int (x9 + iN 1), 0))] [] M K)))))) :
  G l E d m_FN_tellFraction 9 [(0, (.ref 0, 0)), (1, (.long x1, 0)), (3, (.long x3, 0)), (5, (.long x5, 0)), (7, (.long x7, 0)), (9, (.int x9, 0))] [] M K := G.blk 60 _ hd ok_FN_tellFraction rfl h
def bt_FN_bass : BtT := [(0, [0], true, [(0, .aload_n 0, 1, 0, 0, 0, m0),
   (1, .getfield 64, 3, 9, 10, 501, m0),
   (4, .invokevirtual 199, 3, 0, 0, 916, m_Choir_allOwed),
   (7, .istore_n 1, 1, 0, 0, 0, m0),
   (8, .iload_n 1, 1, 0, 0, 0, m0),
   (9, .ifCond .ne 10, 3, 19, 0, 0, m0),
   (12, .nop, 0, 0, 0, 0, m0)]),
  (12, [], false, [(12, .aload_n 0, 1, 0, 0, 0, m0),
   (13, .bipush 6, 2, 0, 0, 0, m0),
   (15, .invokevirtual 105, 3, 0, 0, 569, m_FN_deny),
   (18, .ireturn, 1, 0, 0, 0, m0)]),
  (19, [], false, [(19, .iconst 0, 1, 0, 0, 0, m0),
   (20, .istore_n 2, 1, 0, 0, 0, m0),
   (21, .iconst 0, 1, 0, 0, 0, m0),
   (22, .istore_n 3, 1, 0, 0, 0, m0),
   (23, .nop, 0, 0, 0, 0, m0)]),
  (23, [0, 1, 2, 3], true, [(23, .iload_n 3, 1, 0, 0, 0, m0),
   (24, .aload_n 0, 1, 0, 0, 0, m0),
   (25, .getfield 64, 3, 9, 10, 501, m0),
   (28, .getfield 167, 3, 8, 0, 283, m0),
   (31, .if_icmp .ge 34, 3, 65, 0, 0, m0),
   (34, .nop, 0, 0, 0, 0, m0)]),
  (34, [], false, [(34, .aload_n 0, 1, 0, 0, 0, m0),
   (35, .getfield 64, 3, 9, 10, 501, m0),
   (38, .getfield 224, 3, 9, 0, 286, m0),
   (41, .iload_n 3, 1, 0, 0, 0, m0),
   (42, .invokestatic 300, 3, 0, 0, 1082, m_Choir_isIn),
   (45, .ifCond .eq 14, 3, 59, 0, 0, m0),
   (48, .nop, 0, 0, 0, 0, m0)]),
  (48, [], false, [(48, .iload_n 2, 1, 0, 0, 0, m0),
   (49, .aload_n 0, 1, 0, 0, 0, m0),
   (50, .getfield 64, 3, 9, 10, 501, m0),
   (53, .iload_n 3, 1, 0, 0, 0, m0),
   (54, .invokevirtual 242, 3, 0, 0, 962, m_Choir_isOwedInAll),
   (57, .iadd, 1, 0, 0, 0, m0),
   (58, .istore_n 2, 1, 0, 0, 0, m0),
   (59, .nop, 0, 0, 0, 0, m0)]),
  (59, [], false, [(59, .iinc 3 1, 3, 0, 0, 0, m0),
   (62, .goto (-39), 3, 23, 0, 0, m0)]),
  (65, [], false, [(65, .aload_n 0, 1, 0, 0, 0, m0),
   (66, .iload_n 2, 1, 0, 0, 0, m0),
   (67, .i2l, 1, 0, 0, 0, m0),
   (68, .iload_n 1, 1, 0, 0, 0, m0),
   (69, .i2l, 1, 0, 0, 0, m0),
   (70, .invokevirtual 336, 3, 0, 0, 1216, m_FN_tellFraction),
   (73, .aload_n 0, 1, 0, 0, 0, m0),
   (74, .invokevirtual 112, 3, 0, 0, 580, m_FN_agree),
   (77, .ireturn, 1, 0, 0, 0, m0)])]
theorem ok_FN_bass : okBt m_FN_bass bt_FN_bass = true := by decide +kernel
set_option maxRecDepth 100000 in
theorem b_FN_bass_0 {l : Launch} {E : EnvT} {d : Nat} {K : AV → Mem → Prop} {M : Mem}  (hd : 1 ≤ d)
  (h : (((M 0 0 9).toNat, 11) ∈ CL ∧ CT l E (d - 1) m_Choir_allOwed [(.ref (M 0 0 9).toNat, 11)] M (fun v1 M1 =>
   ((¬ (toI v1) = 0 →
    G l E d m_FN_bass 23 [(0, (.ref 0, 0)), (1, (.int (toI v1), 0)), (2, (.int (iN 0), 0)), (3, (.int (iN 0), 0))] [] M1 K) ∧
   ((toI v1) = 0 →
    CT l E (d - 1) m_FN_deny [(.ref 0, 0), (.int (iN 6), 0)] M1 (fun v2 M2 =>
     ((((toI v2) = 0 ∨ (toI v2) = 1)) ∧ K (.int (toI v2), 0) M2))))))) :
  G l E d m_FN_bass 0 [(0, (.ref 0, 0))] [] M K := G.blk 60 _ hd ok_FN_bass rfl h
set_option maxRecDepth 100000 in
theorem b_FN_bass_23 {l : Launch} {E : EnvT} {d : Nat} {K : AV → Mem → Prop} {M : Mem} {x1 : Int32} {x2 : Int32} {x3 : Int32} (hd : 1 ≤ d)
  (h : (((M 0 0 9).toNat, 11) ∈ CL ∧ (((iN (M (M 0 0 9).toNat 0 8)) ≤ x3 →
   CT l E (d - 1) m_FN_tellFraction [(.ref 0, 0), (.long (x2).toInt64, 0), (.long (x1).toInt64, 0)] M (fun v1 M1 =>
    CT l E (d - 1) m_FN_agree [(.ref 0, 0)] M1 (fun v2 M2 =>
     ((((toI v2) = 0 ∨ (toI v2) = 1)) ∧ K (.int (toI v2), 0) M2)))) ∧
  (¬ (iN (M (M 0 0 9).toNat 0 8)) ≤ x3 →
   (((M 0 0 9).toNat, 11) ∈ CL ∧ CT l E (d - 1) m_Choir_isIn [(.int (iN (M (M 0 0 9).toNat 0 9)), 0), (.int x3, 0)] M (fun v3 M3 =>
    (((toI v3) = 0 →
     G l E d m_FN_bass 23 [(0, (.ref 0, 0)), (1, (.int x1, 0)), (2, (.int x2, 0)), (3, (.int (x3 + iN 1), 0))] [] M3 K) ∧
    (¬ (toI v3) = 0 →
     (((M3 0 0 9).toNat, 11) ∈ CL ∧ CT l E (d - 1) m_Choir_isOwedInAll [(.ref (M3 0 0 9).toNat, 11), (.int x3, 0)] M3 (fun v4 M4 =>
      G l E d m_FN_bass 23 [(0, (.ref 0, 0)), (1, (.int x1, 0)), (2, (.int (x2 + (toI v4)), 0)), (3, (.int (x3 + iN 1), 0))] [] M4 K)))))))))) :
  G l E d m_FN_bass 23 [(0, (.ref 0, 0)), (1, (.int x1, 0)), (2, (.int x2, 0)), (3, (.int x3, 0))] [] M K := G.blk 60 _ hd ok_FN_bass rfl h
def bt_FN_round : BtT := [(0, [0], true, [(0, .aload_n 0, 1, 0, 0, 0, m0),
   (1, .getfield 43, 3, 5, 10, 497, m0),
   (4, .aload_n 0, 1, 0, 0, 0, m0),
   (5, .getfield 64, 3, 9, 10, 501, m0),
   (8, .invokevirtual 320, 3, 0, 0, 1149, m_Ties_look),
   (11, .aload_n 0, 1, 0, 0, 0, m0),
   (12, .getfield 43, 3, 5, 10, 497, m0),
   (15, .invokevirtual 340, 3, 0, 0, 1224, m_Ties_findRound),
   (18, .istore_n 1, 1, 0, 0, 0, m0),
   (19, .iload_n 1, 1, 0, 0, 0, m0),
   (20, .ifCond .ne 12, 3, 32, 0, 0, m0),
   (23, .nop, 0, 0, 0, 0, m0)]),
  (23, [], false, [(23, .aload_n 0, 1, 0, 0, 0, m0),
   (24, .bipush 6, 2, 0, 0, 0, m0),
   (26, .invokevirtual 124, 3, 0, 0, 608, m_FN_refuse),
   (29, .goto 8, 3, 37, 0, 0, m0)]),
  (32, [], false, [(32, .aload_n 0, 1, 0, 0, 0, m0),
   (33, .iload_n 1, 1, 0, 0, 0, m0),
   (34, .invokevirtual 170, 3, 0, 0, 835, m_FN_answer),
   (37, .nop, 0, 0, 0, 0, m0)]),
  (37, [], false, [(37, .ireturn, 1, 0, 0, 0, m0)])]
theorem ok_FN_round : okBt m_FN_round bt_FN_round = true := by decide +kernel
set_option maxRecDepth 100000 in
theorem b_FN_round_0 {l : Launch} {E : EnvT} {d : Nat} {K : AV → Mem → Prop} {M : Mem}  (hd : 1 ≤ d)
  (h : (((M 0 0 9).toNat, 11) ∈ CL ∧ CT l E (d - 1) m_Ties_look [(.ref 12, 30), (.ref (M 0 0 9).toNat, 11)] M (fun v1 M1 =>
   CT l E (d - 1) m_Ties_findRound [(.ref 12, 30)] M1 (fun v2 M2 =>
    ((¬ (toI v2) = 0 →
     CT l E (d - 1) m_FN_answer [(.ref 0, 0), (.int (toI v2), 0)] M2 (fun v3 M3 =>
      K (.int (toI v3), 0) M3)) ∧
    ((toI v2) = 0 →
     CT l E (d - 1) m_FN_refuse [(.ref 0, 0), (.int (iN 6), 0)] M2 (fun v4 M4 =>
      K (.int (toI v4), 0) M4))))))) :
  G l E d m_FN_round 0 [(0, (.ref 0, 0))] [] M K := G.blk 60 _ hd ok_FN_round rfl h
def bt_FN_roundAt : BtT := [(0, [0, 1], true, [(0, .iload_n 1, 1, 0, 0, 0, m0),
   (1, .ifCond .ge 9, 3, 10, 0, 0, m0),
   (4, .nop, 0, 0, 0, 0, m0)]),
  (4, [], false, [(4, .aload_n 0, 1, 0, 0, 0, m0),
   (5, .iconst 1, 1, 0, 0, 0, m0),
   (6, .invokevirtual 124, 3, 0, 0, 608, m_FN_refuse),
   (9, .ireturn, 1, 0, 0, 0, m0)]),
  (10, [], false, [(10, .aload_n 0, 1, 0, 0, 0, m0),
   (11, .getfield 43, 3, 5, 10, 497, m0),
   (14, .aload_n 0, 1, 0, 0, 0, m0),
   (15, .getfield 64, 3, 9, 10, 501, m0),
   (18, .invokevirtual 320, 3, 0, 0, 1149, m_Ties_look),
   (21, .iload_n 1, 1, 0, 0, 0, m0),
   (22, .aload_n 0, 1, 0, 0, 0, m0),
   (23, .getfield 43, 3, 5, 10, 497, m0),
   (26, .invokevirtual 340, 3, 0, 0, 1224, m_Ties_findRound),
   (29, .if_icmp .lt 10, 3, 39, 0, 0, m0),
   (32, .nop, 0, 0, 0, 0, m0)]),
  (32, [], false, [(32, .aload_n 0, 1, 0, 0, 0, m0),
   (33, .bipush 6, 2, 0, 0, 0, m0),
   (35, .invokevirtual 124, 3, 0, 0, 608, m_FN_refuse),
   (38, .ireturn, 1, 0, 0, 0, m0)]),
  (39, [], false, [(39, .aload_n 0, 1, 0, 0, 0, m0),
   (40, .aload_n 0, 1, 0, 0, 0, m0),
   (41, .getfield 43, 3, 5, 10, 497, m0),
   (44, .getfield 343, 3, 3, 4, 407, m0),
   (47, .iload_n 1, 1, 0, 0, 0, m0),
   (48, .iaload, 1, 0, 0, 0, m0),
   (49, .invokevirtual 170, 3, 0, 0, 835, m_FN_answer),
   (52, .ireturn, 1, 0, 0, 0, m0)])]
theorem ok_FN_roundAt : okBt m_FN_roundAt bt_FN_roundAt = true := by decide +kernel
set_option maxRecDepth 100000 in
theorem b_FN_roundAt_0 {l : Launch} {E : EnvT} {d : Nat} {K : AV → Mem → Prop} {M : Mem} {x1 : Int32} (hd : 1 ≤ d)
  (h : ((0 ≤ x1 →
   (((M 0 0 9).toNat, 11) ∈ CL ∧ CT l E (d - 1) m_Ties_look [(.ref 12, 30), (.ref (M 0 0 9).toNat, 11)] M (fun v1 M1 =>
    CT l E (d - 1) m_Ties_findRound [(.ref 12, 30)] M1 (fun v2 M2 =>
     ((x1 < (toI v2) →
      (vp_in x1 8 ∧ CT l E (d - 1) m_FN_answer [(.ref 0, 0), (.int (iN (M2 12 4 (x1).toNatClampNeg)), 0)] M2 (fun v3 M3 =>
       K (.int (toI v3), 0) M3))) ∧
     (¬ x1 < (toI v2) →
      CT l E (d - 1) m_FN_refuse [(.ref 0, 0), (.int (iN 6), 0)] M2 (fun v4 M4 =>
       K (.int (toI v4), 0) M4))))))) ∧
  (¬ 0 ≤ x1 →
   CT l E (d - 1) m_FN_refuse [(.ref 0, 0), (.int (iN 1), 0)] M (fun v5 M5 =>
    K (.int (toI v5), 0) M5)))) :
  G l E d m_FN_roundAt 0 [(0, (.ref 0, 0)), (1, (.int x1, 0))] [] M K := G.blk 60 _ hd ok_FN_roundAt rfl h
def bt_FN_clear : BtT := [(0, [0], true, [(0, .aload_n 0, 1, 0, 0, 0, m0),
   (1, .getfield 43, 3, 5, 10, 497, m0),
   (4, .aload_n 0, 1, 0, 0, 0, m0),
   (5, .getfield 64, 3, 9, 10, 501, m0),
   (8, .invokevirtual 320, 3, 0, 0, 1149, m_Ties_look),
   (11, .aload_n 0, 1, 0, 0, 0, m0),
   (12, .getfield 43, 3, 5, 10, 497, m0),
   (15, .invokevirtual 340, 3, 0, 0, 1224, m_Ties_findRound),
   (18, .istore_n 1, 1, 0, 0, 0, m0),
   (19, .iload_n 1, 1, 0, 0, 0, m0),
   (20, .ifCond .ne 10, 3, 30, 0, 0, m0),
   (23, .nop, 0, 0, 0, 0, m0)]),
  (23, [], false, [(23, .aload_n 0, 1, 0, 0, 0, m0),
   (24, .bipush 7, 2, 0, 0, 0, m0),
   (26, .invokevirtual 124, 3, 0, 0, 608, m_FN_refuse),
   (29, .ireturn, 1, 0, 0, 0, m0)]),
  (30, [], false, [(30, .aload_n 0, 1, 0, 0, 0, m0),
   (31, .aload_n 0, 1, 0, 0, 0, m0),
   (32, .getfield 64, 3, 9, 10, 501, m0),
   (35, .aload_n 0, 1, 0, 0, 0, m0),
   (36, .getfield 43, 3, 5, 10, 497, m0),
   (39, .getfield 343, 3, 3, 4, 407, m0),
   (42, .iload_n 1, 1, 0, 0, 0, m0),
   (43, .invokevirtual 346, 3, 0, 0, 1239, m_Choir_clearRing),
   (46, .invokevirtual 170, 3, 0, 0, 835, m_FN_answer),
   (49, .ireturn, 1, 0, 0, 0, m0)])]
theorem ok_FN_clear : okBt m_FN_clear bt_FN_clear = true := by decide +kernel
set_option maxRecDepth 100000 in
theorem b_FN_clear_0 {l : Launch} {E : EnvT} {d : Nat} {K : AV → Mem → Prop} {M : Mem}  (hd : 1 ≤ d)
  (h : (((M 0 0 9).toNat, 11) ∈ CL ∧ CT l E (d - 1) m_Ties_look [(.ref 12, 30), (.ref (M 0 0 9).toNat, 11)] M (fun v1 M1 =>
   CT l E (d - 1) m_Ties_findRound [(.ref 12, 30)] M1 (fun v2 M2 =>
    ((¬ (toI v2) = 0 →
     (((M2 0 0 9).toNat, 11) ∈ CL ∧ CT l E (d - 1) m_Choir_clearRing [(.ref (M2 0 0 9).toNat, 11), (.ref 12, 34), (.int (toI v2), 0)] M2 (fun v3 M3 =>
      CT l E (d - 1) m_FN_answer [(.ref 0, 0), (.int (toI v3), 0)] M3 (fun v4 M4 =>
       K (.int (toI v4), 0) M4)))) ∧
    ((toI v2) = 0 →
     CT l E (d - 1) m_FN_refuse [(.ref 0, 0), (.int (iN 7), 0)] M2 (fun v5 M5 =>
      K (.int (toI v5), 0) M5))))))) :
  G l E d m_FN_clear 0 [(0, (.ref 0, 0))] [] M K := G.blk 60 _ hd ok_FN_clear rfl h
def bt_FN_ask : BtT := [(0, [0], true, [(0, .aload_n 0, 1, 0, 0, 0, m0),
   (1, .getfield 43, 3, 5, 10, 497, m0),
   (4, .aload_n 0, 1, 0, 0, 0, m0),
   (5, .getfield 64, 3, 9, 10, 501, m0),
   (8, .invokevirtual 320, 3, 0, 0, 1149, m_Ties_look),
   (11, .aload_n 0, 1, 0, 0, 0, m0),
   (12, .aload_n 0, 1, 0, 0, 0, m0),
   (13, .getfield 43, 3, 5, 10, 497, m0),
   (16, .invokevirtual 350, 3, 0, 0, 1247, m_Ties_leastAsked),
   (19, .invokestatic 303, 3, 0, 0, 1083, m_Integer_bitCount),
   (22, .invokevirtual 170, 3, 0, 0, 835, m_FN_answer),
   (25, .ireturn, 1, 0, 0, 0, m0)])]
theorem ok_FN_ask : okBt m_FN_ask bt_FN_ask = true := by decide +kernel
set_option maxRecDepth 100000 in
theorem b_FN_ask_0 {l : Launch} {E : EnvT} {d : Nat} {K : AV → Mem → Prop} {M : Mem}  (hd : 1 ≤ d)
  (h : (((M 0 0 9).toNat, 11) ∈ CL ∧ CT l E (d - 1) m_Ties_look [(.ref 12, 30), (.ref (M 0 0 9).toNat, 11)] M (fun v1 M1 =>
   CT l E (d - 1) m_Ties_leastAsked [(.ref 12, 30)] M1 (fun v2 M2 =>
    CT l E (d - 1) m_Integer_bitCount [(.int (toI v2), 0)] M2 (fun v3 M3 =>
     CT l E (d - 1) m_FN_answer [(.ref 0, 0), (.int (toI v3), 0)] M3 (fun v4 M4 =>
      K (.int (toI v4), 0) M4)))))) :
  G l E d m_FN_ask 0 [(0, (.ref 0, 0))] [] M K := G.blk 60 _ hd ok_FN_ask rfl h
def bt_FN_askSet : BtT := [(0, [0], true, [(0, .aload_n 0, 1, 0, 0, 0, m0),
   (1, .getfield 43, 3, 5, 10, 497, m0),
   (4, .aload_n 0, 1, 0, 0, 0, m0),
   (5, .getfield 64, 3, 9, 10, 501, m0),
   (8, .invokevirtual 320, 3, 0, 0, 1149, m_Ties_look),
   (11, .aload_n 0, 1, 0, 0, 0, m0),
   (12, .aload_n 0, 1, 0, 0, 0, m0),
   (13, .getfield 43, 3, 5, 10, 497, m0),
   (16, .invokevirtual 350, 3, 0, 0, 1247, m_Ties_leastAsked),
   (19, .invokevirtual 170, 3, 0, 0, 835, m_FN_answer),
   (22, .ireturn, 1, 0, 0, 0, m0)])]
theorem ok_FN_askSet : okBt m_FN_askSet bt_FN_askSet = true := by decide +kernel
set_option maxRecDepth 100000 in
theorem b_FN_askSet_0 {l : Launch} {E : EnvT} {d : Nat} {K : AV → Mem → Prop} {M : Mem}  (hd : 1 ≤ d)
  (h : (((M 0 0 9).toNat, 11) ∈ CL ∧ CT l E (d - 1) m_Ties_look [(.ref 12, 30), (.ref (M 0 0 9).toNat, 11)] M (fun v1 M1 =>
   CT l E (d - 1) m_Ties_leastAsked [(.ref 12, 30)] M1 (fun v2 M2 =>
    CT l E (d - 1) m_FN_answer [(.ref 0, 0), (.int (toI v2), 0)] M2 (fun v3 M3 =>
     K (.int (toI v3), 0) M3))))) :
  G l E d m_FN_askSet 0 [(0, (.ref 0, 0))] [] M K := G.blk 60 _ hd ok_FN_askSet rfl h
def bt_FN_chain : BtT := [(0, [0], true, [(0, .aload_n 0, 1, 0, 0, 0, m0),
   (1, .getfield 43, 3, 5, 10, 497, m0),
   (4, .aload_n 0, 1, 0, 0, 0, m0),
   (5, .getfield 64, 3, 9, 10, 501, m0),
   (8, .invokevirtual 320, 3, 0, 0, 1149, m_Ties_look),
   (11, .aload_n 0, 1, 0, 0, 0, m0),
   (12, .aload_n 0, 1, 0, 0, 0, m0),
   (13, .getfield 43, 3, 5, 10, 497, m0),
   (16, .invokevirtual 353, 3, 0, 0, 1263, m_Ties_longestRow),
   (19, .invokevirtual 170, 3, 0, 0, 835, m_FN_answer),
   (22, .ireturn, 1, 0, 0, 0, m0)])]
theorem ok_FN_chain : okBt m_FN_chain bt_FN_chain = true := by decide +kernel
set_option maxRecDepth 100000 in
theorem b_FN_chain_0 {l : Launch} {E : EnvT} {d : Nat} {K : AV → Mem → Prop} {M : Mem}  (hd : 1 ≤ d)
  (h : (((M 0 0 9).toNat, 11) ∈ CL ∧ CT l E (d - 1) m_Ties_look [(.ref 12, 30), (.ref (M 0 0 9).toNat, 11)] M (fun v1 M1 =>
   CT l E (d - 1) m_Ties_longestRow [(.ref 12, 30)] M1 (fun v2 M2 =>
    CT l E (d - 1) m_FN_answer [(.ref 0, 0), (.int (toI v2), 0)] M2 (fun v3 M3 =>
     K (.int (toI v3), 0) M3))))) :
  G l E d m_FN_chain 0 [(0, (.ref 0, 0))] [] M K := G.blk 60 _ hd ok_FN_chain rfl h
def bt_FN_behind : BtT := [(0, [0, 1], true, [(0, .aload_n 0, 1, 0, 0, 0, m0),
   (1, .getfield 64, 3, 9, 10, 501, m0),
   (4, .iload_n 1, 1, 0, 0, 0, m0),
   (5, .invokevirtual 272, 3, 0, 0, 999, m_Choir_lives),
   (8, .ifCond .ne 9, 3, 17, 0, 0, m0),
   (11, .nop, 0, 0, 0, 0, m0)]),
  (11, [], false, [(11, .aload_n 0, 1, 0, 0, 0, m0),
   (12, .iconst 1, 1, 0, 0, 0, m0),
   (13, .invokevirtual 124, 3, 0, 0, 608, m_FN_refuse),
   (16, .ireturn, 1, 0, 0, 0, m0)]),
  (17, [], false, [(17, .aload_n 0, 1, 0, 0, 0, m0),
   (18, .getfield 43, 3, 5, 10, 497, m0),
   (21, .aload_n 0, 1, 0, 0, 0, m0),
   (22, .getfield 64, 3, 9, 10, 501, m0),
   (25, .invokevirtual 320, 3, 0, 0, 1149, m_Ties_look),
   (28, .aload_n 0, 1, 0, 0, 0, m0),
   (29, .aload_n 0, 1, 0, 0, 0, m0),
   (30, .getfield 43, 3, 5, 10, 497, m0),
   (33, .iload_n 1, 1, 0, 0, 0, m0),
   (34, .invokevirtual 356, 3, 0, 0, 1276, m_Ties_reachedFrom),
   (37, .invokevirtual 170, 3, 0, 0, 835, m_FN_answer),
   (40, .ireturn, 1, 0, 0, 0, m0)])]
theorem ok_FN_behind : okBt m_FN_behind bt_FN_behind = true := by decide +kernel
set_option maxRecDepth 100000 in
theorem b_FN_behind_0 {l : Launch} {E : EnvT} {d : Nat} {K : AV → Mem → Prop} {M : Mem} {x1 : Int32} (hd : 1 ≤ d)
  (h : (((M 0 0 9).toNat, 11) ∈ CL ∧ CT l E (d - 1) m_Choir_lives [(.ref (M 0 0 9).toNat, 11), (.int x1, 0)] M (fun v1 M1 =>
   ((¬ (toI v1) = 0 →
    (((M1 0 0 9).toNat, 11) ∈ CL ∧ CT l E (d - 1) m_Ties_look [(.ref 12, 30), (.ref (M1 0 0 9).toNat, 11)] M1 (fun v2 M2 =>
     CT l E (d - 1) m_Ties_reachedFrom [(.ref 12, 30), (.int x1, 0)] M2 (fun v3 M3 =>
      CT l E (d - 1) m_FN_answer [(.ref 0, 0), (.int (toI v3), 0)] M3 (fun v4 M4 =>
       K (.int (toI v4), 0) M4))))) ∧
   ((toI v1) = 0 →
    CT l E (d - 1) m_FN_refuse [(.ref 0, 0), (.int (iN 1), 0)] M1 (fun v5 M5 =>
     K (.int (toI v5), 0) M5)))))) :
  G l E d m_FN_behind 0 [(0, (.ref 0, 0)), (1, (.int x1, 0))] [] M K := G.blk 60 _ hd ok_FN_behind rfl h
def bt_FN_free : BtT := [(0, [0, 1], true, [(0, .aload_n 0, 1, 0, 0, 0, m0),
   (1, .getfield 64, 3, 9, 10, 501, m0),
   (4, .iload_n 1, 1, 0, 0, 0, m0),
   (5, .invokevirtual 272, 3, 0, 0, 999, m_Choir_lives),
   (8, .ifCond .ne 9, 3, 17, 0, 0, m0),
   (11, .nop, 0, 0, 0, 0, m0)]),
  (11, [], false, [(11, .aload_n 0, 1, 0, 0, 0, m0),
   (12, .iconst 1, 1, 0, 0, 0, m0),
   (13, .invokevirtual 124, 3, 0, 0, 608, m_FN_refuse),
   (16, .ireturn, 1, 0, 0, 0, m0)]),
  (17, [], false, [(17, .aload_n 0, 1, 0, 0, 0, m0),
   (18, .aload_n 0, 1, 0, 0, 0, m0),
   (19, .getfield 64, 3, 9, 10, 501, m0),
   (22, .iload_n 1, 1, 0, 0, 0, m0),
   (23, .invokevirtual 359, 3, 0, 0, 1204, m_Choir_freeNotes),
   (26, .invokevirtual 170, 3, 0, 0, 835, m_FN_answer),
   (29, .ireturn, 1, 0, 0, 0, m0)])]
theorem ok_FN_free : okBt m_FN_free bt_FN_free = true := by decide +kernel
set_option maxRecDepth 100000 in
theorem b_FN_free_0 {l : Launch} {E : EnvT} {d : Nat} {K : AV → Mem → Prop} {M : Mem} {x1 : Int32} (hd : 1 ≤ d)
  (h : (((M 0 0 9).toNat, 11) ∈ CL ∧ CT l E (d - 1) m_Choir_lives [(.ref (M 0 0 9).toNat, 11), (.int x1, 0)] M (fun v1 M1 =>
   ((¬ (toI v1) = 0 →
    (((M1 0 0 9).toNat, 11) ∈ CL ∧ CT l E (d - 1) m_Choir_freeNotes [(.ref (M1 0 0 9).toNat, 11), (.int x1, 0)] M1 (fun v2 M2 =>
     CT l E (d - 1) m_FN_answer [(.ref 0, 0), (.int (toI v2), 0)] M2 (fun v3 M3 =>
      K (.int (toI v3), 0) M3)))) ∧
   ((toI v1) = 0 →
    CT l E (d - 1) m_FN_refuse [(.ref 0, 0), (.int (iN 1), 0)] M1 (fun v4 M4 =>
     K (.int (toI v4), 0) M4)))))) :
  G l E d m_FN_free 0 [(0, (.ref 0, 0)), (1, (.int x1, 0))] [] M K := G.blk 60 _ hd ok_FN_free rfl h
def bt_FN_queue : BtT := [(0, [0, 1], true, [(0, .aload_n 0, 1, 0, 0, 0, m0),
   (1, .getfield 64, 3, 9, 10, 501, m0),
   (4, .iload_n 1, 1, 0, 0, 0, m0),
   (5, .invokevirtual 272, 3, 0, 0, 999, m_Choir_lives),
   (8, .ifCond .ne 9, 3, 17, 0, 0, m0),
   (11, .nop, 0, 0, 0, 0, m0)]),
  (11, [], false, [(11, .aload_n 0, 1, 0, 0, 0, m0),
   (12, .iconst 1, 1, 0, 0, 0, m0),
   (13, .invokevirtual 124, 3, 0, 0, 608, m_FN_refuse),
   (16, .ireturn, 1, 0, 0, 0, m0)]),
  (17, [], false, [(17, .aload_n 0, 1, 0, 0, 0, m0),
   (18, .aload_n 0, 1, 0, 0, 0, m0),
   (19, .getfield 64, 3, 9, 10, 501, m0),
   (22, .getfield 190, 3, 7, 0, 279, m0),
   (25, .iload_n 1, 1, 0, 0, 0, m0),
   (26, .invokevirtual 362, 3, 0, 0, 1288, m_Waiting_countFor),
   (29, .invokevirtual 170, 3, 0, 0, 835, m_FN_answer),
   (32, .ireturn, 1, 0, 0, 0, m0)])]
theorem ok_FN_queue : okBt m_FN_queue bt_FN_queue = true := by decide +kernel
set_option maxRecDepth 100000 in
theorem b_FN_queue_0 {l : Launch} {E : EnvT} {d : Nat} {K : AV → Mem → Prop} {M : Mem} {x1 : Int32} (hd : 1 ≤ d)
  (h : (((M 0 0 9).toNat, 11) ∈ CL ∧ CT l E (d - 1) m_Choir_lives [(.ref (M 0 0 9).toNat, 11), (.int x1, 0)] M (fun v1 M1 =>
   ((¬ (toI v1) = 0 →
    (((M1 0 0 9).toNat, 11) ∈ CL ∧ CT l E (d - 1) m_Waiting_countFor [(.ref (M1 0 0 9).toNat, 19), (.int x1, 0)] M1 (fun v2 M2 =>
     CT l E (d - 1) m_FN_answer [(.ref 0, 0), (.int (toI v2), 0)] M2 (fun v3 M3 =>
      K (.int (toI v3), 0) M3)))) ∧
   ((toI v1) = 0 →
    CT l E (d - 1) m_FN_refuse [(.ref 0, 0), (.int (iN 1), 0)] M1 (fun v4 M4 =>
     K (.int (toI v4), 0) M4)))))) :
  G l E d m_FN_queue 0 [(0, (.ref 0, 0)), (1, (.int x1, 0))] [] M K := G.blk 60 _ hd ok_FN_queue rfl h
def bt_FN_roomiest : BtT := [(0, [0], true, [(0, .aload_n 0, 1, 0, 0, 0, m0),
   (1, .iconst 2, 1, 0, 0, 0, m0),
   (2, .invokevirtual 333, 3, 0, 0, 1196, m_FN_firstWithMost),
   (5, .ireturn, 1, 0, 0, 0, m0)])]
theorem ok_FN_roomiest : okBt m_FN_roomiest bt_FN_roomiest = true := by decide +kernel
set_option maxRecDepth 100000 in
theorem b_FN_roomiest_0 {l : Launch} {E : EnvT} {d : Nat} {K : AV → Mem → Prop} {M : Mem}  (hd : 1 ≤ d)
  (h : CT l E (d - 1) m_FN_firstWithMost [(.ref 0, 0), (.int (iN 2), 0)] M (fun v1 M1 =>
   K (.int (toI v1), 0) M1)) :
  G l E d m_FN_roomiest 0 [(0, (.ref 0, 0))] [] M K := G.blk 60 _ hd ok_FN_roomiest rfl h
def bt_FN_falsest : BtT := [(0, [0, 1], true, [(0, .aload_n 0, 1, 0, 0, 0, m0),
   (1, .getfield 64, 3, 9, 10, 501, m0),
   (4, .iload_n 1, 1, 0, 0, 0, m0),
   (5, .invokevirtual 272, 3, 0, 0, 999, m_Choir_lives),
   (8, .ifCond .ne 9, 3, 17, 0, 0, m0),
   (11, .nop, 0, 0, 0, 0, m0)]),
  (11, [], false, [(11, .aload_n 0, 1, 0, 0, 0, m0),
   (12, .iconst 1, 1, 0, 0, 0, m0),
   (13, .invokevirtual 124, 3, 0, 0, 608, m_FN_refuse),
   (16, .ireturn, 1, 0, 0, 0, m0)]),
  (17, [], false, [(17, .iconst (-1), 1, 0, 0, 0, m0),
   (18, .istore_n 2, 1, 0, 0, 0, m0),
   (19, .iconst 0, 1, 0, 0, 0, m0),
   (20, .istore_n 3, 1, 0, 0, 0, m0),
   (21, .iconst 0, 1, 0, 0, 0, m0),
   (22, .istore 4, 2, 0, 0, 0, m0),
   (24, .nop, 0, 0, 0, 0, m0)]),
  (24, [0, 1, 2, 3, 4], true, [(24, .iload 4, 2, 0, 0, 0, m0),
   (26, .aload_n 0, 1, 0, 0, 0, m0),
   (27, .getfield 64, 3, 9, 10, 501, m0),
   (30, .getfield 221, 3, 3, 0, 271, m0),
   (33, .iload_n 1, 1, 0, 0, 0, m0),
   (34, .iaload, 1, 0, 0, 0, m0),
   (35, .if_icmp .ge 37, 3, 72, 0, 0, m0),
   (38, .nop, 0, 0, 0, 0, m0)]),
  (38, [], false, [(38, .aload_n 0, 1, 0, 0, 0, m0),
   (39, .getfield 64, 3, 9, 10, 501, m0),
   (42, .getfield 257, 3, 6, 0, 277, m0),
   (45, .iload_n 1, 1, 0, 0, 0, m0),
   (46, .iload 4, 2, 0, 0, 0, m0),
   (48, .invokestatic 251, 3, 0, 0, 974, m_Choir_slot),
   (51, .iaload, 1, 0, 0, 0, m0),
   (52, .istore 5, 2, 0, 0, 0, m0),
   (54, .iload 5, 2, 0, 0, 0, m0),
   (56, .iload_n 3, 1, 0, 0, 0, m0),
   (57, .if_icmp .le 9, 3, 66, 0, 0, m0),
   (60, .nop, 0, 0, 0, 0, m0)]),
  (60, [], false, [(60, .iload 5, 2, 0, 0, 0, m0),
   (62, .istore_n 3, 1, 0, 0, 0, m0),
   (63, .iload 4, 2, 0, 0, 0, m0),
   (65, .istore_n 2, 1, 0, 0, 0, m0),
   (66, .nop, 0, 0, 0, 0, m0)]),
  (66, [], false, [(66, .iinc 4 1, 3, 0, 0, 0, m0),
   (69, .goto (-45), 3, 24, 0, 0, m0)]),
  (72, [], false, [(72, .aload_n 0, 1, 0, 0, 0, m0),
   (73, .iload_n 2, 1, 0, 0, 0, m0),
   (74, .bipush 6, 2, 0, 0, 0, m0),
   (76, .invokevirtual 236, 3, 0, 0, 954, m_FN_answerOr),
   (79, .ireturn, 1, 0, 0, 0, m0)])]
theorem ok_FN_falsest : okBt m_FN_falsest bt_FN_falsest = true := by decide +kernel
set_option maxRecDepth 100000 in
theorem b_FN_falsest_0 {l : Launch} {E : EnvT} {d : Nat} {K : AV → Mem → Prop} {M : Mem} {x1 : Int32} (hd : 1 ≤ d)
  (h : (((M 0 0 9).toNat, 11) ∈ CL ∧ CT l E (d - 1) m_Choir_lives [(.ref (M 0 0 9).toNat, 11), (.int x1, 0)] M (fun v1 M1 =>
   ((¬ (toI v1) = 0 →
    G l E d m_FN_falsest 24 [(0, (.ref 0, 0)), (1, (.int x1, 0)), (2, (.int (iN (-1)), 0)), (3, (.int (iN 0), 0)), (4, (.int (iN 0), 0))] [] M1 K) ∧
   ((toI v1) = 0 →
    CT l E (d - 1) m_FN_refuse [(.ref 0, 0), (.int (iN 1), 0)] M1 (fun v2 M2 =>
     K (.int (toI v2), 0) M2)))))) :
  G l E d m_FN_falsest 0 [(0, (.ref 0, 0)), (1, (.int x1, 0))] [] M K := G.blk 60 _ hd ok_FN_falsest rfl h
set_option maxRecDepth 100000 in
theorem b_FN_falsest_24 {l : Launch} {E : EnvT} {d : Nat} {K : AV → Mem → Prop} {M : Mem} {x1 : Int32} {x2 : Int32} {x3 : Int32} {x4 : Int32} (hd : 1 ≤ d)
  (h : (((M 0 0 9).toNat, 11) ∈ CL ∧ vp_in x1 8 ∧ (((iN (M (M 0 0 9).toNat 4 (x1).toNatClampNeg)) ≤ x4 →
   CT l E (d - 1) m_FN_answerOr [(.ref 0, 0), (.int x2, 0), (.int (iN 6), 0)] M (fun v1 M1 =>
    K (.int (toI v1), 0) M1)) ∧
  (¬ (iN (M (M 0 0 9).toNat 4 (x1).toNatClampNeg)) ≤ x4 →
   (((M 0 0 9).toNat, 11) ∈ CL ∧ CT l E (d - 1) m_Choir_slot [(.int x1, 0), (.int x4, 0)] M (fun v2 M2 =>
    (vp_in (toI v2) 48 ∧ (((iN (M2 (M 0 0 9).toNat 7 ((toI v2)).toNatClampNeg)) ≤ x3 →
     G l E d m_FN_falsest 24 [(0, (.ref 0, 0)), (1, (.int x1, 0)), (2, (.int x2, 0)), (3, (.int x3, 0)), (4, (.int (x4 + iN 1), 0))] [] M2 K) ∧
    (¬ (iN (M2 (M 0 0 9).toNat 7 ((toI v2)).toNatClampNeg)) ≤ x3 →
     G l E d m_FN_falsest 24 [(0, (.ref 0, 0)), (1, (.int x1, 0)), (2, (.int x4, 0)), (3, (.int (iN (M2 (M 0 0 9).toNat 7 ((toI v2)).toNatClampNeg)), 0)), (4, (.int (x4 + iN 1), 0))] [] M2 K))))))))) :
  G l E d m_FN_falsest 24 [(0, (.ref 0, 0)), (1, (.int x1, 0)), (2, (.int x2, 0)), (3, (.int x3, 0)), (4, (.int x4, 0))] [] M K := G.blk 60 _ hd ok_FN_falsest rfl h
def bt_FN_heardStatus : BtT := [(0, [0, 1, 2], true, [(0, .aload_n 0, 1, 0, 0, 0, m0),
   (1, .iload_n 1, 1, 0, 0, 0, m0),
   (2, .iload_n 2, 1, 0, 0, 0, m0),
   (3, .invokevirtual 278, 3, 0, 0, 1011, m_FN_lineTrayStatus),
   (6, .istore_n 3, 1, 0, 0, 0, m0),
   (7, .iload_n 3, 1, 0, 0, 0, m0),
   (8, .ifCond .eq 5, 3, 13, 0, 0, m0),
   (11, .nop, 0, 0, 0, 0, m0)]),
  (11, [], false, [(11, .iload_n 3, 1, 0, 0, 0, m0),
   (12, .ireturn, 1, 0, 0, 0, m0)]),
  (13, [], false, [(13, .iconst 0, 1, 0, 0, 0, m0),
   (14, .istore 4, 2, 0, 0, 0, m0),
   (16, .nop, 0, 0, 0, 0, m0)]),
  (16, [0, 1, 2, 4], true, [(16, .iload 4, 2, 0, 0, 0, m0),
   (18, .aload_n 0, 1, 0, 0, 0, m0),
   (19, .getfield 64, 3, 9, 10, 501, m0),
   (22, .getfield 221, 3, 3, 0, 271, m0),
   (25, .iload_n 1, 1, 0, 0, 0, m0),
   (26, .iaload, 1, 0, 0, 0, m0),
   (27, .if_icmp .ge 43, 3, 70, 0, 0, m0),
   (30, .nop, 0, 0, 0, 0, m0)]),
  (30, [], false, [(30, .aload_n 0, 1, 0, 0, 0, m0),
   (31, .getfield 11, 3, 0, 10, 492, m0),
   (34, .iload_n 2, 1, 0, 0, 0, m0),
   (35, .aaload, 1, 0, 0, 0, m0),
   (36, .getfield 128, 3, 0, 6, 480, m0),
   (39, .iload 4, 2, 0, 0, 0, m0),
   (41, .laload, 1, 0, 0, 0, m0),
   (42, .lstore 5, 2, 0, 0, 0, m0),
   (44, .lload 5, 2, 0, 0, 0, m0),
   (46, .ldc2_w 429, 3, 1, (-12), 1308, m0),
   (49, .lcmp, 1, 0, 0, 0, m0),
   (50, .ifCond .lt 12, 3, 62, 0, 0, m0),
   (53, .nop, 0, 0, 0, 0, m0)]),
  (53, [], false, [(53, .lload 5, 2, 0, 0, 0, m0),
   (55, .ldc2_w 431, 3, 1, 2000, 1309, m0),
   (58, .lcmp, 1, 0, 0, 0, m0),
   (59, .ifCond .le 5, 3, 64, 0, 0, m0),
   (62, .nop, 0, 0, 0, 0, m0)]),
  (62, [], false, [(62, .iconst 5, 1, 0, 0, 0, m0),
   (63, .ireturn, 1, 0, 0, 0, m0)]),
  (64, [], false, [(64, .iinc 4 1, 3, 0, 0, 0, m0),
   (67, .goto (-51), 3, 16, 0, 0, m0)]),
  (70, [], false, [(70, .iconst 0, 1, 0, 0, 0, m0),
   (71, .ireturn, 1, 0, 0, 0, m0)])]
theorem ok_FN_heardStatus : okBt m_FN_heardStatus bt_FN_heardStatus = true := by decide +kernel
set_option maxRecDepth 100000 in
theorem b_FN_heardStatus_0 {l : Launch} {E : EnvT} {d : Nat} {K : AV → Mem → Prop} {M : Mem} {x1 : Int32} {x2 : Int32} (hd : 1 ≤ d)
  (h : CT l E (d - 1) m_FN_lineTrayStatus [(.ref 0, 0), (.int x1, 0), (.int x2, 0)] M (fun v1 M1 =>
   (((toI v1) = 0 →
    G l E d m_FN_heardStatus 16 [(0, (.ref 0, 0)), (1, (.int x1, 0)), (2, (.int x2, 0)), (4, (.int (iN 0), 0))] [] M1 K) ∧
   (¬ (toI v1) = 0 →
    K (.int (toI v1), 0) M1)))) :
  G l E d m_FN_heardStatus 0 [(0, (.ref 0, 0)), (1, (.int x1, 0)), (2, (.int x2, 0))] [] M K := G.blk 60 _ hd ok_FN_heardStatus rfl h
set_option maxRecDepth 100000 in
theorem b_FN_heardStatus_16 {l : Launch} {E : EnvT} {d : Nat} {K : AV → Mem → Prop} {M : Mem} {x1 : Int32} {x2 : Int32} {x4 : Int32} (hd : 1 ≤ d)
  (h : (((M 0 0 9).toNat, 11) ∈ CL ∧ vp_in x1 8 ∧ (((iN (M (M 0 0 9).toNat 4 (x1).toNatClampNeg)) ≤ x4 →
   K (.int (iN 0), 0) M) ∧
  (¬ (iN (M (M 0 0 9).toNat 4 (x1).toNatClampNeg)) ≤ x4 →
   (vp_in x2 4 ∧ vp_in x4 60 ∧ (((lg_cmp (lI (M ([(20, 39), (21, 39), (22, 39), (23, 39)].getD (x2).toNatClampNeg (0, 0)).1 1 (x4).toNatClampNeg)) (lI (-12))) < 0 →
    K (.int (iN 5), 0) M) ∧
   (¬ (lg_cmp (lI (M ([(20, 39), (21, 39), (22, 39), (23, 39)].getD (x2).toNatClampNeg (0, 0)).1 1 (x4).toNatClampNeg)) (lI (-12))) < 0 →
    (((lg_cmp (lI (M ([(20, 39), (21, 39), (22, 39), (23, 39)].getD (x2).toNatClampNeg (0, 0)).1 1 (x4).toNatClampNeg)) (lI 2000)) ≤ 0 →
     G l E d m_FN_heardStatus 16 [(0, (.ref 0, 0)), (1, (.int x1, 0)), (2, (.int x2, 0)), (4, (.int (x4 + iN 1), 0))] [] M K) ∧
    (¬ (lg_cmp (lI (M ([(20, 39), (21, 39), (22, 39), (23, 39)].getD (x2).toNatClampNeg (0, 0)).1 1 (x4).toNatClampNeg)) (lI 2000)) ≤ 0 →
     K (.int (iN 5), 0) M))))))))) :
  G l E d m_FN_heardStatus 16 [(0, (.ref 0, 0)), (1, (.int x1, 0)), (2, (.int x2, 0)), (4, (.int x4, 0))] [] M K := G.blk 60 _ hd ok_FN_heardStatus rfl h
def bt_FN_offAt : BtT := [(0, [0, 1, 2, 3], true, [(0, .aload_n 0, 1, 0, 0, 0, m0),
   (1, .getfield 11, 3, 0, 10, 492, m0),
   (4, .iload_n 2, 1, 0, 0, 0, m0),
   (5, .aaload, 1, 0, 0, 0, m0),
   (6, .getfield 128, 3, 0, 6, 480, m0),
   (9, .iload_n 3, 1, 0, 0, 0, m0),
   (10, .laload, 1, 0, 0, 0, m0),
   (11, .l2i, 1, 0, 0, 0, m0),
   (12, .aload_n 0, 1, 0, 0, 0, m0),
   (13, .getfield 64, 3, 9, 10, 501, m0),
   (16, .iload_n 1, 1, 0, 0, 0, m0),
   (17, .iload_n 3, 1, 0, 0, 0, m0),
   (18, .invokevirtual 275, 3, 0, 0, 1003, m_Choir_sungAt),
   (21, .isub, 1, 0, 0, 0, m0),
   (22, .ireturn, 1, 0, 0, 0, m0)])]
theorem ok_FN_offAt : okBt m_FN_offAt bt_FN_offAt = true := by decide +kernel
set_option maxRecDepth 100000 in
theorem b_FN_offAt_0 {l : Launch} {E : EnvT} {d : Nat} {K : AV → Mem → Prop} {M : Mem} {x1 : Int32} {x2 : Int32} {x3 : Int32} (hd : 1 ≤ d)
  (h : (vp_in x2 4 ∧ vp_in x3 60 ∧ ((M 0 0 9).toNat, 11) ∈ CL ∧ CT l E (d - 1) m_Choir_sungAt [(.ref (M 0 0 9).toNat, 11), (.int x1, 0), (.int x3, 0)] M (fun v1 M1 =>
   K (.int (((lI (M ([(20, 39), (21, 39), (22, 39), (23, 39)].getD (x2).toNatClampNeg (0, 0)).1 1 (x3).toNatClampNeg))).toInt32 - (toI v1)), 0) M1))) :
  G l E d m_FN_offAt 0 [(0, (.ref 0, 0)), (1, (.int x1, 0)), (2, (.int x2, 0)), (3, (.int x3, 0))] [] M K := G.blk 60 _ hd ok_FN_offAt rfl h
def bt_FN_heard : BtT := [(0, [0, 1, 2], true, [(0, .aload_n 0, 1, 0, 0, 0, m0),
   (1, .iload_n 1, 1, 0, 0, 0, m0),
   (2, .iload_n 2, 1, 0, 0, 0, m0),
   (3, .invokevirtual 365, 3, 0, 0, 1304, m_FN_heardStatus),
   (6, .istore_n 3, 1, 0, 0, 0, m0),
   (7, .iload_n 3, 1, 0, 0, 0, m0),
   (8, .ifCond .eq 9, 3, 17, 0, 0, m0),
   (11, .nop, 0, 0, 0, 0, m0)]),
  (11, [], false, [(11, .aload_n 0, 1, 0, 0, 0, m0),
   (12, .iload_n 3, 1, 0, 0, 0, m0),
   (13, .invokevirtual 124, 3, 0, 0, 608, m_FN_refuse),
   (16, .ireturn, 1, 0, 0, 0, m0)]),
  (17, [], false, [(17, .iconst 0, 1, 0, 0, 0, m0),
   (18, .istore 4, 2, 0, 0, 0, m0),
   (20, .iconst 0, 1, 0, 0, 0, m0),
   (21, .istore 5, 2, 0, 0, 0, m0),
   (23, .nop, 0, 0, 0, 0, m0)]),
  (23, [0, 1, 2, 4, 5], true, [(23, .iload 5, 2, 0, 0, 0, m0),
   (25, .aload_n 0, 1, 0, 0, 0, m0),
   (26, .getfield 64, 3, 9, 10, 501, m0),
   (29, .getfield 221, 3, 3, 0, 271, m0),
   (32, .iload_n 1, 1, 0, 0, 0, m0),
   (33, .iaload, 1, 0, 0, 0, m0),
   (34, .if_icmp .ge 41, 3, 75, 0, 0, m0),
   (37, .nop, 0, 0, 0, 0, m0)]),
  (37, [], false, [(37, .aload_n 0, 1, 0, 0, 0, m0),
   (38, .getfield 64, 3, 9, 10, 501, m0),
   (41, .getfield 257, 3, 6, 0, 277, m0),
   (44, .iload_n 1, 1, 0, 0, 0, m0),
   (45, .iload 5, 2, 0, 0, 0, m0),
   (47, .invokestatic 251, 3, 0, 0, 974, m_Choir_slot),
   (50, .iaload, 1, 0, 0, 0, m0),
   (51, .istore 6, 2, 0, 0, 0, m0),
   (53, .iload 4, 2, 0, 0, 0, m0),
   (55, .aload_n 0, 1, 0, 0, 0, m0),
   (56, .iload_n 1, 1, 0, 0, 0, m0),
   (57, .iload_n 2, 1, 0, 0, 0, m0),
   (58, .iload 5, 2, 0, 0, 0, m0),
   (60, .invokevirtual 368, 3, 0, 0, 1310, m_FN_offAt),
   (63, .iload 6, 2, 0, 0, 0, m0),
   (65, .iadd, 1, 0, 0, 0, m0),
   (66, .iadd, 1, 0, 0, 0, m0),
   (67, .istore 4, 2, 0, 0, 0, m0),
   (69, .iinc 5 1, 3, 0, 0, 0, m0),
   (72, .goto (-49), 3, 23, 0, 0, m0)]),
  (75, [], false, [(75, .aload_n 0, 1, 0, 0, 0, m0),
   (76, .iload 4, 2, 0, 0, 0, m0),
   (78, .invokevirtual 170, 3, 0, 0, 835, m_FN_answer),
   (81, .ireturn, 1, 0, 0, 0, m0)])]
theorem ok_FN_heard : okBt m_FN_heard bt_FN_heard = true := by decide +kernel
set_option maxRecDepth 100000 in
theorem b_FN_heard_0 {l : Launch} {E : EnvT} {d : Nat} {K : AV → Mem → Prop} {M : Mem} {x1 : Int32} {x2 : Int32} (hd : 1 ≤ d)
  (h : CT l E (d - 1) m_FN_heardStatus [(.ref 0, 0), (.int x1, 0), (.int x2, 0)] M (fun v1 M1 =>
   (((toI v1) = 0 →
    G l E d m_FN_heard 23 [(0, (.ref 0, 0)), (1, (.int x1, 0)), (2, (.int x2, 0)), (4, (.int (iN 0), 0)), (5, (.int (iN 0), 0))] [] M1 K) ∧
   (¬ (toI v1) = 0 →
    CT l E (d - 1) m_FN_refuse [(.ref 0, 0), (.int (toI v1), 0)] M1 (fun v2 M2 =>
     K (.int (toI v2), 0) M2))))) :
  G l E d m_FN_heard 0 [(0, (.ref 0, 0)), (1, (.int x1, 0)), (2, (.int x2, 0))] [] M K := G.blk 60 _ hd ok_FN_heard rfl h
set_option maxRecDepth 100000 in
theorem b_FN_heard_23 {l : Launch} {E : EnvT} {d : Nat} {K : AV → Mem → Prop} {M : Mem} {x1 : Int32} {x2 : Int32} {x4 : Int32} {x5 : Int32} (hd : 1 ≤ d)
  (h : (((M 0 0 9).toNat, 11) ∈ CL ∧ vp_in x1 8 ∧ (((iN (M (M 0 0 9).toNat 4 (x1).toNatClampNeg)) ≤ x5 →
   CT l E (d - 1) m_FN_answer [(.ref 0, 0), (.int x4, 0)] M (fun v1 M1 =>
    K (.int (toI v1), 0) M1)) ∧
  (¬ (iN (M (M 0 0 9).toNat 4 (x1).toNatClampNeg)) ≤ x5 →
   (((M 0 0 9).toNat, 11) ∈ CL ∧ CT l E (d - 1) m_Choir_slot [(.int x1, 0), (.int x5, 0)] M (fun v2 M2 =>
    (vp_in (toI v2) 48 ∧ CT l E (d - 1) m_FN_offAt [(.ref 0, 0), (.int x1, 0), (.int x2, 0), (.int x5, 0)] M2 (fun v3 M3 =>
     G l E d m_FN_heard 23 [(0, (.ref 0, 0)), (1, (.int x1, 0)), (2, (.int x2, 0)), (4, (.int (x4 + ((toI v3) + (iN (M2 (M 0 0 9).toNat 7 ((toI v2)).toNatClampNeg)))), 0)), (5, (.int (x5 + iN 1), 0))] [] M3 K)))))))) :
  G l E d m_FN_heard 23 [(0, (.ref 0, 0)), (1, (.int x1, 0)), (2, (.int x2, 0)), (4, (.int x4, 0)), (5, (.int x5, 0))] [] M K := G.blk 60 _ hd ok_FN_heard rfl h
def bt_FN_transposed : BtT := [(0, [0, 1, 2], true, [(0, .aload_n 0, 1, 0, 0, 0, m0),
   (1, .iload_n 1, 1, 0, 0, 0, m0),
   (2, .iload_n 2, 1, 0, 0, 0, m0),
   (3, .invokevirtual 365, 3, 0, 0, 1304, m_FN_heardStatus),
   (6, .istore_n 3, 1, 0, 0, 0, m0),
   (7, .iload_n 3, 1, 0, 0, 0, m0),
   (8, .ifCond .eq 9, 3, 17, 0, 0, m0),
   (11, .nop, 0, 0, 0, 0, m0)]),
  (11, [], false, [(11, .aload_n 0, 1, 0, 0, 0, m0),
   (12, .iload_n 3, 1, 0, 0, 0, m0),
   (13, .invokevirtual 124, 3, 0, 0, 608, m_FN_refuse),
   (16, .ireturn, 1, 0, 0, 0, m0)]),
  (17, [], false, [(17, .aload_n 0, 1, 0, 0, 0, m0),
   (18, .iload_n 1, 1, 0, 0, 0, m0),
   (19, .iload_n 2, 1, 0, 0, 0, m0),
   (20, .iconst 0, 1, 0, 0, 0, m0),
   (21, .invokevirtual 368, 3, 0, 0, 1310, m_FN_offAt),
   (24, .istore 4, 2, 0, 0, 0, m0),
   (26, .iconst 1, 1, 0, 0, 0, m0),
   (27, .istore 5, 2, 0, 0, 0, m0),
   (29, .nop, 0, 0, 0, 0, m0)]),
  (29, [0, 1, 2, 4, 5], true, [(29, .iload 5, 2, 0, 0, 0, m0),
   (31, .aload_n 0, 1, 0, 0, 0, m0),
   (32, .getfield 64, 3, 9, 10, 501, m0),
   (35, .getfield 221, 3, 3, 0, 271, m0),
   (38, .iload_n 1, 1, 0, 0, 0, m0),
   (39, .iaload, 1, 0, 0, 0, m0),
   (40, .if_icmp .ge 29, 3, 69, 0, 0, m0),
   (43, .nop, 0, 0, 0, 0, m0)]),
  (43, [], false, [(43, .aload_n 0, 1, 0, 0, 0, m0),
   (44, .iload_n 1, 1, 0, 0, 0, m0),
   (45, .iload_n 2, 1, 0, 0, 0, m0),
   (46, .iload 5, 2, 0, 0, 0, m0),
   (48, .invokevirtual 368, 3, 0, 0, 1310, m_FN_offAt),
   (51, .iload 4, 2, 0, 0, 0, m0),
   (53, .if_icmp .eq 10, 3, 63, 0, 0, m0),
   (56, .nop, 0, 0, 0, 0, m0)]),
  (56, [], false, [(56, .aload_n 0, 1, 0, 0, 0, m0),
   (57, .bipush 6, 2, 0, 0, 0, m0),
   (59, .invokevirtual 124, 3, 0, 0, 608, m_FN_refuse),
   (62, .ireturn, 1, 0, 0, 0, m0)]),
  (63, [], false, [(63, .iinc 5 1, 3, 0, 0, 0, m0),
   (66, .goto (-37), 3, 29, 0, 0, m0)]),
  (69, [], false, [(69, .aload_n 0, 1, 0, 0, 0, m0),
   (70, .iload 4, 2, 0, 0, 0, m0),
   (72, .invokevirtual 170, 3, 0, 0, 835, m_FN_answer),
   (75, .ireturn, 1, 0, 0, 0, m0)])]
theorem ok_FN_transposed : okBt m_FN_transposed bt_FN_transposed = true := by decide +kernel
set_option maxRecDepth 100000 in
theorem b_FN_transposed_0 {l : Launch} {E : EnvT} {d : Nat} {K : AV → Mem → Prop} {M : Mem} {x1 : Int32} {x2 : Int32} (hd : 1 ≤ d)
  (h : CT l E (d - 1) m_FN_heardStatus [(.ref 0, 0), (.int x1, 0), (.int x2, 0)] M (fun v1 M1 =>
   (((toI v1) = 0 →
    CT l E (d - 1) m_FN_offAt [(.ref 0, 0), (.int x1, 0), (.int x2, 0), (.int (iN 0), 0)] M1 (fun v2 M2 =>
     G l E d m_FN_transposed 29 [(0, (.ref 0, 0)), (1, (.int x1, 0)), (2, (.int x2, 0)), (4, (.int (toI v2), 0)), (5, (.int (iN 1), 0))] [] M2 K)) ∧
   (¬ (toI v1) = 0 →
    CT l E (d - 1) m_FN_refuse [(.ref 0, 0), (.int (toI v1), 0)] M1 (fun v3 M3 =>
     K (.int (toI v3), 0) M3))))) :
  G l E d m_FN_transposed 0 [(0, (.ref 0, 0)), (1, (.int x1, 0)), (2, (.int x2, 0))] [] M K := G.blk 60 _ hd ok_FN_transposed rfl h
set_option maxRecDepth 100000 in
theorem b_FN_transposed_29 {l : Launch} {E : EnvT} {d : Nat} {K : AV → Mem → Prop} {M : Mem} {x1 : Int32} {x2 : Int32} {x4 : Int32} {x5 : Int32} (hd : 1 ≤ d)
  (h : (((M 0 0 9).toNat, 11) ∈ CL ∧ vp_in x1 8 ∧ (((iN (M (M 0 0 9).toNat 4 (x1).toNatClampNeg)) ≤ x5 →
   CT l E (d - 1) m_FN_answer [(.ref 0, 0), (.int x4, 0)] M (fun v1 M1 =>
    K (.int (toI v1), 0) M1)) ∧
  (¬ (iN (M (M 0 0 9).toNat 4 (x1).toNatClampNeg)) ≤ x5 →
   CT l E (d - 1) m_FN_offAt [(.ref 0, 0), (.int x1, 0), (.int x2, 0), (.int x5, 0)] M (fun v2 M2 =>
    (((toI v2) = x4 →
     G l E d m_FN_transposed 29 [(0, (.ref 0, 0)), (1, (.int x1, 0)), (2, (.int x2, 0)), (4, (.int x4, 0)), (5, (.int (x5 + iN 1), 0))] [] M2 K) ∧
    (¬ (toI v2) = x4 →
     CT l E (d - 1) m_FN_refuse [(.ref 0, 0), (.int (iN 6), 0)] M2 (fun v3 M3 =>
      K (.int (toI v3), 0) M3)))))))) :
  G l E d m_FN_transposed 29 [(0, (.ref 0, 0)), (1, (.int x1, 0)), (2, (.int x2, 0)), (4, (.int x4, 0)), (5, (.int x5, 0))] [] M K := G.blk 60 _ hd ok_FN_transposed rfl h
def bt_FN_forged : BtT := [(0, [0, 1, 2], true, [(0, .aload_n 0, 1, 0, 0, 0, m0),
   (1, .iload_n 1, 1, 0, 0, 0, m0),
   (2, .iload_n 2, 1, 0, 0, 0, m0),
   (3, .invokevirtual 365, 3, 0, 0, 1304, m_FN_heardStatus),
   (6, .istore_n 3, 1, 0, 0, 0, m0),
   (7, .iload_n 3, 1, 0, 0, 0, m0),
   (8, .ifCond .eq 9, 3, 17, 0, 0, m0),
   (11, .nop, 0, 0, 0, 0, m0)]),
  (11, [], false, [(11, .aload_n 0, 1, 0, 0, 0, m0),
   (12, .iload_n 3, 1, 0, 0, 0, m0),
   (13, .invokevirtual 124, 3, 0, 0, 608, m_FN_refuse),
   (16, .ireturn, 1, 0, 0, 0, m0)]),
  (17, [], false, [(17, .iconst (-1), 1, 0, 0, 0, m0),
   (18, .istore 4, 2, 0, 0, 0, m0),
   (20, .iconst 0, 1, 0, 0, 0, m0),
   (21, .istore 5, 2, 0, 0, 0, m0),
   (23, .nop, 0, 0, 0, 0, m0)]),
  (23, [0, 1, 2, 4, 5], true, [(23, .iload 5, 2, 0, 0, 0, m0),
   (25, .aload_n 0, 1, 0, 0, 0, m0),
   (26, .getfield 64, 3, 9, 10, 501, m0),
   (29, .getfield 221, 3, 3, 0, 271, m0),
   (32, .iload_n 1, 1, 0, 0, 0, m0),
   (33, .iaload, 1, 0, 0, 0, m0),
   (34, .if_icmp .ge 37, 3, 71, 0, 0, m0),
   (37, .nop, 0, 0, 0, 0, m0)]),
  (37, [], false, [(37, .aload_n 0, 1, 0, 0, 0, m0),
   (38, .iload_n 1, 1, 0, 0, 0, m0),
   (39, .iload_n 2, 1, 0, 0, 0, m0),
   (40, .iload 5, 2, 0, 0, 0, m0),
   (42, .invokevirtual 368, 3, 0, 0, 1310, m_FN_offAt),
   (45, .ifCond .eq 20, 3, 65, 0, 0, m0),
   (48, .nop, 0, 0, 0, 0, m0)]),
  (48, [], false, [(48, .iload 4, 2, 0, 0, 0, m0),
   (50, .iconst (-1), 1, 0, 0, 0, m0),
   (51, .if_icmp .eq 10, 3, 61, 0, 0, m0),
   (54, .nop, 0, 0, 0, 0, m0)]),
  (54, [], false, [(54, .aload_n 0, 1, 0, 0, 0, m0),
   (55, .bipush 6, 2, 0, 0, 0, m0),
   (57, .invokevirtual 124, 3, 0, 0, 608, m_FN_refuse),
   (60, .ireturn, 1, 0, 0, 0, m0)]),
  (61, [], false, [(61, .iload 5, 2, 0, 0, 0, m0),
   (63, .istore 4, 2, 0, 0, 0, m0),
   (65, .nop, 0, 0, 0, 0, m0)]),
  (65, [], false, [(65, .iinc 5 1, 3, 0, 0, 0, m0),
   (68, .goto (-45), 3, 23, 0, 0, m0)]),
  (71, [], false, [(71, .aload_n 0, 1, 0, 0, 0, m0),
   (72, .iload 4, 2, 0, 0, 0, m0),
   (74, .bipush 6, 2, 0, 0, 0, m0),
   (76, .invokevirtual 236, 3, 0, 0, 954, m_FN_answerOr),
   (79, .ireturn, 1, 0, 0, 0, m0)])]
theorem ok_FN_forged : okBt m_FN_forged bt_FN_forged = true := by decide +kernel
set_option maxRecDepth 100000 in
theorem b_FN_forged_0 {l : Launch} {E : EnvT} {d : Nat} {K : AV → Mem → Prop} {M : Mem} {x1 : Int32} {x2 : Int32} (hd : 1 ≤ d)
  (h : CT l E (d - 1) m_FN_heardStatus [(.ref 0, 0), (.int x1, 0), (.int x2, 0)] M (fun v1 M1 =>
   (((toI v1) = 0 →
    G l E d m_FN_forged 23 [(0, (.ref 0, 0)), (1, (.int x1, 0)), (2, (.int x2, 0)), (4, (.int (iN (-1)), 0)), (5, (.int (iN 0), 0))] [] M1 K) ∧
   (¬ (toI v1) = 0 →
    CT l E (d - 1) m_FN_refuse [(.ref 0, 0), (.int (toI v1), 0)] M1 (fun v2 M2 =>
     K (.int (toI v2), 0) M2))))) :
  G l E d m_FN_forged 0 [(0, (.ref 0, 0)), (1, (.int x1, 0)), (2, (.int x2, 0))] [] M K := G.blk 60 _ hd ok_FN_forged rfl h
set_option maxRecDepth 100000 in
theorem b_FN_forged_23 {l : Launch} {E : EnvT} {d : Nat} {K : AV → Mem → Prop} {M : Mem} {x1 : Int32} {x2 : Int32} {x4 : Int32} {x5 : Int32} (hd : 1 ≤ d)
  (h : (((M 0 0 9).toNat, 11) ∈ CL ∧ vp_in x1 8 ∧ (((iN (M (M 0 0 9).toNat 4 (x1).toNatClampNeg)) ≤ x5 →
   CT l E (d - 1) m_FN_answerOr [(.ref 0, 0), (.int x4, 0), (.int (iN 6), 0)] M (fun v1 M1 =>
    K (.int (toI v1), 0) M1)) ∧
  (¬ (iN (M (M 0 0 9).toNat 4 (x1).toNatClampNeg)) ≤ x5 →
   CT l E (d - 1) m_FN_offAt [(.ref 0, 0), (.int x1, 0), (.int x2, 0), (.int x5, 0)] M (fun v2 M2 =>
    (((toI v2) = 0 →
     G l E d m_FN_forged 23 [(0, (.ref 0, 0)), (1, (.int x1, 0)), (2, (.int x2, 0)), (4, (.int x4, 0)), (5, (.int (x5 + iN 1), 0))] [] M2 K) ∧
    (¬ (toI v2) = 0 →
     ((x4 = (iN (-1)) →
      G l E d m_FN_forged 23 [(0, (.ref 0, 0)), (1, (.int x1, 0)), (2, (.int x2, 0)), (4, (.int x5, 0)), (5, (.int (x5 + iN 1), 0))] [] M2 K) ∧
     (¬ x4 = (iN (-1)) →
      CT l E (d - 1) m_FN_refuse [(.ref 0, 0), (.int (iN 6), 0)] M2 (fun v3 M3 =>
       K (.int (toI v3), 0) M3)))))))))) :
  G l E d m_FN_forged 23 [(0, (.ref 0, 0)), (1, (.int x1, 0)), (2, (.int x2, 0)), (4, (.int x4, 0)), (5, (.int x5, 0))] [] M K := G.blk 60 _ hd ok_FN_forged rfl h
def bt_FN_whose : BtT := [(0, [0, 1, 2], true, [(0, .aload_n 0, 1, 0, 0, 0, m0),
   (1, .getfield 64, 3, 9, 10, 501, m0),
   (4, .iload_n 1, 1, 0, 0, 0, m0),
   (5, .invokevirtual 272, 3, 0, 0, 999, m_Choir_lives),
   (8, .ifCond .eq 15, 3, 23, 0, 0, m0),
   (11, .nop, 0, 0, 0, 0, m0)]),
  (11, [], false, [(11, .iload_n 2, 1, 0, 0, 0, m0),
   (12, .iconst 1, 1, 0, 0, 0, m0),
   (13, .if_icmp .lt 10, 3, 23, 0, 0, m0),
   (16, .nop, 0, 0, 0, 0, m0)]),
  (16, [], false, [(16, .iload_n 2, 1, 0, 0, 0, m0),
   (17, .sipush 999, 3, 0, 0, 0, m0),
   (20, .if_icmp .le 9, 3, 29, 0, 0, m0),
   (23, .nop, 0, 0, 0, 0, m0)]),
  (23, [], false, [(23, .aload_n 0, 1, 0, 0, 0, m0),
   (24, .iconst 1, 1, 0, 0, 0, m0),
   (25, .invokevirtual 124, 3, 0, 0, 608, m_FN_refuse),
   (28, .ireturn, 1, 0, 0, 0, m0)]),
  (29, [], false, [(29, .iconst 0, 1, 0, 0, 0, m0),
   (30, .istore_n 3, 1, 0, 0, 0, m0),
   (31, .nop, 0, 0, 0, 0, m0)]),
  (31, [0, 1, 2, 3], true, [(31, .iload_n 3, 1, 0, 0, 0, m0),
   (32, .aload_n 0, 1, 0, 0, 0, m0),
   (33, .getfield 64, 3, 9, 10, 501, m0),
   (36, .getfield 221, 3, 3, 0, 271, m0),
   (39, .iload_n 1, 1, 0, 0, 0, m0),
   (40, .iaload, 1, 0, 0, 0, m0),
   (41, .if_icmp .ge 45, 3, 86, 0, 0, m0),
   (44, .nop, 0, 0, 0, 0, m0)]),
  (44, [], false, [(44, .iload_n 1, 1, 0, 0, 0, m0),
   (45, .iload_n 3, 1, 0, 0, 0, m0),
   (46, .invokestatic 251, 3, 0, 0, 974, m_Choir_slot),
   (49, .istore 4, 2, 0, 0, 0, m0),
   (51, .aload_n 0, 1, 0, 0, 0, m0),
   (52, .getfield 64, 3, 9, 10, 501, m0),
   (55, .getfield 257, 3, 6, 0, 277, m0),
   (58, .iload 4, 2, 0, 0, 0, m0),
   (60, .iaload, 1, 0, 0, 0, m0),
   (61, .iload_n 2, 1, 0, 0, 0, m0),
   (62, .if_icmp .ne 18, 3, 80, 0, 0, m0),
   (65, .nop, 0, 0, 0, 0, m0)]),
  (65, [], false, [(65, .aload_n 0, 1, 0, 0, 0, m0),
   (66, .aload_n 0, 1, 0, 0, 0, m0),
   (67, .getfield 64, 3, 9, 10, 501, m0),
   (70, .getfield 254, 3, 5, 0, 275, m0),
   (73, .iload 4, 2, 0, 0, 0, m0),
   (75, .iaload, 1, 0, 0, 0, m0),
   (76, .invokevirtual 170, 3, 0, 0, 835, m_FN_answer),
   (79, .ireturn, 1, 0, 0, 0, m0)]),
  (80, [], false, [(80, .iinc 3 1, 3, 0, 0, 0, m0),
   (83, .goto (-52), 3, 31, 0, 0, m0)]),
  (86, [], false, [(86, .aload_n 0, 1, 0, 0, 0, m0),
   (87, .bipush 6, 2, 0, 0, 0, m0),
   (89, .invokevirtual 124, 3, 0, 0, 608, m_FN_refuse),
   (92, .ireturn, 1, 0, 0, 0, m0)])]
theorem ok_FN_whose : okBt m_FN_whose bt_FN_whose = true := by decide +kernel
set_option maxRecDepth 100000 in
theorem b_FN_whose_0 {l : Launch} {E : EnvT} {d : Nat} {K : AV → Mem → Prop} {M : Mem} {x1 : Int32} {x2 : Int32} (hd : 1 ≤ d)
  (h : (((M 0 0 9).toNat, 11) ∈ CL ∧ CT l E (d - 1) m_Choir_lives [(.ref (M 0 0 9).toNat, 11), (.int x1, 0)] M (fun v1 M1 =>
   (((toI v1) = 0 →
    CT l E (d - 1) m_FN_refuse [(.ref 0, 0), (.int (iN 1), 0)] M1 (fun v2 M2 =>
     K (.int (toI v2), 0) M2)) ∧
   (¬ (toI v1) = 0 →
    ((x2 < (iN 1) →
     CT l E (d - 1) m_FN_refuse [(.ref 0, 0), (.int (iN 1), 0)] M1 (fun v3 M3 =>
      K (.int (toI v3), 0) M3)) ∧
    (¬ x2 < (iN 1) →
     ((x2 ≤ (iN 999) →
      G l E d m_FN_whose 31 [(0, (.ref 0, 0)), (1, (.int x1, 0)), (2, (.int x2, 0)), (3, (.int (iN 0), 0))] [] M1 K) ∧
     (¬ x2 ≤ (iN 999) →
      CT l E (d - 1) m_FN_refuse [(.ref 0, 0), (.int (iN 1), 0)] M1 (fun v4 M4 =>
       K (.int (toI v4), 0) M4)))))))))) :
  G l E d m_FN_whose 0 [(0, (.ref 0, 0)), (1, (.int x1, 0)), (2, (.int x2, 0))] [] M K := G.blk 60 _ hd ok_FN_whose rfl h
set_option maxRecDepth 100000 in
theorem b_FN_whose_31 {l : Launch} {E : EnvT} {d : Nat} {K : AV → Mem → Prop} {M : Mem} {x1 : Int32} {x2 : Int32} {x3 : Int32} (hd : 1 ≤ d)
  (h : (((M 0 0 9).toNat, 11) ∈ CL ∧ vp_in x1 8 ∧ (((iN (M (M 0 0 9).toNat 4 (x1).toNatClampNeg)) ≤ x3 →
   CT l E (d - 1) m_FN_refuse [(.ref 0, 0), (.int (iN 6), 0)] M (fun v1 M1 =>
    K (.int (toI v1), 0) M1)) ∧
  (¬ (iN (M (M 0 0 9).toNat 4 (x1).toNatClampNeg)) ≤ x3 →
   CT l E (d - 1) m_Choir_slot [(.int x1, 0), (.int x3, 0)] M (fun v2 M2 =>
    (((M2 0 0 9).toNat, 11) ∈ CL ∧ vp_in (toI v2) 48 ∧ ((¬ (iN (M2 (M2 0 0 9).toNat 7 ((toI v2)).toNatClampNeg)) = x2 →
     G l E d m_FN_whose 31 [(0, (.ref 0, 0)), (1, (.int x1, 0)), (2, (.int x2, 0)), (3, (.int (x3 + iN 1), 0))] [] M2 K) ∧
    ((iN (M2 (M2 0 0 9).toNat 7 ((toI v2)).toNatClampNeg)) = x2 →
     (((M2 0 0 9).toNat, 11) ∈ CL ∧ vp_in (toI v2) 48 ∧ CT l E (d - 1) m_FN_answer [(.ref 0, 0), (.int (iN (M2 (M2 0 0 9).toNat 6 ((toI v2)).toNatClampNeg)), 0)] M2 (fun v3 M3 =>
      K (.int (toI v3), 0) M3)))))))))) :
  G l E d m_FN_whose 31 [(0, (.ref 0, 0)), (1, (.int x1, 0)), (2, (.int x2, 0)), (3, (.int x3, 0))] [] M K := G.blk 60 _ hd ok_FN_whose rfl h
def bt_FN_isDebtOrNone : BtT := [(0, [0], true, [(0, .iload_n 0, 1, 0, 0, 0, m0),
   (1, .ifCond .lt 14, 3, 15, 0, 0, m0),
   (4, .nop, 0, 0, 0, 0, m0)]),
  (4, [], false, [(4, .iload_n 0, 1, 0, 0, 0, m0),
   (5, .sipush 999, 3, 0, 0, 0, m0),
   (8, .if_icmp .gt 7, 3, 15, 0, 0, m0),
   (11, .nop, 0, 0, 0, 0, m0)]),
  (11, [], false, [(11, .iconst 1, 1, 0, 0, 0, m0),
   (12, .goto 4, 3, 16, 0, 0, m0)]),
  (15, [], false, [(15, .iconst 0, 1, 0, 0, 0, m0),
   (16, .nop, 0, 0, 0, 0, m0)]),
  (16, [], false, [(16, .ireturn, 1, 0, 0, 0, m0)])]
theorem ok_FN_isDebtOrNone : okBt m_FN_isDebtOrNone bt_FN_isDebtOrNone = true := by decide +kernel
set_option maxRecDepth 100000 in
theorem b_FN_isDebtOrNone_0 {l : Launch} {E : EnvT} {d : Nat} {K : AV → Mem → Prop} {M : Mem} {x0 : Int32} (hd : 1 ≤ d)
  (h : ((x0 < 0 →
   ((((iN 0) = 0 ∨ (iN 0) = 1)) ∧ K (.int (iN 0), 0) M)) ∧
  (¬ x0 < 0 →
   (((iN 999) < x0 →
    ((((iN 0) = 0 ∨ (iN 0) = 1)) ∧ K (.int (iN 0), 0) M)) ∧
   (¬ (iN 999) < x0 →
    ((((iN 1) = 0 ∨ (iN 1) = 1)) ∧ K (.int (iN 1), 0) M)))))) :
  G l E d m_FN_isDebtOrNone 0 [(0, (.int x0, 0))] [] M K := G.blk 60 _ hd ok_FN_isDebtOrNone rfl h
def bt_FN_isSpan : BtT := [(0, [0], true, [(0, .iload_n 0, 1, 0, 0, 0, m0),
   (1, .ifCond .lt 14, 3, 15, 0, 0, m0),
   (4, .nop, 0, 0, 0, 0, m0)]),
  (4, [], false, [(4, .iload_n 0, 1, 0, 0, 0, m0),
   (5, .sipush 999, 3, 0, 0, 0, m0),
   (8, .if_icmp .gt 7, 3, 15, 0, 0, m0),
   (11, .nop, 0, 0, 0, 0, m0)]),
  (11, [], false, [(11, .iconst 1, 1, 0, 0, 0, m0),
   (12, .goto 4, 3, 16, 0, 0, m0)]),
  (15, [], false, [(15, .iconst 0, 1, 0, 0, 0, m0),
   (16, .nop, 0, 0, 0, 0, m0)]),
  (16, [], false, [(16, .ireturn, 1, 0, 0, 0, m0)])]
theorem ok_FN_isSpan : okBt m_FN_isSpan bt_FN_isSpan = true := by decide +kernel
set_option maxRecDepth 100000 in
theorem b_FN_isSpan_0 {l : Launch} {E : EnvT} {d : Nat} {K : AV → Mem → Prop} {M : Mem} {x0 : Int32} (hd : 1 ≤ d)
  (h : ((x0 < 0 →
   ((((iN 0) = 0 ∨ (iN 0) = 1)) ∧ K (.int (iN 0), 0) M)) ∧
  (¬ x0 < 0 →
   (((iN 999) < x0 →
    ((((iN 0) = 0 ∨ (iN 0) = 1)) ∧ K (.int (iN 0), 0) M)) ∧
   (¬ (iN 999) < x0 →
    ((((iN 1) = 0 ∨ (iN 1) = 1)) ∧ K (.int (iN 1), 0) M)))))) :
  G l E d m_FN_isSpan 0 [(0, (.int x0, 0))] [] M K := G.blk 60 _ hd ok_FN_isSpan rfl h
def bt_FN_grows : BtT := [(0, [0, 1, 2], true, [(0, .iload_n 1, 1, 0, 0, 0, m0),
   (1, .invokestatic 372, 3, 0, 0, 1330, m_FN_isDebtOrNone),
   (4, .ifCond .eq 10, 3, 14, 0, 0, m0),
   (7, .nop, 0, 0, 0, 0, m0)]),
  (7, [], false, [(7, .iload_n 2, 1, 0, 0, 0, m0),
   (8, .invokestatic 375, 3, 0, 0, 1333, m_FN_isSpan),
   (11, .ifCond .ne 9, 3, 20, 0, 0, m0),
   (14, .nop, 0, 0, 0, 0, m0)]),
  (14, [], false, [(14, .aload_n 0, 1, 0, 0, 0, m0),
   (15, .iconst 1, 1, 0, 0, 0, m0),
   (16, .invokevirtual 124, 3, 0, 0, 608, m_FN_refuse),
   (19, .ireturn, 1, 0, 0, 0, m0)]),
  (20, [], false, [(20, .aload_n 0, 1, 0, 0, 0, m0),
   (21, .aload_n 0, 1, 0, 0, 0, m0),
   (22, .getfield 64, 3, 9, 10, 501, m0),
   (25, .iload_n 1, 1, 0, 0, 0, m0),
   (26, .iload_n 2, 1, 0, 0, 0, m0),
   (27, .invokevirtual 378, 3, 0, 0, 1336, m_Choir_grownIn),
   (30, .invokevirtual 170, 3, 0, 0, 835, m_FN_answer),
   (33, .ireturn, 1, 0, 0, 0, m0)])]
theorem ok_FN_grows : okBt m_FN_grows bt_FN_grows = true := by decide +kernel
set_option maxRecDepth 100000 in
theorem b_FN_grows_0 {l : Launch} {E : EnvT} {d : Nat} {K : AV → Mem → Prop} {M : Mem} {x1 : Int32} {x2 : Int32} (hd : 1 ≤ d)
  (h : CT l E (d - 1) m_FN_isDebtOrNone [(.int x1, 0)] M (fun v1 M1 =>
   (((toI v1) = 0 →
    CT l E (d - 1) m_FN_refuse [(.ref 0, 0), (.int (iN 1), 0)] M1 (fun v2 M2 =>
     K (.int (toI v2), 0) M2)) ∧
   (¬ (toI v1) = 0 →
    CT l E (d - 1) m_FN_isSpan [(.int x2, 0)] M1 (fun v3 M3 =>
     ((¬ (toI v3) = 0 →
      (((M3 0 0 9).toNat, 11) ∈ CL ∧ CT l E (d - 1) m_Choir_grownIn [(.ref (M3 0 0 9).toNat, 11), (.int x1, 0), (.int x2, 0)] M3 (fun v4 M4 =>
       CT l E (d - 1) m_FN_answer [(.ref 0, 0), (.int (toI v4), 0)] M4 (fun v5 M5 =>
        K (.int (toI v5), 0) M5)))) ∧
     ((toI v3) = 0 →
      CT l E (d - 1) m_FN_refuse [(.ref 0, 0), (.int (iN 1), 0)] M3 (fun v6 M6 =>
       K (.int (toI v6), 0) M6)))))))) :
  G l E d m_FN_grows 0 [(0, (.ref 0, 0)), (1, (.int x1, 0)), (2, (.int x2, 0))] [] M K := G.blk 60 _ hd ok_FN_grows rfl h
def bt_FN_before : BtT := [(0, [0, 1, 2], true, [(0, .iload_n 1, 1, 0, 0, 0, m0),
   (1, .invokestatic 372, 3, 0, 0, 1330, m_FN_isDebtOrNone),
   (4, .ifCond .eq 10, 3, 14, 0, 0, m0),
   (7, .nop, 0, 0, 0, 0, m0)]),
  (7, [], false, [(7, .iload_n 2, 1, 0, 0, 0, m0),
   (8, .invokestatic 375, 3, 0, 0, 1333, m_FN_isSpan),
   (11, .ifCond .ne 9, 3, 20, 0, 0, m0),
   (14, .nop, 0, 0, 0, 0, m0)]),
  (14, [], false, [(14, .aload_n 0, 1, 0, 0, 0, m0),
   (15, .iconst 1, 1, 0, 0, 0, m0),
   (16, .invokevirtual 124, 3, 0, 0, 608, m_FN_refuse),
   (19, .ireturn, 1, 0, 0, 0, m0)]),
  (20, [], false, [(20, .iconst 0, 1, 0, 0, 0, m0),
   (21, .istore_n 3, 1, 0, 0, 0, m0),
   (22, .sipush 999, 3, 0, 0, 0, m0),
   (25, .istore 4, 2, 0, 0, 0, m0),
   (27, .iconst 0, 1, 0, 0, 0, m0),
   (28, .istore 5, 2, 0, 0, 0, m0),
   (30, .nop, 0, 0, 0, 0, m0)]),
  (30, [0, 1, 2, 3, 4, 5], true, [(30, .iload 5, 2, 0, 0, 0, m0),
   (32, .bipush 32, 2, 0, 0, 0, m0),
   (34, .if_icmp .ge 49, 3, 83, 0, 0, m0),
   (37, .nop, 0, 0, 0, 0, m0)]),
  (37, [], false, [(37, .iload_n 3, 1, 0, 0, 0, m0),
   (38, .iload 4, 2, 0, 0, 0, m0),
   (40, .if_icmp .ge 43, 3, 83, 0, 0, m0),
   (43, .nop, 0, 0, 0, 0, m0)]),
  (43, [], false, [(43, .iload_n 3, 1, 0, 0, 0, m0),
   (44, .iload 4, 2, 0, 0, 0, m0),
   (46, .iadd, 1, 0, 0, 0, m0),
   (47, .iconst 2, 1, 0, 0, 0, m0),
   (48, .idiv, 1, 0, 0, 0, m0),
   (49, .istore 6, 2, 0, 0, 0, m0),
   (51, .aload_n 0, 1, 0, 0, 0, m0),
   (52, .getfield 64, 3, 9, 10, 501, m0),
   (55, .iload 6, 2, 0, 0, 0, m0),
   (57, .iload_n 2, 1, 0, 0, 0, m0),
   (58, .invokevirtual 378, 3, 0, 0, 1336, m_Choir_grownIn),
   (61, .iload_n 1, 1, 0, 0, 0, m0),
   (62, .if_icmp .lt 10, 3, 72, 0, 0, m0),
   (65, .nop, 0, 0, 0, 0, m0)]),
  (65, [], false, [(65, .iload 6, 2, 0, 0, 0, m0),
   (67, .istore 4, 2, 0, 0, 0, m0),
   (69, .goto 8, 3, 77, 0, 0, m0)]),
  (72, [], false, [(72, .iload 6, 2, 0, 0, 0, m0),
   (74, .iconst 1, 1, 0, 0, 0, m0),
   (75, .iadd, 1, 0, 0, 0, m0),
   (76, .istore_n 3, 1, 0, 0, 0, m0),
   (77, .nop, 0, 0, 0, 0, m0)]),
  (77, [], false, [(77, .iinc 5 1, 3, 0, 0, 0, m0),
   (80, .goto (-50), 3, 30, 0, 0, m0)]),
  (83, [], false, [(83, .aload_n 0, 1, 0, 0, 0, m0),
   (84, .iload_n 3, 1, 0, 0, 0, m0),
   (85, .invokevirtual 170, 3, 0, 0, 835, m_FN_answer),
   (88, .ireturn, 1, 0, 0, 0, m0)])]
theorem ok_FN_before : okBt m_FN_before bt_FN_before = true := by decide +kernel
set_option maxRecDepth 100000 in
theorem b_FN_before_0 {l : Launch} {E : EnvT} {d : Nat} {K : AV → Mem → Prop} {M : Mem} {x1 : Int32} {x2 : Int32} (hd : 1 ≤ d)
  (h : CT l E (d - 1) m_FN_isDebtOrNone [(.int x1, 0)] M (fun v1 M1 =>
   (((toI v1) = 0 →
    CT l E (d - 1) m_FN_refuse [(.ref 0, 0), (.int (iN 1), 0)] M1 (fun v2 M2 =>
     K (.int (toI v2), 0) M2)) ∧
   (¬ (toI v1) = 0 →
    CT l E (d - 1) m_FN_isSpan [(.int x2, 0)] M1 (fun v3 M3 =>
     ((¬ (toI v3) = 0 →
      G l E d m_FN_before 30 [(0, (.ref 0, 0)), (1, (.int x1, 0)), (2, (.int x2, 0)), (3, (.int (iN 0), 0)), (4, (.int (iN 999), 0)), (5, (.int (iN 0), 0))] [] M3 K) ∧
     ((toI v3) = 0 →
      CT l E (d - 1) m_FN_refuse [(.ref 0, 0), (.int (iN 1), 0)] M3 (fun v4 M4 =>
       K (.int (toI v4), 0) M4)))))))) :
  G l E d m_FN_before 0 [(0, (.ref 0, 0)), (1, (.int x1, 0)), (2, (.int x2, 0))] [] M K := G.blk 60 _ hd ok_FN_before rfl h
set_option maxRecDepth 100000 in
theorem b_FN_before_30 {l : Launch} {E : EnvT} {d : Nat} {K : AV → Mem → Prop} {M : Mem} {x1 : Int32} {x2 : Int32} {x3 : Int32} {x4 : Int32} {x5 : Int32} (hd : 1 ≤ d)
  (h : (((iN 32) ≤ x5 →
   CT l E (d - 1) m_FN_answer [(.ref 0, 0), (.int x3, 0)] M (fun v1 M1 =>
    K (.int (toI v1), 0) M1)) ∧
  (¬ (iN 32) ≤ x5 →
   ((x4 ≤ x3 →
    CT l E (d - 1) m_FN_answer [(.ref 0, 0), (.int x3, 0)] M (fun v2 M2 =>
     K (.int (toI v2), 0) M2)) ∧
   (¬ x4 ≤ x3 →
    (¬ (iN 2) = 0 ∧ ((M 0 0 9).toNat, 11) ∈ CL ∧ CT l E (d - 1) m_Choir_grownIn [(.ref (M 0 0 9).toNat, 11), (.int ((x3 + x4) / (iN 2)), 0), (.int x2, 0)] M (fun v3 M3 =>
     (((toI v3) < x1 →
      G l E d m_FN_before 30 [(0, (.ref 0, 0)), (1, (.int x1, 0)), (2, (.int x2, 0)), (3, (.int (((x3 + x4) / (iN 2)) + (iN 1)), 0)), (4, (.int x4, 0)), (5, (.int (x5 + iN 1), 0))] [] M3 K) ∧
     (¬ (toI v3) < x1 →
      G l E d m_FN_before 30 [(0, (.ref 0, 0)), (1, (.int x1, 0)), (2, (.int x2, 0)), (3, (.int x3, 0)), (4, (.int ((x3 + x4) / (iN 2)), 0)), (5, (.int (x5 + iN 1), 0))] [] M3 K))))))))) :
  G l E d m_FN_before 30 [(0, (.ref 0, 0)), (1, (.int x1, 0)), (2, (.int x2, 0)), (3, (.int x3, 0)), (4, (.int x4, 0)), (5, (.int x5, 0))] [] M K := G.blk 60 _ hd ok_FN_before rfl h
def bt_FN_when : BtT := [(0, [0, 1, 2], true, [(0, .iload_n 1, 1, 0, 0, 0, m0),
   (1, .invokestatic 372, 3, 0, 0, 1330, m_FN_isDebtOrNone),
   (4, .ifCond .eq 10, 3, 14, 0, 0, m0),
   (7, .nop, 0, 0, 0, 0, m0)]),
  (7, [], false, [(7, .iload_n 2, 1, 0, 0, 0, m0),
   (8, .invokestatic 372, 3, 0, 0, 1330, m_FN_isDebtOrNone),
   (11, .ifCond .ne 9, 3, 20, 0, 0, m0),
   (14, .nop, 0, 0, 0, 0, m0)]),
  (14, [], false, [(14, .aload_n 0, 1, 0, 0, 0, m0),
   (15, .iconst 1, 1, 0, 0, 0, m0),
   (16, .invokevirtual 124, 3, 0, 0, 608, m_FN_refuse),
   (19, .ireturn, 1, 0, 0, 0, m0)]),
  (20, [], false, [(20, .iload_n 1, 1, 0, 0, 0, m0),
   (21, .istore_n 3, 1, 0, 0, 0, m0),
   (22, .iconst 0, 1, 0, 0, 0, m0),
   (23, .istore 4, 2, 0, 0, 0, m0),
   (25, .nop, 0, 0, 0, 0, m0)]),
  (25, [0, 2, 3, 4], true, [(25, .iload 4, 2, 0, 0, 0, m0),
   (27, .sipush 999, 3, 0, 0, 0, m0),
   (30, .if_icmp .gt 30, 3, 60, 0, 0, m0),
   (33, .nop, 0, 0, 0, 0, m0)]),
  (33, [], false, [(33, .iload_n 3, 1, 0, 0, 0, m0),
   (34, .iload_n 2, 1, 0, 0, 0, m0),
   (35, .if_icmp .lt 10, 3, 45, 0, 0, m0),
   (38, .nop, 0, 0, 0, 0, m0)]),
  (38, [], false, [(38, .aload_n 0, 1, 0, 0, 0, m0),
   (39, .iload 4, 2, 0, 0, 0, m0),
   (41, .invokevirtual 170, 3, 0, 0, 835, m_FN_answer),
   (44, .ireturn, 1, 0, 0, 0, m0)]),
  (45, [], false, [(45, .aload_n 0, 1, 0, 0, 0, m0),
   (46, .getfield 64, 3, 9, 10, 501, m0),
   (49, .iload_n 3, 1, 0, 0, 0, m0),
   (50, .invokevirtual 381, 3, 0, 0, 1345, m_Choir_grown),
   (53, .istore_n 3, 1, 0, 0, 0, m0),
   (54, .iinc 4 1, 3, 0, 0, 0, m0),
   (57, .goto (-32), 3, 25, 0, 0, m0)]),
  (60, [], false, [(60, .aload_n 0, 1, 0, 0, 0, m0),
   (61, .bipush 6, 2, 0, 0, 0, m0),
   (63, .invokevirtual 124, 3, 0, 0, 608, m_FN_refuse),
   (66, .ireturn, 1, 0, 0, 0, m0)])]
theorem ok_FN_when : okBt m_FN_when bt_FN_when = true := by decide +kernel
set_option maxRecDepth 100000 in
theorem b_FN_when_0 {l : Launch} {E : EnvT} {d : Nat} {K : AV → Mem → Prop} {M : Mem} {x1 : Int32} {x2 : Int32} (hd : 1 ≤ d)
  (h : CT l E (d - 1) m_FN_isDebtOrNone [(.int x1, 0)] M (fun v1 M1 =>
   (((toI v1) = 0 →
    CT l E (d - 1) m_FN_refuse [(.ref 0, 0), (.int (iN 1), 0)] M1 (fun v2 M2 =>
     K (.int (toI v2), 0) M2)) ∧
   (¬ (toI v1) = 0 →
    CT l E (d - 1) m_FN_isDebtOrNone [(.int x2, 0)] M1 (fun v3 M3 =>
     ((¬ (toI v3) = 0 →
      G l E d m_FN_when 25 [(0, (.ref 0, 0)), (2, (.int x2, 0)), (3, (.int x1, 0)), (4, (.int (iN 0), 0))] [] M3 K) ∧
     ((toI v3) = 0 →
      CT l E (d - 1) m_FN_refuse [(.ref 0, 0), (.int (iN 1), 0)] M3 (fun v4 M4 =>
       K (.int (toI v4), 0) M4)))))))) :
  G l E d m_FN_when 0 [(0, (.ref 0, 0)), (1, (.int x1, 0)), (2, (.int x2, 0))] [] M K := G.blk 60 _ hd ok_FN_when rfl h
set_option maxRecDepth 100000 in
theorem b_FN_when_25 {l : Launch} {E : EnvT} {d : Nat} {K : AV → Mem → Prop} {M : Mem} {x2 : Int32} {x3 : Int32} {x4 : Int32} (hd : 1 ≤ d)
  (h : (((iN 999) < x4 →
   CT l E (d - 1) m_FN_refuse [(.ref 0, 0), (.int (iN 6), 0)] M (fun v1 M1 =>
    K (.int (toI v1), 0) M1)) ∧
  (¬ (iN 999) < x4 →
   ((x3 < x2 →
    (((M 0 0 9).toNat, 11) ∈ CL ∧ CT l E (d - 1) m_Choir_grown [(.ref (M 0 0 9).toNat, 11), (.int x3, 0)] M (fun v2 M2 =>
     G l E d m_FN_when 25 [(0, (.ref 0, 0)), (2, (.int x2, 0)), (3, (.int (toI v2), 0)), (4, (.int (x4 + iN 1), 0))] [] M2 K))) ∧
   (¬ x3 < x2 →
    CT l E (d - 1) m_FN_answer [(.ref 0, 0), (.int x4, 0)] M (fun v3 M3 =>
     K (.int (toI v3), 0) M3)))))) :
  G l E d m_FN_when 25 [(0, (.ref 0, 0)), (2, (.int x2, 0)), (3, (.int x3, 0)), (4, (.int x4, 0))] [] M K := G.blk 60 _ hd ok_FN_when rfl h
def bt_FN_owedIn : BtT := [(0, [0, 1], true, [(0, .iload_n 1, 1, 0, 0, 0, m0),
   (1, .invokestatic 375, 3, 0, 0, 1333, m_FN_isSpan),
   (4, .ifCond .ne 9, 3, 13, 0, 0, m0),
   (7, .nop, 0, 0, 0, 0, m0)]),
  (7, [], false, [(7, .aload_n 0, 1, 0, 0, 0, m0),
   (8, .iconst 1, 1, 0, 0, 0, m0),
   (9, .invokevirtual 124, 3, 0, 0, 608, m_FN_refuse),
   (12, .ireturn, 1, 0, 0, 0, m0)]),
  (13, [], false, [(13, .aload_n 0, 1, 0, 0, 0, m0),
   (14, .aload_n 0, 1, 0, 0, 0, m0),
   (15, .getfield 64, 3, 9, 10, 501, m0),
   (18, .iload_n 1, 1, 0, 0, 0, m0),
   (19, .invokevirtual 384, 3, 0, 0, 1350, m_Choir_allOwedIn),
   (22, .invokevirtual 170, 3, 0, 0, 835, m_FN_answer),
   (25, .ireturn, 1, 0, 0, 0, m0)])]
theorem ok_FN_owedIn : okBt m_FN_owedIn bt_FN_owedIn = true := by decide +kernel
set_option maxRecDepth 100000 in
theorem b_FN_owedIn_0 {l : Launch} {E : EnvT} {d : Nat} {K : AV → Mem → Prop} {M : Mem} {x1 : Int32} (hd : 1 ≤ d)
  (h : CT l E (d - 1) m_FN_isSpan [(.int x1, 0)] M (fun v1 M1 =>
   ((¬ (toI v1) = 0 →
    (((M1 0 0 9).toNat, 11) ∈ CL ∧ CT l E (d - 1) m_Choir_allOwedIn [(.ref (M1 0 0 9).toNat, 11), (.int x1, 0)] M1 (fun v2 M2 =>
     CT l E (d - 1) m_FN_answer [(.ref 0, 0), (.int (toI v2), 0)] M2 (fun v3 M3 =>
      K (.int (toI v3), 0) M3)))) ∧
   ((toI v1) = 0 →
    CT l E (d - 1) m_FN_refuse [(.ref 0, 0), (.int (iN 1), 0)] M1 (fun v4 M4 =>
     K (.int (toI v4), 0) M4))))) :
  G l E d m_FN_owedIn 0 [(0, (.ref 0, 0)), (1, (.int x1, 0))] [] M K := G.blk 60 _ hd ok_FN_owedIn rfl h
def bt_FN_live : BtT := [(0, [0, 1], true, [(0, .iload_n 1, 1, 0, 0, 0, m0),
   (1, .ifCond .lt 10, 3, 11, 0, 0, m0),
   (4, .nop, 0, 0, 0, 0, m0)]),
  (4, [], false, [(4, .iload_n 1, 1, 0, 0, 0, m0),
   (5, .sipush 9999, 3, 0, 0, 0, m0),
   (8, .if_icmp .le 9, 3, 17, 0, 0, m0),
   (11, .nop, 0, 0, 0, 0, m0)]),
  (11, [], false, [(11, .aload_n 0, 1, 0, 0, 0, m0),
   (12, .iconst 1, 1, 0, 0, 0, m0),
   (13, .invokevirtual 124, 3, 0, 0, 608, m_FN_refuse),
   (16, .ireturn, 1, 0, 0, 0, m0)]),
  (17, [], false, [(17, .aload_n 0, 1, 0, 0, 0, m0),
   (18, .getfield 73, 3, 11, 10, 503, m0),
   (21, .getfield 387, 3, 8, 8, 366, m0),
   (24, .ifCond .ne 10, 3, 34, 0, 0, m0),
   (27, .nop, 0, 0, 0, 0, m0)]),
  (27, [], false, [(27, .aload_n 0, 1, 0, 0, 0, m0),
   (28, .bipush 6, 2, 0, 0, 0, m0),
   (30, .invokevirtual 124, 3, 0, 0, 608, m_FN_refuse),
   (33, .ireturn, 1, 0, 0, 0, m0)]),
  (34, [], false, [(34, .aload_n 0, 1, 0, 0, 0, m0),
   (35, .getfield 50, 3, 6, 10, 498, m0),
   (38, .aload_n 0, 1, 0, 0, 0, m0),
   (39, .getfield 73, 3, 11, 10, 503, m0),
   (42, .aload_n 0, 1, 0, 0, 0, m0),
   (43, .getfield 64, 3, 9, 10, 501, m0),
   (46, .iload_n 1, 1, 0, 0, 0, m0),
   (47, .invokevirtual 391, 3, 0, 0, 1355, m_Life_run),
   (50, .aload_n 0, 1, 0, 0, 0, m0),
   (51, .aload_n 0, 1, 0, 0, 0, m0),
   (52, .getfield 50, 3, 6, 10, 498, m0),
   (55, .getfield 395, 3, 2, 2, 439, m0),
   (58, .invokevirtual 170, 3, 0, 0, 835, m_FN_answer),
   (61, .ireturn, 1, 0, 0, 0, m0)])]
theorem ok_FN_live : okBt m_FN_live bt_FN_live = true := by decide +kernel
set_option maxRecDepth 100000 in
theorem b_FN_live_0 {l : Launch} {E : EnvT} {d : Nat} {K : AV → Mem → Prop} {M : Mem} {x1 : Int32} (hd : 1 ≤ d)
  (h : ((x1 < 0 →
   CT l E (d - 1) m_FN_refuse [(.ref 0, 0), (.int (iN 1), 0)] M (fun v1 M1 =>
    K (.int (toI v1), 0) M1)) ∧
  (¬ x1 < 0 →
   ((x1 ≤ (iN 9999) →
    (((M 0 0 11).toNat, 23) ∈ CL ∧ ((¬ (iN (M (M 0 0 11).toNat 0 8)) = 0 →
     (((M 0 0 11).toNat, 23) ∈ CL ∧ ((M 0 0 9).toNat, 11) ∈ CL ∧ CT l E (d - 1) m_Life_run [(.ref 13, 37), (.ref (M 0 0 11).toNat, 23), (.ref (M 0 0 9).toNat, 11), (.int x1, 0)] M (fun v2 M2 =>
      CT l E (d - 1) m_FN_answer [(.ref 0, 0), (.int (iN (M2 13 0 2)), 0)] M2 (fun v3 M3 =>
       K (.int (toI v3), 0) M3)))) ∧
    ((iN (M (M 0 0 11).toNat 0 8)) = 0 →
     CT l E (d - 1) m_FN_refuse [(.ref 0, 0), (.int (iN 6), 0)] M (fun v4 M4 =>
      K (.int (toI v4), 0) M4))))) ∧
   (¬ x1 ≤ (iN 9999) →
    CT l E (d - 1) m_FN_refuse [(.ref 0, 0), (.int (iN 1), 0)] M (fun v5 M5 =>
     K (.int (toI v5), 0) M5)))))) :
  G l E d m_FN_live 0 [(0, (.ref 0, 0)), (1, (.int x1, 0))] [] M K := G.blk 60 _ hd ok_FN_live rfl h
def bt_FN_lived : BtT := [(0, [0, 1], true, [(0, .iload_n 1, 1, 0, 0, 0, m0),
   (1, .ifCond .lt 8, 3, 9, 0, 0, m0),
   (4, .nop, 0, 0, 0, 0, m0)]),
  (4, [], false, [(4, .iload_n 1, 1, 0, 0, 0, m0),
   (5, .iconst 4, 1, 0, 0, 0, m0),
   (6, .if_icmp .le 9, 3, 15, 0, 0, m0),
   (9, .nop, 0, 0, 0, 0, m0)]),
  (9, [], false, [(9, .aload_n 0, 1, 0, 0, 0, m0),
   (10, .iconst 1, 1, 0, 0, 0, m0),
   (11, .invokevirtual 124, 3, 0, 0, 608, m_FN_refuse),
   (14, .ireturn, 1, 0, 0, 0, m0)]),
  (15, [], false, [(15, .aload_n 0, 1, 0, 0, 0, m0),
   (16, .getfield 50, 3, 6, 10, 498, m0),
   (19, .getfield 396, 3, 1, 2, 437, m0),
   (22, .ifCond .ne 10, 3, 32, 0, 0, m0),
   (25, .nop, 0, 0, 0, 0, m0)]),
  (25, [], false, [(25, .aload_n 0, 1, 0, 0, 0, m0),
   (26, .bipush 6, 2, 0, 0, 0, m0),
   (28, .invokevirtual 124, 3, 0, 0, 608, m_FN_refuse),
   (31, .ireturn, 1, 0, 0, 0, m0)]),
  (32, [], false, [(32, .iload_n 1, 1, 0, 0, 0, m0),
   (33, .tableswitch 79 0 3 #[31, 43, 55, 67], 31, 0, 0, 0, m0)]),
  (64, [], false, [(64, .aload_n 0, 1, 0, 0, 0, m0),
   (65, .aload_n 0, 1, 0, 0, 0, m0),
   (66, .getfield 50, 3, 6, 10, 498, m0),
   (69, .getfield 399, 3, 3, 2, 441, m0),
   (72, .invokevirtual 170, 3, 0, 0, 835, m_FN_answer),
   (75, .ireturn, 1, 0, 0, 0, m0)]),
  (76, [], false, [(76, .aload_n 0, 1, 0, 0, 0, m0),
   (77, .aload_n 0, 1, 0, 0, 0, m0),
   (78, .getfield 50, 3, 6, 10, 498, m0),
   (81, .getfield 402, 3, 4, 2, 443, m0),
   (84, .invokevirtual 170, 3, 0, 0, 835, m_FN_answer),
   (87, .ireturn, 1, 0, 0, 0, m0)]),
  (88, [], false, [(88, .aload_n 0, 1, 0, 0, 0, m0),
   (89, .aload_n 0, 1, 0, 0, 0, m0),
   (90, .getfield 50, 3, 6, 10, 498, m0),
   (93, .getfield 405, 3, 5, 2, 445, m0),
   (96, .invokevirtual 170, 3, 0, 0, 835, m_FN_answer),
   (99, .ireturn, 1, 0, 0, 0, m0)]),
  (100, [], false, [(100, .aload_n 0, 1, 0, 0, 0, m0),
   (101, .aload_n 0, 1, 0, 0, 0, m0),
   (102, .getfield 50, 3, 6, 10, 498, m0),
   (105, .getfield 406, 3, 6, 2, 447, m0),
   (108, .invokevirtual 170, 3, 0, 0, 835, m_FN_answer),
   (111, .ireturn, 1, 0, 0, 0, m0)]),
  (112, [], false, [(112, .aload_n 0, 1, 0, 0, 0, m0),
   (113, .aload_n 0, 1, 0, 0, 0, m0),
   (114, .getfield 50, 3, 6, 10, 498, m0),
   (117, .getfield 409, 3, 7, 2, 449, m0),
   (120, .invokevirtual 170, 3, 0, 0, 835, m_FN_answer),
   (123, .ireturn, 1, 0, 0, 0, m0)])]
theorem ok_FN_lived : okBt m_FN_lived bt_FN_lived = true := by decide +kernel
set_option maxRecDepth 100000 in
theorem b_FN_lived_0 {l : Launch} {E : EnvT} {d : Nat} {K : AV → Mem → Prop} {M : Mem} {x1 : Int32} (hd : 1 ≤ d)
  (h : ((x1 < 0 →
   CT l E (d - 1) m_FN_refuse [(.ref 0, 0), (.int (iN 1), 0)] M (fun v1 M1 =>
    K (.int (toI v1), 0) M1)) ∧
  (¬ x1 < 0 →
   ((x1 ≤ (iN 4) →
    ((¬ (iN (M 13 0 1)) = 0 →
     ((x1 = iN 0 →
      CT l E (d - 1) m_FN_answer [(.ref 0, 0), (.int (iN (M 13 0 3)), 0)] M (fun v6 M6 =>
       K (.int (toI v6), 0) M6)) ∧
     (¬ x1 = iN 0 →
      ((x1 = iN 1 →
      CT l E (d - 1) m_FN_answer [(.ref 0, 0), (.int (iN (M 13 0 4)), 0)] M (fun v5 M5 =>
       K (.int (toI v5), 0) M5)) ∧
     (¬ x1 = iN 1 →
      ((x1 = iN 2 →
      CT l E (d - 1) m_FN_answer [(.ref 0, 0), (.int (iN (M 13 0 5)), 0)] M (fun v4 M4 =>
       K (.int (toI v4), 0) M4)) ∧
     (¬ x1 = iN 2 →
      ((x1 = iN 3 →
      CT l E (d - 1) m_FN_answer [(.ref 0, 0), (.int (iN (M 13 0 6)), 0)] M (fun v3 M3 =>
       K (.int (toI v3), 0) M3)) ∧
     (¬ x1 = iN 3 →
      CT l E (d - 1) m_FN_answer [(.ref 0, 0), (.int (iN (M 13 0 7)), 0)] M (fun v2 M2 =>
       K (.int (toI v2), 0) M2)))))))))) ∧
    ((iN (M 13 0 1)) = 0 →
     CT l E (d - 1) m_FN_refuse [(.ref 0, 0), (.int (iN 6), 0)] M (fun v7 M7 =>
      K (.int (toI v7), 0) M7)))) ∧
   (¬ x1 ≤ (iN 4) →
    CT l E (d - 1) m_FN_refuse [(.ref 0, 0), (.int (iN 1), 0)] M (fun v8 M8 =>
     K (.int (toI v8), 0) M8)))))) :
  G l E d m_FN_lived 0 [(0, (.ref 0, 0)), (1, (.int x1, 0))] [] M K := G.blk 60 _ hd ok_FN_lived rfl h
def bt_FN_mean : BtT := [(0, [0, 1, 2], true, [(0, .iload_n 1, 1, 0, 0, 0, m0),
   (1, .ifCond .lt 32, 3, 33, 0, 0, m0),
   (4, .nop, 0, 0, 0, 0, m0)]),
  (4, [], false, [(4, .iload_n 1, 1, 0, 0, 0, m0),
   (5, .sipush 9999, 3, 0, 0, 0, m0),
   (8, .if_icmp .gt 25, 3, 33, 0, 0, m0),
   (11, .nop, 0, 0, 0, 0, m0)]),
  (11, [], false, [(11, .iload_n 2, 1, 0, 0, 0, m0),
   (12, .iconst 1, 1, 0, 0, 0, m0),
   (13, .if_icmp .lt 20, 3, 33, 0, 0, m0),
   (16, .nop, 0, 0, 0, 0, m0)]),
  (16, [], false, [(16, .iload_n 2, 1, 0, 0, 0, m0),
   (17, .bipush 20, 2, 0, 0, 0, m0),
   (19, .if_icmp .gt 14, 3, 33, 0, 0, m0),
   (22, .nop, 0, 0, 0, 0, m0)]),
  (22, [], false, [(22, .iload_n 1, 1, 0, 0, 0, m0),
   (23, .iload_n 2, 1, 0, 0, 0, m0),
   (24, .iadd, 1, 0, 0, 0, m0),
   (25, .iconst 1, 1, 0, 0, 0, m0),
   (26, .isub, 1, 0, 0, 0, m0),
   (27, .sipush 9999, 3, 0, 0, 0, m0),
   (30, .if_icmp .le 9, 3, 39, 0, 0, m0),
   (33, .nop, 0, 0, 0, 0, m0)]),
  (33, [], false, [(33, .aload_n 0, 1, 0, 0, 0, m0),
   (34, .iconst 1, 1, 0, 0, 0, m0),
   (35, .invokevirtual 105, 3, 0, 0, 569, m_FN_deny),
   (38, .ireturn, 1, 0, 0, 0, m0)]),
  (39, [], false, [(39, .aload_n 0, 1, 0, 0, 0, m0),
   (40, .getfield 73, 3, 11, 10, 503, m0),
   (43, .getfield 387, 3, 8, 8, 366, m0),
   (46, .ifCond .ne 10, 3, 56, 0, 0, m0),
   (49, .nop, 0, 0, 0, 0, m0)]),
  (49, [], false, [(49, .aload_n 0, 1, 0, 0, 0, m0),
   (50, .bipush 6, 2, 0, 0, 0, m0),
   (52, .invokevirtual 105, 3, 0, 0, 569, m_FN_deny),
   (55, .ireturn, 1, 0, 0, 0, m0)]),
  (56, [], false, [(56, .lconst 0, 1, 0, 0, 0, m0),
   (57, .lstore_n 3, 1, 0, 0, 0, m0),
   (58, .iconst 0, 1, 0, 0, 0, m0),
   (59, .istore 5, 2, 0, 0, 0, m0),
   (61, .nop, 0, 0, 0, 0, m0)]),
  (61, [0, 1, 2, 3, 5], true, [(61, .iload 5, 2, 0, 0, 0, m0),
   (63, .iload_n 2, 1, 0, 0, 0, m0),
   (64, .if_icmp .ge 50, 3, 114, 0, 0, m0),
   (67, .nop, 0, 0, 0, 0, m0)]),
  (67, [], false, [(67, .aload_n 0, 1, 0, 0, 0, m0),
   (68, .getfield 60, 3, 8, 10, 500, m0),
   (71, .aload_n 0, 1, 0, 0, 0, m0),
   (72, .getfield 64, 3, 9, 10, 501, m0),
   (75, .invokevirtual 412, 3, 0, 0, 1405, m_Choir_takeFrom),
   (78, .aload_n 0, 1, 0, 0, 0, m0),
   (79, .getfield 54, 3, 7, 10, 499, m0),
   (82, .aload_n 0, 1, 0, 0, 0, m0),
   (83, .getfield 73, 3, 11, 10, 503, m0),
   (86, .aload_n 0, 1, 0, 0, 0, m0),
   (87, .getfield 60, 3, 8, 10, 500, m0),
   (90, .iload_n 1, 1, 0, 0, 0, m0),
   (91, .iload 5, 2, 0, 0, 0, m0),
   (93, .iadd, 1, 0, 0, 0, m0),
   (94, .invokevirtual 391, 3, 0, 0, 1355, m_Life_run),
   (97, .lload_n 3, 1, 0, 0, 0, m0),
   (98, .aload_n 0, 1, 0, 0, 0, m0),
   (99, .getfield 60, 3, 8, 10, 500, m0),
   (102, .invokevirtual 199, 3, 0, 0, 916, m_Choir_allOwed),
   (105, .i2l, 1, 0, 0, 0, m0),
   (106, .ladd, 1, 0, 0, 0, m0),
   (107, .lstore_n 3, 1, 0, 0, 0, m0),
   (108, .iinc 5 1, 3, 0, 0, 0, m0),
   (111, .goto (-50), 3, 61, 0, 0, m0)]),
  (114, [], false, [(114, .aload_n 0, 1, 0, 0, 0, m0),
   (115, .lload_n 3, 1, 0, 0, 0, m0),
   (116, .iload_n 2, 1, 0, 0, 0, m0),
   (117, .i2l, 1, 0, 0, 0, m0),
   (118, .invokevirtual 336, 3, 0, 0, 1216, m_FN_tellFraction),
   (121, .aload_n 0, 1, 0, 0, 0, m0),
   (122, .invokevirtual 112, 3, 0, 0, 580, m_FN_agree),
   (125, .ireturn, 1, 0, 0, 0, m0)])]
theorem ok_FN_mean : okBt m_FN_mean bt_FN_mean = true := by decide +kernel
set_option maxRecDepth 100000 in
theorem b_FN_mean_0 {l : Launch} {E : EnvT} {d : Nat} {K : AV → Mem → Prop} {M : Mem} {x1 : Int32} {x2 : Int32} (hd : 1 ≤ d)
  (h : ((x1 < 0 →
   CT l E (d - 1) m_FN_deny [(.ref 0, 0), (.int (iN 1), 0)] M (fun v1 M1 =>
    ((((toI v1) = 0 ∨ (toI v1) = 1)) ∧ K (.int (toI v1), 0) M1))) ∧
  (¬ x1 < 0 →
   (((iN 9999) < x1 →
    CT l E (d - 1) m_FN_deny [(.ref 0, 0), (.int (iN 1), 0)] M (fun v2 M2 =>
     ((((toI v2) = 0 ∨ (toI v2) = 1)) ∧ K (.int (toI v2), 0) M2))) ∧
   (¬ (iN 9999) < x1 →
    ((x2 < (iN 1) →
     CT l E (d - 1) m_FN_deny [(.ref 0, 0), (.int (iN 1), 0)] M (fun v3 M3 =>
      ((((toI v3) = 0 ∨ (toI v3) = 1)) ∧ K (.int (toI v3), 0) M3))) ∧
    (¬ x2 < (iN 1) →
     (((iN 20) < x2 →
      CT l E (d - 1) m_FN_deny [(.ref 0, 0), (.int (iN 1), 0)] M (fun v4 M4 =>
       ((((toI v4) = 0 ∨ (toI v4) = 1)) ∧ K (.int (toI v4), 0) M4))) ∧
     (¬ (iN 20) < x2 →
      ((((x1 + x2) - (iN 1)) ≤ (iN 9999) →
       (((M 0 0 11).toNat, 23) ∈ CL ∧ ((¬ (iN (M (M 0 0 11).toNat 0 8)) = 0 →
        G l E d m_FN_mean 61 [(0, (.ref 0, 0)), (1, (.int x1, 0)), (2, (.int x2, 0)), (3, (.long (lI 0), 0)), (5, (.int (iN 0), 0))] [] M K) ∧
       ((iN (M (M 0 0 11).toNat 0 8)) = 0 →
        CT l E (d - 1) m_FN_deny [(.ref 0, 0), (.int (iN 6), 0)] M (fun v5 M5 =>
         ((((toI v5) = 0 ∨ (toI v5) = 1)) ∧ K (.int (toI v5), 0) M5)))))) ∧
      (¬ ((x1 + x2) - (iN 1)) ≤ (iN 9999) →
       CT l E (d - 1) m_FN_deny [(.ref 0, 0), (.int (iN 1), 0)] M (fun v6 M6 =>
        ((((toI v6) = 0 ∨ (toI v6) = 1)) ∧ K (.int (toI v6), 0) M6))))))))))))) :
  G l E d m_FN_mean 0 [(0, (.ref 0, 0)), (1, (.int x1, 0)), (2, (.int x2, 0))] [] M K := G.blk 60 _ hd ok_FN_mean rfl h
set_option maxRecDepth 100000 in
theorem b_FN_mean_61 {l : Launch} {E : EnvT} {d : Nat} {K : AV → Mem → Prop} {M : Mem} {x1 : Int32} {x2 : Int32} {x3 : Int64} {x5 : Int32} (hd : 1 ≤ d)
  (h : ((x2 ≤ x5 →
   CT l E (d - 1) m_FN_tellFraction [(.ref 0, 0), (.long x3, 0), (.long (x2).toInt64, 0)] M (fun v1 M1 =>
    CT l E (d - 1) m_FN_agree [(.ref 0, 0)] M1 (fun v2 M2 =>
     ((((toI v2) = 0 ∨ (toI v2) = 1)) ∧ K (.int (toI v2), 0) M2)))) ∧
  (¬ x2 ≤ x5 →
   (((M 0 0 9).toNat, 11) ∈ CL ∧ CT l E (d - 1) m_Choir_takeFrom [(.ref 15, 11), (.ref (M 0 0 9).toNat, 11)] M (fun v3 M3 =>
    (((M3 0 0 11).toNat, 23) ∈ CL ∧ CT l E (d - 1) m_Life_run [(.ref 14, 37), (.ref (M3 0 0 11).toNat, 23), (.ref 15, 11), (.int (x1 + x5), 0)] M3 (fun v4 M4 =>
     CT l E (d - 1) m_Choir_allOwed [(.ref 15, 11)] M4 (fun v5 M5 =>
      G l E d m_FN_mean 61 [(0, (.ref 0, 0)), (1, (.int x1, 0)), (2, (.int x2, 0)), (3, (.long (x3 + ((toI v5)).toInt64), 0)), (5, (.int (x5 + iN 1), 0))] [] M5 K)))))))) :
  G l E d m_FN_mean 61 [(0, (.ref 0, 0)), (1, (.int x1, 0)), (2, (.int x2, 0)), (3, (.long x3, 0)), (5, (.int x5, 0))] [] M K := G.blk 60 _ hd ok_FN_mean rfl h
def bt_FN_mark : BtT := [(0, [0], true, [(0, .aload_n 0, 1, 0, 0, 0, m0),
   (1, .getfield 36, 3, 4, 10, 496, m0),
   (4, .getfield 415, 3, 2, 3, 389, m0),
   (7, .iconst 3, 1, 0, 0, 0, m0),
   (8, .if_icmp .lt 9, 3, 17, 0, 0, m0),
   (11, .nop, 0, 0, 0, 0, m0)]),
  (11, [], false, [(11, .aload_n 0, 1, 0, 0, 0, m0),
   (12, .iconst 4, 1, 0, 0, 0, m0),
   (13, .invokevirtual 124, 3, 0, 0, 608, m_FN_refuse),
   (16, .ireturn, 1, 0, 0, 0, m0)]),
  (17, [], false, [(17, .aload_n 0, 1, 0, 0, 0, m0),
   (18, .getfield 36, 3, 4, 10, 496, m0),
   (21, .aload_n 0, 1, 0, 0, 0, m0),
   (22, .getfield 64, 3, 9, 10, 501, m0),
   (25, .aload_n 0, 1, 0, 0, 0, m0),
   (26, .getfield 73, 3, 11, 10, 503, m0),
   (29, .invokevirtual 418, 3, 0, 0, 1419, m_Marks_keep),
   (32, .aload_n 0, 1, 0, 0, 0, m0),
   (33, .aload_n 0, 1, 0, 0, 0, m0),
   (34, .getfield 36, 3, 4, 10, 496, m0),
   (37, .getfield 415, 3, 2, 3, 389, m0),
   (40, .invokevirtual 170, 3, 0, 0, 835, m_FN_answer),
   (43, .ireturn, 1, 0, 0, 0, m0)])]
theorem ok_FN_mark : okBt m_FN_mark bt_FN_mark = true := by decide +kernel
set_option maxRecDepth 100000 in
theorem b_FN_mark_0 {l : Launch} {E : EnvT} {d : Nat} {K : AV → Mem → Prop} {M : Mem}  (hd : 1 ≤ d)
  (h : (((iN (M 5 0 2)) < (iN 3) →
   (((M 0 0 9).toNat, 11) ∈ CL ∧ ((M 0 0 11).toNat, 23) ∈ CL ∧ CT l E (d - 1) m_Marks_keep [(.ref 5, 8), (.ref (M 0 0 9).toNat, 11), (.ref (M 0 0 11).toNat, 23)] M (fun v1 M1 =>
    CT l E (d - 1) m_FN_answer [(.ref 0, 0), (.int (iN (M1 5 0 2)), 0)] M1 (fun v2 M2 =>
     K (.int (toI v2), 0) M2)))) ∧
  (¬ (iN (M 5 0 2)) < (iN 3) →
   CT l E (d - 1) m_FN_refuse [(.ref 0, 0), (.int (iN 4), 0)] M (fun v3 M3 =>
    K (.int (toI v3), 0) M3)))) :
  G l E d m_FN_mark 0 [(0, (.ref 0, 0))] [] M K := G.blk 60 _ hd ok_FN_mark rfl h
def bt_FN_undo : BtT := [(0, [0], true, [(0, .aload_n 0, 1, 0, 0, 0, m0),
   (1, .getfield 36, 3, 4, 10, 496, m0),
   (4, .getfield 415, 3, 2, 3, 389, m0),
   (7, .ifCond .ne 10, 3, 17, 0, 0, m0),
   (10, .nop, 0, 0, 0, 0, m0)]),
  (10, [], false, [(10, .aload_n 0, 1, 0, 0, 0, m0),
   (11, .bipush 6, 2, 0, 0, 0, m0),
   (13, .invokevirtual 124, 3, 0, 0, 608, m_FN_refuse),
   (16, .ireturn, 1, 0, 0, 0, m0)]),
  (17, [], false, [(17, .aload_n 0, 1, 0, 0, 0, m0),
   (18, .getfield 36, 3, 4, 10, 496, m0),
   (21, .aload_n 0, 1, 0, 0, 0, m0),
   (22, .getfield 64, 3, 9, 10, 501, m0),
   (25, .aload_n 0, 1, 0, 0, 0, m0),
   (26, .getfield 73, 3, 11, 10, 503, m0),
   (29, .invokevirtual 422, 3, 0, 0, 1433, m_Marks_giveBack),
   (32, .aload_n 0, 1, 0, 0, 0, m0),
   (33, .aload_n 0, 1, 0, 0, 0, m0),
   (34, .getfield 36, 3, 4, 10, 496, m0),
   (37, .getfield 415, 3, 2, 3, 389, m0),
   (40, .invokevirtual 170, 3, 0, 0, 835, m_FN_answer),
   (43, .ireturn, 1, 0, 0, 0, m0)])]
theorem ok_FN_undo : okBt m_FN_undo bt_FN_undo = true := by decide +kernel
set_option maxRecDepth 100000 in
theorem b_FN_undo_0 {l : Launch} {E : EnvT} {d : Nat} {K : AV → Mem → Prop} {M : Mem}  (hd : 1 ≤ d)
  (h : ((¬ (iN (M 5 0 2)) = 0 →
   (((M 0 0 9).toNat, 11) ∈ CL ∧ ((M 0 0 11).toNat, 23) ∈ CL ∧ CT l E (d - 1) m_Marks_giveBack [(.ref 5, 8), (.ref (M 0 0 9).toNat, 11), (.ref (M 0 0 11).toNat, 23)] M (fun v1 M1 =>
    CT l E (d - 1) m_FN_answer [(.ref 0, 0), (.int (iN (M1 5 0 2)), 0)] M1 (fun v2 M2 =>
     K (.int (toI v2), 0) M2)))) ∧
  ((iN (M 5 0 2)) = 0 →
   CT l E (d - 1) m_FN_refuse [(.ref 0, 0), (.int (iN 6), 0)] M (fun v3 M3 =>
    K (.int (toI v3), 0) M3)))) :
  G l E d m_FN_undo 0 [(0, (.ref 0, 0))] [] M K := G.blk 60 _ hd ok_FN_undo rfl h
