def bt_Marks_keep : BtT := [(0, [0, 1, 2], true, [(0, .aload_n 0, 1, 0, 0, 0, m0),
   (1, .getfield 11, 3, 0, 3, 386, m0),
   (4, .aload_n 0, 1, 0, 0, 0, m0),
   (5, .getfield 21, 3, 2, 3, 388, m0),
   (8, .aaload, 1, 0, 0, 0, m0),
   (9, .aload_n 1, 1, 0, 0, 0, m0),
   (10, .invokevirtual 27, 3, 0, 0, 1423, m_Choir_takeFrom),
   (13, .aload_n 0, 1, 0, 0, 0, m0),
   (14, .getfield 17, 3, 1, 3, 387, m0),
   (17, .aload_n 0, 1, 0, 0, 0, m0),
   (18, .getfield 21, 3, 2, 3, 388, m0),
   (21, .aaload, 1, 0, 0, 0, m0),
   (22, .aload_n 2, 1, 0, 0, 0, m0),
   (23, .invokevirtual 31, 3, 0, 0, 1424, m_Years_takeFrom),
   (26, .aload_n 0, 1, 0, 0, 0, m0),
   (27, .dup, 1, 0, 0, 0, m0),
   (28, .getfield 21, 3, 2, 3, 388, m0),
   (31, .iconst 1, 1, 0, 0, 0, m0),
   (32, .iadd, 1, 0, 0, 0, m0),
   (33, .putfield 21, 3, 2, 3, 388, m0),
   (36, .return_, 1, 0, 0, 0, m0)])]
theorem ok_Marks_keep : okBt m_Marks_keep bt_Marks_keep = true := by decide +kernel
set_option maxRecDepth 100000 in
theorem b_Marks_keep_0 {l : Launch} {E : EnvT} {d : Nat} {K : AV → Mem → Prop} {M : Mem} {r2 r3 : Nat}  (hd : 1 ≤ d)
  (h : (vp_in (iN (M 5 0 2)) 3 ∧ CT l E (d - 1) m_Choir_takeFrom [(.ref ([(6, 11), (8, 11), (10, 11)].getD ((iN (M 5 0 2))).toNatClampNeg (0, 0)).1, 11), (.ref r2, 11)] M (fun v1 M1 =>
   (vp_in (iN (M1 5 0 2)) 3 ∧ CT l E (d - 1) m_Years_takeFrom [(.ref ([(7, 23), (9, 23), (11, 23)].getD ((iN (M1 5 0 2))).toNatClampNeg (0, 0)).1, 23), (.ref r3, 23)] M1 (fun v2 M2 =>
    K (.null, 0) (upd3 M2 5 0 2 (((iN (M2 5 0 2)) + (iN 1))).toInt)))))) :
  G l E d m_Marks_keep 0 [(0, (.ref 5, 8)), (1, (.ref r2, 11)), (2, (.ref r3, 23))] [] M K := G.blk 60 _ hd ok_Marks_keep rfl h
def bt_Marks_giveBack : BtT := [(0, [0, 1, 2], true, [(0, .aload_n 0, 1, 0, 0, 0, m0),
   (1, .dup, 1, 0, 0, 0, m0),
   (2, .getfield 21, 3, 2, 3, 388, m0),
   (5, .iconst 1, 1, 0, 0, 0, m0),
   (6, .isub, 1, 0, 0, 0, m0),
   (7, .putfield 21, 3, 2, 3, 388, m0),
   (10, .aload_n 1, 1, 0, 0, 0, m0),
   (11, .aload_n 0, 1, 0, 0, 0, m0),
   (12, .getfield 11, 3, 0, 3, 386, m0),
   (15, .aload_n 0, 1, 0, 0, 0, m0),
   (16, .getfield 21, 3, 2, 3, 388, m0),
   (19, .aaload, 1, 0, 0, 0, m0),
   (20, .invokevirtual 27, 3, 0, 0, 1423, m_Choir_takeFrom),
   (23, .aload_n 2, 1, 0, 0, 0, m0),
   (24, .aload_n 0, 1, 0, 0, 0, m0),
   (25, .getfield 17, 3, 1, 3, 387, m0),
   (28, .aload_n 0, 1, 0, 0, 0, m0),
   (29, .getfield 21, 3, 2, 3, 388, m0),
   (32, .aaload, 1, 0, 0, 0, m0),
   (33, .invokevirtual 31, 3, 0, 0, 1424, m_Years_takeFrom),
   (36, .return_, 1, 0, 0, 0, m0)])]
theorem ok_Marks_giveBack : okBt m_Marks_giveBack bt_Marks_giveBack = true := by decide +kernel
set_option maxRecDepth 100000 in
theorem b_Marks_giveBack_0 {l : Launch} {E : EnvT} {d : Nat} {K : AV → Mem → Prop} {M : Mem} {r2 r3 : Nat}  (hd : 1 ≤ d)
  (h : (vp_in (iN ((upd3 M 5 0 2 (((iN (M 5 0 2)) - (iN 1))).toInt) 5 0 2)) 3 ∧ CT l E (d - 1) m_Choir_takeFrom [(.ref r2, 11), (.ref ([(6, 11), (8, 11), (10, 11)].getD ((iN ((upd3 M 5 0 2 (((iN (M 5 0 2)) - (iN 1))).toInt) 5 0 2))).toNatClampNeg (0, 0)).1, 11)] (upd3 M 5 0 2 (((iN (M 5 0 2)) - (iN 1))).toInt) (fun v1 M1 =>
   (vp_in (iN (M1 5 0 2)) 3 ∧ CT l E (d - 1) m_Years_takeFrom [(.ref r3, 23), (.ref ([(7, 23), (9, 23), (11, 23)].getD ((iN (M1 5 0 2))).toNatClampNeg (0, 0)).1, 23)] M1 (fun v2 M2 =>
    K (.null, 0) M2))))) :
  G l E d m_Marks_giveBack 0 [(0, (.ref 5, 8)), (1, (.ref r2, 11)), (2, (.ref r3, 23))] [] M K := G.blk 60 _ hd ok_Marks_giveBack rfl h
