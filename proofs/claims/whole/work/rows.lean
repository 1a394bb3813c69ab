section
-- ===== PART A: goes FIRST, ahead of the names: the tables' words, and 'selects' of the private methods out of them =====
/-- a private method of a class that the tables say can be made, by its rows of tables_1 -/
def lw_okq (q : MethodName × Nat) : Prop := (q.1.cls ≠ "java/lang/invoke/MethodHandle" ∧ q.1.cls ≠ "java/lang/invoke/VarHandle") ∧ Cond.instantiable q.1.cls q.2 ∈ tables_1 ∧ Cond.privateMethod q.1 ∈ tables_1 ∧ Cond.instanceMethod q.1 ∈ tables_1
theorem lw_p0 : lw_okq (⟨"FalseNotes", "deny", "(I)Z"⟩, 19) := ⟨⟨by decide +kernel, by decide +kernel⟩, List.mem_of_getElem? (i := 22) (by decide +kernel), List.mem_of_getElem? (i := 467) (by decide +kernel), List.mem_of_getElem? (i := 468) (by decide +kernel)⟩
theorem lw_p1 : lw_okq (⟨"FalseNotes", "agree", "()Z"⟩, 19) := ⟨⟨by decide +kernel, by decide +kernel⟩, List.mem_of_getElem? (i := 22) (by decide +kernel), List.mem_of_getElem? (i := 478) (by decide +kernel), List.mem_of_getElem? (i := 479) (by decide +kernel)⟩
theorem lw_p2 : lw_okq (⟨"FalseNotes", "cellStatus", "(II)I"⟩, 19) := ⟨⟨by decide +kernel, by decide +kernel⟩, List.mem_of_getElem? (i := 22) (by decide +kernel), List.mem_of_getElem? (i := 486) (by decide +kernel), List.mem_of_getElem? (i := 487) (by decide +kernel)⟩
theorem lw_p3 : lw_okq (⟨"FalseNotes", "refuse", "(I)I"⟩, 19) := ⟨⟨by decide +kernel, by decide +kernel⟩, List.mem_of_getElem? (i := 22) (by decide +kernel), List.mem_of_getElem? (i := 506) (by decide +kernel), List.mem_of_getElem? (i := 507) (by decide +kernel)⟩
theorem lw_p4 : lw_okq (⟨"FalseNotes", "spool", "(I)V"⟩, 19) := ⟨⟨by decide +kernel, by decide +kernel⟩, List.mem_of_getElem? (i := 22) (by decide +kernel), List.mem_of_getElem? (i := 525) (by decide +kernel), List.mem_of_getElem? (i := 526) (by decide +kernel)⟩
theorem lw_p5 : lw_okq (⟨"FalseNotes", "noteFault", "(LFalseNotes$Tokens;)V"⟩, 19) := ⟨⟨by decide +kernel, by decide +kernel⟩, List.mem_of_getElem? (i := 22) (by decide +kernel), List.mem_of_getElem? (i := 725) (by decide +kernel), List.mem_of_getElem? (i := 726) (by decide +kernel)⟩
theorem lw_p6 : lw_okq (⟨"FalseNotes", "answer", "(I)I"⟩, 19) := ⟨⟨by decide +kernel, by decide +kernel⟩, List.mem_of_getElem? (i := 22) (by decide +kernel), List.mem_of_getElem? (i := 733) (by decide +kernel), List.mem_of_getElem? (i := 734) (by decide +kernel)⟩
theorem lw_p7 : lw_okq (⟨"FalseNotes", "answerOr", "(II)I"⟩, 19) := ⟨⟨by decide +kernel, by decide +kernel⟩, List.mem_of_getElem? (i := 22) (by decide +kernel), List.mem_of_getElem? (i := 852) (by decide +kernel), List.mem_of_getElem? (i := 853) (by decide +kernel)⟩
theorem lw_p8 : lw_okq (⟨"FalseNotes", "lineTrayStatus", "(II)I"⟩, 19) := ⟨⟨by decide +kernel, by decide +kernel⟩, List.mem_of_getElem? (i := 22) (by decide +kernel), List.mem_of_getElem? (i := 909) (by decide +kernel), List.mem_of_getElem? (i := 910) (by decide +kernel)⟩
theorem lw_p9 : lw_okq (⟨"FalseNotes", "firstWithMost", "(I)I"⟩, 19) := ⟨⟨by decide +kernel, by decide +kernel⟩, List.mem_of_getElem? (i := 22) (by decide +kernel), List.mem_of_getElem? (i := 1094) (by decide +kernel), List.mem_of_getElem? (i := 1095) (by decide +kernel)⟩
theorem lw_p10 : lw_okq (⟨"FalseNotes", "measured", "(II)I"⟩, 19) := ⟨⟨by decide +kernel, by decide +kernel⟩, List.mem_of_getElem? (i := 22) (by decide +kernel), List.mem_of_getElem? (i := 1098) (by decide +kernel), List.mem_of_getElem? (i := 1099) (by decide +kernel)⟩
theorem lw_p11 : lw_okq (⟨"FalseNotes", "tellFraction", "(JJ)V"⟩, 19) := ⟨⟨by decide +kernel, by decide +kernel⟩, List.mem_of_getElem? (i := 22) (by decide +kernel), List.mem_of_getElem? (i := 1114) (by decide +kernel), List.mem_of_getElem? (i := 1115) (by decide +kernel)⟩
theorem lw_p12 : lw_okq (⟨"FalseNotes", "heardStatus", "(II)I"⟩, 19) := ⟨⟨by decide +kernel, by decide +kernel⟩, List.mem_of_getElem? (i := 22) (by decide +kernel), List.mem_of_getElem? (i := 1202) (by decide +kernel), List.mem_of_getElem? (i := 1203) (by decide +kernel)⟩
theorem lw_p13 : lw_okq (⟨"FalseNotes", "offAt", "(III)I"⟩, 19) := ⟨⟨by decide +kernel, by decide +kernel⟩, List.mem_of_getElem? (i := 22) (by decide +kernel), List.mem_of_getElem? (i := 1208) (by decide +kernel), List.mem_of_getElem? (i := 1209) (by decide +kernel)⟩
theorem lw_p14 : lw_okq (⟨"FalseNotesModel", "plain", "(I)V"⟩, 34) := ⟨⟨by decide +kernel, by decide +kernel⟩, List.mem_of_getElem? (i := 1335) (by decide +kernel), List.mem_of_getElem? (i := 1341) (by decide +kernel), List.mem_of_getElem? (i := 1342) (by decide +kernel)⟩
theorem lw_p15 : lw_okq (⟨"FalseNotesModel", "is", "(I)Z"⟩, 34) := ⟨⟨by decide +kernel, by decide +kernel⟩, List.mem_of_getElem? (i := 1335) (by decide +kernel), List.mem_of_getElem? (i := 1467) (by decide +kernel), List.mem_of_getElem? (i := 1468) (by decide +kernel)⟩
def lw_privs_1 : List (MethodName × Nat) := [(⟨"FalseNotes", "deny", "(I)Z"⟩, 19), (⟨"FalseNotes", "agree", "()Z"⟩, 19), (⟨"FalseNotes", "cellStatus", "(II)I"⟩, 19), (⟨"FalseNotes", "refuse", "(I)I"⟩, 19), (⟨"FalseNotes", "spool", "(I)V"⟩, 19), (⟨"FalseNotes", "noteFault", "(LFalseNotes$Tokens;)V"⟩, 19), (⟨"FalseNotes", "answer", "(I)I"⟩, 19), (⟨"FalseNotes", "answerOr", "(II)I"⟩, 19), (⟨"FalseNotes", "lineTrayStatus", "(II)I"⟩, 19), (⟨"FalseNotes", "firstWithMost", "(I)I"⟩, 19), (⟨"FalseNotes", "measured", "(II)I"⟩, 19), (⟨"FalseNotes", "tellFraction", "(JJ)V"⟩, 19), (⟨"FalseNotes", "heardStatus", "(II)I"⟩, 19), (⟨"FalseNotes", "offAt", "(III)I"⟩, 19), (⟨"FalseNotesModel", "plain", "(I)V"⟩, 34), (⟨"FalseNotesModel", "is", "(I)Z"⟩, 34)]
theorem lw_r1 : ∀ q ∈ lw_privs_1, lw_okq q := List.forall_mem_cons.mpr ⟨lw_p0, List.forall_mem_cons.mpr ⟨lw_p1, List.forall_mem_cons.mpr ⟨lw_p2, List.forall_mem_cons.mpr ⟨lw_p3, List.forall_mem_cons.mpr ⟨lw_p4, List.forall_mem_cons.mpr ⟨lw_p5, List.forall_mem_cons.mpr ⟨lw_p6, List.forall_mem_cons.mpr ⟨lw_p7, List.forall_mem_cons.mpr ⟨lw_p8, List.forall_mem_cons.mpr ⟨lw_p9, List.forall_mem_cons.mpr ⟨lw_p10, List.forall_mem_cons.mpr ⟨lw_p11, List.forall_mem_cons.mpr ⟨lw_p12, List.forall_mem_cons.mpr ⟨lw_p13, List.forall_mem_cons.mpr ⟨lw_p14, List.forall_mem_cons.mpr ⟨lw_p15, fun _ h => absurd h List.not_mem_nil⟩⟩⟩⟩⟩⟩⟩⟩⟩⟩⟩⟩⟩⟩⟩⟩
theorem lw_p16 : lw_okq (⟨"FalseNotesModel", "wrongPlace", "(II)I"⟩, 34) := ⟨⟨by decide +kernel, by decide +kernel⟩, List.mem_of_getElem? (i := 1335) (by decide +kernel), List.mem_of_getElem? (i := 1475) (by decide +kernel), List.mem_of_getElem? (i := 1476) (by decide +kernel)⟩
theorem lw_p17 : lw_okq (⟨"FalseNotesModel", "four", "(I)V"⟩, 34) := ⟨⟨by decide +kernel, by decide +kernel⟩, List.mem_of_getElem? (i := 1335) (by decide +kernel), List.mem_of_getElem? (i := 1495) (by decide +kernel), List.mem_of_getElem? (i := 1496) (by decide +kernel)⟩
theorem lw_p18 : lw_okq (⟨"FalseNotesModel", "begins", "(II)Z"⟩, 34) := ⟨⟨by decide +kernel, by decide +kernel⟩, List.mem_of_getElem? (i := 1335) (by decide +kernel), List.mem_of_getElem? (i := 1507) (by decide +kernel), List.mem_of_getElem? (i := 1508) (by decide +kernel)⟩
theorem lw_p19 : lw_okq (⟨"FalseNotesModel", "ahead", "()V"⟩, 34) := ⟨⟨by decide +kernel, by decide +kernel⟩, List.mem_of_getElem? (i := 1335) (by decide +kernel), List.mem_of_getElem? (i := 1511) (by decide +kernel), List.mem_of_getElem? (i := 1512) (by decide +kernel)⟩
theorem lw_p20 : lw_okq (⟨"FalseNotesModel", "byteAt", "(I)I"⟩, 34) := ⟨⟨by decide +kernel, by decide +kernel⟩, List.mem_of_getElem? (i := 1335) (by decide +kernel), List.mem_of_getElem? (i := 1515) (by decide +kernel), List.mem_of_getElem? (i := 1516) (by decide +kernel)⟩
theorem lw_p21 : lw_okq (⟨"FalseNotesModel", "refuse", "(I)I"⟩, 34) := ⟨⟨by decide +kernel, by decide +kernel⟩, List.mem_of_getElem? (i := 1335) (by decide +kernel), List.mem_of_getElem? (i := 1527) (by decide +kernel), List.mem_of_getElem? (i := 1528) (by decide +kernel)⟩
theorem lw_p22 : lw_okq (⟨"FalseNotesModel", "choirPart", "()Z"⟩, 34) := ⟨⟨by decide +kernel, by decide +kernel⟩, List.mem_of_getElem? (i := 1335) (by decide +kernel), List.mem_of_getElem? (i := 1531) (by decide +kernel), List.mem_of_getElem? (i := 1532) (by decide +kernel)⟩
theorem lw_p23 : lw_okq (⟨"FalseNotesModel", "inWords", "(Ljava/lang/String;)I"⟩, 34) := ⟨⟨by decide +kernel, by decide +kernel⟩, List.mem_of_getElem? (i := 1335) (by decide +kernel), List.mem_of_getElem? (i := 1536) (by decide +kernel), List.mem_of_getElem? (i := 1537) (by decide +kernel)⟩
theorem lw_p24 : lw_okq (⟨"FalseNotesModel", "aSinger", "()Z"⟩, 34) := ⟨⟨by decide +kernel, by decide +kernel⟩, List.mem_of_getElem? (i := 1335) (by decide +kernel), List.mem_of_getElem? (i := 1542) (by decide +kernel), List.mem_of_getElem? (i := 1543) (by decide +kernel)⟩
theorem lw_p25 : lw_okq (⟨"FalseNotesModel", "fails", "(I)Z"⟩, 34) := ⟨⟨by decide +kernel, by decide +kernel⟩, List.mem_of_getElem? (i := 1335) (by decide +kernel), List.mem_of_getElem? (i := 1549) (by decide +kernel), List.mem_of_getElem? (i := 1550) (by decide +kernel)⟩
theorem lw_p26 : lw_okq (⟨"FalseNotesModel", "isName", "(Ljava/lang/String;)Z"⟩, 34) := ⟨⟨by decide +kernel, by decide +kernel⟩, List.mem_of_getElem? (i := 1335) (by decide +kernel), List.mem_of_getElem? (i := 1553) (by decide +kernel), List.mem_of_getElem? (i := 1554) (by decide +kernel)⟩
theorem lw_p27 : lw_okq (⟨"FalseNotesModel", "findHere", "(II)I"⟩, 34) := ⟨⟨by decide +kernel, by decide +kernel⟩, List.mem_of_getElem? (i := 1335) (by decide +kernel), List.mem_of_getElem? (i := 1557) (by decide +kernel), List.mem_of_getElem? (i := 1558) (by decide +kernel)⟩
theorem lw_p28 : lw_okq (⟨"FalseNotesModel", "nameHere", "()J"⟩, 34) := ⟨⟨by decide +kernel, by decide +kernel⟩, List.mem_of_getElem? (i := 1335) (by decide +kernel), List.mem_of_getElem? (i := 1561) (by decide +kernel), List.mem_of_getElem? (i := 1562) (by decide +kernel)⟩
theorem lw_p29 : lw_okq (⟨"FalseNotesModel", "wantWord", "(Ljava/lang/String;I)Z"⟩, 34) := ⟨⟨by decide +kernel, by decide +kernel⟩, List.mem_of_getElem? (i := 1335) (by decide +kernel), List.mem_of_getElem? (i := 1565) (by decide +kernel), List.mem_of_getElem? (i := 1566) (by decide +kernel)⟩
theorem lw_p30 : lw_okq (⟨"FalseNotesModel", "number", "(III)Z"⟩, 34) := ⟨⟨by decide +kernel, by decide +kernel⟩, List.mem_of_getElem? (i := 1335) (by decide +kernel), List.mem_of_getElem? (i := 1569) (by decide +kernel), List.mem_of_getElem? (i := 1570) (by decide +kernel)⟩
theorem lw_p31 : lw_okq (⟨"FalseNotesModel", "isThere", "(I)Z"⟩, 34) := ⟨⟨by decide +kernel, by decide +kernel⟩, List.mem_of_getElem? (i := 1335) (by decide +kernel), List.mem_of_getElem? (i := 1573) (by decide +kernel), List.mem_of_getElem? (i := 1574) (by decide +kernel)⟩
def lw_privs_2 : List (MethodName × Nat) := [(⟨"FalseNotesModel", "wrongPlace", "(II)I"⟩, 34), (⟨"FalseNotesModel", "four", "(I)V"⟩, 34), (⟨"FalseNotesModel", "begins", "(II)Z"⟩, 34), (⟨"FalseNotesModel", "ahead", "()V"⟩, 34), (⟨"FalseNotesModel", "byteAt", "(I)I"⟩, 34), (⟨"FalseNotesModel", "refuse", "(I)I"⟩, 34), (⟨"FalseNotesModel", "choirPart", "()Z"⟩, 34), (⟨"FalseNotesModel", "inWords", "(Ljava/lang/String;)I"⟩, 34), (⟨"FalseNotesModel", "aSinger", "()Z"⟩, 34), (⟨"FalseNotesModel", "fails", "(I)Z"⟩, 34), (⟨"FalseNotesModel", "isName", "(Ljava/lang/String;)Z"⟩, 34), (⟨"FalseNotesModel", "findHere", "(II)I"⟩, 34), (⟨"FalseNotesModel", "nameHere", "()J"⟩, 34), (⟨"FalseNotesModel", "wantWord", "(Ljava/lang/String;I)Z"⟩, 34), (⟨"FalseNotesModel", "number", "(III)Z"⟩, 34), (⟨"FalseNotesModel", "isThere", "(I)Z"⟩, 34)]
theorem lw_r2 : ∀ q ∈ lw_privs_2, lw_okq q := List.forall_mem_cons.mpr ⟨lw_p16, List.forall_mem_cons.mpr ⟨lw_p17, List.forall_mem_cons.mpr ⟨lw_p18, List.forall_mem_cons.mpr ⟨lw_p19, List.forall_mem_cons.mpr ⟨lw_p20, List.forall_mem_cons.mpr ⟨lw_p21, List.forall_mem_cons.mpr ⟨lw_p22, List.forall_mem_cons.mpr ⟨lw_p23, List.forall_mem_cons.mpr ⟨lw_p24, List.forall_mem_cons.mpr ⟨lw_p25, List.forall_mem_cons.mpr ⟨lw_p26, List.forall_mem_cons.mpr ⟨lw_p27, List.forall_mem_cons.mpr ⟨lw_p28, List.forall_mem_cons.mpr ⟨lw_p29, List.forall_mem_cons.mpr ⟨lw_p30, List.forall_mem_cons.mpr ⟨lw_p31, fun _ h => absurd h List.not_mem_nil⟩⟩⟩⟩⟩⟩⟩⟩⟩⟩⟩⟩⟩⟩⟩⟩
theorem lw_p32 : lw_okq (⟨"FalseNotesModel", "aLine", "(I)Z"⟩, 34) := ⟨⟨by decide +kernel, by decide +kernel⟩, List.mem_of_getElem? (i := 1335) (by decide +kernel), List.mem_of_getElem? (i := 1577) (by decide +kernel), List.mem_of_getElem? (i := 1578) (by decide +kernel)⟩
theorem lw_p33 : lw_okq (⟨"FalseNotesModel", "aDebt", "()Z"⟩, 34) := ⟨⟨by decide +kernel, by decide +kernel⟩, List.mem_of_getElem? (i := 1335) (by decide +kernel), List.mem_of_getElem? (i := 1585) (by decide +kernel), List.mem_of_getElem? (i := 1586) (by decide +kernel)⟩
theorem lw_p34 : lw_okq (⟨"FalseNotesModel", "twoTo", "()Z"⟩, 34) := ⟨⟨by decide +kernel, by decide +kernel⟩, List.mem_of_getElem? (i := 1335) (by decide +kernel), List.mem_of_getElem? (i := 1589) (by decide +kernel), List.mem_of_getElem? (i := 1590) (by decide +kernel)⟩
theorem lw_p35 : lw_okq (⟨"FalseNotesModel", "oldOne", "(III)Z"⟩, 34) := ⟨⟨by decide +kernel, by decide +kernel⟩, List.mem_of_getElem? (i := 1335) (by decide +kernel), List.mem_of_getElem? (i := 1593) (by decide +kernel), List.mem_of_getElem? (i := 1594) (by decide +kernel)⟩
theorem lw_p36 : lw_okq (⟨"FalseNotesModel", "books", "(III)Z"⟩, 34) := ⟨⟨by decide +kernel, by decide +kernel⟩, List.mem_of_getElem? (i := 1335) (by decide +kernel), List.mem_of_getElem? (i := 1598) (by decide +kernel), List.mem_of_getElem? (i := 1599) (by decide +kernel)⟩
theorem lw_p37 : lw_okq (⟨"FalseNotesModel", "noteOf", "(II)I"⟩, 34) := ⟨⟨by decide +kernel, by decide +kernel⟩, List.mem_of_getElem? (i := 1335) (by decide +kernel), List.mem_of_getElem? (i := 1602) (by decide +kernel), List.mem_of_getElem? (i := 1603) (by decide +kernel)⟩
theorem lw_p38 : lw_okq (⟨"FalseNotesModel", "of", "(II)I"⟩, 34) := ⟨⟨by decide +kernel, by decide +kernel⟩, List.mem_of_getElem? (i := 1335) (by decide +kernel), List.mem_of_getElem? (i := 1606) (by decide +kernel), List.mem_of_getElem? (i := 1607) (by decide +kernel)⟩
theorem lw_p39 : lw_okq (⟨"FalseNotesModel", "holderOf", "(II)I"⟩, 34) := ⟨⟨by decide +kernel, by decide +kernel⟩, List.mem_of_getElem? (i := 1335) (by decide +kernel), List.mem_of_getElem? (i := 1610) (by decide +kernel), List.mem_of_getElem? (i := 1611) (by decide +kernel)⟩
theorem lw_p40 : lw_okq (⟨"FalseNotesModel", "debtAt", "(II)I"⟩, 34) := ⟨⟨by decide +kernel, by decide +kernel⟩, List.mem_of_getElem? (i := 1335) (by decide +kernel), List.mem_of_getElem? (i := 1614) (by decide +kernel), List.mem_of_getElem? (i := 1615) (by decide +kernel)⟩
theorem lw_p41 : lw_okq (⟨"FalseNotesModel", "stands", "(IIII)V"⟩, 34) := ⟨⟨by decide +kernel, by decide +kernel⟩, List.mem_of_getElem? (i := 1335) (by decide +kernel), List.mem_of_getElem? (i := 1618) (by decide +kernel), List.mem_of_getElem? (i := 1619) (by decide +kernel)⟩
theorem lw_p42 : lw_okq (⟨"FalseNotesModel", "waiterOf", "(II)I"⟩, 34) := ⟨⟨by decide +kernel, by decide +kernel⟩, List.mem_of_getElem? (i := 1335) (by decide +kernel), List.mem_of_getElem? (i := 1622) (by decide +kernel), List.mem_of_getElem? (i := 1623) (by decide +kernel)⟩
theorem lw_p43 : lw_okq (⟨"FalseNotesModel", "wantSign", "(I)Z"⟩, 34) := ⟨⟨by decide +kernel, by decide +kernel⟩, List.mem_of_getElem? (i := 1335) (by decide +kernel), List.mem_of_getElem? (i := 1626) (by decide +kernel), List.mem_of_getElem? (i := 1627) (by decide +kernel)⟩
theorem lw_p44 : lw_okq (⟨"FalseNotesModel", "isSign", "(I)Z"⟩, 34) := ⟨⟨by decide +kernel, by decide +kernel⟩, List.mem_of_getElem? (i := 1335) (by decide +kernel), List.mem_of_getElem? (i := 1630) (by decide +kernel), List.mem_of_getElem? (i := 1631) (by decide +kernel)⟩
theorem lw_p45 : lw_okq (⟨"FalseNotesModel", "taken", "(I)I"⟩, 34) := ⟨⟨by decide +kernel, by decide +kernel⟩, List.mem_of_getElem? (i := 1335) (by decide +kernel), List.mem_of_getElem? (i := 1634) (by decide +kernel), List.mem_of_getElem? (i := 1635) (by decide +kernel)⟩
theorem lw_p46 : lw_okq (⟨"FalseNotesModel", "gives", "(I)I"⟩, 34) := ⟨⟨by decide +kernel, by decide +kernel⟩, List.mem_of_getElem? (i := 1335) (by decide +kernel), List.mem_of_getElem? (i := 1638) (by decide +kernel), List.mem_of_getElem? (i := 1639) (by decide +kernel)⟩
theorem lw_p47 : lw_okq (⟨"FalseNotesModel", "yearStep", "()Z"⟩, 34) := ⟨⟨by decide +kernel, by decide +kernel⟩, List.mem_of_getElem? (i := 1335) (by decide +kernel), List.mem_of_getElem? (i := 1646) (by decide +kernel), List.mem_of_getElem? (i := 1647) (by decide +kernel)⟩
def lw_privs_3 : List (MethodName × Nat) := [(⟨"FalseNotesModel", "aLine", "(I)Z"⟩, 34), (⟨"FalseNotesModel", "aDebt", "()Z"⟩, 34), (⟨"FalseNotesModel", "twoTo", "()Z"⟩, 34), (⟨"FalseNotesModel", "oldOne", "(III)Z"⟩, 34), (⟨"FalseNotesModel", "books", "(III)Z"⟩, 34), (⟨"FalseNotesModel", "noteOf", "(II)I"⟩, 34), (⟨"FalseNotesModel", "of", "(II)I"⟩, 34), (⟨"FalseNotesModel", "holderOf", "(II)I"⟩, 34), (⟨"FalseNotesModel", "debtAt", "(II)I"⟩, 34), (⟨"FalseNotesModel", "stands", "(IIII)V"⟩, 34), (⟨"FalseNotesModel", "waiterOf", "(II)I"⟩, 34), (⟨"FalseNotesModel", "wantSign", "(I)Z"⟩, 34), (⟨"FalseNotesModel", "isSign", "(I)Z"⟩, 34), (⟨"FalseNotesModel", "taken", "(I)I"⟩, 34), (⟨"FalseNotesModel", "gives", "(I)I"⟩, 34), (⟨"FalseNotesModel", "yearStep", "()Z"⟩, 34)]
theorem lw_r3 : ∀ q ∈ lw_privs_3, lw_okq q := List.forall_mem_cons.mpr ⟨lw_p32, List.forall_mem_cons.mpr ⟨lw_p33, List.forall_mem_cons.mpr ⟨lw_p34, List.forall_mem_cons.mpr ⟨lw_p35, List.forall_mem_cons.mpr ⟨lw_p36, List.forall_mem_cons.mpr ⟨lw_p37, List.forall_mem_cons.mpr ⟨lw_p38, List.forall_mem_cons.mpr ⟨lw_p39, List.forall_mem_cons.mpr ⟨lw_p40, List.forall_mem_cons.mpr ⟨lw_p41, List.forall_mem_cons.mpr ⟨lw_p42, List.forall_mem_cons.mpr ⟨lw_p43, List.forall_mem_cons.mpr ⟨lw_p44, List.forall_mem_cons.mpr ⟨lw_p45, List.forall_mem_cons.mpr ⟨lw_p46, List.forall_mem_cons.mpr ⟨lw_p47, fun _ h => absurd h List.not_mem_nil⟩⟩⟩⟩⟩⟩⟩⟩⟩⟩⟩⟩⟩⟩⟩⟩
theorem lw_p48 : lw_okq (⟨"FalseNotesModel", "yearOrder", "(II)Z"⟩, 34) := ⟨⟨by decide +kernel, by decide +kernel⟩, List.mem_of_getElem? (i := 1335) (by decide +kernel), List.mem_of_getElem? (i := 1650) (by decide +kernel), List.mem_of_getElem? (i := 1651) (by decide +kernel)⟩
theorem lw_p49 : lw_okq (⟨"FalseNotesModel", "singerTo", "(I)Z"⟩, 34) := ⟨⟨by decide +kernel, by decide +kernel⟩, List.mem_of_getElem? (i := 1335) (by decide +kernel), List.mem_of_getElem? (i := 1654) (by decide +kernel), List.mem_of_getElem? (i := 1655) (by decide +kernel)⟩
theorem lw_p50 : lw_okq (⟨"FalseNotesModel", "test", "(I)Z"⟩, 34) := ⟨⟨by decide +kernel, by decide +kernel⟩, List.mem_of_getElem? (i := 1335) (by decide +kernel), List.mem_of_getElem? (i := 1658) (by decide +kernel), List.mem_of_getElem? (i := 1659) (by decide +kernel)⟩
theorem lw_p51 : lw_okq (⟨"FalseNotesModel", "notesHeld", "()I"⟩, 34) := ⟨⟨by decide +kernel, by decide +kernel⟩, List.mem_of_getElem? (i := 1335) (by decide +kernel), List.mem_of_getElem? (i := 1666) (by decide +kernel), List.mem_of_getElem? (i := 1667) (by decide +kernel)⟩
theorem lw_p52 : lw_okq (⟨"FalseNotesModel", "allOwed", "()I"⟩, 34) := ⟨⟨by decide +kernel, by decide +kernel⟩, List.mem_of_getElem? (i := 1335) (by decide +kernel), List.mem_of_getElem? (i := 1670) (by decide +kernel), List.mem_of_getElem? (i := 1671) (by decide +kernel)⟩
theorem lw_p53 : lw_okq (⟨"FalseNotesModel", "owesAll", "(I)I"⟩, 34) := ⟨⟨by decide +kernel, by decide +kernel⟩, List.mem_of_getElem? (i := 1335) (by decide +kernel), List.mem_of_getElem? (i := 1674) (by decide +kernel), List.mem_of_getElem? (i := 1675) (by decide +kernel)⟩
theorem lw_p54 : lw_okq (⟨"FalseNotesModel", "owes", "(II)I"⟩, 34) := ⟨⟨by decide +kernel, by decide +kernel⟩, List.mem_of_getElem? (i := 1335) (by decide +kernel), List.mem_of_getElem? (i := 1678) (by decide +kernel), List.mem_of_getElem? (i := 1679) (by decide +kernel)⟩
theorem lw_p55 : lw_okq (⟨"FalseNotesModel", "noted", "(II)I"⟩, 34) := ⟨⟨by decide +kernel, by decide +kernel⟩, List.mem_of_getElem? (i := 1335) (by decide +kernel), List.mem_of_getElem? (i := 1682) (by decide +kernel), List.mem_of_getElem? (i := 1683) (by decide +kernel)⟩
theorem lw_p56 : lw_okq (⟨"FalseNotesModel", "sumOf", "(I)I"⟩, 34) := ⟨⟨by decide +kernel, by decide +kernel⟩, List.mem_of_getElem? (i := 1335) (by decide +kernel), List.mem_of_getElem? (i := 1686) (by decide +kernel), List.mem_of_getElem? (i := 1687) (by decide +kernel)⟩
theorem lw_p57 : lw_okq (⟨"FalseNotesModel", "isSinger", "(I)Z"⟩, 34) := ⟨⟨by decide +kernel, by decide +kernel⟩, List.mem_of_getElem? (i := 1335) (by decide +kernel), List.mem_of_getElem? (i := 1694) (by decide +kernel), List.mem_of_getElem? (i := 1695) (by decide +kernel)⟩
theorem lw_p58 : lw_okq (⟨"FalseNotesModel", "orNone", "(I)I"⟩, 34) := ⟨⟨by decide +kernel, by decide +kernel⟩, List.mem_of_getElem? (i := 1335) (by decide +kernel), List.mem_of_getElem? (i := 1698) (by decide +kernel), List.mem_of_getElem? (i := 1699) (by decide +kernel)⟩
theorem lw_p59 : lw_okq (⟨"FalseNotesModel", "owedAll", "(I)I"⟩, 34) := ⟨⟨by decide +kernel, by decide +kernel⟩, List.mem_of_getElem? (i := 1335) (by decide +kernel), List.mem_of_getElem? (i := 1702) (by decide +kernel), List.mem_of_getElem? (i := 1703) (by decide +kernel)⟩
theorem lw_p60 : lw_okq (⟨"FalseNotesModel", "isNote", "(II)Z"⟩, 34) := ⟨⟨by decide +kernel, by decide +kernel⟩, List.mem_of_getElem? (i := 1335) (by decide +kernel), List.mem_of_getElem? (i := 1710) (by decide +kernel), List.mem_of_getElem? (i := 1711) (by decide +kernel)⟩
theorem lw_p61 : lw_okq (⟨"FalseNotesModel", "isLiving", "(I)Z"⟩, 34) := ⟨⟨by decide +kernel, by decide +kernel⟩, List.mem_of_getElem? (i := 1335) (by decide +kernel), List.mem_of_getElem? (i := 1730) (by decide +kernel), List.mem_of_getElem? (i := 1731) (by decide +kernel)⟩
theorem lw_p62 : lw_okq (⟨"FalseNotesModel", "isDead", "(I)Z"⟩, 34) := ⟨⟨by decide +kernel, by decide +kernel⟩, List.mem_of_getElem? (i := 1335) (by decide +kernel), List.mem_of_getElem? (i := 1734) (by decide +kernel), List.mem_of_getElem? (i := 1735) (by decide +kernel)⟩
theorem lw_p63 : lw_okq (⟨"FalseNotesModel", "sungAt", "(II)I"⟩, 34) := ⟨⟨by decide +kernel, by decide +kernel⟩, List.mem_of_getElem? (i := 1335) (by decide +kernel), List.mem_of_getElem? (i := 1738) (by decide +kernel), List.mem_of_getElem? (i := 1739) (by decide +kernel)⟩
def lw_privs_4 : List (MethodName × Nat) := [(⟨"FalseNotesModel", "yearOrder", "(II)Z"⟩, 34), (⟨"FalseNotesModel", "singerTo", "(I)Z"⟩, 34), (⟨"FalseNotesModel", "test", "(I)Z"⟩, 34), (⟨"FalseNotesModel", "notesHeld", "()I"⟩, 34), (⟨"FalseNotesModel", "allOwed", "()I"⟩, 34), (⟨"FalseNotesModel", "owesAll", "(I)I"⟩, 34), (⟨"FalseNotesModel", "owes", "(II)I"⟩, 34), (⟨"FalseNotesModel", "noted", "(II)I"⟩, 34), (⟨"FalseNotesModel", "sumOf", "(I)I"⟩, 34), (⟨"FalseNotesModel", "isSinger", "(I)Z"⟩, 34), (⟨"FalseNotesModel", "orNone", "(I)I"⟩, 34), (⟨"FalseNotesModel", "owedAll", "(I)I"⟩, 34), (⟨"FalseNotesModel", "isNote", "(II)Z"⟩, 34), (⟨"FalseNotesModel", "isLiving", "(I)Z"⟩, 34), (⟨"FalseNotesModel", "isDead", "(I)Z"⟩, 34), (⟨"FalseNotesModel", "sungAt", "(II)I"⟩, 34)]
theorem lw_r4 : ∀ q ∈ lw_privs_4, lw_okq q := List.forall_mem_cons.mpr ⟨lw_p48, List.forall_mem_cons.mpr ⟨lw_p49, List.forall_mem_cons.mpr ⟨lw_p50, List.forall_mem_cons.mpr ⟨lw_p51, List.forall_mem_cons.mpr ⟨lw_p52, List.forall_mem_cons.mpr ⟨lw_p53, List.forall_mem_cons.mpr ⟨lw_p54, List.forall_mem_cons.mpr ⟨lw_p55, List.forall_mem_cons.mpr ⟨lw_p56, List.forall_mem_cons.mpr ⟨lw_p57, List.forall_mem_cons.mpr ⟨lw_p58, List.forall_mem_cons.mpr ⟨lw_p59, List.forall_mem_cons.mpr ⟨lw_p60, List.forall_mem_cons.mpr ⟨lw_p61, List.forall_mem_cons.mpr ⟨lw_p62, List.forall_mem_cons.mpr ⟨lw_p63, fun _ h => absurd h List.not_mem_nil⟩⟩⟩⟩⟩⟩⟩⟩⟩⟩⟩⟩⟩⟩⟩⟩
theorem lw_p64 : lw_okq (⟨"FalseNotesModel", "areTwo", "(II)Z"⟩, 34) := ⟨⟨by decide +kernel, by decide +kernel⟩, List.mem_of_getElem? (i := 1335) (by decide +kernel), List.mem_of_getElem? (i := 1750) (by decide +kernel), List.mem_of_getElem? (i := 1751) (by decide +kernel)⟩
theorem lw_p65 : lw_okq (⟨"FalseNotesModel", "lends", "(III)Z"⟩, 34) := ⟨⟨by decide +kernel, by decide +kernel⟩, List.mem_of_getElem? (i := 1335) (by decide +kernel), List.mem_of_getElem? (i := 1754) (by decide +kernel), List.mem_of_getElem? (i := 1755) (by decide +kernel)⟩
theorem lw_p66 : lw_okq (⟨"FalseNotesModel", "gets", "(III)V"⟩, 34) := ⟨⟨by decide +kernel, by decide +kernel⟩, List.mem_of_getElem? (i := 1335) (by decide +kernel), List.mem_of_getElem? (i := 1758) (by decide +kernel), List.mem_of_getElem? (i := 1759) (by decide +kernel)⟩
theorem lw_p67 : lw_okq (⟨"FalseNotesModel", "pays", "(III)Z"⟩, 34) := ⟨⟨by decide +kernel, by decide +kernel⟩, List.mem_of_getElem? (i := 1335) (by decide +kernel), List.mem_of_getElem? (i := 1767) (by decide +kernel), List.mem_of_getElem? (i := 1768) (by decide +kernel)⟩
theorem lw_p68 : lw_okq (⟨"FalseNotesModel", "paysSome", "(III)V"⟩, 34) := ⟨⟨by decide +kernel, by decide +kernel⟩, List.mem_of_getElem? (i := 1335) (by decide +kernel), List.mem_of_getElem? (i := 1771) (by decide +kernel), List.mem_of_getElem? (i := 1772) (by decide +kernel)⟩
theorem lw_p69 : lw_okq (⟨"FalseNotesModel", "goesOff", "(III)V"⟩, 34) := ⟨⟨by decide +kernel, by decide +kernel⟩, List.mem_of_getElem? (i := 1335) (by decide +kernel), List.mem_of_getElem? (i := 1775) (by decide +kernel), List.mem_of_getElem? (i := 1776) (by decide +kernel)⟩
theorem lw_p70 : lw_okq (⟨"FalseNotesModel", "fills", "()V"⟩, 34) := ⟨⟨by decide +kernel, by decide +kernel⟩, List.mem_of_getElem? (i := 1335) (by decide +kernel), List.mem_of_getElem? (i := 1779) (by decide +kernel), List.mem_of_getElem? (i := 1780) (by decide +kernel)⟩
theorem lw_p71 : lw_okq (⟨"FalseNotesModel", "leaves", "(I)I"⟩, 34) := ⟨⟨by decide +kernel, by decide +kernel⟩, List.mem_of_getElem? (i := 1335) (by decide +kernel), List.mem_of_getElem? (i := 1783) (by decide +kernel), List.mem_of_getElem? (i := 1784) (by decide +kernel)⟩
theorem lw_p72 : lw_okq (⟨"FalseNotesModel", "chordOf", "(II)I"⟩, 34) := ⟨⟨by decide +kernel, by decide +kernel⟩, List.mem_of_getElem? (i := 1335) (by decide +kernel), List.mem_of_getElem? (i := 1791) (by decide +kernel), List.mem_of_getElem? (i := 1792) (by decide +kernel)⟩
theorem lw_p73 : lw_okq (⟨"FalseNotesModel", "sundays", "()Z"⟩, 34) := ⟨⟨by decide +kernel, by decide +kernel⟩, List.mem_of_getElem? (i := 1335) (by decide +kernel), List.mem_of_getElem? (i := 1799) (by decide +kernel), List.mem_of_getElem? (i := 1800) (by decide +kernel)⟩
theorem lw_p74 : lw_okq (⟨"FalseNotesModel", "grown", "(I)I"⟩, 34) := ⟨⟨by decide +kernel, by decide +kernel⟩, List.mem_of_getElem? (i := 1335) (by decide +kernel), List.mem_of_getElem? (i := 1803) (by decide +kernel), List.mem_of_getElem? (i := 1804) (by decide +kernel)⟩
theorem lw_p75 : lw_okq (⟨"FalseNotesModel", "colds", "(I)I"⟩, 34) := ⟨⟨by decide +kernel, by decide +kernel⟩, List.mem_of_getElem? (i := 1335) (by decide +kernel), List.mem_of_getElem? (i := 1812) (by decide +kernel), List.mem_of_getElem? (i := 1813) (by decide +kernel)⟩
theorem lw_p76 : lw_okq (⟨"FalseNotesModel", "dies", "(I)V"⟩, 34) := ⟨⟨by decide +kernel, by decide +kernel⟩, List.mem_of_getElem? (i := 1335) (by decide +kernel), List.mem_of_getElem? (i := 1827) (by decide +kernel), List.mem_of_getElem? (i := 1828) (by decide +kernel)⟩
theorem lw_p77 : lw_okq (⟨"FalseNotesModel", "inherits", "(III)V"⟩, 34) := ⟨⟨by decide +kernel, by decide +kernel⟩, List.mem_of_getElem? (i := 1335) (by decide +kernel), List.mem_of_getElem? (i := 1831) (by decide +kernel), List.mem_of_getElem? (i := 1832) (by decide +kernel)⟩
theorem lw_p78 : lw_okq (⟨"FalseNotesModel", "livingMany", "()I"⟩, 34) := ⟨⟨by decide +kernel, by decide +kernel⟩, List.mem_of_getElem? (i := 1335) (by decide +kernel), List.mem_of_getElem? (i := 1835) (by decide +kernel), List.mem_of_getElem? (i := 1836) (by decide +kernel)⟩
theorem lw_p79 : lw_okq (⟨"FalseNotesModel", "balanceOf", "(I)I"⟩, 34) := ⟨⟨by decide +kernel, by decide +kernel⟩, List.mem_of_getElem? (i := 1335) (by decide +kernel), List.mem_of_getElem? (i := 1860) (by decide +kernel), List.mem_of_getElem? (i := 1861) (by decide +kernel)⟩
def lw_privs_5 : List (MethodName × Nat) := [(⟨"FalseNotesModel", "areTwo", "(II)Z"⟩, 34), (⟨"FalseNotesModel", "lends", "(III)Z"⟩, 34), (⟨"FalseNotesModel", "gets", "(III)V"⟩, 34), (⟨"FalseNotesModel", "pays", "(III)Z"⟩, 34), (⟨"FalseNotesModel", "paysSome", "(III)V"⟩, 34), (⟨"FalseNotesModel", "goesOff", "(III)V"⟩, 34), (⟨"FalseNotesModel", "fills", "()V"⟩, 34), (⟨"FalseNotesModel", "leaves", "(I)I"⟩, 34), (⟨"FalseNotesModel", "chordOf", "(II)I"⟩, 34), (⟨"FalseNotesModel", "sundays", "()Z"⟩, 34), (⟨"FalseNotesModel", "grown", "(I)I"⟩, 34), (⟨"FalseNotesModel", "colds", "(I)I"⟩, 34), (⟨"FalseNotesModel", "dies", "(I)V"⟩, 34), (⟨"FalseNotesModel", "inherits", "(III)V"⟩, 34), (⟨"FalseNotesModel", "livingMany", "()I"⟩, 34), (⟨"FalseNotesModel", "balanceOf", "(I)I"⟩, 34)]
theorem lw_r5 : ∀ q ∈ lw_privs_5, lw_okq q := List.forall_mem_cons.mpr ⟨lw_p64, List.forall_mem_cons.mpr ⟨lw_p65, List.forall_mem_cons.mpr ⟨lw_p66, List.forall_mem_cons.mpr ⟨lw_p67, List.forall_mem_cons.mpr ⟨lw_p68, List.forall_mem_cons.mpr ⟨lw_p69, List.forall_mem_cons.mpr ⟨lw_p70, List.forall_mem_cons.mpr ⟨lw_p71, List.forall_mem_cons.mpr ⟨lw_p72, List.forall_mem_cons.mpr ⟨lw_p73, List.forall_mem_cons.mpr ⟨lw_p74, List.forall_mem_cons.mpr ⟨lw_p75, List.forall_mem_cons.mpr ⟨lw_p76, List.forall_mem_cons.mpr ⟨lw_p77, List.forall_mem_cons.mpr ⟨lw_p78, List.forall_mem_cons.mpr ⟨lw_p79, fun _ h => absurd h List.not_mem_nil⟩⟩⟩⟩⟩⟩⟩⟩⟩⟩⟩⟩⟩⟩⟩⟩
theorem lw_p80 : lw_okq (⟨"FalseNotesModel", "unevenSet", "()I"⟩, 34) := ⟨⟨by decide +kernel, by decide +kernel⟩, List.mem_of_getElem? (i := 1335) (by decide +kernel), List.mem_of_getElem? (i := 1868) (by decide +kernel), List.mem_of_getElem? (i := 1869) (by decide +kernel)⟩
theorem lw_p81 : lw_okq (⟨"FalseNotesModel", "partsOf", "()I"⟩, 34) := ⟨⟨by decide +kernel, by decide +kernel⟩, List.mem_of_getElem? (i := 1335) (by decide +kernel), List.mem_of_getElem? (i := 1872) (by decide +kernel), List.mem_of_getElem? (i := 1873) (by decide +kernel)⟩
theorem lw_p82 : lw_okq (⟨"FalseNotesModel", "isIn", "(II)Z"⟩, 34) := ⟨⟨by decide +kernel, by decide +kernel⟩, List.mem_of_getElem? (i := 1335) (by decide +kernel), List.mem_of_getElem? (i := 1876) (by decide +kernel), List.mem_of_getElem? (i := 1877) (by decide +kernel)⟩
theorem lw_p83 : lw_okq (⟨"FalseNotesModel", "lackOf", "(I)I"⟩, 34) := ⟨⟨by decide +kernel, by decide +kernel⟩, List.mem_of_getElem? (i := 1335) (by decide +kernel), List.mem_of_getElem? (i := 1888) (by decide +kernel), List.mem_of_getElem? (i := 1889) (by decide +kernel)⟩
theorem lw_p84 : lw_okq (⟨"FalseNotesModel", "tellsBy", "(JJ)Z"⟩, 34) := ⟨⟨by decide +kernel, by decide +kernel⟩, List.mem_of_getElem? (i := 1335) (by decide +kernel), List.mem_of_getElem? (i := 1908) (by decide +kernel), List.mem_of_getElem? (i := 1909) (by decide +kernel)⟩
theorem lw_p85 : lw_okq (⟨"FalseNotesModel", "roundOf", "()I"⟩, 34) := ⟨⟨by decide +kernel, by decide +kernel⟩, List.mem_of_getElem? (i := 1335) (by decide +kernel), List.mem_of_getElem? (i := 1916) (by decide +kernel), List.mem_of_getElem? (i := 1917) (by decide +kernel)⟩
theorem lw_p86 : lw_okq (⟨"FalseNotesModel", "laysRound", "(I)Z"⟩, 34) := ⟨⟨by decide +kernel, by decide +kernel⟩, List.mem_of_getElem? (i := 1335) (by decide +kernel), List.mem_of_getElem? (i := 1920) (by decide +kernel), List.mem_of_getElem? (i := 1921) (by decide +kernel)⟩
theorem lw_p87 : lw_okq (⟨"FalseNotesModel", "nextAt", "(I)I"⟩, 34) := ⟨⟨by decide +kernel, by decide +kernel⟩, List.mem_of_getElem? (i := 1335) (by decide +kernel), List.mem_of_getElem? (i := 1924) (by decide +kernel), List.mem_of_getElem? (i := 1925) (by decide +kernel)⟩
theorem lw_p88 : lw_okq (⟨"FalseNotesModel", "askOf", "()I"⟩, 34) := ⟨⟨by decide +kernel, by decide +kernel⟩, List.mem_of_getElem? (i := 1335) (by decide +kernel), List.mem_of_getElem? (i := 1940) (by decide +kernel), List.mem_of_getElem? (i := 1941) (by decide +kernel)⟩
theorem lw_p89 : lw_okq (⟨"FalseNotesModel", "freeOf", "(I)I"⟩, 34) := ⟨⟨by decide +kernel, by decide +kernel⟩, List.mem_of_getElem? (i := 1335) (by decide +kernel), List.mem_of_getElem? (i := 1960) (by decide +kernel), List.mem_of_getElem? (i := 1961) (by decide +kernel)⟩
theorem lw_p90 : lw_okq (⟨"FalseNotesModel", "wrongTray", "(II)I"⟩, 34) := ⟨⟨by decide +kernel, by decide +kernel⟩, List.mem_of_getElem? (i := 1335) (by decide +kernel), List.mem_of_getElem? (i := 1980) (by decide +kernel), List.mem_of_getElem? (i := 1981) (by decide +kernel)⟩
theorem lw_p91 : lw_okq (⟨"FalseNotesModel", "offBy", "(III)I"⟩, 34) := ⟨⟨by decide +kernel, by decide +kernel⟩, List.mem_of_getElem? (i := 1335) (by decide +kernel), List.mem_of_getElem? (i := 1990) (by decide +kernel), List.mem_of_getElem? (i := 1991) (by decide +kernel)⟩
theorem lw_p92 : lw_okq (⟨"FalseNotesModel", "grownBy", "(II)I"⟩, 34) := ⟨⟨by decide +kernel, by decide +kernel⟩, List.mem_of_getElem? (i := 1335) (by decide +kernel), List.mem_of_getElem? (i := 2009) (by decide +kernel), List.mem_of_getElem? (i := 2010) (by decide +kernel)⟩
theorem lw_p93 : lw_okq (⟨"FalseNotesModel", "lives", "(I)V"⟩, 34) := ⟨⟨by decide +kernel, by decide +kernel⟩, List.mem_of_getElem? (i := 1335) (by decide +kernel), List.mem_of_getElem? (i := 2030) (by decide +kernel), List.mem_of_getElem? (i := 2031) (by decide +kernel)⟩
theorem lw_p94 : lw_okq (⟨"FalseNotesModel", "does", "(I)Z"⟩, 34) := ⟨⟨by decide +kernel, by decide +kernel⟩, List.mem_of_getElem? (i := 1335) (by decide +kernel), List.mem_of_getElem? (i := 2034) (by decide +kernel), List.mem_of_getElem? (i := 2035) (by decide +kernel)⟩
theorem lw_p95 : lw_okq (⟨"FalseNotesModel", "lendsBy", "(III)Z"⟩, 34) := ⟨⟨by decide +kernel, by decide +kernel⟩, List.mem_of_getElem? (i := 1335) (by decide +kernel), List.mem_of_getElem? (i := 2038) (by decide +kernel), List.mem_of_getElem? (i := 2039) (by decide +kernel)⟩
def lw_privs_6 : List (MethodName × Nat) := [(⟨"FalseNotesModel", "unevenSet", "()I"⟩, 34), (⟨"FalseNotesModel", "partsOf", "()I"⟩, 34), (⟨"FalseNotesModel", "isIn", "(II)Z"⟩, 34), (⟨"FalseNotesModel", "lackOf", "(I)I"⟩, 34), (⟨"FalseNotesModel", "tellsBy", "(JJ)Z"⟩, 34), (⟨"FalseNotesModel", "roundOf", "()I"⟩, 34), (⟨"FalseNotesModel", "laysRound", "(I)Z"⟩, 34), (⟨"FalseNotesModel", "nextAt", "(I)I"⟩, 34), (⟨"FalseNotesModel", "askOf", "()I"⟩, 34), (⟨"FalseNotesModel", "freeOf", "(I)I"⟩, 34), (⟨"FalseNotesModel", "wrongTray", "(II)I"⟩, 34), (⟨"FalseNotesModel", "offBy", "(III)I"⟩, 34), (⟨"FalseNotesModel", "grownBy", "(II)I"⟩, 34), (⟨"FalseNotesModel", "lives", "(I)V"⟩, 34), (⟨"FalseNotesModel", "does", "(I)Z"⟩, 34), (⟨"FalseNotesModel", "lendsBy", "(III)Z"⟩, 34)]
theorem lw_r6 : ∀ q ∈ lw_privs_6, lw_okq q := List.forall_mem_cons.mpr ⟨lw_p80, List.forall_mem_cons.mpr ⟨lw_p81, List.forall_mem_cons.mpr ⟨lw_p82, List.forall_mem_cons.mpr ⟨lw_p83, List.forall_mem_cons.mpr ⟨lw_p84, List.forall_mem_cons.mpr ⟨lw_p85, List.forall_mem_cons.mpr ⟨lw_p86, List.forall_mem_cons.mpr ⟨lw_p87, List.forall_mem_cons.mpr ⟨lw_p88, List.forall_mem_cons.mpr ⟨lw_p89, List.forall_mem_cons.mpr ⟨lw_p90, List.forall_mem_cons.mpr ⟨lw_p91, List.forall_mem_cons.mpr ⟨lw_p92, List.forall_mem_cons.mpr ⟨lw_p93, List.forall_mem_cons.mpr ⟨lw_p94, List.forall_mem_cons.mpr ⟨lw_p95, fun _ h => absurd h List.not_mem_nil⟩⟩⟩⟩⟩⟩⟩⟩⟩⟩⟩⟩⟩⟩⟩⟩
theorem lw_p96 : lw_okq (⟨"FalseNotesModel", "paysBy", "(ZI)Z"⟩, 34) := ⟨⟨by decide +kernel, by decide +kernel⟩, List.mem_of_getElem? (i := 1335) (by decide +kernel), List.mem_of_getElem? (i := 2042) (by decide +kernel), List.mem_of_getElem? (i := 2043) (by decide +kernel)⟩
theorem lw_p97 : lw_okq (⟨"FalseNotesModel", "lendsAny", "()Z"⟩, 34) := ⟨⟨by decide +kernel, by decide +kernel⟩, List.mem_of_getElem? (i := 1335) (by decide +kernel), List.mem_of_getElem? (i := 2046) (by decide +kernel), List.mem_of_getElem? (i := 2047) (by decide +kernel)⟩
theorem lw_p98 : lw_okq (⟨"FalseNotesModel", "draw", "(I)I"⟩, 34) := ⟨⟨by decide +kernel, by decide +kernel⟩, List.mem_of_getElem? (i := 1335) (by decide +kernel), List.mem_of_getElem? (i := 2050) (by decide +kernel), List.mem_of_getElem? (i := 2051) (by decide +kernel)⟩
theorem lw_p99 : lw_okq (⟨"FalseNotesModel", "livingAt", "(I)I"⟩, 34) := ⟨⟨by decide +kernel, by decide +kernel⟩, List.mem_of_getElem? (i := 1335) (by decide +kernel), List.mem_of_getElem? (i := 2055) (by decide +kernel), List.mem_of_getElem? (i := 2056) (by decide +kernel)⟩
theorem lw_p100 : lw_okq (⟨"FalseNotesModel", "holds", "(I)Z"⟩, 34) := ⟨⟨by decide +kernel, by decide +kernel⟩, List.mem_of_getElem? (i := 1335) (by decide +kernel), List.mem_of_getElem? (i := 2059) (by decide +kernel), List.mem_of_getElem? (i := 2060) (by decide +kernel)⟩
theorem lw_p101 : lw_okq (⟨"FalseNotesModel", "behindEnds", "(I)I"⟩, 34) := ⟨⟨by decide +kernel, by decide +kernel⟩, List.mem_of_getElem? (i := 1335) (by decide +kernel), List.mem_of_getElem? (i := 2063) (by decide +kernel), List.mem_of_getElem? (i := 2064) (by decide +kernel)⟩
theorem lw_p102 : lw_okq (⟨"FalseNotesModel", "copies", "(II)V"⟩, 34) := ⟨⟨by decide +kernel, by decide +kernel⟩, List.mem_of_getElem? (i := 1335) (by decide +kernel), List.mem_of_getElem? (i := 2080) (by decide +kernel), List.mem_of_getElem? (i := 2081) (by decide +kernel)⟩
def lw_privs_7 : List (MethodName × Nat) := [(⟨"FalseNotesModel", "paysBy", "(ZI)Z"⟩, 34), (⟨"FalseNotesModel", "lendsAny", "()Z"⟩, 34), (⟨"FalseNotesModel", "draw", "(I)I"⟩, 34), (⟨"FalseNotesModel", "livingAt", "(I)I"⟩, 34), (⟨"FalseNotesModel", "holds", "(I)Z"⟩, 34), (⟨"FalseNotesModel", "behindEnds", "(I)I"⟩, 34), (⟨"FalseNotesModel", "copies", "(II)V"⟩, 34)]
theorem lw_r7 : ∀ q ∈ lw_privs_7, lw_okq q := List.forall_mem_cons.mpr ⟨lw_p96, List.forall_mem_cons.mpr ⟨lw_p97, List.forall_mem_cons.mpr ⟨lw_p98, List.forall_mem_cons.mpr ⟨lw_p99, List.forall_mem_cons.mpr ⟨lw_p100, List.forall_mem_cons.mpr ⟨lw_p101, List.forall_mem_cons.mpr ⟨lw_p102, fun _ h => absurd h List.not_mem_nil⟩⟩⟩⟩⟩⟩⟩
def lw_privs : List (MethodName × Nat) := lw_privs_1 ++ (lw_privs_2 ++ (lw_privs_3 ++ (lw_privs_4 ++ (lw_privs_5 ++ (lw_privs_6 ++ (lw_privs_7))))))
def lw_tbl : List Cond := k2_sels lw_privs ++ tables_1
theorem lw_privs_ok : ∀ q ∈ lw_privs, lw_okq q := by
  show ∀ q ∈ lw_privs_1 ++ (lw_privs_2 ++ (lw_privs_3 ++ (lw_privs_4 ++ (lw_privs_5 ++ (lw_privs_6 ++ (lw_privs_7)))))), lw_okq q
  exact List.forall_mem_append.mpr ⟨lw_r1, List.forall_mem_append.mpr ⟨lw_r2, List.forall_mem_append.mpr ⟨lw_r3, List.forall_mem_append.mpr ⟨lw_r4, List.forall_mem_append.mpr ⟨lw_r5, List.forall_mem_append.mpr ⟨lw_r6, lw_r7⟩⟩⟩⟩⟩⟩
-- ===== end of PART A; then your names; then what follows =====
/-! THE CLAIM OUT OF ONE WALK OF THE LAW'S BODY. Your part is whole_start (and what it stands on); all else here is the same for every law, but numbers. -/
end
section
abbrev AV : Type := Value × Nat
abbrev Mem : Type := Nat → Nat → Nat → Int
abbrev MI : Type := MethodName × ByteArray × Nat × Option FieldType × Nat × Nat × Nat × List Nat
abbrev OpT : Type := Nat × Instr × Nat × Nat × Int × Nat × MI
abbrev LsT : Type := List (Nat × AV)
abbrev EnvT : Type := va_G × (Nat → Nat → Nat) × (Nat → ClassId) × (Nat → Nat) × (Nat → Nat) × Nat
def iN (z : Int) : Int32 := Int32.ofInt z
def lI (z : Int) : Int64 := Int64.ofInt z
def iR (x y : Int32) : Int32 := x - x / y * y
def lR (x y : Int64) : Int64 := x - x / y * y
def upd3 (M : Mem) (r c k : Nat) (v : Int) : Mem := fun r' c' k' => if r' = r ∧ c' = c ∧ k' = k then v else M r' c' k'
def updC (M : Mem) (r c : Nat) (f : Nat → Int) : Mem := fun r' c' => if r' = r ∧ c' = c then f else M r' c'
def toI (v : AV) : Int32 := match v.1 with
  | .int x => x
  | _ => 0
def toL (v : AV) : Int64 := match v.1 with
  | .long x => x
  | _ => 0
def toR (v : AV) : Nat := match v.1 with
  | .ref x => x
  | _ => 0
def lget : LsT → Nat → Option AV
  | [], _ => none
  | (j, v) :: t, k => if j = k then some v else lget t k
def lset (ls : LsT) (k : Nat) (v : AV) : LsT := (k, v) :: ls.filter (fun q => !(q.1 == k) && !(q.1 + 1 == k && q.2.1.category == 2))
def lset2 (ls : LsT) (k : Nat) (v : AV) : LsT := (k, v) :: ls.filter (fun q => !(q.1 == k) && (!(q.1 == k + 1) && !(q.1 + 1 == k && q.2.1.category == 2)))
def lpick (ls : LsT) : List Nat → Option LsT
  | [] => some []
  | k :: ks => match lget ls k with
    | none => none
    | some v => match lpick ls ks with
      | none => none
      | some r => some ((k, v) :: r)
abbrev StR : Type := Option (LsT × List AV)
def sK (ls : LsT) (st : List AV) (v : Value) : StR := some (ls, (v, 0) :: st)
def sLoadI (ls : LsT) (st : List AV) (k : Nat) : StR := match lget ls k with
  | some (.int x, _) => some (ls, (.int x, 0) :: st)
  | _ => none
def sLoadL (ls : LsT) (st : List AV) (k : Nat) : StR := match lget ls k with
  | some (.long x, _) => some (ls, (.long x, 0) :: st)
  | _ => none
def sLoadA (ls : LsT) (st : List AV) (k : Nat) : StR := match lget ls k with
  | some (.ref x, d) => some (ls, (.ref x, d) :: st)
  | _ => none
def sStoI (ls : LsT) (st : List AV) (k : Nat) : StR := match st with
  | (.int x, _) :: t => some (lset ls k (.int x, 0), t)
  | _ => none
def sStoL (ls : LsT) (st : List AV) (k : Nat) : StR := match st with
  | (.long x, _) :: t => some (lset2 ls k (.long x, 0), t)
  | _ => none
def sStoA (ls : LsT) (st : List AV) (k : Nat) : StR := match st with
  | (.ref x, d) :: t => some (lset ls k (.ref x, d), t)
  | _ => none
def sInc (ls : LsT) (st : List AV) (k : Nat) (n : Int) : StR := match lget ls k with
  | some (.int x, _) => some (lset ls k (.int (x + iN n), 0), st)
  | _ => none
def sBin (f : Int32 → Int32 → Int32) (ls : LsT) (st : List AV) : StR := match st with
  | (.int y, _) :: (.int x, _) :: t => some (ls, (.int (f x y), 0) :: t)
  | _ => none
def sBinL (f : Int64 → Int64 → Int64) (ls : LsT) (st : List AV) : StR := match st with
  | (.long y, _) :: (.long x, _) :: t => some (ls, (.long (f x y), 0) :: t)
  | _ => none
def sShL (f : Int64 → Int32 → Int64) (ls : LsT) (st : List AV) : StR := match st with
  | (.int y, _) :: (.long x, _) :: t => some (ls, (.long (f x y), 0) :: t)
  | _ => none
def sUn (f : Int32 → Int32) (ls : LsT) (st : List AV) : StR := match st with
  | (.int x, _) :: t => some (ls, (.int (f x), 0) :: t)
  | _ => none
def sIL (ls : LsT) (st : List AV) : StR := match st with
  | (.int x, _) :: t => some (ls, (.long x.toInt64, 0) :: t)
  | _ => none
def sLI (ls : LsT) (st : List AV) : StR := match st with
  | (.long x, _) :: t => some (ls, (.int x.toInt32, 0) :: t)
  | _ => none
def sCmp (ls : LsT) (st : List AV) : StR := match st with
  | (.long y, _) :: (.long x, _) :: t => some (ls, (.int (lg_cmp x y), 0) :: t)
  | _ => none
def sDup (ls : LsT) (st : List AV) : StR := match st with
  | (.int x, d) :: t => some (ls, (.int x, d) :: (.int x, d) :: t)
  | (.ref x, d) :: t => some (ls, (.ref x, d) :: (.ref x, d) :: t)
  | _ => none
def sPop (ls : LsT) (st : List AV) : StR := match st with
  | (.int _, _) :: t => some (ls, t)
  | _ => none
def sDup2 (ls : LsT) (st : List AV) : StR := match st with
  | (.int x, d) :: (.ref y, d') :: t => some (ls, (.int x, d) :: (.ref y, d') :: (.int x, d) :: (.ref y, d') :: t)
  | _ => none
/-- what leaves memory alone and asks for nothing -/
def stepS (ins : Instr) (aux : Nat) (z : Int) (ls : LsT) (st : List AV) : StR := match ins with
  | .iconst n => sK ls st (.int (iN n))
  | .bipush n => sK ls st (.int (iN n))
  | .sipush n => sK ls st (.int (iN n))
  | .lconst n => sK ls st (.long (lI (n : Nat)))
  | .ldc _ => if aux = 1 then sK ls st (.int (iN z)) else if aux = 2 then some (ls, (.ref z.toNat, 999) :: st) else none
  | .ldc_w _ => if aux = 1 then sK ls st (.int (iN z)) else none
  | .ldc2_w _ => if aux = 1 then sK ls st (.long (lI z)) else none
  | .iload k => sLoadI ls st k
  | .iload_n k => sLoadI ls st k
  | .lload k => sLoadL ls st k
  | .lload_n k => sLoadL ls st k
  | .aload k => sLoadA ls st k
  | .aload_n k => sLoadA ls st k
  | .istore k => sStoI ls st k
  | .istore_n k => sStoI ls st k
  | .lstore k => sStoL ls st k
  | .lstore_n k => sStoL ls st k
  | .astore k => sStoA ls st k
  | .astore_n k => sStoA ls st k
  | .iinc k n => sInc ls st k n
  | .iadd => sBin (fun x y => x + y) ls st
  | .isub => sBin (fun x y => x - y) ls st
  | .imul => sBin (fun x y => x * y) ls st
  | .iand => sBin (fun x y => x &&& y) ls st
  | .ior => sBin (fun x y => x ||| y) ls st
  | .ixor => sBin (fun x y => x ^^^ y) ls st
  | .ishl => sBin (fun x y => x <<< (y &&& 31)) ls st
  | .ishr => sBin (fun x y => x >>> (y &&& 31)) ls st
  | .iushr => sBin (fun x y => (x.toUInt32 >>> (y.toUInt32 &&& Int32.toUInt32 31)).toInt32) ls st
  | .ineg => sUn (fun x => -x) ls st
  | .i2b => sUn (fun x => x.toInt8.toInt32) ls st
  | .i2s => sUn (fun x => x.toInt16.toInt32) ls st
  | .i2c => sUn (fun x => (x.toUInt32 % 65536).toInt32) ls st
  | .ladd => sBinL (fun x y => x + y) ls st
  | .lsub => sBinL (fun x y => x - y) ls st
  | .lmul => sBinL (fun x y => x * y) ls st
  | .land => sBinL (fun x y => x &&& y) ls st
  | .lor => sBinL (fun x y => x ||| y) ls st
  | .lshl => sShL (fun x y => x <<< (y.toInt64 &&& 63)) ls st
  | .i2l => sIL ls st
  | .l2i => sLI ls st
  | .lcmp => sCmp ls st
  | .dup => sDup ls st
  | .dup2 => sDup2 ls st
  | .pop => sPop ls st
  | _ => none
end
section
def T_Choir : u_T := fun k => match k with
  | 0 => ("FalseNotes$Choir", "names", "[J", true)
  | 1 => ("FalseNotes$Choir", "purses", "[I", true)
  | 2 => ("FalseNotes$Choir", "heirs", "[I", true)
  | 3 => ("FalseNotes$Choir", "lengths", "[I", true)
  | 4 => ("FalseNotes$Choir", "notes", "[I", true)
  | 5 => ("FalseNotes$Choir", "holders", "[I", true)
  | 6 => ("FalseNotes$Choir", "debts", "[I", true)
  | 7 => ("FalseNotes$Choir", "waiting", "LFalseNotes$Waiting;", true)
  | 8 => ("FalseNotes$Choir", "singers", "I", false)
  | 9 => ("FalseNotes$Choir", "basses", "I", false)
  | 10 => ("FalseNotes$Choir", "deaf", "I", false)
  | 11 => ("FalseNotes$Choir", "colds", "I", false)
  | 12 => ("FalseNotes$Choir", "dead", "I", false)
  | 13 => ("FalseNotes$Choir", "hums", "I", false)
  | 14 => ("FalseNotes$Choir", "sunday", "I", false)
  | _ => ("FalseNotes$Choir", "paid", "I", false)
def t_Choir : Nat → FieldType := fun k => match k with
  | 0 => .array .long
  | 1 => .array .int
  | 2 => .array .int
  | 3 => .array .int
  | 4 => .array .int
  | 5 => .array .int
  | 6 => .array .int
  | 7 => .object "FalseNotes$Waiting"
  | 8 => .int
  | 9 => .int
  | 10 => .int
  | 11 => .int
  | 12 => .int
  | 13 => .int
  | 14 => .int
  | _ => .int
def T_CReader : u_T := fun k => match k with
  | 0 => ("FalseNotes$ChoirReader", "tokens", "LFalseNotes$Tokens;", true)
  | _ => ("FalseNotes$ChoirReader", "humsTold", "Z", false)
def t_CReader : Nat → FieldType := fun k => match k with
  | 0 => .object "FalseNotes$Tokens"
  | _ => .boolean
def T_Life : u_T := fun k => match k with
  | 0 => ("FalseNotes$Life", "turnsLeft", "[I", true)
  | 1 => ("FalseNotes$Life", "happened", "Z", false)
  | 2 => ("FalseNotes$Life", "steps", "I", false)
  | 3 => ("FalseNotes$Life", "missed", "I", false)
  | 4 => ("FalseNotes$Life", "lent", "I", false)
  | 5 => ("FalseNotes$Life", "paid", "I", false)
  | 6 => ("FalseNotes$Life", "sundays", "I", false)
  | 7 => ("FalseNotes$Life", "left", "I", false)
  | _ => ("FalseNotes$Life", "drawn", "I", false)
def t_Life : Nat → FieldType := fun k => match k with
  | 0 => .array .int
  | 1 => .boolean
  | 2 => .int
  | 3 => .int
  | 4 => .int
  | 5 => .int
  | 6 => .int
  | 7 => .int
  | _ => .int
def T_Marks : u_T := fun k => match k with
  | 0 => ("FalseNotes$Marks", "choirs", "[LFalseNotes$Choir;", true)
  | 1 => ("FalseNotes$Marks", "yearsOf", "[LFalseNotes$Years;", true)
  | _ => ("FalseNotes$Marks", "count", "I", false)
def t_Marks : Nat → FieldType := fun k => match k with
  | 0 => .array (.object "FalseNotes$Choir")
  | 1 => .array (.object "FalseNotes$Years")
  | _ => .int
def T_Ties : u_T := fun k => match k with
  | 0 => ("FalseNotes$Ties", "balances", "[I", true)
  | 1 => ("FalseNotes$Ties", "owesByNote", "[I", true)
  | 2 => ("FalseNotes$Ties", "owesAtAll", "[I", true)
  | 3 => ("FalseNotes$Ties", "path", "[I", true)
  | 4 => ("FalseNotes$Ties", "sums", "[I", true)
  | 5 => ("FalseNotes$Ties", "bests", "[I", true)
  | 6 => ("FalseNotes$Ties", "singers", "I", false)
  | _ => ("FalseNotes$Ties", "living", "I", false)
def t_Ties : Nat → FieldType := fun k => match k with
  | 0 => .array .int
  | 1 => .array .int
  | 2 => .array .int
  | 3 => .array .int
  | 4 => .array .int
  | 5 => .array .int
  | 6 => .int
  | _ => .int
def T_Tokens : u_T := fun k => match k with
  | 0 => ("FalseNotes$Tokens", "text", "[B", false)
  | 1 => ("FalseNotes$Tokens", "length", "I", false)
  | 2 => ("FalseNotes$Tokens", "at", "I", false)
  | 3 => ("FalseNotes$Tokens", "kind", "I", false)
  | 4 => ("FalseNotes$Tokens", "place", "I", false)
  | 5 => ("FalseNotes$Tokens", "number", "I", false)
  | 6 => ("FalseNotes$Tokens", "sign", "I", false)
  | 7 => ("FalseNotes$Tokens", "letters", "I", false)
  | 8 => ("FalseNotes$Tokens", "keyword", "I", false)
  | 9 => ("FalseNotes$Tokens", "word", "J", false)
  | _ => ("FalseNotes$Tokens", "fault", "I", false)
def t_Tokens : Nat → FieldType := fun k => match k with
  | 0 => .array .byte
  | 1 => .int
  | 2 => .int
  | 3 => .int
  | 4 => .int
  | 5 => .int
  | 6 => .int
  | 7 => .int
  | 8 => .int
  | 9 => .long
  | _ => .int
def T_Tray : u_T := fun k => match k with
  | 0 => ("FalseNotes$Tray", "cells", "[J", true)
  | 1 => ("FalseNotes$Tray", "sort", "I", false)
  | _ => ("FalseNotes$Tray", "size", "I", false)
def t_Tray : Nat → FieldType := fun k => match k with
  | 0 => .array .long
  | 1 => .int
  | _ => .int
def T_Waiting : u_T := fun k => match k with
  | 0 => ("FalseNotes$Waiting", "who", "[I", true)
  | 1 => ("FalseNotes$Waiting", "whom", "[I", true)
  | 2 => ("FalseNotes$Waiting", "much", "[I", true)
  | _ => ("FalseNotes$Waiting", "size", "I", false)
def t_Waiting : Nat → FieldType := fun k => match k with
  | 0 => .array .int
  | 1 => .array .int
  | 2 => .array .int
  | _ => .int
def T_Years : u_T := fun k => match k with
  | 0 => ("FalseNotes$Years", "kinds", "[I", true)
  | 1 => ("FalseNotes$Years", "firsts", "[I", true)
  | 2 => ("FalseNotes$Years", "seconds", "[I", true)
  | 3 => ("FalseNotes$Years", "numbers", "[I", true)
  | 4 => ("FalseNotes$Years", "signs", "[I", true)
  | 5 => ("FalseNotes$Years", "partners", "[I", true)
  | 6 => ("FalseNotes$Years", "size", "I", false)
  | 7 => ("FalseNotes$Years", "steps", "I", false)
  | _ => ("FalseNotes$Years", "told", "Z", false)
def t_Years : Nat → FieldType := fun k => match k with
  | 0 => .array .int
  | 1 => .array .int
  | 2 => .array .int
  | 3 => .array .int
  | 4 => .array .int
  | 5 => .array .int
  | 6 => .int
  | 7 => .int
  | _ => .boolean
def T_YReader : u_T := fun k => match k with
  | 0 => ("FalseNotes$YearsReader", "tokens", "LFalseNotes$Tokens;", true)
  | 1 => ("FalseNotes$YearsReader", "open", "[I", true)
  | _ => ("FalseNotes$YearsReader", "depth", "I", false)
def t_YReader : Nat → FieldType := fun k => match k with
  | 0 => .object "FalseNotes$Tokens"
  | 1 => .array .int
  | _ => .int
def T_FN : u_T := fun k => match k with
  | 0 => ("FalseNotes", "trays", "[LFalseNotes$Tray;", true)
  | 1 => ("FalseNotes", "tape", "[B", true)
  | 2 => ("FalseNotes", "choirReader", "LFalseNotes$ChoirReader;", true)
  | 3 => ("FalseNotes", "yearsReader", "LFalseNotes$YearsReader;", true)
  | 4 => ("FalseNotes", "kept", "LFalseNotes$Marks;", true)
  | 5 => ("FalseNotes", "ties", "LFalseNotes$Ties;", true)
  | 6 => ("FalseNotes", "life", "LFalseNotes$Life;", true)
  | 7 => ("FalseNotes", "trialLife", "LFalseNotes$Life;", true)
  | 8 => ("FalseNotes", "trialChoir", "LFalseNotes$Choir;", true)
  | 9 => ("FalseNotes", "choir", "LFalseNotes$Choir;", false)
  | 10 => ("FalseNotes", "spareChoir", "LFalseNotes$Choir;", false)
  | 11 => ("FalseNotes", "years", "LFalseNotes$Years;", false)
  | 12 => ("FalseNotes", "spareYears", "LFalseNotes$Years;", false)
  | 13 => ("FalseNotes", "status", "I", false)
  | 14 => ("FalseNotes", "top", "J", false)
  | 15 => ("FalseNotes", "bottom", "J", false)
  | 16 => ("FalseNotes", "tapeSize", "I", false)
  | 17 => ("FalseNotes", "faultKind", "I", false)
  | _ => ("FalseNotes", "faultPlace", "I", false)
def t_FN : Nat → FieldType := fun k => match k with
  | 0 => .array (.object "FalseNotes$Tray")
  | 1 => .array .byte
  | 2 => .object "FalseNotes$ChoirReader"
  | 3 => .object "FalseNotes$YearsReader"
  | 4 => .object "FalseNotes$Marks"
  | 5 => .object "FalseNotes$Ties"
  | 6 => .object "FalseNotes$Life"
  | 7 => .object "FalseNotes$Life"
  | 8 => .object "FalseNotes$Choir"
  | 9 => .object "FalseNotes$Choir"
  | 10 => .object "FalseNotes$Choir"
  | 11 => .object "FalseNotes$Years"
  | 12 => .object "FalseNotes$Years"
  | 13 => .int
  | 14 => .long
  | 15 => .long
  | 16 => .int
  | 17 => .int
  | _ => .int
def T_Mod : u_T := fun k => match k with
  | 0 => ("FalseNotesModel", "at", "[I", true)
  | 1 => ("FalseNotesModel", "names", "[J", true)
  | 2 => ("FalseNotesModel", "status", "I", false)
  | 3 => ("FalseNotesModel", "top", "J", false)
  | 4 => ("FalseNotesModel", "bottom", "J", false)
  | 5 => ("FalseNotesModel", "sort", "[I", true)
  | 6 => ("FalseNotesModel", "trayMany", "[I", true)
  | 7 => ("FalseNotesModel", "trays", "[J", true)
  | 8 => ("FalseNotesModel", "tape", "[B", true)
  | 9 => ("FalseNotesModel", "text", "[B", true)
  | 10 => ("FalseNotesModel", "taped", "I", false)
  | 11 => ("FalseNotesModel", "size", "I", false)
  | 12 => ("FalseNotesModel", "token", "I", false)
  | 13 => ("FalseNotesModel", "from", "I", false)
  | 14 => ("FalseNotesModel", "end", "I", false)
  | 15 => ("FalseNotesModel", "value", "I", false)
  | 16 => ("FalseNotesModel", "faultKind", "I", false)
  | 17 => ("FalseNotesModel", "faultPlace", "I", false)
  | 18 => ("FalseNotesModel", "faults", "I", false)
  | 19 => ("FalseNotesModel", "seen", "I", false)
  | 20 => ("FalseNotesModel", "told0", "I", false)
  | 21 => ("FalseNotesModel", "base", "I", false)
  | 22 => ("FalseNotesModel", "opened", "[I", true)
  | 23 => ("FalseNotesModel", "depth", "I", false)
  | 24 => ("FalseNotesModel", "counted", "I", false)
  | 25 => ("FalseNotesModel", "partsBy", "[I", true)
  | 26 => ("FalseNotesModel", "row", "[I", true)
  | 27 => ("FalseNotesModel", "drawn", "I", false)
  | 28 => ("FalseNotesModel", "ranSteps", "I", false)
  | 29 => ("FalseNotesModel", "loops", "[I", true)
  | 30 => ("FalseNotesModel", "ran", "[I", true)
  | 31 => ("FalseNotesModel", "told1", "[I", true)
  | 32 => ("FalseNotesModel", "isTold", "Z", false)
  | _ => ("FalseNotesModel", "marks", "I", false)
def t_Mod : Nat → FieldType := fun k => match k with
  | 0 => .array .int
  | 1 => .array .long
  | 2 => .int
  | 3 => .long
  | 4 => .long
  | 5 => .array .int
  | 6 => .array .int
  | 7 => .array .long
  | 8 => .array .byte
  | 9 => .array .byte
  | 10 => .int
  | 11 => .int
  | 12 => .int
  | 13 => .int
  | 14 => .int
  | 15 => .int
  | 16 => .int
  | 17 => .int
  | 18 => .int
  | 19 => .int
  | 20 => .int
  | 21 => .int
  | 22 => .array .int
  | 23 => .int
  | 24 => .int
  | 25 => .array .int
  | 26 => .array .int
  | 27 => .int
  | 28 => .int
  | 29 => .array .int
  | 30 => .array .int
  | 31 => .array .int
  | 32 => .boolean
  | _ => .int
abbrev vCl : List vw_C := [("FalseNotes$Choir", T_Choir, 16), ("FalseNotes$ChoirReader", T_CReader, 2), ("FalseNotes$Life", T_Life, 9), ("FalseNotes$Marks", T_Marks, 3), ("FalseNotes$Ties", T_Ties, 8), ("FalseNotes$Tokens", T_Tokens, 11), ("FalseNotes$Tray", T_Tray, 3), ("FalseNotes$Waiting", T_Waiting, 4), ("FalseNotes$Years", T_Years, 9), ("FalseNotes$YearsReader", T_YReader, 3), ("FalseNotes", T_FN, 19), ("FalseNotesModel", T_Mod, 34)]
def tyCl : List (Nat → FieldType) := [t_Choir, t_CReader, t_Life, t_Marks, t_Ties, t_Tokens, t_Tray, t_Waiting, t_Years, t_YReader, t_FN, t_Mod]
def DL : List (Nat × Nat × List (Nat × Nat)) := [(0, 10, [(3, 1), (3, 2), (4, 1003), (4, 3006), (4, 5008), (4, 12030), (4, 13037), (4, 14037), (4, 15011), (5, 11), (5, 11), (5, 23), (5, 23), (0, 0), (1, 0), (1, 0), (0, 0), (0, 0), (0, 0)]), (1, 103, [(20, 39), (21, 39), (22, 39), (23, 39)]), (2, 102, [(900, 0)]), (0, 1, [(4, 2004), (2, 0)]), (0, 5, [(5, 2), (0, 0), (0, 0), (0, 0), (0, 0), (0, 0), (0, 0), (0, 0), (0, 0), (1, 0), (0, 0)]), (1, 102, [(0, 0)]), (0, 9, [(4, 4004), (3, 7), (0, 0)]), (1, 100, [(3, 0)]), (0, 3, [(3, 9), (3, 10), (0, 0)]), (1, 104, [(6, 11), (8, 11), (10, 11)]), (2, 105, [(7, 23), (9, 23), (11, 23)]), (0, 0, [(3, 12), (3, 13), (3, 14), (3, 15), (3, 16), (3, 17), (3, 18), (3, 19), (0, 0), (0, 0), (0, 0), (0, 0), (0, 0), (0, 0), (0, 0), (0, 0)]), (1, 101, [(8, 0)]), (2, 100, [(8, 0)]), (3, 100, [(8, 0)]), (4, 100, [(8, 0)]), (5, 100, [(48, 0)]), (6, 100, [(48, 0)]), (7, 100, [(48, 0)]), (8, 7, [(3, 20), (3, 21), (3, 22), (0, 0)]), (9, 100, [(8, 0)]), (10, 100, [(8, 0)]), (11, 100, [(8, 0)]), (0, 8, [(3, 24), (3, 25), (3, 26), (3, 27), (3, 28), (3, 29), (0, 0), (0, 0), (2, 0)]), (1, 100, [(60, 0)]), (2, 100, [(60, 0)]), (3, 100, [(60, 0)]), (4, 100, [(60, 0)]), (5, 100, [(60, 0)]), (6, 100, [(60, 0)]), (0, 4, [(3, 31), (3, 32), (3, 33), (3, 34), (3, 35), (3, 36), (0, 0), (0, 0)]), (1, 100, [(8, 0)]), (2, 100, [(8, 0)]), (3, 100, [(8, 0)]), (4, 100, [(8, 0)]), (5, 100, [(256, 0)]), (6, 100, [(256, 0)]), (0, 2, [(3, 38), (2, 0), (0, 0), (0, 0), (0, 0), (0, 0), (0, 0), (0, 0), (0, 0)]), (1, 100, [(60, 0)]), (0, 6, [(3, 40), (0, 0), (0, 0)]), (1, 101, [(60, 0)]), (0, 11, [(3, 42), (3, 43), (0, 0), (1, 0), (1, 0), (3, 44), (3, 45), (3, 46), (3, 47), (3, 48), (0, 0), (0, 0), (0, 0), (0, 0), (0, 0), (0, 0), (0, 0), (0, 0), (0, 0), (0, 0), (0, 0), (0, 0), (3, 49), (0, 0), (0, 0), (3, 50), (3, 51), (0, 0), (0, 0), (3, 52), (3, 53), (3, 54), (2, 0), (0, 0)]), (1, 100, [(3612, 0)]), (2, 101, [(48, 0)]), (3, 100, [(4, 0)]), (4, 100, [(4, 0)]), (5, 101, [(240, 0)]), (6, 102, [(900, 0)]), (7, 102, [(900, 0)]), (8, 100, [(3, 0)]), (9, 100, [(256, 0)]), (10, 100, [(8, 0)]), (11, 100, [(80, 0)]), (12, 100, [(5, 0)]), (13, 100, [(5, 0)])]
def CL : List (Nat × Nat) := [(0, 0), (0, 1), (0, 2), (1, 3), (2, 4), (2, 5), (3, 6), (3, 7), (4, 4), (4, 5), (5, 8), (5, 9), (5, 10), (6, 11), (6, 12), (6, 13), (6, 14), (6, 15), (6, 16), (6, 17), (6, 18), (6, 19), (6, 20), (6, 21), (6, 22), (7, 23), (7, 24), (7, 25), (7, 26), (7, 27), (7, 28), (7, 29), (8, 11), (8, 12), (8, 13), (8, 14), (8, 15), (8, 16), (8, 17), (8, 18), (8, 19), (8, 20), (8, 21), (8, 22), (9, 23), (9, 24), (9, 25), (9, 26), (9, 27), (9, 28), (9, 29), (10, 11), (10, 12), (10, 13), (10, 14), (10, 15), (10, 16), (10, 17), (10, 18), (10, 19), (10, 20), (10, 21), (10, 22), (11, 23), (11, 24), (11, 25), (11, 26), (11, 27), (11, 28), (11, 29), (12, 30), (12, 31), (12, 32), (12, 33), (12, 34), (12, 35), (12, 36), (13, 37), (13, 38), (14, 37), (14, 38), (15, 11), (15, 12), (15, 13), (15, 14), (15, 15), (15, 16), (15, 17), (15, 18), (15, 19), (15, 20), (15, 21), (15, 22), (16, 11), (16, 12), (16, 13), (16, 14), (16, 15), (16, 16), (16, 17), (16, 18), (16, 19), (16, 20), (16, 21), (16, 22), (17, 11), (17, 12), (17, 13), (17, 14), (17, 15), (17, 16), (17, 17), (17, 18), (17, 19), (17, 20), (17, 21), (17, 22), (18, 23), (18, 24), (18, 25), (18, 26), (18, 27), (18, 28), (18, 29), (19, 23), (19, 24), (19, 25), (19, 26), (19, 27), (19, 28), (19, 29), (20, 39), (20, 40), (21, 39), (21, 40), (22, 39), (22, 40), (23, 39), (23, 40), (24, 41), (24, 42), (24, 43), (24, 44), (24, 45), (24, 46), (24, 47), (24, 48), (24, 49), (24, 50), (24, 51), (24, 52), (24, 53), (24, 54)]
end
section
def eD (E : EnvT) : va_G := E.1
def eA (E : EnvT) : Nat → Nat → Nat := E.2.1
def eC (E : EnvT) : Nat → ClassId := E.2.2.1
def eK (E : EnvT) : Nat → Nat := E.2.2.2.1
def eV (E : EnvT) : Nat → Nat := E.2.2.2.2.1
def eB (E : EnvT) : Nat := E.2.2.2.2.2
def Ab (E : EnvT) : Nat → Prop := fun q => eB E ≤ q
def dsc (dd : Nat) : Nat × Nat × List (Nat × Nat) := DL.getD dd (0, 999, [])
def al (E : EnvT) (r dd : Nat) : Nat := eA E r (dsc dd).1
def fval (E : EnvT) (M : Mem) (r c k : Nat) (q : Nat × Nat) : Value := match q.1 with
  | 0 => .int (iN (M r c k))
  | 1 => .long (lI (M r c k))
  | 2 => .int (iN (M r c k))
  | 3 => .ref (al E r q.2)
  | 4 => .ref (al E (q.2 / 1000) (q.2 % 1000))
  | _ => .ref (al E (M r c k).toNat q.2)
def flds (E : EnvT) (M : Mem) (r c : Nat) : Nat → List (Nat × Nat) → List Value
  | _, [] => []
  | k, q :: t => fval E M r c k q :: flds E M r c (k + 1) t
def cellOf (E : EnvT) (M : Mem) (r dd : Nat) : va_E :=
  if (dsc dd).2.1 < 100 then .inr ((dsc dd).2.1, flds E M r (dsc dd).1 0 (dsc dd).2.2)
  else if (dsc dd).2.1 = 100 then .inl (eC E 0, ((dsc dd).2.2.headD (0, 0)).1, .inl (fun k => iN (M r (dsc dd).1 k)))
  else if (dsc dd).2.1 = 101 then .inl (eC E 1, ((dsc dd).2.2.headD (0, 0)).1, .inr (.inl (fun k => lI (M r (dsc dd).1 k))))
  else if (dsc dd).2.1 = 102 then .inl (eC E 2, ((dsc dd).2.2.headD (0, 0)).1, .inl (fun k => iN (M r (dsc dd).1 k)))
  else .inl (eC E ((dsc dd).2.1 - 100), (dsc dd).2.2.length, .inr (.inr (.inr (.inr (fun k => ((dsc dd).2.2[k]?).map (fun q => al E q.1 q.2))))))
def WL (E : EnvT) (M : Mem) : va_W := CL.map (fun q => (al E q.1 q.2, cellOf E M q.1 q.2))
def tysE (E : EnvT) : List (ClassId × FieldType) := [(eC E 0, .int), (eC E 1, .long), (eC E 2, .byte), (eC E 3, .object "FalseNotes$Tray"), (eC E 4, .object "FalseNotes$Choir"), (eC E 5, .object "FalseNotes$Years")]
def cv (E : EnvT) (v : AV) : Value := match v.1 with
  | .ref r => if v.2 = 999 then .ref (eK E r) else .ref (al E r v.2)
  | x => x
def cvl (E : EnvT) (ls : LsT) : List (Nat × Value) := ls.map (fun q => (q.1, cv E q.2))
def TV (v : AV) : Prop := match v.1 with
  | .ref r => (v.2 = 999 ∧ r < 9) ∨ (v.2 ≠ 999 ∧ (r, v.2) ∈ CL)
  | _ => True
theorem cv_int (E : EnvT) (x : Int32) (d : Nat) : cv E (.int x, d) = .int x := rfl
theorem cv_long (E : EnvT) (x : Int64) (d : Nat) : cv E (.long x, d) = .long x := rfl
theorem cv_cat (E : EnvT) (v : AV) : (cv E v).category = v.1.category := by
  obtain ⟨v, d⟩ := v
  cases v with
  | ref r =>
    show (if d = 999 then Value.ref (eK E r) else Value.ref (al E r d)).category = _
    split <;> rfl
  | _ => rfl
theorem cv_ref (E : EnvT) (r d : Nat) : ∃ a, cv E (.ref r, d) = .ref a := by
  show ∃ a, (if d = 999 then Value.ref (eK E r) else Value.ref (al E r d)) = .ref a
  split
  · exact ⟨_, rfl⟩
  · exact ⟨_, rfl⟩
theorem lget_mem {ls : LsT} {k : Nat} {v : AV} (h : lget ls k = some v) : (k, v) ∈ ls := by
  induction ls with
  | nil => simp [lget] at h
  | cons q t ih =>
    obtain ⟨j, w⟩ := q
    unfold lget at h
    split at h
    · rename_i e
      subst e
      rw [Option.some.inj h]
      exact List.mem_cons_self
    · exact List.mem_cons_of_mem _ (ih h)
theorem cvl_lget {E : EnvT} {la : Array Slot} {n : Nat} {ls : LsT} (hl : lv_has la n (cvl E ls)) {k : Nat} {v : AV} (h : lget ls k = some v) : la[k]? = some (.val (cv E v)) :=
  hl.2.2 (k, cv E v) (List.mem_map.mpr ⟨(k, v), lget_mem h, rfl⟩)
theorem cvl_filter (E : EnvT) (ls : LsT) (f : Nat × AV → Bool) (g : Nat × Value → Bool) (h : ∀ q, g (q.1, cv E q.2) = f q) : (cvl E ls).filter g = cvl E (ls.filter f) := by
  induction ls with
  | nil => rfl
  | cons q t ih =>
    show ((q.1, cv E q.2) :: cvl E t).filter g = _
    rw [List.filter_cons, List.filter_cons, h q, ih]
    split <;> rfl
theorem cvl_lset (E : EnvT) (ls : LsT) (k : Nat) (v : AV) : (k, cv E v) :: (cvl E ls).filter (fun q => !(q.1 == k) && !(q.1 + 1 == k && q.2.category == 2)) = cvl E (lset ls k v) := by
  rw [cvl_filter E ls (fun q => !(q.1 == k) && !(q.1 + 1 == k && q.2.1.category == 2)) _ (fun q => by rw [cv_cat])]
  rfl
theorem cvl_lset2 (E : EnvT) (ls : LsT) (k : Nat) (v : AV) : (k, cv E v) :: (cvl E ls).filter (fun q => !(q.1 == k) && (!(q.1 == k + 1) && !(q.1 + 1 == k && q.2.category == 2))) = cvl E (lset2 ls k v) := by
  rw [cvl_filter E ls (fun q => !(q.1 == k) && (!(q.1 == k + 1) && !(q.1 + 1 == k && q.2.1.category == 2))) _ (fun q => by rw [cv_cat])]
  rfl
theorem lset_TV {ls : LsT} {k : Nat} {v : AV} (h : ∀ q ∈ ls, TV q.2) (hv : TV v) : ∀ q ∈ lset ls k v, TV q.2 := by
  intro q hq
  rcases List.mem_cons.mp hq with rfl | hq
  · exact hv
  · exact h q (List.mem_filter.mp hq).1
theorem lset2_TV {ls : LsT} {k : Nat} {v : AV} (h : ∀ q ∈ ls, TV q.2) (hv : TV v) : ∀ q ∈ lset2 ls k v, TV q.2 := by
  intro q hq
  rcases List.mem_cons.mp hq with rfl | hq
  · exact hv
  · exact h q (List.mem_filter.mp hq).1
theorem cons_TV {st : List AV} {v : AV} (h : ∀ q ∈ st, TV q) (hv : TV v) : ∀ q ∈ v :: st, TV q := by
  intro q hq
  rcases List.mem_cons.mp hq with rfl | hq
  · exact hv
  · exact h q hq
theorem lpick_spec {ls : LsT} : ∀ (ks : List Nat) {r : LsT}, lpick ls ks = some r → ∀ q ∈ r, q ∈ ls
  | [], r, h => by
    cases h
    intro q hq
    cases hq
  | k :: ks, r, h => by
    unfold lpick at h
    split at h
    · cases h
    · rename_i v hv
      split at h
      · cases h
      · rename_i r' hr'
        cases h
        intro q hq
        rcases List.mem_cons.mp hq with rfl | hq
        · exact lget_mem hv
        · exact lpick_spec ks hr' q hq
/-- strings: whose entry, its number there, the text, its number -/
def STRL : List (String × Nat × String × Nat) := [("FalseNotes$Tokens", 74, "singer purse bass cold deaf line owes heir hums lend to pay sunday die chord any when debt still loop end stop ", 0), ("FalseNotes$YearsReader", 88, "atbn", 1), ("FalseNotes$YearsReader", 90, "atbcn", 2), ("FalseNotes$YearsReader", 92, "acn", 3), ("FalseNotes$YearsReader", 94, "ab", 4), ("FalseNotes$YearsReader", 96, "a", 5), ("FalseNotes$YearsReader", 98, "n", 6), ("FalseNotes$YearsReader", 100, "", 7), ("FalseNotesModel", 193, " singer owes heir hums purse bass cold deaf line lend pay sunday die chord any to when loop end stop debt still ", 8)]
def STRN : List Nat := [111, 4, 5, 3, 2, 1, 1, 0, 112]
def STRB : List (List Int32) := [[115, 105, 110, 103, 101, 114, 32, 112, 117, 114, 115, 101, 32, 98, 97, 115, 115, 32, 99, 111, 108, 100, 32, 100, 101, 97, 102, 32, 108, 105, 110, 101, 32, 111, 119, 101, 115, 32, 104, 101, 105, 114, 32, 104, 117, 109, 115, 32, 108, 101, 110, 100, 32, 116, 111, 32, 112, 97, 121, 32, 115, 117, 110, 100, 97, 121, 32, 100, 105, 101, 32, 99, 104, 111, 114, 100, 32, 97, 110, 121, 32, 119, 104, 101, 110, 32, 100, 101, 98, 116, 32, 115, 116, 105, 108, 108, 32, 108, 111, 111, 112, 32, 101, 110, 100, 32, 115, 116, 111, 112, 32], [97, 116, 98, 110], [97, 116, 98, 99, 110], [97, 99, 110], [97, 98], [97], [110], [], [32, 115, 105, 110, 103, 101, 114, 32, 111, 119, 101, 115, 32, 104, 101, 105, 114, 32, 104, 117, 109, 115, 32, 112, 117, 114, 115, 101, 32, 98, 97, 115, 115, 32, 99, 111, 108, 100, 32, 100, 101, 97, 102, 32, 108, 105, 110, 101, 32, 108, 101, 110, 100, 32, 112, 97, 121, 32, 115, 117, 110, 100, 97, 121, 32, 100, 105, 101, 32, 99, 104, 111, 114, 100, 32, 97, 110, 121, 32, 116, 111, 32, 119, 104, 101, 110, 32, 108, 111, 111, 112, 32, 101, 110, 100, 32, 115, 116, 111, 112, 32, 100, 101, 98, 116, 32, 115, 116, 105, 108, 108, 32]]
def KK (E : EnvT) (U : State) : Prop := va_K (eD E) vCl (tysE E) U ∧ vk_S 9 STRN STRB (eK E) (eV E) (Ab E) U U.heap ∧ va_Z "java/lang/String" "COMPACT_STRINGS" "Z" (.int 1) (Ab E) U U.heap ∧ ∀ q ∈ STRL, vk_R q.1 q.2.1 q.2.2.1 (eK E q.2.2.2) U
theorem KK.move {E : EnvT} {s U : State} {H : Heap} {locs : List Loc} (h : KK E s) (hS : va_S (Ab E) s.heap H locs) (hU : U.heap = H) (hW : s.WarmedH U.vm) : KK E U := by
  obtain ⟨h1, h2, h3, h4⟩ := h
  refine ⟨va_K.moved hW.alike h1, ?_, ?_, fun q hq => (h4 q hq).warm hW⟩
  · have := (vk_S.kept h2 hS.2.1).moved hW.alike
    rw [hU]
    exact this
  · have := (va_Z.kept h3 hS.2.1).moved hW.alike
    rw [hU]
    exact this
theorem KK.call {E : EnvT} {U : State} (g : JFrame) (mk : MethodId) (a : Array Value) (h : KK E U) : KK E (U.calling g mk a) := by
  obtain ⟨h1, h2, h3, h4⟩ := h
  exact ⟨va_K.moved (u := U) (U := U.calling g mk a) (Vm.Alike.refl U.vm) h1, vk_S.moved (u := U) (U := U.calling g mk a) (Vm.Alike.refl U.vm) h2, va_Z.moved (u := U) (U := U.calling g mk a) (Vm.Alike.refl U.vm) h3, fun q hq => (h4 q hq).same rfl⟩
def HX (E : EnvT) (M : Mem) (H : Heap) : Prop := va_P (eD E) vCl (WL E M) H
def DX (E : EnvT) : Prop := va_D (Ab E) (WL E (fun _ _ _ => 0))
theorem WL_at (E : EnvT) (M : Mem) (i : Nat) : (WL E M)[i]? = (CL[i]?).map (fun q => (al E q.1 q.2, cellOf E M q.1 q.2)) := List.getElem?_map
theorem DX.all {E : EnvT} (h : DX E) (M : Mem) : va_D (Ab E) (WL E M) := by
  have key : ∀ (i : Nat) (p : Nat × va_E), (WL E M)[i]? = some p → ∃ p', (WL E (fun _ _ _ => 0))[i]? = some p' ∧ p'.1 = p.1 := by
    intro i p hp
    rw [WL_at] at hp ⊢
    cases hc : CL[i]? with
    | none => rw [hc] at hp; cases hp
    | some q =>
      rw [hc] at hp
      cases hp
      exact ⟨_, rfl, rfl⟩
  refine ⟨fun i j p q hp hq e => ?_, fun k q hq => ?_⟩
  · obtain ⟨p', h1, e1⟩ := key i p hp
    obtain ⟨q', h2, e2⟩ := key j q hq
    exact h.1 i j p' q' h1 h2 (by rw [e1, e2, e])
  · obtain ⟨q', h2, e2⟩ := key k q hq
    rw [← e2]
    exact h.2 k q' h2
theorem CL_nd : CL.Nodup := by decide +kernel
def WS (mi : MI) : List Cond := .code mi.1 mi.2.1 mi.2.2.1 mi.2.2.2.1 :: lw_tbl.filter goodWord
def rmD (d : Nat) : Room := { frames := d, cells := 0, slots := 0, locals := 64 * d }
def rk : Option FieldType → Nat
  | none => 0
  | some .long => 2
  | some (.object _) => 3
  | some (.array _) => 3
  | _ => 1
def Qr (mi : MI) (E : EnvT) (r : AV) (o : Outcome) : Prop := match rk mi.2.2.2.1 with
  | 0 => o = .returned none
  | 1 => ∃ x, r = (.int x, 0) ∧ o = .returned (some (.int x))
  | 2 => ∃ x, r = (.long x, 0) ∧ o = .returned (some (.long x))
  | _ => ∃ x, r = (.ref x, 999) ∧ x < 9 ∧ o = .returned (some (.ref (eK E x)))
def QQ (E : EnvT) (mi : MI) (K : AV → Mem → Prop) : Array Value → State → Outcome → State → Prop := fun _ st o t => (∃ r M', K r M' ∧ Qr mi E r o ∧ HX E M' t.heap) ∧ va_F (Ab E) st t
def CT (l : Launch) (E : EnvT) (d : Nat) (mi : MI) (as : List AV) (M : Mem) (K : AV → Mem → Prop) : Prop :=
  (∀ a ∈ as, TV a) → Met l mi.1 (WS mi) (rmD d) (va_Pc (as.map (cv E)) (fun U => HX E M U.heap ∧ KK E U ∧ DX E ∧ eB E ≤ U.heap.size)) (QQ E mi K) 0 0 (Ab E)
def CX (E : EnvT) (mi : MI) (p : Program) (s : State) (m : MethodId) (args : Array Value) (meth : Method) (c : Code) : Prop :=
  p.tables.exec = Jvm.exec ∧ c.code = mi.2.1 ∧ c.maxLocals = mi.2.2.1 ∧ s.vm.findClass mi.1.cls = some m.cls ∧ (∀ w ∈ WS mi, w.before args s = true) ∧ meth.sig.returnType = mi.2.2.2.1 ∧ meth.locks = false ∧ KK E s ∧ DX E ∧ eB E ≤ s.heap.size
def G (l : Launch) (E : EnvT) (d : Nat) (mi : MI) (pc : Nat) (ls : LsT) (st : List AV) (M : Mem) (K : AV → Mem → Prop) : Prop :=
  ∀ (p : Program) (e : Env) (s : State) (m : MethodId) (args : Array Value) (below : List Frame) (meth : Method) (c : Code) (H : Heap) (locs : List Loc) (la : Array Slot), CX E mi p s m args meth c → HX E M H → va_S (Ab E) s.heap H locs → (∀ q ∈ ls, TV q.2) → (∀ v ∈ st, TV v) → lv_has la mi.2.2.1 (cvl E ls) →
    W p l e (rmD d) s m args below meth c H locs 0 0 (MQ below (QQ E mi K) args s 0 0 (Ab E)) (F0 m pc la (st.map (cv E)))
theorem G.pick {l : Launch} {E : EnvT} {d : Nat} {mi : MI} {pc : Nat} {ls ls' : LsT} {st : List AV} {M : Mem} {K : AV → Mem → Prop} (ks : List Nat) (h : lpick ls ks = some ls') (g : G l E d mi pc ls' st M K) : G l E d mi pc ls st M K := by
  intro p e s m args below meth c H locs la hC hH hS hT1 hT2 hl
  refine g p e s m args below meth c H locs la hC hH hS (fun q hq => hT1 q (lpick_spec ks h q hq)) hT2 ⟨hl.1, hl.2.1, fun q hq => ?_⟩
  obtain ⟨q', h1, rfl⟩ := List.mem_map.mp hq
  exact hl.2.2 _ (List.mem_map.mpr ⟨q', lpick_spec ks h q' h1, rfl⟩)
end
section
def aargs : Nat → List AV → LsT
  | _, [] => []
  | i, v :: vs => (i, v) :: aargs (if v.1.category = 2 then i + 2 else i + 1) vs
theorem aargs_cv (E : EnvT) : ∀ (as : List AV) (i : Nat), lv_args i (as.map (cv E)) = cvl E (aargs i as)
  | [], _ => rfl
  | v :: vs, i => by
    show (i, cv E v) :: lv_args (if (cv E v).category = 2 then i + 2 else i + 1) (vs.map (cv E)) = _
    rw [cv_cat, aargs_cv E vs]
    rfl
theorem aargs_TV : ∀ (as : List AV) (i : Nat), (∀ a ∈ as, TV a) → ∀ q ∈ aargs i as, TV q.2
  | [], _, _ => fun q hq => by cases hq
  | v :: vs, i, h => fun q hq => by
    rcases List.mem_cons.mp hq with rfl | hq
    · exact h v List.mem_cons_self
    · exact aargs_TV vs _ (fun a ha => h a (List.mem_cons_of_mem _ ha)) q hq
def asz : List AV → Nat
  | [] => 0
  | v :: vs => (if v.1.category = 2 then 2 else 1) + asz vs
theorem asz_cv (E : EnvT) : ∀ as : List AV, (lg_sl (as.map (cv E))).length = asz as
  | [] => rfl
  | v :: vs => by
    have h := asz_cv E vs
    have hc := cv_cat E v
    have e : lg_sl ((v :: vs).map (cv E)) = (if (cv E v).category = 2 then [.val (cv E v), .second] else [.val (cv E v)]) ++ lg_sl (vs.map (cv E)) := rfl
    rw [e, hc, List.length_append, h]
    show _ = (if v.1.category = 2 then 2 else 1) + asz vs
    split <;> rfl
theorem CT.of {l : Launch} {E : EnvT} {d : Nat} {mi : MI} {as : List AV} {M : Mem} {K : AV → Mem → Prop} (hy : plainName mi.1.cls = true) (hn : asz as ≤ mi.2.2.1) (g : G l E d mi 0 (aargs 0 as) [] M K) : CT l E d mi as M K := by
  intro hT
  refine Met.ofW (cc := mi.2.1) (maxL := mi.2.2.1) (ret := mi.2.2.2.1) hy rfl ?_
  intro p e s m args below meth c s₁ B hml hv
  obtain ⟨rfl, hH, hK, hD, hb⟩ := hv
  have he := lv_entry (as.map (cv E)) (n := mi.2.2.1) (by rw [asz_cv]; exact hn)
  rw [aargs_cv] at he
  rw [lg_entry_eq]
  exact g p e s m _ below meth c s.heap [] _ ⟨B.exec, B.bytes, hml, findClass_of_methodNamed B.named, atoms_spec (ws := WS mi) B.pre, B.returns, B.notSynchronized, hK, hD, hb⟩ hH va_S.rf (aargs_TV as 0 hT) (fun v hv => by cases hv) he
def ilen : Instr → Nat
  | .bipush _ => 2
  | .sipush _ => 3
  | .ldc _ => 2
  | .ldc_w _ => 3
  | .ldc2_w _ => 3
  | .iload _ => 2
  | .lload _ => 2
  | .aload _ => 2
  | .istore _ => 2
  | .lstore _ => 2
  | .astore _ => 2
  | .iinc _ _ => 3
  | .getfield _ => 3
  | .putfield _ => 3
  | .invokevirtual _ => 3
  | .invokestatic _ => 3
  | .goto _ => 3
  | .if_icmp _ _ => 3
  | .ifCond _ _ => 3
  | _ => 1

theorem sK_inv {ls ls' : LsT} {st st' : List AV} {v : Value} (h : sK ls st v = some (ls', st')) : ls' = ls ∧ st' = (v, 0) :: st := by
  cases h
  exact ⟨rfl, rfl⟩
theorem sBin_inv {f : Int32 → Int32 → Int32} {ls ls' : LsT} {st st' : List AV} (h : sBin f ls st = some (ls', st')) : ∃ x y dx dy t, st = (.int y, dy) :: (.int x, dx) :: t ∧ ls' = ls ∧ st' = (.int (f x y), 0) :: t := by
  unfold sBin at h
  split at h
  · cases h
    exact ⟨_, _, _, _, _, rfl, rfl, rfl⟩
  · cases h
theorem sBinL_inv {f : Int64 → Int64 → Int64} {ls ls' : LsT} {st st' : List AV} (h : sBinL f ls st = some (ls', st')) : ∃ x y dx dy t, st = (.long y, dy) :: (.long x, dx) :: t ∧ ls' = ls ∧ st' = (.long (f x y), 0) :: t := by
  unfold sBinL at h
  split at h
  · cases h
    exact ⟨_, _, _, _, _, rfl, rfl, rfl⟩
  · cases h
theorem sShL_inv {f : Int64 → Int32 → Int64} {ls ls' : LsT} {st st' : List AV} (h : sShL f ls st = some (ls', st')) : ∃ x y dx dy t, st = (.int y, dy) :: (.long x, dx) :: t ∧ ls' = ls ∧ st' = (.long (f x y), 0) :: t := by
  unfold sShL at h
  split at h
  · cases h
    exact ⟨_, _, _, _, _, rfl, rfl, rfl⟩
  · cases h
theorem sCmp_inv {ls ls' : LsT} {st st' : List AV} (h : sCmp ls st = some (ls', st')) : ∃ x y dx dy t, st = (.long y, dy) :: (.long x, dx) :: t ∧ ls' = ls ∧ st' = (.int (lg_cmp x y), 0) :: t := by
  unfold sCmp at h
  split at h
  · cases h
    exact ⟨_, _, _, _, _, rfl, rfl, rfl⟩
  · cases h
theorem sUn_inv {f : Int32 → Int32} {ls ls' : LsT} {st st' : List AV} (h : sUn f ls st = some (ls', st')) : ∃ x dx t, st = (.int x, dx) :: t ∧ ls' = ls ∧ st' = (.int (f x), 0) :: t := by
  unfold sUn at h
  split at h
  · cases h
    exact ⟨_, _, _, rfl, rfl, rfl⟩
  · cases h
theorem sIL_inv {ls ls' : LsT} {st st' : List AV} (h : sIL ls st = some (ls', st')) : ∃ x dx t, st = (.int x, dx) :: t ∧ ls' = ls ∧ st' = (.long x.toInt64, 0) :: t := by
  unfold sIL at h
  split at h
  · cases h
    exact ⟨_, _, _, rfl, rfl, rfl⟩
  · cases h
theorem sLI_inv {ls ls' : LsT} {st st' : List AV} (h : sLI ls st = some (ls', st')) : ∃ x dx t, st = (.long x, dx) :: t ∧ ls' = ls ∧ st' = (.int x.toInt32, 0) :: t := by
  unfold sLI at h
  split at h
  · cases h
    exact ⟨_, _, _, rfl, rfl, rfl⟩
  · cases h
theorem sLoadI_inv {ls ls' : LsT} {st st' : List AV} {k : Nat} (h : sLoadI ls st k = some (ls', st')) : ∃ x d, lget ls k = some (.int x, d) ∧ ls' = ls ∧ st' = (.int x, 0) :: st := by
  unfold sLoadI at h
  split at h
  · rename_i x d e
    cases h
    exact ⟨x, d, e, rfl, rfl⟩
  · cases h
theorem sLoadL_inv {ls ls' : LsT} {st st' : List AV} {k : Nat} (h : sLoadL ls st k = some (ls', st')) : ∃ x d, lget ls k = some (.long x, d) ∧ ls' = ls ∧ st' = (.long x, 0) :: st := by
  unfold sLoadL at h
  split at h
  · rename_i x d e
    cases h
    exact ⟨x, d, e, rfl, rfl⟩
  · cases h
theorem sLoadA_inv {ls ls' : LsT} {st st' : List AV} {k : Nat} (h : sLoadA ls st k = some (ls', st')) : ∃ x d, lget ls k = some (.ref x, d) ∧ ls' = ls ∧ st' = (.ref x, d) :: st := by
  unfold sLoadA at h
  split at h
  · rename_i x d e
    cases h
    exact ⟨x, d, e, rfl, rfl⟩
  · cases h
theorem sInc_inv {ls ls' : LsT} {st st' : List AV} {k : Nat} {n : Int} (h : sInc ls st k n = some (ls', st')) : ∃ x d, lget ls k = some (.int x, d) ∧ ls' = lset ls k (.int (x + iN n), 0) ∧ st' = st := by
  unfold sInc at h
  split at h
  · rename_i x d e
    cases h
    exact ⟨x, d, e, rfl, rfl⟩
  · cases h
theorem sStoI_inv {ls ls' : LsT} {st st' : List AV} {k : Nat} (h : sStoI ls st k = some (ls', st')) : ∃ x d, st = (.int x, d) :: st' ∧ ls' = lset ls k (.int x, 0) := by
  unfold sStoI at h
  split at h
  · cases h
    exact ⟨_, _, rfl, rfl⟩
  · cases h
theorem sStoL_inv {ls ls' : LsT} {st st' : List AV} {k : Nat} (h : sStoL ls st k = some (ls', st')) : ∃ x d, st = (.long x, d) :: st' ∧ ls' = lset2 ls k (.long x, 0) := by
  unfold sStoL at h
  split at h
  · cases h
    exact ⟨_, _, rfl, rfl⟩
  · cases h
theorem sStoA_inv {ls ls' : LsT} {st st' : List AV} {k : Nat} (h : sStoA ls st k = some (ls', st')) : ∃ x d, st = (.ref x, d) :: st' ∧ ls' = lset ls k (.ref x, d) := by
  unfold sStoA at h
  split at h
  · cases h
    exact ⟨_, _, rfl, rfl⟩
  · cases h
theorem sPop_inv {ls ls' : LsT} {st st' : List AV} (h : sPop ls st = some (ls', st')) : ∃ x d, st = (.int x, d) :: st' ∧ ls' = ls := by
  unfold sPop at h
  split at h
  · cases h
    exact ⟨_, _, rfl, rfl⟩
  · cases h
theorem sDup_inv {ls ls' : LsT} {st st' : List AV} (h : sDup ls st = some (ls', st')) : ∃ v t, st = v :: t ∧ v.1.category = 1 ∧ ls' = ls ∧ st' = v :: v :: t := by
  unfold sDup at h
  split at h
  · cases h
    exact ⟨_, _, rfl, rfl, rfl, rfl⟩
  · cases h
    exact ⟨_, _, rfl, rfl, rfl, rfl⟩
  · cases h
theorem sDup2_inv {ls ls' : LsT} {st st' : List AV} (h : sDup2 ls st = some (ls', st')) : ∃ v u t, st = v :: u :: t ∧ v.1.category = 1 ∧ u.1.category = 1 ∧ ls' = ls ∧ st' = v :: u :: v :: u :: t := by
  unfold sDup2 at h
  split at h
  · cases h
    exact ⟨_, _, _, rfl, rfl, rfl, rfl, rfl⟩
  · cases h
theorem i8_eq {n : Int} (h : n = (Int8.ofInt n).toInt) : (Int8.ofInt n).toInt32 = iN n := by
  unfold iN
  rw [← Int32.toInt_inj]
  have h1 : ((Int8.ofInt n).toInt32).toInt = (Int8.ofInt n).toInt := by simp
  rw [h1, ← h, Int32.toInt_ofInt]
  have h2 := Int8.le_toInt (Int8.ofInt n)
  have h3 := Int8.toInt_lt (Int8.ofInt n)
  rw [← h] at h2 h3
  have h4 : (Int32.size : Int) = 4294967296 := rfl
  exact (Int.bmod_eq_of_le (by omega) (by omega)).symm
theorem i16_eq {n : Int} (h : n = (Int16.ofInt n).toInt) : (Int16.ofInt n).toInt32 = iN n := by
  unfold iN
  rw [← Int32.toInt_inj]
  have h1 : ((Int16.ofInt n).toInt32).toInt = (Int16.ofInt n).toInt := by simp
  rw [h1, ← h, Int32.toInt_ofInt]
  have h2 := Int16.le_toInt (Int16.ofInt n)
  have h3 := Int16.toInt_lt (Int16.ofInt n)
  rw [← h] at h2 h3
  have h4 : (Int32.size : Int) = 4294967296 := rfl
  exact (Int.bmod_eq_of_le (by omega) (by omega)).symm
/-- what a program asks of an instruction that leaves memory alone -/
def okS (mi : MI) (ins : Instr) (aux : Nat) (z : Int) (h : Nat) : Bool := match ins with
  | .bipush n => decide (n = (Int8.ofInt n).toInt)
  | .sipush n => decide (n = (Int16.ofInt n).toInt)
  | .istore k => decide (k < mi.2.2.1)
  | .istore_n k => decide ((k : Nat) < mi.2.2.1)
  | .astore k => decide (k < mi.2.2.1)
  | .astore_n k => decide ((k : Nat) < mi.2.2.1)
  | .lstore k => decide (k + 1 < mi.2.2.1)
  | .lstore_n k => decide ((k : Nat) + 1 < mi.2.2.1)
  | .iinc k _ => decide (k < mi.2.2.1)
  | .ldc i => if aux = 1 then decide (lw_tbl[h]? = some (.constant mi.1.cls i (iN z))) else decide (z.toNat < 9 ∧ ∃ q ∈ STRL, q.1 = mi.1.cls ∧ q.2.1 = i ∧ q.2.2.2 = z.toNat)
  | .ldc_w i => decide (lw_tbl[h]? = some (.constant mi.1.cls i (iN z)))
  | .ldc2_w i => decide (lw_tbl[h]? = some (.constantLong mi.1.cls i (lI z)))
  | _ => true
theorem in_WS {mi : MI} {w : Cond} {h : Nat} (hw : lw_tbl[h]? = some w) (hg : goodWord w = true) : w ∈ WS mi := List.mem_cons_of_mem _ (List.mem_filter.mpr ⟨List.mem_of_getElem? hw, hg⟩)

set_option maxHeartbeats 4000000 in
theorem stepS_ok {l : Launch} {E : EnvT} {d : Nat} {mi : MI} {ins : Instr} {len aux h pc : Nat} {z : Int} {ls ls' : LsT} {st st' : List AV} {Q : State → Prop} {p : Program} {e : Env} {s : State} {m : MethodId} {args : Array Value} {below : List Frame} {meth : Method} {c : Code} {H : Heap} {locs : List Loc} {la : Array Slot}
    (hC : CX E mi p s m args meth c) (hdec : decode mi.2.1 pc = .ok (ins, len)) (hlen : len = ilen ins) (hok : okS mi ins aux z h = true) (hs : stepS ins aux z ls st = some (ls', st')) (hT1 : ∀ q ∈ ls, TV q.2) (hT2 : ∀ v ∈ st, TV v) (hl : lv_has la mi.2.2.1 (cvl E ls))
    (k : ∀ la' : Array Slot, (∀ q ∈ ls', TV q.2) → (∀ v ∈ st', TV v) → lv_has la' mi.2.2.1 (cvl E ls') → W p l e (rmD d) s m args below meth c H locs 0 0 Q (F0 m (pc + len) la' (st'.map (cv E)))) :
    W p l e (rmD d) s m args below meth c H locs 0 0 Q (F0 m pc la (st.map (cv E))) := by
  obtain ⟨hx, hb, hml, hown, hts, hr, hlocks, hKK, hDX, hbs⟩ := hC
  subst hlen
  cases ins with
  | iconst n =>
    obtain ⟨rfl, rfl⟩ := sK_inv hs
    exact lv_iconst hx hb hdec rfl (k la hT1 (cons_TV hT2 trivial) hl)
  | bipush n =>
    obtain ⟨rfl, rfl⟩ := sK_inv hs
    exact lv_bipush hx hb hdec (i8_eq (of_decide_eq_true hok)) (k la hT1 (cons_TV hT2 trivial) hl)
  | sipush n =>
    obtain ⟨rfl, rfl⟩ := sK_inv hs
    exact lv_sipush hx hb hdec (i16_eq (of_decide_eq_true hok)) (k la hT1 (cons_TV hT2 trivial) hl)
  | lconst n =>
    obtain ⟨rfl, rfl⟩ := sK_inv hs
    exact lv_lconst hx hb hdec (by unfold lI; obtain ⟨n, hn⟩ := n; match n, hn with | 0, _ => rfl | 1, _ => rfl) (k la hT1 (cons_TV hT2 trivial) hl)
  | ldc i =>
    simp only [stepS] at hs
    split at hs
    · rename_i ha
      obtain ⟨rfl, rfl⟩ := sK_inv hs
      simp only [okS, ha, if_true] at hok
      exact lv_ldc hx hb hown (hts _ (in_WS (of_decide_eq_true hok) rfl)) hdec (k la hT1 (cons_TV hT2 trivial) hl)
    · rename_i ha
      split at hs
      · cases hs
        simp only [okS, if_neg ha] at hok
        obtain ⟨hz, q, hq, e1, e2, e3⟩ := of_decide_eq_true hok
        have hR := hKK.2.2.2 q hq
        rw [e1, e2, e3] at hR
        have hk := k la hT1 (cons_TV hT2 (Or.inl ⟨rfl, hz⟩)) hl
        exact va_ldcS hx hb hown hR hdec hk
      · cases hs
  | ldc_w i =>
    simp only [stepS] at hs
    split at hs
    · obtain ⟨rfl, rfl⟩ := sK_inv hs
      exact lv_ldcw hx hb hown (hts _ (in_WS (of_decide_eq_true hok) rfl)) hdec (k la hT1 (cons_TV hT2 trivial) hl)
    · cases hs
  | ldc2_w i =>
    simp only [stepS] at hs
    split at hs
    · obtain ⟨rfl, rfl⟩ := sK_inv hs
      exact lv_ldc2 hx hb hown (hts _ (in_WS (of_decide_eq_true hok) rfl)) hdec (k la hT1 (cons_TV hT2 trivial) hl)
    · cases hs
  | iload j =>
    obtain ⟨x, dx, e, rfl, rfl⟩ := sLoadI_inv hs
    exact lv_iload hx hb hdec (cvl_lget hl e) (k la hT1 (cons_TV hT2 trivial) hl)
  | iload_n j =>
    obtain ⟨x, dx, e, rfl, rfl⟩ := sLoadI_inv hs
    exact lv_iload_n hx hb hdec rfl (cvl_lget hl e) (k la hT1 (cons_TV hT2 trivial) hl)
  | lload j =>
    obtain ⟨x, dx, e, rfl, rfl⟩ := sLoadL_inv hs
    exact lv_lload hx hb hdec (cvl_lget hl e) (k la hT1 (cons_TV hT2 trivial) hl)
  | lload_n j =>
    obtain ⟨x, dx, e, rfl, rfl⟩ := sLoadL_inv hs
    exact lv_lload_n hx hb hdec rfl (cvl_lget hl e) (k la hT1 (cons_TV hT2 trivial) hl)
  | aload j =>
    obtain ⟨x, dx, e, rfl, rfl⟩ := sLoadA_inv hs
    obtain ⟨a, ha⟩ := cv_ref E x dx
    have hk := k la hT1 (cons_TV hT2 (hT1 _ (lget_mem e))) hl
    have hg := cvl_lget hl e
    rw [ha] at hg
    simp only [List.map_cons, ha] at hk
    exact lv_aload hx hb hdec hg hk
  | aload_n j =>
    obtain ⟨x, dx, e, rfl, rfl⟩ := sLoadA_inv hs
    obtain ⟨a, ha⟩ := cv_ref E x dx
    have hk := k la hT1 (cons_TV hT2 (hT1 _ (lget_mem e))) hl
    have hg := cvl_lget hl e
    rw [ha] at hg
    simp only [List.map_cons, ha] at hk
    exact lv_aload_n hx hb hdec rfl hg hk
  | istore j =>
    obtain ⟨x, dx, rfl, rfl⟩ := sStoI_inv hs
    exact lv_istore hx hb hdec hl (of_decide_eq_true hok) (cvl_lset E ls _ (.int x, 0)) (fun la2 hl2 => k la2 (lset_TV hT1 trivial) (fun v hv => hT2 v (List.mem_cons_of_mem _ hv)) hl2)
  | lstore j =>
    obtain ⟨x, dx, rfl, rfl⟩ := sStoL_inv hs
    exact lv_lstore hx hb hdec hl (of_decide_eq_true hok) (cvl_lset2 E ls _ (.long x, 0)) (fun la2 hl2 => k la2 (lset2_TV hT1 trivial) (fun v hv => hT2 v (List.mem_cons_of_mem _ hv)) hl2)
  | astore j =>
    obtain ⟨x, dx, rfl, rfl⟩ := sStoA_inv hs
    obtain ⟨a, ha⟩ := cv_ref E x dx
    have hset := cvl_lset E ls (j : Nat) (.ref x, dx)
    rw [ha] at hset
    simp only [List.map_cons, ha]
    exact lv_astore hx hb hdec hl (of_decide_eq_true hok) hset (fun la2 hl2 => k la2 (lset_TV hT1 (hT2 _ List.mem_cons_self)) (fun v hv => hT2 v (List.mem_cons_of_mem _ hv)) hl2)
  | istore_n j =>
    obtain ⟨x, dx, rfl, rfl⟩ := sStoI_inv hs
    exact lv_istore_n hx hb hdec rfl hl (of_decide_eq_true hok) (cvl_lset E ls _ (.int x, 0)) (fun la2 hl2 => k la2 (lset_TV hT1 trivial) (fun v hv => hT2 v (List.mem_cons_of_mem _ hv)) hl2)
  | lstore_n j =>
    obtain ⟨x, dx, rfl, rfl⟩ := sStoL_inv hs
    exact lv_lstore_n hx hb hdec rfl hl (of_decide_eq_true hok) (cvl_lset2 E ls _ (.long x, 0)) (fun la2 hl2 => k la2 (lset2_TV hT1 trivial) (fun v hv => hT2 v (List.mem_cons_of_mem _ hv)) hl2)
  | astore_n j =>
    obtain ⟨x, dx, rfl, rfl⟩ := sStoA_inv hs
    obtain ⟨a, ha⟩ := cv_ref E x dx
    have hset := cvl_lset E ls (j : Nat) (.ref x, dx)
    rw [ha] at hset
    simp only [List.map_cons, ha]
    exact lv_astore_n hx hb hdec rfl hl (of_decide_eq_true hok) hset (fun la2 hl2 => k la2 (lset_TV hT1 (hT2 _ List.mem_cons_self)) (fun v hv => hT2 v (List.mem_cons_of_mem _ hv)) hl2)
  | iinc j n =>
    obtain ⟨x, dx, e, rfl, rfl⟩ := sInc_inv hs
    have hm : (j, cv E (.int x, dx)) ∈ cvl E ls := List.mem_map.mpr ⟨(j, (.int x, dx)), lget_mem e, rfl⟩
    obtain ⟨i, hi⟩ := List.getElem?_of_mem hm
    exact lv_iinc (v := x + iN n) hx hb hdec hl hi rfl (of_decide_eq_true hok) (cvl_lset E ls _ (.int (x + iN n), 0)) (fun la2 hl2 => k la2 (lset_TV hT1 trivial) hT2 hl2)
  | iadd =>
    obtain ⟨x, y, dx, dy, t, rfl, rfl, rfl⟩ := sBin_inv hs
    exact lv_iadd hx hb hdec (k la hT1 (cons_TV (fun v hv => hT2 v (List.mem_cons_of_mem _ (List.mem_cons_of_mem _ hv))) trivial) hl)
  | isub =>
    obtain ⟨x, y, dx, dy, t, rfl, rfl, rfl⟩ := sBin_inv hs
    exact lv_isub hx hb hdec (k la hT1 (cons_TV (fun v hv => hT2 v (List.mem_cons_of_mem _ (List.mem_cons_of_mem _ hv))) trivial) hl)
  | imul =>
    obtain ⟨x, y, dx, dy, t, rfl, rfl, rfl⟩ := sBin_inv hs
    exact lv_imul hx hb hdec (k la hT1 (cons_TV (fun v hv => hT2 v (List.mem_cons_of_mem _ (List.mem_cons_of_mem _ hv))) trivial) hl)
  | iand =>
    obtain ⟨x, y, dx, dy, t, rfl, rfl, rfl⟩ := sBin_inv hs
    exact lv_iand hx hb hdec (k la hT1 (cons_TV (fun v hv => hT2 v (List.mem_cons_of_mem _ (List.mem_cons_of_mem _ hv))) trivial) hl)
  | ior =>
    obtain ⟨x, y, dx, dy, t, rfl, rfl, rfl⟩ := sBin_inv hs
    exact lv_ior hx hb hdec (k la hT1 (cons_TV (fun v hv => hT2 v (List.mem_cons_of_mem _ (List.mem_cons_of_mem _ hv))) trivial) hl)
  | ixor =>
    obtain ⟨x, y, dx, dy, t, rfl, rfl, rfl⟩ := sBin_inv hs
    exact lv_ixor hx hb hdec (k la hT1 (cons_TV (fun v hv => hT2 v (List.mem_cons_of_mem _ (List.mem_cons_of_mem _ hv))) trivial) hl)
  | ishl =>
    obtain ⟨x, y, dx, dy, t, rfl, rfl, rfl⟩ := sBin_inv hs
    exact lv_ishl hx hb hdec (k la hT1 (cons_TV (fun v hv => hT2 v (List.mem_cons_of_mem _ (List.mem_cons_of_mem _ hv))) trivial) hl)
  | ishr =>
    obtain ⟨x, y, dx, dy, t, rfl, rfl, rfl⟩ := sBin_inv hs
    exact lv_ishr hx hb hdec (k la hT1 (cons_TV (fun v hv => hT2 v (List.mem_cons_of_mem _ (List.mem_cons_of_mem _ hv))) trivial) hl)
  | iushr =>
    obtain ⟨x, y, dx, dy, t, rfl, rfl, rfl⟩ := sBin_inv hs
    exact lv_iushr hx hb hdec rfl (k la hT1 (cons_TV (fun v hv => hT2 v (List.mem_cons_of_mem _ (List.mem_cons_of_mem _ hv))) trivial) hl)
  | ineg =>
    obtain ⟨x, dx, t, rfl, rfl, rfl⟩ := sUn_inv hs
    exact lv_ineg hx hb hdec (k la hT1 (cons_TV (fun v hv => hT2 v (List.mem_cons_of_mem _ hv)) trivial) hl)
  | i2b =>
    obtain ⟨x, dx, t, rfl, rfl, rfl⟩ := sUn_inv hs
    exact lv_i2b hx hb hdec rfl (k la hT1 (cons_TV (fun v hv => hT2 v (List.mem_cons_of_mem _ hv)) trivial) hl)
  | i2s =>
    obtain ⟨x, dx, t, rfl, rfl, rfl⟩ := sUn_inv hs
    exact lv_i2s hx hb hdec rfl (k la hT1 (cons_TV (fun v hv => hT2 v (List.mem_cons_of_mem _ hv)) trivial) hl)
  | i2c =>
    obtain ⟨x, dx, t, rfl, rfl, rfl⟩ := sUn_inv hs
    exact lv_i2c hx hb hdec rfl (k la hT1 (cons_TV (fun v hv => hT2 v (List.mem_cons_of_mem _ hv)) trivial) hl)
  | ladd =>
    obtain ⟨x, y, dx, dy, t, rfl, rfl, rfl⟩ := sBinL_inv hs
    exact lv_ladd hx hb hdec (k la hT1 (cons_TV (fun v hv => hT2 v (List.mem_cons_of_mem _ (List.mem_cons_of_mem _ hv))) trivial) hl)
  | lsub =>
    obtain ⟨x, y, dx, dy, t, rfl, rfl, rfl⟩ := sBinL_inv hs
    exact lv_lsub hx hb hdec (k la hT1 (cons_TV (fun v hv => hT2 v (List.mem_cons_of_mem _ (List.mem_cons_of_mem _ hv))) trivial) hl)
  | lmul =>
    obtain ⟨x, y, dx, dy, t, rfl, rfl, rfl⟩ := sBinL_inv hs
    exact lv_lmul hx hb hdec (k la hT1 (cons_TV (fun v hv => hT2 v (List.mem_cons_of_mem _ (List.mem_cons_of_mem _ hv))) trivial) hl)
  | land =>
    obtain ⟨x, y, dx, dy, t, rfl, rfl, rfl⟩ := sBinL_inv hs
    exact lv_land hx hb hdec (k la hT1 (cons_TV (fun v hv => hT2 v (List.mem_cons_of_mem _ (List.mem_cons_of_mem _ hv))) trivial) hl)
  | lor =>
    obtain ⟨x, y, dx, dy, t, rfl, rfl, rfl⟩ := sBinL_inv hs
    exact lv_lor hx hb hdec (k la hT1 (cons_TV (fun v hv => hT2 v (List.mem_cons_of_mem _ (List.mem_cons_of_mem _ hv))) trivial) hl)
  | lshl =>
    obtain ⟨x, y, dx, dy, t, rfl, rfl, rfl⟩ := sShL_inv hs
    exact lv_lshl hx hb hdec rfl (k la hT1 (cons_TV (fun v hv => hT2 v (List.mem_cons_of_mem _ (List.mem_cons_of_mem _ hv))) trivial) hl)
  | i2l =>
    obtain ⟨x, dx, t, rfl, rfl, rfl⟩ := sIL_inv hs
    exact lv_i2l hx hb hdec rfl (k la hT1 (cons_TV (fun v hv => hT2 v (List.mem_cons_of_mem _ hv)) trivial) hl)
  | l2i =>
    obtain ⟨x, dx, t, rfl, rfl, rfl⟩ := sLI_inv hs
    exact lv_l2i hx hb hdec rfl (k la hT1 (cons_TV (fun v hv => hT2 v (List.mem_cons_of_mem _ hv)) trivial) hl)
  | lcmp =>
    obtain ⟨x, y, dx, dy, t, rfl, rfl, rfl⟩ := sCmp_inv hs
    exact W.lcmp hx hb hdec (k la hT1 (cons_TV (fun v hv => hT2 v (List.mem_cons_of_mem _ (List.mem_cons_of_mem _ hv))) trivial) hl)
  | dup =>
    obtain ⟨v, t, rfl, hc, rfl, rfl⟩ := sDup_inv hs
    exact lv_dup hx hb hdec (by rw [cv_cat]; exact hc) (k la hT1 (cons_TV hT2 (hT2 _ List.mem_cons_self)) hl)
  | dup2 =>
    obtain ⟨v, u, t, rfl, hc, hd, rfl, rfl⟩ := sDup2_inv hs
    exact lv_dup2_11 hx hb hdec (by rw [cv_cat]; exact hc) (by rw [cv_cat]; exact hd) (k la hT1 (cons_TV (cons_TV hT2 (hT2 _ (List.mem_cons_of_mem _ List.mem_cons_self))) (hT2 _ List.mem_cons_self)) hl)
  | pop =>
    obtain ⟨x, dx, rfl, rfl⟩ := sPop_inv hs
    exact lv_pop hx hb hdec rfl (k la hT1 (fun v hv => hT2 v (List.mem_cons_of_mem _ hv)) hl)
  | _ => cases hs
end
section
theorem iN_toInt (x : Int32) : iN x.toInt = x := Int32.ofInt_toInt x
theorem lI_toInt (x : Int64) : lI x.toInt = x := Int64.ofInt_toInt x
theorem flds_get (E : EnvT) (M : Mem) (r c : Nat) : ∀ (pl : List (Nat × Nat)) (j k : Nat), (flds E M r c j pl)[k]? = (pl[k]?).map (fval E M r c (j + k))
  | [], j, k => by simp [flds]
  | q :: t, j, 0 => by simp [flds]
  | q :: t, j, k + 1 => by
    show (flds E M r c (j + 1) t)[k]? = (t[k]?).map _
    rw [flds_get E M r c t (j + 1) k]
    congr 2
    omega
theorem fval_congr (E : EnvT) {M M' : Mem} {r c k : Nat} (q : Nat × Nat) (h : M' r c k = M r c k) : fval E M' r c k q = fval E M r c k q := by
  unfold fval
  rw [h]
theorem flds_congr (E : EnvT) {M M' : Mem} {r c : Nat} (pl : List (Nat × Nat)) (j : Nat) (h : M' r c = M r c) : flds E M' r c j pl = flds E M r c j pl := by
  apply List.ext_getElem?
  intro k
  rw [flds_get, flds_get]
  congr 1
  funext q
  exact fval_congr E q (by rw [h])
theorem cellOf_congr (E : EnvT) {M M' : Mem} {r dd : Nat} (h : M' r (dsc dd).1 = M r (dsc dd).1) : cellOf E M' r dd = cellOf E M r dd := by
  unfold cellOf
  rw [h, flds_congr E _ _ h]
theorem flds_len (E : EnvT) (M : Mem) (r c : Nat) : ∀ (pl : List (Nat × Nat)) (j : Nat), (flds E M r c j pl).length = pl.length
  | [], _ => rfl
  | _ :: t, j => by simp [flds, flds_len E M r c t (j + 1)]
theorem flds_set (E : EnvT) {M M' : Mem} {r c k : Nat} {pl : List (Nat × Nat)} {q : Nat × Nat} {v : Value} (hq : pl[k]? = some q) (hv : fval E M' r c k q = v) (h : ∀ j, j ≠ k → M' r c j = M r c j) : (flds E M r c 0 pl).set k v = flds E M' r c 0 pl := by
  apply List.ext_getElem?
  intro j
  rw [List.getElem?_set, flds_get, flds_get, flds_len]
  simp only [Nat.zero_add]
  split
  · rename_i e
    subst e
    rw [hq, if_pos (List.getElem?_eq_some_iff.mp hq).1]
    simp [hv]
  · rename_i e
    congr 1
    funext q
    exact (fval_congr E q (h j (fun z => e z.symm))).symm
theorem CL_apart : ∀ p ∈ CL, ∀ q ∈ CL, p.1 = q.1 → (dsc p.2).1 = (dsc q.2).1 → p.2 = q.2 := by decide +kernel
theorem CL_not999 : ∀ p ∈ CL, p.2 ≠ 999 := by decide +kernel
theorem WL_set {E : EnvT} {M M' : Mem} {r dd q0 : Nat} {ce : va_E} (hq : CL[q0]? = some (r, dd)) (h1 : cellOf E M' r dd = ce) (h2 : ∀ r' c', ¬ (r' = r ∧ c' = (dsc dd).1) → M' r' c' = M r' c') : (WL E M).set q0 (al E r dd, ce) = WL E M' := by
  apply List.ext_getElem?
  intro j
  rw [List.getElem?_set, WL_at, WL_at]
  split
  · rename_i e
    subst e
    rw [hq]
    have hlt : q0 < (WL E M).length := by
      unfold WL
      rw [List.length_map]
      exact (List.getElem?_eq_some_iff.mp hq).1
    simp [hlt, h1]
  · rename_i e
    cases hj : CL[j]? with
    | none => rfl
    | some q =>
      obtain ⟨r', dd'⟩ := q
      simp only [Option.map_some]
      rw [cellOf_congr E (h2 r' (dsc dd').1 ?_)]
      rintro ⟨rfl, ec⟩
      have e1 := CL_apart (r', dd') (List.mem_of_getElem? hj) (r', dd) (List.mem_of_getElem? hq) rfl ec
      subst e1
      have hj' := (List.getElem?_eq_some_iff.mp hj)
      have hq' := (List.getElem?_eq_some_iff.mp hq)
      exact e ((List.getElem_inj (h₀ := hq'.1) (h₁ := hj'.1) CL_nd).mp (hq'.2.trans hj'.2.symm))
theorem TV_CL {r dd : Nat} (h : TV (.ref r, dd)) (hd : dd ≠ 999) : ∃ q0 : Nat, CL[q0]? = some (r, dd) := by
  rcases h with ⟨h, -⟩ | ⟨-, h⟩
  · exact absurd h hd
  · exact List.getElem?_of_mem h
theorem cv_al (E : EnvT) {r dd : Nat} (hd : dd ≠ 999) : cv E (.ref r, dd) = .ref (al E r dd) := by
  show (if dd = 999 then Value.ref (eK E r) else Value.ref (al E r dd)) = _
  rw [if_neg hd]
theorem tag_ne {dd n : Nat} (h : (dsc dd).2.1 = n) (hn : n ≠ 999) : dd ≠ 999 := by
  intro e
  rw [e] at h
  exact hn (h.symm.trans (by decide +kernel))
abbrev CtR : Type := Option (List Prop × List AV × Mem)
def cDivI (st : List AV) (M : Mem) : CtR := match st with
  | (.int y, _) :: (.int x, _) :: t => some ([¬ y = 0], (.int (x / y), 0) :: t, M)
  | _ => none
def cRemI (st : List AV) (M : Mem) : CtR := match st with
  | (.int y, _) :: (.int x, _) :: t => some ([¬ y = 0], (.int (iR x y), 0) :: t, M)
  | _ => none
def cDivL (st : List AV) (M : Mem) : CtR := match st with
  | (.long y, _) :: (.long x, _) :: t => some ([¬ y = 0], (.long (x / y), 0) :: t, M)
  | _ => none
def cRemL (st : List AV) (M : Mem) : CtR := match st with
  | (.long y, _) :: (.long x, _) :: t => some ([¬ y = 0], (.long (lR x y), 0) :: t, M)
  | _ => none
def fget (M : Mem) (r c k : Nat) (q : Nat × Nat) : List Prop × AV := match q.1 with
  | 0 => ([], (.int (iN (M r c k)), 0))
  | 1 => ([], (.long (lI (M r c k)), 0))
  | 2 => ([], (.int (iN (M r c k)), 0))
  | 3 => ([], (.ref r, q.2))
  | 4 => ([], (.ref (q.2 / 1000), q.2 % 1000))
  | _ => ([((M r c k).toNat, q.2) ∈ CL], (.ref (M r c k).toNat, q.2))
def cGet (k ci : Nat) (st : List AV) (M : Mem) : CtR := match st with
  | (.ref r, dd) :: t => if (dsc dd).2.1 = ci then (match (dsc dd).2.2[k]? with
    | some q => some ((fget M r (dsc dd).1 k q).1, (fget M r (dsc dd).1 k q).2 :: t, M)
    | none => none) else none
  | _ => none
def fput (M : Mem) (r c k : Nat) (q : Nat × Nat) (v : AV) : Option (List Prop × Mem) := match q.1 with
  | 0 => (match v.1 with
    | .int x => some ([], upd3 M r c k x.toInt)
    | _ => none)
  | 1 => (match v.1 with
    | .long x => some ([], upd3 M r c k x.toInt)
    | _ => none)
  | 2 => (match v.1 with
    | .int x => some ([x = 0 ∨ x = 1], upd3 M r c k x.toInt)
    | _ => none)
  | 5 => (match v.1 with
    | .ref x => if v.2 = q.2 then some ([], upd3 M r c k (x : Int)) else none
    | _ => none)
  | _ => none
def cPut (k ci : Nat) (st : List AV) (M : Mem) : CtR := match st with
  | v :: (.ref r, dd) :: t => if (dsc dd).2.1 = ci then (match (dsc dd).2.2[k]? with
    | some q => (match fput M r (dsc dd).1 k q v with
      | some (P, M') => some (P, t, M')
      | none => none)
    | none => none) else none
  | _ => none
def dlen (dd : Nat) : Nat := ((dsc dd).2.2.headD (0, 0)).1
def cAldI (tag : Nat) (st : List AV) (M : Mem) : CtR := match st with
  | (.int i, _) :: (.ref r, dd) :: t => if (dsc dd).2.1 = tag then some ([vp_in i (dlen dd)], (.int (iN (M r (dsc dd).1 i.toNatClampNeg)), 0) :: t, M) else none
  | _ => none
def cAldL (st : List AV) (M : Mem) : CtR := match st with
  | (.int i, _) :: (.ref r, dd) :: t => if (dsc dd).2.1 = 101 then some ([vp_in i (dlen dd)], (.long (lI (M r (dsc dd).1 i.toNatClampNeg)), 0) :: t, M) else none
  | _ => none
def cAldQ (st : List AV) (M : Mem) : CtR := match st with
  | (.int i, _) :: (.ref _, dd) :: t => if 103 ≤ (dsc dd).2.1 ∧ (dsc dd).2.1 ≤ 105 then some ([vp_in i (dsc dd).2.2.length], (.ref ((dsc dd).2.2.getD i.toNatClampNeg (0, 0)).1, ((dsc dd).2.2.headD (0, 0)).2) :: t, M) else none
  | _ => none
def cAstI (st : List AV) (M : Mem) : CtR := match st with
  | (.int x, _) :: (.int i, _) :: (.ref r, dd) :: t => if (dsc dd).2.1 = 100 then some ([vp_in i (dlen dd)], t, upd3 M r (dsc dd).1 i.toNatClampNeg x.toInt) else none
  | _ => none
def cAstB (st : List AV) (M : Mem) : CtR := match st with
  | (.int x, _) :: (.int i, _) :: (.ref r, dd) :: t => if (dsc dd).2.1 = 102 then some ([vp_in i (dlen dd)], t, upd3 M r (dsc dd).1 i.toNatClampNeg (x.toInt8.toInt32).toInt) else none
  | _ => none
def cAstL (st : List AV) (M : Mem) : CtR := match st with
  | (.long x, _) :: (.int i, _) :: (.ref r, dd) :: t => if (dsc dd).2.1 = 101 then some ([vp_in i (dlen dd)], t, upd3 M r (dsc dd).1 i.toNatClampNeg x.toInt) else none
  | _ => none
def cLen (st : List AV) (M : Mem) : CtR := match st with
  | (.ref _, dd) :: t => if (dsc dd).2.1 = 100 ∨ (dsc dd).2.1 = 101 ∨ (dsc dd).2.1 = 102 then some ([], (.int (iN (dlen dd)), 0) :: t, M) else none
  | _ => none
def stepC (ins : Instr) (aux : Nat) (z : Int) (st : List AV) (M : Mem) : CtR := match ins with
  | .idiv => cDivI st M
  | .irem => cRemI st M
  | .ldiv => cDivL st M
  | .lrem => cRemL st M
  | .getfield _ => cGet aux z.toNat st M
  | .putfield _ => cPut aux z.toNat st M
  | .iaload => cAldI 100 st M
  | .baload => cAldI 102 st M
  | .laload => cAldL st M
  | .aaload => cAldQ st M
  | .iastore => cAstI st M
  | .bastore => cAstB st M
  | .lastore => cAstL st M
  | .arraylength => cLen st M
  | _ => none
def okC (mi : MI) (ins : Instr) (aux : Nat) (z : Int) (h : Nat) : Bool := match ins with
  | .getfield i => (match vCl[z.toNat]? with
    | some q => decide (aux < q.2.2) && decide (lw_tbl[h]? = some (.fieldLink mi.1.cls i (q.2.1 aux).1 (q.2.1 aux).2.1 (q.2.1 aux).2.2.1))
    | none => false)
  | .putfield i => (match vCl[z.toNat]? with
    | some q => decide (aux < q.2.2) && (decide ((q.2.1 aux).2.2.2 = false) && decide (lw_tbl[h]? = some (.fieldLink mi.1.cls i (q.2.1 aux).1 (q.2.1 aux).2.1 (q.2.1 aux).2.2.1)))
    | none => false)
  | _ => true
def kTy (k : Nat) (t : FieldType) : Bool := match k, t with
  | 0, .int => true
  | 1, .long => true
  | 2, .boolean => true
  | 3, .object _ => true
  | 3, .array _ => true
  | 4, .object _ => true
  | 4, .array _ => true
  | 5, .object _ => true
  | 5, .array _ => true
  | _, _ => false
def clTy (ci k : Nat) : FieldType := (tyCl.getD ci (fun _ => .int)) k
theorem cl_words : ∀ q ∈ vCl, ∀ w ∈ u_ws q.1 q.2.1 q.2.2, w ∈ lw_tbl.filter goodWord := by decide +kernel
theorem cl_nm : ∀ q ∈ vCl, ∀ a, a < q.2.2 → ∀ b, b < q.2.2 → a ≠ b → (q.2.1 a).2.1 ≠ (q.2.1 b).2.1 := by decide +kernel
theorem cl_ty : ∀ ci, ci < 12 → ∀ q ∈ vCl[ci]?, ∀ k, k < q.2.2 → parseFieldDescriptor (q.2.1 k).2.2.1 = some (clTy ci k) := by decide +kernel
theorem dl_ty : ∀ dd, dd < 55 → (dsc dd).2.1 < 12 → ∀ k, k < (dsc dd).2.2.length → kTy ((dsc dd).2.2.getD k (0, 0)).1 (clTy (dsc dd).2.1 k) = true := by decide +kernel
theorem dl_same : ∀ p ∈ CL, ∀ q ∈ (dsc p.2).2.2, (dsc p.2).2.1 < 100 → (q.1 = 3 → (p.1, q.2) ∈ CL ∧ q.2 ≠ 999) ∧ (q.1 = 4 → (q.2 / 1000, q.2 % 1000) ∈ CL ∧ q.2 % 1000 ≠ 999) := by decide +kernel
theorem dl_arr : ∀ p ∈ CL, ∀ q ∈ (dsc p.2).2.2, 103 ≤ (dsc p.2).2.1 → q.2 = ((dsc p.2).2.2.headD (0, 0)).2 ∧ q ∈ CL ∧ q.2 ≠ 999 := by decide +kernel
theorem dl_lt : ∀ p ∈ CL, p.2 < 55 := by decide +kernel
end
section
def andL : List Prop → Prop → Prop
  | [], q => q
  | p :: t, q => p ∧ andL t q
theorem andL_app : ∀ (l : List Prop) {q : Prop}, andL l q → q
  | [], _, h => h
  | _ :: t, _, h => andL_app t h.2
theorem upd3_same (M : Mem) (r c k : Nat) (v : Int) : upd3 M r c k v r c k = v := by simp [upd3]
theorem upd3_k (M : Mem) (r c k : Nat) (v : Int) (j : Nat) (h : j ≠ k) : upd3 M r c k v r c j = M r c j := by simp [upd3, h]
theorem upd3_off (M : Mem) (r c k : Nat) (v : Int) (r' c' : Nat) (h : ¬ (r' = r ∧ c' = c)) : upd3 M r c k v r' c' = M r' c' := by
  funext j
  unfold upd3
  rw [if_neg]
  rintro ⟨h1, h2, -⟩
  exact h ⟨h1, h2⟩
theorem cell_obj (E : EnvT) (M : Mem) {r dd : Nat} (h : (dsc dd).2.1 < 100) : cellOf E M r dd = .inr ((dsc dd).2.1, flds E M r (dsc dd).1 0 (dsc dd).2.2) := by
  unfold cellOf
  rw [if_pos h]
theorem cell_int (E : EnvT) (M : Mem) {r dd : Nat} (h : (dsc dd).2.1 = 100) : cellOf E M r dd = .inl (eC E 0, dlen dd, .inl (fun k => iN (M r (dsc dd).1 k))) := by
  unfold cellOf
  rw [h]
  rfl
theorem cell_long (E : EnvT) (M : Mem) {r dd : Nat} (h : (dsc dd).2.1 = 101) : cellOf E M r dd = .inl (eC E 1, dlen dd, .inr (.inl (fun k => lI (M r (dsc dd).1 k)))) := by
  unfold cellOf
  rw [h]
  rfl
theorem cell_byte (E : EnvT) (M : Mem) {r dd : Nat} (h : (dsc dd).2.1 = 102) : cellOf E M r dd = .inl (eC E 2, dlen dd, .inl (fun k => iN (M r (dsc dd).1 k))) := by
  unfold cellOf
  rw [h]
  rfl
theorem cell_ref (E : EnvT) (M : Mem) {r dd : Nat} (h : 103 ≤ (dsc dd).2.1) : cellOf E M r dd = .inl (eC E ((dsc dd).2.1 - 100), (dsc dd).2.2.length, .inr (.inr (.inr (.inr (fun k => ((dsc dd).2.2[k]?).map (fun q => al E q.1 q.2)))))) := by
  unfold cellOf
  rw [if_neg (by omega), if_neg (by omega), if_neg (by omega), if_neg (by omega)]
theorem WL_cell {E : EnvT} {M : Mem} {r dd q0 : Nat} (hq : CL[q0]? = some (r, dd)) : (WL E M)[q0]? = some (al E r dd, cellOf E M r dd) := by
  rw [WL_at, hq]
  rfl
theorem arr_upd {M : Mem} {r c : Nat} {i : Int32} {v : Int} {x : Int32} (hv : iN v = x) : upd (fun k => iN (M r c k)) i.toNatClampNeg x = fun k => iN (upd3 M r c i.toNatClampNeg v r c k) := by
  funext k
  unfold upd upd3
  by_cases h : k = i.toNatClampNeg
  · simp [h, hv]
  · simp [h]
theorem arr_updL {M : Mem} {r c : Nat} {i : Int32} {v : Int} {x : Int64} (hv : lI v = x) : vp_updL (fun k => lI (M r c k)) i.toNatClampNeg x = fun k => lI (upd3 M r c i.toNatClampNeg v r c k) := by
  funext k
  unfold vp_updL upd3
  by_cases h : k = i.toNatClampNeg
  · simp [h, hv]
  · simp [h]
theorem cGet_inv {k ci : Nat} {st st' : List AV} {M M' : Mem} {P : List Prop} (h : cGet k ci st M = some (P, st', M')) : ∃ r dd t q, st = (.ref r, dd) :: t ∧ (dsc dd).2.1 = ci ∧ (dsc dd).2.2[k]? = some q ∧ P = (fget M r (dsc dd).1 k q).1 ∧ st' = (fget M r (dsc dd).1 k q).2 :: t ∧ M' = M := by
  unfold cGet at h
  split at h
  · rename_i r dd t
    split at h
    · rename_i h1
      split at h
      · rename_i q hq
        cases h
        exact ⟨r, dd, t, q, rfl, h1, hq, rfl, rfl, rfl⟩
      · cases h
    · cases h
  · cases h
theorem cPut_inv {k ci : Nat} {st st' : List AV} {M M' : Mem} {P : List Prop} (h : cPut k ci st M = some (P, st', M')) : ∃ v r dd q, st = v :: (.ref r, dd) :: st' ∧ (dsc dd).2.1 = ci ∧ (dsc dd).2.2[k]? = some q ∧ fput M r (dsc dd).1 k q v = some (P, M') := by
  unfold cPut at h
  split at h
  · rename_i v r dd t
    split at h
    · rename_i h1
      split at h
      · rename_i q hq
        split at h
        · rename_i P' M'' hp
          cases h
          exact ⟨v, r, dd, q, rfl, h1, hq, hp⟩
        · cases h
      · cases h
    · cases h
  · cases h
theorem cAldI_inv {tag : Nat} {st st' : List AV} {M M' : Mem} {P : List Prop} (h : cAldI tag st M = some (P, st', M')) : ∃ i di r dd t, st = (.int i, di) :: (.ref r, dd) :: t ∧ (dsc dd).2.1 = tag ∧ P = [vp_in i (dlen dd)] ∧ st' = (.int (iN (M r (dsc dd).1 i.toNatClampNeg)), 0) :: t ∧ M' = M := by
  unfold cAldI at h
  split at h
  · split at h
    · rename_i h1
      cases h
      exact ⟨_, _, _, _, _, rfl, h1, rfl, rfl, rfl⟩
    · cases h
  · cases h
theorem cAldL_inv {st st' : List AV} {M M' : Mem} {P : List Prop} (h : cAldL st M = some (P, st', M')) : ∃ i di r dd t, st = (.int i, di) :: (.ref r, dd) :: t ∧ (dsc dd).2.1 = 101 ∧ P = [vp_in i (dlen dd)] ∧ st' = (.long (lI (M r (dsc dd).1 i.toNatClampNeg)), 0) :: t ∧ M' = M := by
  unfold cAldL at h
  split at h
  · split at h
    · rename_i h1
      cases h
      exact ⟨_, _, _, _, _, rfl, h1, rfl, rfl, rfl⟩
    · cases h
  · cases h
theorem cAldQ_inv {st st' : List AV} {M M' : Mem} {P : List Prop} (h : cAldQ st M = some (P, st', M')) : ∃ i di r dd t, st = (.int i, di) :: (.ref r, dd) :: t ∧ (103 ≤ (dsc dd).2.1 ∧ (dsc dd).2.1 ≤ 105) ∧ P = [vp_in i (dsc dd).2.2.length] ∧ st' = (.ref ((dsc dd).2.2.getD i.toNatClampNeg (0, 0)).1, ((dsc dd).2.2.headD (0, 0)).2) :: t ∧ M' = M := by
  unfold cAldQ at h
  split at h
  · split at h
    · rename_i h1
      cases h
      exact ⟨_, _, _, _, _, rfl, h1, rfl, rfl, rfl⟩
    · cases h
  · cases h
theorem cAstI_inv {st st' : List AV} {M M' : Mem} {P : List Prop} (h : cAstI st M = some (P, st', M')) : ∃ x dx i di r dd, st = (.int x, dx) :: (.int i, di) :: (.ref r, dd) :: st' ∧ (dsc dd).2.1 = 100 ∧ P = [vp_in i (dlen dd)] ∧ M' = upd3 M r (dsc dd).1 i.toNatClampNeg x.toInt := by
  unfold cAstI at h
  split at h
  · split at h
    · rename_i h1
      cases h
      exact ⟨_, _, _, _, _, _, rfl, h1, rfl, rfl⟩
    · cases h
  · cases h
theorem cAstB_inv {st st' : List AV} {M M' : Mem} {P : List Prop} (h : cAstB st M = some (P, st', M')) : ∃ x dx i di r dd, st = (.int x, dx) :: (.int i, di) :: (.ref r, dd) :: st' ∧ (dsc dd).2.1 = 102 ∧ P = [vp_in i (dlen dd)] ∧ M' = upd3 M r (dsc dd).1 i.toNatClampNeg (x.toInt8.toInt32).toInt := by
  unfold cAstB at h
  split at h
  · split at h
    · rename_i h1
      cases h
      exact ⟨_, _, _, _, _, _, rfl, h1, rfl, rfl⟩
    · cases h
  · cases h
theorem cAstL_inv {st st' : List AV} {M M' : Mem} {P : List Prop} (h : cAstL st M = some (P, st', M')) : ∃ x dx i di r dd, st = (.long x, dx) :: (.int i, di) :: (.ref r, dd) :: st' ∧ (dsc dd).2.1 = 101 ∧ P = [vp_in i (dlen dd)] ∧ M' = upd3 M r (dsc dd).1 i.toNatClampNeg x.toInt := by
  unfold cAstL at h
  split at h
  · split at h
    · rename_i h1
      cases h
      exact ⟨_, _, _, _, _, _, rfl, h1, rfl, rfl⟩
    · cases h
  · cases h
theorem cLen_inv {st st' : List AV} {M M' : Mem} {P : List Prop} (h : cLen st M = some (P, st', M')) : ∃ r dd t, st = (.ref r, dd) :: t ∧ ((dsc dd).2.1 = 100 ∨ (dsc dd).2.1 = 101 ∨ (dsc dd).2.1 = 102) ∧ P = [] ∧ st' = (.int (iN (dlen dd)), 0) :: t ∧ M' = M := by
  unfold cLen at h
  split at h
  · split at h
    · rename_i h1
      cases h
      exact ⟨_, _, _, rfl, h1, rfl, rfl, rfl⟩
    · cases h
  · cases h
theorem cDivI_inv {st st' : List AV} {M M' : Mem} {P : List Prop} (h : cDivI st M = some (P, st', M')) : ∃ x y dx dy t, st = (.int y, dy) :: (.int x, dx) :: t ∧ P = [¬ y = 0] ∧ st' = (.int (x / y), 0) :: t ∧ M' = M := by
  unfold cDivI at h
  split at h
  · cases h
    exact ⟨_, _, _, _, _, rfl, rfl, rfl, rfl⟩
  · cases h
theorem cRemI_inv {st st' : List AV} {M M' : Mem} {P : List Prop} (h : cRemI st M = some (P, st', M')) : ∃ x y dx dy t, st = (.int y, dy) :: (.int x, dx) :: t ∧ P = [¬ y = 0] ∧ st' = (.int (iR x y), 0) :: t ∧ M' = M := by
  unfold cRemI at h
  split at h
  · cases h
    exact ⟨_, _, _, _, _, rfl, rfl, rfl, rfl⟩
  · cases h
theorem cDivL_inv {st st' : List AV} {M M' : Mem} {P : List Prop} (h : cDivL st M = some (P, st', M')) : ∃ x y dx dy t, st = (.long y, dy) :: (.long x, dx) :: t ∧ P = [¬ y = 0] ∧ st' = (.long (x / y), 0) :: t ∧ M' = M := by
  unfold cDivL at h
  split at h
  · cases h
    exact ⟨_, _, _, _, _, rfl, rfl, rfl, rfl⟩
  · cases h
theorem cRemL_inv {st st' : List AV} {M M' : Mem} {P : List Prop} (h : cRemL st M = some (P, st', M')) : ∃ x y dx dy t, st = (.long y, dy) :: (.long x, dx) :: t ∧ P = [¬ y = 0] ∧ st' = (.long (lR x y), 0) :: t ∧ M' = M := by
  unfold cRemL at h
  split at h
  · cases h
    exact ⟨_, _, _, _, _, rfl, rfl, rfl, rfl⟩
  · cases h
theorem fput_kind {E : EnvT} {M M' : Mem} {r c k : Nat} {q : Nat × Nat} {v : AV} {P : List Prop} {ty : FieldType} (h : fput M r c k q v = some (P, M')) (hk : kTy q.1 ty = true) (hP : andL P True) : narrow ty (cv E v) = cv E v ∧ fits ty (cv E v) = true ∧ fval E M' r c k q = (if q.1 = 5 then (if v.2 = 999 then .ref (al E (toR v) q.2) else cv E v) else cv E v) ∧ (∀ j, j ≠ k → M' r c j = M r c j) ∧ (∀ r' c', ¬ (r' = r ∧ c' = c) → M' r' c' = M r' c') ∧ (q.1 = 5 → v.2 = q.2) := by
  obtain ⟨v, dv⟩ := v
  obtain ⟨a, b⟩ := q
  unfold fput at h
  split at h
  · rename_i e
    simp only at e
    subst e
    split at h
    · rename_i x e2
      simp only at e2
      subst e2
      cases h
      cases ty <;> first | (simp [kTy] at hk; done) | skip
      refine ⟨rfl, rfl, ?_, upd3_k M r c k _, upd3_off M r c k _, fun z => by cases z⟩
      show Value.int (iN (upd3 M r c k x.toInt r c k)) = _
      rw [upd3_same, iN_toInt]
      rfl
    · cases h
  · rename_i e
    simp only at e
    subst e
    split at h
    · rename_i x e2
      simp only at e2
      subst e2
      cases h
      cases ty <;> first | (simp [kTy] at hk; done) | skip
      refine ⟨rfl, rfl, ?_, upd3_k M r c k _, upd3_off M r c k _, fun z => by cases z⟩
      show Value.long (lI (upd3 M r c k x.toInt r c k)) = _
      rw [upd3_same, lI_toInt]
      rfl
    · cases h
  · rename_i e
    simp only at e
    subst e
    split at h
    · rename_i x e2
      simp only at e2
      subst e2
      cases h
      cases ty <;> first | (simp [kTy] at hk; done) | skip
      refine ⟨?_, ?_, ?_, upd3_k M r c k _, upd3_off M r c k _, fun z => by cases z⟩
      · rcases hP.1 with h0 | h0 <;> (rw [h0, cv_int]; decide +kernel)
      · rcases hP.1 with h0 | h0 <;> (rw [h0, cv_int]; decide +kernel)
      · show Value.int (iN (upd3 M r c k x.toInt r c k)) = _
        rw [upd3_same, iN_toInt]
        rfl
    · cases h
  · rename_i e
    simp only at e
    subst e
    split at h
    · rename_i x e2
      simp only at e2
      subst e2
      split at h
      · rename_i e3
        simp only at e3
        cases h
        obtain ⟨a2, ha2⟩ := cv_ref E x dv
        rw [ha2]
        refine ⟨?_, ?_, ?_, upd3_k M r c k _, upd3_off M r c k _, fun _ => e3⟩
        · cases ty <;> first | (simp [kTy] at hk; done) | rfl
        · cases ty <;> first | (simp [kTy] at hk; done) | rfl
        · show Value.ref (al E (upd3 M r c k (x : Int) r c k).toNat b) = _
          rw [upd3_same, if_pos rfl]
          simp only [toR, Int.toNat_natCast]
          split
          · rfl
          · rename_i h9
            rw [← ha2, cv_al E h9, ← e3]
      · cases h
    · cases h
  · cases h
end
section
set_option maxHeartbeats 4000000 in
theorem stepC_ok {l : Launch} {E : EnvT} {d : Nat} {mi : MI} {ins : Instr} {len aux h pc : Nat} {z : Int} {st st' : List AV} {M M' : Mem} {P : List Prop} {Q : State → Prop} {p : Program} {e : Env} {s : State} {m : MethodId} {args : Array Value} {below : List Frame} {meth : Method} {c : Code} {H : Heap} {locs : List Loc} {la : Array Slot}
    (hC : CX E mi p s m args meth c) (hdec : decode mi.2.1 pc = .ok (ins, len)) (hlen : len = ilen ins) (hok : okC mi ins aux z h = true) (hs : stepC ins aux z st M = some (P, st', M')) (hH : HX E M H) (hS : va_S (Ab E) s.heap H locs) (hT2 : ∀ v ∈ st, TV v) (hP : andL P True)
    (k : ∀ (H' : Heap) (locs' : List Loc), HX E M' H' → va_S (Ab E) s.heap H' locs' → (∀ v ∈ st', TV v) → W p l e (rmD d) s m args below meth c H' locs' 0 0 Q (F0 m (pc + len) la (st'.map (cv E)))) :
    W p l e (rmD d) s m args below meth c H locs 0 0 Q (F0 m pc la (st.map (cv E))) := by
  obtain ⟨hx, hb, hml, hown, hts, hr, hlocks, hKK, hDX, hbs⟩ := hC
  have hD := hDX.all M
  have hK := hKK.1
  subst hlen
  have tl1 : ∀ {a : AV} {t : List AV}, (∀ v ∈ a :: t, TV v) → ∀ v ∈ t, TV v := fun h v hv => h v (List.mem_cons_of_mem _ hv)
  have hwords : ∀ {q : vw_C}, q ∈ vCl → ∀ w ∈ u_ws q.1 q.2.1 q.2.2, w ∈ WS mi := fun hq w hw => List.mem_cons_of_mem _ (cl_words _ hq w hw)
  cases ins with
  | idiv =>
    obtain ⟨x, y, dx, dy, t, rfl, rfl, rfl, rfl⟩ := cDivI_inv hs
    exact lv_idiv hx hb hdec hP.1 (k H locs hH hS (cons_TV (tl1 (tl1 hT2)) trivial))
  | irem =>
    obtain ⟨x, y, dx, dy, t, rfl, rfl, rfl, rfl⟩ := cRemI_inv hs
    exact lv_irem hx hb hdec hP.1 (k H locs hH hS (cons_TV (tl1 (tl1 hT2)) trivial))
  | ldiv =>
    obtain ⟨x, y, dx, dy, t, rfl, rfl, rfl, rfl⟩ := cDivL_inv hs
    exact lv_ldiv hx hb hdec hP.1 (k H locs hH hS (cons_TV (tl1 (tl1 hT2)) trivial))
  | lrem =>
    obtain ⟨x, y, dx, dy, t, rfl, rfl, rfl, rfl⟩ := cRemL_inv hs
    exact lv_lrem hx hb hdec hP.1 (k H locs hH hS (cons_TV (tl1 (tl1 hT2)) trivial))
  | getfield i =>
    obtain ⟨r, dd, t, q, rfl, htag, hq, rfl, rfl, rfl⟩ := cGet_inv hs
    simp only [okC] at hok
    split at hok
    · rename_i cq hcq
      simp only [Bool.and_eq_true, decide_eq_true_eq] at hok
      have hci : z.toNat < 12 := by
        have := (List.getElem?_eq_some_iff.mp hcq).1
        exact this
      have hdd : dd ≠ 999 := tag_ne htag (by omega)
      obtain ⟨q0, hq0⟩ := TV_CL (hT2 _ List.mem_cons_self) hdd
      have hmem := List.mem_of_getElem? hq0
      have he := WL_cell (E := E) (M := M') hq0
      rw [cell_obj E M' (by omega), htag] at he
      have hv : (flds E M' r (dsc dd).1 0 (dsc dd).2.2)[aux]? = some (fval E M' r (dsc dd).1 aux q) := by
        rw [flds_get, hq]
        simp
      rw [List.map_cons, cv_al E hdd]
      have hfv : cv E (fget M' r (dsc dd).1 aux q).2 = fval E M' r (dsc dd).1 aux q ∧ TV (fget M' r (dsc dd).1 aux q).2 := by
        have hs2 := dl_same (r, dd) hmem q (List.mem_of_getElem? hq) (by show (dsc dd).2.1 < 100; omega)
        obtain ⟨qa, qb⟩ := q
        match qa, hs2, hP with
        | 0, _, _ => exact ⟨rfl, trivial⟩
        | 1, _, _ => exact ⟨rfl, trivial⟩
        | 2, _, _ => exact ⟨rfl, trivial⟩
        | 3, hs2, _ => exact ⟨cv_al E (hs2.1 rfl).2, Or.inr ⟨(hs2.1 rfl).2, (hs2.1 rfl).1⟩⟩
        | 4, hs2, _ => exact ⟨cv_al E (hs2.2 rfl).2, Or.inr ⟨(hs2.2 rfl).2, (hs2.2 rfl).1⟩⟩
        | n + 5, _, hP =>
          have h9 := CL_not999 _ hP.1
          exact ⟨cv_al E h9, Or.inr ⟨h9, hP.1⟩⟩
      refine va_get (D := eD E) (ci := z.toNat) (C := cq.1) (T := cq.2.1) (N := cq.2.2) hx hb hts (hwords (List.mem_of_getElem? hcq)) hown hK hH q0 he hcq aux hok.1 (hts _ (in_WS hok.2 rfl)) (fun _ h9 => h9) hv hdec ?_
      have hk := k H locs hH hS (cons_TV (tl1 hT2) hfv.2)
      rw [List.map_cons, hfv.1] at hk
      exact hk
    · cases hok
  | putfield i =>
    obtain ⟨v, r, dd, q, rfl, htag, hq, hf⟩ := cPut_inv hs
    simp only [okC] at hok
    split at hok
    · rename_i cq hcq
      simp only [Bool.and_eq_true, decide_eq_true_eq] at hok
      have hci : z.toNat < 12 := (List.getElem?_eq_some_iff.mp hcq).1
      have hdd : dd ≠ 999 := tag_ne htag (by omega)
      obtain ⟨q0, hq0⟩ := TV_CL (hT2 _ (List.mem_cons_of_mem _ List.mem_cons_self)) hdd
      have hmem := List.mem_of_getElem? hq0
      have he := WL_cell (E := E) (M := M) hq0
      rw [cell_obj E M (by omega), htag] at he
      have hkl : aux < (dsc dd).2.2.length := (List.getElem?_eq_some_iff.mp hq).1
      have hkt : kTy q.1 (clTy z.toNat aux) = true := by
        have := dl_ty dd (dl_lt _ hmem) (by omega) aux hkl
        rw [List.getD_eq_getElem?_getD, hq, htag] at this
        exact this
      obtain ⟨f1, f2, f3, f4, f5, f6⟩ := fput_kind (E := E) hf hkt hP
      have hfv : fval E M' r (dsc dd).1 aux q = cv E v := by
        rw [f3]
        split
        · rename_i h5
          split
          · rename_i h9
            have h6 := f6 h5
            have hs2 := dl_same (r, dd) hmem q (List.mem_of_getElem? hq) (by show (dsc dd).2.1 < 100; omega)
            have hb5 : ∀ p ∈ CL, ∀ q ∈ (dsc p.2).2.2, (dsc p.2).2.1 < 100 → q.1 = 5 → q.2 ≠ 999 := by decide +kernel
            exact absurd (h6.symm.trans h9) (hb5 (r, dd) hmem q (List.mem_of_getElem? hq) (by show (dsc dd).2.1 < 100; omega) h5)
          · rfl
        · rfl
      rw [List.map_cons, List.map_cons, cv_al E hdd]
      refine va_put (D := eD E) (ci := z.toNat) (C := cq.1) (T := cq.2.1) (N := cq.2.2) hx hb hts (hwords (List.mem_of_getElem? hcq)) (clTy z.toNat) (cl_ty z.toNat hci cq hcq) (cl_nm cq (List.mem_of_getElem? hcq)) hown hK hH hD hS q0 he hcq aux hok.1 (hts _ (in_WS hok.2.2 rfl)) (fun _ h9 => h9) hok.2.1 (cl_ty z.toNat hci cq hcq aux hok.1) f1 f2 (by rw [flds_len]; exact hkl) hdec (fun H1 locs1 hP1 hD1 hS1 => ?_)
      rw [WL_set (M' := M') hq0 (by rw [cell_obj E M' (by omega), htag, ← flds_set E hq hfv f4]) f5] at hP1
      exact k H1 locs1 hP1 hS1 (tl1 (tl1 hT2))
    · cases hok
  | iaload =>
    obtain ⟨i, di, r, dd, t, rfl, htag, rfl, rfl, rfl⟩ := cAldI_inv hs
    have hdd : dd ≠ 999 := tag_ne htag (by omega)
    obtain ⟨q0, hq0⟩ := TV_CL (hT2 _ (List.mem_cons_of_mem _ List.mem_cons_self)) hdd
    have he := WL_cell (E := E) (M := M') hq0
    rw [cell_int E M' htag] at he
    rw [List.map_cons, List.map_cons, cv_al E hdd]
    exact va_iald hx hb hK hH q0 0 he rfl hP.1 hdec (k H locs hH hS (cons_TV (tl1 (tl1 hT2)) trivial))
  | baload =>
    obtain ⟨i, di, r, dd, t, rfl, htag, rfl, rfl, rfl⟩ := cAldI_inv hs
    have hdd : dd ≠ 999 := tag_ne htag (by omega)
    obtain ⟨q0, hq0⟩ := TV_CL (hT2 _ (List.mem_cons_of_mem _ List.mem_cons_self)) hdd
    have he := WL_cell (E := E) (M := M') hq0
    rw [cell_byte E M' htag] at he
    rw [List.map_cons, List.map_cons, cv_al E hdd]
    exact va_bald hx hb hK hH q0 2 he rfl hP.1 hdec (k H locs hH hS (cons_TV (tl1 (tl1 hT2)) trivial))
  | laload =>
    obtain ⟨i, di, r, dd, t, rfl, htag, rfl, rfl, rfl⟩ := cAldL_inv hs
    have hdd : dd ≠ 999 := tag_ne htag (by omega)
    obtain ⟨q0, hq0⟩ := TV_CL (hT2 _ (List.mem_cons_of_mem _ List.mem_cons_self)) hdd
    have he := WL_cell (E := E) (M := M') hq0
    rw [cell_long E M' htag] at he
    rw [List.map_cons, List.map_cons, cv_al E hdd]
    exact va_lald hx hb hK hH q0 1 he rfl hP.1 hdec (k H locs hH hS (cons_TV (tl1 (tl1 hT2)) trivial))
  | aaload =>
    obtain ⟨i, di, r, dd, t, rfl, htag, rfl, rfl, rfl⟩ := cAldQ_inv hs
    have hdd : dd ≠ 999 := by
      intro e
      rw [e] at htag
      exact absurd htag (by decide +kernel)
    obtain ⟨q0, hq0⟩ := TV_CL (hT2 _ (List.mem_cons_of_mem _ List.mem_cons_self)) hdd
    have hmem := List.mem_of_getElem? hq0
    have he := WL_cell (E := E) (M := M') hq0
    rw [cell_ref E M' htag.1] at he
    have hin : vp_in i (dsc dd).2.2.length := hP.1
    have hlt : i.toNatClampNeg < (dsc dd).2.2.length := Nat.not_le.mp fun q => hin (Or.inr q)
    have hg : (dsc dd).2.2[i.toNatClampNeg]? = some ((dsc dd).2.2.getD i.toNatClampNeg (0, 0)) := by
      rw [List.getD_eq_getElem?_getD, List.getElem?_eq_getElem hlt]
      rfl
    generalize hqq : (dsc dd).2.2.getD i.toNatClampNeg (0, 0) = qq at hg
    have ha := dl_arr (r, dd) hmem qq (List.mem_of_getElem? hg) htag.1
    have hty : ∃ C, (tysE E)[(dsc dd).2.1 - 100]? = some (eC E ((dsc dd).2.1 - 100), .object C) := by
      have h3 : (dsc dd).2.1 = 103 ∨ (dsc dd).2.1 = 104 ∨ (dsc dd).2.1 = 105 := by omega
      rcases h3 with h3 | h3 | h3 <;> rw [h3] <;> exact ⟨_, rfl⟩
    obtain ⟨Cn, hty⟩ := hty
    rw [List.map_cons, List.map_cons, cv_al E hdd]
    refine va_aldq hx hb hK hH q0 _ he hty hin hdec ?_
    rw [hg]
    have hk := k H locs hH hS (cons_TV (tl1 (tl1 hT2)) (by rw [hqq]; exact Or.inr ⟨by rw [← ha.1]; exact ha.2.2, by rw [← ha.1]; exact ha.2.1⟩))
    rw [List.map_cons, cv_al E (by rw [← ha.1]; exact ha.2.2), hqq, ← ha.1] at hk
    exact hk
  | iastore =>
    obtain ⟨x, dx, i, di, r, dd, rfl, htag, rfl, rfl⟩ := cAstI_inv hs
    have hdd : dd ≠ 999 := tag_ne htag (by omega)
    obtain ⟨q0, hq0⟩ := TV_CL (hT2 _ (List.mem_cons_of_mem _ (List.mem_cons_of_mem _ List.mem_cons_self))) hdd
    have he := WL_cell (E := E) (M := M) hq0
    rw [cell_int E M htag] at he
    rw [List.map_cons, List.map_cons, List.map_cons, cv_al E hdd]
    refine va_iast hx hb hK hH hD hS q0 0 he rfl hP.1 hdec (fun H1 locs1 hP1 hD1 hS1 => ?_)
    rw [WL_set (M' := upd3 M r (dsc dd).1 i.toNatClampNeg x.toInt) hq0 (by rw [cell_int E _ htag, arr_upd (iN_toInt x)]) (upd3_off M r (dsc dd).1 _ _)] at hP1
    exact k H1 locs1 hP1 hS1 (tl1 (tl1 (tl1 hT2)))
  | bastore =>
    obtain ⟨x, dx, i, di, r, dd, rfl, htag, rfl, rfl⟩ := cAstB_inv hs
    have hdd : dd ≠ 999 := tag_ne htag (by omega)
    obtain ⟨q0, hq0⟩ := TV_CL (hT2 _ (List.mem_cons_of_mem _ (List.mem_cons_of_mem _ List.mem_cons_self))) hdd
    have he := WL_cell (E := E) (M := M) hq0
    rw [cell_byte E M htag] at he
    rw [List.map_cons, List.map_cons, List.map_cons, cv_al E hdd]
    refine va_bast hx hb hK hH hD hS q0 2 he rfl hP.1 hdec (fun H1 locs1 hP1 hD1 hS1 => ?_)
    rw [vp_nar_byte] at hP1
    rw [WL_set (M' := upd3 M r (dsc dd).1 i.toNatClampNeg (x.toInt8.toInt32).toInt) hq0 (by rw [cell_byte E _ htag, arr_upd (iN_toInt _)]) (upd3_off M r (dsc dd).1 _ _)] at hP1
    exact k H1 locs1 hP1 hS1 (tl1 (tl1 (tl1 hT2)))
  | lastore =>
    obtain ⟨x, dx, i, di, r, dd, rfl, htag, rfl, rfl⟩ := cAstL_inv hs
    have hdd : dd ≠ 999 := tag_ne htag (by omega)
    obtain ⟨q0, hq0⟩ := TV_CL (hT2 _ (List.mem_cons_of_mem _ (List.mem_cons_of_mem _ List.mem_cons_self))) hdd
    have he := WL_cell (E := E) (M := M) hq0
    rw [cell_long E M htag] at he
    rw [List.map_cons, List.map_cons, List.map_cons, cv_al E hdd]
    refine va_last hx hb hK hH hD hS q0 1 he rfl hP.1 hdec (fun H1 locs1 hP1 hD1 hS1 => ?_)
    rw [WL_set (M' := upd3 M r (dsc dd).1 i.toNatClampNeg x.toInt) hq0 (by rw [cell_long E _ htag, arr_updL (lI_toInt x)]) (upd3_off M r (dsc dd).1 _ _)] at hP1
    exact k H1 locs1 hP1 hS1 (tl1 (tl1 (tl1 hT2)))
  | arraylength =>
    obtain ⟨r, dd, t, rfl, htag, rfl, rfl, rfl⟩ := cLen_inv hs
    have hdd : dd ≠ 999 := by
      rcases htag with h1 | h1 | h1 <;> exact tag_ne h1 (by omega)
    obtain ⟨q0, hq0⟩ := TV_CL (hT2 _ List.mem_cons_self) hdd
    have he := WL_cell (E := E) (M := M') hq0
    rw [List.map_cons, cv_al E hdd]
    have hk := k H locs hH hS (cons_TV (tl1 hT2) trivial)
    have hv : Int32.ofNat (dlen dd) = iN (dlen dd) := (Int32.ofInt_eq_ofNat).symm
    rcases htag with h1 | h1 | h1
    · rw [cell_int E M' h1] at he
      exact va_alen hx hb hK hH q0 0 he rfl hv hdec hk
    · rw [cell_long E M' h1] at he
      exact va_alen hx hb hK hH q0 1 he rfl hv hdec hk
    · rw [cell_byte E M' h1] at he
      exact va_alen hx hb hK hH q0 2 he rfl hv hdec hk
  | _ => cases hs
end
section
def csum (st : List AV) : Nat := (st.map (fun v => v.1.category)).sum
theorem csum_cv (E : EnvT) (st : List AV) : ((st.map (cv E)).map fun v => v.category).sum = csum st := by
  unfold csum
  rw [List.map_map]
  congr 1
  apply List.map_congr_left
  intro v _
  exact cv_cat E v
def pushR (cal : MI) (r : AV) (st : List AV) : List AV := match rk cal.2.2.2.1 with
  | 0 => st
  | 1 => (.int (toI r), 0) :: st
  | 2 => (.long (toL r), 0) :: st
  | _ => (.ref (toR r), 999) :: st
theorem pushR_cv {E : EnvT} {cal : MI} {r : AV} {v : Option Value} (st : List AV) (h : Qr cal E r (.returned v)) : v.toList ++ st.map (cv E) = (pushR cal r st).map (cv E) := by
  unfold Qr at h
  unfold pushR
  split at h
  · rename_i e
    rw [e]
    cases h
    rfl
  · rename_i e
    rw [e]
    obtain ⟨x, rfl, h2⟩ := h
    cases h2
    rfl
  · rename_i e
    rw [e]
    obtain ⟨x, rfl, h2⟩ := h
    cases h2
    rfl
  · rename_i n h0 h1 h2
    obtain ⟨x, rfl, -, h3⟩ := h
    cases h3
    split
    · rename_i e; exact absurd e h0
    · rename_i e; exact absurd e h1
    · rename_i e; exact absurd e h2
    · rfl
theorem pushR_TV {E : EnvT} {cal : MI} {r : AV} {v : Option Value} {st : List AV} (h : Qr cal E r (.returned v)) (hT : ∀ v ∈ st, TV v) : ∀ v ∈ pushR cal r st, TV v := by
  unfold Qr at h
  unfold pushR
  split at h
  · rename_i e
    rw [e]
    exact hT
  · rename_i e
    rw [e]
    exact cons_TV hT trivial
  · rename_i e
    rw [e]
    exact cons_TV hT trivial
  · rename_i n h0 h1 h2
    obtain ⟨x, rfl, hx, h3⟩ := h
    split
    · exact hT
    · exact cons_TV hT trivial
    · exact cons_TV hT trivial
    · exact cons_TV hT (Or.inl ⟨rfl, hx⟩)
theorem call_go {l : Launch} {E : EnvT} {cal : MI} {K : AV → Mem → Prop} {rest : List AV} {st0 : List Value} {a : Array Value} {pc : Nat} {Q : State → Prop} {p : Program} {e : Env} {R : Room} {s : State} {m : MethodId} {args : Array Value} {below : List Frame} {meth : Method} {c : Code} {H : Heap} {locs : List Loc} {la : Array Slot} {cells slots : Nat}
    (hr : va_Run p l e R s m args below meth c H locs cells slots 0 0 (F0 m pc la st0) (rest.map (cv E)) (QQ E cal K a) (Ab E)) (hS : va_S (Ab E) s.heap H locs) (hT : ∀ v ∈ rest, TV v)
    (kk : ∀ (r : AV) (M' : Mem), K r M' → ∀ (H' : Heap) (locs' : List Loc), HX E M' H' → va_S (Ab E) s.heap H' locs' → (∀ v ∈ pushR cal r rest, TV v) → W p l e R s m args below meth c H' locs' cells slots Q (F0 m (pc + 3) la ((pushR cal r rest).map (cv E)))) :
    W p l e R s m args below meth c H locs cells slots Q (F0 m pc la st0) := by
  intro T hT0 X
  obtain ⟨v, st₀, t, T', L, h0, X', hL, e1, e2, ⟨⟨r, M', hK, hQ, hH⟩, hz, hk⟩, stp⟩ := hr T hT0 X
  rw [h0] at hz hk
  have hS' : va_S (Ab E) s.heap T'.heap (locs ++ L) := ⟨Nat.le_trans hS.1 (by rw [e1]; exact hz), fun q h1 h2 => by rw [e1, hk q (Nat.lt_of_lt_of_le h1 hS.1) h2]; exact hS.2.1 q h1 h2, fun q hq => by
      rcases List.mem_append.mp hq with h | h
      · exact hS.2.2 q h
      · exact hL q h⟩
  obtain ⟨t2, a1, b1⟩ := kk r M' hK T'.heap (locs ++ L) (by rw [e1]; exact hH) hS' (pushR_TV hQ hT) T' rfl X'
  rw [← pushR_cv rest hQ] at a1
  exact ⟨t2, stp t2 a1, b1⟩
/-- what a program asks of a method that is called -/
def okM (cal : MI) : Bool :=
  decide (lw_tbl[cal.2.2.2.2.2.2.2.getD 0 0]? = some (.code cal.1 cal.2.1 cal.2.2.1 cal.2.2.2.1)) && (decide (lw_tbl[cal.2.2.2.2.2.2.2.getD 1 0]? = some (.initialized cal.1.cls)) && (decide (cal.2.2.1 ≤ 40) &&
  (decide (cal.1.cls ≠ "java/lang/invoke/MethodHandle" ∧ cal.1.cls ≠ "java/lang/invoke/VarHandle" ∧ (parseMethodDescriptor cal.1.desc).map (fun d => d.parameters.length) = some cal.2.2.2.2.1) &&
  (if cal.2.2.2.2.2.1 = 0 then decide (lw_tbl[cal.2.2.2.2.2.2.2.getD 2 0]? = some (.static cal.1))
   else decide (lw_tbl[cal.2.2.2.2.2.2.2.getD 2 0]? = some (.instanceMethod cal.1)) && (decide (lw_tbl[cal.2.2.2.2.2.2.2.getD 3 0]? = some (.selects cal.1.cls cal.1 cal.1)) &&
     (if cal.2.2.2.2.2.1 = 1 then decide ((vCl[cal.2.2.2.2.2.2.1]?).map (fun q => q.1) = some cal.1.cls) else decide (cal.1.cls = "java/lang/String")))))))
theorem GoodIn_WS {mi cal : MI} {extra : List Cond} (h : ∀ w ∈ extra, ∃ i : Nat, lw_tbl[i]? = some w) (hg : ∀ w ∈ extra, goodWord w = true) {i : Nat} (hc : lw_tbl[i]? = some (.code cal.1 cal.2.1 cal.2.2.1 cal.2.2.2.1)) : GoodIn (WS mi) (extra ++ WS cal) := by
  intro w hw
  rcases List.mem_append.mp hw with hw | hw
  · obtain ⟨j, hj⟩ := h w hw
    exact ⟨in_WS hj (hg w hw), good_of_word (hg w hw)⟩
  · rcases List.mem_cons.mp hw with rfl | hw
    · exact ⟨in_WS hc rfl, Or.inl rfl⟩
    · exact ⟨List.mem_cons_of_mem _ hw, good_of_word (List.mem_filter.mp hw).2⟩
theorem CT.blind {E : EnvT} {as : List AV} {M : Mem} : FrameBlind (va_Pc (as.map (cv E)) (fun U => HX E M U.heap ∧ KK E U ∧ DX E ∧ eB E ≤ U.heap.size)) := by
  intro a U g mk h
  obtain ⟨h1, h2, h3, h4, h5⟩ := h
  exact ⟨h1, h2, h3.call g mk a, h4, h5⟩
theorem CT.pre {E : EnvT} {as : List AV} {M : Mem} {s : State} {H : Heap} {locs : List Loc} (hKK : KK E s) (hDX : DX E) (hbs : eB E ≤ s.heap.size) (hH : HX E M H) (hS : va_S (Ab E) s.heap H locs) : ∀ U : State, U.heap = H → s.WarmedH U.vm → va_Pc (as.map (cv E)) (fun U => HX E M U.heap ∧ KK E U ∧ DX E ∧ eB E ≤ U.heap.size) (as.map (cv E)).toArray U := by
  intro U hU hW
  exact ⟨rfl, by rw [hU]; exact hH, hKK.move hS hU hW, hDX, by rw [hU]; exact Nat.le_trans hbs hS.1⟩
theorem callS_ok {l : Launch} {E : EnvT} {dc : Nat} {cal : MI} {K : AV → Mem → Prop} {as rest : List AV} {M : Mem} {pc idx i : Nat} {Q : State → Prop} {p : Program} {e : Env} {R : Room} {s : State} {m : MethodId} {args : Array Value} {below : List Frame} {meth : Method} {c : Code} {H : Heap} {locs : List Loc} {la : Array Slot} {cells slots nL : Nat} {cc : ByteArray} {own : String} {mi : MI}
    (S : CallFix p m c cc nL s args (WS mi) own) (hKK : KK E s) (hDX : DX E) (hbs : eB E ≤ s.heap.size) (hM : CT l E dc cal as M K) (hok : okM cal = true) (hkd : cal.2.2.2.2.2.1 = 0) (hlk : lw_tbl[i]? = some (.methodLink own idx cal.1)) (hR : dc + 1 ≤ R.frames ∧ 64 * (dc + 1) ≤ R.locals) (hn : as.length = cal.2.2.2.2.1) (hT1 : ∀ v ∈ as, TV v) (hT : ∀ v ∈ rest, TV v)
    (hH : HX E M H) (hS : va_S (Ab E) s.heap H locs) (hsz : la.size = nL) (hcs : csum rest ≤ 8) (hdg : decode cc pc = .ok (.invokestatic idx, 3)) (hf : cells ≤ R.cells ∧ slots ≤ R.slots)
    (kk : ∀ (r : AV) (M' : Mem), K r M' → ∀ (H' : Heap) (locs' : List Loc), HX E M' H' → va_S (Ab E) s.heap H' locs' → (∀ v ∈ pushR cal r rest, TV v) → W p l e R s m args below meth c H' locs' cells slots Q (F0 m (pc + 3) la ((pushR cal r rest).map (cv E)))) :
    W p l e R s m args below meth c H locs cells slots Q (F0 m pc la ((as.reverse ++ rest).map (cv E))) := by
  simp only [okM, Bool.and_eq_true, decide_eq_true_eq, hkd, if_true] at hok
  obtain ⟨h1, h2, h3, h4, h5⟩ := hok
  refine call_go (va_runS (As := as.map (cv E)) S (hM hT1) (va_cwS (mc := 0) (ms := 0) (ws' := lw_tbl.filter goodWord) cal.2.2.2.2.1 S.2.2.2.2 (GoodIn_WS (extra := [.methodLink own idx cal.1, .static cal.1, .initialized cal.1.cls]) ?_ ?_ h1) rfl rfl rfl h4 ⟨?_, ?_⟩) ⟨CT.blind, CT.pre hKK hDX hbs hH hS⟩ rfl ?_ hsz ?_ (lv_room ?_) hdg hf) hS hT kk
  · intro w hw
    simp only [List.mem_cons, List.not_mem_nil, or_false] at hw
    rcases hw with rfl | rfl | rfl
    · exact ⟨_, hlk⟩
    · exact ⟨_, h5⟩
    · exact ⟨_, h2⟩
  · intro w hw
    simp only [List.mem_cons, List.not_mem_nil, or_false] at hw
    rcases hw with rfl | rfl | rfl <;> rfl
  · exact hR.1
  · show 8 + (cal.2.2.1 + 11) + 64 * dc ≤ R.locals
    omega
  · rw [List.length_map]; exact hn
  · simp
  · rw [csum_cv]; exact hcs
theorem callV_ok {l : Launch} {E : EnvT} {dc : Nat} {cal : MI} {K : AV → Mem → Prop} {as rest : List AV} {M : Mem} {pc idx i r0 dd0 : Nat} {Q : State → Prop} {p : Program} {e : Env} {R : Room} {s : State} {m : MethodId} {args : Array Value} {below : List Frame} {meth : Method} {c : Code} {H : Heap} {locs : List Loc} {la : Array Slot} {cells slots nL : Nat} {cc : ByteArray} {own : String} {mi : MI}
    (S : CallFix p m c cc nL s args (WS mi) own) (hKK : KK E s) (hDX : DX E) (hbs : eB E ≤ s.heap.size) (hM : CT l E dc cal ((.ref r0, dd0) :: as) M K) (hok : okM cal = true) (hkd : cal.2.2.2.2.2.1 = 1 ∧ (dsc dd0).2.1 = cal.2.2.2.2.2.2.1 ∨ cal.2.2.2.2.2.1 = 2 ∧ dd0 = 999) (hlk : lw_tbl[i]? = some (.methodLink own idx cal.1)) (hR : dc + 1 ≤ R.frames ∧ 64 * (dc + 1) ≤ R.locals) (hn : as.length = cal.2.2.2.2.1) (hT1 : ∀ v ∈ (.ref r0, dd0) :: as, TV v) (hT : ∀ v ∈ rest, TV v)
    (hH : HX E M H) (hS : va_S (Ab E) s.heap H locs) (hsz : la.size = nL) (hcs : csum rest ≤ 8) (hdg : decode cc pc = .ok (.invokevirtual idx, 3)) (hf : cells ≤ R.cells ∧ slots ≤ R.slots)
    (kk : ∀ (r : AV) (M' : Mem), K r M' → ∀ (H' : Heap) (locs' : List Loc), HX E M' H' → va_S (Ab E) s.heap H' locs' → (∀ v ∈ pushR cal r rest, TV v) → W p l e R s m args below meth c H' locs' cells slots Q (F0 m (pc + 3) la ((pushR cal r rest).map (cv E)))) :
    W p l e R s m args below meth c H locs cells slots Q (F0 m pc la ((as.reverse ++ (.ref r0, dd0) :: rest).map (cv E))) := by
  have hk0 : ¬ cal.2.2.2.2.2.1 = 0 := by omega
  simp only [okM, Bool.and_eq_true, decide_eq_true_eq, hk0, if_false] at hok
  obtain ⟨h1, h2, h3, h4, h5, h6, h7⟩ := hok
  have hrecv : ∃ b, cv E (.ref r0, dd0) = .ref b ∧ ∃ cellB : Cell, H[b]? = some cellB ∧ cellB.vm.isStatics = false ∧ s.vm.findClass cal.1.cls = some cellB.cls := by
    rcases hkd with ⟨ka, kb⟩ | ⟨ka, kb⟩
    · rw [if_pos ka] at h7
      have h8 := of_decide_eq_true h7
      cases hcq : vCl[cal.2.2.2.2.2.2.1]? with
      | none => rw [hcq] at h8; cases h8
      | some q =>
        rw [hcq] at h8
        have hlt : cal.2.2.2.2.2.2.1 < 12 := (List.getElem?_eq_some_iff.mp hcq).1
        have hdd : dd0 ≠ 999 := tag_ne kb (by omega)
        obtain ⟨q0, hq0⟩ := TV_CL (hT1 _ List.mem_cons_self) hdd
        have he := WL_cell (E := E) (M := M) hq0
        rw [cell_obj E M (by omega), kb] at he
        refine ⟨_, cv_al E hdd, ?_⟩
        have hv := va_recv hKK.1 hH hcq he
        rw [← Option.some.inj h8]
        exact hv
    · subst kb
      rw [if_neg (by omega)] at h7
      have hc := of_decide_eq_true h7
      refine ⟨eK E r0, rfl, ?_⟩
      rw [hc]
      have hx : r0 < 9 := by
        rcases hT1 _ List.mem_cons_self with h | h
        · exact h.2
        · exact absurd rfl h.1
      exact vk_recv hKK.2.1 hx hS
  obtain ⟨b, hb, hcell⟩ := hrecv
  have hpre := CT.pre (as := (.ref r0, dd0) :: as) hKK hDX hbs hH hS
  have hMM := hM hT1
  simp only [List.map_cons, hb] at hpre hMM
  simp only [List.map_append, List.map_cons, hb, List.map_reverse]
  refine call_go (va_runV (C := cal.1.cls) (b := b) (As := as.map (cv E)) S hMM (cwV (mc := 0) (ms := 0) (ws' := lw_tbl.filter goodWord) cal.2.2.2.2.1 S.2.2.2.2 (GoodIn_WS (extra := [.methodLink own idx cal.1, .instanceMethod cal.1, .selects cal.1.cls cal.1 cal.1, .initialized cal.1.cls]) ?_ ?_ h1) rfl rfl rfl ⟨rfl, h4⟩ ⟨?_, ?_⟩) ⟨?_, hcell, hpre⟩ rfl ?_ hsz rfl (lv_room ?_) hdg hf) hS hT kk
  · intro w hw
    simp only [List.mem_cons, List.not_mem_nil, or_false] at hw
    rcases hw with rfl | rfl | rfl | rfl
    · exact ⟨_, hlk⟩
    · exact ⟨_, h5⟩
    · exact ⟨_, h6⟩
    · exact ⟨_, h2⟩
  · intro w hw
    simp only [List.mem_cons, List.not_mem_nil, or_false] at hw
    rcases hw with rfl | rfl | rfl | rfl <;> rfl
  · exact hR.1
  · show 8 + (cal.2.2.1 + 11) + 64 * dc ≤ R.locals
    omega
  · have := CT.blind (E := E) (as := (.ref r0, dd0) :: as) (M := M)
    simp only [List.map_cons, hb] at this
    exact this
  · rw [List.length_map]; exact hn
  · rw [csum_cv]; exact hcs
end
section
abbrev JT : Type := Nat → LsT → List AV → Mem → Prop
def swP (x : Int32) (J : Nat → Prop) : List (Int × Nat) → Nat → Prop
  | [], d => J d
  | (k, t) :: l, d => (x = iN k → J t) ∧ (¬ x = iN k → swP x J l d)
def tpairs (pc : Nat) : Int → List Int → List (Int × Nat)
  | _, [] => []
  | k, o :: t => (k, ((pc : Int) + o).toNat) :: tpairs pc (k + 1) t
def lpairs (pc : Nat) : List (Int × Int) → List (Int × Nat)
  | [] => []
  | (k, o) :: t => (k, ((pc : Int) + o).toNat) :: lpairs pc t
def wCmp (c : ClassFile.Cond) (x y : Int32) (a b : Prop) : Prop := match c with
  | .eq => (x = y → a) ∧ (¬ x = y → b)
  | .ne => (¬ x = y → a) ∧ (x = y → b)
  | .lt => (x < y → a) ∧ (¬ x < y → b)
  | .ge => (y ≤ x → a) ∧ (¬ y ≤ x → b)
  | .gt => (y < x → a) ∧ (¬ y < x → b)
  | .le => (x ≤ y → a) ∧ (¬ x ≤ y → b)
def wRetI (mi : MI) (K : AV → Mem → Prop) (x : Int32) (M : Mem) : Prop := match mi.2.2.2.1 with
  | some .int => K (.int x, 0) M
  | some .boolean => (x = 0 ∨ x = 1) ∧ K (.int x, 0) M
  | _ => False
def cpyM (M : Mem) (r0 c0 r1 c1 sp dp n : Nat) : Mem := updC M r1 c1 (va_cpy (M r0 c0) (M r1 c1) sp dp n)
def wCpy (st : List AV) (M : Mem) : CtR := match st with
  | (.int n, _) :: (.int dp, _) :: (.ref r1, d1) :: (.int sp, _) :: (.ref r0, d0) :: t =>
    if csum t ≤ 8 ∧ (((dsc d0).2.1 = 100 ∧ (dsc d1).2.1 = 100) ∨ ((dsc d0).2.1 = 101 ∧ (dsc d1).2.1 = 101)) then
      some ([¬ sp < 0, ¬ dp < 0, ¬ n < 0, sp.toNatClampNeg + n.toNatClampNeg ≤ dlen d0, dp.toNatClampNeg + n.toNatClampNeg ≤ dlen d1], t, cpyM M r0 (dsc d0).1 r1 (dsc d1).1 sp.toNatClampNeg dp.toNatClampNeg n.toNatClampNeg)
    else none
  | _ => none
def wCall (l : Launch) (E : EnvT) (d : Nat) (cal : MI) (ar : Nat) (nx : List AV → Mem → Prop) (st : List AV) (M : Mem) : Prop :=
  if ar ≤ st.length ∧ csum (st.drop ar) ≤ 8 then CT l E (d - 1) cal (st.take ar).reverse M (fun r M' => nx (pushR cal r (st.drop ar)) M') else False
def recvOK (cal : MI) (v : Option AV) : Bool := match v with
  | some (.ref _, dd) => decide (cal.2.2.2.2.2.1 = 1 ∧ (dsc dd).2.1 = cal.2.2.2.2.2.2.1 ∨ cal.2.2.2.2.2.1 = 2 ∧ dd = 999)
  | _ => false
def wpX (l : Launch) (E : EnvT) (d : Nat) (mi : MI) (K : AV → Mem → Prop) (J : JT) (op : OpT) (nx : LsT → List AV → Mem → Prop) (ls : LsT) (st : List AV) (M : Mem) : Prop := match op.2.1 with
  | .goto _ => J op.2.2.2.1 ls st M
  | .if_icmp c _ => (match st with
    | (.int y, _) :: (.int x, _) :: t => wCmp c x y (J op.2.2.2.1 ls t M) (nx ls t M)
    | _ => False)
  | .ifCond c _ => (match st with
    | (.int x, _) :: t => wCmp c x 0 (J op.2.2.2.1 ls t M) (nx ls t M)
    | _ => False)
  | .tableswitch df lo _ offs => (match st with
    | (.int x, _) :: t => swP x (fun tg => J tg ls t M) (tpairs op.1 lo offs.toList) ((op.1 : Int) + df).toNat
    | _ => False)
  | .lookupswitch df ps => (match st with
    | (.int x, _) :: t => swP x (fun tg => J tg ls t M) (lpairs op.1 ps.toList) ((op.1 : Int) + df).toNat
    | _ => False)
  | .ireturn => (match st with
    | [(.int x, _)] => wRetI mi K x M
    | _ => False)
  | .lreturn => (match st with
    | [(.long x, _)] => (if rk mi.2.2.2.1 = 2 then K (.long x, 0) M else False)
    | _ => False)
  | .areturn => (match st with
    | [(.ref x, 999)] => (if rk mi.2.2.2.1 = 3 then K (.ref x, 999) M else False)
    | _ => False)
  | .return_ => (match st with
    | [] => (if rk mi.2.2.2.1 = 0 then K (.null, 0) M else False)
    | _ => False)
  | .invokestatic _ => if op.2.2.2.2.2.2.2.2.2.2.2.1 = 3 then (match wCpy st M with
      | some (P, t, M') => andL P (nx ls t M')
      | none => False)
    else if op.2.2.2.2.2.2.2.2.2.2.2.1 = 0 then wCall l E d op.2.2.2.2.2.2 op.2.2.2.2.2.2.2.2.2.2.1 (nx ls) st M else False
  | .invokevirtual _ => if recvOK op.2.2.2.2.2.2 (st[op.2.2.2.2.2.2.2.2.2.2.1]?) then wCall l E d op.2.2.2.2.2.2 (op.2.2.2.2.2.2.2.2.2.2.1 + 1) (nx ls) st M else False
  | _ => False
def wpGo (l : Launch) (E : EnvT) (d : Nat) (mi : MI) (K : AV → Mem → Prop) (J : JT) : List OpT → LsT → List AV → Mem → Prop
  | [], _, _, _ => False
  | op :: rest, ls, st, M => if op.2.2.1 = 0 then J op.1 ls st M else match stepS op.2.1 op.2.2.2.1 op.2.2.2.2.1 ls st with
    | some q => wpGo l E d mi K J rest q.1 q.2 M
    | none => match stepC op.2.1 op.2.2.2.1 op.2.2.2.2.1 st M with
      | some q => andL q.1 (wpGo l E d mi K J rest ls q.2.1 q.2.2)
      | none => wpX l E d mi K J op (wpGo l E d mi K J rest) ls st M
abbrev BtT : Type := List (Nat × List Nat × Bool × List OpT)
def bfind : BtT → Nat → Option (List Nat × Bool × List OpT)
  | [], _ => none
  | b :: t, pc => if b.1 = pc then some b.2 else bfind t pc
def wpCut (l : Launch) (E : EnvT) (d : Nat) (mi : MI) (K : AV → Mem → Prop) (pc : Nat) (keys : List Nat) (ls : LsT) (st : List AV) (M : Mem) : Prop := match lpick ls keys with
  | some ls' => G l E d mi pc ls' st M K
  | none => False
def wp (l : Launch) (E : EnvT) (d : Nat) (mi : MI) (K : AV → Mem → Prop) (Bt : BtT) : Nat → JT
  | 0, _, _, _, _ => False
  | f + 1, pc, ls, st, M => match bfind Bt pc with
    | none => False
    | some b => if b.2.1 then wpCut l E d mi K pc b.1 ls st M else wpGo l E d mi K (wp l E d mi K Bt f) b.2.2 ls st M
def okCpy (mi : MI) (i h : Nat) (cal : MI) : Bool := decide (lw_tbl[h]? = some (.methodLink mi.1.cls i arraycopyName)) && (decide (lw_tbl[cal.2.2.2.2.2.2.2.getD 0 0]? = some (.native arraycopyName)) && (decide (lw_tbl[cal.2.2.2.2.2.2.2.getD 1 0]? = some (.static arraycopyName)) && decide (lw_tbl[cal.2.2.2.2.2.2.2.getD 2 0]? = some (.initialized "java/lang/System"))))
def okX (mi : MI) (op : OpT) : Bool := match op.2.1 with
  | .goto o => decide ((op.1 : Int) + o = (op.2.2.2.1 : Int))
  | .if_icmp _ o => decide ((op.1 : Int) + o = (op.2.2.2.1 : Int))
  | .ifCond _ o => decide ((op.1 : Int) + o = (op.2.2.2.1 : Int))
  | .tableswitch df lo hi offs => decide (0 ≤ (op.1 : Int) + df) && (offs.toList.all (fun o => decide (0 ≤ (op.1 : Int) + o)) && (decide (-1000 ≤ lo ∧ hi ≤ 1000) && decide (hi + 1 = lo + offs.toList.length)))
  | .lookupswitch df ps => decide (0 ≤ (op.1 : Int) + df) && (ps.toList.all (fun q => decide (0 ≤ (op.1 : Int) + q.2 ∧ -1000 ≤ q.1 ∧ q.1 ≤ 1000)) && (ps.toList.zip (ps.toList.drop 1)).all (fun (a, next) => a.1 < next.1))
  | .invokestatic i => if op.2.2.2.2.2.2.2.2.2.2.2.1 = 3 then okCpy mi i op.2.2.2.2.2.1 op.2.2.2.2.2.2 else okM op.2.2.2.2.2.2 && decide (lw_tbl[op.2.2.2.2.2.1]? = some (.methodLink mi.1.cls i op.2.2.2.2.2.2.1))
  | .invokevirtual i => okM op.2.2.2.2.2.2 && decide (lw_tbl[op.2.2.2.2.2.1]? = some (.methodLink mi.1.cls i op.2.2.2.2.2.2.1))
  | _ => true
def okLen (ins : Instr) (len : Nat) : Bool := match ins with
  | .tableswitch _ _ _ _ => true
  | .lookupswitch _ _ => true
  | _ => decide (len = ilen ins)
def okB (mi : MI) (op : OpT) : Bool := decide (decode mi.2.1 op.1 = .ok (op.2.1, op.2.2.1)) && (okLen op.2.1 op.2.2.1 && (okS mi op.2.1 op.2.2.2.1 op.2.2.2.2.1 op.2.2.2.2.2.1 && (okC mi op.2.1 op.2.2.2.1 op.2.2.2.2.1 op.2.2.2.2.2.1 && okX mi op)))
def okBlk (mi : MI) : Nat → List OpT → Bool
  | _, [] => true
  | pc, op :: t => decide (op.1 = pc) && (decide (op.2.2.1 = 0) || (okB mi op && okBlk mi (pc + op.2.2.1) t))
end
section
theorem swP_spec {x : Int32} {J : Nat → Prop} : ∀ (l : List (Int × Nat)) (d : Nat), swP x J l d → (∃ q ∈ l, x = iN q.1 ∧ J q.2) ∨ ((∀ q ∈ l, ¬ x = iN q.1) ∧ J d)
  | [], d, h => Or.inr ⟨fun q hq => (by cases hq), h⟩
  | (k, t) :: l, d, h => by
    by_cases e : x = iN k
    · exact Or.inl ⟨(k, t), List.mem_cons_self, e, h.1 e⟩
    · rcases swP_spec l d (h.2 e) with ⟨q, hq, h1⟩ | ⟨h1, h2⟩
      · exact Or.inl ⟨q, List.mem_cons_of_mem _ hq, h1⟩
      · refine Or.inr ⟨fun q hq => ?_, h2⟩
        rcases List.mem_cons.mp hq with rfl | hq
        · exact e
        · exact h1 q hq
theorem iN_small {z : Int} (h1 : -2147483648 ≤ z) (h2 : z < 2147483648) : (iN z).toInt = z := by
  unfold iN
  rw [Int32.toInt_ofInt]
  have h4 : (Int32.size : Int) = 4294967296 := rfl
  exact Int.bmod_eq_of_le (by omega) (by omega)
theorem tpairs_mem {pc : Nat} : ∀ (offs : List Int) (k : Int) (q : Int × Nat), q ∈ tpairs pc k offs → ∃ (i : Nat) (o : Int), offs[i]? = some o ∧ q.1 = k + i ∧ q.2 = ((pc : Int) + o).toNat
  | [], _, q, h => by cases h
  | o :: t, k, q, h => by
    rcases List.mem_cons.mp h with rfl | h
    · exact ⟨0, o, rfl, by simp, rfl⟩
    · obtain ⟨i, o', h1, h2, h3⟩ := tpairs_mem t (k + 1) q h
      exact ⟨i + 1, o', h1, by rw [h2]; push_cast; omega, h3⟩
theorem tpairs_all {pc : Nat} : ∀ (offs : List Int) (k : Int) (i : Nat), i < offs.length → ∃ t, (k + i, t) ∈ tpairs pc k offs
  | [], _, i, h => by simp at h
  | o :: t, k, 0, _ => ⟨((pc : Int) + o).toNat, by simp only [tpairs]; exact List.mem_cons.mpr (Or.inl (by simp))⟩
  | o :: t, k, i + 1, h => by
    obtain ⟨t', h'⟩ := tpairs_all (pc := pc) t (k + 1) i (by simpa using h)
    refine ⟨t', List.mem_cons_of_mem _ ?_⟩
    have e : k + ((i + 1 : Nat) : Int) = k + 1 + (i : Int) := by push_cast; omega
    rw [e]
    exact h'
theorem lpairs_off {pc : Nat} {x : Int32} {df : Int} : ∀ (ps : List (Int × Int)), (∀ q ∈ ps, -1000 ≤ q.1 ∧ q.1 ≤ 1000) → (∀ q ∈ lpairs pc ps, ¬ x = iN q.1) → Op.lookupswitch.offset ps df x.toInt = df
  | [], _, _ => rfl
  | (a, o) :: t, h, h2 => by
    rw [Op.lookupswitch.offset_cons, if_neg]
    · exact lpairs_off t (fun q hq => h q (List.mem_cons_of_mem _ hq)) (fun q hq => h2 q (List.mem_cons_of_mem _ hq))
    · intro e
      have := h (a, o) List.mem_cons_self
      apply h2 (a, ((pc : Int) + o).toNat) List.mem_cons_self
      rw [e, iN_toInt]
theorem lpairs_mem {pc : Nat} : ∀ (l : List (Int × Int)) (q : Int × Nat), q ∈ lpairs pc l → ∃ o', (q.1, o') ∈ l
  | [], q, h => by cases h
  | (a, o) :: l, q, h => by
    rcases List.mem_cons.mp h with rfl | h
    · exact ⟨o, List.mem_cons_self⟩
    · obtain ⟨o', h'⟩ := lpairs_mem l q h
      exact ⟨o', List.mem_cons_of_mem _ h'⟩
theorem lpairs_hit {pc : Nat} {x : Int32} {df : Int} : ∀ (ps : List (Int × Int)), (∀ q ∈ ps, -1000 ≤ q.1 ∧ q.1 ≤ 1000) → (ps.zip (ps.drop 1)).all (fun (a, next) => a.1 < next.1) = true → ∀ q ∈ lpairs pc ps, x = iN q.1 → ∃ o, Op.lookupswitch.offset ps df x.toInt = o ∧ q.2 = ((pc : Int) + o).toNat ∧ ∃ a, (a, o) ∈ ps
  | [], _, _, q, hq, _ => by cases hq
  | (a, o) :: t, h, hs, q, hq, e => by
    have ha := h (a, o) List.mem_cons_self
    by_cases hae : a = x.toInt
    · refine ⟨o, by rw [Op.lookupswitch.offset_cons, if_pos hae], ?_, a, List.mem_cons_self⟩
      rcases List.mem_cons.mp hq with rfl | hq
      · rfl
      · exfalso
        have hlt : ∀ (l : List (Int × Int)) (b : Int × Int), ((b :: l).zip ((b :: l).drop 1)).all (fun (a, next) => a.1 < next.1) = true → ∀ c ∈ l, b.1 < c.1 := by
          intro l
          induction l with
          | nil => intro b _ c hc; cases hc
          | cons d l ih =>
            intro b hb c hc
            have hb' : (decide (b.1 < d.1) && ((d :: l).zip ((d :: l).drop 1)).all (fun (a, next) => a.1 < next.1)) = true := hb
            rw [Bool.and_eq_true, decide_eq_true_eq] at hb'
            rcases List.mem_cons.mp hc with rfl | hc
            · exact hb'.1
            · exact Int.lt_trans hb'.1 (ih d hb'.2 c hc)
        have hm : ∃ o', (q.1, o') ∈ t := lpairs_mem t q hq
        obtain ⟨o', ho'⟩ := hm
        have h1 := hlt t (a, o) hs (q.1, o') ho'
        have h2 := h (q.1, o') (List.mem_cons_of_mem _ ho')
        have h3 : x.toInt = q.1 := by rw [e]; exact iN_small (by omega) (by omega)
        simp only at h1
        omega
    · rcases List.mem_cons.mp hq with rfl | hq
      · exfalso
        apply hae
        rw [e]
        exact (iN_small (by omega) (by omega)).symm
      · have hs' : (t.zip (t.drop 1)).all (fun (a, next) => a.1 < next.1) = true := by
          cases t with
          | nil => rfl
          | cons b t =>
            have hb' : (decide (a < b.1) && ((b :: t).zip ((b :: t).drop 1)).all (fun (a, next) => a.1 < next.1)) = true := hs
            rw [Bool.and_eq_true] at hb'
            exact hb'.2
        obtain ⟨o', h1, h2, b, h3⟩ := lpairs_hit (df := df) t (fun q hq => h q (List.mem_cons_of_mem _ hq)) hs' q hq e
        exact ⟨o', by rw [Op.lookupswitch.offset_cons, if_neg hae]; exact h1, h2, b, List.mem_cons_of_mem _ h3⟩
theorem wCpy_inv {st st' : List AV} {M M' : Mem} {P : List Prop} (h : wCpy st M = some (P, st', M')) : ∃ n dn dp ddp r1 d1 sp dsp r0 d0, st = (.int n, dn) :: (.int dp, ddp) :: (.ref r1, d1) :: (.int sp, dsp) :: (.ref r0, d0) :: st' ∧ (((dsc d0).2.1 = 100 ∧ (dsc d1).2.1 = 100) ∨ ((dsc d0).2.1 = 101 ∧ (dsc d1).2.1 = 101)) ∧ P = [¬ sp < 0, ¬ dp < 0, ¬ n < 0, sp.toNatClampNeg + n.toNatClampNeg ≤ dlen d0, dp.toNatClampNeg + n.toNatClampNeg ≤ dlen d1] ∧ M' = updC M r1 (dsc d1).1 (va_cpy (M r0 (dsc d0).1) (M r1 (dsc d1).1) sp.toNatClampNeg dp.toNatClampNeg n.toNatClampNeg) := by
  unfold wCpy at h
  split at h
  · split at h
    · rename_i h1
      cases h
      exact ⟨_, _, _, _, _, _, _, _, _, _, rfl, h1.2, rfl, rfl⟩
    · cases h
  · cases h
theorem wCpy_cs {st st' : List AV} {M M' : Mem} {P : List Prop} (h : wCpy st M = some (P, st', M')) : csum st' ≤ 8 := by
  unfold wCpy at h
  split at h
  · split at h
    · rename_i h1
      cases h
      exact h1.1
    · cases h
  · cases h
theorem updC_off (M : Mem) (r c : Nat) (f : Nat → Int) (r' c' : Nat) (h : ¬ (r' = r ∧ c' = c)) : updC M r c f r' c' = M r' c' := by
  unfold updC
  rw [if_neg h]
theorem updC_same (M : Mem) (r c : Nat) (f : Nat → Int) : updC M r c f r c = f := by simp [updC]
theorem cpy_map {α β : Type} (g : α → β) (f h : Nat → α) (a b n : Nat) : va_cpy (fun k => g (f k)) (fun k => g (h k)) a b n = fun k => g (va_cpy f h a b n k) := by
  funext k
  unfold va_cpy
  split <;> rfl
set_option maxHeartbeats 4000000 in
theorem cpy_ok {l : Launch} {E : EnvT} {d : Nat} {mi cal : MI} {i h pc : Nat} {st st' : List AV} {M M' : Mem} {P : List Prop} {Q : State → Prop} {p : Program} {e : Env} {s : State} {m : MethodId} {args : Array Value} {below : List Frame} {meth : Method} {c : Code} {H : Heap} {locs : List Loc} {la : Array Slot}
    (hC : CX E mi p s m args meth c) (hd : 1 ≤ d) (hdec : decode mi.2.1 pc = .ok (.invokestatic i, 3)) (hok : okCpy mi i h cal = true) (hs : wCpy st M = some (P, st', M')) (hcs : csum st' ≤ 8) (hH : HX E M H) (hS : va_S (Ab E) s.heap H locs) (hT2 : ∀ v ∈ st, TV v) (hP : andL P True) (hl : la.size = mi.2.2.1)
    (k : ∀ (H' : Heap) (locs' : List Loc), HX E M' H' → va_S (Ab E) s.heap H' locs' → (∀ v ∈ st', TV v) → W p l e (rmD d) s m args below meth c H' locs' 0 0 Q (F0 m (pc + 3) la (st'.map (cv E)))) :
    W p l e (rmD d) s m args below meth c H locs 0 0 Q (F0 m pc la (st.map (cv E))) := by
  obtain ⟨hx, hb, hml, hown, hts, hr, hlocks, hKK, hDX, hbs⟩ := hC
  have hD := hDX.all M
  have hK := hKK.1
  simp only [okCpy, Bool.and_eq_true, decide_eq_true_eq] at hok
  obtain ⟨w1, w2, w3, w4⟩ := hok
  obtain ⟨n, dn, dp, ddp, r1, d1, sp, dsp, r0, d0, rfl, htag, rfl, rfl⟩ := wCpy_inv hs
  obtain ⟨p1, p2, p3, p4, p5, -⟩ := hP
  have hT9 : ∀ v ∈ st', TV v := fun v hv => hT2 v (List.mem_cons_of_mem _ (List.mem_cons_of_mem _ (List.mem_cons_of_mem _ (List.mem_cons_of_mem _ (List.mem_cons_of_mem _ hv)))))
  have ht0 : TV (.ref r0, d0) := hT2 _ (List.mem_cons_of_mem _ (List.mem_cons_of_mem _ (List.mem_cons_of_mem _ (List.mem_cons_of_mem _ List.mem_cons_self))))
  have ht1 : TV (.ref r1, d1) := hT2 _ (List.mem_cons_of_mem _ (List.mem_cons_of_mem _ List.mem_cons_self))
  have hfr : 1 ≤ (rmD d).frames := hd
  have hlo : ((st'.map (cv E)).map fun v => v.category).sum + (nativeFrameWords "java/lang/System" "arraycopy" 5 + 11) ≤ (rmD d).locals := by
    rw [csum_cv]
    have : nativeFrameWords "java/lang/System" "arraycopy" 5 + 11 ≤ 50 := by decide +kernel
    show _ ≤ 64 * d
    omega
  rcases htag with ⟨hg0, hg1⟩ | ⟨hg0, hg1⟩
  · have hd0 : d0 ≠ 999 := tag_ne hg0 (by omega)
    have hd1 : d1 ≠ 999 := tag_ne hg1 (by omega)
    obtain ⟨q0, hq0⟩ := TV_CL ht0 hd0
    obtain ⟨q1, hq1⟩ := TV_CL ht1 hd1
    have he0 := WL_cell (E := E) (M := M) hq0
    have he1 := WL_cell (E := E) (M := M) hq1
    rw [cell_int E M hg0] at he0
    rw [cell_int E M hg1] at he1
    simp only [List.map_cons, cv_al E hd0, cv_al E hd1, cv_int]
    refine va_copyi (ty := .int) hx hb (hml.trans hl.symm) hown (hts _ (in_WS w1 rfl)) (hts _ (in_WS w2 rfl)) (hts _ (in_WS w3 rfl)) (hts _ (in_WS w4 rfl)) hK hH hD hS q0 q1 0 0 he0 he1 rfl rfl rfl p1 p2 p3 p4 p5 (fun i _ => rfl) hfr hlo hdec (fun H1 locs1 hP1 hD1 hS1 => ?_)
    rw [WL_set (M' := updC M r1 (dsc d1).1 (va_cpy (M r0 (dsc d0).1) (M r1 (dsc d1).1) sp.toNatClampNeg dp.toNatClampNeg n.toNatClampNeg)) hq1 (by rw [cell_int E _ hg1, updC_same, cpy_map iN]) (updC_off M r1 (dsc d1).1 _)] at hP1
    exact k H1 locs1 hP1 hS1 hT9
  · have hd0 : d0 ≠ 999 := tag_ne hg0 (by omega)
    have hd1 : d1 ≠ 999 := tag_ne hg1 (by omega)
    obtain ⟨q0, hq0⟩ := TV_CL ht0 hd0
    obtain ⟨q1, hq1⟩ := TV_CL ht1 hd1
    have he0 := WL_cell (E := E) (M := M) hq0
    have he1 := WL_cell (E := E) (M := M) hq1
    rw [cell_long E M hg0] at he0
    rw [cell_long E M hg1] at he1
    simp only [List.map_cons, cv_al E hd0, cv_al E hd1, cv_int]
    refine va_copyl (ty := .long) hx hb (hml.trans hl.symm) hown (hts _ (in_WS w1 rfl)) (hts _ (in_WS w2 rfl)) (hts _ (in_WS w3 rfl)) (hts _ (in_WS w4 rfl)) hK hH hD hS q0 q1 1 1 he0 he1 rfl rfl rfl p1 p2 p3 p4 p5 (fun i _ => rfl) hfr hlo hdec (fun H1 locs1 hP1 hD1 hS1 => ?_)
    rw [WL_set (M' := updC M r1 (dsc d1).1 (va_cpy (M r0 (dsc d0).1) (M r1 (dsc d1).1) sp.toNatClampNeg dp.toNatClampNeg n.toNatClampNeg)) hq1 (by rw [cell_long E _ hg1, updC_same, cpy_map lI]) (updC_off M r1 (dsc d1).1 _)] at hP1
    exact k H1 locs1 hP1 hS1 hT9
end
section
theorem andL_True : ∀ {P : List Prop} {q : Prop}, andL P q → andL P True
  | [], _, _ => trivial
  | _ :: _, _, h => ⟨h.1, andL_True h.2⟩
theorem okLen_S {ins : Instr} {len aux : Nat} {z : Int} {ls : LsT} {st : List AV} {q : LsT × List AV} (h : okLen ins len = true) (hs : stepS ins aux z ls st = some q) : len = ilen ins := by
  unfold okLen at h
  split at h
  · cases hs
  · cases hs
  · exact of_decide_eq_true h
theorem okLen_C {ins : Instr} {len aux : Nat} {z : Int} {st : List AV} {M : Mem} {q : List Prop × List AV × Mem} (h : okLen ins len = true) (hs : stepC ins aux z st M = some q) : len = ilen ins := by
  unfold okLen at h
  split at h
  · cases hs
  · cases hs
  · exact of_decide_eq_true h
set_option maxHeartbeats 4000000 in
theorem wpX_ok {l : Launch} {E : EnvT} {d : Nat} {mi : MI} {K : AV → Mem → Prop} {J : JT} {op : OpT} {nx : LsT → List AV → Mem → Prop} {ls : LsT} {st : List AV} {M : Mem} (hd : 1 ≤ d) (hJ : ∀ pc ls st M, J pc ls st M → G l E d mi pc ls st M K) (hnx : ∀ ls st M, nx ls st M → G l E d mi (op.1 + op.2.2.1) ls st M K) (hok : okB mi op = true) (h : wpX l E d mi K J op nx ls st M) : G l E d mi op.1 ls st M K := by
  obtain ⟨pc, ins, len, aux, z, hh, cal⟩ := op
  simp only [okB, Bool.and_eq_true, decide_eq_true_eq] at hok
  obtain ⟨hdec, hlen, -, -, hX⟩ := hok
  intro p e s m args below meth c H locs la hC hH hS hT1 hT2 hl
  have hC0 := hC
  obtain ⟨hx, hb, hml, hown, hts, hr, hlocks, hKK, hDX, hbs⟩ := hC
  have tl1 : ∀ {a : AV} {t : List AV}, (∀ v ∈ a :: t, TV v) → ∀ v ∈ t, TV v := fun h v hv => h v (List.mem_cons_of_mem _ hv)
  cases ins with
  | goto o =>
    have hl3 : len = 3 := of_decide_eq_true hlen
    subst hl3
    exact lv_goto hx hb hdec (of_decide_eq_true hX) (hJ _ _ _ _ h p e s m args below meth c H locs la hC0 hH hS hT1 hT2 hl)
  | if_icmp cc o =>
    have hl3 : len = 3 := of_decide_eq_true hlen
    subst hl3
    simp only [wpX] at h
    split at h
    · rename_i y dy x dx t
      have gJ : ∀ (hj : J aux ls t M), W p l e (rmD d) s m args below meth c H locs 0 0 (MQ below (QQ E mi K) args s 0 0 (Ab E)) (F0 m aux la (t.map (cv E))) := fun hj => hJ _ _ _ _ hj p e s m args below meth c H locs la hC0 hH hS hT1 (tl1 (tl1 hT2)) hl
      have gN : ∀ (hj : nx ls t M), W p l e (rmD d) s m args below meth c H locs 0 0 (MQ below (QQ E mi K) args s 0 0 (Ab E)) (F0 m (pc + 3) la (t.map (cv E))) := fun hj => hnx _ _ _ hj p e s m args below meth c H locs la hC0 hH hS hT1 (tl1 (tl1 hT2)) hl
      cases cc with
      | eq => exact lv_icmp_eq hx hb hdec (of_decide_eq_true hX) (fun q => gJ (h.1 q)) (fun q => gN (h.2 q))
      | ne => exact lv_icmp_ne hx hb hdec (of_decide_eq_true hX) (fun q => gJ (h.1 q)) (fun q => gN (h.2 q))
      | lt => exact lv_icmp_lt hx hb hdec (of_decide_eq_true hX) (fun q => gJ (h.1 q)) (fun q => gN (h.2 q))
      | ge => exact lv_icmp_ge hx hb hdec (of_decide_eq_true hX) (fun q => gJ (h.1 q)) (fun q => gN (h.2 q))
      | gt => exact lv_icmp_gt hx hb hdec (of_decide_eq_true hX) (fun q => gJ (h.1 q)) (fun q => gN (h.2 q))
      | le => exact lv_icmp_le hx hb hdec (of_decide_eq_true hX) (fun q => gJ (h.1 q)) (fun q => gN (h.2 q))
    · exact h.elim
  | ifCond cc o =>
    have hl3 : len = 3 := of_decide_eq_true hlen
    subst hl3
    simp only [wpX] at h
    split at h
    · rename_i x dx t
      have gJ : ∀ (hj : J aux ls t M), W p l e (rmD d) s m args below meth c H locs 0 0 (MQ below (QQ E mi K) args s 0 0 (Ab E)) (F0 m aux la (t.map (cv E))) := fun hj => hJ _ _ _ _ hj p e s m args below meth c H locs la hC0 hH hS hT1 (tl1 hT2) hl
      have gN : ∀ (hj : nx ls t M), W p l e (rmD d) s m args below meth c H locs 0 0 (MQ below (QQ E mi K) args s 0 0 (Ab E)) (F0 m (pc + 3) la (t.map (cv E))) := fun hj => hnx _ _ _ hj p e s m args below meth c H locs la hC0 hH hS hT1 (tl1 hT2) hl
      cases cc with
      | eq => exact lv_if_eq hx hb hdec (of_decide_eq_true hX) (fun q => gJ (h.1 q)) (fun q => gN (h.2 q))
      | ne => exact lv_if_ne hx hb hdec (of_decide_eq_true hX) (fun q => gJ (h.1 q)) (fun q => gN (h.2 q))
      | lt => exact lv_if_lt hx hb hdec (of_decide_eq_true hX) (fun q => gJ (h.1 q)) (fun q => gN (h.2 q))
      | ge => exact lv_if_ge hx hb hdec (of_decide_eq_true hX) (fun q => gJ (h.1 q)) (fun q => gN (h.2 q))
      | gt => exact lv_if_gt hx hb hdec (of_decide_eq_true hX) (fun q => gJ (h.1 q)) (fun q => gN (h.2 q))
      | le => exact lv_if_le hx hb hdec (of_decide_eq_true hX) (fun q => gJ (h.1 q)) (fun q => gN (h.2 q))
    · exact h.elim
  | tableswitch df lo hi offs =>
    simp only [wpX] at h
    simp only [okX, Bool.and_eq_true, decide_eq_true_eq, List.all_eq_true] at hX
    obtain ⟨b1, b2, b3, b4⟩ := hX
    split at h
    · rename_i x dx t
      rcases swP_spec _ _ h with ⟨q, hq, hxq, hj⟩ | ⟨hn, hj⟩
      · obtain ⟨i, o, ho, e1, e2⟩ := tpairs_mem _ _ _ hq
        have hi : i < offs.toList.length := (List.getElem?_eq_some_iff.mp ho).1
        have hxi : x.toInt = lo + i := by
          rw [hxq, e1]
          exact iN_small (by omega) (by omega)
        have h0 := b2 o (List.mem_of_getElem? ho)
        refine lv_tableIn (off := o) (tgt := q.2) hx hb hdec (by omega) (by omega) ?_ (by rw [e2]; omega) (hJ _ _ _ _ hj p e s m args below meth c H locs la hC0 hH hS hT1 (tl1 hT2) hl)
        rw [hxi, show (lo + (i : Int) - lo).toNat = i by omega, ← Array.getElem?_toList]
        exact ho
      · refine lv_tableOut hx hb hdec ?_ (by omega) (hJ _ _ _ _ hj p e s m args below meth c H locs la hC0 hH hS hT1 (tl1 hT2) hl)
        by_cases h1 : x.toInt < lo
        · exact Or.inl h1
        · by_cases h2 : hi < x.toInt
          · exact Or.inr h2
          · exfalso
            obtain ⟨tg, ht⟩ := tpairs_all (pc := pc) offs.toList lo (x.toInt - lo).toNat (by omega)
            refine hn _ ht ?_
            simp only
            rw [show lo + (((x.toInt - lo).toNat : Nat) : Int) = x.toInt by omega, iN_toInt]
    · exact h.elim
  | lookupswitch df ps =>
    simp only [wpX] at h
    simp only [okX, Bool.and_eq_true, decide_eq_true_eq, List.all_eq_true] at hX
    obtain ⟨b1, b2, b3⟩ := hX
    have b3' : (ps.toList.zip (ps.toList.drop 1)).all (fun (a, next) => a.1 < next.1) = true := List.all_eq_true.mpr (fun x hx => decide_eq_true (b3 x hx))
    split at h
    · rename_i x dx t
      have hrg : ∀ q ∈ ps.toList, -1000 ≤ q.1 ∧ q.1 ≤ 1000 := fun q hq => ⟨(b2 q hq).2.1, (b2 q hq).2.2⟩
      rcases swP_spec _ _ h with ⟨q, hq, hxq, hj⟩ | ⟨hn, hj⟩
      · obtain ⟨o, h1, h2, a, h3⟩ := lpairs_hit (df := df) ps.toList hrg b3' q hq hxq
        have h0 := (b2 _ h3).1
        exact lv_lookup (tgt := q.2) hx hb hdec b3' h1 (by rw [h2]; simp only at h0; omega) (hJ _ _ _ _ hj p e s m args below meth c H locs la hC0 hH hS hT1 (tl1 hT2) hl)
      · exact lv_lookup hx hb hdec b3' (lpairs_off ps.toList hrg hn) (by omega) (hJ _ _ _ _ hj p e s m args below meth c H locs la hC0 hH hS hT1 (tl1 hT2) hl)
    · exact h.elim
  | ireturn =>
    have hl3 : len = 1 := of_decide_eq_true hlen
    subst hl3
    simp only [wpX] at h
    split at h
    · rename_i x dx
      simp only [wRetI] at h
      split at h
      · rename_i hret
        rw [hret] at hr
        exact W.iret hx hb hr (fun t ht hW => ⟨⟨(.int x, 0), M, h, by simp only [Qr, hret, rk]; exact ⟨x, rfl, rfl⟩, by rw [ht]; exact hH⟩, hS.F ht⟩) hS.2.2 hdec
      · rename_i hret
        rw [hret] at hr
        refine W.zret (ty := .boolean) hx hb hr ?_ (fun t ht hW => ⟨⟨(.int x, 0), M, h.2, by simp only [Qr, hret, rk]; exact ⟨x, rfl, rfl⟩, by rw [ht]; exact hH⟩, hS.F ht⟩) hS.2.2 hdec
        rcases h.1 with h0 | h0 <;> (rw [h0]; decide +kernel)
      · exact h.elim
    · exact h.elim
  | lreturn =>
    have hl3 : len = 1 := of_decide_eq_true hlen
    subst hl3
    simp only [wpX] at h
    split at h
    · rename_i x dx
      split at h
      · rename_i hret
        have hret2 : mi.2.2.2.1 = some .long := by
          revert hret
          generalize mi.2.2.2.1 = rr
          intro hret
          match rr, hret with
          | some .long, _ => rfl
        exact W.lret hx hb (by rw [hr, hret2]) (fun t ht hW => ⟨⟨(.long x, 0), M, h, by simp only [Qr, hret]; exact ⟨x, rfl, rfl⟩, by rw [ht]; exact hH⟩, hS.F ht⟩) hS.2.2 hdec
      · exact h.elim
    · exact h.elim
  | areturn =>
    have hl3 : len = 1 := of_decide_eq_true hlen
    subst hl3
    simp only [wpX] at h
    split at h
    · rename_i x
      split at h
      · rename_i hret
        have hret2 : ∃ rt, mi.2.2.2.1 = some rt ∧ ((∃ n, rt = .object n) ∨ ∃ t, rt = .array t) := by
          revert hret
          generalize mi.2.2.2.1 = rr
          intro hret
          match rr, hret with
          | some (.object n), _ => exact ⟨_, rfl, Or.inl ⟨n, rfl⟩⟩
          | some (.array t), _ => exact ⟨_, rfl, Or.inr ⟨t, rfl⟩⟩
        obtain ⟨rt, h1, h2⟩ := hret2
        have hx9 : x < 9 := by
          rcases hT2 _ List.mem_cons_self with h9 | h9
          · exact h9.2
          · exact absurd rfl h9.1
        exact W.aret (v := .ref (eK E x)) hx hb (by rw [hr, h1]) h2 (Or.inr ⟨_, rfl⟩) (fun t ht hW => ⟨⟨(.ref x, 999), M, h, by simp only [Qr, hret]; exact ⟨x, rfl, hx9, rfl⟩, by rw [ht]; exact hH⟩, hS.F ht⟩) hS.2.2 hdec
      · exact h.elim
    · exact h.elim
  | return_ =>
    have hl3 : len = 1 := of_decide_eq_true hlen
    subst hl3
    simp only [wpX] at h
    split at h
    · split at h
      · rename_i hret
        have hret2 : mi.2.2.2.1 = none := by
          revert hret
          generalize mi.2.2.2.1 = rr
          intro hret
          cases rr with
          | none => rfl
          | some t => cases t <;> cases hret
        exact W.vret hx hb (by rw [hr, hret2]) (fun t ht hW => ⟨⟨(.null, 0), M, h, by simp only [Qr, hret], by rw [ht]; exact hH⟩, hS.F ht⟩) hS.2.2 hdec
      · exact h.elim
    · exact h.elim
  | invokestatic i =>
    have hl3 : len = 3 := of_decide_eq_true hlen
    subst hl3
    simp only [wpX] at h
    simp only [okX] at hX
    split at h
    · rename_i hk3
      rw [if_pos hk3] at hX
      split at h
      · rename_i P t M' hw
        exact cpy_ok hC0 hd hdec hX hw (wCpy_cs hw) hH hS hT2 (andL_True h) hl.1 (fun H' locs' hH' hS' hT' => hnx _ _ _ (andL_app _ h) p e s m args below meth c H' locs' la hC0 hH' hS' hT1 hT' hl)
      · exact h.elim
    · rename_i hk3
      rw [if_neg hk3] at hX
      simp only [Bool.and_eq_true, decide_eq_true_eq] at hX
      split at h
      · rename_i hk0
        unfold wCall at h
        split at h
        · rename_i hc
          have hst : st = ((st.take cal.2.2.2.2.1).reverse).reverse ++ st.drop cal.2.2.2.2.1 := by rw [List.reverse_reverse, List.take_append_drop]
          rw [hst]
          exact callS_ok (dc := d - 1) ⟨hx, hb, hml, hown, hts⟩ hKK hDX hbs h hX.1 hk0 hX.2 ⟨by show d - 1 + 1 ≤ d; omega, by show 64 * (d - 1 + 1) ≤ 64 * d; omega⟩ (by rw [List.length_reverse, List.length_take]; omega) (fun v hv => hT2 v (List.mem_of_mem_take (List.mem_reverse.mp hv))) (fun v hv => hT2 v (List.mem_of_mem_drop hv)) hH hS hl.1 hc.2 hdec ⟨Nat.zero_le _, Nat.zero_le _⟩
            (fun r M' hK' H' locs' hH' hS' hT' => hnx _ _ _ hK' p e s m args below meth c H' locs' la hC0 hH' hS' hT1 hT' hl)
        · exact h.elim
      · exact h.elim
  | invokevirtual i =>
    have hl3 : len = 3 := of_decide_eq_true hlen
    subst hl3
    simp only [wpX] at h
    simp only [okX, Bool.and_eq_true, decide_eq_true_eq] at hX
    split at h
    · rename_i hrec
      unfold wCall at h
      split at h
      · rename_i hc
        unfold recvOK at hrec
        split at hrec
        · rename_i r0 dd0 hget
          have hlt : cal.2.2.2.2.1 < st.length := by omega
          have hdrop : st.drop cal.2.2.2.2.1 = (.ref r0, dd0) :: st.drop (cal.2.2.2.2.1 + 1) := by
            rw [List.drop_eq_getElem_cons hlt]
            congr 1
            rw [List.getElem?_eq_getElem hlt] at hget
            exact Option.some.inj hget
          have htake : (st.take (cal.2.2.2.2.1 + 1)).reverse = (.ref r0, dd0) :: (st.take cal.2.2.2.2.1).reverse := by
            rw [List.take_add_one, hget]
            simp
          have hst : st = ((st.take cal.2.2.2.2.1).reverse).reverse ++ (.ref r0, dd0) :: st.drop (cal.2.2.2.2.1 + 1) := by rw [List.reverse_reverse, ← hdrop, List.take_append_drop]
          rw [htake] at h
          rw [hst]
          exact callV_ok (dc := d - 1) ⟨hx, hb, hml, hown, hts⟩ hKK hDX hbs h hX.1 (of_decide_eq_true hrec) hX.2 ⟨by show d - 1 + 1 ≤ d; omega, by show 64 * (d - 1 + 1) ≤ 64 * d; omega⟩ (by rw [List.length_reverse, List.length_take]; omega) (fun v hv => hT2 v (List.mem_of_mem_take (by rw [← htake] at hv; exact List.mem_reverse.mp hv))) (fun v hv => hT2 v (List.mem_of_mem_drop hv)) hH hS hl.1 hc.2 hdec ⟨Nat.zero_le _, Nat.zero_le _⟩
            (fun r M' hK' H' locs' hH' hS' hT' => hnx _ _ _ hK' p e s m args below meth c H' locs' la hC0 hH' hS' hT1 hT' hl)
        · cases hrec
      · exact h.elim
    · exact h.elim
  | _ => exact h.elim

theorem wpGo_sound {l : Launch} {E : EnvT} {d : Nat} {mi : MI} {K : AV → Mem → Prop} {J : JT} (hd : 1 ≤ d) (hJ : ∀ pc ls st M, J pc ls st M → G l E d mi pc ls st M K) : ∀ (blk : List OpT) (pc : Nat) (ls : LsT) (st : List AV) (M : Mem), okBlk mi pc blk = true → wpGo l E d mi K J blk ls st M → G l E d mi pc ls st M K
  | [], _, _, _, _, _, h => h.elim
  | op :: rest, pc, ls, st, M, hok, h => by
    simp only [okBlk, Bool.and_eq_true, decide_eq_true_eq, Bool.or_eq_true] at hok
    obtain ⟨hpc, hok⟩ := hok
    subst hpc
    unfold wpGo at h
    split at h
    · exact hJ _ _ _ _ h
    · rename_i hz
      rcases hok with hok | ⟨hok, hrest⟩
      · exact absurd hok hz
      · have ih := wpGo_sound hd hJ rest (op.1 + op.2.2.1)
        split at h
        · rename_i q hs
          intro p e s m args below meth c H locs la hC hH hS hT1 hT2 hl
          have hok2 := hok
          simp only [okB, Bool.and_eq_true, decide_eq_true_eq] at hok2
          have hnl : op.2.2.1 = ilen op.2.1 := okLen_S hok2.2.1 hs
          exact stepS_ok (ls' := q.1) (st' := q.2) hC hok2.1 hnl hok2.2.2.1 hs hT1 hT2 hl (fun la' hT1' hT2' hl' => ih _ _ _ hrest h p e s m args below meth c H locs la' hC hH hS hT1' hT2' hl')
        · rename_i hs
          split at h
          · rename_i q hc
            intro p e s m args below meth c H locs la hC hH hS hT1 hT2 hl
            have hok2 := hok
            simp only [okB, Bool.and_eq_true, decide_eq_true_eq] at hok2
            have hnl : op.2.2.1 = ilen op.2.1 := okLen_C hok2.2.1 hc
            exact stepC_ok (P := q.1) (st' := q.2.1) (M' := q.2.2) hC hok2.1 hnl hok2.2.2.2.1 hc hH hS hT2 (andL_True h) (fun H' locs' hH' hS' hT2' => ih _ _ _ hrest (andL_app _ h) p e s m args below meth c H' locs' la hC hH' hS' hT1 hT2' hl)
          · exact wpX_ok hd hJ (fun ls st M hn => ih ls st M hrest hn) hok h
def okBt (mi : MI) (Bt : BtT) : Bool := Bt.all (fun b => okBlk mi b.1 b.2.2.2)
theorem bfind_mem {pc : Nat} {r : List Nat × Bool × List OpT} : ∀ {Bt : BtT}, bfind Bt pc = some r → (pc, r) ∈ Bt
  | [], h => by cases h
  | b :: t, h => by
    unfold bfind at h
    split at h
    · rename_i e
      subst e
      cases h
      exact List.mem_cons_self
    · exact List.mem_cons_of_mem _ (bfind_mem h)
theorem wp_sound {l : Launch} {E : EnvT} {d : Nat} {mi : MI} {K : AV → Mem → Prop} {Bt : BtT} (hd : 1 ≤ d) (hok : okBt mi Bt = true) : ∀ (f : Nat) (pc : Nat) (ls : LsT) (st : List AV) (M : Mem), wp l E d mi K Bt f pc ls st M → G l E d mi pc ls st M K
  | 0, _, _, _, _, h => h.elim
  | f + 1, pc, ls, st, M, h => by
    unfold wp at h
    split at h
    · exact h.elim
    · rename_i b hb
      split at h
      · unfold wpCut at h
        split at h
        · rename_i ls' hp
          exact G.pick _ hp h
        · exact h.elim
      · exact wpGo_sound hd (wp_sound hd hok f) b.2.2 pc ls st M (List.all_eq_true.mp hok _ (bfind_mem hb)) h
/-- from the head of a block that is cut -/
theorem G.blk {l : Launch} {E : EnvT} {d : Nat} {mi : MI} {K : AV → Mem → Prop} {Bt : BtT} (f : Nat) {pc : Nat} {ls : LsT} {st : List AV} {M : Mem} (b : List Nat × Bool × List OpT) (hd : 1 ≤ d) (hok : okBt mi Bt = true) (hb : bfind Bt pc = some b) (h : wpGo l E d mi K (wp l E d mi K Bt f) b.2.2 ls st M) : G l E d mi pc ls st M K :=
  wpGo_sound hd (wp_sound hd hok f) b.2.2 pc ls st M (List.all_eq_true.mp hok _ (bfind_mem hb)) h
end
section
def m0 : MI := (⟨"", "", ""⟩, ⟨#[]⟩, 0, none, 0, 9, 99, [])
def m_copy : MI := (arraycopyName, ⟨#[]⟩, 0, none, 5, 3, 99, [622, 621, 117])
def m_FN_status : MI := (⟨"FalseNotes", "status", "()I"⟩, prog_1_method_2_code, 1, (some .int), 0, 1, 10, [553, 104, 551, 552])
def m_Mod_status : MI := (⟨"FalseNotesModel", "status", "()I"⟩, prog_13_method_3_code, 1, (some .int), 0, 1, 11, [1553, 115, 1551, 1552])
def m_FN_top : MI := (⟨"FalseNotes", "top", "()J"⟩, prog_1_method_3_code, 1, (some .long), 0, 1, 10, [557, 104, 555, 556])
def m_Mod_top : MI := (⟨"FalseNotesModel", "top", "()J"⟩, prog_13_method_4_code, 1, (some .long), 0, 1, 11, [1557, 115, 1555, 1556])
def m_FN_bottom : MI := (⟨"FalseNotes", "bottom", "()J"⟩, prog_1_method_4_code, 1, (some .long), 0, 1, 10, [561, 104, 559, 560])
def m_Mod_bottom : MI := (⟨"FalseNotesModel", "bottom", "()J"⟩, prog_13_method_5_code, 1, (some .long), 0, 1, 11, [1561, 115, 1559, 1560])
def m_FN_isTray : MI := (⟨"FalseNotes", "isTray", "(I)Z"⟩, prog_1_method_71_code, 1, (some .boolean), 1, 0, 10, [568, 104, 567])
def m_FN_deny : MI := (⟨"FalseNotes", "deny", "(I)Z"⟩, prog_1_method_68_code, 2, (some .boolean), 1, 1, 10, [572, 104, 571, 0])
def m_Arrays_fill0 : MI := (⟨"java/util/Arrays", "fill", "([JJ)V"⟩, prog_20_method_101_code, 5, none, 2, 0, 99, [579, 116, 578])
def m_Tray_make : MI := (⟨"FalseNotes$Tray", "make", "(II)V"⟩, prog_8_method_3_code, 3, none, 2, 1, 6, [576, 114, 574, 575])
def m_FN_agree : MI := (⟨"FalseNotes", "agree", "()Z"⟩, prog_1_method_67_code, 1, (some .boolean), 0, 1, 10, [583, 104, 582, 1])
def m_FN_tray : MI := (⟨"FalseNotes", "tray", "(III)Z"⟩, prog_1_method_5_code, 4, (some .boolean), 3, 1, 10, [565, 104, 563, 564])
def m_Mod_isTray : MI := (⟨"FalseNotesModel", "isTray", "(I)Z"⟩, prog_13_method_11_code, 1, (some .boolean), 1, 0, 11, [1568, 115, 1567])
def m_Mod_is : MI := (⟨"FalseNotesModel", "is", "(I)Z"⟩, prog_13_method_6_code, 2, (some .boolean), 1, 1, 11, [1572, 115, 1571, 15])
def m_Mod_tray : MI := (⟨"FalseNotesModel", "tray", "(III)Z"⟩, prog_13_method_13_code, 5, (some .boolean), 3, 1, 11, [1565, 115, 1563, 1564])
def m_Tray_isMissing : MI := (⟨"FalseNotes$Tray", "isMissing", "()Z"⟩, prog_8_method_2_code, 1, (some .boolean), 0, 1, 6, [595, 114, 593, 594])
def m_FN_cellStatus : MI := (⟨"FalseNotes", "cellStatus", "(II)I"⟩, prog_1_method_74_code, 3, (some .int), 2, 1, 10, [591, 104, 590, 2])
def m_Tray_cut : MI := (⟨"FalseNotes$Tray", "cut", "(J)J"⟩, prog_8_method_6_code, 3, (some .long), 1, 1, 6, [603, 114, 601, 602])
def m_Tray_put : MI := (⟨"FalseNotes$Tray", "put", "(IJ)V"⟩, prog_8_method_4_code, 4, none, 2, 1, 6, [599, 114, 597, 598])
def m_FN_write : MI := (⟨"FalseNotes", "write", "(IIJ)Z"⟩, prog_1_method_6_code, 6, (some .boolean), 3, 1, 10, [587, 104, 585, 586])
def m_Mod_wrongPlace : MI := (⟨"FalseNotesModel", "wrongPlace", "(II)I"⟩, prog_13_method_14_code, 3, (some .int), 2, 1, 11, [1580, 115, 1579, 16])
def m_Mod_cut : MI := (⟨"FalseNotesModel", "cut", "(JI)J"⟩, prog_13_method_12_code, 3, (some .long), 2, 0, 11, [1583, 115, 1582])
def m_Mod_write : MI := (⟨"FalseNotesModel", "write", "(IIJ)Z"⟩, prog_13_method_15_code, 6, (some .boolean), 3, 1, 11, [1576, 115, 1574, 1575])
def m_FN_refuse : MI := (⟨"FalseNotes", "refuse", "(I)I"⟩, prog_1_method_66_code, 2, (some .int), 1, 1, 10, [611, 104, 610, 3])
def m_FN_read : MI := (⟨"FalseNotes", "read", "(II)J"⟩, prog_1_method_7_code, 4, (some .long), 2, 1, 10, [607, 104, 605, 606])
def m_Mod_read : MI := (⟨"FalseNotesModel", "read", "(II)J"⟩, prog_13_method_16_code, 3, (some .long), 2, 1, 11, [1587, 115, 1585, 1586])
def m_Tray_hasRow : MI := (⟨"FalseNotes$Tray", "hasRow", "(II)Z"⟩, prog_8_method_5_code, 3, (some .boolean), 2, 1, 6, [619, 114, 617, 618])
def m_FN_pour : MI := (⟨"FalseNotes", "pour", "(IIIII)Z"⟩, prog_1_method_8_code, 8, (some .boolean), 5, 1, 10, [615, 104, 613, 614])
def m_Mod_pour : MI := (⟨"FalseNotesModel", "pour", "(IIIII)Z"⟩, prog_13_method_17_code, 8, (some .boolean), 5, 1, 11, [1592, 115, 1590, 1591])
def m_FN_spool : MI := (⟨"FalseNotes", "spool", "(I)V"⟩, prog_1_method_78_code, 2, none, 1, 1, 10, [630, 104, 629, 4])
def m_FN_feed : MI := (⟨"FalseNotes", "feed", "(IIIII)I"⟩, prog_1_method_9_code, 6, (some .int), 5, 1, 10, [626, 104, 624, 625])
def m_Mod_four : MI := (⟨"FalseNotesModel", "four", "(I)V"⟩, prog_13_method_20_code, 3, none, 1, 1, 11, [1600, 115, 1599, 17])
def m_Mod_feed : MI := (⟨"FalseNotesModel", "feed", "(IIIII)I"⟩, prog_13_method_19_code, 6, (some .int), 5, 1, 11, [1596, 115, 1594, 1595])
def m_Arrays_fill1 : MI := (⟨"java/util/Arrays", "fill", "([II)V"⟩, prog_20_method_103_code, 4, none, 2, 0, 99, [645, 116, 644])
def m_Choir_makeEmpty : MI := (⟨"FalseNotes$Choir", "makeEmpty", "()V"⟩, prog_2_method_5_code, 1, none, 0, 1, 0, [642, 109, 640, 641])
def m_Math_min : MI := (⟨"java/lang/Math", "min", "(II)I"⟩, prog_15_method_69_code, 2, (some .int), 2, 0, 99, [652, 118, 651])
def m_Tokens_kindOf : MI := (⟨"FalseNotes$Tokens", "kindOf", "(I)I"⟩, prog_7_method_4_code, 1, (some .int), 1, 0, 5, [659, 106, 658])
def m_Tokens_readWord : MI := (⟨"FalseNotes$Tokens", "readWord", "()V"⟩, prog_7_method_5_code, 1, none, 0, 1, 5, [663, 106, 661, 662])
def m_Str_coder : MI := (⟨"java/lang/String", "coder", "()B"⟩, prog_16_method_152_code, 1, (some .byte), 0, 2, 99, [677, 119, 675, 676])
def m_Str_length : MI := (⟨"java/lang/String", "length", "()I"⟩, prog_16_method_54_code, 1, (some .int), 0, 2, 99, [673, 119, 671, 672])
def m_Str_isLatin1 : MI := (⟨"java/lang/String", "isLatin1", "()Z"⟩, prog_16_method_154_code, 1, (some .boolean), 0, 2, 99, [687, 119, 685, 686])
def m_Precond_checkIndex : MI := (⟨"jdk/internal/util/Preconditions", "checkIndex", "(IILjava/util/function/BiFunction;)I"⟩, prog_21_method_11_code, 3, (some .int), 3, 0, 99, [698, 121, 697])
def m_Str_checkIndex : MI := (⟨"java/lang/String", "checkIndex", "(II)V"⟩, prog_16_method_155_code, 2, none, 2, 0, 99, [693, 119, 692])
def m_Latin1_charAt : MI := (⟨"java/lang/StringLatin1", "charAt", "([BI)C"⟩, prog_17_method_2_code, 2, (some .char), 2, 0, 99, [690, 120, 689])
def m_Str_charAt : MI := (⟨"java/lang/String", "charAt", "(I)C"⟩, prog_16_method_56_code, 2, (some .char), 1, 2, 99, [683, 119, 681, 682])
def m_Tokens_keywordOf : MI := (⟨"FalseNotes$Tokens", "keywordOf", "(J)I"⟩, prog_7_method_7_code, 7, (some .int), 1, 0, 5, [668, 106, 667])
def m_Tokens_readNumber : MI := (⟨"FalseNotes$Tokens", "readNumber", "()V"⟩, prog_7_method_6_code, 2, none, 0, 1, 5, [721, 106, 719, 720])
def m_Tokens_advance : MI := (⟨"FalseNotes$Tokens", "advance", "()V"⟩, prog_7_method_3_code, 1, none, 0, 1, 5, [656, 106, 654, 655])
def m_Tokens_start : MI := (⟨"FalseNotes$Tokens", "start", "([BI)V"⟩, prog_7_method_2_code, 3, none, 2, 1, 5, [649, 106, 647, 648])
def m_Tokens_refuse : MI := (⟨"FalseNotes$Tokens", "refuse", "(I)Z"⟩, prog_7_method_8_code, 2, (some .boolean), 1, 1, 5, [729, 106, 727, 728])
def m_Tokens_standsName : MI := (⟨"FalseNotes$Tokens", "standsName", "()Z"⟩, prog_7_method_15_code, 1, (some .boolean), 0, 1, 5, [734, 106, 732, 733])
def m_Choir_find : MI := (⟨"FalseNotes$Choir", "find", "(J)I"⟩, prog_2_method_9_code, 4, (some .int), 1, 1, 0, [739, 109, 737, 738])
def m_Tokens_takeKeyword : MI := (⟨"FalseNotes$Tokens", "takeKeyword", "(I)Z"⟩, prog_7_method_12_code, 2, (some .boolean), 1, 1, 5, [743, 106, 741, 742])
def m_Tokens_standsNumber : MI := (⟨"FalseNotes$Tokens", "standsNumber", "(II)Z"⟩, prog_7_method_13_code, 3, (some .boolean), 2, 1, 5, [751, 106, 749, 750])
def m_Tokens_takeNumber : MI := (⟨"FalseNotes$Tokens", "takeNumber", "(II)Z"⟩, prog_7_method_14_code, 3, (some .boolean), 2, 1, 5, [747, 106, 745, 746])
def m_Choir_slot : MI := (⟨"FalseNotes$Choir", "slot", "(II)I"⟩, prog_2_method_2_code, 2, (some .int), 2, 0, 0, [762, 109, 761])
def m_Choir_addNote : MI := (⟨"FalseNotes$Choir", "addNote", "(II)V"⟩, prog_2_method_8_code, 3, none, 2, 1, 0, [759, 109, 757, 758])
def m_Choir_addSinger : MI := (⟨"FalseNotes$Choir", "addSinger", "(JI)I"⟩, prog_2_method_7_code, 5, (some .int), 2, 1, 0, [755, 109, 753, 754])
def m_CReader_isVoice : MI := (⟨"FalseNotes$ChoirReader", "isVoice", "(I)Z"⟩, prog_3_method_5_code, 1, (some .boolean), 1, 0, 1, [769, 105, 768])
def m_CReader_addVoice : MI := (⟨"FalseNotes$ChoirReader", "addVoice", "(LFalseNotes$Choir;I)Z"⟩, prog_3_method_6_code, 5, (some .boolean), 2, 1, 1, [773, 105, 771, 772])
def m_CReader_readVoices : MI := (⟨"FalseNotes$ChoirReader", "readVoices", "(LFalseNotes$Choir;I)Z"⟩, prog_3_method_4_code, 4, (some .boolean), 2, 1, 1, [766, 105, 764, 765])
def m_CReader_readLine : MI := (⟨"FalseNotes$ChoirReader", "readLine", "(LFalseNotes$Choir;I)Z"⟩, prog_3_method_7_code, 4, (some .boolean), 2, 1, 1, [777, 105, 775, 776])
def m_Tokens_standsSign : MI := (⟨"FalseNotes$Tokens", "standsSign", "(I)Z"⟩, prog_7_method_9_code, 2, (some .boolean), 1, 1, 5, [783, 106, 781, 782])
def m_CReader_readSinger : MI := (⟨"FalseNotes$ChoirReader", "readSinger", "(LFalseNotes$Choir;)Z"⟩, prog_3_method_3_code, 5, (some .boolean), 1, 1, 1, [725, 105, 723, 724])
def m_Tokens_takeSinger : MI := (⟨"FalseNotes$Tokens", "takeSinger", "(LFalseNotes$Choir;I)I"⟩, prog_7_method_16_code, 4, (some .int), 2, 1, 5, [791, 106, 789, 790])
def m_Choir_slotOf : MI := (⟨"FalseNotes$Choir", "slotOf", "(II)I"⟩, prog_2_method_16_code, 6, (some .int), 2, 1, 0, [801, 109, 799, 800])
def m_Waiting_placeOf : MI := (⟨"FalseNotes$Waiting", "placeOf", "(II)I"⟩, prog_9_method_3_code, 4, (some .int), 2, 1, 7, [805, 110, 803, 804])
def m_Waiting_raise : MI := (⟨"FalseNotes$Waiting", "raise", "(II)Z"⟩, prog_9_method_4_code, 3, (some .boolean), 2, 1, 7, [809, 110, 807, 808])
def m_Waiting_join : MI := (⟨"FalseNotes$Waiting", "join", "(III)Z"⟩, prog_9_method_5_code, 4, (some .boolean), 3, 1, 7, [813, 110, 811, 812])
def m_Choir_owe : MI := (⟨"FalseNotes$Choir", "owe", "(III)Z"⟩, prog_2_method_31_code, 6, (some .boolean), 3, 1, 0, [797, 109, 795, 796])
def m_Tokens_takeSign : MI := (⟨"FalseNotes$Tokens", "takeSign", "(I)Z"⟩, prog_7_method_10_code, 2, (some .boolean), 1, 1, 5, [817, 106, 815, 816])
def m_CReader_readOwes : MI := (⟨"FalseNotes$ChoirReader", "readOwes", "(LFalseNotes$Choir;)Z"⟩, prog_3_method_8_code, 4, (some .boolean), 1, 1, 1, [787, 105, 785, 786])
def m_CReader_readHeir : MI := (⟨"FalseNotes$ChoirReader", "readHeir", "(LFalseNotes$Choir;)Z"⟩, prog_3_method_9_code, 4, (some .boolean), 1, 1, 1, [822, 105, 820, 821])
def m_CReader_readHums : MI := (⟨"FalseNotes$ChoirReader", "readHums", "(LFalseNotes$Choir;)Z"⟩, prog_3_method_10_code, 2, (some .boolean), 1, 1, 1, [826, 105, 824, 825])
def m_CReader_readAll : MI := (⟨"FalseNotes$ChoirReader", "readAll", "([BILFalseNotes$Choir;)Z"⟩, prog_3_method_2_code, 6, (some .boolean), 3, 1, 1, [638, 105, 636, 637])
def m_FN_noteFault : MI := (⟨"FalseNotes", "noteFault", "(LFalseNotes$Tokens;)V"⟩, prog_1_method_79_code, 2, none, 1, 1, 10, [830, 104, 829, 5])
def m_Years_forget : MI := (⟨"FalseNotes$Years", "forget", "()V"⟩, prog_10_method_2_code, 1, none, 0, 1, 8, [834, 111, 832, 833])
def m_FN_answer : MI := (⟨"FalseNotes", "answer", "(I)I"⟩, prog_1_method_64_code, 2, (some .int), 1, 1, 10, [838, 104, 837, 6])
def m_FN_choir : MI := (⟨"FalseNotes", "choir", "(I)I"⟩, prog_1_method_10_code, 4, (some .int), 1, 1, 10, [634, 104, 632, 633])
def m_Mod_byteAt : MI := (⟨"FalseNotesModel", "byteAt", "(I)I"⟩, prog_13_method_21_code, 2, (some .int), 1, 1, 11, [1620, 115, 1619, 20])
def m_Mod_isSmall : MI := (⟨"FalseNotesModel", "isSmall", "(I)Z"⟩, prog_13_method_22_code, 1, (some .boolean), 1, 0, 11, [1623, 115, 1622])
def m_Mod_isDigit : MI := (⟨"FalseNotesModel", "isDigit", "(I)Z"⟩, prog_13_method_23_code, 1, (some .boolean), 1, 0, 11, [1626, 115, 1625])
def m_Mod_ahead : MI := (⟨"FalseNotesModel", "ahead", "()V"⟩, prog_13_method_24_code, 2, none, 0, 1, 11, [1616, 115, 1615, 19])
def m_Mod_begins : MI := (⟨"FalseNotesModel", "begins", "(II)Z"⟩, prog_13_method_28_code, 4, (some .boolean), 2, 1, 11, [1612, 115, 1611, 18])
def m_Mod_refuse : MI := (⟨"FalseNotesModel", "refuse", "(I)I"⟩, prog_13_method_7_code, 2, (some .int), 1, 1, 11, [1632, 115, 1631, 21])
def m_Mod_plain : MI := (⟨"FalseNotesModel", "plain", "(I)V"⟩, prog_13_method_2_code, 3, none, 1, 1, 11, [1446, 115, 1445, 14])
def m_Mod_inWords : MI := (⟨"FalseNotesModel", "inWords", "(Ljava/lang/String;)I"⟩, prog_13_method_26_code, 7, (some .int), 1, 1, 11, [1641, 115, 1640, 23])
def m_Mod_singerRow : MI := (⟨"FalseNotesModel", "singerRow", "(I)I"⟩, prog_13_method_37_code, 1, (some .int), 1, 0, 11, [1650, 115, 1649])
def m_Mod_fails : MI := (⟨"FalseNotesModel", "fails", "(I)Z"⟩, prog_13_method_27_code, 2, (some .boolean), 1, 1, 11, [1654, 115, 1653, 25])
def m_Mod_isName : MI := (⟨"FalseNotesModel", "isName", "(Ljava/lang/String;)Z"⟩, prog_13_method_32_code, 2, (some .boolean), 1, 1, 11, [1658, 115, 1657, 26])
def m_Mod_nameHere : MI := (⟨"FalseNotesModel", "nameHere", "()J"⟩, prog_13_method_33_code, 4, (some .long), 0, 1, 11, [1666, 115, 1665, 28])
def m_Mod_findHere : MI := (⟨"FalseNotesModel", "findHere", "(II)I"⟩, prog_13_method_34_code, 4, (some .int), 2, 1, 11, [1662, 115, 1661, 27])
def m_Mod_wantWord : MI := (⟨"FalseNotesModel", "wantWord", "(Ljava/lang/String;I)Z"⟩, prog_13_method_30_code, 3, (some .boolean), 2, 1, 11, [1670, 115, 1669, 29])
def m_Mod_number : MI := (⟨"FalseNotesModel", "number", "(III)Z"⟩, prog_13_method_31_code, 4, (some .boolean), 3, 1, 11, [1674, 115, 1673, 30])
def m_Mod_isThere : MI := (⟨"FalseNotesModel", "isThere", "(I)Z"⟩, prog_13_method_47_code, 2, (some .boolean), 1, 1, 11, [1678, 115, 1677, 31])
def m_Mod_isFrom : MI := (⟨"FalseNotesModel", "isFrom", "(JJJ)Z"⟩, prog_13_method_18_code, 6, (some .boolean), 3, 0, 11, [1686, 115, 1685])
def m_Mod_aLine : MI := (⟨"FalseNotesModel", "aLine", "(I)Z"⟩, prog_13_method_50_code, 3, (some .boolean), 1, 1, 11, [1682, 115, 1681, 32])
def m_Mod_aSinger : MI := (⟨"FalseNotesModel", "aSinger", "()Z"⟩, prog_13_method_49_code, 4, (some .boolean), 0, 1, 11, [1647, 115, 1646, 24])
def m_Mod_oldOne : MI := (⟨"FalseNotesModel", "oldOne", "(III)Z"⟩, prog_13_method_48_code, 4, (some .boolean), 3, 1, 11, [1698, 115, 1697, 35])
def m_Mod_twoTo : MI := (⟨"FalseNotesModel", "twoTo", "()Z"⟩, prog_13_method_51_code, 2, (some .boolean), 0, 1, 11, [1694, 115, 1693, 34])
def m_Mod_of : MI := (⟨"FalseNotesModel", "of", "(II)I"⟩, prog_13_method_38_code, 3, (some .int), 2, 1, 11, [1711, 115, 1710, 38])
def m_Mod_holderOf : MI := (⟨"FalseNotesModel", "holderOf", "(II)I"⟩, prog_13_method_39_code, 3, (some .int), 2, 1, 11, [1715, 115, 1714, 39])
def m_Mod_noteOf : MI := (⟨"FalseNotesModel", "noteOf", "(II)I"⟩, prog_13_method_42_code, 4, (some .int), 2, 1, 11, [1707, 115, 1706, 37])
def m_Mod_debtAt : MI := (⟨"FalseNotesModel", "debtAt", "(II)I"⟩, prog_13_method_40_code, 3, (some .int), 2, 1, 11, [1719, 115, 1718, 40])
def m_Mod_stands : MI := (⟨"FalseNotesModel", "stands", "(IIII)V"⟩, prog_13_method_41_code, 5, none, 4, 1, 11, [1723, 115, 1722, 41])
def m_Mod_waiterOf : MI := (⟨"FalseNotesModel", "waiterOf", "(II)I"⟩, prog_13_method_43_code, 4, (some .int), 2, 1, 11, [1727, 115, 1726, 42])
def m_Mod_books : MI := (⟨"FalseNotesModel", "books", "(III)Z"⟩, prog_13_method_44_code, 6, (some .boolean), 3, 1, 11, [1703, 115, 1702, 36])
def m_Mod_aDebt : MI := (⟨"FalseNotesModel", "aDebt", "()Z"⟩, prog_13_method_52_code, 1, (some .boolean), 0, 1, 11, [1690, 115, 1689, 33])
def m_Mod_isSign : MI := (⟨"FalseNotesModel", "isSign", "(I)Z"⟩, prog_13_method_25_code, 2, (some .boolean), 1, 1, 11, [1735, 115, 1734, 44])
def m_Mod_wantSign : MI := (⟨"FalseNotesModel", "wantSign", "(I)Z"⟩, prog_13_method_29_code, 2, (some .boolean), 1, 1, 11, [1731, 115, 1730, 43])
def m_Mod_choirPart : MI := (⟨"FalseNotesModel", "choirPart", "()Z"⟩, prog_13_method_53_code, 2, (some .boolean), 0, 1, 11, [1636, 115, 1635, 22])
def m_Mod_gives : MI := (⟨"FalseNotesModel", "gives", "(I)I"⟩, prog_13_method_8_code, 2, (some .int), 1, 1, 11, [1743, 115, 1742, 46])
def m_Mod_taken : MI := (⟨"FalseNotesModel", "taken", "(I)I"⟩, prog_13_method_36_code, 2, (some .int), 1, 1, 11, [1739, 115, 1738, 45])
def m_Mod_choir : MI := (⟨"FalseNotesModel", "choir", "(I)I"⟩, prog_13_method_54_code, 4, (some .int), 1, 1, 11, [1608, 115, 1606, 1607])
def m_Years_addEnd : MI := (⟨"FalseNotes$Years", "addEnd", "(I)V"⟩, prog_10_method_5_code, 2, none, 1, 1, 8, [857, 111, 855, 856])
def m_YReader_readEnd : MI := (⟨"FalseNotes$YearsReader", "readEnd", "(LFalseNotes$Years;)Z"⟩, prog_11_method_3_code, 2, (some .boolean), 1, 1, 9, [852, 107, 850, 851])
def m_YReader_beginsStep : MI := (⟨"FalseNotes$YearsReader", "beginsStep", "(I)Z"⟩, prog_11_method_5_code, 1, (some .boolean), 1, 0, 9, [865, 107, 864])
def m_Years_addStep : MI := (⟨"FalseNotes$Years", "addStep", "(I)I"⟩, prog_10_method_4_code, 2, (some .int), 1, 1, 8, [869, 111, 867, 868])
def m_YReader_readTestWord : MI := (⟨"FalseNotes$YearsReader", "readTestWord", "(LFalseNotes$Years;I)Z"⟩, prog_11_method_6_code, 5, (some .boolean), 2, 1, 9, [873, 107, 871, 872])
def m_YReader_tailOf : MI := (⟨"FalseNotes$YearsReader", "tailOf", "(I)Ljava/lang/String;"⟩, prog_11_method_7_code, 1, (some (.object "java/lang/String")), 1, 0, 9, [881, 107, 880])
def m_Tokens_takeCompares : MI := (⟨"FalseNotes$Tokens", "takeCompares", "()Z"⟩, prog_7_method_11_code, 1, (some .boolean), 0, 1, 5, [896, 106, 894, 895])
def m_YReader_leastOf : MI := (⟨"FalseNotes$YearsReader", "leastOf", "(I)I"⟩, prog_11_method_9_code, 1, (some .int), 1, 0, 9, [899, 107, 898])
def m_YReader_mostOf : MI := (⟨"FalseNotes$YearsReader", "mostOf", "(I)I"⟩, prog_11_method_10_code, 1, (some .int), 1, 0, 9, [902, 107, 901])
def m_YReader_readTail : MI := (⟨"FalseNotes$YearsReader", "readTail", "(LFalseNotes$Choir;LFalseNotes$Years;I)Z"⟩, prog_11_method_8_code, 8, (some .boolean), 3, 1, 9, [878, 107, 876, 877])
def m_YReader_readStep : MI := (⟨"FalseNotes$YearsReader", "readStep", "(LFalseNotes$Choir;LFalseNotes$Years;)Z"⟩, prog_11_method_4_code, 6, (some .boolean), 2, 1, 9, [862, 107, 860, 861])
def m_YReader_readAll : MI := (⟨"FalseNotes$YearsReader", "readAll", "([BILFalseNotes$Choir;LFalseNotes$Years;)Z"⟩, prog_11_method_2_code, 7, (some .boolean), 4, 1, 9, [846, 107, 844, 845])
def m_FN_years : MI := (⟨"FalseNotes", "years", "(I)I"⟩, prog_1_method_11_code, 4, (some .int), 1, 1, 10, [842, 104, 840, 841])
def m_Mod_singerTo : MI := (⟨"FalseNotesModel", "singerTo", "(I)Z"⟩, prog_13_method_55_code, 2, (some .boolean), 1, 1, 11, [1759, 115, 1758, 49])
def m_Mod_test : MI := (⟨"FalseNotesModel", "test", "(I)Z"⟩, prog_13_method_56_code, 3, (some .boolean), 1, 1, 11, [1763, 115, 1762, 50])
def m_Mod_yearOrder : MI := (⟨"FalseNotesModel", "yearOrder", "(II)Z"⟩, prog_13_method_57_code, 3, (some .boolean), 2, 1, 11, [1755, 115, 1754, 48])
def m_Mod_yearStep : MI := (⟨"FalseNotesModel", "yearStep", "()Z"⟩, prog_13_method_58_code, 6, (some .boolean), 0, 1, 11, [1751, 115, 1750, 47])
def m_Mod_years : MI := (⟨"FalseNotesModel", "years", "(I)I"⟩, prog_13_method_59_code, 4, (some .int), 1, 1, 11, [1747, 115, 1745, 1746])
def m_FN_fault : MI := (⟨"FalseNotes", "fault", "(I)I"⟩, prog_1_method_12_code, 2, (some .int), 1, 1, 10, [907, 104, 905, 906])
def m_Mod_fault : MI := (⟨"FalseNotesModel", "fault", "(I)I"⟩, prog_13_method_35_code, 2, (some .int), 1, 1, 11, [1604, 115, 1602, 1603])
def m_Choir_debtsAtNotes : MI := (⟨"FalseNotes$Choir", "debtsAtNotes", "()I"⟩, prog_2_method_25_code, 3, (some .int), 0, 1, 0, [915, 109, 913, 914])
def m_Choir_isIn : MI := (⟨"FalseNotes$Choir", "isIn", "(II)Z"⟩, prog_2_method_3_code, 2, (some .boolean), 2, 0, 0, [926, 109, 925])
def m_Math_max : MI := (⟨"java/lang/Math", "max", "(II)I"⟩, prog_15_method_65_code, 2, (some .int), 2, 0, 99, [937, 118, 936])
def m_Choir_grown : MI := (⟨"FalseNotes$Choir", "grown", "(I)I"⟩, prog_2_method_29_code, 2, (some .int), 1, 1, 0, [934, 109, 932, 933])
def m_Choir_grownIn : MI := (⟨"FalseNotes$Choir", "grownIn", "(II)I"⟩, prog_2_method_30_code, 6, (some .int), 2, 1, 0, [930, 109, 928, 929])
def m_Choir_allOwedIn : MI := (⟨"FalseNotes$Choir", "allOwedIn", "(I)I"⟩, prog_2_method_27_code, 6, (some .int), 1, 1, 0, [923, 109, 921, 922])
def m_Choir_allOwed : MI := (⟨"FalseNotes$Choir", "allOwed", "()I"⟩, prog_2_method_26_code, 1, (some .int), 0, 1, 0, [919, 109, 917, 918])
def m_Choir_allCoins : MI := (⟨"FalseNotes$Choir", "allCoins", "()I"⟩, prog_2_method_28_code, 3, (some .int), 0, 1, 0, [942, 109, 940, 941])
def m_FN_told : MI := (⟨"FalseNotes", "told", "(I)I"⟩, prog_1_method_13_code, 2, (some .int), 1, 1, 10, [911, 104, 909, 910])
def m_Mod_notesHeld : MI := (⟨"FalseNotesModel", "notesHeld", "()I"⟩, prog_13_method_74_code, 4, (some .int), 0, 1, 11, [1771, 115, 1770, 51])
def m_Mod_noted : MI := (⟨"FalseNotesModel", "noted", "(II)I"⟩, prog_13_method_68_code, 4, (some .int), 2, 1, 11, [1787, 115, 1786, 55])
def m_Mod_owes : MI := (⟨"FalseNotesModel", "owes", "(II)I"⟩, prog_13_method_69_code, 4, (some .int), 2, 1, 11, [1783, 115, 1782, 54])
def m_Mod_owesAll : MI := (⟨"FalseNotesModel", "owesAll", "(I)I"⟩, prog_13_method_70_code, 4, (some .int), 1, 1, 11, [1779, 115, 1778, 53])
def m_Mod_allOwed : MI := (⟨"FalseNotesModel", "allOwed", "()I"⟩, prog_13_method_72_code, 3, (some .int), 0, 1, 11, [1775, 115, 1774, 52])
def m_Mod_sumOf : MI := (⟨"FalseNotesModel", "sumOf", "(I)I"⟩, prog_13_method_73_code, 4, (some .int), 1, 1, 11, [1791, 115, 1790, 56])
def m_Mod_told : MI := (⟨"FalseNotesModel", "told", "(I)I"⟩, prog_13_method_76_code, 2, (some .int), 1, 1, 11, [1767, 115, 1765, 1766])
def m_Choir_knows : MI := (⟨"FalseNotes$Choir", "knows", "(I)Z"⟩, prog_2_method_10_code, 2, (some .boolean), 1, 1, 0, [950, 109, 948, 949])
def m_Choir_oneIfIn : MI := (⟨"FalseNotes$Choir", "oneIfIn", "(II)I"⟩, prog_2_method_4_code, 2, (some .int), 2, 0, 0, [953, 109, 952])
def m_FN_answerOr : MI := (⟨"FalseNotes", "answerOr", "(II)I"⟩, prog_1_method_65_code, 3, (some .int), 2, 1, 10, [957, 104, 956, 7])
def m_Choir_owesInAll : MI := (⟨"FalseNotes$Choir", "owesInAll", "(I)I"⟩, prog_2_method_21_code, 4, (some .int), 1, 1, 0, [961, 109, 959, 960])
def m_Choir_isOwedInAll : MI := (⟨"FalseNotes$Choir", "isOwedInAll", "(I)I"⟩, prog_2_method_22_code, 4, (some .int), 1, 1, 0, [965, 109, 963, 964])
def m_FN_singer : MI := (⟨"FalseNotes", "singer", "(II)I"⟩, prog_1_method_14_code, 3, (some .int), 2, 1, 10, [946, 104, 944, 945])
def m_Mod_isSinger : MI := (⟨"FalseNotesModel", "isSinger", "(I)Z"⟩, prog_13_method_60_code, 2, (some .boolean), 1, 1, 11, [1799, 115, 1798, 57])
def m_Mod_orNone : MI := (⟨"FalseNotesModel", "orNone", "(I)I"⟩, prog_13_method_9_code, 2, (some .int), 1, 1, 11, [1803, 115, 1802, 58])
def m_Mod_owedAll : MI := (⟨"FalseNotesModel", "owedAll", "(I)I"⟩, prog_13_method_71_code, 4, (some .int), 1, 1, 11, [1807, 115, 1806, 59])
def m_Mod_singer : MI := (⟨"FalseNotesModel", "singer", "(II)I"⟩, prog_13_method_77_code, 3, (some .int), 2, 1, 11, [1795, 115, 1793, 1794])
def m_Choir_hasNote : MI := (⟨"FalseNotes$Choir", "hasNote", "(II)Z"⟩, prog_2_method_13_code, 3, (some .boolean), 2, 1, 0, [973, 109, 971, 972])
def m_FN_line : MI := (⟨"FalseNotes", "line", "(II)I"⟩, prog_1_method_15_code, 3, (some .int), 2, 1, 10, [969, 104, 967, 968])
def m_Mod_isNote : MI := (⟨"FalseNotesModel", "isNote", "(II)Z"⟩, prog_13_method_64_code, 3, (some .boolean), 2, 1, 11, [1815, 115, 1814, 60])
def m_Mod_line : MI := (⟨"FalseNotesModel", "line", "(II)I"⟩, prog_13_method_78_code, 3, (some .int), 2, 1, 11, [1811, 115, 1809, 1810])
def m_FN_held : MI := (⟨"FalseNotes", "held", "(III)I"⟩, prog_1_method_16_code, 5, (some .int), 3, 1, 10, [978, 104, 976, 977])
def m_Mod_held : MI := (⟨"FalseNotesModel", "held", "(III)I"⟩, prog_13_method_79_code, 4, (some .int), 3, 1, 11, [1819, 115, 1817, 1818])
def m_Choir_debtAtNote : MI := (⟨"FalseNotes$Choir", "debtAtNote", "(II)I"⟩, prog_2_method_19_code, 4, (some .int), 2, 1, 0, [990, 109, 988, 989])
def m_Choir_owedBetween : MI := (⟨"FalseNotes$Choir", "owedBetween", "(II)I"⟩, prog_2_method_20_code, 4, (some .int), 2, 1, 0, [986, 109, 984, 985])
def m_FN_owed : MI := (⟨"FalseNotes", "owed", "(II)I"⟩, prog_1_method_17_code, 3, (some .int), 2, 1, 10, [982, 104, 980, 981])
def m_Mod_owed : MI := (⟨"FalseNotesModel", "owed", "(II)I"⟩, prog_13_method_80_code, 3, (some .int), 2, 1, 11, [1823, 115, 1821, 1822])
def m_FN_waiting : MI := (⟨"FalseNotes", "waiting", "(II)I"⟩, prog_1_method_18_code, 4, (some .int), 2, 1, 10, [994, 104, 992, 993])
def m_Mod_waiting : MI := (⟨"FalseNotesModel", "waiting", "(II)I"⟩, prog_13_method_81_code, 3, (some .int), 2, 1, 11, [1827, 115, 1825, 1826])
def m_Choir_lives : MI := (⟨"FalseNotes$Choir", "lives", "(I)Z"⟩, prog_2_method_11_code, 2, (some .boolean), 1, 1, 0, [1002, 109, 1000, 1001])
def m_Choir_sungAt : MI := (⟨"FalseNotes$Choir", "sungAt", "(II)I"⟩, prog_2_method_18_code, 4, (some .int), 2, 1, 0, [1006, 109, 1004, 1005])
def m_FN_sung : MI := (⟨"FalseNotes", "sung", "(II)I"⟩, prog_1_method_19_code, 3, (some .int), 2, 1, 10, [998, 104, 996, 997])
def m_Mod_isDead : MI := (⟨"FalseNotesModel", "isDead", "(I)Z"⟩, prog_13_method_61_code, 2, (some .boolean), 1, 1, 11, [1839, 115, 1838, 62])
def m_Mod_isLiving : MI := (⟨"FalseNotesModel", "isLiving", "(I)Z"⟩, prog_13_method_62_code, 2, (some .boolean), 1, 1, 11, [1835, 115, 1834, 61])
def m_Mod_sungAt : MI := (⟨"FalseNotesModel", "sungAt", "(II)I"⟩, prog_13_method_82_code, 3, (some .int), 2, 1, 11, [1843, 115, 1842, 63])
def m_Mod_sung : MI := (⟨"FalseNotesModel", "sung", "(II)I"⟩, prog_13_method_83_code, 3, (some .int), 2, 1, 11, [1831, 115, 1829, 1830])
def m_FN_lineTrayStatus : MI := (⟨"FalseNotes", "lineTrayStatus", "(II)I"⟩, prog_1_method_75_code, 3, (some .int), 2, 1, 10, [1014, 104, 1013, 8])
def m_FN_copySung : MI := (⟨"FalseNotes", "copySung", "(II)I"⟩, prog_1_method_20_code, 6, (some .int), 2, 1, 10, [1010, 104, 1008, 1009])
def m_Mod_copySung : MI := (⟨"FalseNotesModel", "copySung", "(II)I"⟩, prog_13_method_84_code, 4, (some .int), 2, 1, 11, [1847, 115, 1845, 1846])
def m_Choir_areTwo : MI := (⟨"FalseNotes$Choir", "areTwo", "(II)Z"⟩, prog_2_method_12_code, 3, (some .boolean), 2, 1, 0, [1022, 109, 1020, 1021])
def m_Choir_lendCoins : MI := (⟨"FalseNotes$Choir", "lendCoins", "(III)Z"⟩, prog_2_method_32_code, 4, (some .boolean), 3, 1, 0, [1027, 109, 1025, 1026])
def m_FN_lend : MI := (⟨"FalseNotes", "lend", "(III)I"⟩, prog_1_method_21_code, 4, (some .int), 3, 1, 10, [1018, 104, 1016, 1017])
def m_Mod_areTwo : MI := (⟨"FalseNotesModel", "areTwo", "(II)Z"⟩, prog_13_method_63_code, 3, (some .boolean), 2, 1, 11, [1855, 115, 1854, 64])
def m_Mod_gets : MI := (⟨"FalseNotesModel", "gets", "(III)V"⟩, prog_13_method_67_code, 4, none, 3, 1, 11, [1863, 115, 1862, 66])
def m_Mod_lends : MI := (⟨"FalseNotesModel", "lends", "(III)Z"⟩, prog_13_method_85_code, 4, (some .boolean), 3, 1, 11, [1859, 115, 1858, 65])
def m_Mod_lend : MI := (⟨"FalseNotesModel", "lend", "(III)I"⟩, prog_13_method_86_code, 4, (some .int), 3, 1, 11, [1851, 115, 1849, 1850])
def m_Choir_handOver : MI := (⟨"FalseNotes$Choir", "handOver", "(III)V"⟩, prog_2_method_34_code, 4, none, 3, 1, 0, [1041, 109, 1039, 1040])
def m_Choir_takeOff : MI := (⟨"FalseNotes$Choir", "takeOff", "(II)V"⟩, prog_2_method_35_code, 3, none, 2, 1, 0, [1045, 109, 1043, 1044])
def m_Waiting_leave : MI := (⟨"FalseNotes$Waiting", "leave", "(I)V"⟩, prog_9_method_6_code, 3, none, 1, 1, 7, [1053, 110, 1051, 1052])
def m_Choir_settle : MI := (⟨"FalseNotes$Choir", "settle", "()V"⟩, prog_2_method_36_code, 4, none, 0, 1, 0, [1049, 109, 1047, 1048])
def m_Choir_payCoins : MI := (⟨"FalseNotes$Choir", "payCoins", "(III)Z"⟩, prog_2_method_33_code, 5, (some .boolean), 3, 1, 0, [1037, 109, 1035, 1036])
def m_FN_pay : MI := (⟨"FalseNotes", "pay", "(III)I"⟩, prog_1_method_22_code, 4, (some .int), 3, 1, 10, [1033, 104, 1031, 1032])
def m_Mod_goesOff : MI := (⟨"FalseNotesModel", "goesOff", "(III)V"⟩, prog_13_method_87_code, 5, none, 3, 1, 11, [1880, 115, 1879, 69])
def m_Mod_paysSome : MI := (⟨"FalseNotesModel", "paysSome", "(III)V"⟩, prog_13_method_88_code, 4, none, 3, 1, 11, [1876, 115, 1875, 68])
def m_Mod_leaves : MI := (⟨"FalseNotesModel", "leaves", "(I)I"⟩, prog_13_method_45_code, 4, (some .int), 1, 1, 11, [1888, 115, 1887, 71])
def m_Mod_fills : MI := (⟨"FalseNotesModel", "fills", "()V"⟩, prog_13_method_46_code, 5, none, 0, 1, 11, [1884, 115, 1883, 70])
def m_Mod_pays : MI := (⟨"FalseNotesModel", "pays", "(III)Z"⟩, prog_13_method_89_code, 4, (some .boolean), 3, 1, 11, [1872, 115, 1871, 67])
def m_Mod_pay : MI := (⟨"FalseNotesModel", "pay", "(III)I"⟩, prog_13_method_90_code, 4, (some .int), 3, 1, 11, [1867, 115, 1865, 1866])
def m_Choir_netTwo : MI := (⟨"FalseNotes$Choir", "netTwo", "(II)I"⟩, prog_2_method_37_code, 6, (some .int), 2, 1, 0, [1061, 109, 1059, 1060])
def m_FN_chord : MI := (⟨"FalseNotes", "chord", "(II)I"⟩, prog_1_method_23_code, 4, (some .int), 2, 1, 10, [1057, 104, 1055, 1056])
def m_Mod_chordOf : MI := (⟨"FalseNotesModel", "chordOf", "(II)I"⟩, prog_13_method_91_code, 4, (some .int), 2, 1, 11, [1896, 115, 1895, 72])
def m_Mod_chord : MI := (⟨"FalseNotesModel", "chord", "(II)I"⟩, prog_13_method_92_code, 4, (some .int), 2, 1, 11, [1892, 115, 1890, 1891])
def m_Choir_keepSunday : MI := (⟨"FalseNotes$Choir", "keepSunday", "()Z"⟩, prog_2_method_40_code, 4, (some .boolean), 0, 1, 0, [1069, 109, 1067, 1068])
def m_FN_sunday : MI := (⟨"FalseNotes", "sunday", "()I"⟩, prog_1_method_24_code, 1, (some .int), 0, 1, 10, [1065, 104, 1063, 1064])
def m_Mod_grown : MI := (⟨"FalseNotesModel", "grown", "(I)I"⟩, prog_13_method_93_code, 2, (some .int), 1, 1, 11, [1908, 115, 1907, 74])
def m_Mod_sundays : MI := (⟨"FalseNotesModel", "sundays", "()Z"⟩, prog_13_method_95_code, 3, (some .boolean), 0, 1, 11, [1904, 115, 1903, 73])
def m_Mod_sunday : MI := (⟨"FalseNotesModel", "sunday", "()I"⟩, prog_13_method_96_code, 1, (some .int), 0, 1, 11, [1900, 115, 1898, 1899])
def m_Choir_catchCold : MI := (⟨"FalseNotes$Choir", "catchCold", "(I)I"⟩, prog_2_method_41_code, 6, (some .int), 1, 1, 0, [1077, 109, 1075, 1076])
def m_FN_cold : MI := (⟨"FalseNotes", "cold", "(I)I"⟩, prog_1_method_25_code, 2, (some .int), 1, 1, 10, [1073, 104, 1071, 1072])
def m_Mod_colds : MI := (⟨"FalseNotesModel", "colds", "(I)I"⟩, prog_13_method_97_code, 5, (some .int), 1, 1, 11, [1917, 115, 1916, 75])
def m_Mod_cold : MI := (⟨"FalseNotesModel", "cold", "(I)I"⟩, prog_13_method_98_code, 2, (some .int), 1, 1, 11, [1913, 115, 1911, 1912])
def m_Integer_bitCount : MI := (⟨"java/lang/Integer", "bitCount", "(I)I"⟩, prog_14_method_49_code, 1, (some .int), 1, 0, 99, [1085, 123, 1084])
def m_FN_well : MI := (⟨"FalseNotes", "well", "(I)I"⟩, prog_1_method_26_code, 2, (some .int), 1, 1, 10, [1081, 104, 1079, 1080])
def m_Mod_bits : MI := (⟨"FalseNotesModel", "bits", "(I)I"⟩, prog_13_method_66_code, 3, (some .int), 1, 0, 11, [1924, 115, 1923])
def m_Mod_well : MI := (⟨"FalseNotesModel", "well", "(I)I"⟩, prog_13_method_99_code, 2, (some .int), 1, 1, 11, [1921, 115, 1919, 1920])
def m_Choir_passOnHeld : MI := (⟨"FalseNotes$Choir", "passOnHeld", "(II)V"⟩, prog_2_method_43_code, 6, none, 2, 1, 0, [1100, 109, 1098, 1099])
def m_Choir_passOnWaiting : MI := (⟨"FalseNotes$Choir", "passOnWaiting", "(II)V"⟩, prog_2_method_44_code, 7, none, 2, 1, 0, [1104, 109, 1102, 1103])
def m_Choir_forgetLine : MI := (⟨"FalseNotes$Choir", "forgetLine", "(I)V"⟩, prog_2_method_45_code, 4, none, 1, 1, 0, [1108, 109, 1106, 1107])
def m_Choir_bury : MI := (⟨"FalseNotes$Choir", "bury", "(I)Z"⟩, prog_2_method_42_code, 3, (some .boolean), 1, 1, 0, [1096, 109, 1094, 1095])
def m_Choir_livingCount : MI := (⟨"FalseNotes$Choir", "livingCount", "()I"⟩, prog_2_method_14_code, 1, (some .int), 0, 1, 0, [1112, 109, 1110, 1111])
def m_FN_die : MI := (⟨"FalseNotes", "die", "(I)I"⟩, prog_1_method_27_code, 2, (some .int), 1, 1, 10, [1092, 104, 1090, 1091])
def m_Mod_inherits : MI := (⟨"FalseNotesModel", "inherits", "(III)V"⟩, prog_13_method_100_code, 4, none, 3, 1, 11, [1936, 115, 1935, 77])
def m_Mod_dies : MI := (⟨"FalseNotesModel", "dies", "(I)V"⟩, prog_13_method_101_code, 6, none, 1, 1, 11, [1932, 115, 1931, 76])
def m_Mod_livingMany : MI := (⟨"FalseNotesModel", "livingMany", "()I"⟩, prog_13_method_75_code, 1, (some .int), 0, 1, 11, [1940, 115, 1939, 78])
def m_Mod_die : MI := (⟨"FalseNotesModel", "die", "(I)I"⟩, prog_13_method_102_code, 2, (some .int), 1, 1, 11, [1928, 115, 1926, 1927])
def m_FN_earn : MI := (⟨"FalseNotes", "earn", "(II)I"⟩, prog_1_method_28_code, 3, (some .int), 2, 1, 10, [1117, 104, 1115, 1116])
def m_Mod_earn : MI := (⟨"FalseNotesModel", "earn", "(II)I"⟩, prog_13_method_103_code, 3, (some .int), 2, 1, 11, [1944, 115, 1942, 1943])
def m_FN_name : MI := (⟨"FalseNotes", "name", "(II)Z"⟩, prog_1_method_29_code, 3, (some .boolean), 2, 1, 10, [1121, 104, 1119, 1120])
def m_Mod_name : MI := (⟨"FalseNotesModel", "name", "(II)Z"⟩, prog_13_method_104_code, 3, (some .boolean), 2, 1, 11, [1948, 115, 1946, 1947])
def m_FN_hum : MI := (⟨"FalseNotes", "hum", "(I)Z"⟩, prog_1_method_30_code, 2, (some .boolean), 1, 1, 10, [1125, 104, 1123, 1124])
def m_Mod_hum : MI := (⟨"FalseNotesModel", "hum", "(I)Z"⟩, prog_13_method_105_code, 2, (some .boolean), 1, 1, 11, [1952, 115, 1950, 1951])
def m_Choir_netAll : MI := (⟨"FalseNotes$Choir", "netAll", "()I"⟩, prog_2_method_38_code, 4, (some .int), 0, 1, 0, [1133, 109, 1131, 1132])
def m_FN_chords : MI := (⟨"FalseNotes", "chords", "()I"⟩, prog_1_method_31_code, 1, (some .int), 0, 1, 10, [1129, 104, 1127, 1128])
def m_Mod_chords : MI := (⟨"FalseNotesModel", "chords", "()I"⟩, prog_13_method_106_code, 4, (some .int), 0, 1, 11, [1957, 115, 1955, 1956])
def m_Choir_balanceOf : MI := (⟨"FalseNotes$Choir", "balanceOf", "(I)I"⟩, prog_2_method_23_code, 2, (some .int), 1, 1, 0, [1142, 109, 1140, 1141])
def m_FN_balance : MI := (⟨"FalseNotes", "balance", "(I)I"⟩, prog_1_method_32_code, 2, (some .int), 1, 1, 10, [1138, 104, 1136, 1137])
def m_Mod_balanceOf : MI := (⟨"FalseNotesModel", "balanceOf", "(I)I"⟩, prog_13_method_107_code, 2, (some .int), 1, 1, 11, [1965, 115, 1964, 79])
def m_Mod_balance : MI := (⟨"FalseNotesModel", "balance", "(I)I"⟩, prog_13_method_108_code, 2, (some .int), 1, 1, 11, [1961, 115, 1959, 1960])
def m_Ties_look : MI := (⟨"FalseNotes$Ties", "look", "(LFalseNotes$Choir;)V"⟩, prog_6_method_2_code, 4, none, 1, 1, 4, [1152, 112, 1150, 1151])
def m_Ties_uneven : MI := (⟨"FalseNotes$Ties", "uneven", "()I"⟩, prog_6_method_3_code, 3, (some .int), 0, 1, 4, [1163, 112, 1161, 1162])
def m_Ties_unevenCount : MI := (⟨"FalseNotes$Ties", "unevenCount", "()I"⟩, prog_6_method_4_code, 1, (some .int), 0, 1, 4, [1159, 112, 1157, 1158])
def m_Ties_addUp : MI := (⟨"FalseNotes$Ties", "addUp", "(I)V"⟩, prog_6_method_6_code, 6, none, 1, 1, 4, [1172, 112, 1170, 1171])
def m_Ties_mostParts : MI := (⟨"FalseNotes$Ties", "mostParts", "()I"⟩, prog_6_method_5_code, 3, (some .int), 0, 1, 4, [1168, 112, 1166, 1167])
def m_FN_payings : MI := (⟨"FalseNotes", "payings", "()I"⟩, prog_1_method_33_code, 1, (some .int), 0, 1, 10, [1148, 104, 1146, 1147])
def m_Mod_unevenSet : MI := (⟨"FalseNotesModel", "unevenSet", "()I"⟩, prog_13_method_109_code, 3, (some .int), 0, 1, 11, [1973, 115, 1972, 80])
def m_Mod_isIn : MI := (⟨"FalseNotesModel", "isIn", "(II)Z"⟩, prog_13_method_65_code, 3, (some .boolean), 2, 1, 11, [1981, 115, 1980, 82])
def m_Mod_partsOf : MI := (⟨"FalseNotesModel", "partsOf", "()I"⟩, prog_13_method_110_code, 5, (some .int), 0, 1, 11, [1977, 115, 1976, 81])
def m_Mod_payings : MI := (⟨"FalseNotesModel", "payings", "()I"⟩, prog_13_method_111_code, 1, (some .int), 0, 1, 11, [1969, 115, 1967, 1968])
def m_FN_parts : MI := (⟨"FalseNotes", "parts", "()I"⟩, prog_1_method_34_code, 1, (some .int), 0, 1, 10, [1178, 104, 1176, 1177])
def m_Mod_parts : MI := (⟨"FalseNotesModel", "parts", "()I"⟩, prog_13_method_112_code, 1, (some .int), 0, 1, 11, [1985, 115, 1983, 1984])
def m_Choir_lacks : MI := (⟨"FalseNotes$Choir", "lacks", "(I)I"⟩, prog_2_method_24_code, 2, (some .int), 1, 1, 0, [1186, 109, 1184, 1185])
def m_FN_shorts : MI := (⟨"FalseNotes", "shorts", "()I"⟩, prog_1_method_35_code, 3, (some .int), 0, 1, 10, [1182, 104, 1180, 1181])
def m_Mod_lackOf : MI := (⟨"FalseNotesModel", "lackOf", "(I)I"⟩, prog_13_method_113_code, 2, (some .int), 1, 1, 11, [1993, 115, 1992, 83])
def m_Mod_shorts : MI := (⟨"FalseNotesModel", "shorts", "()I"⟩, prog_13_method_114_code, 3, (some .int), 0, 1, 11, [1989, 115, 1987, 1988])
def m_FN_lacking : MI := (⟨"FalseNotes", "lacking", "()I"⟩, prog_1_method_36_code, 3, (some .int), 0, 1, 10, [1191, 104, 1189, 1190])
def m_Mod_lacking : MI := (⟨"FalseNotesModel", "lacking", "()I"⟩, prog_13_method_115_code, 3, (some .int), 0, 1, 11, [1997, 115, 1995, 1996])
def m_Choir_freeNotes : MI := (⟨"FalseNotes$Choir", "freeNotes", "(I)I"⟩, prog_2_method_17_code, 4, (some .int), 1, 1, 0, [1207, 109, 1205, 1206])
def m_FN_measured : MI := (⟨"FalseNotes", "measured", "(II)I"⟩, prog_1_method_70_code, 3, (some .int), 2, 1, 10, [1203, 104, 1202, 10])
def m_FN_firstWithMost : MI := (⟨"FalseNotes", "firstWithMost", "(I)I"⟩, prog_1_method_69_code, 6, (some .int), 1, 1, 10, [1199, 104, 1198, 9])
def m_FN_richest : MI := (⟨"FalseNotes", "richest", "()I"⟩, prog_1_method_37_code, 1, (some .int), 0, 1, 10, [1195, 104, 1193, 1194])
def m_Mod_richest : MI := (⟨"FalseNotesModel", "richest", "()I"⟩, prog_13_method_116_code, 3, (some .int), 0, 1, 11, [2001, 115, 1999, 2000])
def m_FN_deepest : MI := (⟨"FalseNotes", "deepest", "()I"⟩, prog_1_method_38_code, 1, (some .int), 0, 1, 10, [1211, 104, 1209, 1210])
def m_Mod_deepest : MI := (⟨"FalseNotesModel", "deepest", "()I"⟩, prog_13_method_117_code, 3, (some .int), 0, 1, 11, [2005, 115, 2003, 2004])
def m_FN_tellFraction : MI := (⟨"FalseNotes", "tellFraction", "(JJ)V"⟩, prog_1_method_80_code, 12, none, 2, 1, 10, [1219, 104, 1218, 11])
def m_FN_bass : MI := (⟨"FalseNotes", "bass", "()Z"⟩, prog_1_method_39_code, 4, (some .boolean), 0, 1, 10, [1215, 104, 1213, 1214])
def m_Mod_tellsBy : MI := (⟨"FalseNotesModel", "tellsBy", "(JJ)Z"⟩, prog_13_method_10_code, 11, (some .boolean), 2, 1, 11, [2013, 115, 2012, 84])
def m_Mod_bass : MI := (⟨"FalseNotesModel", "bass", "()Z"⟩, prog_13_method_118_code, 3, (some .boolean), 0, 1, 11, [2009, 115, 2007, 2008])
def m_Ties_closes : MI := (⟨"FalseNotes$Ties", "closes", "(LFalseNotes$Ties;III)Z"⟩, prog_6_method_8_code, 6, (some .boolean), 4, 0, 4, [1230, 112, 1229])
def m_Ties_findRound : MI := (⟨"FalseNotes$Ties", "findRound", "()I"⟩, prog_6_method_7_code, 3, (some .int), 0, 1, 4, [1227, 112, 1225, 1226])
def m_FN_round : MI := (⟨"FalseNotes", "round", "()I"⟩, prog_1_method_40_code, 2, (some .int), 0, 1, 10, [1223, 104, 1221, 1222])
def m_Mod_nextAt : MI := (⟨"FalseNotesModel", "nextAt", "(I)I"⟩, prog_13_method_119_code, 5, (some .int), 1, 1, 11, [2029, 115, 2028, 87])
def m_Mod_laysRound : MI := (⟨"FalseNotesModel", "laysRound", "(I)Z"⟩, prog_13_method_120_code, 4, (some .boolean), 1, 1, 11, [2025, 115, 2024, 86])
def m_Mod_roundOf : MI := (⟨"FalseNotesModel", "roundOf", "()I"⟩, prog_13_method_121_code, 2, (some .int), 0, 1, 11, [2021, 115, 2020, 85])
def m_Mod_round : MI := (⟨"FalseNotesModel", "round", "()I"⟩, prog_13_method_122_code, 1, (some .int), 0, 1, 11, [2017, 115, 2015, 2016])
def m_FN_roundAt : MI := (⟨"FalseNotes", "roundAt", "(I)I"⟩, prog_1_method_41_code, 2, (some .int), 1, 1, 10, [1234, 104, 1232, 1233])
def m_Mod_roundAt : MI := (⟨"FalseNotesModel", "roundAt", "(I)I"⟩, prog_13_method_123_code, 3, (some .int), 1, 1, 11, [2033, 115, 2031, 2032])
def m_Choir_clearRing : MI := (⟨"FalseNotes$Choir", "clearRing", "([II)I"⟩, prog_2_method_39_code, 6, (some .int), 2, 1, 0, [1242, 109, 1240, 1241])
def m_FN_clear : MI := (⟨"FalseNotes", "clear", "()I"⟩, prog_1_method_42_code, 2, (some .int), 0, 1, 10, [1238, 104, 1236, 1237])
def m_Mod_clear : MI := (⟨"FalseNotesModel", "clear", "()I"⟩, prog_13_method_124_code, 4, (some .int), 0, 1, 11, [2037, 115, 2035, 2036])
def m_Ties_isInEach : MI := (⟨"FalseNotes$Ties", "isInEach", "(I)Z"⟩, prog_6_method_10_code, 3, (some .boolean), 1, 1, 4, [1254, 112, 1252, 1253])
def m_Ties_leastAsked : MI := (⟨"FalseNotes$Ties", "leastAsked", "()I"⟩, prog_6_method_9_code, 3, (some .int), 0, 1, 4, [1250, 112, 1248, 1249])
def m_FN_ask : MI := (⟨"FalseNotes", "ask", "()I"⟩, prog_1_method_43_code, 1, (some .int), 0, 1, 10, [1246, 104, 1244, 1245])
def m_Mod_askOf : MI := (⟨"FalseNotesModel", "askOf", "()I"⟩, prog_13_method_125_code, 6, (some .int), 0, 1, 11, [2045, 115, 2044, 88])
def m_Mod_ask : MI := (⟨"FalseNotesModel", "ask", "()I"⟩, prog_13_method_126_code, 1, (some .int), 0, 1, 11, [2041, 115, 2039, 2040])
def m_FN_askSet : MI := (⟨"FalseNotes", "askSet", "()I"⟩, prog_1_method_44_code, 1, (some .int), 0, 1, 10, [1258, 104, 1256, 1257])
def m_Mod_askSet : MI := (⟨"FalseNotesModel", "askSet", "()I"⟩, prog_13_method_127_code, 1, (some .int), 0, 1, 11, [2049, 115, 2047, 2048])
def m_Ties_lengthen : MI := (⟨"FalseNotes$Ties", "lengthen", "(I)V"⟩, prog_6_method_12_code, 5, none, 1, 1, 4, [1271, 112, 1269, 1270])
def m_Ties_longestRow : MI := (⟨"FalseNotes$Ties", "longestRow", "()I"⟩, prog_6_method_11_code, 3, (some .int), 0, 1, 4, [1266, 112, 1264, 1265])
def m_FN_chain : MI := (⟨"FalseNotes", "chain", "()I"⟩, prog_1_method_45_code, 1, (some .int), 0, 1, 10, [1262, 104, 1260, 1261])
def m_Mod_chain : MI := (⟨"FalseNotesModel", "chain", "()I"⟩, prog_13_method_128_code, 4, (some .int), 0, 1, 11, [2053, 115, 2051, 2052])
def m_Ties_reachedFrom : MI := (⟨"FalseNotes$Ties", "reachedFrom", "(I)I"⟩, prog_6_method_13_code, 5, (some .int), 1, 1, 4, [1279, 112, 1277, 1278])
def m_FN_behind : MI := (⟨"FalseNotes", "behind", "(I)I"⟩, prog_1_method_46_code, 2, (some .int), 1, 1, 10, [1275, 104, 1273, 1274])
def m_Mod_behind : MI := (⟨"FalseNotesModel", "behind", "(I)I"⟩, prog_13_method_129_code, 6, (some .int), 1, 1, 11, [2057, 115, 2055, 2056])
def m_FN_free : MI := (⟨"FalseNotes", "free", "(I)I"⟩, prog_1_method_47_code, 2, (some .int), 1, 1, 10, [1283, 104, 1281, 1282])
def m_Mod_freeOf : MI := (⟨"FalseNotesModel", "freeOf", "(I)I"⟩, prog_13_method_130_code, 4, (some .int), 1, 1, 11, [2065, 115, 2064, 89])
def m_Mod_free : MI := (⟨"FalseNotesModel", "free", "(I)I"⟩, prog_13_method_131_code, 2, (some .int), 1, 1, 11, [2061, 115, 2059, 2060])
def m_Waiting_countFor : MI := (⟨"FalseNotes$Waiting", "countFor", "(I)I"⟩, prog_9_method_7_code, 4, (some .int), 1, 1, 7, [1291, 110, 1289, 1290])
def m_FN_queue : MI := (⟨"FalseNotes", "queue", "(I)I"⟩, prog_1_method_48_code, 2, (some .int), 1, 1, 10, [1287, 104, 1285, 1286])
def m_Mod_queue : MI := (⟨"FalseNotesModel", "queue", "(I)I"⟩, prog_13_method_132_code, 4, (some .int), 1, 1, 11, [2069, 115, 2067, 2068])
def m_FN_roomiest : MI := (⟨"FalseNotes", "roomiest", "()I"⟩, prog_1_method_49_code, 1, (some .int), 0, 1, 10, [1295, 104, 1293, 1294])
def m_Mod_roomiest : MI := (⟨"FalseNotesModel", "roomiest", "()I"⟩, prog_13_method_133_code, 3, (some .int), 0, 1, 11, [2073, 115, 2071, 2072])
def m_FN_falsest : MI := (⟨"FalseNotes", "falsest", "(I)I"⟩, prog_1_method_50_code, 6, (some .int), 1, 1, 10, [1299, 104, 1297, 1298])
def m_Mod_falsest : MI := (⟨"FalseNotesModel", "falsest", "(I)I"⟩, prog_13_method_134_code, 4, (some .int), 1, 1, 11, [2077, 115, 2075, 2076])
def m_FN_heardStatus : MI := (⟨"FalseNotes", "heardStatus", "(II)I"⟩, prog_1_method_76_code, 7, (some .int), 2, 1, 10, [1307, 104, 1306, 12])
def m_FN_offAt : MI := (⟨"FalseNotes", "offAt", "(III)I"⟩, prog_1_method_77_code, 4, (some .int), 3, 1, 10, [1313, 104, 1312, 13])
def m_FN_heard : MI := (⟨"FalseNotes", "heard", "(II)I"⟩, prog_1_method_51_code, 7, (some .int), 2, 1, 10, [1303, 104, 1301, 1302])
def m_Mod_wrongTray : MI := (⟨"FalseNotesModel", "wrongTray", "(II)I"⟩, prog_13_method_135_code, 4, (some .int), 2, 1, 11, [2085, 115, 2084, 90])
def m_Mod_heard : MI := (⟨"FalseNotesModel", "heard", "(II)I"⟩, prog_13_method_136_code, 6, (some .int), 2, 1, 11, [2081, 115, 2079, 2080])
def m_FN_transposed : MI := (⟨"FalseNotes", "transposed", "(II)I"⟩, prog_1_method_52_code, 6, (some .int), 2, 1, 10, [1317, 104, 1315, 1316])
def m_Mod_offBy : MI := (⟨"FalseNotesModel", "offBy", "(III)I"⟩, prog_13_method_137_code, 4, (some .int), 3, 1, 11, [2095, 115, 2094, 91])
def m_Mod_transposed : MI := (⟨"FalseNotesModel", "transposed", "(II)I"⟩, prog_13_method_138_code, 5, (some .int), 2, 1, 11, [2091, 115, 2089, 2090])
def m_FN_forged : MI := (⟨"FalseNotes", "forged", "(II)I"⟩, prog_1_method_53_code, 6, (some .int), 2, 1, 10, [1321, 104, 1319, 1320])
def m_Mod_forged : MI := (⟨"FalseNotesModel", "forged", "(II)I"⟩, prog_13_method_139_code, 6, (some .int), 2, 1, 11, [2099, 115, 2097, 2098])
def m_FN_whose : MI := (⟨"FalseNotes", "whose", "(II)I"⟩, prog_1_method_54_code, 5, (some .int), 2, 1, 10, [1325, 104, 1323, 1324])
def m_Mod_whose : MI := (⟨"FalseNotesModel", "whose", "(II)I"⟩, prog_13_method_140_code, 4, (some .int), 2, 1, 11, [2103, 115, 2101, 2102])
def m_FN_isDebtOrNone : MI := (⟨"FalseNotes", "isDebtOrNone", "(I)Z"⟩, prog_1_method_72_code, 1, (some .boolean), 1, 0, 10, [1332, 104, 1331])
def m_FN_isSpan : MI := (⟨"FalseNotes", "isSpan", "(I)Z"⟩, prog_1_method_73_code, 1, (some .boolean), 1, 0, 10, [1335, 104, 1334])
def m_FN_grows : MI := (⟨"FalseNotes", "grows", "(II)I"⟩, prog_1_method_55_code, 3, (some .int), 2, 1, 10, [1329, 104, 1327, 1328])
def m_Mod_isOwed : MI := (⟨"FalseNotesModel", "isOwed", "(I)Z"⟩, prog_13_method_141_code, 1, (some .boolean), 1, 0, 11, [2110, 115, 2109])
def m_Mod_grownBy : MI := (⟨"FalseNotesModel", "grownBy", "(II)I"⟩, prog_13_method_94_code, 5, (some .int), 2, 1, 11, [2114, 115, 2113, 92])
def m_Mod_grows : MI := (⟨"FalseNotesModel", "grows", "(II)I"⟩, prog_13_method_142_code, 3, (some .int), 2, 1, 11, [2107, 115, 2105, 2106])
def m_FN_before : MI := (⟨"FalseNotes", "before", "(II)I"⟩, prog_1_method_56_code, 7, (some .int), 2, 1, 10, [1340, 104, 1338, 1339])
def m_Mod_before : MI := (⟨"FalseNotesModel", "before", "(II)I"⟩, prog_13_method_143_code, 4, (some .int), 2, 1, 11, [2118, 115, 2116, 2117])
def m_FN_when : MI := (⟨"FalseNotes", "when", "(II)I"⟩, prog_1_method_57_code, 5, (some .int), 2, 1, 10, [1344, 104, 1342, 1343])
def m_Mod_when : MI := (⟨"FalseNotesModel", "when", "(II)I"⟩, prog_13_method_144_code, 5, (some .int), 2, 1, 11, [2122, 115, 2120, 2121])
def m_FN_owedIn : MI := (⟨"FalseNotes", "owedIn", "(I)I"⟩, prog_1_method_58_code, 2, (some .int), 1, 1, 10, [1349, 104, 1347, 1348])
def m_Mod_owedIn : MI := (⟨"FalseNotesModel", "owedIn", "(I)I"⟩, prog_13_method_145_code, 5, (some .int), 1, 1, 11, [2126, 115, 2124, 2125])
def m_Life_behindEnd : MI := (⟨"FalseNotes$Life", "behindEnd", "(LFalseNotes$Years;I)I"⟩, prog_4_method_3_code, 4, (some .int), 2, 1, 2, [1363, 113, 1361, 1362])
def m_Life_compares : MI := (⟨"FalseNotes$Life", "compares", "(III)Z"⟩, prog_4_method_6_code, 3, (some .boolean), 3, 0, 2, [1374, 113, 1373])
def m_Life_holds : MI := (⟨"FalseNotes$Life", "holds", "(LFalseNotes$Choir;LFalseNotes$Years;I)Z"⟩, prog_4_method_5_code, 6, (some .boolean), 3, 0, 2, [1370, 113, 1369])
def m_Life_draw : MI := (⟨"FalseNotes$Life", "draw", "(I)I"⟩, prog_4_method_8_code, 2, (some .int), 1, 1, 2, [1391, 113, 1389, 1390])
def m_Choir_livingAt : MI := (⟨"FalseNotes$Choir", "livingAt", "(I)I"⟩, prog_2_method_15_code, 4, (some .int), 1, 1, 0, [1396, 109, 1394, 1395])
def m_Life_lendAny : MI := (⟨"FalseNotes$Life", "lendAny", "(LFalseNotes$Choir;)Z"⟩, prog_4_method_7_code, 7, (some .boolean), 1, 1, 2, [1386, 113, 1384, 1385])
def m_Life_behindStep : MI := (⟨"FalseNotes$Life", "behindStep", "(LFalseNotes$Choir;LFalseNotes$Years;I)I"⟩, prog_4_method_4_code, 8, (some .int), 3, 1, 2, [1367, 113, 1365, 1366])
def m_Life_run : MI := (⟨"FalseNotes$Life", "run", "(LFalseNotes$Years;LFalseNotes$Choir;I)V"⟩, prog_4_method_2_code, 7, none, 3, 1, 2, [1358, 113, 1356, 1357])
def m_FN_live : MI := (⟨"FalseNotes", "live", "(I)I"⟩, prog_1_method_59_code, 2, (some .int), 1, 1, 10, [1354, 104, 1352, 1353])
def m_Mod_lendsBy : MI := (⟨"FalseNotesModel", "lendsBy", "(III)Z"⟩, prog_13_method_147_code, 4, (some .boolean), 3, 1, 11, [2143, 115, 2142, 95])
def m_Mod_paysBy : MI := (⟨"FalseNotesModel", "paysBy", "(ZI)Z"⟩, prog_13_method_150_code, 3, (some .boolean), 2, 1, 11, [2147, 115, 2146, 96])
def m_Mod_draw : MI := (⟨"FalseNotesModel", "draw", "(I)I"⟩, prog_13_method_146_code, 2, (some .int), 1, 1, 11, [2155, 115, 2154, 98])
def m_Mod_livingAt : MI := (⟨"FalseNotesModel", "livingAt", "(I)I"⟩, prog_13_method_148_code, 4, (some .int), 1, 1, 11, [2160, 115, 2159, 99])
def m_Mod_lendsAny : MI := (⟨"FalseNotesModel", "lendsAny", "()Z"⟩, prog_13_method_149_code, 3, (some .boolean), 0, 1, 11, [2151, 115, 2150, 97])
def m_Mod_does : MI := (⟨"FalseNotesModel", "does", "(I)Z"⟩, prog_13_method_151_code, 5, (some .boolean), 1, 1, 11, [2139, 115, 2138, 94])
def m_Mod_holds : MI := (⟨"FalseNotesModel", "holds", "(I)Z"⟩, prog_13_method_152_code, 5, (some .boolean), 1, 1, 11, [2164, 115, 2163, 100])
def m_Mod_behindEnds : MI := (⟨"FalseNotesModel", "behindEnds", "(I)I"⟩, prog_13_method_153_code, 5, (some .int), 1, 1, 11, [2168, 115, 2167, 101])
def m_Mod_lives : MI := (⟨"FalseNotesModel", "lives", "(I)V"⟩, prog_13_method_154_code, 4, none, 1, 1, 11, [2135, 115, 2134, 93])
def m_Mod_live : MI := (⟨"FalseNotesModel", "live", "(I)I"⟩, prog_13_method_155_code, 3, (some .int), 1, 1, 11, [2130, 115, 2128, 2129])
def m_FN_lived : MI := (⟨"FalseNotes", "lived", "(I)I"⟩, prog_1_method_60_code, 2, (some .int), 1, 1, 10, [1400, 104, 1398, 1399])
def m_Mod_lived : MI := (⟨"FalseNotesModel", "lived", "(I)I"⟩, prog_13_method_156_code, 2, (some .int), 1, 1, 11, [2172, 115, 2170, 2171])
def m_Waiting_takeFrom : MI := (⟨"FalseNotes$Waiting", "takeFrom", "(LFalseNotes$Waiting;)V"⟩, prog_9_method_2_code, 2, none, 1, 1, 7, [1413, 110, 1411, 1412])
def m_Choir_takeFrom : MI := (⟨"FalseNotes$Choir", "takeFrom", "(LFalseNotes$Choir;)V"⟩, prog_2_method_6_code, 2, none, 1, 1, 0, [1408, 109, 1406, 1407])
def m_FN_mean : MI := (⟨"FalseNotes", "mean", "(II)Z"⟩, prog_1_method_61_code, 6, (some .boolean), 2, 1, 10, [1404, 104, 1402, 1403])
def m_Mod_mean : MI := (⟨"FalseNotesModel", "mean", "(II)Z"⟩, prog_13_method_157_code, 7, (some .boolean), 2, 1, 11, [2176, 115, 2174, 2175])
def m_Years_takeFrom : MI := (⟨"FalseNotes$Years", "takeFrom", "(LFalseNotes$Years;)V"⟩, prog_10_method_3_code, 2, none, 1, 1, 8, [1427, 111, 1425, 1426])
def m_Marks_keep : MI := (⟨"FalseNotes$Marks", "keep", "(LFalseNotes$Choir;LFalseNotes$Years;)V"⟩, prog_5_method_2_code, 3, none, 2, 1, 3, [1422, 108, 1420, 1421])
def m_FN_mark : MI := (⟨"FalseNotes", "mark", "()I"⟩, prog_1_method_62_code, 1, (some .int), 0, 1, 10, [1418, 104, 1416, 1417])
def m_Mod_copies : MI := (⟨"FalseNotesModel", "copies", "(II)V"⟩, prog_13_method_158_code, 4, none, 2, 1, 11, [2185, 115, 2184, 102])
def m_Mod_mark : MI := (⟨"FalseNotesModel", "mark", "()I"⟩, prog_13_method_159_code, 1, (some .int), 0, 1, 11, [2181, 115, 2179, 2180])
def m_Marks_giveBack : MI := (⟨"FalseNotes$Marks", "giveBack", "(LFalseNotes$Choir;LFalseNotes$Years;)V"⟩, prog_5_method_3_code, 3, none, 2, 1, 3, [1436, 108, 1434, 1435])
def m_FN_undo : MI := (⟨"FalseNotes", "undo", "()I"⟩, prog_1_method_63_code, 1, (some .int), 0, 1, 10, [1432, 104, 1430, 1431])
def m_Mod_undo : MI := (⟨"FalseNotesModel", "undo", "()I"⟩, prog_13_method_160_code, 1, (some .int), 0, 1, 11, [2189, 115, 2187, 2188])
end
section
def bt_Math_min : BtT := [(0, [0, 1], true, [(0, .iload_n 0, 1, 0, 0, 0, m0),
   (1, .iload_n 1, 1, 0, 0, 0, m0),
   (2, .if_icmp .gt 7, 3, 9, 0, 0, m0),
   (5, .nop, 0, 0, 0, 0, m0)]),
  (5, [], false, [(5, .iload_n 0, 1, 0, 0, 0, m0),
   (6, .goto 4, 3, 10, 0, 0, m0)]),
  (9, [], false, [(9, .iload_n 1, 1, 0, 0, 0, m0),
   (10, .nop, 0, 0, 0, 0, m0)]),
  (10, [], false, [(10, .ireturn, 1, 0, 0, 0, m0)])]
theorem ok_Math_min : okBt m_Math_min bt_Math_min = true := by decide +kernel
set_option maxRecDepth 100000 in
theorem b_Math_min_0 {l : Launch} {E : EnvT} {d : Nat} {K : AV → Mem → Prop} {M : Mem} {x0 : Int32} {x1 : Int32} (hd : 1 ≤ d)
  (h : ((x1 < x0 →
   K (.int x1, 0) M) ∧
  (¬ x1 < x0 →
   K (.int x0, 0) M))) :
  G l E d m_Math_min 0 [(0, (.int x0, 0)), (1, (.int x1, 0))] [] M K := G.blk 60 _ hd ok_Math_min rfl h
def bt_Math_max : BtT := [(0, [0, 1], true, [(0, .iload_n 0, 1, 0, 0, 0, m0),
   (1, .iload_n 1, 1, 0, 0, 0, m0),
   (2, .if_icmp .lt 7, 3, 9, 0, 0, m0),
   (5, .nop, 0, 0, 0, 0, m0)]),
  (5, [], false, [(5, .iload_n 0, 1, 0, 0, 0, m0),
   (6, .goto 4, 3, 10, 0, 0, m0)]),
  (9, [], false, [(9, .iload_n 1, 1, 0, 0, 0, m0),
   (10, .nop, 0, 0, 0, 0, m0)]),
  (10, [], false, [(10, .ireturn, 1, 0, 0, 0, m0)])]
theorem ok_Math_max : okBt m_Math_max bt_Math_max = true := by decide +kernel
set_option maxRecDepth 100000 in
theorem b_Math_max_0 {l : Launch} {E : EnvT} {d : Nat} {K : AV → Mem → Prop} {M : Mem} {x0 : Int32} {x1 : Int32} (hd : 1 ≤ d)
  (h : ((x0 < x1 →
   K (.int x1, 0) M) ∧
  (¬ x0 < x1 →
   K (.int x0, 0) M))) :
  G l E d m_Math_max 0 [(0, (.int x0, 0)), (1, (.int x1, 0))] [] M K := G.blk 60 _ hd ok_Math_max rfl h
end
section
def bt_Integer_bitCount : BtT := [(0, [0], true, [(0, .iload_n 0, 1, 0, 0, 0, m0),
   (1, .iload_n 0, 1, 0, 0, 0, m0),
   (2, .iconst 1, 1, 0, 0, 0, m0),
   (3, .iushr, 1, 0, 0, 0, m0),
   (4, .ldc_w 265, 3, 1, 1431655765, 1086, m0),
   (7, .iand, 1, 0, 0, 0, m0),
   (8, .isub, 1, 0, 0, 0, m0),
   (9, .istore_n 0, 1, 0, 0, 0, m0),
   (10, .iload_n 0, 1, 0, 0, 0, m0),
   (11, .ldc_w 266, 3, 1, 858993459, 1087, m0),
   (14, .iand, 1, 0, 0, 0, m0),
   (15, .iload_n 0, 1, 0, 0, 0, m0),
   (16, .iconst 2, 1, 0, 0, 0, m0),
   (17, .iushr, 1, 0, 0, 0, m0),
   (18, .ldc_w 266, 3, 1, 858993459, 1087, m0),
   (21, .iand, 1, 0, 0, 0, m0),
   (22, .iadd, 1, 0, 0, 0, m0),
   (23, .istore_n 0, 1, 0, 0, 0, m0),
   (24, .iload_n 0, 1, 0, 0, 0, m0),
   (25, .iload_n 0, 1, 0, 0, 0, m0),
   (26, .iconst 4, 1, 0, 0, 0, m0),
   (27, .iushr, 1, 0, 0, 0, m0),
   (28, .iadd, 1, 0, 0, 0, m0),
   (29, .ldc_w 267, 3, 1, 252645135, 1088, m0),
   (32, .iand, 1, 0, 0, 0, m0),
   (33, .istore_n 0, 1, 0, 0, 0, m0),
   (34, .iload_n 0, 1, 0, 0, 0, m0),
   (35, .iload_n 0, 1, 0, 0, 0, m0),
   (36, .bipush 8, 2, 0, 0, 0, m0),
   (38, .iushr, 1, 0, 0, 0, m0),
   (39, .iadd, 1, 0, 0, 0, m0),
   (40, .istore_n 0, 1, 0, 0, 0, m0),
   (41, .iload_n 0, 1, 0, 0, 0, m0),
   (42, .iload_n 0, 1, 0, 0, 0, m0),
   (43, .bipush 16, 2, 0, 0, 0, m0),
   (45, .iushr, 1, 0, 0, 0, m0),
   (46, .iadd, 1, 0, 0, 0, m0),
   (47, .istore_n 0, 1, 0, 0, 0, m0),
   (48, .iload_n 0, 1, 0, 0, 0, m0),
   (49, .bipush 63, 2, 0, 0, 0, m0),
   (51, .iand, 1, 0, 0, 0, m0),
   (52, .ireturn, 1, 0, 0, 0, m0)])]
theorem ok_Integer_bitCount : okBt m_Integer_bitCount bt_Integer_bitCount = true := by decide +kernel
set_option maxRecDepth 100000 in
theorem b_Integer_bitCount_0 {l : Launch} {E : EnvT} {d : Nat} {K : AV → Mem → Prop} {M : Mem} {x0 : Int32} (hd : 1 ≤ d)
  (h : K (.int ((((((((x0 - (((x0).toUInt32 >>> (((iN 1)).toUInt32 &&& Int32.toUInt32 31)).toInt32 &&& (iN 1431655765))) &&& (iN 858993459)) + ((((x0 - (((x0).toUInt32 >>> (((iN 1)).toUInt32 &&& Int32.toUInt32 31)).toInt32 &&& (iN 1431655765)))).toUInt32 >>> (((iN 2)).toUInt32 &&& Int32.toUInt32 31)).toInt32 &&& (iN 858993459))) + (((((x0 - (((x0).toUInt32 >>> (((iN 1)).toUInt32 &&& Int32.toUInt32 31)).toInt32 &&& (iN 1431655765))) &&& (iN 858993459)) + ((((x0 - (((x0).toUInt32 >>> (((iN 1)).toUInt32 &&& Int32.toUInt32 31)).toInt32 &&& (iN 1431655765)))).toUInt32 >>> (((iN 2)).toUInt32 &&& Int32.toUInt32 31)).toInt32 &&& (iN 858993459)))).toUInt32 >>> (((iN 4)).toUInt32 &&& Int32.toUInt32 31)).toInt32) &&& (iN 252645135)) + (((((((x0 - (((x0).toUInt32 >>> (((iN 1)).toUInt32 &&& Int32.toUInt32 31)).toInt32 &&& (iN 1431655765))) &&& (iN 858993459)) + ((((x0 - (((x0).toUInt32 >>> (((iN 1)).toUInt32 &&& Int32.toUInt32 31)).toInt32 &&& (iN 1431655765)))).toUInt32 >>> (((iN 2)).toUInt32 &&& Int32.toUInt32 31)).toInt32 &&& (iN 858993459))) + (((((x0 - (((x0).toUInt32 >>> (((iN 1)).toUInt32 &&& Int32.toUInt32 31)).toInt32 &&& (iN 1431655765))) &&& (iN 858993459)) + ((((x0 - (((x0).toUInt32 >>> (((iN 1)).toUInt32 &&& Int32.toUInt32 31)).toInt32 &&& (iN 1431655765)))).toUInt32 >>> (((iN 2)).toUInt32 &&& Int32.toUInt32 31)).toInt32 &&& (iN 858993459)))).toUInt32 >>> (((iN 4)).toUInt32 &&& Int32.toUInt32 31)).toInt32) &&& (iN 252645135))).toUInt32 >>> (((iN 8)).toUInt32 &&& Int32.toUInt32 31)).toInt32) + ((((((((x0 - (((x0).toUInt32 >>> (((iN 1)).toUInt32 &&& Int32.toUInt32 31)).toInt32 &&& (iN 1431655765))) &&& (iN 858993459)) + ((((x0 - (((x0).toUInt32 >>> (((iN 1)).toUInt32 &&& Int32.toUInt32 31)).toInt32 &&& (iN 1431655765)))).toUInt32 >>> (((iN 2)).toUInt32 &&& Int32.toUInt32 31)).toInt32 &&& (iN 858993459))) + (((((x0 - (((x0).toUInt32 >>> (((iN 1)).toUInt32 &&& Int32.toUInt32 31)).toInt32 &&& (iN 1431655765))) &&& (iN 858993459)) + ((((x0 - (((x0).toUInt32 >>> (((iN 1)).toUInt32 &&& Int32.toUInt32 31)).toInt32 &&& (iN 1431655765)))).toUInt32 >>> (((iN 2)).toUInt32 &&& Int32.toUInt32 31)).toInt32 &&& (iN 858993459)))).toUInt32 >>> (((iN 4)).toUInt32 &&& Int32.toUInt32 31)).toInt32) &&& (iN 252645135)) + (((((((x0 - (((x0).toUInt32 >>> (((iN 1)).toUInt32 &&& Int32.toUInt32 31)).toInt32 &&& (iN 1431655765))) &&& (iN 858993459)) + ((((x0 - (((x0).toUInt32 >>> (((iN 1)).toUInt32 &&& Int32.toUInt32 31)).toInt32 &&& (iN 1431655765)))).toUInt32 >>> (((iN 2)).toUInt32 &&& Int32.toUInt32 31)).toInt32 &&& (iN 858993459))) + (((((x0 - (((x0).toUInt32 >>> (((iN 1)).toUInt32 &&& Int32.toUInt32 31)).toInt32 &&& (iN 1431655765))) &&& (iN 858993459)) + ((((x0 - (((x0).toUInt32 >>> (((iN 1)).toUInt32 &&& Int32.toUInt32 31)).toInt32 &&& (iN 1431655765)))).toUInt32 >>> (((iN 2)).toUInt32 &&& Int32.toUInt32 31)).toInt32 &&& (iN 858993459)))).toUInt32 >>> (((iN 4)).toUInt32 &&& Int32.toUInt32 31)).toInt32) &&& (iN 252645135))).toUInt32 >>> (((iN 8)).toUInt32 &&& Int32.toUInt32 31)).toInt32)).toUInt32 >>> (((iN 16)).toUInt32 &&& Int32.toUInt32 31)).toInt32) &&& (iN 63)), 0) M) :
  G l E d m_Integer_bitCount 0 [(0, (.int x0, 0))] [] M K := G.blk 60 _ hd ok_Integer_bitCount rfl h
end
section
def bt_Arrays_fill0 : BtT := [(0, [0, 1], true, [(0, .iconst 0, 1, 0, 0, 0, m0),
   (1, .istore_n 3, 1, 0, 0, 0, m0),
   (2, .aload_n 0, 1, 0, 0, 0, m0),
   (3, .arraylength, 1, 0, 0, 0, m0),
   (4, .istore 4, 2, 0, 0, 0, m0),
   (6, .nop, 0, 0, 0, 0, m0)]),
  (6, [0, 1, 3, 4], true, [(6, .iload_n 3, 1, 0, 0, 0, m0),
   (7, .iload 4, 2, 0, 0, 0, m0),
   (9, .if_icmp .ge 13, 3, 22, 0, 0, m0),
   (12, .nop, 0, 0, 0, 0, m0)]),
  (12, [], false, [(12, .aload_n 0, 1, 0, 0, 0, m0),
   (13, .iload_n 3, 1, 0, 0, 0, m0),
   (14, .lload_n 1, 1, 0, 0, 0, m0),
   (15, .lastore, 1, 0, 0, 0, m0),
   (16, .iinc 3 1, 3, 0, 0, 0, m0),
   (19, .goto (-13), 3, 6, 0, 0, m0)]),
  (22, [], false, [(22, .return_, 1, 0, 0, 0, m0)])]
theorem ok_Arrays_fill0 : okBt m_Arrays_fill0 bt_Arrays_fill0 = true := by decide +kernel
set_option maxRecDepth 100000 in
theorem b_Arrays_fill0_cells_0 {l : Launch} {E : EnvT} {d : Nat} {K : AV → Mem → Prop} {M : Mem} {r2 : Nat} {x1 : Int64} (hd : 1 ≤ d)
  (h : G l E d m_Arrays_fill0 6 [(0, (.ref r2, 40)), (1, (.long x1, 0)), (3, (.int (iN 0), 0)), (4, (.int (iN 60), 0))] [] M K) :
  G l E d m_Arrays_fill0 0 [(0, (.ref r2, 40)), (1, (.long x1, 0))] [] M K := G.blk 60 _ hd ok_Arrays_fill0 rfl h
set_option maxRecDepth 100000 in
theorem b_Arrays_fill0_cells_6 {l : Launch} {E : EnvT} {d : Nat} {K : AV → Mem → Prop} {M : Mem} {r2 : Nat} {x1 : Int64} {x3 : Int32} {x4 : Int32} (hd : 1 ≤ d)
  (h : ((x4 ≤ x3 →
   K (.null, 0) M) ∧
  (¬ x4 ≤ x3 →
   (vp_in x3 60 ∧ G l E d m_Arrays_fill0 6 [(0, (.ref r2, 40)), (1, (.long x1, 0)), (3, (.int (x3 + iN 1), 0)), (4, (.int x4, 0))] [] (upd3 M r2 1 (x3).toNatClampNeg (x1).toInt) K)))) :
  G l E d m_Arrays_fill0 6 [(0, (.ref r2, 40)), (1, (.long x1, 0)), (3, (.int x3, 0)), (4, (.int x4, 0))] [] M K := G.blk 60 _ hd ok_Arrays_fill0 rfl h
def bt_Arrays_fill1 : BtT := [(0, [0, 1], true, [(0, .iconst 0, 1, 0, 0, 0, m0),
   (1, .istore_n 2, 1, 0, 0, 0, m0),
   (2, .aload_n 0, 1, 0, 0, 0, m0),
   (3, .arraylength, 1, 0, 0, 0, m0),
   (4, .istore_n 3, 1, 0, 0, 0, m0),
   (5, .nop, 0, 0, 0, 0, m0)]),
  (5, [0, 1, 2, 3], true, [(5, .iload_n 2, 1, 0, 0, 0, m0),
   (6, .iload_n 3, 1, 0, 0, 0, m0),
   (7, .if_icmp .ge 13, 3, 20, 0, 0, m0),
   (10, .nop, 0, 0, 0, 0, m0)]),
  (10, [], false, [(10, .aload_n 0, 1, 0, 0, 0, m0),
   (11, .iload_n 2, 1, 0, 0, 0, m0),
   (12, .iload_n 1, 1, 0, 0, 0, m0),
   (13, .iastore, 1, 0, 0, 0, m0),
   (14, .iinc 2 1, 3, 0, 0, 0, m0),
   (17, .goto (-12), 3, 5, 0, 0, m0)]),
  (20, [], false, [(20, .return_, 1, 0, 0, 0, m0)])]
theorem ok_Arrays_fill1 : okBt m_Arrays_fill1 bt_Arrays_fill1 = true := by decide +kernel
set_option maxRecDepth 100000 in
theorem b_Arrays_fill1_holders_0 {l : Launch} {E : EnvT} {d : Nat} {K : AV → Mem → Prop} {M : Mem} {r2 : Nat} {x1 : Int32} (hd : 1 ≤ d)
  (h : G l E d m_Arrays_fill1 5 [(0, (.ref r2, 17)), (1, (.int x1, 0)), (2, (.int (iN 0), 0)), (3, (.int (iN 48), 0))] [] M K) :
  G l E d m_Arrays_fill1 0 [(0, (.ref r2, 17)), (1, (.int x1, 0))] [] M K := G.blk 60 _ hd ok_Arrays_fill1 rfl h
set_option maxRecDepth 100000 in
theorem b_Arrays_fill1_holders_5 {l : Launch} {E : EnvT} {d : Nat} {K : AV → Mem → Prop} {M : Mem} {r2 : Nat} {x1 : Int32} {x2 : Int32} {x3 : Int32} (hd : 1 ≤ d)
  (h : ((x3 ≤ x2 →
   K (.null, 0) M) ∧
  (¬ x3 ≤ x2 →
   (vp_in x2 48 ∧ G l E d m_Arrays_fill1 5 [(0, (.ref r2, 17)), (1, (.int x1, 0)), (2, (.int (x2 + iN 1), 0)), (3, (.int x3, 0))] [] (upd3 M r2 6 (x2).toNatClampNeg (x1).toInt) K)))) :
  G l E d m_Arrays_fill1 5 [(0, (.ref r2, 17)), (1, (.int x1, 0)), (2, (.int x2, 0)), (3, (.int x3, 0))] [] M K := G.blk 60 _ hd ok_Arrays_fill1 rfl h
set_option maxRecDepth 100000 in
theorem b_Arrays_fill1_debts_0 {l : Launch} {E : EnvT} {d : Nat} {K : AV → Mem → Prop} {M : Mem} {r2 : Nat} {x1 : Int32} (hd : 1 ≤ d)
  (h : G l E d m_Arrays_fill1 5 [(0, (.ref r2, 18)), (1, (.int x1, 0)), (2, (.int (iN 0), 0)), (3, (.int (iN 48), 0))] [] M K) :
  G l E d m_Arrays_fill1 0 [(0, (.ref r2, 18)), (1, (.int x1, 0))] [] M K := G.blk 60 _ hd ok_Arrays_fill1 rfl h
set_option maxRecDepth 100000 in
theorem b_Arrays_fill1_debts_5 {l : Launch} {E : EnvT} {d : Nat} {K : AV → Mem → Prop} {M : Mem} {r2 : Nat} {x1 : Int32} {x2 : Int32} {x3 : Int32} (hd : 1 ≤ d)
  (h : ((x3 ≤ x2 →
   K (.null, 0) M) ∧
  (¬ x3 ≤ x2 →
   (vp_in x2 48 ∧ G l E d m_Arrays_fill1 5 [(0, (.ref r2, 18)), (1, (.int x1, 0)), (2, (.int (x2 + iN 1), 0)), (3, (.int x3, 0))] [] (upd3 M r2 7 (x2).toNatClampNeg (x1).toInt) K)))) :
  G l E d m_Arrays_fill1 5 [(0, (.ref r2, 18)), (1, (.int x1, 0)), (2, (.int x2, 0)), (3, (.int x3, 0))] [] M K := G.blk 60 _ hd ok_Arrays_fill1 rfl h
set_option maxRecDepth 100000 in
theorem b_Arrays_fill1_bests_0 {l : Launch} {E : EnvT} {d : Nat} {K : AV → Mem → Prop} {M : Mem} {r2 : Nat} {x1 : Int32} (hd : 1 ≤ d)
  (h : G l E d m_Arrays_fill1 5 [(0, (.ref r2, 36)), (1, (.int x1, 0)), (2, (.int (iN 0), 0)), (3, (.int (iN 256), 0))] [] M K) :
  G l E d m_Arrays_fill1 0 [(0, (.ref r2, 36)), (1, (.int x1, 0))] [] M K := G.blk 60 _ hd ok_Arrays_fill1 rfl h
set_option maxRecDepth 100000 in
theorem b_Arrays_fill1_bests_5 {l : Launch} {E : EnvT} {d : Nat} {K : AV → Mem → Prop} {M : Mem} {r2 : Nat} {x1 : Int32} {x2 : Int32} {x3 : Int32} (hd : 1 ≤ d)
  (h : ((x3 ≤ x2 →
   K (.null, 0) M) ∧
  (¬ x3 ≤ x2 →
   (vp_in x2 256 ∧ G l E d m_Arrays_fill1 5 [(0, (.ref r2, 36)), (1, (.int x1, 0)), (2, (.int (x2 + iN 1), 0)), (3, (.int x3, 0))] [] (upd3 M r2 6 (x2).toNatClampNeg (x1).toInt) K)))) :
  G l E d m_Arrays_fill1 5 [(0, (.ref r2, 36)), (1, (.int x1, 0)), (2, (.int x2, 0)), (3, (.int x3, 0))] [] M K := G.blk 60 _ hd ok_Arrays_fill1 rfl h
end
section
def bt_Tray_make : BtT := [(0, [0, 1, 2], true, [(0, .aload_n 0, 1, 0, 0, 0, m0),
   (1, .getfield 11, 3, 0, 6, 479, m0),
   (4, .lconst 0, 1, 0, 0, 0, m0),
   (5, .invokestatic 22, 3, 0, 0, 577, m_Arrays_fill0),
   (8, .aload_n 0, 1, 0, 0, 0, m0),
   (9, .iload_n 1, 1, 0, 0, 0, m0),
   (10, .putfield 15, 3, 1, 6, 481, m0),
   (13, .aload_n 0, 1, 0, 0, 0, m0),
   (14, .iload_n 2, 1, 0, 0, 0, m0),
   (15, .putfield 19, 3, 2, 6, 483, m0),
   (18, .return_, 1, 0, 0, 0, m0)])]
theorem ok_Tray_make : okBt m_Tray_make bt_Tray_make = true := by decide +kernel
set_option maxRecDepth 100000 in
theorem b_Tray_make_0 {l : Launch} {E : EnvT} {d : Nat} {K : AV → Mem → Prop} {M : Mem} {r : Nat} {x1 : Int32} {x2 : Int32} (hd : 1 ≤ d)
  (h : CT l E (d - 1) m_Arrays_fill0 [(.ref r, 40), (.long (lI 0), 0)] M (fun v1 M1 =>
   K (.null, 0) (upd3 (upd3 M1 r 0 1 (x1).toInt) r 0 2 (x2).toInt))) :
  G l E d m_Tray_make 0 [(0, (.ref r, 39)), (1, (.int x1, 0)), (2, (.int x2, 0))] [] M K := G.blk 60 _ hd ok_Tray_make rfl h
def bt_Tray_isMissing : BtT := [(0, [0], true, [(0, .aload_n 0, 1, 0, 0, 0, m0),
   (1, .getfield 19, 3, 2, 6, 483, m0),
   (4, .iconst (-1), 1, 0, 0, 0, m0),
   (5, .if_icmp .ne 7, 3, 12, 0, 0, m0),
   (8, .nop, 0, 0, 0, 0, m0)]),
  (8, [], false, [(8, .iconst 1, 1, 0, 0, 0, m0),
   (9, .goto 4, 3, 13, 0, 0, m0)]),
  (12, [], false, [(12, .iconst 0, 1, 0, 0, 0, m0),
   (13, .nop, 0, 0, 0, 0, m0)]),
  (13, [], false, [(13, .ireturn, 1, 0, 0, 0, m0)])]
theorem ok_Tray_isMissing : okBt m_Tray_isMissing bt_Tray_isMissing = true := by decide +kernel
set_option maxRecDepth 100000 in
theorem b_Tray_isMissing_0 {l : Launch} {E : EnvT} {d : Nat} {K : AV → Mem → Prop} {M : Mem} {r : Nat}  (hd : 1 ≤ d)
  (h : ((¬ (iN (M r 0 2)) = (iN (-1)) →
   ((((iN 0) = 0 ∨ (iN 0) = 1)) ∧ K (.int (iN 0), 0) M)) ∧
  ((iN (M r 0 2)) = (iN (-1)) →
   ((((iN 1) = 0 ∨ (iN 1) = 1)) ∧ K (.int (iN 1), 0) M)))) :
  G l E d m_Tray_isMissing 0 [(0, (.ref r, 39))] [] M K := G.blk 60 _ hd ok_Tray_isMissing rfl h
def bt_Tray_cut : BtT := [(0, [0, 1], true, [(0, .aload_n 0, 1, 0, 0, 0, m0),
   (1, .getfield 15, 3, 1, 6, 481, m0),
   (4, .tableswitch 42 0 2 #[28, 33, 38], 28, 0, 0, 0, m0)]),
  (32, [], false, [(32, .lload_n 1, 1, 0, 0, 0, m0),
   (33, .l2i, 1, 0, 0, 0, m0),
   (34, .i2b, 1, 0, 0, 0, m0),
   (35, .i2l, 1, 0, 0, 0, m0),
   (36, .lreturn, 1, 0, 0, 0, m0)]),
  (37, [], false, [(37, .lload_n 1, 1, 0, 0, 0, m0),
   (38, .l2i, 1, 0, 0, 0, m0),
   (39, .i2s, 1, 0, 0, 0, m0),
   (40, .i2l, 1, 0, 0, 0, m0),
   (41, .lreturn, 1, 0, 0, 0, m0)]),
  (42, [], false, [(42, .lload_n 1, 1, 0, 0, 0, m0),
   (43, .l2i, 1, 0, 0, 0, m0),
   (44, .i2l, 1, 0, 0, 0, m0),
   (45, .lreturn, 1, 0, 0, 0, m0)]),
  (46, [], false, [(46, .lload_n 1, 1, 0, 0, 0, m0),
   (47, .lreturn, 1, 0, 0, 0, m0)])]
theorem ok_Tray_cut : okBt m_Tray_cut bt_Tray_cut = true := by decide +kernel
set_option maxRecDepth 100000 in
theorem b_Tray_cut_0 {l : Launch} {E : EnvT} {d : Nat} {K : AV → Mem → Prop} {M : Mem} {r : Nat} {x1 : Int64} (hd : 1 ≤ d)
  (h : (((iN (M r 0 1)) = iN 0 →
   K (.long (((x1).toInt32).toInt8.toInt32).toInt64, 0) M) ∧
  (¬ (iN (M r 0 1)) = iN 0 →
   (((iN (M r 0 1)) = iN 1 →
   K (.long (((x1).toInt32).toInt16.toInt32).toInt64, 0) M) ∧
  (¬ (iN (M r 0 1)) = iN 1 →
   (((iN (M r 0 1)) = iN 2 →
   K (.long ((x1).toInt32).toInt64, 0) M) ∧
  (¬ (iN (M r 0 1)) = iN 2 →
   K (.long x1, 0) M))))))) :
  G l E d m_Tray_cut 0 [(0, (.ref r, 39)), (1, (.long x1, 0))] [] M K := G.blk 60 _ hd ok_Tray_cut rfl h
def bt_Tray_put : BtT := [(0, [0, 1, 2], true, [(0, .aload_n 0, 1, 0, 0, 0, m0),
   (1, .getfield 11, 3, 0, 6, 479, m0),
   (4, .iload_n 1, 1, 0, 0, 0, m0),
   (5, .aload_n 0, 1, 0, 0, 0, m0),
   (6, .lload_n 2, 1, 0, 0, 0, m0),
   (7, .invokevirtual 28, 3, 0, 0, 600, m_Tray_cut),
   (10, .lastore, 1, 0, 0, 0, m0),
   (11, .return_, 1, 0, 0, 0, m0)])]
theorem ok_Tray_put : okBt m_Tray_put bt_Tray_put = true := by decide +kernel
set_option maxRecDepth 100000 in
theorem b_Tray_put_0 {l : Launch} {E : EnvT} {d : Nat} {K : AV → Mem → Prop} {M : Mem} {r : Nat} {x1 : Int32} {x2 : Int64} (hd : 1 ≤ d)
  (h : CT l E (d - 1) m_Tray_cut [(.ref r, 39), (.long x2, 0)] M (fun v1 M1 =>
   (vp_in x1 60 ∧ K (.null, 0) (upd3 M1 r 1 (x1).toNatClampNeg ((toL v1)).toInt)))) :
  G l E d m_Tray_put 0 [(0, (.ref r, 39)), (1, (.int x1, 0)), (2, (.long x2, 0))] [] M K := G.blk 60 _ hd ok_Tray_put rfl h
def bt_Tray_hasRow : BtT := [(0, [0, 1, 2], true, [(0, .iload_n 1, 1, 0, 0, 0, m0),
   (1, .i2l, 1, 0, 0, 0, m0),
   (2, .iload_n 2, 1, 0, 0, 0, m0),
   (3, .i2l, 1, 0, 0, 0, m0),
   (4, .ladd, 1, 0, 0, 0, m0),
   (5, .aload_n 0, 1, 0, 0, 0, m0),
   (6, .getfield 19, 3, 2, 6, 483, m0),
   (9, .i2l, 1, 0, 0, 0, m0),
   (10, .lcmp, 1, 0, 0, 0, m0),
   (11, .ifCond .gt 7, 3, 18, 0, 0, m0),
   (14, .nop, 0, 0, 0, 0, m0)]),
  (14, [], false, [(14, .iconst 1, 1, 0, 0, 0, m0),
   (15, .goto 4, 3, 19, 0, 0, m0)]),
  (18, [], false, [(18, .iconst 0, 1, 0, 0, 0, m0),
   (19, .nop, 0, 0, 0, 0, m0)]),
  (19, [], false, [(19, .ireturn, 1, 0, 0, 0, m0)])]
theorem ok_Tray_hasRow : okBt m_Tray_hasRow bt_Tray_hasRow = true := by decide +kernel
set_option maxRecDepth 100000 in
theorem b_Tray_hasRow_0 {l : Launch} {E : EnvT} {d : Nat} {K : AV → Mem → Prop} {M : Mem} {r : Nat} {x1 : Int32} {x2 : Int32} (hd : 1 ≤ d)
  (h : ((0 < (lg_cmp ((x1).toInt64 + (x2).toInt64) ((iN (M r 0 2))).toInt64) →
   ((((iN 0) = 0 ∨ (iN 0) = 1)) ∧ K (.int (iN 0), 0) M)) ∧
  (¬ 0 < (lg_cmp ((x1).toInt64 + (x2).toInt64) ((iN (M r 0 2))).toInt64) →
   ((((iN 1) = 0 ∨ (iN 1) = 1)) ∧ K (.int (iN 1), 0) M)))) :
  G l E d m_Tray_hasRow 0 [(0, (.ref r, 39)), (1, (.int x1, 0)), (2, (.int x2, 0))] [] M K := G.blk 60 _ hd ok_Tray_hasRow rfl h
end
section
def bt_Waiting_placeOf : BtT := [(0, [0, 1, 2], true, [(0, .iconst 0, 1, 0, 0, 0, m0),
   (1, .istore_n 3, 1, 0, 0, 0, m0),
   (2, .nop, 0, 0, 0, 0, m0)]),
  (2, [0, 1, 2, 3], true, [(2, .iload_n 3, 1, 0, 0, 0, m0),
   (3, .aload_n 0, 1, 0, 0, 0, m0),
   (4, .getfield 21, 3, 3, 7, 249, m0),
   (7, .if_icmp .ge 31, 3, 38, 0, 0, m0),
   (10, .nop, 0, 0, 0, 0, m0)]),
  (10, [], false, [(10, .aload_n 0, 1, 0, 0, 0, m0),
   (11, .getfield 11, 3, 0, 7, 240, m0),
   (14, .iload_n 3, 1, 0, 0, 0, m0),
   (15, .iaload, 1, 0, 0, 0, m0),
   (16, .iload_n 1, 1, 0, 0, 0, m0),
   (17, .if_icmp .ne 15, 3, 32, 0, 0, m0),
   (20, .nop, 0, 0, 0, 0, m0)]),
  (20, [], false, [(20, .aload_n 0, 1, 0, 0, 0, m0),
   (21, .getfield 15, 3, 1, 7, 243, m0),
   (24, .iload_n 3, 1, 0, 0, 0, m0),
   (25, .iaload, 1, 0, 0, 0, m0),
   (26, .iload_n 2, 1, 0, 0, 0, m0),
   (27, .if_icmp .ne 5, 3, 32, 0, 0, m0),
   (30, .nop, 0, 0, 0, 0, m0)]),
  (30, [], false, [(30, .iload_n 3, 1, 0, 0, 0, m0),
   (31, .ireturn, 1, 0, 0, 0, m0)]),
  (32, [], false, [(32, .iinc 3 1, 3, 0, 0, 0, m0),
   (35, .goto (-33), 3, 2, 0, 0, m0)]),
  (38, [], false, [(38, .iconst (-1), 1, 0, 0, 0, m0),
   (39, .ireturn, 1, 0, 0, 0, m0)])]
theorem ok_Waiting_placeOf : okBt m_Waiting_placeOf bt_Waiting_placeOf = true := by decide +kernel
set_option maxRecDepth 100000 in
theorem b_Waiting_placeOf_0 {l : Launch} {E : EnvT} {d : Nat} {K : AV → Mem → Prop} {M : Mem} {r : Nat} {x1 : Int32} {x2 : Int32} (hd : 1 ≤ d)
  (h : G l E d m_Waiting_placeOf 2 [(0, (.ref r, 19)), (1, (.int x1, 0)), (2, (.int x2, 0)), (3, (.int (iN 0), 0))] [] M K) :
  G l E d m_Waiting_placeOf 0 [(0, (.ref r, 19)), (1, (.int x1, 0)), (2, (.int x2, 0))] [] M K := G.blk 60 _ hd ok_Waiting_placeOf rfl h
set_option maxRecDepth 100000 in
theorem b_Waiting_placeOf_2 {l : Launch} {E : EnvT} {d : Nat} {K : AV → Mem → Prop} {M : Mem} {r : Nat} {x1 : Int32} {x2 : Int32} {x3 : Int32} (hd : 1 ≤ d)
  (h : (((iN (M r 8 3)) ≤ x3 →
   K (.int (iN (-1)), 0) M) ∧
  (¬ (iN (M r 8 3)) ≤ x3 →
   (vp_in x3 8 ∧ ((¬ (iN (M r 9 (x3).toNatClampNeg)) = x1 →
    G l E d m_Waiting_placeOf 2 [(0, (.ref r, 19)), (1, (.int x1, 0)), (2, (.int x2, 0)), (3, (.int (x3 + iN 1), 0))] [] M K) ∧
   ((iN (M r 9 (x3).toNatClampNeg)) = x1 →
    (vp_in x3 8 ∧ ((¬ (iN (M r 10 (x3).toNatClampNeg)) = x2 →
     G l E d m_Waiting_placeOf 2 [(0, (.ref r, 19)), (1, (.int x1, 0)), (2, (.int x2, 0)), (3, (.int (x3 + iN 1), 0))] [] M K) ∧
    ((iN (M r 10 (x3).toNatClampNeg)) = x2 →
     K (.int x3, 0) M))))))))) :
  G l E d m_Waiting_placeOf 2 [(0, (.ref r, 19)), (1, (.int x1, 0)), (2, (.int x2, 0)), (3, (.int x3, 0))] [] M K := G.blk 60 _ hd ok_Waiting_placeOf rfl h
def bt_Waiting_raise : BtT := [(0, [0, 1, 2], true, [(0, .aload_n 0, 1, 0, 0, 0, m0),
   (1, .getfield 18, 3, 2, 7, 246, m0),
   (4, .iload_n 1, 1, 0, 0, 0, m0),
   (5, .iaload, 1, 0, 0, 0, m0),
   (6, .iload_n 2, 1, 0, 0, 0, m0),
   (7, .iadd, 1, 0, 0, 0, m0),
   (8, .sipush 999, 3, 0, 0, 0, m0),
   (11, .if_icmp .le 5, 3, 16, 0, 0, m0),
   (14, .nop, 0, 0, 0, 0, m0)]),
  (14, [], false, [(14, .iconst 0, 1, 0, 0, 0, m0),
   (15, .ireturn, 1, 0, 0, 0, m0)]),
  (16, [], false, [(16, .aload_n 0, 1, 0, 0, 0, m0),
   (17, .getfield 18, 3, 2, 7, 246, m0),
   (20, .iload_n 1, 1, 0, 0, 0, m0),
   (21, .dup2, 1, 0, 0, 0, m0),
   (22, .iaload, 1, 0, 0, 0, m0),
   (23, .iload_n 2, 1, 0, 0, 0, m0),
   (24, .iadd, 1, 0, 0, 0, m0),
   (25, .iastore, 1, 0, 0, 0, m0),
   (26, .iconst 1, 1, 0, 0, 0, m0),
   (27, .ireturn, 1, 0, 0, 0, m0)])]
theorem ok_Waiting_raise : okBt m_Waiting_raise bt_Waiting_raise = true := by decide +kernel
set_option maxRecDepth 100000 in
theorem b_Waiting_raise_0 {l : Launch} {E : EnvT} {d : Nat} {K : AV → Mem → Prop} {M : Mem} {r : Nat} {x1 : Int32} {x2 : Int32} (hd : 1 ≤ d)
  (h : (vp_in x1 8 ∧ ((((iN (M r 11 (x1).toNatClampNeg)) + x2) ≤ (iN 999) →
   (vp_in x1 8 ∧ vp_in x1 8 ∧ (((iN 1) = 0 ∨ (iN 1) = 1)) ∧ K (.int (iN 1), 0) (upd3 M r 11 (x1).toNatClampNeg (((iN (M r 11 (x1).toNatClampNeg)) + x2)).toInt))) ∧
  (¬ ((iN (M r 11 (x1).toNatClampNeg)) + x2) ≤ (iN 999) →
   ((((iN 0) = 0 ∨ (iN 0) = 1)) ∧ K (.int (iN 0), 0) M))))) :
  G l E d m_Waiting_raise 0 [(0, (.ref r, 19)), (1, (.int x1, 0)), (2, (.int x2, 0))] [] M K := G.blk 60 _ hd ok_Waiting_raise rfl h
def bt_Waiting_join : BtT := [(0, [0, 1, 2, 3], true, [(0, .aload_n 0, 1, 0, 0, 0, m0),
   (1, .getfield 21, 3, 3, 7, 249, m0),
   (4, .bipush 8, 2, 0, 0, 0, m0),
   (6, .if_icmp .lt 5, 3, 11, 0, 0, m0),
   (9, .nop, 0, 0, 0, 0, m0)]),
  (9, [], false, [(9, .iconst 0, 1, 0, 0, 0, m0),
   (10, .ireturn, 1, 0, 0, 0, m0)]),
  (11, [], false, [(11, .aload_n 0, 1, 0, 0, 0, m0),
   (12, .getfield 11, 3, 0, 7, 240, m0),
   (15, .aload_n 0, 1, 0, 0, 0, m0),
   (16, .getfield 21, 3, 3, 7, 249, m0),
   (19, .iload_n 1, 1, 0, 0, 0, m0),
   (20, .iastore, 1, 0, 0, 0, m0),
   (21, .aload_n 0, 1, 0, 0, 0, m0),
   (22, .getfield 15, 3, 1, 7, 243, m0),
   (25, .aload_n 0, 1, 0, 0, 0, m0),
   (26, .getfield 21, 3, 3, 7, 249, m0),
   (29, .iload_n 2, 1, 0, 0, 0, m0),
   (30, .iastore, 1, 0, 0, 0, m0),
   (31, .aload_n 0, 1, 0, 0, 0, m0),
   (32, .getfield 18, 3, 2, 7, 246, m0),
   (35, .aload_n 0, 1, 0, 0, 0, m0),
   (36, .getfield 21, 3, 3, 7, 249, m0),
   (39, .iload_n 3, 1, 0, 0, 0, m0),
   (40, .iastore, 1, 0, 0, 0, m0),
   (41, .aload_n 0, 1, 0, 0, 0, m0),
   (42, .dup, 1, 0, 0, 0, m0),
   (43, .getfield 21, 3, 3, 7, 249, m0),
   (46, .iconst 1, 1, 0, 0, 0, m0),
   (47, .iadd, 1, 0, 0, 0, m0),
   (48, .putfield 21, 3, 3, 7, 249, m0),
   (51, .iconst 1, 1, 0, 0, 0, m0),
   (52, .ireturn, 1, 0, 0, 0, m0)])]
theorem ok_Waiting_join : okBt m_Waiting_join bt_Waiting_join = true := by decide +kernel
set_option maxRecDepth 100000 in
theorem b_Waiting_join_0 {l : Launch} {E : EnvT} {d : Nat} {K : AV → Mem → Prop} {M : Mem} {r : Nat} {x1 : Int32} {x2 : Int32} {x3 : Int32} (hd : 1 ≤ d)
  (h : (((iN (M r 8 3)) < (iN 8) →
   (vp_in (iN (M r 8 3)) 8 ∧ vp_in (iN ((upd3 M r 9 ((iN (M r 8 3))).toNatClampNeg (x1).toInt) r 8 3)) 8 ∧ vp_in (iN ((upd3 (upd3 M r 9 ((iN (M r 8 3))).toNatClampNeg (x1).toInt) r 10 ((iN ((upd3 M r 9 ((iN (M r 8 3))).toNatClampNeg (x1).toInt) r 8 3))).toNatClampNeg (x2).toInt) r 8 3)) 8 ∧ (((iN 1) = 0 ∨ (iN 1) = 1)) ∧ K (.int (iN 1), 0) (upd3 (upd3 (upd3 (upd3 M r 9 ((iN (M r 8 3))).toNatClampNeg (x1).toInt) r 10 ((iN ((upd3 M r 9 ((iN (M r 8 3))).toNatClampNeg (x1).toInt) r 8 3))).toNatClampNeg (x2).toInt) r 11 ((iN ((upd3 (upd3 M r 9 ((iN (M r 8 3))).toNatClampNeg (x1).toInt) r 10 ((iN ((upd3 M r 9 ((iN (M r 8 3))).toNatClampNeg (x1).toInt) r 8 3))).toNatClampNeg (x2).toInt) r 8 3))).toNatClampNeg (x3).toInt) r 8 3 (((iN ((upd3 (upd3 (upd3 M r 9 ((iN (M r 8 3))).toNatClampNeg (x1).toInt) r 10 ((iN ((upd3 M r 9 ((iN (M r 8 3))).toNatClampNeg (x1).toInt) r 8 3))).toNatClampNeg (x2).toInt) r 11 ((iN ((upd3 (upd3 M r 9 ((iN (M r 8 3))).toNatClampNeg (x1).toInt) r 10 ((iN ((upd3 M r 9 ((iN (M r 8 3))).toNatClampNeg (x1).toInt) r 8 3))).toNatClampNeg (x2).toInt) r 8 3))).toNatClampNeg (x3).toInt) r 8 3)) + (iN 1))).toInt))) ∧
  (¬ (iN (M r 8 3)) < (iN 8) →
   ((((iN 0) = 0 ∨ (iN 0) = 1)) ∧ K (.int (iN 0), 0) M)))) :
  G l E d m_Waiting_join 0 [(0, (.ref r, 19)), (1, (.int x1, 0)), (2, (.int x2, 0)), (3, (.int x3, 0))] [] M K := G.blk 60 _ hd ok_Waiting_join rfl h
def bt_Waiting_leave : BtT := [(0, [0, 1], true, [(0, .iload_n 1, 1, 0, 0, 0, m0),
   (1, .istore_n 2, 1, 0, 0, 0, m0),
   (2, .nop, 0, 0, 0, 0, m0)]),
  (2, [0, 2], true, [(2, .iload_n 2, 1, 0, 0, 0, m0),
   (3, .iconst 1, 1, 0, 0, 0, m0),
   (4, .iadd, 1, 0, 0, 0, m0),
   (5, .aload_n 0, 1, 0, 0, 0, m0),
   (6, .getfield 21, 3, 3, 7, 249, m0),
   (9, .if_icmp .ge 51, 3, 60, 0, 0, m0),
   (12, .nop, 0, 0, 0, 0, m0)]),
  (12, [], false, [(12, .aload_n 0, 1, 0, 0, 0, m0),
   (13, .getfield 11, 3, 0, 7, 240, m0),
   (16, .iload_n 2, 1, 0, 0, 0, m0),
   (17, .aload_n 0, 1, 0, 0, 0, m0),
   (18, .getfield 11, 3, 0, 7, 240, m0),
   (21, .iload_n 2, 1, 0, 0, 0, m0),
   (22, .iconst 1, 1, 0, 0, 0, m0),
   (23, .iadd, 1, 0, 0, 0, m0),
   (24, .iaload, 1, 0, 0, 0, m0),
   (25, .iastore, 1, 0, 0, 0, m0),
   (26, .aload_n 0, 1, 0, 0, 0, m0),
   (27, .getfield 15, 3, 1, 7, 243, m0),
   (30, .iload_n 2, 1, 0, 0, 0, m0),
   (31, .aload_n 0, 1, 0, 0, 0, m0),
   (32, .getfield 15, 3, 1, 7, 243, m0),
   (35, .iload_n 2, 1, 0, 0, 0, m0),
   (36, .iconst 1, 1, 0, 0, 0, m0),
   (37, .iadd, 1, 0, 0, 0, m0),
   (38, .iaload, 1, 0, 0, 0, m0),
   (39, .iastore, 1, 0, 0, 0, m0),
   (40, .aload_n 0, 1, 0, 0, 0, m0),
   (41, .getfield 18, 3, 2, 7, 246, m0),
   (44, .iload_n 2, 1, 0, 0, 0, m0),
   (45, .aload_n 0, 1, 0, 0, 0, m0),
   (46, .getfield 18, 3, 2, 7, 246, m0),
   (49, .iload_n 2, 1, 0, 0, 0, m0),
   (50, .iconst 1, 1, 0, 0, 0, m0),
   (51, .iadd, 1, 0, 0, 0, m0),
   (52, .iaload, 1, 0, 0, 0, m0),
   (53, .iastore, 1, 0, 0, 0, m0),
   (54, .iinc 2 1, 3, 0, 0, 0, m0),
   (57, .goto (-55), 3, 2, 0, 0, m0)]),
  (60, [], false, [(60, .aload_n 0, 1, 0, 0, 0, m0),
   (61, .dup, 1, 0, 0, 0, m0),
   (62, .getfield 21, 3, 3, 7, 249, m0),
   (65, .iconst 1, 1, 0, 0, 0, m0),
   (66, .isub, 1, 0, 0, 0, m0),
   (67, .putfield 21, 3, 3, 7, 249, m0),
   (70, .return_, 1, 0, 0, 0, m0)])]
theorem ok_Waiting_leave : okBt m_Waiting_leave bt_Waiting_leave = true := by decide +kernel
set_option maxRecDepth 100000 in
theorem b_Waiting_leave_0 {l : Launch} {E : EnvT} {d : Nat} {K : AV → Mem → Prop} {M : Mem} {r : Nat} {x1 : Int32} (hd : 1 ≤ d)
  (h : G l E d m_Waiting_leave 2 [(0, (.ref r, 19)), (2, (.int x1, 0))] [] M K) :
  G l E d m_Waiting_leave 0 [(0, (.ref r, 19)), (1, (.int x1, 0))] [] M K := G.blk 60 _ hd ok_Waiting_leave rfl h
set_option maxRecDepth 100000 in
theorem b_Waiting_leave_2 {l : Launch} {E : EnvT} {d : Nat} {K : AV → Mem → Prop} {M : Mem} {r : Nat} {x2 : Int32} (hd : 1 ≤ d)
  (h : (((iN (M r 8 3)) ≤ (x2 + (iN 1)) →
   K (.null, 0) (upd3 M r 8 3 (((iN (M r 8 3)) - (iN 1))).toInt)) ∧
  (¬ (iN (M r 8 3)) ≤ (x2 + (iN 1)) →
   (vp_in (x2 + (iN 1)) 8 ∧ vp_in x2 8 ∧ vp_in (x2 + (iN 1)) 8 ∧ vp_in x2 8 ∧ vp_in (x2 + (iN 1)) 8 ∧ vp_in x2 8 ∧ G l E d m_Waiting_leave 2 [(0, (.ref r, 19)), (2, (.int (x2 + iN 1), 0))] [] (upd3 (upd3 (upd3 M r 9 (x2).toNatClampNeg ((iN (M r 9 ((x2 + (iN 1))).toNatClampNeg))).toInt) r 10 (x2).toNatClampNeg ((iN ((upd3 M r 9 (x2).toNatClampNeg ((iN (M r 9 ((x2 + (iN 1))).toNatClampNeg))).toInt) r 10 ((x2 + (iN 1))).toNatClampNeg))).toInt) r 11 (x2).toNatClampNeg ((iN ((upd3 (upd3 M r 9 (x2).toNatClampNeg ((iN (M r 9 ((x2 + (iN 1))).toNatClampNeg))).toInt) r 10 (x2).toNatClampNeg ((iN ((upd3 M r 9 (x2).toNatClampNeg ((iN (M r 9 ((x2 + (iN 1))).toNatClampNeg))).toInt) r 10 ((x2 + (iN 1))).toNatClampNeg))).toInt) r 11 ((x2 + (iN 1))).toNatClampNeg))).toInt) K)))) :
  G l E d m_Waiting_leave 2 [(0, (.ref r, 19)), (2, (.int x2, 0))] [] M K := G.blk 60 _ hd ok_Waiting_leave rfl h
def bt_Waiting_countFor : BtT := [(0, [0, 1], true, [(0, .iconst 0, 1, 0, 0, 0, m0),
   (1, .istore_n 2, 1, 0, 0, 0, m0),
   (2, .iconst 0, 1, 0, 0, 0, m0),
   (3, .istore_n 3, 1, 0, 0, 0, m0),
   (4, .nop, 0, 0, 0, 0, m0)]),
  (4, [0, 1, 2, 3], true, [(4, .iload_n 3, 1, 0, 0, 0, m0),
   (5, .aload_n 0, 1, 0, 0, 0, m0),
   (6, .getfield 21, 3, 3, 7, 249, m0),
   (9, .if_icmp .ge 22, 3, 31, 0, 0, m0),
   (12, .nop, 0, 0, 0, 0, m0)]),
  (12, [], false, [(12, .aload_n 0, 1, 0, 0, 0, m0),
   (13, .getfield 15, 3, 1, 7, 243, m0),
   (16, .iload_n 3, 1, 0, 0, 0, m0),
   (17, .iaload, 1, 0, 0, 0, m0),
   (18, .iload_n 1, 1, 0, 0, 0, m0),
   (19, .if_icmp .ne 6, 3, 25, 0, 0, m0),
   (22, .nop, 0, 0, 0, 0, m0)]),
  (22, [], false, [(22, .iinc 2 1, 3, 0, 0, 0, m0),
   (25, .nop, 0, 0, 0, 0, m0)]),
  (25, [], false, [(25, .iinc 3 1, 3, 0, 0, 0, m0),
   (28, .goto (-24), 3, 4, 0, 0, m0)]),
  (31, [], false, [(31, .iload_n 2, 1, 0, 0, 0, m0),
   (32, .ireturn, 1, 0, 0, 0, m0)])]
theorem ok_Waiting_countFor : okBt m_Waiting_countFor bt_Waiting_countFor = true := by decide +kernel
set_option maxRecDepth 100000 in
theorem b_Waiting_countFor_0 {l : Launch} {E : EnvT} {d : Nat} {K : AV → Mem → Prop} {M : Mem} {r : Nat} {x1 : Int32} (hd : 1 ≤ d)
  (h : G l E d m_Waiting_countFor 4 [(0, (.ref r, 19)), (1, (.int x1, 0)), (2, (.int (iN 0), 0)), (3, (.int (iN 0), 0))] [] M K) :
  G l E d m_Waiting_countFor 0 [(0, (.ref r, 19)), (1, (.int x1, 0))] [] M K := G.blk 60 _ hd ok_Waiting_countFor rfl h
set_option maxRecDepth 100000 in
theorem b_Waiting_countFor_4 {l : Launch} {E : EnvT} {d : Nat} {K : AV → Mem → Prop} {M : Mem} {r : Nat} {x1 : Int32} {x2 : Int32} {x3 : Int32} (hd : 1 ≤ d)
  (h : (((iN (M r 8 3)) ≤ x3 →
   K (.int x2, 0) M) ∧
  (¬ (iN (M r 8 3)) ≤ x3 →
   (vp_in x3 8 ∧ ((¬ (iN (M r 10 (x3).toNatClampNeg)) = x1 →
    G l E d m_Waiting_countFor 4 [(0, (.ref r, 19)), (1, (.int x1, 0)), (2, (.int x2, 0)), (3, (.int (x3 + iN 1), 0))] [] M K) ∧
   ((iN (M r 10 (x3).toNatClampNeg)) = x1 →
    G l E d m_Waiting_countFor 4 [(0, (.ref r, 19)), (1, (.int x1, 0)), (2, (.int (x2 + iN 1), 0)), (3, (.int (x3 + iN 1), 0))] [] M K)))))) :
  G l E d m_Waiting_countFor 4 [(0, (.ref r, 19)), (1, (.int x1, 0)), (2, (.int x2, 0)), (3, (.int x3, 0))] [] M K := G.blk 60 _ hd ok_Waiting_countFor rfl h
def bt_Waiting_takeFrom : BtT := [(0, [0, 1], true, [(0, .aload_n 1, 1, 0, 0, 0, m0),
   (1, .getfield 11, 3, 0, 7, 240, m0),
   (4, .iconst 0, 1, 0, 0, 0, m0),
   (5, .aload_n 0, 1, 0, 0, 0, m0),
   (6, .getfield 11, 3, 0, 7, 240, m0),
   (9, .iconst 0, 1, 0, 0, 0, m0),
   (10, .bipush 8, 2, 0, 0, 0, m0),
   (12, .invokestatic 25, 3, 0, 0, 1414, m_copy),
   (15, .aload_n 1, 1, 0, 0, 0, m0),
   (16, .getfield 15, 3, 1, 7, 243, m0),
   (19, .iconst 0, 1, 0, 0, 0, m0),
   (20, .aload_n 0, 1, 0, 0, 0, m0),
   (21, .getfield 15, 3, 1, 7, 243, m0),
   (24, .iconst 0, 1, 0, 0, 0, m0),
   (25, .bipush 8, 2, 0, 0, 0, m0),
   (27, .invokestatic 25, 3, 0, 0, 1414, m_copy),
   (30, .aload_n 1, 1, 0, 0, 0, m0),
   (31, .getfield 18, 3, 2, 7, 246, m0),
   (34, .iconst 0, 1, 0, 0, 0, m0),
   (35, .aload_n 0, 1, 0, 0, 0, m0),
   (36, .getfield 18, 3, 2, 7, 246, m0),
   (39, .iconst 0, 1, 0, 0, 0, m0),
   (40, .bipush 8, 2, 0, 0, 0, m0),
   (42, .invokestatic 25, 3, 0, 0, 1414, m_copy),
   (45, .aload_n 0, 1, 0, 0, 0, m0),
   (46, .aload_n 1, 1, 0, 0, 0, m0),
   (47, .getfield 21, 3, 3, 7, 249, m0),
   (50, .putfield 21, 3, 3, 7, 249, m0),
   (53, .return_, 1, 0, 0, 0, m0)])]
theorem ok_Waiting_takeFrom : okBt m_Waiting_takeFrom bt_Waiting_takeFrom = true := by decide +kernel
set_option maxRecDepth 100000 in
theorem b_Waiting_takeFrom_0 {l : Launch} {E : EnvT} {d : Nat} {K : AV → Mem → Prop} {M : Mem} {r r2 : Nat}  (hd : 1 ≤ d)
  (h : (¬ (iN 0) < 0 ∧ ¬ (iN 0) < 0 ∧ ¬ (iN 8) < 0 ∧ ((iN 0)).toNatClampNeg + ((iN 8)).toNatClampNeg ≤ 8 ∧ ((iN 0)).toNatClampNeg + ((iN 8)).toNatClampNeg ≤ 8 ∧ ¬ (iN 0) < 0 ∧ ¬ (iN 0) < 0 ∧ ¬ (iN 8) < 0 ∧ ((iN 0)).toNatClampNeg + ((iN 8)).toNatClampNeg ≤ 8 ∧ ((iN 0)).toNatClampNeg + ((iN 8)).toNatClampNeg ≤ 8 ∧ ¬ (iN 0) < 0 ∧ ¬ (iN 0) < 0 ∧ ¬ (iN 8) < 0 ∧ ((iN 0)).toNatClampNeg + ((iN 8)).toNatClampNeg ≤ 8 ∧ ((iN 0)).toNatClampNeg + ((iN 8)).toNatClampNeg ≤ 8 ∧ K (.null, 0) (upd3 (cpyM (cpyM (cpyM M r2 9 r 9 ((iN 0)).toNatClampNeg ((iN 0)).toNatClampNeg ((iN 8)).toNatClampNeg) r2 10 r 10 ((iN 0)).toNatClampNeg ((iN 0)).toNatClampNeg ((iN 8)).toNatClampNeg) r2 11 r 11 ((iN 0)).toNatClampNeg ((iN 0)).toNatClampNeg ((iN 8)).toNatClampNeg) r 8 3 ((iN ((cpyM (cpyM (cpyM M r2 9 r 9 ((iN 0)).toNatClampNeg ((iN 0)).toNatClampNeg ((iN 8)).toNatClampNeg) r2 10 r 10 ((iN 0)).toNatClampNeg ((iN 0)).toNatClampNeg ((iN 8)).toNatClampNeg) r2 11 r 11 ((iN 0)).toNatClampNeg ((iN 0)).toNatClampNeg ((iN 8)).toNatClampNeg) r2 8 3))).toInt))) :
  G l E d m_Waiting_takeFrom 0 [(0, (.ref r, 19)), (1, (.ref r2, 19))] [] M K := G.blk 60 _ hd ok_Waiting_takeFrom rfl h
end
section
def bt_Choir_makeEmpty : BtT := [(0, [0], true, [(0, .aload_n 0, 1, 0, 0, 0, m0),
   (1, .getfield 28, 3, 5, 0, 274, m0),
   (4, .iconst (-1), 1, 0, 0, 0, m0),
   (5, .invokestatic 66, 3, 0, 0, 643, m_Arrays_fill1),
   (8, .aload_n 0, 1, 0, 0, 0, m0),
   (9, .getfield 31, 3, 6, 0, 276, m0),
   (12, .iconst 0, 1, 0, 0, 0, m0),
   (13, .invokestatic 66, 3, 0, 0, 643, m_Arrays_fill1),
   (16, .aload_n 0, 1, 0, 0, 0, m0),
   (17, .getfield 37, 3, 7, 0, 278, m0),
   (20, .iconst 0, 1, 0, 0, 0, m0),
   (21, .putfield 72, 3, 3, 7, 250, m0),
   (24, .aload_n 0, 1, 0, 0, 0, m0),
   (25, .iconst 0, 1, 0, 0, 0, m0),
   (26, .putfield 41, 3, 8, 0, 280, m0),
   (29, .aload_n 0, 1, 0, 0, 0, m0),
   (30, .iconst 0, 1, 0, 0, 0, m0),
   (31, .putfield 45, 3, 9, 0, 284, m0),
   (34, .aload_n 0, 1, 0, 0, 0, m0),
   (35, .iconst 0, 1, 0, 0, 0, m0),
   (36, .putfield 48, 3, 10, 0, 287, m0),
   (39, .aload_n 0, 1, 0, 0, 0, m0),
   (40, .iconst 0, 1, 0, 0, 0, m0),
   (41, .putfield 51, 3, 11, 0, 290, m0),
   (44, .aload_n 0, 1, 0, 0, 0, m0),
   (45, .iconst 0, 1, 0, 0, 0, m0),
   (46, .putfield 54, 3, 12, 0, 293, m0),
   (49, .aload_n 0, 1, 0, 0, 0, m0),
   (50, .iconst 0, 1, 0, 0, 0, m0),
   (51, .putfield 57, 3, 13, 0, 296, m0),
   (54, .aload_n 0, 1, 0, 0, 0, m0),
   (55, .iconst 0, 1, 0, 0, 0, m0),
   (56, .putfield 60, 3, 14, 0, 299, m0),
   (59, .nop, 0, 0, 0, 0, m0)]),
  (59, [0], true, [(59, .aload_n 0, 1, 0, 0, 0, m0),
   (60, .iconst 0, 1, 0, 0, 0, m0),
   (61, .putfield 63, 3, 15, 0, 301, m0),
   (64, .return_, 1, 0, 0, 0, m0)])]
theorem ok_Choir_makeEmpty : okBt m_Choir_makeEmpty bt_Choir_makeEmpty = true := by decide +kernel
set_option maxRecDepth 100000 in
theorem b_Choir_makeEmpty_0 {l : Launch} {E : EnvT} {d : Nat} {K : AV → Mem → Prop} {M : Mem} {r : Nat}  (hd : 1 ≤ d)
  (h : CT l E (d - 1) m_Arrays_fill1 [(.ref r, 17), (.int (iN (-1)), 0)] M (fun v1 M1 =>
   CT l E (d - 1) m_Arrays_fill1 [(.ref r, 18), (.int (iN 0), 0)] M1 (fun v2 M2 =>
    G l E d m_Choir_makeEmpty 59 [(0, (.ref r, 11))] [] (upd3 (upd3 (upd3 (upd3 (upd3 (upd3 (upd3 (upd3 M2 r 8 3 ((iN 0)).toInt) r 0 8 ((iN 0)).toInt) r 0 9 ((iN 0)).toInt) r 0 10 ((iN 0)).toInt) r 0 11 ((iN 0)).toInt) r 0 12 ((iN 0)).toInt) r 0 13 ((iN 0)).toInt) r 0 14 ((iN 0)).toInt) K))) :
  G l E d m_Choir_makeEmpty 0 [(0, (.ref r, 11))] [] M K := G.blk 60 _ hd ok_Choir_makeEmpty rfl h
set_option maxRecDepth 100000 in
theorem b_Choir_makeEmpty_59 {l : Launch} {E : EnvT} {d : Nat} {K : AV → Mem → Prop} {M : Mem} {r : Nat}  (hd : 1 ≤ d)
  (h : K (.null, 0) (upd3 M r 0 15 ((iN 0)).toInt)) :
  G l E d m_Choir_makeEmpty 59 [(0, (.ref r, 11))] [] M K := G.blk 60 _ hd ok_Choir_makeEmpty rfl h
def bt_Choir_find : BtT := [(0, [0, 1], true, [(0, .iconst 0, 1, 0, 0, 0, m0),
   (1, .istore_n 3, 1, 0, 0, 0, m0),
   (2, .nop, 0, 0, 0, 0, m0)]),
  (2, [0, 1, 3], true, [(2, .iload_n 3, 1, 0, 0, 0, m0),
   (3, .aload_n 0, 1, 0, 0, 0, m0),
   (4, .getfield 41, 3, 8, 0, 280, m0),
   (7, .if_icmp .ge 22, 3, 29, 0, 0, m0),
   (10, .nop, 0, 0, 0, 0, m0)]),
  (10, [], false, [(10, .aload_n 0, 1, 0, 0, 0, m0),
   (11, .getfield 11, 3, 0, 0, 262, m0),
   (14, .iload_n 3, 1, 0, 0, 0, m0),
   (15, .laload, 1, 0, 0, 0, m0),
   (16, .lload_n 1, 1, 0, 0, 0, m0),
   (17, .lcmp, 1, 0, 0, 0, m0),
   (18, .ifCond .ne 5, 3, 23, 0, 0, m0),
   (21, .nop, 0, 0, 0, 0, m0)]),
  (21, [], false, [(21, .iload_n 3, 1, 0, 0, 0, m0),
   (22, .ireturn, 1, 0, 0, 0, m0)]),
  (23, [], false, [(23, .iinc 3 1, 3, 0, 0, 0, m0),
   (26, .goto (-24), 3, 2, 0, 0, m0)]),
  (29, [], false, [(29, .iconst (-1), 1, 0, 0, 0, m0),
   (30, .ireturn, 1, 0, 0, 0, m0)])]
theorem ok_Choir_find : okBt m_Choir_find bt_Choir_find = true := by decide +kernel
set_option maxRecDepth 100000 in
theorem b_Choir_find_0 {l : Launch} {E : EnvT} {d : Nat} {K : AV → Mem → Prop} {M : Mem} {r : Nat} {x1 : Int64} (hd : 1 ≤ d)
  (h : G l E d m_Choir_find 2 [(0, (.ref r, 11)), (1, (.long x1, 0)), (3, (.int (iN 0), 0))] [] M K) :
  G l E d m_Choir_find 0 [(0, (.ref r, 11)), (1, (.long x1, 0))] [] M K := G.blk 60 _ hd ok_Choir_find rfl h
set_option maxRecDepth 100000 in
theorem b_Choir_find_2 {l : Launch} {E : EnvT} {d : Nat} {K : AV → Mem → Prop} {M : Mem} {r : Nat} {x1 : Int64} {x3 : Int32} (hd : 1 ≤ d)
  (h : (((iN (M r 0 8)) ≤ x3 →
   K (.int (iN (-1)), 0) M) ∧
  (¬ (iN (M r 0 8)) ≤ x3 →
   (vp_in x3 8 ∧ ((¬ (lg_cmp (lI (M r 1 (x3).toNatClampNeg)) x1) = 0 →
    G l E d m_Choir_find 2 [(0, (.ref r, 11)), (1, (.long x1, 0)), (3, (.int (x3 + iN 1), 0))] [] M K) ∧
   ((lg_cmp (lI (M r 1 (x3).toNatClampNeg)) x1) = 0 →
    K (.int x3, 0) M)))))) :
  G l E d m_Choir_find 2 [(0, (.ref r, 11)), (1, (.long x1, 0)), (3, (.int x3, 0))] [] M K := G.blk 60 _ hd ok_Choir_find rfl h
def bt_Choir_slot : BtT := [(0, [0, 1], true, [(0, .iload_n 0, 1, 0, 0, 0, m0),
   (1, .bipush 6, 2, 0, 0, 0, m0),
   (3, .imul, 1, 0, 0, 0, m0),
   (4, .iload_n 1, 1, 0, 0, 0, m0),
   (5, .iadd, 1, 0, 0, 0, m0),
   (6, .ireturn, 1, 0, 0, 0, m0)])]
theorem ok_Choir_slot : okBt m_Choir_slot bt_Choir_slot = true := by decide +kernel
set_option maxRecDepth 100000 in
theorem b_Choir_slot_0 {l : Launch} {E : EnvT} {d : Nat} {K : AV → Mem → Prop} {M : Mem} {x0 : Int32} {x1 : Int32} (hd : 1 ≤ d)
  (h : K (.int ((x0 * (iN 6)) + x1), 0) M) :
  G l E d m_Choir_slot 0 [(0, (.int x0, 0)), (1, (.int x1, 0))] [] M K := G.blk 60 _ hd ok_Choir_slot rfl h
def bt_Choir_addNote : BtT := [(0, [0, 1, 2], true, [(0, .aload_n 0, 1, 0, 0, 0, m0),
   (1, .getfield 25, 3, 4, 0, 272, m0),
   (4, .iload_n 1, 1, 0, 0, 0, m0),
   (5, .aload_n 0, 1, 0, 0, 0, m0),
   (6, .getfield 22, 3, 3, 0, 269, m0),
   (9, .iload_n 1, 1, 0, 0, 0, m0),
   (10, .iaload, 1, 0, 0, 0, m0),
   (11, .invokestatic 89, 3, 0, 0, 760, m_Choir_slot),
   (14, .iload_n 2, 1, 0, 0, 0, m0),
   (15, .iastore, 1, 0, 0, 0, m0),
   (16, .aload_n 0, 1, 0, 0, 0, m0),
   (17, .getfield 22, 3, 3, 0, 269, m0),
   (20, .iload_n 1, 1, 0, 0, 0, m0),
   (21, .dup2, 1, 0, 0, 0, m0),
   (22, .iaload, 1, 0, 0, 0, m0),
   (23, .iconst 1, 1, 0, 0, 0, m0),
   (24, .iadd, 1, 0, 0, 0, m0),
   (25, .iastore, 1, 0, 0, 0, m0),
   (26, .return_, 1, 0, 0, 0, m0)])]
theorem ok_Choir_addNote : okBt m_Choir_addNote bt_Choir_addNote = true := by decide +kernel
set_option maxRecDepth 100000 in
theorem b_Choir_addNote_0 {l : Launch} {E : EnvT} {d : Nat} {K : AV → Mem → Prop} {M : Mem} {r : Nat} {x1 : Int32} {x2 : Int32} (hd : 1 ≤ d)
  (h : (vp_in x1 8 ∧ CT l E (d - 1) m_Choir_slot [(.int x1, 0), (.int (iN (M r 4 (x1).toNatClampNeg)), 0)] M (fun v1 M1 =>
   (vp_in (toI v1) 48 ∧ vp_in x1 8 ∧ vp_in x1 8 ∧ K (.null, 0) (upd3 (upd3 M1 r 5 ((toI v1)).toNatClampNeg (x2).toInt) r 4 (x1).toNatClampNeg (((iN ((upd3 M1 r 5 ((toI v1)).toNatClampNeg (x2).toInt) r 4 (x1).toNatClampNeg)) + (iN 1))).toInt))))) :
  G l E d m_Choir_addNote 0 [(0, (.ref r, 11)), (1, (.int x1, 0)), (2, (.int x2, 0))] [] M K := G.blk 60 _ hd ok_Choir_addNote rfl h
def bt_Choir_addSinger : BtT := [(0, [0, 1, 3], true, [(0, .aload_n 0, 1, 0, 0, 0, m0),
   (1, .getfield 41, 3, 8, 0, 280, m0),
   (4, .istore 4, 2, 0, 0, 0, m0),
   (6, .aload_n 0, 1, 0, 0, 0, m0),
   (7, .getfield 11, 3, 0, 0, 262, m0),
   (10, .iload 4, 2, 0, 0, 0, m0),
   (12, .lload_n 1, 1, 0, 0, 0, m0),
   (13, .lastore, 1, 0, 0, 0, m0),
   (14, .aload_n 0, 1, 0, 0, 0, m0),
   (15, .getfield 15, 3, 1, 0, 263, m0),
   (18, .iload 4, 2, 0, 0, 0, m0),
   (20, .iload_n 3, 1, 0, 0, 0, m0),
   (21, .iastore, 1, 0, 0, 0, m0),
   (22, .aload_n 0, 1, 0, 0, 0, m0),
   (23, .getfield 19, 3, 2, 0, 266, m0),
   (26, .iload 4, 2, 0, 0, 0, m0),
   (28, .iconst (-1), 1, 0, 0, 0, m0),
   (29, .iastore, 1, 0, 0, 0, m0),
   (30, .aload_n 0, 1, 0, 0, 0, m0),
   (31, .getfield 22, 3, 3, 0, 269, m0),
   (34, .iload 4, 2, 0, 0, 0, m0),
   (36, .iconst 0, 1, 0, 0, 0, m0),
   (37, .iastore, 1, 0, 0, 0, m0),
   (38, .aload_n 0, 1, 0, 0, 0, m0),
   (39, .iload 4, 2, 0, 0, 0, m0),
   (41, .bipush 12, 2, 0, 0, 0, m0),
   (43, .invokevirtual 85, 3, 0, 0, 756, m_Choir_addNote),
   (46, .aload_n 0, 1, 0, 0, 0, m0),
   (47, .iload 4, 2, 0, 0, 0, m0),
   (49, .bipush 14, 2, 0, 0, 0, m0),
   (51, .invokevirtual 85, 3, 0, 0, 756, m_Choir_addNote),
   (54, .nop, 0, 0, 0, 0, m0)]),
  (54, [0, 4], true, [(54, .aload_n 0, 1, 0, 0, 0, m0),
   (55, .iload 4, 2, 0, 0, 0, m0),
   (57, .bipush 16, 2, 0, 0, 0, m0),
   (59, .invokevirtual 85, 3, 0, 0, 756, m_Choir_addNote),
   (62, .aload_n 0, 1, 0, 0, 0, m0),
   (63, .dup, 1, 0, 0, 0, m0),
   (64, .getfield 41, 3, 8, 0, 280, m0),
   (67, .iconst 1, 1, 0, 0, 0, m0),
   (68, .iadd, 1, 0, 0, 0, m0),
   (69, .putfield 41, 3, 8, 0, 280, m0),
   (72, .iload 4, 2, 0, 0, 0, m0),
   (74, .ireturn, 1, 0, 0, 0, m0)])]
theorem ok_Choir_addSinger : okBt m_Choir_addSinger bt_Choir_addSinger = true := by decide +kernel
set_option maxRecDepth 100000 in
theorem b_Choir_addSinger_0 {l : Launch} {E : EnvT} {d : Nat} {K : AV → Mem → Prop} {M : Mem} {r : Nat} {x1 : Int64} {x3 : Int32} (hd : 1 ≤ d)
  (h : (vp_in (iN (M r 0 8)) 8 ∧ vp_in (iN (M r 0 8)) 8 ∧ vp_in (iN (M r 0 8)) 8 ∧ vp_in (iN (M r 0 8)) 8 ∧ CT l E (d - 1) m_Choir_addNote [(.ref r, 11), (.int (iN (M r 0 8)), 0), (.int (iN 12), 0)] (upd3 (upd3 (upd3 (upd3 M r 1 ((iN (M r 0 8))).toNatClampNeg (x1).toInt) r 2 ((iN (M r 0 8))).toNatClampNeg (x3).toInt) r 3 ((iN (M r 0 8))).toNatClampNeg ((iN (-1))).toInt) r 4 ((iN (M r 0 8))).toNatClampNeg ((iN 0)).toInt) (fun v1 M1 =>
   CT l E (d - 1) m_Choir_addNote [(.ref r, 11), (.int (iN (M r 0 8)), 0), (.int (iN 14), 0)] M1 (fun v2 M2 =>
    G l E d m_Choir_addSinger 54 [(0, (.ref r, 11)), (4, (.int (iN (M r 0 8)), 0))] [] M2 K)))) :
  G l E d m_Choir_addSinger 0 [(0, (.ref r, 11)), (1, (.long x1, 0)), (3, (.int x3, 0))] [] M K := G.blk 60 _ hd ok_Choir_addSinger rfl h
set_option maxRecDepth 100000 in
theorem b_Choir_addSinger_54 {l : Launch} {E : EnvT} {d : Nat} {K : AV → Mem → Prop} {M : Mem} {r : Nat} {x4 : Int32} (hd : 1 ≤ d)
  (h : CT l E (d - 1) m_Choir_addNote [(.ref r, 11), (.int x4, 0), (.int (iN 16), 0)] M (fun v1 M1 =>
   K (.int x4, 0) (upd3 M1 r 0 8 (((iN (M1 r 0 8)) + (iN 1))).toInt))) :
  G l E d m_Choir_addSinger 54 [(0, (.ref r, 11)), (4, (.int x4, 0))] [] M K := G.blk 60 _ hd ok_Choir_addSinger rfl h
def bt_Choir_slotOf : BtT := [(0, [0, 1, 2], true, [(0, .iload_n 2, 1, 0, 0, 0, m0),
   (1, .bipush 6, 2, 0, 0, 0, m0),
   (3, .imul, 1, 0, 0, 0, m0),
   (4, .istore_n 3, 1, 0, 0, 0, m0),
   (5, .iload_n 3, 1, 0, 0, 0, m0),
   (6, .aload_n 0, 1, 0, 0, 0, m0),
   (7, .getfield 22, 3, 3, 0, 269, m0),
   (10, .iload_n 2, 1, 0, 0, 0, m0),
   (11, .iaload, 1, 0, 0, 0, m0),
   (12, .iadd, 1, 0, 0, 0, m0),
   (13, .istore 4, 2, 0, 0, 0, m0),
   (15, .iload_n 3, 1, 0, 0, 0, m0),
   (16, .istore 5, 2, 0, 0, 0, m0),
   (18, .nop, 0, 0, 0, 0, m0)]),
  (18, [0, 1, 4, 5], true, [(18, .iload 5, 2, 0, 0, 0, m0),
   (20, .iload 4, 2, 0, 0, 0, m0),
   (22, .if_icmp .ge 23, 3, 45, 0, 0, m0),
   (25, .nop, 0, 0, 0, 0, m0)]),
  (25, [], false, [(25, .aload_n 0, 1, 0, 0, 0, m0),
   (26, .getfield 28, 3, 5, 0, 274, m0),
   (29, .iload 5, 2, 0, 0, 0, m0),
   (31, .iaload, 1, 0, 0, 0, m0),
   (32, .iload_n 1, 1, 0, 0, 0, m0),
   (33, .if_icmp .ne 6, 3, 39, 0, 0, m0),
   (36, .nop, 0, 0, 0, 0, m0)]),
  (36, [], false, [(36, .iload 5, 2, 0, 0, 0, m0),
   (38, .ireturn, 1, 0, 0, 0, m0)]),
  (39, [], false, [(39, .iinc 5 1, 3, 0, 0, 0, m0),
   (42, .goto (-24), 3, 18, 0, 0, m0)]),
  (45, [], false, [(45, .iconst (-1), 1, 0, 0, 0, m0),
   (46, .ireturn, 1, 0, 0, 0, m0)])]
theorem ok_Choir_slotOf : okBt m_Choir_slotOf bt_Choir_slotOf = true := by decide +kernel
set_option maxRecDepth 100000 in
theorem b_Choir_slotOf_0 {l : Launch} {E : EnvT} {d : Nat} {K : AV → Mem → Prop} {M : Mem} {r : Nat} {x1 : Int32} {x2 : Int32} (hd : 1 ≤ d)
  (h : (vp_in x2 8 ∧ G l E d m_Choir_slotOf 18 [(0, (.ref r, 11)), (1, (.int x1, 0)), (4, (.int ((x2 * (iN 6)) + (iN (M r 4 (x2).toNatClampNeg))), 0)), (5, (.int (x2 * (iN 6)), 0))] [] M K)) :
  G l E d m_Choir_slotOf 0 [(0, (.ref r, 11)), (1, (.int x1, 0)), (2, (.int x2, 0))] [] M K := G.blk 60 _ hd ok_Choir_slotOf rfl h
set_option maxRecDepth 100000 in
theorem b_Choir_slotOf_18 {l : Launch} {E : EnvT} {d : Nat} {K : AV → Mem → Prop} {M : Mem} {r : Nat} {x1 : Int32} {x4 : Int32} {x5 : Int32} (hd : 1 ≤ d)
  (h : ((x4 ≤ x5 →
   K (.int (iN (-1)), 0) M) ∧
  (¬ x4 ≤ x5 →
   (vp_in x5 48 ∧ ((¬ (iN (M r 6 (x5).toNatClampNeg)) = x1 →
    G l E d m_Choir_slotOf 18 [(0, (.ref r, 11)), (1, (.int x1, 0)), (4, (.int x4, 0)), (5, (.int (x5 + iN 1), 0))] [] M K) ∧
   ((iN (M r 6 (x5).toNatClampNeg)) = x1 →
    K (.int x5, 0) M)))))) :
  G l E d m_Choir_slotOf 18 [(0, (.ref r, 11)), (1, (.int x1, 0)), (4, (.int x4, 0)), (5, (.int x5, 0))] [] M K := G.blk 60 _ hd ok_Choir_slotOf rfl h
def bt_Choir_owe : BtT := [(0, [0, 1, 2, 3], true, [(0, .aload_n 0, 1, 0, 0, 0, m0),
   (1, .iload_n 1, 1, 0, 0, 0, m0),
   (2, .iload_n 2, 1, 0, 0, 0, m0),
   (3, .invokevirtual 107, 3, 0, 0, 798, m_Choir_slotOf),
   (6, .istore 4, 2, 0, 0, 0, m0),
   (8, .iload 4, 2, 0, 0, 0, m0),
   (10, .iconst (-1), 1, 0, 0, 0, m0),
   (11, .if_icmp .eq 33, 3, 44, 0, 0, m0),
   (14, .nop, 0, 0, 0, 0, m0)]),
  (14, [], false, [(14, .aload_n 0, 1, 0, 0, 0, m0),
   (15, .getfield 31, 3, 6, 0, 276, m0),
   (18, .iload 4, 2, 0, 0, 0, m0),
   (20, .iaload, 1, 0, 0, 0, m0),
   (21, .iload_n 3, 1, 0, 0, 0, m0),
   (22, .iadd, 1, 0, 0, 0, m0),
   (23, .sipush 999, 3, 0, 0, 0, m0),
   (26, .if_icmp .le 5, 3, 31, 0, 0, m0),
   (29, .nop, 0, 0, 0, 0, m0)]),
  (29, [], false, [(29, .iconst 0, 1, 0, 0, 0, m0),
   (30, .ireturn, 1, 0, 0, 0, m0)]),
  (31, [], false, [(31, .aload_n 0, 1, 0, 0, 0, m0),
   (32, .getfield 31, 3, 6, 0, 276, m0),
   (35, .iload 4, 2, 0, 0, 0, m0),
   (37, .dup2, 1, 0, 0, 0, m0),
   (38, .iaload, 1, 0, 0, 0, m0),
   (39, .iload_n 3, 1, 0, 0, 0, m0),
   (40, .iadd, 1, 0, 0, 0, m0),
   (41, .iastore, 1, 0, 0, 0, m0),
   (42, .iconst 1, 1, 0, 0, 0, m0),
   (43, .ireturn, 1, 0, 0, 0, m0)]),
  (44, [], false, [(44, .aload_n 0, 1, 0, 0, 0, m0),
   (45, .getfield 37, 3, 7, 0, 278, m0),
   (48, .iload_n 1, 1, 0, 0, 0, m0),
   (49, .iload_n 2, 1, 0, 0, 0, m0),
   (50, .invokevirtual 110, 3, 0, 0, 802, m_Waiting_placeOf),
   (53, .istore 5, 2, 0, 0, 0, m0),
   (55, .iload 5, 2, 0, 0, 0, m0),
   (57, .iconst (-1), 1, 0, 0, 0, m0),
   (58, .if_icmp .eq 14, 3, 72, 0, 0, m0),
   (61, .nop, 0, 0, 0, 0, m0)]),
  (61, [], false, [(61, .aload_n 0, 1, 0, 0, 0, m0),
   (62, .getfield 37, 3, 7, 0, 278, m0),
   (65, .iload 5, 2, 0, 0, 0, m0),
   (67, .iload_n 3, 1, 0, 0, 0, m0),
   (68, .invokevirtual 151, 3, 0, 0, 806, m_Waiting_raise),
   (71, .ireturn, 1, 0, 0, 0, m0)]),
  (72, [], false, [(72, .aload_n 0, 1, 0, 0, 0, m0),
   (73, .iconst (-1), 1, 0, 0, 0, m0),
   (74, .iload_n 2, 1, 0, 0, 0, m0),
   (75, .invokevirtual 107, 3, 0, 0, 798, m_Choir_slotOf),
   (78, .istore 4, 2, 0, 0, 0, m0),
   (80, .iload 4, 2, 0, 0, 0, m0),
   (82, .iconst (-1), 1, 0, 0, 0, m0),
   (83, .if_icmp .ne 14, 3, 97, 0, 0, m0),
   (86, .nop, 0, 0, 0, 0, m0)]),
  (86, [], false, [(86, .aload_n 0, 1, 0, 0, 0, m0),
   (87, .getfield 37, 3, 7, 0, 278, m0),
   (90, .iload_n 1, 1, 0, 0, 0, m0),
   (91, .iload_n 2, 1, 0, 0, 0, m0),
   (92, .iload_n 3, 1, 0, 0, 0, m0),
   (93, .invokevirtual 154, 3, 0, 0, 810, m_Waiting_join),
   (96, .ireturn, 1, 0, 0, 0, m0)]),
  (97, [], false, [(97, .aload_n 0, 1, 0, 0, 0, m0),
   (98, .getfield 28, 3, 5, 0, 274, m0),
   (101, .iload 4, 2, 0, 0, 0, m0),
   (103, .iload_n 1, 1, 0, 0, 0, m0),
   (104, .iastore, 1, 0, 0, 0, m0),
   (105, .aload_n 0, 1, 0, 0, 0, m0),
   (106, .getfield 31, 3, 6, 0, 276, m0),
   (109, .iload 4, 2, 0, 0, 0, m0),
   (111, .iload_n 3, 1, 0, 0, 0, m0),
   (112, .iastore, 1, 0, 0, 0, m0),
   (113, .iconst 1, 1, 0, 0, 0, m0),
   (114, .ireturn, 1, 0, 0, 0, m0)])]
theorem ok_Choir_owe : okBt m_Choir_owe bt_Choir_owe = true := by decide +kernel
set_option maxRecDepth 100000 in
theorem b_Choir_owe_0 {l : Launch} {E : EnvT} {d : Nat} {K : AV → Mem → Prop} {M : Mem} {r : Nat} {x1 : Int32} {x2 : Int32} {x3 : Int32} (hd : 1 ≤ d)
  (h : CT l E (d - 1) m_Choir_slotOf [(.ref r, 11), (.int x1, 0), (.int x2, 0)] M (fun v1 M1 =>
   (((toI v1) = (iN (-1)) →
    CT l E (d - 1) m_Waiting_placeOf [(.ref r, 19), (.int x1, 0), (.int x2, 0)] M1 (fun v2 M2 =>
     (((toI v2) = (iN (-1)) →
      CT l E (d - 1) m_Choir_slotOf [(.ref r, 11), (.int (iN (-1)), 0), (.int x2, 0)] M2 (fun v3 M3 =>
       ((¬ (toI v3) = (iN (-1)) →
        (vp_in (toI v3) 48 ∧ vp_in (toI v3) 48 ∧ (((iN 1) = 0 ∨ (iN 1) = 1)) ∧ K (.int (iN 1), 0) (upd3 (upd3 M3 r 6 ((toI v3)).toNatClampNeg (x1).toInt) r 7 ((toI v3)).toNatClampNeg (x3).toInt))) ∧
       ((toI v3) = (iN (-1)) →
        CT l E (d - 1) m_Waiting_join [(.ref r, 19), (.int x1, 0), (.int x2, 0), (.int x3, 0)] M3 (fun v4 M4 =>
         ((((toI v4) = 0 ∨ (toI v4) = 1)) ∧ K (.int (toI v4), 0) M4)))))) ∧
     (¬ (toI v2) = (iN (-1)) →
      CT l E (d - 1) m_Waiting_raise [(.ref r, 19), (.int (toI v2), 0), (.int x3, 0)] M2 (fun v5 M5 =>
       ((((toI v5) = 0 ∨ (toI v5) = 1)) ∧ K (.int (toI v5), 0) M5)))))) ∧
   (¬ (toI v1) = (iN (-1)) →
    (vp_in (toI v1) 48 ∧ ((((iN (M1 r 7 ((toI v1)).toNatClampNeg)) + x3) ≤ (iN 999) →
     (vp_in (toI v1) 48 ∧ vp_in (toI v1) 48 ∧ (((iN 1) = 0 ∨ (iN 1) = 1)) ∧ K (.int (iN 1), 0) (upd3 M1 r 7 ((toI v1)).toNatClampNeg (((iN (M1 r 7 ((toI v1)).toNatClampNeg)) + x3)).toInt))) ∧
    (¬ ((iN (M1 r 7 ((toI v1)).toNatClampNeg)) + x3) ≤ (iN 999) →
     ((((iN 0) = 0 ∨ (iN 0) = 1)) ∧ K (.int (iN 0), 0) M1)))))))) :
  G l E d m_Choir_owe 0 [(0, (.ref r, 11)), (1, (.int x1, 0)), (2, (.int x2, 0)), (3, (.int x3, 0))] [] M K := G.blk 60 _ hd ok_Choir_owe rfl h
def bt_Choir_debtsAtNotes : BtT := [(0, [0], true, [(0, .iconst 0, 1, 0, 0, 0, m0),
   (1, .istore_n 1, 1, 0, 0, 0, m0),
   (2, .iconst 0, 1, 0, 0, 0, m0),
   (3, .istore_n 2, 1, 0, 0, 0, m0),
   (4, .nop, 0, 0, 0, 0, m0)]),
  (4, [0, 1, 2], true, [(4, .iload_n 2, 1, 0, 0, 0, m0),
   (5, .bipush 48, 2, 0, 0, 0, m0),
   (7, .if_icmp .ge 21, 3, 28, 0, 0, m0),
   (10, .nop, 0, 0, 0, 0, m0)]),
  (10, [], false, [(10, .aload_n 0, 1, 0, 0, 0, m0),
   (11, .getfield 31, 3, 6, 0, 276, m0),
   (14, .iload_n 2, 1, 0, 0, 0, m0),
   (15, .iaload, 1, 0, 0, 0, m0),
   (16, .ifCond .le 6, 3, 22, 0, 0, m0),
   (19, .nop, 0, 0, 0, 0, m0)]),
  (19, [], false, [(19, .iinc 1 1, 3, 0, 0, 0, m0),
   (22, .nop, 0, 0, 0, 0, m0)]),
  (22, [], false, [(22, .iinc 2 1, 3, 0, 0, 0, m0),
   (25, .goto (-21), 3, 4, 0, 0, m0)]),
  (28, [], false, [(28, .iload_n 1, 1, 0, 0, 0, m0),
   (29, .ireturn, 1, 0, 0, 0, m0)])]
theorem ok_Choir_debtsAtNotes : okBt m_Choir_debtsAtNotes bt_Choir_debtsAtNotes = true := by decide +kernel
set_option maxRecDepth 100000 in
theorem b_Choir_debtsAtNotes_0 {l : Launch} {E : EnvT} {d : Nat} {K : AV → Mem → Prop} {M : Mem} {r : Nat}  (hd : 1 ≤ d)
  (h : G l E d m_Choir_debtsAtNotes 4 [(0, (.ref r, 11)), (1, (.int (iN 0), 0)), (2, (.int (iN 0), 0))] [] M K) :
  G l E d m_Choir_debtsAtNotes 0 [(0, (.ref r, 11))] [] M K := G.blk 60 _ hd ok_Choir_debtsAtNotes rfl h
set_option maxRecDepth 100000 in
theorem b_Choir_debtsAtNotes_4 {l : Launch} {E : EnvT} {d : Nat} {K : AV → Mem → Prop} {M : Mem} {r : Nat} {x1 : Int32} {x2 : Int32} (hd : 1 ≤ d)
  (h : (((iN 48) ≤ x2 →
   K (.int x1, 0) M) ∧
  (¬ (iN 48) ≤ x2 →
   (vp_in x2 48 ∧ (((iN (M r 7 (x2).toNatClampNeg)) ≤ 0 →
    G l E d m_Choir_debtsAtNotes 4 [(0, (.ref r, 11)), (1, (.int x1, 0)), (2, (.int (x2 + iN 1), 0))] [] M K) ∧
   (¬ (iN (M r 7 (x2).toNatClampNeg)) ≤ 0 →
    G l E d m_Choir_debtsAtNotes 4 [(0, (.ref r, 11)), (1, (.int (x1 + iN 1), 0)), (2, (.int (x2 + iN 1), 0))] [] M K)))))) :
  G l E d m_Choir_debtsAtNotes 4 [(0, (.ref r, 11)), (1, (.int x1, 0)), (2, (.int x2, 0))] [] M K := G.blk 60 _ hd ok_Choir_debtsAtNotes rfl h
def bt_Choir_isIn : BtT := [(0, [0, 1], true, [(0, .iload_n 0, 1, 0, 0, 0, m0),
   (1, .iload_n 1, 1, 0, 0, 0, m0),
   (2, .ishr, 1, 0, 0, 0, m0),
   (3, .iconst 1, 1, 0, 0, 0, m0),
   (4, .iand, 1, 0, 0, 0, m0),
   (5, .ifCond .eq 7, 3, 12, 0, 0, m0),
   (8, .nop, 0, 0, 0, 0, m0)]),
  (8, [], false, [(8, .iconst 1, 1, 0, 0, 0, m0),
   (9, .goto 4, 3, 13, 0, 0, m0)]),
  (12, [], false, [(12, .iconst 0, 1, 0, 0, 0, m0),
   (13, .nop, 0, 0, 0, 0, m0)]),
  (13, [], false, [(13, .ireturn, 1, 0, 0, 0, m0)])]
theorem ok_Choir_isIn : okBt m_Choir_isIn bt_Choir_isIn = true := by decide +kernel
set_option maxRecDepth 100000 in
theorem b_Choir_isIn_0 {l : Launch} {E : EnvT} {d : Nat} {K : AV → Mem → Prop} {M : Mem} {x0 : Int32} {x1 : Int32} (hd : 1 ≤ d)
  (h : ((((x0 >>> (x1 &&& 31)) &&& (iN 1)) = 0 →
   ((((iN 0) = 0 ∨ (iN 0) = 1)) ∧ K (.int (iN 0), 0) M)) ∧
  (¬ ((x0 >>> (x1 &&& 31)) &&& (iN 1)) = 0 →
   ((((iN 1) = 0 ∨ (iN 1) = 1)) ∧ K (.int (iN 1), 0) M)))) :
  G l E d m_Choir_isIn 0 [(0, (.int x0, 0)), (1, (.int x1, 0))] [] M K := G.blk 60 _ hd ok_Choir_isIn rfl h
def bt_Choir_grown : BtT := [(0, [0, 1], true, [(0, .iload_n 1, 1, 0, 0, 0, m0),
   (1, .ifCond .eq 10, 3, 11, 0, 0, m0),
   (4, .nop, 0, 0, 0, 0, m0)]),
  (4, [], false, [(4, .aload_n 0, 1, 0, 0, 0, m0),
   (5, .getfield 57, 3, 13, 0, 296, m0),
   (8, .ifCond .ne 5, 3, 13, 0, 0, m0),
   (11, .nop, 0, 0, 0, 0, m0)]),
  (11, [], false, [(11, .iload_n 1, 1, 0, 0, 0, m0),
   (12, .ireturn, 1, 0, 0, 0, m0)]),
  (13, [], false, [(13, .sipush 999, 3, 0, 0, 0, m0),
   (16, .iload_n 1, 1, 0, 0, 0, m0),
   (17, .iconst 1, 1, 0, 0, 0, m0),
   (18, .iload_n 1, 1, 0, 0, 0, m0),
   (19, .aload_n 0, 1, 0, 0, 0, m0),
   (20, .getfield 57, 3, 13, 0, 296, m0),
   (23, .imul, 1, 0, 0, 0, m0),
   (24, .bipush 100, 2, 0, 0, 0, m0),
   (26, .idiv, 1, 0, 0, 0, m0),
   (27, .invokestatic 134, 3, 0, 0, 935, m_Math_max),
   (30, .iadd, 1, 0, 0, 0, m0),
   (31, .invokestatic 145, 3, 0, 0, 938, m_Math_min),
   (34, .ireturn, 1, 0, 0, 0, m0)])]
theorem ok_Choir_grown : okBt m_Choir_grown bt_Choir_grown = true := by decide +kernel
set_option maxRecDepth 100000 in
theorem b_Choir_grown_0 {l : Launch} {E : EnvT} {d : Nat} {K : AV → Mem → Prop} {M : Mem} {r : Nat} {x1 : Int32} (hd : 1 ≤ d)
  (h : ((x1 = 0 →
   K (.int x1, 0) M) ∧
  (¬ x1 = 0 →
   ((¬ (iN (M r 0 13)) = 0 →
    (¬ (iN 100) = 0 ∧ CT l E (d - 1) m_Math_max [(.int (iN 1), 0), (.int ((x1 * (iN (M r 0 13))) / (iN 100)), 0)] M (fun v1 M1 =>
     CT l E (d - 1) m_Math_min [(.int (iN 999), 0), (.int (x1 + (toI v1)), 0)] M1 (fun v2 M2 =>
      K (.int (toI v2), 0) M2)))) ∧
   ((iN (M r 0 13)) = 0 →
    K (.int x1, 0) M))))) :
  G l E d m_Choir_grown 0 [(0, (.ref r, 11)), (1, (.int x1, 0))] [] M K := G.blk 60 _ hd ok_Choir_grown rfl h
def bt_Choir_grownIn : BtT := [(0, [0, 1, 2], true, [(0, .iload_n 1, 1, 0, 0, 0, m0),
   (1, .istore_n 3, 1, 0, 0, 0, m0),
   (2, .iconst 0, 1, 0, 0, 0, m0),
   (3, .istore 4, 2, 0, 0, 0, m0),
   (5, .nop, 0, 0, 0, 0, m0)]),
  (5, [0, 2, 3, 4], true, [(5, .iload 4, 2, 0, 0, 0, m0),
   (7, .iload_n 2, 1, 0, 0, 0, m0),
   (8, .if_icmp .ge 28, 3, 36, 0, 0, m0),
   (11, .nop, 0, 0, 0, 0, m0)]),
  (11, [], false, [(11, .aload_n 0, 1, 0, 0, 0, m0),
   (12, .iload_n 3, 1, 0, 0, 0, m0),
   (13, .invokevirtual 148, 3, 0, 0, 931, m_Choir_grown),
   (16, .istore 5, 2, 0, 0, 0, m0),
   (18, .iload 5, 2, 0, 0, 0, m0),
   (20, .iload_n 3, 1, 0, 0, 0, m0),
   (21, .if_icmp .ne 6, 3, 27, 0, 0, m0),
   (24, .nop, 0, 0, 0, 0, m0)]),
  (24, [], false, [(24, .goto 12, 3, 36, 0, 0, m0)]),
  (27, [], false, [(27, .iload 5, 2, 0, 0, 0, m0),
   (29, .istore_n 3, 1, 0, 0, 0, m0),
   (30, .iinc 4 1, 3, 0, 0, 0, m0),
   (33, .goto (-28), 3, 5, 0, 0, m0)]),
  (36, [], false, [(36, .iload_n 3, 1, 0, 0, 0, m0),
   (37, .ireturn, 1, 0, 0, 0, m0)])]
theorem ok_Choir_grownIn : okBt m_Choir_grownIn bt_Choir_grownIn = true := by decide +kernel
set_option maxRecDepth 100000 in
theorem b_Choir_grownIn_0 {l : Launch} {E : EnvT} {d : Nat} {K : AV → Mem → Prop} {M : Mem} {r : Nat} {x1 : Int32} {x2 : Int32} (hd : 1 ≤ d)
  (h : G l E d m_Choir_grownIn 5 [(0, (.ref r, 11)), (2, (.int x2, 0)), (3, (.int x1, 0)), (4, (.int (iN 0), 0))] [] M K) :
  G l E d m_Choir_grownIn 0 [(0, (.ref r, 11)), (1, (.int x1, 0)), (2, (.int x2, 0))] [] M K := G.blk 60 _ hd ok_Choir_grownIn rfl h
set_option maxRecDepth 100000 in
theorem b_Choir_grownIn_5 {l : Launch} {E : EnvT} {d : Nat} {K : AV → Mem → Prop} {M : Mem} {r : Nat} {x2 : Int32} {x3 : Int32} {x4 : Int32} (hd : 1 ≤ d)
  (h : ((x2 ≤ x4 →
   K (.int x3, 0) M) ∧
  (¬ x2 ≤ x4 →
   CT l E (d - 1) m_Choir_grown [(.ref r, 11), (.int x3, 0)] M (fun v1 M1 =>
    ((¬ (toI v1) = x3 →
     G l E d m_Choir_grownIn 5 [(0, (.ref r, 11)), (2, (.int x2, 0)), (3, (.int (toI v1), 0)), (4, (.int (x4 + iN 1), 0))] [] M1 K) ∧
    ((toI v1) = x3 →
     K (.int x3, 0) M1)))))) :
  G l E d m_Choir_grownIn 5 [(0, (.ref r, 11)), (2, (.int x2, 0)), (3, (.int x3, 0)), (4, (.int x4, 0))] [] M K := G.blk 60 _ hd ok_Choir_grownIn rfl h
def bt_Choir_allOwedIn : BtT := [(0, [0, 1], true, [(0, .iconst 0, 1, 0, 0, 0, m0),
   (1, .istore_n 2, 1, 0, 0, 0, m0),
   (2, .iconst 0, 1, 0, 0, 0, m0),
   (3, .istore_n 3, 1, 0, 0, 0, m0),
   (4, .nop, 0, 0, 0, 0, m0)]),
  (4, [0, 1, 2, 3], true, [(4, .iload_n 3, 1, 0, 0, 0, m0),
   (5, .aload_n 0, 1, 0, 0, 0, m0),
   (6, .getfield 41, 3, 8, 0, 280, m0),
   (9, .if_icmp .ge 67, 3, 76, 0, 0, m0),
   (12, .nop, 0, 0, 0, 0, m0)]),
  (12, [], false, [(12, .aload_n 0, 1, 0, 0, 0, m0),
   (13, .getfield 48, 3, 10, 0, 287, m0),
   (16, .iload_n 3, 1, 0, 0, 0, m0),
   (17, .invokestatic 103, 3, 0, 0, 924, m_Choir_isIn),
   (20, .ifCond .eq 7, 3, 27, 0, 0, m0),
   (23, .nop, 0, 0, 0, 0, m0)]),
  (23, [], false, [(23, .iconst 0, 1, 0, 0, 0, m0),
   (24, .goto 4, 3, 28, 0, 0, m0)]),
  (27, [], false, [(27, .iload_n 1, 1, 0, 0, 0, m0),
   (28, .nop, 0, 0, 0, 0, m0)]),
  (28, [], false, [(28, .istore 4, 2, 0, 0, 0, m0),
   (30, .iconst 0, 1, 0, 0, 0, m0),
   (31, .istore 5, 2, 0, 0, 0, m0),
   (33, .nop, 0, 0, 0, 0, m0)]),
  (33, [0, 1, 2, 3, 4, 5], true, [(33, .iload 5, 2, 0, 0, 0, m0),
   (35, .aload_n 0, 1, 0, 0, 0, m0),
   (36, .getfield 22, 3, 3, 0, 269, m0),
   (39, .iload_n 3, 1, 0, 0, 0, m0),
   (40, .iaload, 1, 0, 0, 0, m0),
   (41, .if_icmp .ge 29, 3, 70, 0, 0, m0),
   (44, .nop, 0, 0, 0, 0, m0)]),
  (44, [], false, [(44, .iload_n 2, 1, 0, 0, 0, m0),
   (45, .aload_n 0, 1, 0, 0, 0, m0),
   (46, .aload_n 0, 1, 0, 0, 0, m0),
   (47, .getfield 31, 3, 6, 0, 276, m0),
   (50, .iload_n 3, 1, 0, 0, 0, m0),
   (51, .iload 5, 2, 0, 0, 0, m0),
   (53, .invokestatic 89, 3, 0, 0, 760, m_Choir_slot),
   (56, .iaload, 1, 0, 0, 0, m0),
   (57, .iload 4, 2, 0, 0, 0, m0),
   (59, .invokevirtual 142, 3, 0, 0, 927, m_Choir_grownIn),
   (62, .iadd, 1, 0, 0, 0, m0),
   (63, .istore_n 2, 1, 0, 0, 0, m0),
   (64, .iinc 5 1, 3, 0, 0, 0, m0),
   (67, .goto (-34), 3, 33, 0, 0, m0)]),
  (70, [], false, [(70, .iinc 3 1, 3, 0, 0, 0, m0),
   (73, .goto (-69), 3, 4, 0, 0, m0)]),
  (76, [], false, [(76, .iconst 0, 1, 0, 0, 0, m0),
   (77, .istore_n 3, 1, 0, 0, 0, m0),
   (78, .nop, 0, 0, 0, 0, m0)]),
  (78, [0, 2, 3], true, [(78, .iload_n 3, 1, 0, 0, 0, m0),
   (79, .aload_n 0, 1, 0, 0, 0, m0),
   (80, .getfield 37, 3, 7, 0, 278, m0),
   (83, .getfield 72, 3, 3, 7, 250, m0),
   (86, .if_icmp .ge 21, 3, 107, 0, 0, m0),
   (89, .nop, 0, 0, 0, 0, m0)]),
  (89, [], false, [(89, .iload_n 2, 1, 0, 0, 0, m0),
   (90, .aload_n 0, 1, 0, 0, 0, m0),
   (91, .getfield 37, 3, 7, 0, 278, m0),
   (94, .getfield 116, 3, 2, 7, 248, m0),
   (97, .iload_n 3, 1, 0, 0, 0, m0),
   (98, .iaload, 1, 0, 0, 0, m0),
   (99, .iadd, 1, 0, 0, 0, m0),
   (100, .istore_n 2, 1, 0, 0, 0, m0),
   (101, .iinc 3 1, 3, 0, 0, 0, m0),
   (104, .goto (-26), 3, 78, 0, 0, m0)]),
  (107, [], false, [(107, .iload_n 2, 1, 0, 0, 0, m0),
   (108, .ireturn, 1, 0, 0, 0, m0)])]
theorem ok_Choir_allOwedIn : okBt m_Choir_allOwedIn bt_Choir_allOwedIn = true := by decide +kernel
set_option maxRecDepth 100000 in
theorem b_Choir_allOwedIn_0 {l : Launch} {E : EnvT} {d : Nat} {K : AV → Mem → Prop} {M : Mem} {r : Nat} {x1 : Int32} (hd : 1 ≤ d)
  (h : G l E d m_Choir_allOwedIn 4 [(0, (.ref r, 11)), (1, (.int x1, 0)), (2, (.int (iN 0), 0)), (3, (.int (iN 0), 0))] [] M K) :
  G l E d m_Choir_allOwedIn 0 [(0, (.ref r, 11)), (1, (.int x1, 0))] [] M K := G.blk 60 _ hd ok_Choir_allOwedIn rfl h
set_option maxRecDepth 100000 in
theorem b_Choir_allOwedIn_4 {l : Launch} {E : EnvT} {d : Nat} {K : AV → Mem → Prop} {M : Mem} {r : Nat} {x1 : Int32} {x2 : Int32} {x3 : Int32} (hd : 1 ≤ d)
  (h : (((iN (M r 0 8)) ≤ x3 →
   G l E d m_Choir_allOwedIn 78 [(0, (.ref r, 11)), (2, (.int x2, 0)), (3, (.int (iN 0), 0))] [] M K) ∧
  (¬ (iN (M r 0 8)) ≤ x3 →
   CT l E (d - 1) m_Choir_isIn [(.int (iN (M r 0 10)), 0), (.int x3, 0)] M (fun v1 M1 =>
    (((toI v1) = 0 →
     G l E d m_Choir_allOwedIn 33 [(0, (.ref r, 11)), (1, (.int x1, 0)), (2, (.int x2, 0)), (3, (.int x3, 0)), (4, (.int x1, 0)), (5, (.int (iN 0), 0))] [] M1 K) ∧
    (¬ (toI v1) = 0 →
     G l E d m_Choir_allOwedIn 33 [(0, (.ref r, 11)), (1, (.int x1, 0)), (2, (.int x2, 0)), (3, (.int x3, 0)), (4, (.int (iN 0), 0)), (5, (.int (iN 0), 0))] [] M1 K)))))) :
  G l E d m_Choir_allOwedIn 4 [(0, (.ref r, 11)), (1, (.int x1, 0)), (2, (.int x2, 0)), (3, (.int x3, 0))] [] M K := G.blk 60 _ hd ok_Choir_allOwedIn rfl h
set_option maxRecDepth 100000 in
theorem b_Choir_allOwedIn_33 {l : Launch} {E : EnvT} {d : Nat} {K : AV → Mem → Prop} {M : Mem} {r : Nat} {x1 : Int32} {x2 : Int32} {x3 : Int32} {x4 : Int32} {x5 : Int32} (hd : 1 ≤ d)
  (h : (vp_in x3 8 ∧ (((iN (M r 4 (x3).toNatClampNeg)) ≤ x5 →
   G l E d m_Choir_allOwedIn 4 [(0, (.ref r, 11)), (1, (.int x1, 0)), (2, (.int x2, 0)), (3, (.int (x3 + iN 1), 0))] [] M K) ∧
  (¬ (iN (M r 4 (x3).toNatClampNeg)) ≤ x5 →
   CT l E (d - 1) m_Choir_slot [(.int x3, 0), (.int x5, 0)] M (fun v1 M1 =>
    (vp_in (toI v1) 48 ∧ CT l E (d - 1) m_Choir_grownIn [(.ref r, 11), (.int (iN (M1 r 7 ((toI v1)).toNatClampNeg)), 0), (.int x4, 0)] M1 (fun v2 M2 =>
     G l E d m_Choir_allOwedIn 33 [(0, (.ref r, 11)), (1, (.int x1, 0)), (2, (.int (x2 + (toI v2)), 0)), (3, (.int x3, 0)), (4, (.int x4, 0)), (5, (.int (x5 + iN 1), 0))] [] M2 K))))))) :
  G l E d m_Choir_allOwedIn 33 [(0, (.ref r, 11)), (1, (.int x1, 0)), (2, (.int x2, 0)), (3, (.int x3, 0)), (4, (.int x4, 0)), (5, (.int x5, 0))] [] M K := G.blk 60 _ hd ok_Choir_allOwedIn rfl h
set_option maxRecDepth 100000 in
theorem b_Choir_allOwedIn_78 {l : Launch} {E : EnvT} {d : Nat} {K : AV → Mem → Prop} {M : Mem} {r : Nat} {x2 : Int32} {x3 : Int32} (hd : 1 ≤ d)
  (h : (((iN (M r 8 3)) ≤ x3 →
   K (.int x2, 0) M) ∧
  (¬ (iN (M r 8 3)) ≤ x3 →
   (vp_in x3 8 ∧ G l E d m_Choir_allOwedIn 78 [(0, (.ref r, 11)), (2, (.int (x2 + (iN (M r 11 (x3).toNatClampNeg))), 0)), (3, (.int (x3 + iN 1), 0))] [] M K)))) :
  G l E d m_Choir_allOwedIn 78 [(0, (.ref r, 11)), (2, (.int x2, 0)), (3, (.int x3, 0))] [] M K := G.blk 60 _ hd ok_Choir_allOwedIn rfl h
def bt_Choir_allOwed : BtT := [(0, [0], true, [(0, .aload_n 0, 1, 0, 0, 0, m0),
   (1, .iconst 0, 1, 0, 0, 0, m0),
   (2, .invokevirtual 139, 3, 0, 0, 920, m_Choir_allOwedIn),
   (5, .ireturn, 1, 0, 0, 0, m0)])]
theorem ok_Choir_allOwed : okBt m_Choir_allOwed bt_Choir_allOwed = true := by decide +kernel
set_option maxRecDepth 100000 in
theorem b_Choir_allOwed_0 {l : Launch} {E : EnvT} {d : Nat} {K : AV → Mem → Prop} {M : Mem} {r : Nat}  (hd : 1 ≤ d)
  (h : CT l E (d - 1) m_Choir_allOwedIn [(.ref r, 11), (.int (iN 0), 0)] M (fun v1 M1 =>
   K (.int (toI v1), 0) M1)) :
  G l E d m_Choir_allOwed 0 [(0, (.ref r, 11))] [] M K := G.blk 60 _ hd ok_Choir_allOwed rfl h
def bt_Choir_allCoins : BtT := [(0, [0], true, [(0, .iconst 0, 1, 0, 0, 0, m0),
   (1, .istore_n 1, 1, 0, 0, 0, m0),
   (2, .iconst 0, 1, 0, 0, 0, m0),
   (3, .istore_n 2, 1, 0, 0, 0, m0),
   (4, .nop, 0, 0, 0, 0, m0)]),
  (4, [0, 1, 2], true, [(4, .iload_n 2, 1, 0, 0, 0, m0),
   (5, .aload_n 0, 1, 0, 0, 0, m0),
   (6, .getfield 41, 3, 8, 0, 280, m0),
   (9, .if_icmp .ge 18, 3, 27, 0, 0, m0),
   (12, .nop, 0, 0, 0, 0, m0)]),
  (12, [], false, [(12, .iload_n 1, 1, 0, 0, 0, m0),
   (13, .aload_n 0, 1, 0, 0, 0, m0),
   (14, .getfield 15, 3, 1, 0, 263, m0),
   (17, .iload_n 2, 1, 0, 0, 0, m0),
   (18, .iaload, 1, 0, 0, 0, m0),
   (19, .iadd, 1, 0, 0, 0, m0),
   (20, .istore_n 1, 1, 0, 0, 0, m0),
   (21, .iinc 2 1, 3, 0, 0, 0, m0),
   (24, .goto (-20), 3, 4, 0, 0, m0)]),
  (27, [], false, [(27, .iload_n 1, 1, 0, 0, 0, m0),
   (28, .ireturn, 1, 0, 0, 0, m0)])]
theorem ok_Choir_allCoins : okBt m_Choir_allCoins bt_Choir_allCoins = true := by decide +kernel
set_option maxRecDepth 100000 in
theorem b_Choir_allCoins_0 {l : Launch} {E : EnvT} {d : Nat} {K : AV → Mem → Prop} {M : Mem} {r : Nat}  (hd : 1 ≤ d)
  (h : G l E d m_Choir_allCoins 4 [(0, (.ref r, 11)), (1, (.int (iN 0), 0)), (2, (.int (iN 0), 0))] [] M K) :
  G l E d m_Choir_allCoins 0 [(0, (.ref r, 11))] [] M K := G.blk 60 _ hd ok_Choir_allCoins rfl h
set_option maxRecDepth 100000 in
theorem b_Choir_allCoins_4 {l : Launch} {E : EnvT} {d : Nat} {K : AV → Mem → Prop} {M : Mem} {r : Nat} {x1 : Int32} {x2 : Int32} (hd : 1 ≤ d)
  (h : (((iN (M r 0 8)) ≤ x2 →
   K (.int x1, 0) M) ∧
  (¬ (iN (M r 0 8)) ≤ x2 →
   (vp_in x2 8 ∧ G l E d m_Choir_allCoins 4 [(0, (.ref r, 11)), (1, (.int (x1 + (iN (M r 2 (x2).toNatClampNeg))), 0)), (2, (.int (x2 + iN 1), 0))] [] M K)))) :
  G l E d m_Choir_allCoins 4 [(0, (.ref r, 11)), (1, (.int x1, 0)), (2, (.int x2, 0))] [] M K := G.blk 60 _ hd ok_Choir_allCoins rfl h
def bt_Choir_knows : BtT := [(0, [0, 1], true, [(0, .iload_n 1, 1, 0, 0, 0, m0),
   (1, .ifCond .lt 15, 3, 16, 0, 0, m0),
   (4, .nop, 0, 0, 0, 0, m0)]),
  (4, [], false, [(4, .iload_n 1, 1, 0, 0, 0, m0),
   (5, .aload_n 0, 1, 0, 0, 0, m0),
   (6, .getfield 41, 3, 8, 0, 280, m0),
   (9, .if_icmp .ge 7, 3, 16, 0, 0, m0),
   (12, .nop, 0, 0, 0, 0, m0)]),
  (12, [], false, [(12, .iconst 1, 1, 0, 0, 0, m0),
   (13, .goto 4, 3, 17, 0, 0, m0)]),
  (16, [], false, [(16, .iconst 0, 1, 0, 0, 0, m0),
   (17, .nop, 0, 0, 0, 0, m0)]),
  (17, [], false, [(17, .ireturn, 1, 0, 0, 0, m0)])]
theorem ok_Choir_knows : okBt m_Choir_knows bt_Choir_knows = true := by decide +kernel
set_option maxRecDepth 100000 in
theorem b_Choir_knows_0 {l : Launch} {E : EnvT} {d : Nat} {K : AV → Mem → Prop} {M : Mem} {r : Nat} {x1 : Int32} (hd : 1 ≤ d)
  (h : ((x1 < 0 →
   ((((iN 0) = 0 ∨ (iN 0) = 1)) ∧ K (.int (iN 0), 0) M)) ∧
  (¬ x1 < 0 →
   (((iN (M r 0 8)) ≤ x1 →
    ((((iN 0) = 0 ∨ (iN 0) = 1)) ∧ K (.int (iN 0), 0) M)) ∧
   (¬ (iN (M r 0 8)) ≤ x1 →
    ((((iN 1) = 0 ∨ (iN 1) = 1)) ∧ K (.int (iN 1), 0) M)))))) :
  G l E d m_Choir_knows 0 [(0, (.ref r, 11)), (1, (.int x1, 0))] [] M K := G.blk 60 _ hd ok_Choir_knows rfl h
def bt_Choir_oneIfIn : BtT := [(0, [0, 1], true, [(0, .iload_n 0, 1, 0, 0, 0, m0),
   (1, .iload_n 1, 1, 0, 0, 0, m0),
   (2, .ishr, 1, 0, 0, 0, m0),
   (3, .iconst 1, 1, 0, 0, 0, m0),
   (4, .iand, 1, 0, 0, 0, m0),
   (5, .ireturn, 1, 0, 0, 0, m0)])]
theorem ok_Choir_oneIfIn : okBt m_Choir_oneIfIn bt_Choir_oneIfIn = true := by decide +kernel
set_option maxRecDepth 100000 in
theorem b_Choir_oneIfIn_0 {l : Launch} {E : EnvT} {d : Nat} {K : AV → Mem → Prop} {M : Mem} {x0 : Int32} {x1 : Int32} (hd : 1 ≤ d)
  (h : K (.int ((x0 >>> (x1 &&& 31)) &&& (iN 1)), 0) M) :
  G l E d m_Choir_oneIfIn 0 [(0, (.int x0, 0)), (1, (.int x1, 0))] [] M K := G.blk 60 _ hd ok_Choir_oneIfIn rfl h
def bt_Choir_owesInAll : BtT := [(0, [0, 1], true, [(0, .iconst 0, 1, 0, 0, 0, m0),
   (1, .istore_n 2, 1, 0, 0, 0, m0),
   (2, .iconst 0, 1, 0, 0, 0, m0),
   (3, .istore_n 3, 1, 0, 0, 0, m0),
   (4, .nop, 0, 0, 0, 0, m0)]),
  (4, [0, 1, 2, 3], true, [(4, .iload_n 3, 1, 0, 0, 0, m0),
   (5, .bipush 48, 2, 0, 0, 0, m0),
   (7, .if_icmp .ge 28, 3, 35, 0, 0, m0),
   (10, .nop, 0, 0, 0, 0, m0)]),
  (10, [], false, [(10, .aload_n 0, 1, 0, 0, 0, m0),
   (11, .getfield 28, 3, 5, 0, 274, m0),
   (14, .iload_n 3, 1, 0, 0, 0, m0),
   (15, .iaload, 1, 0, 0, 0, m0),
   (16, .iload_n 1, 1, 0, 0, 0, m0),
   (17, .if_icmp .ne 12, 3, 29, 0, 0, m0),
   (20, .nop, 0, 0, 0, 0, m0)]),
  (20, [], false, [(20, .iload_n 2, 1, 0, 0, 0, m0),
   (21, .aload_n 0, 1, 0, 0, 0, m0),
   (22, .getfield 31, 3, 6, 0, 276, m0),
   (25, .iload_n 3, 1, 0, 0, 0, m0),
   (26, .iaload, 1, 0, 0, 0, m0),
   (27, .iadd, 1, 0, 0, 0, m0),
   (28, .istore_n 2, 1, 0, 0, 0, m0),
   (29, .nop, 0, 0, 0, 0, m0)]),
  (29, [], false, [(29, .iinc 3 1, 3, 0, 0, 0, m0),
   (32, .goto (-28), 3, 4, 0, 0, m0)]),
  (35, [], false, [(35, .iconst 0, 1, 0, 0, 0, m0),
   (36, .istore_n 3, 1, 0, 0, 0, m0),
   (37, .nop, 0, 0, 0, 0, m0)]),
  (37, [0, 1, 2, 3], true, [(37, .iload_n 3, 1, 0, 0, 0, m0),
   (38, .aload_n 0, 1, 0, 0, 0, m0),
   (39, .getfield 37, 3, 7, 0, 278, m0),
   (42, .getfield 72, 3, 3, 7, 250, m0),
   (45, .if_icmp .ge 34, 3, 79, 0, 0, m0),
   (48, .nop, 0, 0, 0, 0, m0)]),
  (48, [], false, [(48, .aload_n 0, 1, 0, 0, 0, m0),
   (49, .getfield 37, 3, 7, 0, 278, m0),
   (52, .getfield 119, 3, 0, 7, 242, m0),
   (55, .iload_n 3, 1, 0, 0, 0, m0),
   (56, .iaload, 1, 0, 0, 0, m0),
   (57, .iload_n 1, 1, 0, 0, 0, m0),
   (58, .if_icmp .ne 15, 3, 73, 0, 0, m0),
   (61, .nop, 0, 0, 0, 0, m0)]),
  (61, [], false, [(61, .iload_n 2, 1, 0, 0, 0, m0),
   (62, .aload_n 0, 1, 0, 0, 0, m0),
   (63, .getfield 37, 3, 7, 0, 278, m0),
   (66, .getfield 116, 3, 2, 7, 248, m0),
   (69, .iload_n 3, 1, 0, 0, 0, m0),
   (70, .iaload, 1, 0, 0, 0, m0),
   (71, .iadd, 1, 0, 0, 0, m0),
   (72, .istore_n 2, 1, 0, 0, 0, m0),
   (73, .nop, 0, 0, 0, 0, m0)]),
  (73, [], false, [(73, .iinc 3 1, 3, 0, 0, 0, m0),
   (76, .goto (-39), 3, 37, 0, 0, m0)]),
  (79, [], false, [(79, .iload_n 2, 1, 0, 0, 0, m0),
   (80, .ireturn, 1, 0, 0, 0, m0)])]
theorem ok_Choir_owesInAll : okBt m_Choir_owesInAll bt_Choir_owesInAll = true := by decide +kernel
set_option maxRecDepth 100000 in
theorem b_Choir_owesInAll_0 {l : Launch} {E : EnvT} {d : Nat} {K : AV → Mem → Prop} {M : Mem} {r : Nat} {x1 : Int32} (hd : 1 ≤ d)
  (h : G l E d m_Choir_owesInAll 4 [(0, (.ref r, 11)), (1, (.int x1, 0)), (2, (.int (iN 0), 0)), (3, (.int (iN 0), 0))] [] M K) :
  G l E d m_Choir_owesInAll 0 [(0, (.ref r, 11)), (1, (.int x1, 0))] [] M K := G.blk 60 _ hd ok_Choir_owesInAll rfl h
set_option maxRecDepth 100000 in
theorem b_Choir_owesInAll_4 {l : Launch} {E : EnvT} {d : Nat} {K : AV → Mem → Prop} {M : Mem} {r : Nat} {x1 : Int32} {x2 : Int32} {x3 : Int32} (hd : 1 ≤ d)
  (h : (((iN 48) ≤ x3 →
   G l E d m_Choir_owesInAll 37 [(0, (.ref r, 11)), (1, (.int x1, 0)), (2, (.int x2, 0)), (3, (.int (iN 0), 0))] [] M K) ∧
  (¬ (iN 48) ≤ x3 →
   (vp_in x3 48 ∧ ((¬ (iN (M r 6 (x3).toNatClampNeg)) = x1 →
    G l E d m_Choir_owesInAll 4 [(0, (.ref r, 11)), (1, (.int x1, 0)), (2, (.int x2, 0)), (3, (.int (x3 + iN 1), 0))] [] M K) ∧
   ((iN (M r 6 (x3).toNatClampNeg)) = x1 →
    (vp_in x3 48 ∧ G l E d m_Choir_owesInAll 4 [(0, (.ref r, 11)), (1, (.int x1, 0)), (2, (.int (x2 + (iN (M r 7 (x3).toNatClampNeg))), 0)), (3, (.int (x3 + iN 1), 0))] [] M K))))))) :
  G l E d m_Choir_owesInAll 4 [(0, (.ref r, 11)), (1, (.int x1, 0)), (2, (.int x2, 0)), (3, (.int x3, 0))] [] M K := G.blk 60 _ hd ok_Choir_owesInAll rfl h
set_option maxRecDepth 100000 in
theorem b_Choir_owesInAll_37 {l : Launch} {E : EnvT} {d : Nat} {K : AV → Mem → Prop} {M : Mem} {r : Nat} {x1 : Int32} {x2 : Int32} {x3 : Int32} (hd : 1 ≤ d)
  (h : (((iN (M r 8 3)) ≤ x3 →
   K (.int x2, 0) M) ∧
  (¬ (iN (M r 8 3)) ≤ x3 →
   (vp_in x3 8 ∧ ((¬ (iN (M r 9 (x3).toNatClampNeg)) = x1 →
    G l E d m_Choir_owesInAll 37 [(0, (.ref r, 11)), (1, (.int x1, 0)), (2, (.int x2, 0)), (3, (.int (x3 + iN 1), 0))] [] M K) ∧
   ((iN (M r 9 (x3).toNatClampNeg)) = x1 →
    (vp_in x3 8 ∧ G l E d m_Choir_owesInAll 37 [(0, (.ref r, 11)), (1, (.int x1, 0)), (2, (.int (x2 + (iN (M r 11 (x3).toNatClampNeg))), 0)), (3, (.int (x3 + iN 1), 0))] [] M K))))))) :
  G l E d m_Choir_owesInAll 37 [(0, (.ref r, 11)), (1, (.int x1, 0)), (2, (.int x2, 0)), (3, (.int x3, 0))] [] M K := G.blk 60 _ hd ok_Choir_owesInAll rfl h
def bt_Choir_isOwedInAll : BtT := [(0, [0, 1], true, [(0, .iconst 0, 1, 0, 0, 0, m0),
   (1, .istore_n 2, 1, 0, 0, 0, m0),
   (2, .iconst 0, 1, 0, 0, 0, m0),
   (3, .istore_n 3, 1, 0, 0, 0, m0),
   (4, .nop, 0, 0, 0, 0, m0)]),
  (4, [0, 1, 2, 3], true, [(4, .iload_n 3, 1, 0, 0, 0, m0),
   (5, .aload_n 0, 1, 0, 0, 0, m0),
   (6, .getfield 22, 3, 3, 0, 269, m0),
   (9, .iload_n 1, 1, 0, 0, 0, m0),
   (10, .iaload, 1, 0, 0, 0, m0),
   (11, .if_icmp .ge 22, 3, 33, 0, 0, m0),
   (14, .nop, 0, 0, 0, 0, m0)]),
  (14, [], false, [(14, .iload_n 2, 1, 0, 0, 0, m0),
   (15, .aload_n 0, 1, 0, 0, 0, m0),
   (16, .getfield 31, 3, 6, 0, 276, m0),
   (19, .iload_n 1, 1, 0, 0, 0, m0),
   (20, .iload_n 3, 1, 0, 0, 0, m0),
   (21, .invokestatic 89, 3, 0, 0, 760, m_Choir_slot),
   (24, .iaload, 1, 0, 0, 0, m0),
   (25, .iadd, 1, 0, 0, 0, m0),
   (26, .istore_n 2, 1, 0, 0, 0, m0),
   (27, .iinc 3 1, 3, 0, 0, 0, m0),
   (30, .goto (-26), 3, 4, 0, 0, m0)]),
  (33, [], false, [(33, .iconst 0, 1, 0, 0, 0, m0),
   (34, .istore_n 3, 1, 0, 0, 0, m0),
   (35, .nop, 0, 0, 0, 0, m0)]),
  (35, [0, 1, 2, 3], true, [(35, .iload_n 3, 1, 0, 0, 0, m0),
   (36, .aload_n 0, 1, 0, 0, 0, m0),
   (37, .getfield 37, 3, 7, 0, 278, m0),
   (40, .getfield 72, 3, 3, 7, 250, m0),
   (43, .if_icmp .ge 34, 3, 77, 0, 0, m0),
   (46, .nop, 0, 0, 0, 0, m0)]),
  (46, [], false, [(46, .aload_n 0, 1, 0, 0, 0, m0),
   (47, .getfield 37, 3, 7, 0, 278, m0),
   (50, .getfield 122, 3, 1, 7, 245, m0),
   (53, .iload_n 3, 1, 0, 0, 0, m0),
   (54, .iaload, 1, 0, 0, 0, m0),
   (55, .iload_n 1, 1, 0, 0, 0, m0),
   (56, .if_icmp .ne 15, 3, 71, 0, 0, m0),
   (59, .nop, 0, 0, 0, 0, m0)]),
  (59, [], false, [(59, .iload_n 2, 1, 0, 0, 0, m0),
   (60, .aload_n 0, 1, 0, 0, 0, m0),
   (61, .getfield 37, 3, 7, 0, 278, m0),
   (64, .getfield 116, 3, 2, 7, 248, m0),
   (67, .iload_n 3, 1, 0, 0, 0, m0),
   (68, .iaload, 1, 0, 0, 0, m0),
   (69, .iadd, 1, 0, 0, 0, m0),
   (70, .istore_n 2, 1, 0, 0, 0, m0),
   (71, .nop, 0, 0, 0, 0, m0)]),
  (71, [], false, [(71, .iinc 3 1, 3, 0, 0, 0, m0),
   (74, .goto (-39), 3, 35, 0, 0, m0)]),
  (77, [], false, [(77, .iload_n 2, 1, 0, 0, 0, m0),
   (78, .ireturn, 1, 0, 0, 0, m0)])]
theorem ok_Choir_isOwedInAll : okBt m_Choir_isOwedInAll bt_Choir_isOwedInAll = true := by decide +kernel
set_option maxRecDepth 100000 in
theorem b_Choir_isOwedInAll_0 {l : Launch} {E : EnvT} {d : Nat} {K : AV → Mem → Prop} {M : Mem} {r : Nat} {x1 : Int32} (hd : 1 ≤ d)
  (h : G l E d m_Choir_isOwedInAll 4 [(0, (.ref r, 11)), (1, (.int x1, 0)), (2, (.int (iN 0), 0)), (3, (.int (iN 0), 0))] [] M K) :
  G l E d m_Choir_isOwedInAll 0 [(0, (.ref r, 11)), (1, (.int x1, 0))] [] M K := G.blk 60 _ hd ok_Choir_isOwedInAll rfl h
set_option maxRecDepth 100000 in
theorem b_Choir_isOwedInAll_4 {l : Launch} {E : EnvT} {d : Nat} {K : AV → Mem → Prop} {M : Mem} {r : Nat} {x1 : Int32} {x2 : Int32} {x3 : Int32} (hd : 1 ≤ d)
  (h : (vp_in x1 8 ∧ (((iN (M r 4 (x1).toNatClampNeg)) ≤ x3 →
   G l E d m_Choir_isOwedInAll 35 [(0, (.ref r, 11)), (1, (.int x1, 0)), (2, (.int x2, 0)), (3, (.int (iN 0), 0))] [] M K) ∧
  (¬ (iN (M r 4 (x1).toNatClampNeg)) ≤ x3 →
   CT l E (d - 1) m_Choir_slot [(.int x1, 0), (.int x3, 0)] M (fun v1 M1 =>
    (vp_in (toI v1) 48 ∧ G l E d m_Choir_isOwedInAll 4 [(0, (.ref r, 11)), (1, (.int x1, 0)), (2, (.int (x2 + (iN (M1 r 7 ((toI v1)).toNatClampNeg))), 0)), (3, (.int (x3 + iN 1), 0))] [] M1 K)))))) :
  G l E d m_Choir_isOwedInAll 4 [(0, (.ref r, 11)), (1, (.int x1, 0)), (2, (.int x2, 0)), (3, (.int x3, 0))] [] M K := G.blk 60 _ hd ok_Choir_isOwedInAll rfl h
set_option maxRecDepth 100000 in
theorem b_Choir_isOwedInAll_35 {l : Launch} {E : EnvT} {d : Nat} {K : AV → Mem → Prop} {M : Mem} {r : Nat} {x1 : Int32} {x2 : Int32} {x3 : Int32} (hd : 1 ≤ d)
  (h : (((iN (M r 8 3)) ≤ x3 →
   K (.int x2, 0) M) ∧
  (¬ (iN (M r 8 3)) ≤ x3 →
   (vp_in x3 8 ∧ ((¬ (iN (M r 10 (x3).toNatClampNeg)) = x1 →
    G l E d m_Choir_isOwedInAll 35 [(0, (.ref r, 11)), (1, (.int x1, 0)), (2, (.int x2, 0)), (3, (.int (x3 + iN 1), 0))] [] M K) ∧
   ((iN (M r 10 (x3).toNatClampNeg)) = x1 →
    (vp_in x3 8 ∧ G l E d m_Choir_isOwedInAll 35 [(0, (.ref r, 11)), (1, (.int x1, 0)), (2, (.int (x2 + (iN (M r 11 (x3).toNatClampNeg))), 0)), (3, (.int (x3 + iN 1), 0))] [] M K))))))) :
  G l E d m_Choir_isOwedInAll 35 [(0, (.ref r, 11)), (1, (.int x1, 0)), (2, (.int x2, 0)), (3, (.int x3, 0))] [] M K := G.blk 60 _ hd ok_Choir_isOwedInAll rfl h
def bt_Choir_hasNote : BtT := [(0, [0, 1, 2], true, [(0, .iload_n 2, 1, 0, 0, 0, m0),
   (1, .ifCond .lt 17, 3, 18, 0, 0, m0),
   (4, .nop, 0, 0, 0, 0, m0)]),
  (4, [], false, [(4, .iload_n 2, 1, 0, 0, 0, m0),
   (5, .aload_n 0, 1, 0, 0, 0, m0),
   (6, .getfield 22, 3, 3, 0, 269, m0),
   (9, .iload_n 1, 1, 0, 0, 0, m0),
   (10, .iaload, 1, 0, 0, 0, m0),
   (11, .if_icmp .ge 7, 3, 18, 0, 0, m0),
   (14, .nop, 0, 0, 0, 0, m0)]),
  (14, [], false, [(14, .iconst 1, 1, 0, 0, 0, m0),
   (15, .goto 4, 3, 19, 0, 0, m0)]),
  (18, [], false, [(18, .iconst 0, 1, 0, 0, 0, m0),
   (19, .nop, 0, 0, 0, 0, m0)]),
  (19, [], false, [(19, .ireturn, 1, 0, 0, 0, m0)])]
theorem ok_Choir_hasNote : okBt m_Choir_hasNote bt_Choir_hasNote = true := by decide +kernel
set_option maxRecDepth 100000 in
theorem b_Choir_hasNote_0 {l : Launch} {E : EnvT} {d : Nat} {K : AV → Mem → Prop} {M : Mem} {r : Nat} {x1 : Int32} {x2 : Int32} (hd : 1 ≤ d)
  (h : ((x2 < 0 →
   ((((iN 0) = 0 ∨ (iN 0) = 1)) ∧ K (.int (iN 0), 0) M)) ∧
  (¬ x2 < 0 →
   (vp_in x1 8 ∧ (((iN (M r 4 (x1).toNatClampNeg)) ≤ x2 →
    ((((iN 0) = 0 ∨ (iN 0) = 1)) ∧ K (.int (iN 0), 0) M)) ∧
   (¬ (iN (M r 4 (x1).toNatClampNeg)) ≤ x2 →
    ((((iN 1) = 0 ∨ (iN 1) = 1)) ∧ K (.int (iN 1), 0) M))))))) :
  G l E d m_Choir_hasNote 0 [(0, (.ref r, 11)), (1, (.int x1, 0)), (2, (.int x2, 0))] [] M K := G.blk 60 _ hd ok_Choir_hasNote rfl h
def bt_Choir_debtAtNote : BtT := [(0, [0, 1, 2], true, [(0, .aload_n 0, 1, 0, 0, 0, m0),
   (1, .iload_n 1, 1, 0, 0, 0, m0),
   (2, .iload_n 2, 1, 0, 0, 0, m0),
   (3, .invokevirtual 107, 3, 0, 0, 798, m_Choir_slotOf),
   (6, .istore_n 3, 1, 0, 0, 0, m0),
   (7, .iload_n 3, 1, 0, 0, 0, m0),
   (8, .iconst (-1), 1, 0, 0, 0, m0),
   (9, .if_icmp .ne 7, 3, 16, 0, 0, m0),
   (12, .nop, 0, 0, 0, 0, m0)]),
  (12, [], false, [(12, .iconst 0, 1, 0, 0, 0, m0),
   (13, .goto 9, 3, 22, 0, 0, m0)]),
  (16, [], false, [(16, .aload_n 0, 1, 0, 0, 0, m0),
   (17, .getfield 31, 3, 6, 0, 276, m0),
   (20, .iload_n 3, 1, 0, 0, 0, m0),
   (21, .iaload, 1, 0, 0, 0, m0),
   (22, .nop, 0, 0, 0, 0, m0)]),
  (22, [], false, [(22, .ireturn, 1, 0, 0, 0, m0)])]
theorem ok_Choir_debtAtNote : okBt m_Choir_debtAtNote bt_Choir_debtAtNote = true := by decide +kernel
set_option maxRecDepth 100000 in
theorem b_Choir_debtAtNote_0 {l : Launch} {E : EnvT} {d : Nat} {K : AV → Mem → Prop} {M : Mem} {r : Nat} {x1 : Int32} {x2 : Int32} (hd : 1 ≤ d)
  (h : CT l E (d - 1) m_Choir_slotOf [(.ref r, 11), (.int x1, 0), (.int x2, 0)] M (fun v1 M1 =>
   ((¬ (toI v1) = (iN (-1)) →
    (vp_in (toI v1) 48 ∧ K (.int (iN (M1 r 7 ((toI v1)).toNatClampNeg)), 0) M1)) ∧
   ((toI v1) = (iN (-1)) →
    K (.int (iN 0), 0) M1)))) :
  G l E d m_Choir_debtAtNote 0 [(0, (.ref r, 11)), (1, (.int x1, 0)), (2, (.int x2, 0))] [] M K := G.blk 60 _ hd ok_Choir_debtAtNote rfl h
def bt_Choir_owedBetween : BtT := [(0, [0, 1, 2], true, [(0, .aload_n 0, 1, 0, 0, 0, m0),
   (1, .getfield 37, 3, 7, 0, 278, m0),
   (4, .iload_n 1, 1, 0, 0, 0, m0),
   (5, .iload_n 2, 1, 0, 0, 0, m0),
   (6, .invokevirtual 110, 3, 0, 0, 802, m_Waiting_placeOf),
   (9, .istore_n 3, 1, 0, 0, 0, m0),
   (10, .aload_n 0, 1, 0, 0, 0, m0),
   (11, .iload_n 1, 1, 0, 0, 0, m0),
   (12, .iload_n 2, 1, 0, 0, 0, m0),
   (13, .invokevirtual 113, 3, 0, 0, 987, m_Choir_debtAtNote),
   (16, .iload_n 3, 1, 0, 0, 0, m0),
   (17, .iconst (-1), 1, 0, 0, 0, m0),
   (18, .if_icmp .ne 7, 3, 25, 0, 0, m0),
   (21, .nop, 0, 0, 0, 0, m0)]),
  (21, [], false, [(21, .iconst 0, 1, 0, 0, 0, m0),
   (22, .goto 12, 3, 34, 0, 0, m0)]),
  (25, [], false, [(25, .aload_n 0, 1, 0, 0, 0, m0),
   (26, .getfield 37, 3, 7, 0, 278, m0),
   (29, .getfield 116, 3, 2, 7, 248, m0),
   (32, .iload_n 3, 1, 0, 0, 0, m0),
   (33, .iaload, 1, 0, 0, 0, m0),
   (34, .nop, 0, 0, 0, 0, m0)]),
  (34, [], false, [(34, .iadd, 1, 0, 0, 0, m0),
   (35, .ireturn, 1, 0, 0, 0, m0)])]
theorem ok_Choir_owedBetween : okBt m_Choir_owedBetween bt_Choir_owedBetween = true := by decide +kernel
set_option maxRecDepth 100000 in
theorem b_Choir_owedBetween_0 {l : Launch} {E : EnvT} {d : Nat} {K : AV → Mem → Prop} {M : Mem} {r : Nat} {x1 : Int32} {x2 : Int32} (hd : 1 ≤ d)
  (h : CT l E (d - 1) m_Waiting_placeOf [(.ref r, 19), (.int x1, 0), (.int x2, 0)] M (fun v1 M1 =>
   CT l E (d - 1) m_Choir_debtAtNote [(.ref r, 11), (.int x1, 0), (.int x2, 0)] M1 (fun v2 M2 =>
    ((¬ (toI v1) = (iN (-1)) →
     (vp_in (toI v1) 8 ∧ K (.int ((toI v2) + (iN (M2 r 11 ((toI v1)).toNatClampNeg))), 0) M2)) ∧
    ((toI v1) = (iN (-1)) →
     K (.int ((toI v2) + (iN 0)), 0) M2))))) :
  G l E d m_Choir_owedBetween 0 [(0, (.ref r, 11)), (1, (.int x1, 0)), (2, (.int x2, 0))] [] M K := G.blk 60 _ hd ok_Choir_owedBetween rfl h
def bt_Choir_lives : BtT := [(0, [0, 1], true, [(0, .iload_n 1, 1, 0, 0, 0, m0),
   (1, .ifCond .lt 26, 3, 27, 0, 0, m0),
   (4, .nop, 0, 0, 0, 0, m0)]),
  (4, [], false, [(4, .iload_n 1, 1, 0, 0, 0, m0),
   (5, .aload_n 0, 1, 0, 0, 0, m0),
   (6, .getfield 41, 3, 8, 0, 280, m0),
   (9, .if_icmp .ge 18, 3, 27, 0, 0, m0),
   (12, .nop, 0, 0, 0, 0, m0)]),
  (12, [], false, [(12, .aload_n 0, 1, 0, 0, 0, m0),
   (13, .getfield 54, 3, 12, 0, 293, m0),
   (16, .iload_n 1, 1, 0, 0, 0, m0),
   (17, .ishr, 1, 0, 0, 0, m0),
   (18, .iconst 1, 1, 0, 0, 0, m0),
   (19, .iand, 1, 0, 0, 0, m0),
   (20, .ifCond .ne 7, 3, 27, 0, 0, m0),
   (23, .nop, 0, 0, 0, 0, m0)]),
  (23, [], false, [(23, .iconst 1, 1, 0, 0, 0, m0),
   (24, .goto 4, 3, 28, 0, 0, m0)]),
  (27, [], false, [(27, .iconst 0, 1, 0, 0, 0, m0),
   (28, .nop, 0, 0, 0, 0, m0)]),
  (28, [], false, [(28, .ireturn, 1, 0, 0, 0, m0)])]
theorem ok_Choir_lives : okBt m_Choir_lives bt_Choir_lives = true := by decide +kernel
set_option maxRecDepth 100000 in
theorem b_Choir_lives_0 {l : Launch} {E : EnvT} {d : Nat} {K : AV → Mem → Prop} {M : Mem} {r : Nat} {x1 : Int32} (hd : 1 ≤ d)
  (h : ((x1 < 0 →
   ((((iN 0) = 0 ∨ (iN 0) = 1)) ∧ K (.int (iN 0), 0) M)) ∧
  (¬ x1 < 0 →
   (((iN (M r 0 8)) ≤ x1 →
    ((((iN 0) = 0 ∨ (iN 0) = 1)) ∧ K (.int (iN 0), 0) M)) ∧
   (¬ (iN (M r 0 8)) ≤ x1 →
    ((¬ (((iN (M r 0 12)) >>> (x1 &&& 31)) &&& (iN 1)) = 0 →
     ((((iN 0) = 0 ∨ (iN 0) = 1)) ∧ K (.int (iN 0), 0) M)) ∧
    ((((iN (M r 0 12)) >>> (x1 &&& 31)) &&& (iN 1)) = 0 →
     ((((iN 1) = 0 ∨ (iN 1) = 1)) ∧ K (.int (iN 1), 0) M)))))))) :
  G l E d m_Choir_lives 0 [(0, (.ref r, 11)), (1, (.int x1, 0))] [] M K := G.blk 60 _ hd ok_Choir_lives rfl h
end
section
def bt_Choir_sungAt : BtT := [(0, [0, 1, 2], true, [(0, .iload_n 1, 1, 0, 0, 0, m0),
   (1, .iload_n 2, 1, 0, 0, 0, m0),
   (2, .invokestatic 89, 3, 0, 0, 760, m_Choir_slot),
   (5, .istore_n 3, 1, 0, 0, 0, m0),
   (6, .aload_n 0, 1, 0, 0, 0, m0),
   (7, .getfield 25, 3, 4, 0, 272, m0),
   (10, .iload_n 3, 1, 0, 0, 0, m0),
   (11, .iaload, 1, 0, 0, 0, m0),
   (12, .aload_n 0, 1, 0, 0, 0, m0),
   (13, .getfield 31, 3, 6, 0, 276, m0),
   (16, .iload_n 3, 1, 0, 0, 0, m0),
   (17, .iaload, 1, 0, 0, 0, m0),
   (18, .iadd, 1, 0, 0, 0, m0),
   (19, .aload_n 0, 1, 0, 0, 0, m0),
   (20, .getfield 45, 3, 9, 0, 284, m0),
   (23, .iload_n 1, 1, 0, 0, 0, m0),
   (24, .invokestatic 103, 3, 0, 0, 924, m_Choir_isIn),
   (27, .ifCond .eq 8, 3, 35, 0, 0, m0),
   (30, .nop, 0, 0, 0, 0, m0)]),
  (30, [], false, [(30, .bipush 12, 2, 0, 0, 0, m0),
   (32, .goto 4, 3, 36, 0, 0, m0)]),
  (35, [], false, [(35, .iconst 0, 1, 0, 0, 0, m0),
   (36, .nop, 0, 0, 0, 0, m0)]),
  (36, [], false, [(36, .isub, 1, 0, 0, 0, m0),
   (37, .ireturn, 1, 0, 0, 0, m0)])]
theorem ok_Choir_sungAt : okBt m_Choir_sungAt bt_Choir_sungAt = true := by decide +kernel
set_option maxRecDepth 100000 in
theorem b_Choir_sungAt_0 {l : Launch} {E : EnvT} {d : Nat} {K : AV → Mem → Prop} {M : Mem} {r : Nat} {x1 : Int32} {x2 : Int32} (hd : 1 ≤ d)
  (h : CT l E (d - 1) m_Choir_slot [(.int x1, 0), (.int x2, 0)] M (fun v1 M1 =>
   (vp_in (toI v1) 48 ∧ vp_in (toI v1) 48 ∧ CT l E (d - 1) m_Choir_isIn [(.int (iN (M1 r 0 9)), 0), (.int x1, 0)] M1 (fun v2 M2 =>
    (((toI v2) = 0 →
     K (.int (((iN (M1 r 5 ((toI v1)).toNatClampNeg)) + (iN (M1 r 7 ((toI v1)).toNatClampNeg))) - (iN 0)), 0) M2) ∧
    (¬ (toI v2) = 0 →
     K (.int (((iN (M1 r 5 ((toI v1)).toNatClampNeg)) + (iN (M1 r 7 ((toI v1)).toNatClampNeg))) - (iN 12)), 0) M2)))))) :
  G l E d m_Choir_sungAt 0 [(0, (.ref r, 11)), (1, (.int x1, 0)), (2, (.int x2, 0))] [] M K := G.blk 60 _ hd ok_Choir_sungAt rfl h
def bt_Choir_areTwo : BtT := [(0, [0, 1, 2], true, [(0, .aload_n 0, 1, 0, 0, 0, m0),
   (1, .iload_n 1, 1, 0, 0, 0, m0),
   (2, .invokevirtual 93, 3, 0, 0, 1023, m_Choir_lives),
   (5, .ifCond .eq 20, 3, 25, 0, 0, m0),
   (8, .nop, 0, 0, 0, 0, m0)]),
  (8, [], false, [(8, .aload_n 0, 1, 0, 0, 0, m0),
   (9, .iload_n 2, 1, 0, 0, 0, m0),
   (10, .invokevirtual 93, 3, 0, 0, 1023, m_Choir_lives),
   (13, .ifCond .eq 12, 3, 25, 0, 0, m0),
   (16, .nop, 0, 0, 0, 0, m0)]),
  (16, [], false, [(16, .iload_n 1, 1, 0, 0, 0, m0),
   (17, .iload_n 2, 1, 0, 0, 0, m0),
   (18, .if_icmp .eq 7, 3, 25, 0, 0, m0),
   (21, .nop, 0, 0, 0, 0, m0)]),
  (21, [], false, [(21, .iconst 1, 1, 0, 0, 0, m0),
   (22, .goto 4, 3, 26, 0, 0, m0)]),
  (25, [], false, [(25, .iconst 0, 1, 0, 0, 0, m0),
   (26, .nop, 0, 0, 0, 0, m0)]),
  (26, [], false, [(26, .ireturn, 1, 0, 0, 0, m0)])]
theorem ok_Choir_areTwo : okBt m_Choir_areTwo bt_Choir_areTwo = true := by decide +kernel
set_option maxRecDepth 100000 in
theorem b_Choir_areTwo_0 {l : Launch} {E : EnvT} {d : Nat} {K : AV → Mem → Prop} {M : Mem} {r : Nat} {x1 : Int32} {x2 : Int32} (hd : 1 ≤ d)
  (h : CT l E (d - 1) m_Choir_lives [(.ref r, 11), (.int x1, 0)] M (fun v1 M1 =>
   (((toI v1) = 0 →
    ((((iN 0) = 0 ∨ (iN 0) = 1)) ∧ K (.int (iN 0), 0) M1)) ∧
   (¬ (toI v1) = 0 →
    CT l E (d - 1) m_Choir_lives [(.ref r, 11), (.int x2, 0)] M1 (fun v2 M2 =>
     (((toI v2) = 0 →
      ((((iN 0) = 0 ∨ (iN 0) = 1)) ∧ K (.int (iN 0), 0) M2)) ∧
     (¬ (toI v2) = 0 →
      ((x1 = x2 →
       ((((iN 0) = 0 ∨ (iN 0) = 1)) ∧ K (.int (iN 0), 0) M2)) ∧
      (¬ x1 = x2 →
       ((((iN 1) = 0 ∨ (iN 1) = 1)) ∧ K (.int (iN 1), 0) M2)))))))))) :
  G l E d m_Choir_areTwo 0 [(0, (.ref r, 11)), (1, (.int x1, 0)), (2, (.int x2, 0))] [] M K := G.blk 60 _ hd ok_Choir_areTwo rfl h
def bt_Choir_lendCoins : BtT := [(0, [0, 1, 2, 3], true, [(0, .aload_n 0, 1, 0, 0, 0, m0),
   (1, .iload_n 1, 1, 0, 0, 0, m0),
   (2, .iload_n 2, 1, 0, 0, 0, m0),
   (3, .invokevirtual 158, 3, 0, 0, 1028, m_Choir_areTwo),
   (6, .ifCond .eq 38, 3, 44, 0, 0, m0),
   (9, .nop, 0, 0, 0, 0, m0)]),
  (9, [], false, [(9, .aload_n 0, 1, 0, 0, 0, m0),
   (10, .getfield 51, 3, 11, 0, 290, m0),
   (13, .iload_n 2, 1, 0, 0, 0, m0),
   (14, .invokestatic 103, 3, 0, 0, 924, m_Choir_isIn),
   (17, .ifCond .ne 27, 3, 44, 0, 0, m0),
   (20, .nop, 0, 0, 0, 0, m0)]),
  (20, [], false, [(20, .aload_n 0, 1, 0, 0, 0, m0),
   (21, .getfield 15, 3, 1, 0, 263, m0),
   (24, .iload_n 1, 1, 0, 0, 0, m0),
   (25, .iaload, 1, 0, 0, 0, m0),
   (26, .iload_n 3, 1, 0, 0, 0, m0),
   (27, .if_icmp .lt 17, 3, 44, 0, 0, m0),
   (30, .nop, 0, 0, 0, 0, m0)]),
  (30, [], false, [(30, .aload_n 0, 1, 0, 0, 0, m0),
   (31, .getfield 15, 3, 1, 0, 263, m0),
   (34, .iload_n 2, 1, 0, 0, 0, m0),
   (35, .iaload, 1, 0, 0, 0, m0),
   (36, .iload_n 3, 1, 0, 0, 0, m0),
   (37, .iadd, 1, 0, 0, 0, m0),
   (38, .sipush 9999, 3, 0, 0, 0, m0),
   (41, .if_icmp .le 5, 3, 46, 0, 0, m0),
   (44, .nop, 0, 0, 0, 0, m0)]),
  (44, [], false, [(44, .iconst 0, 1, 0, 0, 0, m0),
   (45, .ireturn, 1, 0, 0, 0, m0)]),
  (46, [], false, [(46, .aload_n 0, 1, 0, 0, 0, m0),
   (47, .iload_n 2, 1, 0, 0, 0, m0),
   (48, .iload_n 1, 1, 0, 0, 0, m0),
   (49, .iload_n 3, 1, 0, 0, 0, m0),
   (50, .invokevirtual 161, 3, 0, 0, 1029, m_Choir_owe),
   (53, .ifCond .ne 5, 3, 58, 0, 0, m0),
   (56, .nop, 0, 0, 0, 0, m0)]),
  (56, [], false, [(56, .iconst 0, 1, 0, 0, 0, m0),
   (57, .ireturn, 1, 0, 0, 0, m0)]),
  (58, [], false, [(58, .aload_n 0, 1, 0, 0, 0, m0),
   (59, .getfield 15, 3, 1, 0, 263, m0),
   (62, .iload_n 1, 1, 0, 0, 0, m0),
   (63, .dup2, 1, 0, 0, 0, m0),
   (64, .iaload, 1, 0, 0, 0, m0),
   (65, .iload_n 3, 1, 0, 0, 0, m0),
   (66, .isub, 1, 0, 0, 0, m0),
   (67, .iastore, 1, 0, 0, 0, m0),
   (68, .aload_n 0, 1, 0, 0, 0, m0),
   (69, .getfield 15, 3, 1, 0, 263, m0),
   (72, .iload_n 2, 1, 0, 0, 0, m0),
   (73, .dup2, 1, 0, 0, 0, m0),
   (74, .iaload, 1, 0, 0, 0, m0),
   (75, .iload_n 3, 1, 0, 0, 0, m0),
   (76, .iadd, 1, 0, 0, 0, m0),
   (77, .iastore, 1, 0, 0, 0, m0),
   (78, .iconst 1, 1, 0, 0, 0, m0),
   (79, .ireturn, 1, 0, 0, 0, m0)])]
theorem ok_Choir_lendCoins : okBt m_Choir_lendCoins bt_Choir_lendCoins = true := by decide +kernel
set_option maxRecDepth 100000 in
theorem b_Choir_lendCoins_0 {l : Launch} {E : EnvT} {d : Nat} {K : AV → Mem → Prop} {M : Mem} {r : Nat} {x1 : Int32} {x2 : Int32} {x3 : Int32} (hd : 1 ≤ d)
  (h : CT l E (d - 1) m_Choir_areTwo [(.ref r, 11), (.int x1, 0), (.int x2, 0)] M (fun v1 M1 =>
   (((toI v1) = 0 →
    ((((iN 0) = 0 ∨ (iN 0) = 1)) ∧ K (.int (iN 0), 0) M1)) ∧
   (¬ (toI v1) = 0 →
    CT l E (d - 1) m_Choir_isIn [(.int (iN (M1 r 0 11)), 0), (.int x2, 0)] M1 (fun v2 M2 =>
     ((¬ (toI v2) = 0 →
      ((((iN 0) = 0 ∨ (iN 0) = 1)) ∧ K (.int (iN 0), 0) M2)) ∧
     ((toI v2) = 0 →
      (vp_in x1 8 ∧ (((iN (M2 r 2 (x1).toNatClampNeg)) < x3 →
       ((((iN 0) = 0 ∨ (iN 0) = 1)) ∧ K (.int (iN 0), 0) M2)) ∧
      (¬ (iN (M2 r 2 (x1).toNatClampNeg)) < x3 →
       (vp_in x2 8 ∧ ((((iN (M2 r 2 (x2).toNatClampNeg)) + x3) ≤ (iN 9999) →
        CT l E (d - 1) m_Choir_owe [(.ref r, 11), (.int x2, 0), (.int x1, 0), (.int x3, 0)] M2 (fun v3 M3 =>
         ((¬ (toI v3) = 0 →
          (vp_in x1 8 ∧ vp_in x1 8 ∧ vp_in x2 8 ∧ vp_in x2 8 ∧ (((iN 1) = 0 ∨ (iN 1) = 1)) ∧ K (.int (iN 1), 0) (upd3 (upd3 M3 r 2 (x1).toNatClampNeg (((iN (M3 r 2 (x1).toNatClampNeg)) - x3)).toInt) r 2 (x2).toNatClampNeg (((iN ((upd3 M3 r 2 (x1).toNatClampNeg (((iN (M3 r 2 (x1).toNatClampNeg)) - x3)).toInt) r 2 (x2).toNatClampNeg)) + x3)).toInt))) ∧
         ((toI v3) = 0 →
          ((((iN 0) = 0 ∨ (iN 0) = 1)) ∧ K (.int (iN 0), 0) M3))))) ∧
       (¬ ((iN (M2 r 2 (x2).toNatClampNeg)) + x3) ≤ (iN 9999) →
        ((((iN 0) = 0 ∨ (iN 0) = 1)) ∧ K (.int (iN 0), 0) M2)))))))))))))) :
  G l E d m_Choir_lendCoins 0 [(0, (.ref r, 11)), (1, (.int x1, 0)), (2, (.int x2, 0)), (3, (.int x3, 0))] [] M K := G.blk 60 _ hd ok_Choir_lendCoins rfl h
def bt_Choir_handOver : BtT := [(0, [0, 1, 2, 3], true, [(0, .aload_n 0, 1, 0, 0, 0, m0),
   (1, .getfield 15, 3, 1, 0, 263, m0),
   (4, .iload_n 1, 1, 0, 0, 0, m0),
   (5, .dup2, 1, 0, 0, 0, m0),
   (6, .iaload, 1, 0, 0, 0, m0),
   (7, .iload_n 3, 1, 0, 0, 0, m0),
   (8, .isub, 1, 0, 0, 0, m0),
   (9, .iastore, 1, 0, 0, 0, m0),
   (10, .aload_n 0, 1, 0, 0, 0, m0),
   (11, .getfield 15, 3, 1, 0, 263, m0),
   (14, .iload_n 2, 1, 0, 0, 0, m0),
   (15, .dup2, 1, 0, 0, 0, m0),
   (16, .iaload, 1, 0, 0, 0, m0),
   (17, .iload_n 3, 1, 0, 0, 0, m0),
   (18, .iadd, 1, 0, 0, 0, m0),
   (19, .iastore, 1, 0, 0, 0, m0),
   (20, .aload_n 0, 1, 0, 0, 0, m0),
   (21, .dup, 1, 0, 0, 0, m0),
   (22, .getfield 63, 3, 15, 0, 301, m0),
   (25, .iload_n 3, 1, 0, 0, 0, m0),
   (26, .iadd, 1, 0, 0, 0, m0),
   (27, .putfield 63, 3, 15, 0, 301, m0),
   (30, .return_, 1, 0, 0, 0, m0)])]
theorem ok_Choir_handOver : okBt m_Choir_handOver bt_Choir_handOver = true := by decide +kernel
set_option maxRecDepth 100000 in
theorem b_Choir_handOver_0 {l : Launch} {E : EnvT} {d : Nat} {K : AV → Mem → Prop} {M : Mem} {r : Nat} {x1 : Int32} {x2 : Int32} {x3 : Int32} (hd : 1 ≤ d)
  (h : (vp_in x1 8 ∧ vp_in x1 8 ∧ vp_in x2 8 ∧ vp_in x2 8 ∧ K (.null, 0) (upd3 (upd3 (upd3 M r 2 (x1).toNatClampNeg (((iN (M r 2 (x1).toNatClampNeg)) - x3)).toInt) r 2 (x2).toNatClampNeg (((iN ((upd3 M r 2 (x1).toNatClampNeg (((iN (M r 2 (x1).toNatClampNeg)) - x3)).toInt) r 2 (x2).toNatClampNeg)) + x3)).toInt) r 0 15 (((iN ((upd3 (upd3 M r 2 (x1).toNatClampNeg (((iN (M r 2 (x1).toNatClampNeg)) - x3)).toInt) r 2 (x2).toNatClampNeg (((iN ((upd3 M r 2 (x1).toNatClampNeg (((iN (M r 2 (x1).toNatClampNeg)) - x3)).toInt) r 2 (x2).toNatClampNeg)) + x3)).toInt) r 0 15)) + x3)).toInt))) :
  G l E d m_Choir_handOver 0 [(0, (.ref r, 11)), (1, (.int x1, 0)), (2, (.int x2, 0)), (3, (.int x3, 0))] [] M K := G.blk 60 _ hd ok_Choir_handOver rfl h
def bt_Choir_takeOff : BtT := [(0, [0, 1, 2], true, [(0, .aload_n 0, 1, 0, 0, 0, m0),
   (1, .getfield 31, 3, 6, 0, 276, m0),
   (4, .iload_n 1, 1, 0, 0, 0, m0),
   (5, .dup2, 1, 0, 0, 0, m0),
   (6, .iaload, 1, 0, 0, 0, m0),
   (7, .iload_n 2, 1, 0, 0, 0, m0),
   (8, .isub, 1, 0, 0, 0, m0),
   (9, .iastore, 1, 0, 0, 0, m0),
   (10, .aload_n 0, 1, 0, 0, 0, m0),
   (11, .getfield 31, 3, 6, 0, 276, m0),
   (14, .iload_n 1, 1, 0, 0, 0, m0),
   (15, .iaload, 1, 0, 0, 0, m0),
   (16, .ifCond .ne 10, 3, 26, 0, 0, m0),
   (19, .nop, 0, 0, 0, 0, m0)]),
  (19, [], false, [(19, .aload_n 0, 1, 0, 0, 0, m0),
   (20, .getfield 28, 3, 5, 0, 274, m0),
   (23, .iload_n 1, 1, 0, 0, 0, m0),
   (24, .iconst (-1), 1, 0, 0, 0, m0),
   (25, .iastore, 1, 0, 0, 0, m0),
   (26, .nop, 0, 0, 0, 0, m0)]),
  (26, [], false, [(26, .return_, 1, 0, 0, 0, m0)])]
theorem ok_Choir_takeOff : okBt m_Choir_takeOff bt_Choir_takeOff = true := by decide +kernel
set_option maxRecDepth 100000 in
theorem b_Choir_takeOff_0 {l : Launch} {E : EnvT} {d : Nat} {K : AV → Mem → Prop} {M : Mem} {r : Nat} {x1 : Int32} {x2 : Int32} (hd : 1 ≤ d)
  (h : (vp_in x1 48 ∧ vp_in x1 48 ∧ vp_in x1 48 ∧ ((¬ (iN ((upd3 M r 7 (x1).toNatClampNeg (((iN (M r 7 (x1).toNatClampNeg)) - x2)).toInt) r 7 (x1).toNatClampNeg)) = 0 →
   K (.null, 0) (upd3 M r 7 (x1).toNatClampNeg (((iN (M r 7 (x1).toNatClampNeg)) - x2)).toInt)) ∧
  ((iN ((upd3 M r 7 (x1).toNatClampNeg (((iN (M r 7 (x1).toNatClampNeg)) - x2)).toInt) r 7 (x1).toNatClampNeg)) = 0 →
   (vp_in x1 48 ∧ K (.null, 0) (upd3 (upd3 M r 7 (x1).toNatClampNeg (((iN (M r 7 (x1).toNatClampNeg)) - x2)).toInt) r 6 (x1).toNatClampNeg ((iN (-1))).toInt)))))) :
  G l E d m_Choir_takeOff 0 [(0, (.ref r, 11)), (1, (.int x1, 0)), (2, (.int x2, 0))] [] M K := G.blk 60 _ hd ok_Choir_takeOff rfl h
def bt_Choir_settle : BtT := [(0, [0], true, [(0, .iconst 0, 1, 0, 0, 0, m0),
   (1, .istore_n 1, 1, 0, 0, 0, m0),
   (2, .iconst 0, 1, 0, 0, 0, m0),
   (3, .istore_n 2, 1, 0, 0, 0, m0),
   (4, .nop, 0, 0, 0, 0, m0)]),
  (4, [0, 1, 2], true, [(4, .iload_n 2, 1, 0, 0, 0, m0),
   (5, .bipush 8, 2, 0, 0, 0, m0),
   (7, .if_icmp .ge 84, 3, 91, 0, 0, m0),
   (10, .nop, 0, 0, 0, 0, m0)]),
  (10, [], false, [(10, .iload_n 1, 1, 0, 0, 0, m0),
   (11, .aload_n 0, 1, 0, 0, 0, m0),
   (12, .getfield 37, 3, 7, 0, 278, m0),
   (15, .getfield 72, 3, 3, 7, 250, m0),
   (18, .if_icmp .ge 73, 3, 91, 0, 0, m0),
   (21, .nop, 0, 0, 0, 0, m0)]),
  (21, [], false, [(21, .aload_n 0, 1, 0, 0, 0, m0),
   (22, .iconst (-1), 1, 0, 0, 0, m0),
   (23, .aload_n 0, 1, 0, 0, 0, m0),
   (24, .getfield 37, 3, 7, 0, 278, m0),
   (27, .getfield 122, 3, 1, 7, 245, m0),
   (30, .iload_n 1, 1, 0, 0, 0, m0),
   (31, .iaload, 1, 0, 0, 0, m0),
   (32, .invokevirtual 107, 3, 0, 0, 798, m_Choir_slotOf),
   (35, .istore_n 3, 1, 0, 0, 0, m0),
   (36, .iload_n 3, 1, 0, 0, 0, m0),
   (37, .iconst (-1), 1, 0, 0, 0, m0),
   (38, .if_icmp .ne 9, 3, 47, 0, 0, m0),
   (41, .nop, 0, 0, 0, 0, m0)]),
  (41, [], false, [(41, .iinc 1 1, 3, 0, 0, 0, m0),
   (44, .goto 41, 3, 85, 0, 0, m0)]),
  (47, [], false, [(47, .aload_n 0, 1, 0, 0, 0, m0),
   (48, .getfield 28, 3, 5, 0, 274, m0),
   (51, .iload_n 3, 1, 0, 0, 0, m0),
   (52, .aload_n 0, 1, 0, 0, 0, m0),
   (53, .getfield 37, 3, 7, 0, 278, m0),
   (56, .getfield 119, 3, 0, 7, 242, m0),
   (59, .iload_n 1, 1, 0, 0, 0, m0),
   (60, .iaload, 1, 0, 0, 0, m0),
   (61, .iastore, 1, 0, 0, 0, m0),
   (62, .aload_n 0, 1, 0, 0, 0, m0),
   (63, .getfield 31, 3, 6, 0, 276, m0),
   (66, .iload_n 3, 1, 0, 0, 0, m0),
   (67, .aload_n 0, 1, 0, 0, 0, m0),
   (68, .getfield 37, 3, 7, 0, 278, m0),
   (71, .getfield 116, 3, 2, 7, 248, m0),
   (74, .iload_n 1, 1, 0, 0, 0, m0),
   (75, .iaload, 1, 0, 0, 0, m0),
   (76, .iastore, 1, 0, 0, 0, m0),
   (77, .aload_n 0, 1, 0, 0, 0, m0),
   (78, .getfield 37, 3, 7, 0, 278, m0),
   (81, .iload_n 1, 1, 0, 0, 0, m0),
   (82, .invokevirtual 174, 3, 0, 0, 1050, m_Waiting_leave),
   (85, .nop, 0, 0, 0, 0, m0)]),
  (85, [], false, [(85, .iinc 2 1, 3, 0, 0, 0, m0),
   (88, .goto (-84), 3, 4, 0, 0, m0)]),
  (91, [], false, [(91, .return_, 1, 0, 0, 0, m0)])]
theorem ok_Choir_settle : okBt m_Choir_settle bt_Choir_settle = true := by decide +kernel
set_option maxRecDepth 100000 in
theorem b_Choir_settle_0 {l : Launch} {E : EnvT} {d : Nat} {K : AV → Mem → Prop} {M : Mem} {r : Nat}  (hd : 1 ≤ d)
  (h : G l E d m_Choir_settle 4 [(0, (.ref r, 11)), (1, (.int (iN 0), 0)), (2, (.int (iN 0), 0))] [] M K) :
  G l E d m_Choir_settle 0 [(0, (.ref r, 11))] [] M K := G.blk 60 _ hd ok_Choir_settle rfl h
set_option maxRecDepth 100000 in
theorem b_Choir_settle_4 {l : Launch} {E : EnvT} {d : Nat} {K : AV → Mem → Prop} {M : Mem} {r : Nat} {x1 : Int32} {x2 : Int32} (hd : 1 ≤ d)
  (h : (((iN 8) ≤ x2 →
   K (.null, 0) M) ∧
  (¬ (iN 8) ≤ x2 →
   (((iN (M r 8 3)) ≤ x1 →
    K (.null, 0) M) ∧
   (¬ (iN (M r 8 3)) ≤ x1 →
    (vp_in x1 8 ∧ CT l E (d - 1) m_Choir_slotOf [(.ref r, 11), (.int (iN (-1)), 0), (.int (iN (M r 10 (x1).toNatClampNeg)), 0)] M (fun v1 M1 =>
     ((¬ (toI v1) = (iN (-1)) →
      (vp_in x1 8 ∧ vp_in (toI v1) 48 ∧ vp_in x1 8 ∧ vp_in (toI v1) 48 ∧ CT l E (d - 1) m_Waiting_leave [(.ref r, 19), (.int x1, 0)] (upd3 (upd3 M1 r 6 ((toI v1)).toNatClampNeg ((iN (M1 r 9 (x1).toNatClampNeg))).toInt) r 7 ((toI v1)).toNatClampNeg ((iN ((upd3 M1 r 6 ((toI v1)).toNatClampNeg ((iN (M1 r 9 (x1).toNatClampNeg))).toInt) r 11 (x1).toNatClampNeg))).toInt) (fun v2 M2 =>
       G l E d m_Choir_settle 4 [(0, (.ref r, 11)), (1, (.int x1, 0)), (2, (.int (x2 + iN 1), 0))] [] M2 K))) ∧
     ((toI v1) = (iN (-1)) →
      G l E d m_Choir_settle 4 [(0, (.ref r, 11)), (1, (.int (x1 + iN 1), 0)), (2, (.int (x2 + iN 1), 0))] [] M1 K))))))))) :
  G l E d m_Choir_settle 4 [(0, (.ref r, 11)), (1, (.int x1, 0)), (2, (.int x2, 0))] [] M K := G.blk 60 _ hd ok_Choir_settle rfl h
def bt_Choir_payCoins : BtT := [(0, [0, 1, 2, 3], true, [(0, .aload_n 0, 1, 0, 0, 0, m0),
   (1, .iload_n 1, 1, 0, 0, 0, m0),
   (2, .iload_n 2, 1, 0, 0, 0, m0),
   (3, .invokevirtual 158, 3, 0, 0, 1028, m_Choir_areTwo),
   (6, .ifCond .ne 5, 3, 11, 0, 0, m0),
   (9, .nop, 0, 0, 0, 0, m0)]),
  (9, [], false, [(9, .iconst 0, 1, 0, 0, 0, m0),
   (10, .ireturn, 1, 0, 0, 0, m0)]),
  (11, [], false, [(11, .aload_n 0, 1, 0, 0, 0, m0),
   (12, .iload_n 1, 1, 0, 0, 0, m0),
   (13, .iload_n 2, 1, 0, 0, 0, m0),
   (14, .invokevirtual 107, 3, 0, 0, 798, m_Choir_slotOf),
   (17, .istore 4, 2, 0, 0, 0, m0),
   (19, .iload 4, 2, 0, 0, 0, m0),
   (21, .iconst (-1), 1, 0, 0, 0, m0),
   (22, .if_icmp .eq 38, 3, 60, 0, 0, m0),
   (25, .nop, 0, 0, 0, 0, m0)]),
  (25, [], false, [(25, .aload_n 0, 1, 0, 0, 0, m0),
   (26, .getfield 31, 3, 6, 0, 276, m0),
   (29, .iload 4, 2, 0, 0, 0, m0),
   (31, .iaload, 1, 0, 0, 0, m0),
   (32, .iload_n 3, 1, 0, 0, 0, m0),
   (33, .if_icmp .lt 27, 3, 60, 0, 0, m0),
   (36, .nop, 0, 0, 0, 0, m0)]),
  (36, [], false, [(36, .aload_n 0, 1, 0, 0, 0, m0),
   (37, .getfield 15, 3, 1, 0, 263, m0),
   (40, .iload_n 1, 1, 0, 0, 0, m0),
   (41, .iaload, 1, 0, 0, 0, m0),
   (42, .iload_n 3, 1, 0, 0, 0, m0),
   (43, .if_icmp .lt 17, 3, 60, 0, 0, m0),
   (46, .nop, 0, 0, 0, 0, m0)]),
  (46, [], false, [(46, .aload_n 0, 1, 0, 0, 0, m0),
   (47, .getfield 15, 3, 1, 0, 263, m0),
   (50, .iload_n 2, 1, 0, 0, 0, m0),
   (51, .iaload, 1, 0, 0, 0, m0),
   (52, .iload_n 3, 1, 0, 0, 0, m0),
   (53, .iadd, 1, 0, 0, 0, m0),
   (54, .sipush 9999, 3, 0, 0, 0, m0),
   (57, .if_icmp .le 5, 3, 62, 0, 0, m0),
   (60, .nop, 0, 0, 0, 0, m0)]),
  (60, [], false, [(60, .iconst 0, 1, 0, 0, 0, m0),
   (61, .ireturn, 1, 0, 0, 0, m0)]),
  (62, [], false, [(62, .aload_n 0, 1, 0, 0, 0, m0),
   (63, .iload_n 1, 1, 0, 0, 0, m0),
   (64, .iload_n 2, 1, 0, 0, 0, m0),
   (65, .iload_n 3, 1, 0, 0, 0, m0),
   (66, .invokevirtual 164, 3, 0, 0, 1038, m_Choir_handOver),
   (69, .aload_n 0, 1, 0, 0, 0, m0),
   (70, .iload 4, 2, 0, 0, 0, m0),
   (72, .iload_n 3, 1, 0, 0, 0, m0),
   (73, .invokevirtual 168, 3, 0, 0, 1042, m_Choir_takeOff),
   (76, .aload_n 0, 1, 0, 0, 0, m0),
   (77, .invokevirtual 171, 3, 0, 0, 1046, m_Choir_settle),
   (80, .iconst 1, 1, 0, 0, 0, m0),
   (81, .ireturn, 1, 0, 0, 0, m0)])]
theorem ok_Choir_payCoins : okBt m_Choir_payCoins bt_Choir_payCoins = true := by decide +kernel
set_option maxRecDepth 100000 in
theorem b_Choir_payCoins_0 {l : Launch} {E : EnvT} {d : Nat} {K : AV → Mem → Prop} {M : Mem} {r : Nat} {x1 : Int32} {x2 : Int32} {x3 : Int32} (hd : 1 ≤ d)
  (h : CT l E (d - 1) m_Choir_areTwo [(.ref r, 11), (.int x1, 0), (.int x2, 0)] M (fun v1 M1 =>
   ((¬ (toI v1) = 0 →
    CT l E (d - 1) m_Choir_slotOf [(.ref r, 11), (.int x1, 0), (.int x2, 0)] M1 (fun v2 M2 =>
     (((toI v2) = (iN (-1)) →
      ((((iN 0) = 0 ∨ (iN 0) = 1)) ∧ K (.int (iN 0), 0) M2)) ∧
     (¬ (toI v2) = (iN (-1)) →
      (vp_in (toI v2) 48 ∧ (((iN (M2 r 7 ((toI v2)).toNatClampNeg)) < x3 →
       ((((iN 0) = 0 ∨ (iN 0) = 1)) ∧ K (.int (iN 0), 0) M2)) ∧
      (¬ (iN (M2 r 7 ((toI v2)).toNatClampNeg)) < x3 →
       (vp_in x1 8 ∧ (((iN (M2 r 2 (x1).toNatClampNeg)) < x3 →
        ((((iN 0) = 0 ∨ (iN 0) = 1)) ∧ K (.int (iN 0), 0) M2)) ∧
       (¬ (iN (M2 r 2 (x1).toNatClampNeg)) < x3 →
        (vp_in x2 8 ∧ ((((iN (M2 r 2 (x2).toNatClampNeg)) + x3) ≤ (iN 9999) →
         CT l E (d - 1) m_Choir_handOver [(.ref r, 11), (.int x1, 0), (.int x2, 0), (.int x3, 0)] M2 (fun v3 M3 =>
          CT l E (d - 1) m_Choir_takeOff [(.ref r, 11), (.int (toI v2), 0), (.int x3, 0)] M3 (fun v4 M4 =>
           CT l E (d - 1) m_Choir_settle [(.ref r, 11)] M4 (fun v5 M5 =>
            ((((iN 1) = 0 ∨ (iN 1) = 1)) ∧ K (.int (iN 1), 0) M5))))) ∧
        (¬ ((iN (M2 r 2 (x2).toNatClampNeg)) + x3) ≤ (iN 9999) →
         ((((iN 0) = 0 ∨ (iN 0) = 1)) ∧ K (.int (iN 0), 0) M2)))))))))))))) ∧
   ((toI v1) = 0 →
    ((((iN 0) = 0 ∨ (iN 0) = 1)) ∧ K (.int (iN 0), 0) M1))))) :
  G l E d m_Choir_payCoins 0 [(0, (.ref r, 11)), (1, (.int x1, 0)), (2, (.int x2, 0)), (3, (.int x3, 0))] [] M K := G.blk 60 _ hd ok_Choir_payCoins rfl h
def bt_Choir_netTwo : BtT := [(0, [0, 1, 2], true, [(0, .aload_n 0, 1, 0, 0, 0, m0),
   (1, .iload_n 1, 1, 0, 0, 0, m0),
   (2, .iload_n 2, 1, 0, 0, 0, m0),
   (3, .invokevirtual 158, 3, 0, 0, 1028, m_Choir_areTwo),
   (6, .ifCond .ne 5, 3, 11, 0, 0, m0),
   (9, .nop, 0, 0, 0, 0, m0)]),
  (9, [], false, [(9, .iconst 0, 1, 0, 0, 0, m0),
   (10, .ireturn, 1, 0, 0, 0, m0)]),
  (11, [], false, [(11, .aload_n 0, 1, 0, 0, 0, m0),
   (12, .iload_n 1, 1, 0, 0, 0, m0),
   (13, .iload_n 2, 1, 0, 0, 0, m0),
   (14, .invokevirtual 107, 3, 0, 0, 798, m_Choir_slotOf),
   (17, .istore_n 3, 1, 0, 0, 0, m0),
   (18, .aload_n 0, 1, 0, 0, 0, m0),
   (19, .iload_n 2, 1, 0, 0, 0, m0),
   (20, .iload_n 1, 1, 0, 0, 0, m0),
   (21, .invokevirtual 107, 3, 0, 0, 798, m_Choir_slotOf),
   (24, .istore 4, 2, 0, 0, 0, m0),
   (26, .iload_n 3, 1, 0, 0, 0, m0),
   (27, .iconst (-1), 1, 0, 0, 0, m0),
   (28, .if_icmp .eq 9, 3, 37, 0, 0, m0),
   (31, .nop, 0, 0, 0, 0, m0)]),
  (31, [], false, [(31, .iload 4, 2, 0, 0, 0, m0),
   (33, .iconst (-1), 1, 0, 0, 0, m0),
   (34, .if_icmp .ne 5, 3, 39, 0, 0, m0),
   (37, .nop, 0, 0, 0, 0, m0)]),
  (37, [], false, [(37, .iconst 0, 1, 0, 0, 0, m0),
   (38, .ireturn, 1, 0, 0, 0, m0)]),
  (39, [], false, [(39, .aload_n 0, 1, 0, 0, 0, m0),
   (40, .getfield 31, 3, 6, 0, 276, m0),
   (43, .iload_n 3, 1, 0, 0, 0, m0),
   (44, .iaload, 1, 0, 0, 0, m0),
   (45, .aload_n 0, 1, 0, 0, 0, m0),
   (46, .getfield 31, 3, 6, 0, 276, m0),
   (49, .iload 4, 2, 0, 0, 0, m0),
   (51, .iaload, 1, 0, 0, 0, m0),
   (52, .invokestatic 145, 3, 0, 0, 938, m_Math_min),
   (55, .istore 5, 2, 0, 0, 0, m0),
   (57, .aload_n 0, 1, 0, 0, 0, m0),
   (58, .iload_n 3, 1, 0, 0, 0, m0),
   (59, .iload 5, 2, 0, 0, 0, m0),
   (61, .invokevirtual 168, 3, 0, 0, 1042, m_Choir_takeOff),
   (64, .aload_n 0, 1, 0, 0, 0, m0),
   (65, .iload 4, 2, 0, 0, 0, m0),
   (67, .iload 5, 2, 0, 0, 0, m0),
   (69, .invokevirtual 168, 3, 0, 0, 1042, m_Choir_takeOff),
   (72, .aload_n 0, 1, 0, 0, 0, m0),
   (73, .invokevirtual 171, 3, 0, 0, 1046, m_Choir_settle),
   (76, .iload 5, 2, 0, 0, 0, m0),
   (78, .ireturn, 1, 0, 0, 0, m0)])]
theorem ok_Choir_netTwo : okBt m_Choir_netTwo bt_Choir_netTwo = true := by decide +kernel
set_option maxRecDepth 100000 in
theorem b_Choir_netTwo_0 {l : Launch} {E : EnvT} {d : Nat} {K : AV → Mem → Prop} {M : Mem} {r : Nat} {x1 : Int32} {x2 : Int32} (hd : 1 ≤ d)
  (h : CT l E (d - 1) m_Choir_areTwo [(.ref r, 11), (.int x1, 0), (.int x2, 0)] M (fun v1 M1 =>
   ((¬ (toI v1) = 0 →
    CT l E (d - 1) m_Choir_slotOf [(.ref r, 11), (.int x1, 0), (.int x2, 0)] M1 (fun v2 M2 =>
     CT l E (d - 1) m_Choir_slotOf [(.ref r, 11), (.int x2, 0), (.int x1, 0)] M2 (fun v3 M3 =>
      (((toI v2) = (iN (-1)) →
       K (.int (iN 0), 0) M3) ∧
      (¬ (toI v2) = (iN (-1)) →
       ((¬ (toI v3) = (iN (-1)) →
        (vp_in (toI v2) 48 ∧ vp_in (toI v3) 48 ∧ CT l E (d - 1) m_Math_min [(.int (iN (M3 r 7 ((toI v2)).toNatClampNeg)), 0), (.int (iN (M3 r 7 ((toI v3)).toNatClampNeg)), 0)] M3 (fun v4 M4 =>
         CT l E (d - 1) m_Choir_takeOff [(.ref r, 11), (.int (toI v2), 0), (.int (toI v4), 0)] M4 (fun v5 M5 =>
          CT l E (d - 1) m_Choir_takeOff [(.ref r, 11), (.int (toI v3), 0), (.int (toI v4), 0)] M5 (fun v6 M6 =>
           CT l E (d - 1) m_Choir_settle [(.ref r, 11)] M6 (fun v7 M7 =>
            K (.int (toI v4), 0) M7)))))) ∧
       ((toI v3) = (iN (-1)) →
        K (.int (iN 0), 0) M3))))))) ∧
   ((toI v1) = 0 →
    K (.int (iN 0), 0) M1)))) :
  G l E d m_Choir_netTwo 0 [(0, (.ref r, 11)), (1, (.int x1, 0)), (2, (.int x2, 0))] [] M K := G.blk 60 _ hd ok_Choir_netTwo rfl h
def bt_Choir_keepSunday : BtT := [(0, [0], true, [(0, .aload_n 0, 1, 0, 0, 0, m0),
   (1, .getfield 60, 3, 14, 0, 299, m0),
   (4, .sipush 9999, 3, 0, 0, 0, m0),
   (7, .if_icmp .lt 5, 3, 12, 0, 0, m0),
   (10, .nop, 0, 0, 0, 0, m0)]),
  (10, [], false, [(10, .iconst 0, 1, 0, 0, 0, m0),
   (11, .ireturn, 1, 0, 0, 0, m0)]),
  (12, [], false, [(12, .aload_n 0, 1, 0, 0, 0, m0),
   (13, .dup, 1, 0, 0, 0, m0),
   (14, .getfield 60, 3, 14, 0, 299, m0),
   (17, .iconst 1, 1, 0, 0, 0, m0),
   (18, .iadd, 1, 0, 0, 0, m0),
   (19, .putfield 60, 3, 14, 0, 299, m0),
   (22, .iconst 0, 1, 0, 0, 0, m0),
   (23, .istore_n 1, 1, 0, 0, 0, m0),
   (24, .nop, 0, 0, 0, 0, m0)]),
  (24, [0, 1], true, [(24, .iload_n 1, 1, 0, 0, 0, m0),
   (25, .aload_n 0, 1, 0, 0, 0, m0),
   (26, .getfield 41, 3, 8, 0, 280, m0),
   (29, .if_icmp .ge 60, 3, 89, 0, 0, m0),
   (32, .nop, 0, 0, 0, 0, m0)]),
  (32, [], false, [(32, .iconst 0, 1, 0, 0, 0, m0),
   (33, .istore_n 2, 1, 0, 0, 0, m0),
   (34, .nop, 0, 0, 0, 0, m0)]),
  (34, [0, 1, 2], true, [(34, .iload_n 2, 1, 0, 0, 0, m0),
   (35, .aload_n 0, 1, 0, 0, 0, m0),
   (36, .getfield 22, 3, 3, 0, 269, m0),
   (39, .iload_n 1, 1, 0, 0, 0, m0),
   (40, .iaload, 1, 0, 0, 0, m0),
   (41, .if_icmp .ge 42, 3, 83, 0, 0, m0),
   (44, .nop, 0, 0, 0, 0, m0)]),
  (44, [], false, [(44, .aload_n 0, 1, 0, 0, 0, m0),
   (45, .getfield 48, 3, 10, 0, 287, m0),
   (48, .iload_n 1, 1, 0, 0, 0, m0),
   (49, .invokestatic 103, 3, 0, 0, 924, m_Choir_isIn),
   (52, .ifCond .ne 31, 3, 83, 0, 0, m0),
   (55, .nop, 0, 0, 0, 0, m0)]),
  (55, [], false, [(55, .iload_n 1, 1, 0, 0, 0, m0),
   (56, .iload_n 2, 1, 0, 0, 0, m0),
   (57, .invokestatic 89, 3, 0, 0, 760, m_Choir_slot),
   (60, .istore_n 3, 1, 0, 0, 0, m0),
   (61, .aload_n 0, 1, 0, 0, 0, m0),
   (62, .getfield 31, 3, 6, 0, 276, m0),
   (65, .iload_n 3, 1, 0, 0, 0, m0),
   (66, .aload_n 0, 1, 0, 0, 0, m0),
   (67, .aload_n 0, 1, 0, 0, 0, m0),
   (68, .getfield 31, 3, 6, 0, 276, m0),
   (71, .iload_n 3, 1, 0, 0, 0, m0),
   (72, .iaload, 1, 0, 0, 0, m0),
   (73, .invokevirtual 148, 3, 0, 0, 931, m_Choir_grown),
   (76, .iastore, 1, 0, 0, 0, m0),
   (77, .iinc 2 1, 3, 0, 0, 0, m0),
   (80, .goto (-46), 3, 34, 0, 0, m0)]),
  (83, [], false, [(83, .iinc 1 1, 3, 0, 0, 0, m0),
   (86, .goto (-62), 3, 24, 0, 0, m0)]),
  (89, [], false, [(89, .iconst 1, 1, 0, 0, 0, m0),
   (90, .ireturn, 1, 0, 0, 0, m0)])]
theorem ok_Choir_keepSunday : okBt m_Choir_keepSunday bt_Choir_keepSunday = true := by decide +kernel
set_option maxRecDepth 100000 in
theorem b_Choir_keepSunday_0 {l : Launch} {E : EnvT} {d : Nat} {K : AV → Mem → Prop} {M : Mem} {r : Nat}  (hd : 1 ≤ d)
  (h : (((iN (M r 0 14)) < (iN 9999) →
   G l E d m_Choir_keepSunday 24 [(0, (.ref r, 11)), (1, (.int (iN 0), 0))] [] (upd3 M r 0 14 (((iN (M r 0 14)) + (iN 1))).toInt) K) ∧
  (¬ (iN (M r 0 14)) < (iN 9999) →
   ((((iN 0) = 0 ∨ (iN 0) = 1)) ∧ K (.int (iN 0), 0) M)))) :
  G l E d m_Choir_keepSunday 0 [(0, (.ref r, 11))] [] M K := G.blk 60 _ hd ok_Choir_keepSunday rfl h
set_option maxRecDepth 100000 in
theorem b_Choir_keepSunday_24 {l : Launch} {E : EnvT} {d : Nat} {K : AV → Mem → Prop} {M : Mem} {r : Nat} {x1 : Int32} (hd : 1 ≤ d)
  (h : (((iN (M r 0 8)) ≤ x1 →
   ((((iN 1) = 0 ∨ (iN 1) = 1)) ∧ K (.int (iN 1), 0) M)) ∧
  (¬ (iN (M r 0 8)) ≤ x1 →
   G l E d m_Choir_keepSunday 34 [(0, (.ref r, 11)), (1, (.int x1, 0)), (2, (.int (iN 0), 0))] [] M K))) :
  G l E d m_Choir_keepSunday 24 [(0, (.ref r, 11)), (1, (.int x1, 0))] [] M K := G.blk 60 _ hd ok_Choir_keepSunday rfl h
set_option maxRecDepth 100000 in
theorem b_Choir_keepSunday_34 {l : Launch} {E : EnvT} {d : Nat} {K : AV → Mem → Prop} {M : Mem} {r : Nat} {x1 : Int32} {x2 : Int32} (hd : 1 ≤ d)
  (h : (vp_in x1 8 ∧ (((iN (M r 4 (x1).toNatClampNeg)) ≤ x2 →
   G l E d m_Choir_keepSunday 24 [(0, (.ref r, 11)), (1, (.int (x1 + iN 1), 0))] [] M K) ∧
  (¬ (iN (M r 4 (x1).toNatClampNeg)) ≤ x2 →
   CT l E (d - 1) m_Choir_isIn [(.int (iN (M r 0 10)), 0), (.int x1, 0)] M (fun v1 M1 =>
    ((¬ (toI v1) = 0 →
     G l E d m_Choir_keepSunday 24 [(0, (.ref r, 11)), (1, (.int (x1 + iN 1), 0))] [] M1 K) ∧
    ((toI v1) = 0 →
     CT l E (d - 1) m_Choir_slot [(.int x1, 0), (.int x2, 0)] M1 (fun v2 M2 =>
      (vp_in (toI v2) 48 ∧ CT l E (d - 1) m_Choir_grown [(.ref r, 11), (.int (iN (M2 r 7 ((toI v2)).toNatClampNeg)), 0)] M2 (fun v3 M3 =>
       (vp_in (toI v2) 48 ∧ G l E d m_Choir_keepSunday 34 [(0, (.ref r, 11)), (1, (.int x1, 0)), (2, (.int (x2 + iN 1), 0))] [] (upd3 M3 r 7 ((toI v2)).toNatClampNeg ((toI v3)).toInt) K))))))))))) :
  G l E d m_Choir_keepSunday 34 [(0, (.ref r, 11)), (1, (.int x1, 0)), (2, (.int x2, 0))] [] M K := G.blk 60 _ hd ok_Choir_keepSunday rfl h
def bt_Choir_catchCold : BtT := [(0, [0, 1], true, [(0, .aload_n 0, 1, 0, 0, 0, m0),
   (1, .iload_n 1, 1, 0, 0, 0, m0),
   (2, .invokevirtual 93, 3, 0, 0, 1023, m_Choir_lives),
   (5, .ifCond .eq 14, 3, 19, 0, 0, m0),
   (8, .nop, 0, 0, 0, 0, m0)]),
  (8, [], false, [(8, .aload_n 0, 1, 0, 0, 0, m0),
   (9, .getfield 51, 3, 11, 0, 290, m0),
   (12, .iload_n 1, 1, 0, 0, 0, m0),
   (13, .invokestatic 103, 3, 0, 0, 924, m_Choir_isIn),
   (16, .ifCond .eq 5, 3, 21, 0, 0, m0),
   (19, .nop, 0, 0, 0, 0, m0)]),
  (19, [], false, [(19, .iconst (-1), 1, 0, 0, 0, m0),
   (20, .ireturn, 1, 0, 0, 0, m0)]),
  (21, [], false, [(21, .aload_n 0, 1, 0, 0, 0, m0),
   (22, .getfield 63, 3, 15, 0, 301, m0),
   (25, .istore_n 2, 1, 0, 0, 0, m0),
   (26, .iconst 0, 1, 0, 0, 0, m0),
   (27, .istore_n 3, 1, 0, 0, 0, m0),
   (28, .nop, 0, 0, 0, 0, m0)]),
  (28, [0, 1, 2, 3], true, [(28, .iload_n 3, 1, 0, 0, 0, m0),
   (29, .aload_n 0, 1, 0, 0, 0, m0),
   (30, .getfield 41, 3, 8, 0, 280, m0),
   (33, .if_icmp .ge 70, 3, 103, 0, 0, m0),
   (36, .nop, 0, 0, 0, 0, m0)]),
  (36, [], false, [(36, .aload_n 0, 1, 0, 0, 0, m0),
   (37, .iload_n 1, 1, 0, 0, 0, m0),
   (38, .iload_n 3, 1, 0, 0, 0, m0),
   (39, .invokevirtual 107, 3, 0, 0, 798, m_Choir_slotOf),
   (42, .istore 4, 2, 0, 0, 0, m0),
   (44, .iload 4, 2, 0, 0, 0, m0),
   (46, .iconst (-1), 1, 0, 0, 0, m0),
   (47, .if_icmp .eq 50, 3, 97, 0, 0, m0),
   (50, .nop, 0, 0, 0, 0, m0)]),
  (50, [], false, [(50, .aload_n 0, 1, 0, 0, 0, m0),
   (51, .getfield 31, 3, 6, 0, 276, m0),
   (54, .iload 4, 2, 0, 0, 0, m0),
   (56, .iaload, 1, 0, 0, 0, m0),
   (57, .aload_n 0, 1, 0, 0, 0, m0),
   (58, .getfield 15, 3, 1, 0, 263, m0),
   (61, .iload_n 1, 1, 0, 0, 0, m0),
   (62, .iaload, 1, 0, 0, 0, m0),
   (63, .sipush 9999, 3, 0, 0, 0, m0),
   (66, .aload_n 0, 1, 0, 0, 0, m0),
   (67, .getfield 15, 3, 1, 0, 263, m0),
   (70, .iload_n 3, 1, 0, 0, 0, m0),
   (71, .iaload, 1, 0, 0, 0, m0),
   (72, .isub, 1, 0, 0, 0, m0),
   (73, .invokestatic 145, 3, 0, 0, 938, m_Math_min),
   (76, .invokestatic 145, 3, 0, 0, 938, m_Math_min),
   (79, .istore 5, 2, 0, 0, 0, m0),
   (81, .aload_n 0, 1, 0, 0, 0, m0),
   (82, .iload_n 1, 1, 0, 0, 0, m0),
   (83, .iload_n 3, 1, 0, 0, 0, m0),
   (84, .iload 5, 2, 0, 0, 0, m0),
   (86, .invokevirtual 164, 3, 0, 0, 1038, m_Choir_handOver),
   (89, .aload_n 0, 1, 0, 0, 0, m0),
   (90, .iload 4, 2, 0, 0, 0, m0),
   (92, .iload 5, 2, 0, 0, 0, m0),
   (94, .invokevirtual 168, 3, 0, 0, 1042, m_Choir_takeOff),
   (97, .nop, 0, 0, 0, 0, m0)]),
  (97, [], false, [(97, .iinc 3 1, 3, 0, 0, 0, m0),
   (100, .goto (-72), 3, 28, 0, 0, m0)]),
  (103, [], false, [(103, .aload_n 0, 1, 0, 0, 0, m0),
   (104, .dup, 1, 0, 0, 0, m0),
   (105, .getfield 51, 3, 11, 0, 290, m0),
   (108, .iconst 1, 1, 0, 0, 0, m0),
   (109, .iload_n 1, 1, 0, 0, 0, m0),
   (110, .ishl, 1, 0, 0, 0, m0),
   (111, .ior, 1, 0, 0, 0, m0),
   (112, .putfield 51, 3, 11, 0, 290, m0),
   (115, .aload_n 0, 1, 0, 0, 0, m0),
   (116, .invokevirtual 171, 3, 0, 0, 1046, m_Choir_settle),
   (119, .aload_n 0, 1, 0, 0, 0, m0),
   (120, .getfield 63, 3, 15, 0, 301, m0),
   (123, .iload_n 2, 1, 0, 0, 0, m0),
   (124, .isub, 1, 0, 0, 0, m0),
   (125, .ireturn, 1, 0, 0, 0, m0)])]
theorem ok_Choir_catchCold : okBt m_Choir_catchCold bt_Choir_catchCold = true := by decide +kernel
set_option maxRecDepth 100000 in
theorem b_Choir_catchCold_0 {l : Launch} {E : EnvT} {d : Nat} {K : AV → Mem → Prop} {M : Mem} {r : Nat} {x1 : Int32} (hd : 1 ≤ d)
  (h : CT l E (d - 1) m_Choir_lives [(.ref r, 11), (.int x1, 0)] M (fun v1 M1 =>
   (((toI v1) = 0 →
    K (.int (iN (-1)), 0) M1) ∧
   (¬ (toI v1) = 0 →
    CT l E (d - 1) m_Choir_isIn [(.int (iN (M1 r 0 11)), 0), (.int x1, 0)] M1 (fun v2 M2 =>
     (((toI v2) = 0 →
      G l E d m_Choir_catchCold 28 [(0, (.ref r, 11)), (1, (.int x1, 0)), (2, (.int (iN (M2 r 0 15)), 0)), (3, (.int (iN 0), 0))] [] M2 K) ∧
     (¬ (toI v2) = 0 →
      K (.int (iN (-1)), 0) M2))))))) :
  G l E d m_Choir_catchCold 0 [(0, (.ref r, 11)), (1, (.int x1, 0))] [] M K := G.blk 60 _ hd ok_Choir_catchCold rfl h
set_option maxRecDepth 100000 in
theorem b_Choir_catchCold_28 {l : Launch} {E : EnvT} {d : Nat} {K : AV → Mem → Prop} {M : Mem} {r : Nat} {x1 : Int32} {x2 : Int32} {x3 : Int32} (hd : 1 ≤ d)
  (h : (((iN (M r 0 8)) ≤ x3 →
   CT l E (d - 1) m_Choir_settle [(.ref r, 11)] (upd3 M r 0 11 (((iN (M r 0 11)) ||| ((iN 1) <<< (x1 &&& 31)))).toInt) (fun v1 M1 =>
    K (.int ((iN (M1 r 0 15)) - x2), 0) M1)) ∧
  (¬ (iN (M r 0 8)) ≤ x3 →
   CT l E (d - 1) m_Choir_slotOf [(.ref r, 11), (.int x1, 0), (.int x3, 0)] M (fun v2 M2 =>
    (((toI v2) = (iN (-1)) →
     G l E d m_Choir_catchCold 28 [(0, (.ref r, 11)), (1, (.int x1, 0)), (2, (.int x2, 0)), (3, (.int (x3 + iN 1), 0))] [] M2 K) ∧
    (¬ (toI v2) = (iN (-1)) →
     (vp_in (toI v2) 48 ∧ vp_in x1 8 ∧ vp_in x3 8 ∧ CT l E (d - 1) m_Math_min [(.int (iN (M2 r 2 (x1).toNatClampNeg)), 0), (.int ((iN 9999) - (iN (M2 r 2 (x3).toNatClampNeg))), 0)] M2 (fun v3 M3 =>
      CT l E (d - 1) m_Math_min [(.int (iN (M2 r 7 ((toI v2)).toNatClampNeg)), 0), (.int (toI v3), 0)] M3 (fun v4 M4 =>
       CT l E (d - 1) m_Choir_handOver [(.ref r, 11), (.int x1, 0), (.int x3, 0), (.int (toI v4), 0)] M4 (fun v5 M5 =>
        CT l E (d - 1) m_Choir_takeOff [(.ref r, 11), (.int (toI v2), 0), (.int (toI v4), 0)] M5 (fun v6 M6 =>
         G l E d m_Choir_catchCold 28 [(0, (.ref r, 11)), (1, (.int x1, 0)), (2, (.int x2, 0)), (3, (.int (x3 + iN 1), 0))] [] M6 K))))))))))) :
  G l E d m_Choir_catchCold 28 [(0, (.ref r, 11)), (1, (.int x1, 0)), (2, (.int x2, 0)), (3, (.int x3, 0))] [] M K := G.blk 60 _ hd ok_Choir_catchCold rfl h
def bt_Choir_passOnHeld : BtT := [(0, [0, 1, 2], true, [(0, .iconst 0, 1, 0, 0, 0, m0),
   (1, .istore_n 3, 1, 0, 0, 0, m0),
   (2, .nop, 0, 0, 0, 0, m0)]),
  (2, [0, 1, 2, 3], true, [(2, .iload_n 3, 1, 0, 0, 0, m0),
   (3, .aload_n 0, 1, 0, 0, 0, m0),
   (4, .getfield 41, 3, 8, 0, 280, m0),
   (7, .if_icmp .ge 59, 3, 66, 0, 0, m0),
   (10, .nop, 0, 0, 0, 0, m0)]),
  (10, [], false, [(10, .aload_n 0, 1, 0, 0, 0, m0),
   (11, .iload_n 1, 1, 0, 0, 0, m0),
   (12, .iload_n 3, 1, 0, 0, 0, m0),
   (13, .invokevirtual 107, 3, 0, 0, 798, m_Choir_slotOf),
   (16, .istore 4, 2, 0, 0, 0, m0),
   (18, .iload 4, 2, 0, 0, 0, m0),
   (20, .iconst (-1), 1, 0, 0, 0, m0),
   (21, .if_icmp .eq 39, 3, 60, 0, 0, m0),
   (24, .nop, 0, 0, 0, 0, m0)]),
  (24, [], false, [(24, .aload_n 0, 1, 0, 0, 0, m0),
   (25, .getfield 31, 3, 6, 0, 276, m0),
   (28, .iload 4, 2, 0, 0, 0, m0),
   (30, .iaload, 1, 0, 0, 0, m0),
   (31, .istore 5, 2, 0, 0, 0, m0),
   (33, .aload_n 0, 1, 0, 0, 0, m0),
   (34, .iload 4, 2, 0, 0, 0, m0),
   (36, .iload 5, 2, 0, 0, 0, m0),
   (38, .invokevirtual 168, 3, 0, 0, 1042, m_Choir_takeOff),
   (41, .iload_n 2, 1, 0, 0, 0, m0),
   (42, .iconst (-1), 1, 0, 0, 0, m0),
   (43, .if_icmp .eq 17, 3, 60, 0, 0, m0),
   (46, .nop, 0, 0, 0, 0, m0)]),
  (46, [], false, [(46, .iload_n 2, 1, 0, 0, 0, m0),
   (47, .iload_n 3, 1, 0, 0, 0, m0),
   (48, .if_icmp .eq 12, 3, 60, 0, 0, m0),
   (51, .nop, 0, 0, 0, 0, m0)]),
  (51, [], false, [(51, .aload_n 0, 1, 0, 0, 0, m0),
   (52, .iload_n 2, 1, 0, 0, 0, m0),
   (53, .iload_n 3, 1, 0, 0, 0, m0),
   (54, .iload 5, 2, 0, 0, 0, m0),
   (56, .invokevirtual 161, 3, 0, 0, 1029, m_Choir_owe),
   (59, .pop, 1, 0, 0, 0, m0),
   (60, .nop, 0, 0, 0, 0, m0)]),
  (60, [], false, [(60, .iinc 3 1, 3, 0, 0, 0, m0),
   (63, .goto (-61), 3, 2, 0, 0, m0)]),
  (66, [], false, [(66, .return_, 1, 0, 0, 0, m0)])]
theorem ok_Choir_passOnHeld : okBt m_Choir_passOnHeld bt_Choir_passOnHeld = true := by decide +kernel
set_option maxRecDepth 100000 in
theorem b_Choir_passOnHeld_0 {l : Launch} {E : EnvT} {d : Nat} {K : AV → Mem → Prop} {M : Mem} {r : Nat} {x1 : Int32} {x2 : Int32} (hd : 1 ≤ d)
  (h : G l E d m_Choir_passOnHeld 2 [(0, (.ref r, 11)), (1, (.int x1, 0)), (2, (.int x2, 0)), (3, (.int (iN 0), 0))] [] M K) :
  G l E d m_Choir_passOnHeld 0 [(0, (.ref r, 11)), (1, (.int x1, 0)), (2, (.int x2, 0))] [] M K := G.blk 60 _ hd ok_Choir_passOnHeld rfl h
set_option maxRecDepth 100000 in
theorem b_Choir_passOnHeld_2 {l : Launch} {E : EnvT} {d : Nat} {K : AV → Mem → Prop} {M : Mem} {r : Nat} {x1 : Int32} {x2 : Int32} {x3 : Int32} (hd : 1 ≤ d)
  (h : (((iN (M r 0 8)) ≤ x3 →
   K (.null, 0) M) ∧
  (¬ (iN (M r 0 8)) ≤ x3 →
   CT l E (d - 1) m_Choir_slotOf [(.ref r, 11), (.int x1, 0), (.int x3, 0)] M (fun v1 M1 =>
    (((toI v1) = (iN (-1)) →
     G l E d m_Choir_passOnHeld 2 [(0, (.ref r, 11)), (1, (.int x1, 0)), (2, (.int x2, 0)), (3, (.int (x3 + iN 1), 0))] [] M1 K) ∧
    (¬ (toI v1) = (iN (-1)) →
     (vp_in (toI v1) 48 ∧ CT l E (d - 1) m_Choir_takeOff [(.ref r, 11), (.int (toI v1), 0), (.int (iN (M1 r 7 ((toI v1)).toNatClampNeg)), 0)] M1 (fun v2 M2 =>
      ((x2 = (iN (-1)) →
       G l E d m_Choir_passOnHeld 2 [(0, (.ref r, 11)), (1, (.int x1, 0)), (2, (.int x2, 0)), (3, (.int (x3 + iN 1), 0))] [] M2 K) ∧
      (¬ x2 = (iN (-1)) →
       ((x2 = x3 →
        G l E d m_Choir_passOnHeld 2 [(0, (.ref r, 11)), (1, (.int x1, 0)), (2, (.int x2, 0)), (3, (.int (x3 + iN 1), 0))] [] M2 K) ∧
       (¬ x2 = x3 →
        CT l E (d - 1) m_Choir_owe [(.ref r, 11), (.int x2, 0), (.int x3, 0), (.int (iN (M1 r 7 ((toI v1)).toNatClampNeg)), 0)] M2 (fun v3 M3 =>
         G l E d m_Choir_passOnHeld 2 [(0, (.ref r, 11)), (1, (.int x1, 0)), (2, (.int x2, 0)), (3, (.int (x3 + iN 1), 0))] [] M3 K))))))))))))) :
  G l E d m_Choir_passOnHeld 2 [(0, (.ref r, 11)), (1, (.int x1, 0)), (2, (.int x2, 0)), (3, (.int x3, 0))] [] M K := G.blk 60 _ hd ok_Choir_passOnHeld rfl h
def bt_Choir_passOnWaiting : BtT := [(0, [0, 1, 2], true, [(0, .iconst 0, 1, 0, 0, 0, m0),
   (1, .istore_n 3, 1, 0, 0, 0, m0),
   (2, .iconst 0, 1, 0, 0, 0, m0),
   (3, .istore 4, 2, 0, 0, 0, m0),
   (5, .nop, 0, 0, 0, 0, m0)]),
  (5, [0, 1, 2, 3, 4], true, [(5, .iload 4, 2, 0, 0, 0, m0),
   (7, .bipush 8, 2, 0, 0, 0, m0),
   (9, .if_icmp .ge 90, 3, 99, 0, 0, m0),
   (12, .nop, 0, 0, 0, 0, m0)]),
  (12, [], false, [(12, .iload_n 3, 1, 0, 0, 0, m0),
   (13, .aload_n 0, 1, 0, 0, 0, m0),
   (14, .getfield 37, 3, 7, 0, 278, m0),
   (17, .getfield 72, 3, 3, 7, 250, m0),
   (20, .if_icmp .ge 79, 3, 99, 0, 0, m0),
   (23, .nop, 0, 0, 0, 0, m0)]),
  (23, [], false, [(23, .aload_n 0, 1, 0, 0, 0, m0),
   (24, .getfield 37, 3, 7, 0, 278, m0),
   (27, .getfield 119, 3, 0, 7, 242, m0),
   (30, .iload_n 3, 1, 0, 0, 0, m0),
   (31, .iaload, 1, 0, 0, 0, m0),
   (32, .iload_n 1, 1, 0, 0, 0, m0),
   (33, .if_icmp .ne 57, 3, 90, 0, 0, m0),
   (36, .nop, 0, 0, 0, 0, m0)]),
  (36, [], false, [(36, .aload_n 0, 1, 0, 0, 0, m0),
   (37, .getfield 37, 3, 7, 0, 278, m0),
   (40, .getfield 122, 3, 1, 7, 245, m0),
   (43, .iload_n 3, 1, 0, 0, 0, m0),
   (44, .iaload, 1, 0, 0, 0, m0),
   (45, .istore 5, 2, 0, 0, 0, m0),
   (47, .aload_n 0, 1, 0, 0, 0, m0),
   (48, .getfield 37, 3, 7, 0, 278, m0),
   (51, .getfield 116, 3, 2, 7, 248, m0),
   (54, .iload_n 3, 1, 0, 0, 0, m0),
   (55, .iaload, 1, 0, 0, 0, m0),
   (56, .istore 6, 2, 0, 0, 0, m0),
   (58, .aload_n 0, 1, 0, 0, 0, m0),
   (59, .getfield 37, 3, 7, 0, 278, m0),
   (62, .iload_n 3, 1, 0, 0, 0, m0),
   (63, .invokevirtual 174, 3, 0, 0, 1050, m_Waiting_leave),
   (66, .iload_n 2, 1, 0, 0, 0, m0),
   (67, .iconst (-1), 1, 0, 0, 0, m0),
   (68, .if_icmp .eq 19, 3, 87, 0, 0, m0),
   (71, .nop, 0, 0, 0, 0, m0)]),
  (71, [], false, [(71, .iload_n 2, 1, 0, 0, 0, m0),
   (72, .iload 5, 2, 0, 0, 0, m0),
   (74, .if_icmp .eq 13, 3, 87, 0, 0, m0),
   (77, .nop, 0, 0, 0, 0, m0)]),
  (77, [], false, [(77, .aload_n 0, 1, 0, 0, 0, m0),
   (78, .iload_n 2, 1, 0, 0, 0, m0),
   (79, .iload 5, 2, 0, 0, 0, m0),
   (81, .iload 6, 2, 0, 0, 0, m0),
   (83, .invokevirtual 161, 3, 0, 0, 1029, m_Choir_owe),
   (86, .pop, 1, 0, 0, 0, m0),
   (87, .nop, 0, 0, 0, 0, m0)]),
  (87, [], false, [(87, .goto 6, 3, 93, 0, 0, m0)]),
  (90, [], false, [(90, .iinc 3 1, 3, 0, 0, 0, m0),
   (93, .nop, 0, 0, 0, 0, m0)]),
  (93, [], false, [(93, .iinc 4 1, 3, 0, 0, 0, m0),
   (96, .goto (-91), 3, 5, 0, 0, m0)]),
  (99, [], false, [(99, .return_, 1, 0, 0, 0, m0)])]
theorem ok_Choir_passOnWaiting : okBt m_Choir_passOnWaiting bt_Choir_passOnWaiting = true := by decide +kernel
set_option maxRecDepth 100000 in
theorem b_Choir_passOnWaiting_0 {l : Launch} {E : EnvT} {d : Nat} {K : AV → Mem → Prop} {M : Mem} {r : Nat} {x1 : Int32} {x2 : Int32} (hd : 1 ≤ d)
  (h : G l E d m_Choir_passOnWaiting 5 [(0, (.ref r, 11)), (1, (.int x1, 0)), (2, (.int x2, 0)), (3, (.int (iN 0), 0)), (4, (.int (iN 0), 0))] [] M K) :
  G l E d m_Choir_passOnWaiting 0 [(0, (.ref r, 11)), (1, (.int x1, 0)), (2, (.int x2, 0))] [] M K := G.blk 60 _ hd ok_Choir_passOnWaiting rfl h
set_option maxRecDepth 100000 in
theorem b_Choir_passOnWaiting_5 {l : Launch} {E : EnvT} {d : Nat} {K : AV → Mem → Prop} {M : Mem} {r : Nat} {x1 : Int32} {x2 : Int32} {x3 : Int32} {x4 : Int32} (hd : 1 ≤ d)
  (h : (((iN 8) ≤ x4 →
   K (.null, 0) M) ∧
  (¬ (iN 8) ≤ x4 →
   (((iN (M r 8 3)) ≤ x3 →
    K (.null, 0) M) ∧
   (¬ (iN (M r 8 3)) ≤ x3 →
    (vp_in x3 8 ∧ ((¬ (iN (M r 9 (x3).toNatClampNeg)) = x1 →
     G l E d m_Choir_passOnWaiting 5 [(0, (.ref r, 11)), (1, (.int x1, 0)), (2, (.int x2, 0)), (3, (.int (x3 + iN 1), 0)), (4, (.int (x4 + iN 1), 0))] [] M K) ∧
    ((iN (M r 9 (x3).toNatClampNeg)) = x1 →
     (vp_in x3 8 ∧ vp_in x3 8 ∧ CT l E (d - 1) m_Waiting_leave [(.ref r, 19), (.int x3, 0)] M (fun v1 M1 =>
      ((x2 = (iN (-1)) →
       G l E d m_Choir_passOnWaiting 5 [(0, (.ref r, 11)), (1, (.int x1, 0)), (2, (.int x2, 0)), (3, (.int x3, 0)), (4, (.int (x4 + iN 1), 0))] [] M1 K) ∧
      (¬ x2 = (iN (-1)) →
       ((x2 = (iN (M r 10 (x3).toNatClampNeg)) →
        G l E d m_Choir_passOnWaiting 5 [(0, (.ref r, 11)), (1, (.int x1, 0)), (2, (.int x2, 0)), (3, (.int x3, 0)), (4, (.int (x4 + iN 1), 0))] [] M1 K) ∧
       (¬ x2 = (iN (M r 10 (x3).toNatClampNeg)) →
        CT l E (d - 1) m_Choir_owe [(.ref r, 11), (.int x2, 0), (.int (iN (M r 10 (x3).toNatClampNeg)), 0), (.int (iN (M r 11 (x3).toNatClampNeg)), 0)] M1 (fun v2 M2 =>
         G l E d m_Choir_passOnWaiting 5 [(0, (.ref r, 11)), (1, (.int x1, 0)), (2, (.int x2, 0)), (3, (.int x3, 0)), (4, (.int (x4 + iN 1), 0))] [] M2 K))))))))))))))) :
  G l E d m_Choir_passOnWaiting 5 [(0, (.ref r, 11)), (1, (.int x1, 0)), (2, (.int x2, 0)), (3, (.int x3, 0)), (4, (.int x4, 0))] [] M K := G.blk 60 _ hd ok_Choir_passOnWaiting rfl h
def bt_Choir_forgetLine : BtT := [(0, [0, 1], true, [(0, .iconst 0, 1, 0, 0, 0, m0),
   (1, .istore_n 2, 1, 0, 0, 0, m0),
   (2, .nop, 0, 0, 0, 0, m0)]),
  (2, [0, 1, 2], true, [(2, .iload_n 2, 1, 0, 0, 0, m0),
   (3, .aload_n 0, 1, 0, 0, 0, m0),
   (4, .getfield 22, 3, 3, 0, 269, m0),
   (7, .iload_n 1, 1, 0, 0, 0, m0),
   (8, .iaload, 1, 0, 0, 0, m0),
   (9, .if_icmp .ge 28, 3, 37, 0, 0, m0),
   (12, .nop, 0, 0, 0, 0, m0)]),
  (12, [], false, [(12, .aload_n 0, 1, 0, 0, 0, m0),
   (13, .iload_n 1, 1, 0, 0, 0, m0),
   (14, .iload_n 2, 1, 0, 0, 0, m0),
   (15, .invokestatic 89, 3, 0, 0, 760, m_Choir_slot),
   (18, .aload_n 0, 1, 0, 0, 0, m0),
   (19, .getfield 31, 3, 6, 0, 276, m0),
   (22, .iload_n 1, 1, 0, 0, 0, m0),
   (23, .iload_n 2, 1, 0, 0, 0, m0),
   (24, .invokestatic 89, 3, 0, 0, 760, m_Choir_slot),
   (27, .iaload, 1, 0, 0, 0, m0),
   (28, .invokevirtual 168, 3, 0, 0, 1042, m_Choir_takeOff),
   (31, .iinc 2 1, 3, 0, 0, 0, m0),
   (34, .goto (-32), 3, 2, 0, 0, m0)]),
  (37, [], false, [(37, .iconst 0, 1, 0, 0, 0, m0),
   (38, .istore_n 2, 1, 0, 0, 0, m0),
   (39, .iconst 0, 1, 0, 0, 0, m0),
   (40, .istore_n 3, 1, 0, 0, 0, m0),
   (41, .nop, 0, 0, 0, 0, m0)]),
  (41, [0, 1, 2, 3], true, [(41, .iload_n 3, 1, 0, 0, 0, m0),
   (42, .bipush 8, 2, 0, 0, 0, m0),
   (44, .if_icmp .ge 47, 3, 91, 0, 0, m0),
   (47, .nop, 0, 0, 0, 0, m0)]),
  (47, [], false, [(47, .iload_n 2, 1, 0, 0, 0, m0),
   (48, .aload_n 0, 1, 0, 0, 0, m0),
   (49, .getfield 37, 3, 7, 0, 278, m0),
   (52, .getfield 72, 3, 3, 7, 250, m0),
   (55, .if_icmp .ge 36, 3, 91, 0, 0, m0),
   (58, .nop, 0, 0, 0, 0, m0)]),
  (58, [], false, [(58, .aload_n 0, 1, 0, 0, 0, m0),
   (59, .getfield 37, 3, 7, 0, 278, m0),
   (62, .getfield 122, 3, 1, 7, 245, m0),
   (65, .iload_n 2, 1, 0, 0, 0, m0),
   (66, .iaload, 1, 0, 0, 0, m0),
   (67, .iload_n 1, 1, 0, 0, 0, m0),
   (68, .if_icmp .ne 14, 3, 82, 0, 0, m0),
   (71, .nop, 0, 0, 0, 0, m0)]),
  (71, [], false, [(71, .aload_n 0, 1, 0, 0, 0, m0),
   (72, .getfield 37, 3, 7, 0, 278, m0),
   (75, .iload_n 2, 1, 0, 0, 0, m0),
   (76, .invokevirtual 174, 3, 0, 0, 1050, m_Waiting_leave),
   (79, .goto 6, 3, 85, 0, 0, m0)]),
  (82, [], false, [(82, .iinc 2 1, 3, 0, 0, 0, m0),
   (85, .nop, 0, 0, 0, 0, m0)]),
  (85, [], false, [(85, .iinc 3 1, 3, 0, 0, 0, m0),
   (88, .goto (-47), 3, 41, 0, 0, m0)]),
  (91, [], false, [(91, .return_, 1, 0, 0, 0, m0)])]
theorem ok_Choir_forgetLine : okBt m_Choir_forgetLine bt_Choir_forgetLine = true := by decide +kernel
set_option maxRecDepth 100000 in
theorem b_Choir_forgetLine_0 {l : Launch} {E : EnvT} {d : Nat} {K : AV → Mem → Prop} {M : Mem} {r : Nat} {x1 : Int32} (hd : 1 ≤ d)
  (h : G l E d m_Choir_forgetLine 2 [(0, (.ref r, 11)), (1, (.int x1, 0)), (2, (.int (iN 0), 0))] [] M K) :
  G l E d m_Choir_forgetLine 0 [(0, (.ref r, 11)), (1, (.int x1, 0))] [] M K := G.blk 60 _ hd ok_Choir_forgetLine rfl h
set_option maxRecDepth 100000 in
theorem b_Choir_forgetLine_2 {l : Launch} {E : EnvT} {d : Nat} {K : AV → Mem → Prop} {M : Mem} {r : Nat} {x1 : Int32} {x2 : Int32} (hd : 1 ≤ d)
  (h : (vp_in x1 8 ∧ (((iN (M r 4 (x1).toNatClampNeg)) ≤ x2 →
   G l E d m_Choir_forgetLine 41 [(0, (.ref r, 11)), (1, (.int x1, 0)), (2, (.int (iN 0), 0)), (3, (.int (iN 0), 0))] [] M K) ∧
  (¬ (iN (M r 4 (x1).toNatClampNeg)) ≤ x2 →
   CT l E (d - 1) m_Choir_slot [(.int x1, 0), (.int x2, 0)] M (fun v1 M1 =>
    CT l E (d - 1) m_Choir_slot [(.int x1, 0), (.int x2, 0)] M1 (fun v2 M2 =>
     (vp_in (toI v2) 48 ∧ CT l E (d - 1) m_Choir_takeOff [(.ref r, 11), (.int (toI v1), 0), (.int (iN (M2 r 7 ((toI v2)).toNatClampNeg)), 0)] M2 (fun v3 M3 =>
      G l E d m_Choir_forgetLine 2 [(0, (.ref r, 11)), (1, (.int x1, 0)), (2, (.int (x2 + iN 1), 0))] [] M3 K)))))))) :
  G l E d m_Choir_forgetLine 2 [(0, (.ref r, 11)), (1, (.int x1, 0)), (2, (.int x2, 0))] [] M K := G.blk 60 _ hd ok_Choir_forgetLine rfl h
set_option maxRecDepth 100000 in
theorem b_Choir_forgetLine_41 {l : Launch} {E : EnvT} {d : Nat} {K : AV → Mem → Prop} {M : Mem} {r : Nat} {x1 : Int32} {x2 : Int32} {x3 : Int32} (hd : 1 ≤ d)
  (h : (((iN 8) ≤ x3 →
   K (.null, 0) M) ∧
  (¬ (iN 8) ≤ x3 →
   (((iN (M r 8 3)) ≤ x2 →
    K (.null, 0) M) ∧
   (¬ (iN (M r 8 3)) ≤ x2 →
    (vp_in x2 8 ∧ ((¬ (iN (M r 10 (x2).toNatClampNeg)) = x1 →
     G l E d m_Choir_forgetLine 41 [(0, (.ref r, 11)), (1, (.int x1, 0)), (2, (.int (x2 + iN 1), 0)), (3, (.int (x3 + iN 1), 0))] [] M K) ∧
    ((iN (M r 10 (x2).toNatClampNeg)) = x1 →
     CT l E (d - 1) m_Waiting_leave [(.ref r, 19), (.int x2, 0)] M (fun v1 M1 =>
      G l E d m_Choir_forgetLine 41 [(0, (.ref r, 11)), (1, (.int x1, 0)), (2, (.int x2, 0)), (3, (.int (x3 + iN 1), 0))] [] M1 K))))))))) :
  G l E d m_Choir_forgetLine 41 [(0, (.ref r, 11)), (1, (.int x1, 0)), (2, (.int x2, 0)), (3, (.int x3, 0))] [] M K := G.blk 60 _ hd ok_Choir_forgetLine rfl h
def bt_Choir_bury : BtT := [(0, [0, 1], true, [(0, .aload_n 0, 1, 0, 0, 0, m0),
   (1, .iload_n 1, 1, 0, 0, 0, m0),
   (2, .invokevirtual 93, 3, 0, 0, 1023, m_Choir_lives),
   (5, .ifCond .ne 5, 3, 10, 0, 0, m0),
   (8, .nop, 0, 0, 0, 0, m0)]),
  (8, [], false, [(8, .iconst 0, 1, 0, 0, 0, m0),
   (9, .ireturn, 1, 0, 0, 0, m0)]),
  (10, [], false, [(10, .aload_n 0, 1, 0, 0, 0, m0),
   (11, .aload_n 0, 1, 0, 0, 0, m0),
   (12, .getfield 19, 3, 2, 0, 266, m0),
   (15, .iload_n 1, 1, 0, 0, 0, m0),
   (16, .iaload, 1, 0, 0, 0, m0),
   (17, .invokevirtual 93, 3, 0, 0, 1023, m_Choir_lives),
   (20, .ifCond .eq 12, 3, 32, 0, 0, m0),
   (23, .nop, 0, 0, 0, 0, m0)]),
  (23, [], false, [(23, .aload_n 0, 1, 0, 0, 0, m0),
   (24, .getfield 19, 3, 2, 0, 266, m0),
   (27, .iload_n 1, 1, 0, 0, 0, m0),
   (28, .iaload, 1, 0, 0, 0, m0),
   (29, .goto 4, 3, 33, 0, 0, m0)]),
  (32, [], false, [(32, .iconst (-1), 1, 0, 0, 0, m0),
   (33, .nop, 0, 0, 0, 0, m0)]),
  (33, [], false, [(33, .istore_n 2, 1, 0, 0, 0, m0),
   (34, .iload_n 2, 1, 0, 0, 0, m0),
   (35, .iconst (-1), 1, 0, 0, 0, m0),
   (36, .if_icmp .eq 28, 3, 64, 0, 0, m0),
   (39, .nop, 0, 0, 0, 0, m0)]),
  (39, [], false, [(39, .aload_n 0, 1, 0, 0, 0, m0),
   (40, .getfield 15, 3, 1, 0, 263, m0),
   (43, .iload_n 2, 1, 0, 0, 0, m0),
   (44, .sipush 9999, 3, 0, 0, 0, m0),
   (47, .aload_n 0, 1, 0, 0, 0, m0),
   (48, .getfield 15, 3, 1, 0, 263, m0),
   (51, .iload_n 2, 1, 0, 0, 0, m0),
   (52, .iaload, 1, 0, 0, 0, m0),
   (53, .aload_n 0, 1, 0, 0, 0, m0),
   (54, .getfield 15, 3, 1, 0, 263, m0),
   (57, .iload_n 1, 1, 0, 0, 0, m0),
   (58, .iaload, 1, 0, 0, 0, m0),
   (59, .iadd, 1, 0, 0, 0, m0),
   (60, .invokestatic 145, 3, 0, 0, 938, m_Math_min),
   (63, .iastore, 1, 0, 0, 0, m0),
   (64, .nop, 0, 0, 0, 0, m0)]),
  (64, [], false, [(64, .aload_n 0, 1, 0, 0, 0, m0),
   (65, .getfield 15, 3, 1, 0, 263, m0),
   (68, .iload_n 1, 1, 0, 0, 0, m0),
   (69, .iconst 0, 1, 0, 0, 0, m0),
   (70, .iastore, 1, 0, 0, 0, m0),
   (71, .aload_n 0, 1, 0, 0, 0, m0),
   (72, .iload_n 1, 1, 0, 0, 0, m0),
   (73, .iload_n 2, 1, 0, 0, 0, m0),
   (74, .invokevirtual 181, 3, 0, 0, 1097, m_Choir_passOnHeld),
   (77, .aload_n 0, 1, 0, 0, 0, m0),
   (78, .iload_n 1, 1, 0, 0, 0, m0),
   (79, .iload_n 2, 1, 0, 0, 0, m0),
   (80, .invokevirtual 184, 3, 0, 0, 1101, m_Choir_passOnWaiting),
   (83, .aload_n 0, 1, 0, 0, 0, m0),
   (84, .iload_n 1, 1, 0, 0, 0, m0),
   (85, .invokevirtual 187, 3, 0, 0, 1105, m_Choir_forgetLine),
   (88, .nop, 0, 0, 0, 0, m0)]),
  (88, [0, 1], true, [(88, .aload_n 0, 1, 0, 0, 0, m0),
   (89, .dup, 1, 0, 0, 0, m0),
   (90, .getfield 51, 3, 11, 0, 290, m0),
   (93, .iconst 1, 1, 0, 0, 0, m0),
   (94, .iload_n 1, 1, 0, 0, 0, m0),
   (95, .ishl, 1, 0, 0, 0, m0),
   (96, .iconst (-1), 1, 0, 0, 0, m0),
   (97, .ixor, 1, 0, 0, 0, m0),
   (98, .iand, 1, 0, 0, 0, m0),
   (99, .putfield 51, 3, 11, 0, 290, m0),
   (102, .aload_n 0, 1, 0, 0, 0, m0),
   (103, .dup, 1, 0, 0, 0, m0),
   (104, .getfield 54, 3, 12, 0, 293, m0),
   (107, .iconst 1, 1, 0, 0, 0, m0),
   (108, .iload_n 1, 1, 0, 0, 0, m0),
   (109, .ishl, 1, 0, 0, 0, m0),
   (110, .ior, 1, 0, 0, 0, m0),
   (111, .putfield 54, 3, 12, 0, 293, m0),
   (114, .aload_n 0, 1, 0, 0, 0, m0),
   (115, .invokevirtual 171, 3, 0, 0, 1046, m_Choir_settle),
   (118, .iconst 1, 1, 0, 0, 0, m0),
   (119, .ireturn, 1, 0, 0, 0, m0)])]
theorem ok_Choir_bury : okBt m_Choir_bury bt_Choir_bury = true := by decide +kernel
set_option maxRecDepth 100000 in
theorem b_Choir_bury_0 {l : Launch} {E : EnvT} {d : Nat} {K : AV → Mem → Prop} {M : Mem} {r : Nat} {x1 : Int32} (hd : 1 ≤ d)
  (h : CT l E (d - 1) m_Choir_lives [(.ref r, 11), (.int x1, 0)] M (fun v1 M1 =>
   ((¬ (toI v1) = 0 →
    (vp_in x1 8 ∧ CT l E (d - 1) m_Choir_lives [(.ref r, 11), (.int (iN (M1 r 3 (x1).toNatClampNeg)), 0)] M1 (fun v2 M2 =>
     (((toI v2) = 0 →
      (((iN (-1)) = (iN (-1)) →
       (vp_in x1 8 ∧ CT l E (d - 1) m_Choir_passOnHeld [(.ref r, 11), (.int x1, 0), (.int (iN (-1)), 0)] (upd3 M2 r 2 (x1).toNatClampNeg ((iN 0)).toInt) (fun v3 M3 =>
        CT l E (d - 1) m_Choir_passOnWaiting [(.ref r, 11), (.int x1, 0), (.int (iN (-1)), 0)] M3 (fun v4 M4 =>
         CT l E (d - 1) m_Choir_forgetLine [(.ref r, 11), (.int x1, 0)] M4 (fun v5 M5 =>
          G l E d m_Choir_bury 88 [(0, (.ref r, 11)), (1, (.int x1, 0))] [] M5 K))))) ∧
      (¬ (iN (-1)) = (iN (-1)) →
       (vp_in (iN (-1)) 8 ∧ vp_in x1 8 ∧ CT l E (d - 1) m_Math_min [(.int (iN 9999), 0), (.int ((iN (M2 r 2 ((iN (-1))).toNatClampNeg)) + (iN (M2 r 2 (x1).toNatClampNeg))), 0)] M2 (fun v6 M6 =>
        (vp_in (iN (-1)) 8 ∧ vp_in x1 8 ∧ CT l E (d - 1) m_Choir_passOnHeld [(.ref r, 11), (.int x1, 0), (.int (iN (-1)), 0)] (upd3 (upd3 M6 r 2 ((iN (-1))).toNatClampNeg ((toI v6)).toInt) r 2 (x1).toNatClampNeg ((iN 0)).toInt) (fun v7 M7 =>
         CT l E (d - 1) m_Choir_passOnWaiting [(.ref r, 11), (.int x1, 0), (.int (iN (-1)), 0)] M7 (fun v8 M8 =>
          CT l E (d - 1) m_Choir_forgetLine [(.ref r, 11), (.int x1, 0)] M8 (fun v9 M9 =>
           G l E d m_Choir_bury 88 [(0, (.ref r, 11)), (1, (.int x1, 0))] [] M9 K))))))))) ∧
     (¬ (toI v2) = 0 →
      (vp_in x1 8 ∧ (((iN (M2 r 3 (x1).toNatClampNeg)) = (iN (-1)) →
       (vp_in x1 8 ∧ CT l E (d - 1) m_Choir_passOnHeld [(.ref r, 11), (.int x1, 0), (.int (iN (M2 r 3 (x1).toNatClampNeg)), 0)] (upd3 M2 r 2 (x1).toNatClampNeg ((iN 0)).toInt) (fun v10 M10 =>
        CT l E (d - 1) m_Choir_passOnWaiting [(.ref r, 11), (.int x1, 0), (.int (iN (M2 r 3 (x1).toNatClampNeg)), 0)] M10 (fun v11 M11 =>
         CT l E (d - 1) m_Choir_forgetLine [(.ref r, 11), (.int x1, 0)] M11 (fun v12 M12 =>
          G l E d m_Choir_bury 88 [(0, (.ref r, 11)), (1, (.int x1, 0))] [] M12 K))))) ∧
      (¬ (iN (M2 r 3 (x1).toNatClampNeg)) = (iN (-1)) →
       (vp_in (iN (M2 r 3 (x1).toNatClampNeg)) 8 ∧ vp_in x1 8 ∧ CT l E (d - 1) m_Math_min [(.int (iN 9999), 0), (.int ((iN (M2 r 2 ((iN (M2 r 3 (x1).toNatClampNeg))).toNatClampNeg)) + (iN (M2 r 2 (x1).toNatClampNeg))), 0)] M2 (fun v13 M13 =>
        (vp_in (iN (M2 r 3 (x1).toNatClampNeg)) 8 ∧ vp_in x1 8 ∧ CT l E (d - 1) m_Choir_passOnHeld [(.ref r, 11), (.int x1, 0), (.int (iN (M2 r 3 (x1).toNatClampNeg)), 0)] (upd3 (upd3 M13 r 2 ((iN (M2 r 3 (x1).toNatClampNeg))).toNatClampNeg ((toI v13)).toInt) r 2 (x1).toNatClampNeg ((iN 0)).toInt) (fun v14 M14 =>
         CT l E (d - 1) m_Choir_passOnWaiting [(.ref r, 11), (.int x1, 0), (.int (iN (M2 r 3 (x1).toNatClampNeg)), 0)] M14 (fun v15 M15 =>
          CT l E (d - 1) m_Choir_forgetLine [(.ref r, 11), (.int x1, 0)] M15 (fun v16 M16 =>
           G l E d m_Choir_bury 88 [(0, (.ref r, 11)), (1, (.int x1, 0))] [] M16 K)))))))))))))) ∧
   ((toI v1) = 0 →
    ((((iN 0) = 0 ∨ (iN 0) = 1)) ∧ K (.int (iN 0), 0) M1))))) :
  G l E d m_Choir_bury 0 [(0, (.ref r, 11)), (1, (.int x1, 0))] [] M K := G.blk 60 _ hd ok_Choir_bury rfl h
set_option maxRecDepth 100000 in
theorem b_Choir_bury_88 {l : Launch} {E : EnvT} {d : Nat} {K : AV → Mem → Prop} {M : Mem} {r : Nat} {x1 : Int32} (hd : 1 ≤ d)
  (h : CT l E (d - 1) m_Choir_settle [(.ref r, 11)] (upd3 (upd3 M r 0 11 (((iN (M r 0 11)) &&& (((iN 1) <<< (x1 &&& 31)) ^^^ (iN (-1))))).toInt) r 0 12 (((iN ((upd3 M r 0 11 (((iN (M r 0 11)) &&& (((iN 1) <<< (x1 &&& 31)) ^^^ (iN (-1))))).toInt) r 0 12)) ||| ((iN 1) <<< (x1 &&& 31)))).toInt) (fun v1 M1 =>
   ((((iN 1) = 0 ∨ (iN 1) = 1)) ∧ K (.int (iN 1), 0) M1))) :
  G l E d m_Choir_bury 88 [(0, (.ref r, 11)), (1, (.int x1, 0))] [] M K := G.blk 60 _ hd ok_Choir_bury rfl h
def bt_Choir_livingCount : BtT := [(0, [0], true, [(0, .aload_n 0, 1, 0, 0, 0, m0),
   (1, .getfield 41, 3, 8, 0, 280, m0),
   (4, .aload_n 0, 1, 0, 0, 0, m0),
   (5, .getfield 54, 3, 12, 0, 293, m0),
   (8, .invokestatic 97, 3, 0, 0, 1113, m_Integer_bitCount),
   (11, .isub, 1, 0, 0, 0, m0),
   (12, .ireturn, 1, 0, 0, 0, m0)])]
theorem ok_Choir_livingCount : okBt m_Choir_livingCount bt_Choir_livingCount = true := by decide +kernel
set_option maxRecDepth 100000 in
theorem b_Choir_livingCount_0 {l : Launch} {E : EnvT} {d : Nat} {K : AV → Mem → Prop} {M : Mem} {r : Nat}  (hd : 1 ≤ d)
  (h : CT l E (d - 1) m_Integer_bitCount [(.int (iN (M r 0 12)), 0)] M (fun v1 M1 =>
   K (.int ((iN (M r 0 8)) - (toI v1)), 0) M1)) :
  G l E d m_Choir_livingCount 0 [(0, (.ref r, 11))] [] M K := G.blk 60 _ hd ok_Choir_livingCount rfl h
def bt_Choir_netAll : BtT := [(0, [0], true, [(0, .iconst 0, 1, 0, 0, 0, m0),
   (1, .istore_n 1, 1, 0, 0, 0, m0),
   (2, .iconst 0, 1, 0, 0, 0, m0),
   (3, .istore_n 2, 1, 0, 0, 0, m0),
   (4, .nop, 0, 0, 0, 0, m0)]),
  (4, [0, 1, 2], true, [(4, .iload_n 2, 1, 0, 0, 0, m0),
   (5, .aload_n 0, 1, 0, 0, 0, m0),
   (6, .getfield 41, 3, 8, 0, 280, m0),
   (9, .if_icmp .ge 36, 3, 45, 0, 0, m0),
   (12, .nop, 0, 0, 0, 0, m0)]),
  (12, [], false, [(12, .iload_n 2, 1, 0, 0, 0, m0),
   (13, .iconst 1, 1, 0, 0, 0, m0),
   (14, .iadd, 1, 0, 0, 0, m0),
   (15, .istore_n 3, 1, 0, 0, 0, m0),
   (16, .nop, 0, 0, 0, 0, m0)]),
  (16, [0, 1, 2, 3], true, [(16, .iload_n 3, 1, 0, 0, 0, m0),
   (17, .aload_n 0, 1, 0, 0, 0, m0),
   (18, .getfield 41, 3, 8, 0, 280, m0),
   (21, .if_icmp .ge 18, 3, 39, 0, 0, m0),
   (24, .nop, 0, 0, 0, 0, m0)]),
  (24, [], false, [(24, .iload_n 1, 1, 0, 0, 0, m0),
   (25, .aload_n 0, 1, 0, 0, 0, m0),
   (26, .iload_n 2, 1, 0, 0, 0, m0),
   (27, .iload_n 3, 1, 0, 0, 0, m0),
   (28, .invokevirtual 178, 3, 0, 0, 1134, m_Choir_netTwo),
   (31, .iadd, 1, 0, 0, 0, m0),
   (32, .istore_n 1, 1, 0, 0, 0, m0),
   (33, .iinc 3 1, 3, 0, 0, 0, m0),
   (36, .goto (-20), 3, 16, 0, 0, m0)]),
  (39, [], false, [(39, .iinc 2 1, 3, 0, 0, 0, m0),
   (42, .goto (-38), 3, 4, 0, 0, m0)]),
  (45, [], false, [(45, .iload_n 1, 1, 0, 0, 0, m0),
   (46, .ireturn, 1, 0, 0, 0, m0)])]
theorem ok_Choir_netAll : okBt m_Choir_netAll bt_Choir_netAll = true := by decide +kernel
set_option maxRecDepth 100000 in
theorem b_Choir_netAll_0 {l : Launch} {E : EnvT} {d : Nat} {K : AV → Mem → Prop} {M : Mem} {r : Nat}  (hd : 1 ≤ d)
  (h : G l E d m_Choir_netAll 4 [(0, (.ref r, 11)), (1, (.int (iN 0), 0)), (2, (.int (iN 0), 0))] [] M K) :
  G l E d m_Choir_netAll 0 [(0, (.ref r, 11))] [] M K := G.blk 60 _ hd ok_Choir_netAll rfl h
set_option maxRecDepth 100000 in
theorem b_Choir_netAll_4 {l : Launch} {E : EnvT} {d : Nat} {K : AV → Mem → Prop} {M : Mem} {r : Nat} {x1 : Int32} {x2 : Int32} (hd : 1 ≤ d)
  (h : (((iN (M r 0 8)) ≤ x2 →
   K (.int x1, 0) M) ∧
  (¬ (iN (M r 0 8)) ≤ x2 →
   G l E d m_Choir_netAll 16 [(0, (.ref r, 11)), (1, (.int x1, 0)), (2, (.int x2, 0)), (3, (.int (x2 + (iN 1)), 0))] [] M K))) :
  G l E d m_Choir_netAll 4 [(0, (.ref r, 11)), (1, (.int x1, 0)), (2, (.int x2, 0))] [] M K := G.blk 60 _ hd ok_Choir_netAll rfl h
set_option maxRecDepth 100000 in
theorem b_Choir_netAll_16 {l : Launch} {E : EnvT} {d : Nat} {K : AV → Mem → Prop} {M : Mem} {r : Nat} {x1 : Int32} {x2 : Int32} {x3 : Int32} (hd : 1 ≤ d)
  (h : (((iN (M r 0 8)) ≤ x3 →
   G l E d m_Choir_netAll 4 [(0, (.ref r, 11)), (1, (.int x1, 0)), (2, (.int (x2 + iN 1), 0))] [] M K) ∧
  (¬ (iN (M r 0 8)) ≤ x3 →
   CT l E (d - 1) m_Choir_netTwo [(.ref r, 11), (.int x2, 0), (.int x3, 0)] M (fun v1 M1 =>
    G l E d m_Choir_netAll 16 [(0, (.ref r, 11)), (1, (.int (x1 + (toI v1)), 0)), (2, (.int x2, 0)), (3, (.int (x3 + iN 1), 0))] [] M1 K)))) :
  G l E d m_Choir_netAll 16 [(0, (.ref r, 11)), (1, (.int x1, 0)), (2, (.int x2, 0)), (3, (.int x3, 0))] [] M K := G.blk 60 _ hd ok_Choir_netAll rfl h
def bt_Choir_balanceOf : BtT := [(0, [0, 1], true, [(0, .aload_n 0, 1, 0, 0, 0, m0),
   (1, .iload_n 1, 1, 0, 0, 0, m0),
   (2, .invokevirtual 125, 3, 0, 0, 1143, m_Choir_isOwedInAll),
   (5, .aload_n 0, 1, 0, 0, 0, m0),
   (6, .iload_n 1, 1, 0, 0, 0, m0),
   (7, .invokevirtual 128, 3, 0, 0, 1144, m_Choir_owesInAll),
   (10, .isub, 1, 0, 0, 0, m0),
   (11, .ireturn, 1, 0, 0, 0, m0)])]
theorem ok_Choir_balanceOf : okBt m_Choir_balanceOf bt_Choir_balanceOf = true := by decide +kernel
set_option maxRecDepth 100000 in
theorem b_Choir_balanceOf_0 {l : Launch} {E : EnvT} {d : Nat} {K : AV → Mem → Prop} {M : Mem} {r : Nat} {x1 : Int32} (hd : 1 ≤ d)
  (h : CT l E (d - 1) m_Choir_isOwedInAll [(.ref r, 11), (.int x1, 0)] M (fun v1 M1 =>
   CT l E (d - 1) m_Choir_owesInAll [(.ref r, 11), (.int x1, 0)] M1 (fun v2 M2 =>
    K (.int ((toI v1) - (toI v2)), 0) M2))) :
  G l E d m_Choir_balanceOf 0 [(0, (.ref r, 11)), (1, (.int x1, 0))] [] M K := G.blk 60 _ hd ok_Choir_balanceOf rfl h
def bt_Choir_lacks : BtT := [(0, [0, 1], true, [(0, .iconst 0, 1, 0, 0, 0, m0),
   (1, .aload_n 0, 1, 0, 0, 0, m0),
   (2, .getfield 15, 3, 1, 0, 263, m0),
   (5, .iload_n 1, 1, 0, 0, 0, m0),
   (6, .iaload, 1, 0, 0, 0, m0),
   (7, .aload_n 0, 1, 0, 0, 0, m0),
   (8, .iload_n 1, 1, 0, 0, 0, m0),
   (9, .invokevirtual 131, 3, 0, 0, 1187, m_Choir_balanceOf),
   (12, .iadd, 1, 0, 0, 0, m0),
   (13, .ineg, 1, 0, 0, 0, m0),
   (14, .invokestatic 134, 3, 0, 0, 935, m_Math_max),
   (17, .ireturn, 1, 0, 0, 0, m0)])]
theorem ok_Choir_lacks : okBt m_Choir_lacks bt_Choir_lacks = true := by decide +kernel
set_option maxRecDepth 100000 in
theorem b_Choir_lacks_0 {l : Launch} {E : EnvT} {d : Nat} {K : AV → Mem → Prop} {M : Mem} {r : Nat} {x1 : Int32} (hd : 1 ≤ d)
  (h : (vp_in x1 8 ∧ CT l E (d - 1) m_Choir_balanceOf [(.ref r, 11), (.int x1, 0)] M (fun v1 M1 =>
   CT l E (d - 1) m_Math_max [(.int (iN 0), 0), (.int (-((iN (M r 2 (x1).toNatClampNeg)) + (toI v1))), 0)] M1 (fun v2 M2 =>
    K (.int (toI v2), 0) M2)))) :
  G l E d m_Choir_lacks 0 [(0, (.ref r, 11)), (1, (.int x1, 0))] [] M K := G.blk 60 _ hd ok_Choir_lacks rfl h
def bt_Choir_freeNotes : BtT := [(0, [0, 1], true, [(0, .iconst 0, 1, 0, 0, 0, m0),
   (1, .istore_n 2, 1, 0, 0, 0, m0),
   (2, .iconst 0, 1, 0, 0, 0, m0),
   (3, .istore_n 3, 1, 0, 0, 0, m0),
   (4, .nop, 0, 0, 0, 0, m0)]),
  (4, [0, 1, 2, 3], true, [(4, .iload_n 3, 1, 0, 0, 0, m0),
   (5, .aload_n 0, 1, 0, 0, 0, m0),
   (6, .getfield 22, 3, 3, 0, 269, m0),
   (9, .iload_n 1, 1, 0, 0, 0, m0),
   (10, .iaload, 1, 0, 0, 0, m0),
   (11, .if_icmp .ge 26, 3, 37, 0, 0, m0),
   (14, .nop, 0, 0, 0, 0, m0)]),
  (14, [], false, [(14, .aload_n 0, 1, 0, 0, 0, m0),
   (15, .getfield 28, 3, 5, 0, 274, m0),
   (18, .iload_n 1, 1, 0, 0, 0, m0),
   (19, .iload_n 3, 1, 0, 0, 0, m0),
   (20, .invokestatic 89, 3, 0, 0, 760, m_Choir_slot),
   (23, .iaload, 1, 0, 0, 0, m0),
   (24, .iconst (-1), 1, 0, 0, 0, m0),
   (25, .if_icmp .ne 6, 3, 31, 0, 0, m0),
   (28, .nop, 0, 0, 0, 0, m0)]),
  (28, [], false, [(28, .iinc 2 1, 3, 0, 0, 0, m0),
   (31, .nop, 0, 0, 0, 0, m0)]),
  (31, [], false, [(31, .iinc 3 1, 3, 0, 0, 0, m0),
   (34, .goto (-30), 3, 4, 0, 0, m0)]),
  (37, [], false, [(37, .iload_n 2, 1, 0, 0, 0, m0),
   (38, .ireturn, 1, 0, 0, 0, m0)])]
theorem ok_Choir_freeNotes : okBt m_Choir_freeNotes bt_Choir_freeNotes = true := by decide +kernel
set_option maxRecDepth 100000 in
theorem b_Choir_freeNotes_0 {l : Launch} {E : EnvT} {d : Nat} {K : AV → Mem → Prop} {M : Mem} {r : Nat} {x1 : Int32} (hd : 1 ≤ d)
  (h : G l E d m_Choir_freeNotes 4 [(0, (.ref r, 11)), (1, (.int x1, 0)), (2, (.int (iN 0), 0)), (3, (.int (iN 0), 0))] [] M K) :
  G l E d m_Choir_freeNotes 0 [(0, (.ref r, 11)), (1, (.int x1, 0))] [] M K := G.blk 60 _ hd ok_Choir_freeNotes rfl h
set_option maxRecDepth 100000 in
theorem b_Choir_freeNotes_4 {l : Launch} {E : EnvT} {d : Nat} {K : AV → Mem → Prop} {M : Mem} {r : Nat} {x1 : Int32} {x2 : Int32} {x3 : Int32} (hd : 1 ≤ d)
  (h : (vp_in x1 8 ∧ (((iN (M r 4 (x1).toNatClampNeg)) ≤ x3 →
   K (.int x2, 0) M) ∧
  (¬ (iN (M r 4 (x1).toNatClampNeg)) ≤ x3 →
   CT l E (d - 1) m_Choir_slot [(.int x1, 0), (.int x3, 0)] M (fun v1 M1 =>
    (vp_in (toI v1) 48 ∧ ((¬ (iN (M1 r 6 ((toI v1)).toNatClampNeg)) = (iN (-1)) →
     G l E d m_Choir_freeNotes 4 [(0, (.ref r, 11)), (1, (.int x1, 0)), (2, (.int x2, 0)), (3, (.int (x3 + iN 1), 0))] [] M1 K) ∧
    ((iN (M1 r 6 ((toI v1)).toNatClampNeg)) = (iN (-1)) →
     G l E d m_Choir_freeNotes 4 [(0, (.ref r, 11)), (1, (.int x1, 0)), (2, (.int (x2 + iN 1), 0)), (3, (.int (x3 + iN 1), 0))] [] M1 K)))))))) :
  G l E d m_Choir_freeNotes 4 [(0, (.ref r, 11)), (1, (.int x1, 0)), (2, (.int x2, 0)), (3, (.int x3, 0))] [] M K := G.blk 60 _ hd ok_Choir_freeNotes rfl h
def bt_Choir_clearRing : BtT := [(0, [0, 1, 2], true, [(0, .sipush 999, 3, 0, 0, 0, m0),
   (3, .istore_n 3, 1, 0, 0, 0, m0),
   (4, .iconst 0, 1, 0, 0, 0, m0),
   (5, .istore 4, 2, 0, 0, 0, m0),
   (7, .nop, 0, 0, 0, 0, m0)]),
  (7, [0, 1, 2, 3, 4], true, [(7, .iload 4, 2, 0, 0, 0, m0),
   (9, .iload_n 2, 1, 0, 0, 0, m0),
   (10, .if_icmp .ge 30, 3, 40, 0, 0, m0),
   (13, .nop, 0, 0, 0, 0, m0)]),
  (13, [], false, [(13, .iload_n 3, 1, 0, 0, 0, m0),
   (14, .aload_n 0, 1, 0, 0, 0, m0),
   (15, .aload_n 1, 1, 0, 0, 0, m0),
   (16, .iload 4, 2, 0, 0, 0, m0),
   (18, .iaload, 1, 0, 0, 0, m0),
   (19, .aload_n 1, 1, 0, 0, 0, m0),
   (20, .iload 4, 2, 0, 0, 0, m0),
   (22, .iconst 1, 1, 0, 0, 0, m0),
   (23, .iadd, 1, 0, 0, 0, m0),
   (24, .iload_n 2, 1, 0, 0, 0, m0),
   (25, .irem, 1, 0, 0, 0, m0),
   (26, .iaload, 1, 0, 0, 0, m0),
   (27, .invokevirtual 113, 3, 0, 0, 987, m_Choir_debtAtNote),
   (30, .invokestatic 145, 3, 0, 0, 938, m_Math_min),
   (33, .istore_n 3, 1, 0, 0, 0, m0),
   (34, .iinc 4 1, 3, 0, 0, 0, m0),
   (37, .goto (-30), 3, 7, 0, 0, m0)]),
  (40, [], false, [(40, .iconst 0, 1, 0, 0, 0, m0),
   (41, .istore 4, 2, 0, 0, 0, m0),
   (43, .nop, 0, 0, 0, 0, m0)]),
  (43, [0, 1, 2, 3, 4], true, [(43, .iload 4, 2, 0, 0, 0, m0),
   (45, .iload_n 2, 1, 0, 0, 0, m0),
   (46, .if_icmp .ge 40, 3, 86, 0, 0, m0),
   (49, .nop, 0, 0, 0, 0, m0)]),
  (49, [], false, [(49, .aload_n 0, 1, 0, 0, 0, m0),
   (50, .aload_n 1, 1, 0, 0, 0, m0),
   (51, .iload 4, 2, 0, 0, 0, m0),
   (53, .iaload, 1, 0, 0, 0, m0),
   (54, .aload_n 1, 1, 0, 0, 0, m0),
   (55, .iload 4, 2, 0, 0, 0, m0),
   (57, .iconst 1, 1, 0, 0, 0, m0),
   (58, .iadd, 1, 0, 0, 0, m0),
   (59, .iload_n 2, 1, 0, 0, 0, m0),
   (60, .irem, 1, 0, 0, 0, m0),
   (61, .iaload, 1, 0, 0, 0, m0),
   (62, .invokevirtual 107, 3, 0, 0, 798, m_Choir_slotOf),
   (65, .istore 5, 2, 0, 0, 0, m0),
   (67, .iload 5, 2, 0, 0, 0, m0),
   (69, .iconst (-1), 1, 0, 0, 0, m0),
   (70, .if_icmp .eq 10, 3, 80, 0, 0, m0),
   (73, .nop, 0, 0, 0, 0, m0)]),
  (73, [], false, [(73, .aload_n 0, 1, 0, 0, 0, m0),
   (74, .iload 5, 2, 0, 0, 0, m0),
   (76, .iload_n 3, 1, 0, 0, 0, m0),
   (77, .invokevirtual 168, 3, 0, 0, 1042, m_Choir_takeOff),
   (80, .nop, 0, 0, 0, 0, m0)]),
  (80, [], false, [(80, .iinc 4 1, 3, 0, 0, 0, m0),
   (83, .goto (-40), 3, 43, 0, 0, m0)]),
  (86, [], false, [(86, .aload_n 0, 1, 0, 0, 0, m0),
   (87, .invokevirtual 171, 3, 0, 0, 1046, m_Choir_settle),
   (90, .iload_n 3, 1, 0, 0, 0, m0),
   (91, .ireturn, 1, 0, 0, 0, m0)])]
theorem ok_Choir_clearRing : okBt m_Choir_clearRing bt_Choir_clearRing = true := by decide +kernel
set_option maxRecDepth 100000 in
theorem b_Choir_clearRing_0 {l : Launch} {E : EnvT} {d : Nat} {K : AV → Mem → Prop} {M : Mem} {r r2 : Nat} {x2 : Int32} (hd : 1 ≤ d)
  (h : G l E d m_Choir_clearRing 7 [(0, (.ref r, 11)), (1, (.ref r2, 34)), (2, (.int x2, 0)), (3, (.int (iN 999), 0)), (4, (.int (iN 0), 0))] [] M K) :
  G l E d m_Choir_clearRing 0 [(0, (.ref r, 11)), (1, (.ref r2, 34)), (2, (.int x2, 0))] [] M K := G.blk 60 _ hd ok_Choir_clearRing rfl h
set_option maxRecDepth 100000 in
theorem b_Choir_clearRing_7 {l : Launch} {E : EnvT} {d : Nat} {K : AV → Mem → Prop} {M : Mem} {r r2 : Nat} {x2 : Int32} {x3 : Int32} {x4 : Int32} (hd : 1 ≤ d)
  (h : ((x2 ≤ x4 →
   G l E d m_Choir_clearRing 43 [(0, (.ref r, 11)), (1, (.ref r2, 34)), (2, (.int x2, 0)), (3, (.int x3, 0)), (4, (.int (iN 0), 0))] [] M K) ∧
  (¬ x2 ≤ x4 →
   (vp_in x4 8 ∧ ¬ x2 = 0 ∧ vp_in (iR (x4 + (iN 1)) x2) 8 ∧ CT l E (d - 1) m_Choir_debtAtNote [(.ref r, 11), (.int (iN (M r2 4 (x4).toNatClampNeg)), 0), (.int (iN (M r2 4 ((iR (x4 + (iN 1)) x2)).toNatClampNeg)), 0)] M (fun v1 M1 =>
    CT l E (d - 1) m_Math_min [(.int x3, 0), (.int (toI v1), 0)] M1 (fun v2 M2 =>
     G l E d m_Choir_clearRing 7 [(0, (.ref r, 11)), (1, (.ref r2, 34)), (2, (.int x2, 0)), (3, (.int (toI v2), 0)), (4, (.int (x4 + iN 1), 0))] [] M2 K)))))) :
  G l E d m_Choir_clearRing 7 [(0, (.ref r, 11)), (1, (.ref r2, 34)), (2, (.int x2, 0)), (3, (.int x3, 0)), (4, (.int x4, 0))] [] M K := G.blk 60 _ hd ok_Choir_clearRing rfl h
set_option maxRecDepth 100000 in
theorem b_Choir_clearRing_43 {l : Launch} {E : EnvT} {d : Nat} {K : AV → Mem → Prop} {M : Mem} {r r2 : Nat} {x2 : Int32} {x3 : Int32} {x4 : Int32} (hd : 1 ≤ d)
  (h : ((x2 ≤ x4 →
   CT l E (d - 1) m_Choir_settle [(.ref r, 11)] M (fun v1 M1 =>
    K (.int x3, 0) M1)) ∧
  (¬ x2 ≤ x4 →
   (vp_in x4 8 ∧ ¬ x2 = 0 ∧ vp_in (iR (x4 + (iN 1)) x2) 8 ∧ CT l E (d - 1) m_Choir_slotOf [(.ref r, 11), (.int (iN (M r2 4 (x4).toNatClampNeg)), 0), (.int (iN (M r2 4 ((iR (x4 + (iN 1)) x2)).toNatClampNeg)), 0)] M (fun v2 M2 =>
    (((toI v2) = (iN (-1)) →
     G l E d m_Choir_clearRing 43 [(0, (.ref r, 11)), (1, (.ref r2, 34)), (2, (.int x2, 0)), (3, (.int x3, 0)), (4, (.int (x4 + iN 1), 0))] [] M2 K) ∧
    (¬ (toI v2) = (iN (-1)) →
     CT l E (d - 1) m_Choir_takeOff [(.ref r, 11), (.int (toI v2), 0), (.int x3, 0)] M2 (fun v3 M3 =>
      G l E d m_Choir_clearRing 43 [(0, (.ref r, 11)), (1, (.ref r2, 34)), (2, (.int x2, 0)), (3, (.int x3, 0)), (4, (.int (x4 + iN 1), 0))] [] M3 K)))))))) :
  G l E d m_Choir_clearRing 43 [(0, (.ref r, 11)), (1, (.ref r2, 34)), (2, (.int x2, 0)), (3, (.int x3, 0)), (4, (.int x4, 0))] [] M K := G.blk 60 _ hd ok_Choir_clearRing rfl h
def bt_Choir_livingAt : BtT := [(0, [0, 1], true, [(0, .iload_n 1, 1, 0, 0, 0, m0),
   (1, .istore_n 2, 1, 0, 0, 0, m0),
   (2, .iconst 0, 1, 0, 0, 0, m0),
   (3, .istore_n 3, 1, 0, 0, 0, m0),
   (4, .nop, 0, 0, 0, 0, m0)]),
  (4, [0, 2, 3], true, [(4, .iload_n 3, 1, 0, 0, 0, m0),
   (5, .aload_n 0, 1, 0, 0, 0, m0),
   (6, .getfield 41, 3, 8, 0, 280, m0),
   (9, .if_icmp .ge 26, 3, 35, 0, 0, m0),
   (12, .nop, 0, 0, 0, 0, m0)]),
  (12, [], false, [(12, .aload_n 0, 1, 0, 0, 0, m0),
   (13, .iload_n 3, 1, 0, 0, 0, m0),
   (14, .invokevirtual 93, 3, 0, 0, 1023, m_Choir_lives),
   (17, .ifCond .eq 12, 3, 29, 0, 0, m0),
   (20, .nop, 0, 0, 0, 0, m0)]),
  (20, [], false, [(20, .iload_n 2, 1, 0, 0, 0, m0),
   (21, .ifCond .ne 5, 3, 26, 0, 0, m0),
   (24, .nop, 0, 0, 0, 0, m0)]),
  (24, [], false, [(24, .iload_n 3, 1, 0, 0, 0, m0),
   (25, .ireturn, 1, 0, 0, 0, m0)]),
  (26, [], false, [(26, .iinc 2 (-1), 3, 0, 0, 0, m0),
   (29, .nop, 0, 0, 0, 0, m0)]),
  (29, [], false, [(29, .iinc 3 1, 3, 0, 0, 0, m0),
   (32, .goto (-28), 3, 4, 0, 0, m0)]),
  (35, [], false, [(35, .iconst (-1), 1, 0, 0, 0, m0),
   (36, .ireturn, 1, 0, 0, 0, m0)])]
theorem ok_Choir_livingAt : okBt m_Choir_livingAt bt_Choir_livingAt = true := by decide +kernel
set_option maxRecDepth 100000 in
theorem b_Choir_livingAt_0 {l : Launch} {E : EnvT} {d : Nat} {K : AV → Mem → Prop} {M : Mem} {r : Nat} {x1 : Int32} (hd : 1 ≤ d)
  (h : G l E d m_Choir_livingAt 4 [(0, (.ref r, 11)), (2, (.int x1, 0)), (3, (.int (iN 0), 0))] [] M K) :
  G l E d m_Choir_livingAt 0 [(0, (.ref r, 11)), (1, (.int x1, 0))] [] M K := G.blk 60 _ hd ok_Choir_livingAt rfl h
set_option maxRecDepth 100000 in
theorem b_Choir_livingAt_4 {l : Launch} {E : EnvT} {d : Nat} {K : AV → Mem → Prop} {M : Mem} {r : Nat} {x2 : Int32} {x3 : Int32} (hd : 1 ≤ d)
  (h : (((iN (M r 0 8)) ≤ x3 →
   K (.int (iN (-1)), 0) M) ∧
  (¬ (iN (M r 0 8)) ≤ x3 →
   CT l E (d - 1) m_Choir_lives [(.ref r, 11), (.int x3, 0)] M (fun v1 M1 =>
    (((toI v1) = 0 →
     G l E d m_Choir_livingAt 4 [(0, (.ref r, 11)), (2, (.int x2, 0)), (3, (.int (x3 + iN 1), 0))] [] M1 K) ∧
    (¬ (toI v1) = 0 →
     ((¬ x2 = 0 →
      G l E d m_Choir_livingAt 4 [(0, (.ref r, 11)), (2, (.int (x2 + iN (-1)), 0)), (3, (.int (x3 + iN 1), 0))] [] M1 K) ∧
     (x2 = 0 →
      K (.int x3, 0) M1)))))))) :
  G l E d m_Choir_livingAt 4 [(0, (.ref r, 11)), (2, (.int x2, 0)), (3, (.int x3, 0))] [] M K := G.blk 60 _ hd ok_Choir_livingAt rfl h
def bt_Choir_takeFrom : BtT := [(0, [0, 1], true, [(0, .aload_n 1, 1, 0, 0, 0, m0),
   (1, .getfield 11, 3, 0, 0, 262, m0),
   (4, .iconst 0, 1, 0, 0, 0, m0),
   (5, .aload_n 0, 1, 0, 0, 0, m0),
   (6, .getfield 11, 3, 0, 0, 262, m0),
   (9, .iconst 0, 1, 0, 0, 0, m0),
   (10, .bipush 8, 2, 0, 0, 0, m0),
   (12, .invokestatic 75, 3, 0, 0, 1409, m_copy),
   (15, .aload_n 1, 1, 0, 0, 0, m0),
   (16, .getfield 15, 3, 1, 0, 263, m0),
   (19, .iconst 0, 1, 0, 0, 0, m0),
   (20, .aload_n 0, 1, 0, 0, 0, m0),
   (21, .getfield 15, 3, 1, 0, 263, m0),
   (24, .iconst 0, 1, 0, 0, 0, m0),
   (25, .bipush 8, 2, 0, 0, 0, m0),
   (27, .invokestatic 75, 3, 0, 0, 1409, m_copy),
   (30, .aload_n 1, 1, 0, 0, 0, m0),
   (31, .getfield 19, 3, 2, 0, 266, m0),
   (34, .iconst 0, 1, 0, 0, 0, m0),
   (35, .aload_n 0, 1, 0, 0, 0, m0),
   (36, .getfield 19, 3, 2, 0, 266, m0),
   (39, .iconst 0, 1, 0, 0, 0, m0),
   (40, .bipush 8, 2, 0, 0, 0, m0),
   (42, .invokestatic 75, 3, 0, 0, 1409, m_copy),
   (45, .aload_n 1, 1, 0, 0, 0, m0),
   (46, .getfield 22, 3, 3, 0, 269, m0),
   (49, .iconst 0, 1, 0, 0, 0, m0),
   (50, .aload_n 0, 1, 0, 0, 0, m0),
   (51, .getfield 22, 3, 3, 0, 269, m0),
   (54, .iconst 0, 1, 0, 0, 0, m0),
   (55, .bipush 8, 2, 0, 0, 0, m0),
   (57, .invokestatic 75, 3, 0, 0, 1409, m_copy),
   (60, .nop, 0, 0, 0, 0, m0)]),
  (60, [0, 1], true, [(60, .aload_n 1, 1, 0, 0, 0, m0),
   (61, .getfield 25, 3, 4, 0, 272, m0),
   (64, .iconst 0, 1, 0, 0, 0, m0),
   (65, .aload_n 0, 1, 0, 0, 0, m0),
   (66, .getfield 25, 3, 4, 0, 272, m0),
   (69, .iconst 0, 1, 0, 0, 0, m0),
   (70, .bipush 48, 2, 0, 0, 0, m0),
   (72, .invokestatic 75, 3, 0, 0, 1409, m_copy),
   (75, .aload_n 1, 1, 0, 0, 0, m0),
   (76, .getfield 28, 3, 5, 0, 274, m0),
   (79, .iconst 0, 1, 0, 0, 0, m0),
   (80, .aload_n 0, 1, 0, 0, 0, m0),
   (81, .getfield 28, 3, 5, 0, 274, m0),
   (84, .iconst 0, 1, 0, 0, 0, m0),
   (85, .bipush 48, 2, 0, 0, 0, m0),
   (87, .invokestatic 75, 3, 0, 0, 1409, m_copy),
   (90, .aload_n 1, 1, 0, 0, 0, m0),
   (91, .getfield 31, 3, 6, 0, 276, m0),
   (94, .iconst 0, 1, 0, 0, 0, m0),
   (95, .aload_n 0, 1, 0, 0, 0, m0),
   (96, .getfield 31, 3, 6, 0, 276, m0),
   (99, .iconst 0, 1, 0, 0, 0, m0),
   (100, .bipush 48, 2, 0, 0, 0, m0),
   (102, .invokestatic 75, 3, 0, 0, 1409, m_copy),
   (105, .aload_n 0, 1, 0, 0, 0, m0),
   (106, .getfield 37, 3, 7, 0, 278, m0),
   (109, .aload_n 1, 1, 0, 0, 0, m0),
   (110, .getfield 37, 3, 7, 0, 278, m0),
   (113, .invokevirtual 81, 3, 0, 0, 1410, m_Waiting_takeFrom),
   (116, .aload_n 0, 1, 0, 0, 0, m0),
   (117, .aload_n 1, 1, 0, 0, 0, m0),
   (118, .getfield 41, 3, 8, 0, 280, m0),
   (121, .putfield 41, 3, 8, 0, 280, m0),
   (124, .nop, 0, 0, 0, 0, m0)]),
  (124, [0, 1], true, [(124, .aload_n 0, 1, 0, 0, 0, m0),
   (125, .aload_n 1, 1, 0, 0, 0, m0),
   (126, .getfield 45, 3, 9, 0, 284, m0),
   (129, .putfield 45, 3, 9, 0, 284, m0),
   (132, .aload_n 0, 1, 0, 0, 0, m0),
   (133, .aload_n 1, 1, 0, 0, 0, m0),
   (134, .getfield 48, 3, 10, 0, 287, m0),
   (137, .putfield 48, 3, 10, 0, 287, m0),
   (140, .aload_n 0, 1, 0, 0, 0, m0),
   (141, .aload_n 1, 1, 0, 0, 0, m0),
   (142, .getfield 51, 3, 11, 0, 290, m0),
   (145, .putfield 51, 3, 11, 0, 290, m0),
   (148, .aload_n 0, 1, 0, 0, 0, m0),
   (149, .aload_n 1, 1, 0, 0, 0, m0),
   (150, .getfield 54, 3, 12, 0, 293, m0),
   (153, .putfield 54, 3, 12, 0, 293, m0),
   (156, .aload_n 0, 1, 0, 0, 0, m0),
   (157, .aload_n 1, 1, 0, 0, 0, m0),
   (158, .getfield 57, 3, 13, 0, 296, m0),
   (161, .putfield 57, 3, 13, 0, 296, m0),
   (164, .aload_n 0, 1, 0, 0, 0, m0),
   (165, .aload_n 1, 1, 0, 0, 0, m0),
   (166, .getfield 60, 3, 14, 0, 299, m0),
   (169, .putfield 60, 3, 14, 0, 299, m0),
   (172, .aload_n 0, 1, 0, 0, 0, m0),
   (173, .aload_n 1, 1, 0, 0, 0, m0),
   (174, .getfield 63, 3, 15, 0, 301, m0),
   (177, .putfield 63, 3, 15, 0, 301, m0),
   (180, .return_, 1, 0, 0, 0, m0)])]
theorem ok_Choir_takeFrom : okBt m_Choir_takeFrom bt_Choir_takeFrom = true := by decide +kernel
set_option maxRecDepth 100000 in
theorem b_Choir_takeFrom_0 {l : Launch} {E : EnvT} {d : Nat} {K : AV → Mem → Prop} {M : Mem} {r r2 : Nat}  (hd : 1 ≤ d)
  (h : (¬ (iN 0) < 0 ∧ ¬ (iN 0) < 0 ∧ ¬ (iN 8) < 0 ∧ ((iN 0)).toNatClampNeg + ((iN 8)).toNatClampNeg ≤ 8 ∧ ((iN 0)).toNatClampNeg + ((iN 8)).toNatClampNeg ≤ 8 ∧ ¬ (iN 0) < 0 ∧ ¬ (iN 0) < 0 ∧ ¬ (iN 8) < 0 ∧ ((iN 0)).toNatClampNeg + ((iN 8)).toNatClampNeg ≤ 8 ∧ ((iN 0)).toNatClampNeg + ((iN 8)).toNatClampNeg ≤ 8 ∧ ¬ (iN 0) < 0 ∧ ¬ (iN 0) < 0 ∧ ¬ (iN 8) < 0 ∧ ((iN 0)).toNatClampNeg + ((iN 8)).toNatClampNeg ≤ 8 ∧ ((iN 0)).toNatClampNeg + ((iN 8)).toNatClampNeg ≤ 8 ∧ ¬ (iN 0) < 0 ∧ ¬ (iN 0) < 0 ∧ ¬ (iN 8) < 0 ∧ ((iN 0)).toNatClampNeg + ((iN 8)).toNatClampNeg ≤ 8 ∧ ((iN 0)).toNatClampNeg + ((iN 8)).toNatClampNeg ≤ 8 ∧ G l E d m_Choir_takeFrom 60 [(0, (.ref r, 11)), (1, (.ref r2, 11))] [] (cpyM (cpyM (cpyM (cpyM M r2 1 r 1 ((iN 0)).toNatClampNeg ((iN 0)).toNatClampNeg ((iN 8)).toNatClampNeg) r2 2 r 2 ((iN 0)).toNatClampNeg ((iN 0)).toNatClampNeg ((iN 8)).toNatClampNeg) r2 3 r 3 ((iN 0)).toNatClampNeg ((iN 0)).toNatClampNeg ((iN 8)).toNatClampNeg) r2 4 r 4 ((iN 0)).toNatClampNeg ((iN 0)).toNatClampNeg ((iN 8)).toNatClampNeg) K)) :
  G l E d m_Choir_takeFrom 0 [(0, (.ref r, 11)), (1, (.ref r2, 11))] [] M K := G.blk 60 _ hd ok_Choir_takeFrom rfl h
set_option maxRecDepth 100000 in
theorem b_Choir_takeFrom_60 {l : Launch} {E : EnvT} {d : Nat} {K : AV → Mem → Prop} {M : Mem} {r r2 : Nat}  (hd : 1 ≤ d)
  (h : (¬ (iN 0) < 0 ∧ ¬ (iN 0) < 0 ∧ ¬ (iN 48) < 0 ∧ ((iN 0)).toNatClampNeg + ((iN 48)).toNatClampNeg ≤ 48 ∧ ((iN 0)).toNatClampNeg + ((iN 48)).toNatClampNeg ≤ 48 ∧ ¬ (iN 0) < 0 ∧ ¬ (iN 0) < 0 ∧ ¬ (iN 48) < 0 ∧ ((iN 0)).toNatClampNeg + ((iN 48)).toNatClampNeg ≤ 48 ∧ ((iN 0)).toNatClampNeg + ((iN 48)).toNatClampNeg ≤ 48 ∧ ¬ (iN 0) < 0 ∧ ¬ (iN 0) < 0 ∧ ¬ (iN 48) < 0 ∧ ((iN 0)).toNatClampNeg + ((iN 48)).toNatClampNeg ≤ 48 ∧ ((iN 0)).toNatClampNeg + ((iN 48)).toNatClampNeg ≤ 48 ∧ CT l E (d - 1) m_Waiting_takeFrom [(.ref r, 19), (.ref r2, 19)] (cpyM (cpyM (cpyM M r2 5 r 5 ((iN 0)).toNatClampNeg ((iN 0)).toNatClampNeg ((iN 48)).toNatClampNeg) r2 6 r 6 ((iN 0)).toNatClampNeg ((iN 0)).toNatClampNeg ((iN 48)).toNatClampNeg) r2 7 r 7 ((iN 0)).toNatClampNeg ((iN 0)).toNatClampNeg ((iN 48)).toNatClampNeg) (fun v1 M1 =>
   G l E d m_Choir_takeFrom 124 [(0, (.ref r, 11)), (1, (.ref r2, 11))] [] (upd3 M1 r 0 8 ((iN (M1 r2 0 8))).toInt) K))) :
  G l E d m_Choir_takeFrom 60 [(0, (.ref r, 11)), (1, (.ref r2, 11))] [] M K := G.blk 60 _ hd ok_Choir_takeFrom rfl h
set_option maxRecDepth 100000 in
theorem b_Choir_takeFrom_124 {l : Launch} {E : EnvT} {d : Nat} {K : AV → Mem → Prop} {M : Mem} {r r2 : Nat}  (hd : 1 ≤ d)
  (h : K (.null, 0) (upd3 (upd3 (upd3 (upd3 (upd3 (upd3 (upd3 M r 0 9 ((iN (M r2 0 9))).toInt) r 0 10 ((iN ((upd3 M r 0 9 ((iN (M r2 0 9))).toInt) r2 0 10))).toInt) r 0 11 ((iN ((upd3 (upd3 M r 0 9 ((iN (M r2 0 9))).toInt) r 0 10 ((iN ((upd3 M r 0 9 ((iN (M r2 0 9))).toInt) r2 0 10))).toInt) r2 0 11))).toInt) r 0 12 ((iN ((upd3 (upd3 (upd3 M r 0 9 ((iN (M r2 0 9))).toInt) r 0 10 ((iN ((upd3 M r 0 9 ((iN (M r2 0 9))).toInt) r2 0 10))).toInt) r 0 11 ((iN ((upd3 (upd3 M r 0 9 ((iN (M r2 0 9))).toInt) r 0 10 ((iN ((upd3 M r 0 9 ((iN (M r2 0 9))).toInt) r2 0 10))).toInt) r2 0 11))).toInt) r2 0 12))).toInt) r 0 13 ((iN ((upd3 (upd3 (upd3 (upd3 M r 0 9 ((iN (M r2 0 9))).toInt) r 0 10 ((iN ((upd3 M r 0 9 ((iN (M r2 0 9))).toInt) r2 0 10))).toInt) r 0 11 ((iN ((upd3 (upd3 M r 0 9 ((iN (M r2 0 9))).toInt) r 0 10 ((iN ((upd3 M r 0 9 ((iN (M r2 0 9))).toInt) r2 0 10))).toInt) r2 0 11))).toInt) r 0 12 ((iN ((upd3 (upd3 (upd3 M r 0 9 ((iN (M r2 0 9))).toInt) r 0 10 ((iN ((upd3 M r 0 9 ((iN (M r2 0 9))).toInt) r2 0 10))).toInt) r 0 11 ((iN ((upd3 (upd3 M r 0 9 ((iN (M r2 0 9))).toInt) r 0 10 ((iN ((upd3 M r 0 9 ((iN (M r2 0 9))).toInt) r2 0 10))).toInt) r2 0 11))).toInt) r2 0 12))).toInt) r2 0 13))).toInt) r 0 14 ((iN ((upd3 (upd3 (upd3 (upd3 (upd3 M r 0 9 ((iN (M r2 0 9))).toInt) r 0 10 ((iN ((upd3 M r 0 9 ((iN (M r2 0 9))).toInt) r2 0 10))).toInt) r 0 11 ((iN ((upd3 (upd3 M r 0 9 ((iN (M r2 0 9))).toInt) r 0 10 ((iN ((upd3 M r 0 9 ((iN (M r2 0 9))).toInt) r2 0 10))).toInt) r2 0 11))).toInt) r 0 12 ((iN ((upd3 (upd3 (upd3 M r 0 9 ((iN (M r2 0 9))).toInt) r 0 10 ((iN ((upd3 M r 0 9 ((iN (M r2 0 9))).toInt) r2 0 10))).toInt) r 0 11 ((iN ((upd3 (upd3 M r 0 9 ((iN (M r2 0 9))).toInt) r 0 10 ((iN ((upd3 M r 0 9 ((iN (M r2 0 9))).toInt) r2 0 10))).toInt) r2 0 11))).toInt) r2 0 12))).toInt) r 0 13 ((iN ((upd3 (upd3 (upd3 (upd3 M r 0 9 ((iN (M r2 0 9))).toInt) r 0 10 ((iN ((upd3 M r 0 9 ((iN (M r2 0 9))).toInt) r2 0 10))).toInt) r 0 11 ((iN ((upd3 (upd3 M r 0 9 ((iN (M r2 0 9))).toInt) r 0 10 ((iN ((upd3 M r 0 9 ((iN (M r2 0 9))).toInt) r2 0 10))).toInt) r2 0 11))).toInt) r 0 12 ((iN ((upd3 (upd3 (upd3 M r 0 9 ((iN (M r2 0 9))).toInt) r 0 10 ((iN ((upd3 M r 0 9 ((iN (M r2 0 9))).toInt) r2 0 10))).toInt) r 0 11 ((iN ((upd3 (upd3 M r 0 9 ((iN (M r2 0 9))).toInt) r 0 10 ((iN ((upd3 M r 0 9 ((iN (M r2 0 9))).toInt) r2 0 10))).toInt) r2 0 11))).toInt) r2 0 12))).toInt) r2 0 13))).toInt) r2 0 14))).toInt) r 0 15 ((iN ((upd3 (upd3 (upd3 (upd3 (upd3 (upd3 M r 0 9 ((iN (M r2 0 9))).toInt) r 0 10 ((iN ((upd3 M r 0 9 ((iN (M r2 0 9))).toInt) r2 0 10))).toInt) r 0 11 ((iN ((upd3 (upd3 M r 0 9 ((iN (M r2 0 9))).toInt) r 0 10 ((iN ((upd3 M r 0 9 ((iN (M r2 0 9))).toInt) r2 0 10))).toInt) r2 0 11))).toInt) r 0 12 ((iN ((upd3 (upd3 (upd3 M r 0 9 ((iN (M r2 0 9))).toInt) r 0 10 ((iN ((upd3 M r 0 9 ((iN (M r2 0 9))).toInt) r2 0 10))).toInt) r 0 11 ((iN ((upd3 (upd3 M r 0 9 ((iN (M r2 0 9))).toInt) r 0 10 ((iN ((upd3 M r 0 9 ((iN (M r2 0 9))).toInt) r2 0 10))).toInt) r2 0 11))).toInt) r2 0 12))).toInt) r 0 13 ((iN ((upd3 (upd3 (upd3 (upd3 M r 0 9 ((iN (M r2 0 9))).toInt) r 0 10 ((iN ((upd3 M r 0 9 ((iN (M r2 0 9))).toInt) r2 0 10))).toInt) r 0 11 ((iN ((upd3 (upd3 M r 0 9 ((iN (M r2 0 9))).toInt) r 0 10 ((iN ((upd3 M r 0 9 ((iN (M r2 0 9))).toInt) r2 0 10))).toInt) r2 0 11))).toInt) r 0 12 ((iN ((upd3 (upd3 (upd3 M r 0 9 ((iN (M r2 0 9))).toInt) r 0 10 ((iN ((upd3 M r 0 9 ((iN (M r2 0 9))).toInt) r2 0 10))).toInt) r 0 11 ((iN ((upd3 (upd3 M r 0 9 ((iN (M r2 0 9))).toInt) r 0 10 ((iN ((upd3 M r 0 9 ((iN (M r2 0 9))).toInt) r2 0 10))).toInt) r2 0 11))).toInt) r2 0 12))).toInt) r2 0 13))).toInt) r 0 14 ((iN ((upd3 (upd3 (upd3 (upd3 (upd3 M r 0 9 ((iN (M r2 0 9))).toInt) r 0 10 ((iN ((upd3 M r 0 9 ((iN (M r2 0 9))).toInt) r2 0 10))).toInt) r 0 11 ((iN ((upd3 (upd3 M r 0 9 ((iN (M r2 0 9))).toInt) r 0 10 ((iN ((upd3 M r 0 9 ((iN (M r2 0 9))).toInt) r2 0 10))).toInt) r2 0 11))).toInt) r 0 12 ((iN ((upd3 (upd3 (upd3 M r 0 9 ((iN (M r2 0 9))).toInt) r 0 10 ((iN ((upd3 M r 0 9 ((iN (M r2 0 9))).toInt) r2 0 10))).toInt) r 0 11 ((iN ((upd3 (upd3 M r 0 9 ((iN (M r2 0 9))).toInt) r 0 10 ((iN ((upd3 M r 0 9 ((iN (M r2 0 9))).toInt) r2 0 10))).toInt) r2 0 11))).toInt) r2 0 12))).toInt) r 0 13 ((iN ((upd3 (upd3 (upd3 (upd3 M r 0 9 ((iN (M r2 0 9))).toInt) r 0 10 ((iN ((upd3 M r 0 9 ((iN (M r2 0 9))).toInt) r2 0 10))).toInt) r 0 11 ((iN ((upd3 (upd3 M r 0 9 ((iN (M r2 0 9))).toInt) r 0 10 ((iN ((upd3 M r 0 9 ((iN (M r2 0 9))).toInt) r2 0 10))).toInt) r2 0 11))).toInt) r 0 12 ((iN ((upd3 (upd3 (upd3 M r 0 9 ((iN (M r2 0 9))).toInt) r 0 10 ((iN ((upd3 M r 0 9 ((iN (M r2 0 9))).toInt) r2 0 10))).toInt) r 0 11 ((iN ((upd3 (upd3 M r 0 9 ((iN (M r2 0 9))).toInt) r 0 10 ((iN ((upd3 M r 0 9 ((iN (M r2 0 9))).toInt) r2 0 10))).toInt) r2 0 11))).toInt) r2 0 12))).toInt) r2 0 13))).toInt) r2 0 14))).toInt) r2 0 15))).toInt)) :
  G l E d m_Choir_takeFrom 124 [(0, (.ref r, 11)), (1, (.ref r2, 11))] [] M K := G.blk 60 _ hd ok_Choir_takeFrom rfl h
end
section
def bt_Years_forget : BtT := [(0, [0], true, [(0, .aload_n 0, 1, 0, 0, 0, m0),
   (1, .iconst 0, 1, 0, 0, 0, m0),
   (2, .putfield 30, 3, 6, 8, 359, m0),
   (5, .aload_n 0, 1, 0, 0, 0, m0),
   (6, .iconst 0, 1, 0, 0, 0, m0),
   (7, .putfield 34, 3, 7, 8, 361, m0),
   (10, .aload_n 0, 1, 0, 0, 0, m0),
   (11, .iconst 0, 1, 0, 0, 0, m0),
   (12, .putfield 37, 3, 8, 8, 364, m0),
   (15, .return_, 1, 0, 0, 0, m0)])]
theorem ok_Years_forget : okBt m_Years_forget bt_Years_forget = true := by decide +kernel
set_option maxRecDepth 100000 in
theorem b_Years_forget_0 {l : Launch} {E : EnvT} {d : Nat} {K : AV → Mem → Prop} {M : Mem} {r : Nat}  (hd : 1 ≤ d)
  (h : (((iN 0) = 0 ∨ (iN 0) = 1) ∧ K (.null, 0) (upd3 (upd3 (upd3 M r 0 6 ((iN 0)).toInt) r 0 7 ((iN 0)).toInt) r 0 8 ((iN 0)).toInt))) :
  G l E d m_Years_forget 0 [(0, (.ref r, 23))] [] M K := G.blk 60 _ hd ok_Years_forget rfl h
def bt_Years_addEnd : BtT := [(0, [0, 1], true, [(0, .aload_n 0, 1, 0, 0, 0, m0),
   (1, .getfield 11, 3, 0, 8, 342, m0),
   (4, .aload_n 0, 1, 0, 0, 0, m0),
   (5, .getfield 30, 3, 6, 8, 359, m0),
   (8, .bipush 20, 2, 0, 0, 0, m0),
   (10, .iastore, 1, 0, 0, 0, m0),
   (11, .aload_n 0, 1, 0, 0, 0, m0),
   (12, .getfield 27, 3, 5, 8, 357, m0),
   (15, .aload_n 0, 1, 0, 0, 0, m0),
   (16, .getfield 30, 3, 6, 8, 359, m0),
   (19, .iload_n 1, 1, 0, 0, 0, m0),
   (20, .iastore, 1, 0, 0, 0, m0),
   (21, .aload_n 0, 1, 0, 0, 0, m0),
   (22, .getfield 27, 3, 5, 8, 357, m0),
   (25, .iload_n 1, 1, 0, 0, 0, m0),
   (26, .aload_n 0, 1, 0, 0, 0, m0),
   (27, .getfield 30, 3, 6, 8, 359, m0),
   (30, .iastore, 1, 0, 0, 0, m0),
   (31, .aload_n 0, 1, 0, 0, 0, m0),
   (32, .dup, 1, 0, 0, 0, m0),
   (33, .getfield 30, 3, 6, 8, 359, m0),
   (36, .iconst 1, 1, 0, 0, 0, m0),
   (37, .iadd, 1, 0, 0, 0, m0),
   (38, .putfield 30, 3, 6, 8, 359, m0),
   (41, .return_, 1, 0, 0, 0, m0)])]
theorem ok_Years_addEnd : okBt m_Years_addEnd bt_Years_addEnd = true := by decide +kernel
set_option maxRecDepth 100000 in
theorem b_Years_addEnd_0 {l : Launch} {E : EnvT} {d : Nat} {K : AV → Mem → Prop} {M : Mem} {r : Nat} {x1 : Int32} (hd : 1 ≤ d)
  (h : (vp_in (iN (M r 0 6)) 60 ∧ vp_in (iN ((upd3 M r 1 ((iN (M r 0 6))).toNatClampNeg ((iN 20)).toInt) r 0 6)) 60 ∧ vp_in x1 60 ∧ K (.null, 0) (upd3 (upd3 (upd3 (upd3 M r 1 ((iN (M r 0 6))).toNatClampNeg ((iN 20)).toInt) r 6 ((iN ((upd3 M r 1 ((iN (M r 0 6))).toNatClampNeg ((iN 20)).toInt) r 0 6))).toNatClampNeg (x1).toInt) r 6 (x1).toNatClampNeg ((iN ((upd3 (upd3 M r 1 ((iN (M r 0 6))).toNatClampNeg ((iN 20)).toInt) r 6 ((iN ((upd3 M r 1 ((iN (M r 0 6))).toNatClampNeg ((iN 20)).toInt) r 0 6))).toNatClampNeg (x1).toInt) r 0 6))).toInt) r 0 6 (((iN ((upd3 (upd3 (upd3 M r 1 ((iN (M r 0 6))).toNatClampNeg ((iN 20)).toInt) r 6 ((iN ((upd3 M r 1 ((iN (M r 0 6))).toNatClampNeg ((iN 20)).toInt) r 0 6))).toNatClampNeg (x1).toInt) r 6 (x1).toNatClampNeg ((iN ((upd3 (upd3 M r 1 ((iN (M r 0 6))).toNatClampNeg ((iN 20)).toInt) r 6 ((iN ((upd3 M r 1 ((iN (M r 0 6))).toNatClampNeg ((iN 20)).toInt) r 0 6))).toNatClampNeg (x1).toInt) r 0 6))).toInt) r 0 6)) + (iN 1))).toInt))) :
  G l E d m_Years_addEnd 0 [(0, (.ref r, 23)), (1, (.int x1, 0))] [] M K := G.blk 60 _ hd ok_Years_addEnd rfl h
def bt_Years_addStep : BtT := [(0, [0, 1], true, [(0, .aload_n 0, 1, 0, 0, 0, m0),
   (1, .getfield 11, 3, 0, 8, 342, m0),
   (4, .aload_n 0, 1, 0, 0, 0, m0),
   (5, .getfield 30, 3, 6, 8, 359, m0),
   (8, .iload_n 1, 1, 0, 0, 0, m0),
   (9, .iastore, 1, 0, 0, 0, m0),
   (10, .aload_n 0, 1, 0, 0, 0, m0),
   (11, .getfield 15, 3, 1, 8, 345, m0),
   (14, .aload_n 0, 1, 0, 0, 0, m0),
   (15, .getfield 30, 3, 6, 8, 359, m0),
   (18, .iconst (-1), 1, 0, 0, 0, m0),
   (19, .iastore, 1, 0, 0, 0, m0),
   (20, .aload_n 0, 1, 0, 0, 0, m0),
   (21, .getfield 18, 3, 2, 8, 348, m0),
   (24, .aload_n 0, 1, 0, 0, 0, m0),
   (25, .getfield 30, 3, 6, 8, 359, m0),
   (28, .iconst (-1), 1, 0, 0, 0, m0),
   (29, .iastore, 1, 0, 0, 0, m0),
   (30, .aload_n 0, 1, 0, 0, 0, m0),
   (31, .getfield 21, 3, 3, 8, 351, m0),
   (34, .aload_n 0, 1, 0, 0, 0, m0),
   (35, .getfield 30, 3, 6, 8, 359, m0),
   (38, .iconst 0, 1, 0, 0, 0, m0),
   (39, .iastore, 1, 0, 0, 0, m0),
   (40, .aload_n 0, 1, 0, 0, 0, m0),
   (41, .dup, 1, 0, 0, 0, m0),
   (42, .getfield 34, 3, 7, 8, 361, m0),
   (45, .iconst 1, 1, 0, 0, 0, m0),
   (46, .iadd, 1, 0, 0, 0, m0),
   (47, .putfield 34, 3, 7, 8, 361, m0),
   (50, .aload_n 0, 1, 0, 0, 0, m0),
   (51, .dup, 1, 0, 0, 0, m0),
   (52, .getfield 30, 3, 6, 8, 359, m0),
   (55, .iconst 1, 1, 0, 0, 0, m0),
   (56, .iadd, 1, 0, 0, 0, m0),
   (57, .putfield 30, 3, 6, 8, 359, m0),
   (60, .nop, 0, 0, 0, 0, m0)]),
  (60, [0], true, [(60, .aload_n 0, 1, 0, 0, 0, m0),
   (61, .getfield 30, 3, 6, 8, 359, m0),
   (64, .iconst 1, 1, 0, 0, 0, m0),
   (65, .isub, 1, 0, 0, 0, m0),
   (66, .ireturn, 1, 0, 0, 0, m0)])]
theorem ok_Years_addStep : okBt m_Years_addStep bt_Years_addStep = true := by decide +kernel
set_option maxRecDepth 100000 in
theorem b_Years_addStep_0 {l : Launch} {E : EnvT} {d : Nat} {K : AV → Mem → Prop} {M : Mem} {r : Nat} {x1 : Int32} (hd : 1 ≤ d)
  (h : (vp_in (iN (M r 0 6)) 60 ∧ vp_in (iN ((upd3 M r 1 ((iN (M r 0 6))).toNatClampNeg (x1).toInt) r 0 6)) 60 ∧ vp_in (iN ((upd3 (upd3 M r 1 ((iN (M r 0 6))).toNatClampNeg (x1).toInt) r 2 ((iN ((upd3 M r 1 ((iN (M r 0 6))).toNatClampNeg (x1).toInt) r 0 6))).toNatClampNeg ((iN (-1))).toInt) r 0 6)) 60 ∧ vp_in (iN ((upd3 (upd3 (upd3 M r 1 ((iN (M r 0 6))).toNatClampNeg (x1).toInt) r 2 ((iN ((upd3 M r 1 ((iN (M r 0 6))).toNatClampNeg (x1).toInt) r 0 6))).toNatClampNeg ((iN (-1))).toInt) r 3 ((iN ((upd3 (upd3 M r 1 ((iN (M r 0 6))).toNatClampNeg (x1).toInt) r 2 ((iN ((upd3 M r 1 ((iN (M r 0 6))).toNatClampNeg (x1).toInt) r 0 6))).toNatClampNeg ((iN (-1))).toInt) r 0 6))).toNatClampNeg ((iN (-1))).toInt) r 0 6)) 60 ∧ G l E d m_Years_addStep 60 [(0, (.ref r, 23))] [] (upd3 (upd3 (upd3 (upd3 (upd3 (upd3 M r 1 ((iN (M r 0 6))).toNatClampNeg (x1).toInt) r 2 ((iN ((upd3 M r 1 ((iN (M r 0 6))).toNatClampNeg (x1).toInt) r 0 6))).toNatClampNeg ((iN (-1))).toInt) r 3 ((iN ((upd3 (upd3 M r 1 ((iN (M r 0 6))).toNatClampNeg (x1).toInt) r 2 ((iN ((upd3 M r 1 ((iN (M r 0 6))).toNatClampNeg (x1).toInt) r 0 6))).toNatClampNeg ((iN (-1))).toInt) r 0 6))).toNatClampNeg ((iN (-1))).toInt) r 4 ((iN ((upd3 (upd3 (upd3 M r 1 ((iN (M r 0 6))).toNatClampNeg (x1).toInt) r 2 ((iN ((upd3 M r 1 ((iN (M r 0 6))).toNatClampNeg (x1).toInt) r 0 6))).toNatClampNeg ((iN (-1))).toInt) r 3 ((iN ((upd3 (upd3 M r 1 ((iN (M r 0 6))).toNatClampNeg (x1).toInt) r 2 ((iN ((upd3 M r 1 ((iN (M r 0 6))).toNatClampNeg (x1).toInt) r 0 6))).toNatClampNeg ((iN (-1))).toInt) r 0 6))).toNatClampNeg ((iN (-1))).toInt) r 0 6))).toNatClampNeg ((iN 0)).toInt) r 0 7 (((iN ((upd3 (upd3 (upd3 (upd3 M r 1 ((iN (M r 0 6))).toNatClampNeg (x1).toInt) r 2 ((iN ((upd3 M r 1 ((iN (M r 0 6))).toNatClampNeg (x1).toInt) r 0 6))).toNatClampNeg ((iN (-1))).toInt) r 3 ((iN ((upd3 (upd3 M r 1 ((iN (M r 0 6))).toNatClampNeg (x1).toInt) r 2 ((iN ((upd3 M r 1 ((iN (M r 0 6))).toNatClampNeg (x1).toInt) r 0 6))).toNatClampNeg ((iN (-1))).toInt) r 0 6))).toNatClampNeg ((iN (-1))).toInt) r 4 ((iN ((upd3 (upd3 (upd3 M r 1 ((iN (M r 0 6))).toNatClampNeg (x1).toInt) r 2 ((iN ((upd3 M r 1 ((iN (M r 0 6))).toNatClampNeg (x1).toInt) r 0 6))).toNatClampNeg ((iN (-1))).toInt) r 3 ((iN ((upd3 (upd3 M r 1 ((iN (M r 0 6))).toNatClampNeg (x1).toInt) r 2 ((iN ((upd3 M r 1 ((iN (M r 0 6))).toNatClampNeg (x1).toInt) r 0 6))).toNatClampNeg ((iN (-1))).toInt) r 0 6))).toNatClampNeg ((iN (-1))).toInt) r 0 6))).toNatClampNeg ((iN 0)).toInt) r 0 7)) + (iN 1))).toInt) r 0 6 (((iN ((upd3 (upd3 (upd3 (upd3 (upd3 M r 1 ((iN (M r 0 6))).toNatClampNeg (x1).toInt) r 2 ((iN ((upd3 M r 1 ((iN (M r 0 6))).toNatClampNeg (x1).toInt) r 0 6))).toNatClampNeg ((iN (-1))).toInt) r 3 ((iN ((upd3 (upd3 M r 1 ((iN (M r 0 6))).toNatClampNeg (x1).toInt) r 2 ((iN ((upd3 M r 1 ((iN (M r 0 6))).toNatClampNeg (x1).toInt) r 0 6))).toNatClampNeg ((iN (-1))).toInt) r 0 6))).toNatClampNeg ((iN (-1))).toInt) r 4 ((iN ((upd3 (upd3 (upd3 M r 1 ((iN (M r 0 6))).toNatClampNeg (x1).toInt) r 2 ((iN ((upd3 M r 1 ((iN (M r 0 6))).toNatClampNeg (x1).toInt) r 0 6))).toNatClampNeg ((iN (-1))).toInt) r 3 ((iN ((upd3 (upd3 M r 1 ((iN (M r 0 6))).toNatClampNeg (x1).toInt) r 2 ((iN ((upd3 M r 1 ((iN (M r 0 6))).toNatClampNeg (x1).toInt) r 0 6))).toNatClampNeg ((iN (-1))).toInt) r 0 6))).toNatClampNeg ((iN (-1))).toInt) r 0 6))).toNatClampNeg ((iN 0)).toInt) r 0 7 (((iN ((upd3 (upd3 (upd3 (upd3 M r 1 ((iN (M r 0 6))).toNatClampNeg (x1).toInt) r 2 ((iN ((upd3 M r 1 ((iN (M r 0 6))).toNatClampNeg (x1).toInt) r 0 6))).toNatClampNeg ((iN (-1))).toInt) r 3 ((iN ((upd3 (upd3 M r 1 ((iN (M r 0 6))).toNatClampNeg (x1).toInt) r 2 ((iN ((upd3 M r 1 ((iN (M r 0 6))).toNatClampNeg (x1).toInt) r 0 6))).toNatClampNeg ((iN (-1))).toInt) r 0 6))).toNatClampNeg ((iN (-1))).toInt) r 4 ((iN ((upd3 (upd3 (upd3 M r 1 ((iN (M r 0 6))).toNatClampNeg (x1).toInt) r 2 ((iN ((upd3 M r 1 ((iN (M r 0 6))).toNatClampNeg (x1).toInt) r 0 6))).toNatClampNeg ((iN (-1))).toInt) r 3 ((iN ((upd3 (upd3 M r 1 ((iN (M r 0 6))).toNatClampNeg (x1).toInt) r 2 ((iN ((upd3 M r 1 ((iN (M r 0 6))).toNatClampNeg (x1).toInt) r 0 6))).toNatClampNeg ((iN (-1))).toInt) r 0 6))).toNatClampNeg ((iN (-1))).toInt) r 0 6))).toNatClampNeg ((iN 0)).toInt) r 0 7)) + (iN 1))).toInt) r 0 6)) + (iN 1))).toInt) K)) :
  G l E d m_Years_addStep 0 [(0, (.ref r, 23)), (1, (.int x1, 0))] [] M K := G.blk 60 _ hd ok_Years_addStep rfl h
set_option maxRecDepth 100000 in
theorem b_Years_addStep_60 {l : Launch} {E : EnvT} {d : Nat} {K : AV → Mem → Prop} {M : Mem} {r : Nat}  (hd : 1 ≤ d)
  (h : K (.int ((iN (M r 0 6)) - (iN 1)), 0) M) :
  G l E d m_Years_addStep 60 [(0, (.ref r, 23))] [] M K := G.blk 60 _ hd ok_Years_addStep rfl h
def bt_Years_takeFrom : BtT := [(0, [0, 1], true, [(0, .aload_n 1, 1, 0, 0, 0, m0),
   (1, .getfield 11, 3, 0, 8, 342, m0),
   (4, .iconst 0, 1, 0, 0, 0, m0),
   (5, .aload_n 0, 1, 0, 0, 0, m0),
   (6, .getfield 11, 3, 0, 8, 342, m0),
   (9, .iconst 0, 1, 0, 0, 0, m0),
   (10, .bipush 60, 2, 0, 0, 0, m0),
   (12, .invokestatic 41, 3, 0, 0, 1428, m_copy),
   (15, .aload_n 1, 1, 0, 0, 0, m0),
   (16, .getfield 15, 3, 1, 8, 345, m0),
   (19, .iconst 0, 1, 0, 0, 0, m0),
   (20, .aload_n 0, 1, 0, 0, 0, m0),
   (21, .getfield 15, 3, 1, 8, 345, m0),
   (24, .iconst 0, 1, 0, 0, 0, m0),
   (25, .bipush 60, 2, 0, 0, 0, m0),
   (27, .invokestatic 41, 3, 0, 0, 1428, m_copy),
   (30, .aload_n 1, 1, 0, 0, 0, m0),
   (31, .getfield 18, 3, 2, 8, 348, m0),
   (34, .iconst 0, 1, 0, 0, 0, m0),
   (35, .aload_n 0, 1, 0, 0, 0, m0),
   (36, .getfield 18, 3, 2, 8, 348, m0),
   (39, .iconst 0, 1, 0, 0, 0, m0),
   (40, .bipush 60, 2, 0, 0, 0, m0),
   (42, .invokestatic 41, 3, 0, 0, 1428, m_copy),
   (45, .aload_n 1, 1, 0, 0, 0, m0),
   (46, .getfield 21, 3, 3, 8, 351, m0),
   (49, .iconst 0, 1, 0, 0, 0, m0),
   (50, .aload_n 0, 1, 0, 0, 0, m0),
   (51, .getfield 21, 3, 3, 8, 351, m0),
   (54, .iconst 0, 1, 0, 0, 0, m0),
   (55, .bipush 60, 2, 0, 0, 0, m0),
   (57, .invokestatic 41, 3, 0, 0, 1428, m_copy),
   (60, .nop, 0, 0, 0, 0, m0)]),
  (60, [0, 1], true, [(60, .aload_n 1, 1, 0, 0, 0, m0),
   (61, .getfield 24, 3, 4, 8, 354, m0),
   (64, .iconst 0, 1, 0, 0, 0, m0),
   (65, .aload_n 0, 1, 0, 0, 0, m0),
   (66, .getfield 24, 3, 4, 8, 354, m0),
   (69, .iconst 0, 1, 0, 0, 0, m0),
   (70, .bipush 60, 2, 0, 0, 0, m0),
   (72, .invokestatic 41, 3, 0, 0, 1428, m_copy),
   (75, .aload_n 1, 1, 0, 0, 0, m0),
   (76, .getfield 27, 3, 5, 8, 357, m0),
   (79, .iconst 0, 1, 0, 0, 0, m0),
   (80, .aload_n 0, 1, 0, 0, 0, m0),
   (81, .getfield 27, 3, 5, 8, 357, m0),
   (84, .iconst 0, 1, 0, 0, 0, m0),
   (85, .bipush 60, 2, 0, 0, 0, m0),
   (87, .invokestatic 41, 3, 0, 0, 1428, m_copy),
   (90, .aload_n 0, 1, 0, 0, 0, m0),
   (91, .aload_n 1, 1, 0, 0, 0, m0),
   (92, .getfield 30, 3, 6, 8, 359, m0),
   (95, .putfield 30, 3, 6, 8, 359, m0),
   (98, .aload_n 0, 1, 0, 0, 0, m0),
   (99, .aload_n 1, 1, 0, 0, 0, m0),
   (100, .getfield 34, 3, 7, 8, 361, m0),
   (103, .putfield 34, 3, 7, 8, 361, m0),
   (106, .aload_n 0, 1, 0, 0, 0, m0),
   (107, .aload_n 1, 1, 0, 0, 0, m0),
   (108, .getfield 37, 3, 8, 8, 364, m0),
   (111, .putfield 37, 3, 8, 8, 364, m0),
   (114, .return_, 1, 0, 0, 0, m0)])]
theorem ok_Years_takeFrom : okBt m_Years_takeFrom bt_Years_takeFrom = true := by decide +kernel
set_option maxRecDepth 100000 in
theorem b_Years_takeFrom_0 {l : Launch} {E : EnvT} {d : Nat} {K : AV → Mem → Prop} {M : Mem} {r r2 : Nat}  (hd : 1 ≤ d)
  (h : (¬ (iN 0) < 0 ∧ ¬ (iN 0) < 0 ∧ ¬ (iN 60) < 0 ∧ ((iN 0)).toNatClampNeg + ((iN 60)).toNatClampNeg ≤ 60 ∧ ((iN 0)).toNatClampNeg + ((iN 60)).toNatClampNeg ≤ 60 ∧ ¬ (iN 0) < 0 ∧ ¬ (iN 0) < 0 ∧ ¬ (iN 60) < 0 ∧ ((iN 0)).toNatClampNeg + ((iN 60)).toNatClampNeg ≤ 60 ∧ ((iN 0)).toNatClampNeg + ((iN 60)).toNatClampNeg ≤ 60 ∧ ¬ (iN 0) < 0 ∧ ¬ (iN 0) < 0 ∧ ¬ (iN 60) < 0 ∧ ((iN 0)).toNatClampNeg + ((iN 60)).toNatClampNeg ≤ 60 ∧ ((iN 0)).toNatClampNeg + ((iN 60)).toNatClampNeg ≤ 60 ∧ ¬ (iN 0) < 0 ∧ ¬ (iN 0) < 0 ∧ ¬ (iN 60) < 0 ∧ ((iN 0)).toNatClampNeg + ((iN 60)).toNatClampNeg ≤ 60 ∧ ((iN 0)).toNatClampNeg + ((iN 60)).toNatClampNeg ≤ 60 ∧ G l E d m_Years_takeFrom 60 [(0, (.ref r, 23)), (1, (.ref r2, 23))] [] (cpyM (cpyM (cpyM (cpyM M r2 1 r 1 ((iN 0)).toNatClampNeg ((iN 0)).toNatClampNeg ((iN 60)).toNatClampNeg) r2 2 r 2 ((iN 0)).toNatClampNeg ((iN 0)).toNatClampNeg ((iN 60)).toNatClampNeg) r2 3 r 3 ((iN 0)).toNatClampNeg ((iN 0)).toNatClampNeg ((iN 60)).toNatClampNeg) r2 4 r 4 ((iN 0)).toNatClampNeg ((iN 0)).toNatClampNeg ((iN 60)).toNatClampNeg) K)) :
  G l E d m_Years_takeFrom 0 [(0, (.ref r, 23)), (1, (.ref r2, 23))] [] M K := G.blk 60 _ hd ok_Years_takeFrom rfl h
set_option maxRecDepth 100000 in
theorem b_Years_takeFrom_60 {l : Launch} {E : EnvT} {d : Nat} {K : AV → Mem → Prop} {M : Mem} {r r2 : Nat}  (hd : 1 ≤ d)
  (h : (¬ (iN 0) < 0 ∧ ¬ (iN 0) < 0 ∧ ¬ (iN 60) < 0 ∧ ((iN 0)).toNatClampNeg + ((iN 60)).toNatClampNeg ≤ 60 ∧ ((iN 0)).toNatClampNeg + ((iN 60)).toNatClampNeg ≤ 60 ∧ ¬ (iN 0) < 0 ∧ ¬ (iN 0) < 0 ∧ ¬ (iN 60) < 0 ∧ ((iN 0)).toNatClampNeg + ((iN 60)).toNatClampNeg ≤ 60 ∧ ((iN 0)).toNatClampNeg + ((iN 60)).toNatClampNeg ≤ 60 ∧ ((iN ((upd3 (upd3 (cpyM (cpyM M r2 5 r 5 ((iN 0)).toNatClampNeg ((iN 0)).toNatClampNeg ((iN 60)).toNatClampNeg) r2 6 r 6 ((iN 0)).toNatClampNeg ((iN 0)).toNatClampNeg ((iN 60)).toNatClampNeg) r 0 6 ((iN ((cpyM (cpyM M r2 5 r 5 ((iN 0)).toNatClampNeg ((iN 0)).toNatClampNeg ((iN 60)).toNatClampNeg) r2 6 r 6 ((iN 0)).toNatClampNeg ((iN 0)).toNatClampNeg ((iN 60)).toNatClampNeg) r2 0 6))).toInt) r 0 7 ((iN ((upd3 (cpyM (cpyM M r2 5 r 5 ((iN 0)).toNatClampNeg ((iN 0)).toNatClampNeg ((iN 60)).toNatClampNeg) r2 6 r 6 ((iN 0)).toNatClampNeg ((iN 0)).toNatClampNeg ((iN 60)).toNatClampNeg) r 0 6 ((iN ((cpyM (cpyM M r2 5 r 5 ((iN 0)).toNatClampNeg ((iN 0)).toNatClampNeg ((iN 60)).toNatClampNeg) r2 6 r 6 ((iN 0)).toNatClampNeg ((iN 0)).toNatClampNeg ((iN 60)).toNatClampNeg) r2 0 6))).toInt) r2 0 7))).toInt) r2 0 8)) = 0 ∨ (iN ((upd3 (upd3 (cpyM (cpyM M r2 5 r 5 ((iN 0)).toNatClampNeg ((iN 0)).toNatClampNeg ((iN 60)).toNatClampNeg) r2 6 r 6 ((iN 0)).toNatClampNeg ((iN 0)).toNatClampNeg ((iN 60)).toNatClampNeg) r 0 6 ((iN ((cpyM (cpyM M r2 5 r 5 ((iN 0)).toNatClampNeg ((iN 0)).toNatClampNeg ((iN 60)).toNatClampNeg) r2 6 r 6 ((iN 0)).toNatClampNeg ((iN 0)).toNatClampNeg ((iN 60)).toNatClampNeg) r2 0 6))).toInt) r 0 7 ((iN ((upd3 (cpyM (cpyM M r2 5 r 5 ((iN 0)).toNatClampNeg ((iN 0)).toNatClampNeg ((iN 60)).toNatClampNeg) r2 6 r 6 ((iN 0)).toNatClampNeg ((iN 0)).toNatClampNeg ((iN 60)).toNatClampNeg) r 0 6 ((iN ((cpyM (cpyM M r2 5 r 5 ((iN 0)).toNatClampNeg ((iN 0)).toNatClampNeg ((iN 60)).toNatClampNeg) r2 6 r 6 ((iN 0)).toNatClampNeg ((iN 0)).toNatClampNeg ((iN 60)).toNatClampNeg) r2 0 6))).toInt) r2 0 7))).toInt) r2 0 8)) = 1) ∧ K (.null, 0) (upd3 (upd3 (upd3 (cpyM (cpyM M r2 5 r 5 ((iN 0)).toNatClampNeg ((iN 0)).toNatClampNeg ((iN 60)).toNatClampNeg) r2 6 r 6 ((iN 0)).toNatClampNeg ((iN 0)).toNatClampNeg ((iN 60)).toNatClampNeg) r 0 6 ((iN ((cpyM (cpyM M r2 5 r 5 ((iN 0)).toNatClampNeg ((iN 0)).toNatClampNeg ((iN 60)).toNatClampNeg) r2 6 r 6 ((iN 0)).toNatClampNeg ((iN 0)).toNatClampNeg ((iN 60)).toNatClampNeg) r2 0 6))).toInt) r 0 7 ((iN ((upd3 (cpyM (cpyM M r2 5 r 5 ((iN 0)).toNatClampNeg ((iN 0)).toNatClampNeg ((iN 60)).toNatClampNeg) r2 6 r 6 ((iN 0)).toNatClampNeg ((iN 0)).toNatClampNeg ((iN 60)).toNatClampNeg) r 0 6 ((iN ((cpyM (cpyM M r2 5 r 5 ((iN 0)).toNatClampNeg ((iN 0)).toNatClampNeg ((iN 60)).toNatClampNeg) r2 6 r 6 ((iN 0)).toNatClampNeg ((iN 0)).toNatClampNeg ((iN 60)).toNatClampNeg) r2 0 6))).toInt) r2 0 7))).toInt) r 0 8 ((iN ((upd3 (upd3 (cpyM (cpyM M r2 5 r 5 ((iN 0)).toNatClampNeg ((iN 0)).toNatClampNeg ((iN 60)).toNatClampNeg) r2 6 r 6 ((iN 0)).toNatClampNeg ((iN 0)).toNatClampNeg ((iN 60)).toNatClampNeg) r 0 6 ((iN ((cpyM (cpyM M r2 5 r 5 ((iN 0)).toNatClampNeg ((iN 0)).toNatClampNeg ((iN 60)).toNatClampNeg) r2 6 r 6 ((iN 0)).toNatClampNeg ((iN 0)).toNatClampNeg ((iN 60)).toNatClampNeg) r2 0 6))).toInt) r 0 7 ((iN ((upd3 (cpyM (cpyM M r2 5 r 5 ((iN 0)).toNatClampNeg ((iN 0)).toNatClampNeg ((iN 60)).toNatClampNeg) r2 6 r 6 ((iN 0)).toNatClampNeg ((iN 0)).toNatClampNeg ((iN 60)).toNatClampNeg) r 0 6 ((iN ((cpyM (cpyM M r2 5 r 5 ((iN 0)).toNatClampNeg ((iN 0)).toNatClampNeg ((iN 60)).toNatClampNeg) r2 6 r 6 ((iN 0)).toNatClampNeg ((iN 0)).toNatClampNeg ((iN 60)).toNatClampNeg) r2 0 6))).toInt) r2 0 7))).toInt) r2 0 8))).toInt))) :
  G l E d m_Years_takeFrom 60 [(0, (.ref r, 23)), (1, (.ref r2, 23))] [] M K := G.blk 60 _ hd ok_Years_takeFrom rfl h
end
section
def bt_Life_behindEnd : BtT := [(0, [0, 1, 2], true, [(0, .aload_n 1, 1, 0, 0, 0, m0),
   (1, .getfield 63, 3, 5, 8, 358, m0),
   (4, .iload_n 2, 1, 0, 0, 0, m0),
   (5, .iaload, 1, 0, 0, 0, m0),
   (6, .istore_n 3, 1, 0, 0, 0, m0),
   (7, .aload_n 1, 1, 0, 0, 0, m0),
   (8, .getfield 50, 3, 0, 8, 343, m0),
   (11, .iload_n 3, 1, 0, 0, 0, m0),
   (12, .iaload, 1, 0, 0, 0, m0),
   (13, .bipush 19, 2, 0, 0, 0, m0),
   (15, .if_icmp .ne 26, 3, 41, 0, 0, m0),
   (18, .nop, 0, 0, 0, 0, m0)]),
  (18, [], false, [(18, .aload_n 0, 1, 0, 0, 0, m0),
   (19, .getfield 11, 3, 0, 2, 435, m0),
   (22, .iload_n 3, 1, 0, 0, 0, m0),
   (23, .iaload, 1, 0, 0, 0, m0),
   (24, .ifCond .le 17, 3, 41, 0, 0, m0),
   (27, .nop, 0, 0, 0, 0, m0)]),
  (27, [], false, [(27, .aload_n 0, 1, 0, 0, 0, m0),
   (28, .getfield 11, 3, 0, 2, 435, m0),
   (31, .iload_n 3, 1, 0, 0, 0, m0),
   (32, .dup2, 1, 0, 0, 0, m0),
   (33, .iaload, 1, 0, 0, 0, m0),
   (34, .iconst 1, 1, 0, 0, 0, m0),
   (35, .isub, 1, 0, 0, 0, m0),
   (36, .iastore, 1, 0, 0, 0, m0),
   (37, .iload_n 3, 1, 0, 0, 0, m0),
   (38, .iconst 1, 1, 0, 0, 0, m0),
   (39, .iadd, 1, 0, 0, 0, m0),
   (40, .ireturn, 1, 0, 0, 0, m0)]),
  (41, [], false, [(41, .iload_n 2, 1, 0, 0, 0, m0),
   (42, .iconst 1, 1, 0, 0, 0, m0),
   (43, .iadd, 1, 0, 0, 0, m0),
   (44, .ireturn, 1, 0, 0, 0, m0)])]
theorem ok_Life_behindEnd : okBt m_Life_behindEnd bt_Life_behindEnd = true := by decide +kernel
set_option maxRecDepth 100000 in
theorem b_Life_behindEnd_0 {l : Launch} {E : EnvT} {d : Nat} {K : AV → Mem → Prop} {M : Mem} {r r2 : Nat} {x2 : Int32} (hd : 1 ≤ d)
  (h : (vp_in x2 60 ∧ vp_in (iN (M r2 6 (x2).toNatClampNeg)) 60 ∧ ((¬ (iN (M r2 1 ((iN (M r2 6 (x2).toNatClampNeg))).toNatClampNeg)) = (iN 19) →
   K (.int (x2 + (iN 1)), 0) M) ∧
  ((iN (M r2 1 ((iN (M r2 6 (x2).toNatClampNeg))).toNatClampNeg)) = (iN 19) →
   (vp_in (iN (M r2 6 (x2).toNatClampNeg)) 60 ∧ (((iN (M r 1 ((iN (M r2 6 (x2).toNatClampNeg))).toNatClampNeg)) ≤ 0 →
    K (.int (x2 + (iN 1)), 0) M) ∧
   (¬ (iN (M r 1 ((iN (M r2 6 (x2).toNatClampNeg))).toNatClampNeg)) ≤ 0 →
    (vp_in (iN (M r2 6 (x2).toNatClampNeg)) 60 ∧ vp_in (iN (M r2 6 (x2).toNatClampNeg)) 60 ∧ K (.int ((iN (M r2 6 (x2).toNatClampNeg)) + (iN 1)), 0) (upd3 M r 1 ((iN (M r2 6 (x2).toNatClampNeg))).toNatClampNeg (((iN (M r 1 ((iN (M r2 6 (x2).toNatClampNeg))).toNatClampNeg)) - (iN 1))).toInt))))))))) :
  G l E d m_Life_behindEnd 0 [(0, (.ref r, 37)), (1, (.ref r2, 23)), (2, (.int x2, 0))] [] M K := G.blk 60 _ hd ok_Life_behindEnd rfl h
def bt_Life_compares : BtT := [(0, [0, 1, 2], true, [(0, .iload_n 1, 1, 0, 0, 0, m0),
   (1, .bipush 60, 2, 0, 0, 0, m0),
   (3, .if_icmp .ne 14, 3, 17, 0, 0, m0),
   (6, .nop, 0, 0, 0, 0, m0)]),
  (6, [], false, [(6, .iload_n 0, 1, 0, 0, 0, m0),
   (7, .iload_n 2, 1, 0, 0, 0, m0),
   (8, .if_icmp .ge 7, 3, 15, 0, 0, m0),
   (11, .nop, 0, 0, 0, 0, m0)]),
  (11, [], false, [(11, .iconst 1, 1, 0, 0, 0, m0),
   (12, .goto 4, 3, 16, 0, 0, m0)]),
  (15, [], false, [(15, .iconst 0, 1, 0, 0, 0, m0),
   (16, .nop, 0, 0, 0, 0, m0)]),
  (16, [], false, [(16, .ireturn, 1, 0, 0, 0, m0)]),
  (17, [], false, [(17, .iload_n 1, 1, 0, 0, 0, m0),
   (18, .bipush 62, 2, 0, 0, 0, m0),
   (20, .if_icmp .ne 16, 3, 36, 0, 0, m0),
   (23, .nop, 0, 0, 0, 0, m0)]),
  (23, [], false, [(23, .iload_n 0, 1, 0, 0, 0, m0),
   (24, .iload_n 2, 1, 0, 0, 0, m0),
   (25, .if_icmp .le 7, 3, 32, 0, 0, m0),
   (28, .nop, 0, 0, 0, 0, m0)]),
  (28, [], false, [(28, .iconst 1, 1, 0, 0, 0, m0),
   (29, .goto 17, 3, 46, 0, 0, m0)]),
  (32, [], false, [(32, .iconst 0, 1, 0, 0, 0, m0),
   (33, .goto 13, 3, 46, 0, 0, m0)]),
  (36, [], false, [(36, .iload_n 0, 1, 0, 0, 0, m0),
   (37, .iload_n 2, 1, 0, 0, 0, m0),
   (38, .if_icmp .ne 7, 3, 45, 0, 0, m0),
   (41, .nop, 0, 0, 0, 0, m0)]),
  (41, [], false, [(41, .iconst 1, 1, 0, 0, 0, m0),
   (42, .goto 4, 3, 46, 0, 0, m0)]),
  (45, [], false, [(45, .iconst 0, 1, 0, 0, 0, m0),
   (46, .nop, 0, 0, 0, 0, m0)]),
  (46, [], false, [(46, .ireturn, 1, 0, 0, 0, m0)])]
theorem ok_Life_compares : okBt m_Life_compares bt_Life_compares = true := by decide +kernel
set_option maxRecDepth 100000 in
theorem b_Life_compares_0 {l : Launch} {E : EnvT} {d : Nat} {K : AV → Mem → Prop} {M : Mem} {x0 : Int32} {x1 : Int32} {x2 : Int32} (hd : 1 ≤ d)
  (h : ((¬ x1 = (iN 60) →
   ((¬ x1 = (iN 62) →
    ((¬ x0 = x2 →
     ((((iN 0) = 0 ∨ (iN 0) = 1)) ∧ K (.int (iN 0), 0) M)) ∧
    (x0 = x2 →
     ((((iN 1) = 0 ∨ (iN 1) = 1)) ∧ K (.int (iN 1), 0) M)))) ∧
   (x1 = (iN 62) →
    ((x0 ≤ x2 →
     ((((iN 0) = 0 ∨ (iN 0) = 1)) ∧ K (.int (iN 0), 0) M)) ∧
    (¬ x0 ≤ x2 →
     ((((iN 1) = 0 ∨ (iN 1) = 1)) ∧ K (.int (iN 1), 0) M)))))) ∧
  (x1 = (iN 60) →
   ((x2 ≤ x0 →
    ((((iN 0) = 0 ∨ (iN 0) = 1)) ∧ K (.int (iN 0), 0) M)) ∧
   (¬ x2 ≤ x0 →
    ((((iN 1) = 0 ∨ (iN 1) = 1)) ∧ K (.int (iN 1), 0) M)))))) :
  G l E d m_Life_compares 0 [(0, (.int x0, 0)), (1, (.int x1, 0)), (2, (.int x2, 0))] [] M K := G.blk 60 _ hd ok_Life_compares rfl h
def bt_Life_holds : BtT := [(0, [0, 1, 2], true, [(0, .aload_n 1, 1, 0, 0, 0, m0),
   (1, .getfield 66, 3, 1, 8, 346, m0),
   (4, .iload_n 2, 1, 0, 0, 0, m0),
   (5, .iaload, 1, 0, 0, 0, m0),
   (6, .istore_n 3, 1, 0, 0, 0, m0),
   (7, .aload_n 1, 1, 0, 0, 0, m0),
   (8, .getfield 69, 3, 2, 8, 349, m0),
   (11, .iload_n 2, 1, 0, 0, 0, m0),
   (12, .iaload, 1, 0, 0, 0, m0),
   (13, .istore 4, 2, 0, 0, 0, m0),
   (15, .aload_n 1, 1, 0, 0, 0, m0),
   (16, .getfield 72, 3, 3, 8, 352, m0),
   (19, .iload_n 2, 1, 0, 0, 0, m0),
   (20, .iaload, 1, 0, 0, 0, m0),
   (21, .istore 5, 2, 0, 0, 0, m0),
   (23, .aload_n 1, 1, 0, 0, 0, m0),
   (24, .getfield 50, 3, 0, 8, 343, m0),
   (27, .iload_n 2, 1, 0, 0, 0, m0),
   (28, .iaload, 1, 0, 0, 0, m0),
   (29, .lookupswitch 74 #[(1, 56), (17, 27)], 27, 0, 0, 0, m0)]),
  (56, [], false, [(56, .iload_n 3, 1, 0, 0, 0, m0),
   (57, .iload 4, 2, 0, 0, 0, m0),
   (59, .if_icmp .ne 7, 3, 66, 0, 0, m0),
   (62, .nop, 0, 0, 0, 0, m0)]),
  (62, [], false, [(62, .iconst 0, 1, 0, 0, 0, m0),
   (63, .goto 10, 3, 73, 0, 0, m0)]),
  (66, [], false, [(66, .aload_n 0, 1, 0, 0, 0, m0),
   (67, .iload_n 3, 1, 0, 0, 0, m0),
   (68, .iload 4, 2, 0, 0, 0, m0),
   (70, .invokevirtual 106, 3, 0, 0, 1371, m_Choir_owedBetween),
   (73, .nop, 0, 0, 0, 0, m0)]),
  (73, [], false, [(73, .aload_n 1, 1, 0, 0, 0, m0),
   (74, .getfield 109, 3, 4, 8, 355, m0),
   (77, .iload_n 2, 1, 0, 0, 0, m0),
   (78, .iaload, 1, 0, 0, 0, m0),
   (79, .iload 5, 2, 0, 0, 0, m0),
   (81, .invokestatic 112, 3, 0, 0, 1372, m_Life_compares),
   (84, .ireturn, 1, 0, 0, 0, m0)]),
  (85, [], false, [(85, .aload_n 0, 1, 0, 0, 0, m0),
   (86, .getfield 115, 3, 1, 0, 264, m0),
   (89, .iload_n 3, 1, 0, 0, 0, m0),
   (90, .iaload, 1, 0, 0, 0, m0),
   (91, .aload_n 1, 1, 0, 0, 0, m0),
   (92, .getfield 109, 3, 4, 8, 355, m0),
   (95, .iload_n 2, 1, 0, 0, 0, m0),
   (96, .iaload, 1, 0, 0, 0, m0),
   (97, .iload 5, 2, 0, 0, 0, m0),
   (99, .invokestatic 112, 3, 0, 0, 1372, m_Life_compares),
   (102, .ireturn, 1, 0, 0, 0, m0)]),
  (103, [], false, [(103, .aload_n 0, 1, 0, 0, 0, m0),
   (104, .iload_n 3, 1, 0, 0, 0, m0),
   (105, .invokevirtual 118, 3, 0, 0, 1375, m_Choir_owesInAll),
   (108, .ifCond .ne 15, 3, 123, 0, 0, m0),
   (111, .nop, 0, 0, 0, 0, m0)]),
  (111, [], false, [(111, .aload_n 0, 1, 0, 0, 0, m0),
   (112, .iload_n 3, 1, 0, 0, 0, m0),
   (113, .invokevirtual 121, 3, 0, 0, 1376, m_Choir_isOwedInAll),
   (116, .ifCond .ne 7, 3, 123, 0, 0, m0),
   (119, .nop, 0, 0, 0, 0, m0)]),
  (119, [], false, [(119, .iconst 1, 1, 0, 0, 0, m0),
   (120, .goto 4, 3, 124, 0, 0, m0)]),
  (123, [], false, [(123, .iconst 0, 1, 0, 0, 0, m0),
   (124, .nop, 0, 0, 0, 0, m0)]),
  (124, [], false, [(124, .ireturn, 1, 0, 0, 0, m0)])]
theorem ok_Life_holds : okBt m_Life_holds bt_Life_holds = true := by decide +kernel
set_option maxRecDepth 100000 in
theorem b_Life_holds_0 {l : Launch} {E : EnvT} {d : Nat} {K : AV → Mem → Prop} {M : Mem} {r2 r3 : Nat} {x2 : Int32} (hd : 1 ≤ d)
  (h : (vp_in x2 60 ∧ vp_in x2 60 ∧ vp_in x2 60 ∧ vp_in x2 60 ∧ (((iN (M r3 1 (x2).toNatClampNeg)) = iN 1 →
   (vp_in (iN (M r3 2 (x2).toNatClampNeg)) 8 ∧ vp_in x2 60 ∧ CT l E (d - 1) m_Life_compares [(.int (iN (M r2 2 ((iN (M r3 2 (x2).toNatClampNeg))).toNatClampNeg)), 0), (.int (iN (M r3 5 (x2).toNatClampNeg)), 0), (.int (iN (M r3 4 (x2).toNatClampNeg)), 0)] M (fun v6 M6 =>
    ((((toI v6) = 0 ∨ (toI v6) = 1)) ∧ K (.int (toI v6), 0) M6)))) ∧
  (¬ (iN (M r3 1 (x2).toNatClampNeg)) = iN 1 →
   (((iN (M r3 1 (x2).toNatClampNeg)) = iN 17 →
   ((¬ (iN (M r3 2 (x2).toNatClampNeg)) = (iN (M r3 3 (x2).toNatClampNeg)) →
    CT l E (d - 1) m_Choir_owedBetween [(.ref r2, 11), (.int (iN (M r3 2 (x2).toNatClampNeg)), 0), (.int (iN (M r3 3 (x2).toNatClampNeg)), 0)] M (fun v3 M3 =>
     (vp_in x2 60 ∧ CT l E (d - 1) m_Life_compares [(.int (toI v3), 0), (.int (iN (M3 r3 5 (x2).toNatClampNeg)), 0), (.int (iN (M r3 4 (x2).toNatClampNeg)), 0)] M3 (fun v4 M4 =>
      ((((toI v4) = 0 ∨ (toI v4) = 1)) ∧ K (.int (toI v4), 0) M4))))) ∧
   ((iN (M r3 2 (x2).toNatClampNeg)) = (iN (M r3 3 (x2).toNatClampNeg)) →
    (vp_in x2 60 ∧ CT l E (d - 1) m_Life_compares [(.int (iN 0), 0), (.int (iN (M r3 5 (x2).toNatClampNeg)), 0), (.int (iN (M r3 4 (x2).toNatClampNeg)), 0)] M (fun v5 M5 =>
     ((((toI v5) = 0 ∨ (toI v5) = 1)) ∧ K (.int (toI v5), 0) M5)))))) ∧
  (¬ (iN (M r3 1 (x2).toNatClampNeg)) = iN 17 →
   CT l E (d - 1) m_Choir_owesInAll [(.ref r2, 11), (.int (iN (M r3 2 (x2).toNatClampNeg)), 0)] M (fun v1 M1 =>
    ((¬ (toI v1) = 0 →
     ((((iN 0) = 0 ∨ (iN 0) = 1)) ∧ K (.int (iN 0), 0) M1)) ∧
    ((toI v1) = 0 →
     CT l E (d - 1) m_Choir_isOwedInAll [(.ref r2, 11), (.int (iN (M r3 2 (x2).toNatClampNeg)), 0)] M1 (fun v2 M2 =>
      ((¬ (toI v2) = 0 →
       ((((iN 0) = 0 ∨ (iN 0) = 1)) ∧ K (.int (iN 0), 0) M2)) ∧
      ((toI v2) = 0 →
       ((((iN 1) = 0 ∨ (iN 1) = 1)) ∧ K (.int (iN 1), 0) M2))))))))))))) :
  G l E d m_Life_holds 0 [(0, (.ref r2, 11)), (1, (.ref r3, 23)), (2, (.int x2, 0))] [] M K := G.blk 60 _ hd ok_Life_holds rfl h
def bt_Life_draw : BtT := [(0, [0, 1], true, [(0, .aload_n 0, 1, 0, 0, 0, m0),
   (1, .aload_n 0, 1, 0, 0, 0, m0),
   (2, .getfield 40, 3, 8, 2, 450, m0),
   (5, .sipush 2971, 3, 0, 0, 0, m0),
   (8, .imul, 1, 0, 0, 0, m0),
   (9, .sipush 11173, 3, 0, 0, 0, m0),
   (12, .iadd, 1, 0, 0, 0, m0),
   (13, .ldc 134, 2, 1, 65536, 1392, m0),
   (15, .irem, 1, 0, 0, 0, m0),
   (16, .putfield 40, 3, 8, 2, 450, m0),
   (19, .iload_n 1, 1, 0, 0, 0, m0),
   (20, .ifCond .gt 7, 3, 27, 0, 0, m0),
   (23, .nop, 0, 0, 0, 0, m0)]),
  (23, [], false, [(23, .iconst 0, 1, 0, 0, 0, m0),
   (24, .goto 12, 3, 36, 0, 0, m0)]),
  (27, [], false, [(27, .aload_n 0, 1, 0, 0, 0, m0),
   (28, .getfield 40, 3, 8, 2, 450, m0),
   (31, .bipush 8, 2, 0, 0, 0, m0),
   (33, .idiv, 1, 0, 0, 0, m0),
   (34, .iload_n 1, 1, 0, 0, 0, m0),
   (35, .irem, 1, 0, 0, 0, m0),
   (36, .nop, 0, 0, 0, 0, m0)]),
  (36, [], false, [(36, .ireturn, 1, 0, 0, 0, m0)])]
theorem ok_Life_draw : okBt m_Life_draw bt_Life_draw = true := by decide +kernel
set_option maxRecDepth 100000 in
theorem b_Life_draw_0 {l : Launch} {E : EnvT} {d : Nat} {K : AV → Mem → Prop} {M : Mem} {r : Nat} {x1 : Int32} (hd : 1 ≤ d)
  (h : (¬ (iN 65536) = 0 ∧ ((0 < x1 →
   (¬ (iN 8) = 0 ∧ ¬ x1 = 0 ∧ K (.int (iR ((iN ((upd3 M r 0 8 ((iR (((iN (M r 0 8)) * (iN 2971)) + (iN 11173)) (iN 65536))).toInt) r 0 8)) / (iN 8)) x1), 0) (upd3 M r 0 8 ((iR (((iN (M r 0 8)) * (iN 2971)) + (iN 11173)) (iN 65536))).toInt))) ∧
  (¬ 0 < x1 →
   K (.int (iN 0), 0) (upd3 M r 0 8 ((iR (((iN (M r 0 8)) * (iN 2971)) + (iN 11173)) (iN 65536))).toInt))))) :
  G l E d m_Life_draw 0 [(0, (.ref r, 37)), (1, (.int x1, 0))] [] M K := G.blk 60 _ hd ok_Life_draw rfl h
def bt_Life_lendAny : BtT := [(0, [0, 1], true, [(0, .aload_n 1, 1, 0, 0, 0, m0),
   (1, .invokevirtual 124, 3, 0, 0, 1387, m_Choir_livingCount),
   (4, .istore_n 2, 1, 0, 0, 0, m0),
   (5, .iload_n 2, 1, 0, 0, 0, m0),
   (6, .ifCond .gt 5, 3, 11, 0, 0, m0),
   (9, .nop, 0, 0, 0, 0, m0)]),
  (9, [], false, [(9, .iconst 0, 1, 0, 0, 0, m0),
   (10, .ireturn, 1, 0, 0, 0, m0)]),
  (11, [], false, [(11, .aload_n 1, 1, 0, 0, 0, m0),
   (12, .aload_n 0, 1, 0, 0, 0, m0),
   (13, .iload_n 2, 1, 0, 0, 0, m0),
   (14, .invokevirtual 128, 3, 0, 0, 1388, m_Life_draw),
   (17, .invokevirtual 131, 3, 0, 0, 1393, m_Choir_livingAt),
   (20, .istore_n 3, 1, 0, 0, 0, m0),
   (21, .aload_n 1, 1, 0, 0, 0, m0),
   (22, .aload_n 0, 1, 0, 0, 0, m0),
   (23, .iload_n 2, 1, 0, 0, 0, m0),
   (24, .invokevirtual 128, 3, 0, 0, 1388, m_Life_draw),
   (27, .invokevirtual 131, 3, 0, 0, 1393, m_Choir_livingAt),
   (30, .istore 4, 2, 0, 0, 0, m0),
   (32, .aload_n 0, 1, 0, 0, 0, m0),
   (33, .bipush 20, 2, 0, 0, 0, m0),
   (35, .invokevirtual 128, 3, 0, 0, 1388, m_Life_draw),
   (38, .iconst 1, 1, 0, 0, 0, m0),
   (39, .iadd, 1, 0, 0, 0, m0),
   (40, .istore 5, 2, 0, 0, 0, m0),
   (42, .aload_n 1, 1, 0, 0, 0, m0),
   (43, .iload_n 3, 1, 0, 0, 0, m0),
   (44, .iload 4, 2, 0, 0, 0, m0),
   (46, .iload 5, 2, 0, 0, 0, m0),
   (48, .invokevirtual 79, 3, 0, 0, 1377, m_Choir_lendCoins),
   (51, .istore 6, 2, 0, 0, 0, m0),
   (53, .aload_n 0, 1, 0, 0, 0, m0),
   (54, .dup, 1, 0, 0, 0, m0),
   (55, .getfield 28, 3, 4, 2, 442, m0),
   (58, .iload 6, 2, 0, 0, 0, m0),
   (60, .ifCond .eq 8, 3, 68, 0, 0, m0),
   (63, .nop, 0, 0, 0, 0, m0)]),
  (63, [], false, [(63, .iload 5, 2, 0, 0, 0, m0),
   (65, .goto 4, 3, 69, 0, 0, m0)]),
  (68, [], false, [(68, .iconst 0, 1, 0, 0, 0, m0),
   (69, .nop, 0, 0, 0, 0, m0)]),
  (69, [], false, [(69, .iadd, 1, 0, 0, 0, m0),
   (70, .putfield 28, 3, 4, 2, 442, m0),
   (73, .iload 6, 2, 0, 0, 0, m0),
   (75, .ireturn, 1, 0, 0, 0, m0)])]
theorem ok_Life_lendAny : okBt m_Life_lendAny bt_Life_lendAny = true := by decide +kernel
set_option maxRecDepth 100000 in
theorem b_Life_lendAny_0 {l : Launch} {E : EnvT} {d : Nat} {K : AV → Mem → Prop} {M : Mem} {r r2 : Nat}  (hd : 1 ≤ d)
  (h : CT l E (d - 1) m_Choir_livingCount [(.ref r2, 11)] M (fun v1 M1 =>
   ((0 < (toI v1) →
    CT l E (d - 1) m_Life_draw [(.ref r, 37), (.int (toI v1), 0)] M1 (fun v2 M2 =>
     CT l E (d - 1) m_Choir_livingAt [(.ref r2, 11), (.int (toI v2), 0)] M2 (fun v3 M3 =>
      CT l E (d - 1) m_Life_draw [(.ref r, 37), (.int (toI v1), 0)] M3 (fun v4 M4 =>
       CT l E (d - 1) m_Choir_livingAt [(.ref r2, 11), (.int (toI v4), 0)] M4 (fun v5 M5 =>
        CT l E (d - 1) m_Life_draw [(.ref r, 37), (.int (iN 20), 0)] M5 (fun v6 M6 =>
         CT l E (d - 1) m_Choir_lendCoins [(.ref r2, 11), (.int (toI v3), 0), (.int (toI v5), 0), (.int ((toI v6) + (iN 1)), 0)] M6 (fun v7 M7 =>
          (((toI v7) = 0 →
           ((((toI v7) = 0 ∨ (toI v7) = 1)) ∧ K (.int (toI v7), 0) (upd3 M7 r 0 4 (((iN (M7 r 0 4)) + (iN 0))).toInt))) ∧
          (¬ (toI v7) = 0 →
           ((((toI v7) = 0 ∨ (toI v7) = 1)) ∧ K (.int (toI v7), 0) (upd3 M7 r 0 4 (((iN (M7 r 0 4)) + ((toI v6) + (iN 1)))).toInt))))))))))) ∧
   (¬ 0 < (toI v1) →
    ((((iN 0) = 0 ∨ (iN 0) = 1)) ∧ K (.int (iN 0), 0) M1))))) :
  G l E d m_Life_lendAny 0 [(0, (.ref r, 37)), (1, (.ref r2, 11))] [] M K := G.blk 60 _ hd ok_Life_lendAny rfl h
def bt_Life_behindStep : BtT := [(0, [0, 1, 2, 3], true, [(0, .aload_n 2, 1, 0, 0, 0, m0),
   (1, .getfield 66, 3, 1, 8, 346, m0),
   (4, .iload_n 3, 1, 0, 0, 0, m0),
   (5, .iaload, 1, 0, 0, 0, m0),
   (6, .istore 4, 2, 0, 0, 0, m0),
   (8, .aload_n 2, 1, 0, 0, 0, m0),
   (9, .getfield 69, 3, 2, 8, 349, m0),
   (12, .iload_n 3, 1, 0, 0, 0, m0),
   (13, .iaload, 1, 0, 0, 0, m0),
   (14, .istore 5, 2, 0, 0, 0, m0),
   (16, .aload_n 2, 1, 0, 0, 0, m0),
   (17, .getfield 72, 3, 3, 8, 352, m0),
   (20, .iload_n 3, 1, 0, 0, 0, m0),
   (21, .iaload, 1, 0, 0, 0, m0),
   (22, .istore 6, 2, 0, 0, 0, m0),
   (24, .iconst 1, 1, 0, 0, 0, m0),
   (25, .istore 7, 2, 0, 0, 0, m0),
   (27, .aload_n 2, 1, 0, 0, 0, m0),
   (28, .getfield 50, 3, 0, 8, 343, m0),
   (31, .iload_n 3, 1, 0, 0, 0, m0),
   (32, .iaload, 1, 0, 0, 0, m0),
   (33, .tableswitch 271 1 21 #[117, 271, 219, 271, 271, 271, 271, 271, 141, 271, 176, 191, 239, 250, 271, 271, 117, 117, 104, 271, 99], 99, 0, 0, 0, m0)]),
  (132, [], false, [(132, .aload_n 2, 1, 0, 0, 0, m0),
   (133, .getfield 47, 3, 6, 8, 360, m0),
   (136, .ireturn, 1, 0, 0, 0, m0)]),
  (137, [], false, [(137, .aload_n 0, 1, 0, 0, 0, m0),
   (138, .getfield 11, 3, 0, 2, 435, m0),
   (141, .iload_n 3, 1, 0, 0, 0, m0),
   (142, .iload 6, 2, 0, 0, 0, m0),
   (144, .iconst 1, 1, 0, 0, 0, m0),
   (145, .isub, 1, 0, 0, 0, m0),
   (146, .iastore, 1, 0, 0, 0, m0),
   (147, .goto 164, 3, 311, 0, 0, m0)]),
  (150, [], false, [(150, .aload_n 1, 1, 0, 0, 0, m0),
   (151, .aload_n 2, 1, 0, 0, 0, m0),
   (152, .iload_n 3, 1, 0, 0, 0, m0),
   (153, .invokestatic 75, 3, 0, 0, 1368, m_Life_holds),
   (156, .ifCond .eq 9, 3, 165, 0, 0, m0),
   (159, .nop, 0, 0, 0, 0, m0)]),
  (159, [], false, [(159, .iload_n 3, 1, 0, 0, 0, m0),
   (160, .iconst 1, 1, 0, 0, 0, m0),
   (161, .iadd, 1, 0, 0, 0, m0),
   (162, .goto 11, 3, 173, 0, 0, m0)]),
  (165, [], false, [(165, .aload_n 2, 1, 0, 0, 0, m0),
   (166, .getfield 63, 3, 5, 8, 358, m0),
   (169, .iload_n 3, 1, 0, 0, 0, m0),
   (170, .iaload, 1, 0, 0, 0, m0),
   (171, .iconst 1, 1, 0, 0, 0, m0),
   (172, .iadd, 1, 0, 0, 0, m0),
   (173, .nop, 0, 0, 0, 0, m0)]),
  (173, [], false, [(173, .ireturn, 1, 0, 0, 0, m0)]),
  (174, [], false, [(174, .aload_n 1, 1, 0, 0, 0, m0),
   (175, .iload 4, 2, 0, 0, 0, m0),
   (177, .iload 5, 2, 0, 0, 0, m0),
   (179, .iload 6, 2, 0, 0, 0, m0),
   (181, .invokevirtual 79, 3, 0, 0, 1377, m_Choir_lendCoins),
   (184, .istore 7, 2, 0, 0, 0, m0),
   (186, .aload_n 0, 1, 0, 0, 0, m0),
   (187, .dup, 1, 0, 0, 0, m0),
   (188, .getfield 28, 3, 4, 2, 442, m0),
   (191, .iload 7, 2, 0, 0, 0, m0),
   (193, .ifCond .eq 8, 3, 201, 0, 0, m0),
   (196, .nop, 0, 0, 0, 0, m0)]),
  (196, [], false, [(196, .iload 6, 2, 0, 0, 0, m0),
   (198, .goto 4, 3, 202, 0, 0, m0)]),
  (201, [], false, [(201, .iconst 0, 1, 0, 0, 0, m0),
   (202, .nop, 0, 0, 0, 0, m0)]),
  (202, [], false, [(202, .iadd, 1, 0, 0, 0, m0),
   (203, .putfield 28, 3, 4, 2, 442, m0),
   (206, .goto 105, 3, 311, 0, 0, m0)]),
  (209, [], false, [(209, .aload_n 1, 1, 0, 0, 0, m0),
   (210, .iload 4, 2, 0, 0, 0, m0),
   (212, .iload 5, 2, 0, 0, 0, m0),
   (214, .iload 6, 2, 0, 0, 0, m0),
   (216, .invokevirtual 83, 3, 0, 0, 1378, m_Choir_payCoins),
   (219, .istore 7, 2, 0, 0, 0, m0),
   (221, .goto 90, 3, 311, 0, 0, m0)]),
  (224, [], false, [(224, .aload_n 1, 1, 0, 0, 0, m0),
   (225, .invokevirtual 86, 3, 0, 0, 1379, m_Choir_keepSunday),
   (228, .istore 7, 2, 0, 0, 0, m0),
   (230, .aload_n 0, 1, 0, 0, 0, m0),
   (231, .dup, 1, 0, 0, 0, m0),
   (232, .getfield 34, 3, 6, 2, 446, m0),
   (235, .iload 7, 2, 0, 0, 0, m0),
   (237, .ifCond .eq 7, 3, 244, 0, 0, m0),
   (240, .nop, 0, 0, 0, 0, m0)]),
  (240, [], false, [(240, .iconst 1, 1, 0, 0, 0, m0),
   (241, .goto 4, 3, 245, 0, 0, m0)]),
  (244, [], false, [(244, .iconst 0, 1, 0, 0, 0, m0),
   (245, .nop, 0, 0, 0, 0, m0)]),
  (245, [], false, [(245, .iadd, 1, 0, 0, 0, m0),
   (246, .putfield 34, 3, 6, 2, 446, m0),
   (249, .goto 62, 3, 311, 0, 0, m0)]),
  (252, [], false, [(252, .aload_n 1, 1, 0, 0, 0, m0),
   (253, .iload 4, 2, 0, 0, 0, m0),
   (255, .invokevirtual 90, 3, 0, 0, 1380, m_Choir_catchCold),
   (258, .iconst (-1), 1, 0, 0, 0, m0),
   (259, .if_icmp .eq 7, 3, 266, 0, 0, m0),
   (262, .nop, 0, 0, 0, 0, m0)]),
  (262, [], false, [(262, .iconst 1, 1, 0, 0, 0, m0),
   (263, .goto 4, 3, 267, 0, 0, m0)]),
  (266, [], false, [(266, .iconst 0, 1, 0, 0, 0, m0),
   (267, .nop, 0, 0, 0, 0, m0)]),
  (267, [], false, [(267, .istore 7, 2, 0, 0, 0, m0),
   (269, .goto 42, 3, 311, 0, 0, m0)]),
  (272, [], false, [(272, .aload_n 1, 1, 0, 0, 0, m0),
   (273, .iload 4, 2, 0, 0, 0, m0),
   (275, .invokevirtual 94, 3, 0, 0, 1381, m_Choir_bury),
   (278, .istore 7, 2, 0, 0, 0, m0),
   (280, .goto 31, 3, 311, 0, 0, m0)]),
  (283, [], false, [(283, .aload_n 1, 1, 0, 0, 0, m0),
   (284, .iload 4, 2, 0, 0, 0, m0),
   (286, .iload 5, 2, 0, 0, 0, m0),
   (288, .invokevirtual 98, 3, 0, 0, 1382, m_Choir_netTwo),
   (291, .ifCond .le 7, 3, 298, 0, 0, m0),
   (294, .nop, 0, 0, 0, 0, m0)]),
  (294, [], false, [(294, .iconst 1, 1, 0, 0, 0, m0),
   (295, .goto 4, 3, 299, 0, 0, m0)]),
  (298, [], false, [(298, .iconst 0, 1, 0, 0, 0, m0),
   (299, .nop, 0, 0, 0, 0, m0)]),
  (299, [], false, [(299, .istore 7, 2, 0, 0, 0, m0),
   (301, .goto 10, 3, 311, 0, 0, m0)]),
  (304, [], false, [(304, .aload_n 0, 1, 0, 0, 0, m0),
   (305, .aload_n 1, 1, 0, 0, 0, m0),
   (306, .invokevirtual 102, 3, 0, 0, 1383, m_Life_lendAny),
   (309, .istore 7, 2, 0, 0, 0, m0),
   (311, .nop, 0, 0, 0, 0, m0)]),
  (311, [0, 3, 7], true, [(311, .aload_n 0, 1, 0, 0, 0, m0),
   (312, .dup, 1, 0, 0, 0, m0),
   (313, .getfield 25, 3, 3, 2, 440, m0),
   (316, .iload 7, 2, 0, 0, 0, m0),
   (318, .ifCond .eq 7, 3, 325, 0, 0, m0),
   (321, .nop, 0, 0, 0, 0, m0)]),
  (321, [], false, [(321, .iconst 0, 1, 0, 0, 0, m0),
   (322, .goto 4, 3, 326, 0, 0, m0)]),
  (325, [], false, [(325, .iconst 1, 1, 0, 0, 0, m0),
   (326, .nop, 0, 0, 0, 0, m0)]),
  (326, [], false, [(326, .iadd, 1, 0, 0, 0, m0),
   (327, .putfield 25, 3, 3, 2, 440, m0),
   (330, .iload_n 3, 1, 0, 0, 0, m0),
   (331, .iconst 1, 1, 0, 0, 0, m0),
   (332, .iadd, 1, 0, 0, 0, m0),
   (333, .ireturn, 1, 0, 0, 0, m0)])]
theorem ok_Life_behindStep : okBt m_Life_behindStep bt_Life_behindStep = true := by decide +kernel
set_option maxRecDepth 100000 in
theorem b_Life_behindStep_0 {l : Launch} {E : EnvT} {d : Nat} {K : AV → Mem → Prop} {M : Mem} {r r2 r3 : Nat} {x3 : Int32} (hd : 1 ≤ d)
  (h : (vp_in x3 60 ∧ vp_in x3 60 ∧ vp_in x3 60 ∧ vp_in x3 60 ∧ (((iN (M r3 1 (x3).toNatClampNeg)) = iN 1 →
   CT l E (d - 1) m_Life_holds [(.ref r2, 11), (.ref r3, 23), (.int x3, 0)] M (fun v20 M20 =>
    (((toI v20) = 0 →
     (vp_in x3 60 ∧ K (.int ((iN (M20 r3 6 (x3).toNatClampNeg)) + (iN 1)), 0) M20)) ∧
    (¬ (toI v20) = 0 →
     K (.int (x3 + (iN 1)), 0) M20)))) ∧
  (¬ (iN (M r3 1 (x3).toNatClampNeg)) = iN 1 →
   (((iN (M r3 1 (x3).toNatClampNeg)) = iN 2 →
   CT l E (d - 1) m_Life_lendAny [(.ref r, 37), (.ref r2, 11)] M (fun v19 M19 =>
    G l E d m_Life_behindStep 311 [(0, (.ref r, 37)), (3, (.int x3, 0)), (7, (.int (toI v19), 0))] [] M19 K)) ∧
  (¬ (iN (M r3 1 (x3).toNatClampNeg)) = iN 2 →
   (((iN (M r3 1 (x3).toNatClampNeg)) = iN 3 →
   CT l E (d - 1) m_Choir_catchCold [(.ref r2, 11), (.int (iN (M r3 2 (x3).toNatClampNeg)), 0)] M (fun v18 M18 =>
    (((toI v18) = (iN (-1)) →
     G l E d m_Life_behindStep 311 [(0, (.ref r, 37)), (3, (.int x3, 0)), (7, (.int (iN 0), 0))] [] M18 K) ∧
    (¬ (toI v18) = (iN (-1)) →
     G l E d m_Life_behindStep 311 [(0, (.ref r, 37)), (3, (.int x3, 0)), (7, (.int (iN 1), 0))] [] M18 K)))) ∧
  (¬ (iN (M r3 1 (x3).toNatClampNeg)) = iN 3 →
   (((iN (M r3 1 (x3).toNatClampNeg)) = iN 4 →
   CT l E (d - 1) m_Life_lendAny [(.ref r, 37), (.ref r2, 11)] M (fun v17 M17 =>
    G l E d m_Life_behindStep 311 [(0, (.ref r, 37)), (3, (.int x3, 0)), (7, (.int (toI v17), 0))] [] M17 K)) ∧
  (¬ (iN (M r3 1 (x3).toNatClampNeg)) = iN 4 →
   (((iN (M r3 1 (x3).toNatClampNeg)) = iN 5 →
   CT l E (d - 1) m_Life_lendAny [(.ref r, 37), (.ref r2, 11)] M (fun v16 M16 =>
    G l E d m_Life_behindStep 311 [(0, (.ref r, 37)), (3, (.int x3, 0)), (7, (.int (toI v16), 0))] [] M16 K)) ∧
  (¬ (iN (M r3 1 (x3).toNatClampNeg)) = iN 5 →
   (((iN (M r3 1 (x3).toNatClampNeg)) = iN 6 →
   CT l E (d - 1) m_Life_lendAny [(.ref r, 37), (.ref r2, 11)] M (fun v15 M15 =>
    G l E d m_Life_behindStep 311 [(0, (.ref r, 37)), (3, (.int x3, 0)), (7, (.int (toI v15), 0))] [] M15 K)) ∧
  (¬ (iN (M r3 1 (x3).toNatClampNeg)) = iN 6 →
   (((iN (M r3 1 (x3).toNatClampNeg)) = iN 7 →
   CT l E (d - 1) m_Life_lendAny [(.ref r, 37), (.ref r2, 11)] M (fun v14 M14 =>
    G l E d m_Life_behindStep 311 [(0, (.ref r, 37)), (3, (.int x3, 0)), (7, (.int (toI v14), 0))] [] M14 K)) ∧
  (¬ (iN (M r3 1 (x3).toNatClampNeg)) = iN 7 →
   (((iN (M r3 1 (x3).toNatClampNeg)) = iN 8 →
   CT l E (d - 1) m_Life_lendAny [(.ref r, 37), (.ref r2, 11)] M (fun v13 M13 =>
    G l E d m_Life_behindStep 311 [(0, (.ref r, 37)), (3, (.int x3, 0)), (7, (.int (toI v13), 0))] [] M13 K)) ∧
  (¬ (iN (M r3 1 (x3).toNatClampNeg)) = iN 8 →
   (((iN (M r3 1 (x3).toNatClampNeg)) = iN 9 →
   CT l E (d - 1) m_Choir_lendCoins [(.ref r2, 11), (.int (iN (M r3 2 (x3).toNatClampNeg)), 0), (.int (iN (M r3 3 (x3).toNatClampNeg)), 0), (.int (iN (M r3 4 (x3).toNatClampNeg)), 0)] M (fun v12 M12 =>
    (((toI v12) = 0 →
     G l E d m_Life_behindStep 311 [(0, (.ref r, 37)), (3, (.int x3, 0)), (7, (.int (toI v12), 0))] [] (upd3 M12 r 0 4 (((iN (M12 r 0 4)) + (iN 0))).toInt) K) ∧
    (¬ (toI v12) = 0 →
     G l E d m_Life_behindStep 311 [(0, (.ref r, 37)), (3, (.int x3, 0)), (7, (.int (toI v12), 0))] [] (upd3 M12 r 0 4 (((iN (M12 r 0 4)) + (iN (M r3 4 (x3).toNatClampNeg)))).toInt) K)))) ∧
  (¬ (iN (M r3 1 (x3).toNatClampNeg)) = iN 9 →
   (((iN (M r3 1 (x3).toNatClampNeg)) = iN 10 →
   CT l E (d - 1) m_Life_lendAny [(.ref r, 37), (.ref r2, 11)] M (fun v11 M11 =>
    G l E d m_Life_behindStep 311 [(0, (.ref r, 37)), (3, (.int x3, 0)), (7, (.int (toI v11), 0))] [] M11 K)) ∧
  (¬ (iN (M r3 1 (x3).toNatClampNeg)) = iN 10 →
   (((iN (M r3 1 (x3).toNatClampNeg)) = iN 11 →
   CT l E (d - 1) m_Choir_payCoins [(.ref r2, 11), (.int (iN (M r3 2 (x3).toNatClampNeg)), 0), (.int (iN (M r3 3 (x3).toNatClampNeg)), 0), (.int (iN (M r3 4 (x3).toNatClampNeg)), 0)] M (fun v10 M10 =>
    G l E d m_Life_behindStep 311 [(0, (.ref r, 37)), (3, (.int x3, 0)), (7, (.int (toI v10), 0))] [] M10 K)) ∧
  (¬ (iN (M r3 1 (x3).toNatClampNeg)) = iN 11 →
   (((iN (M r3 1 (x3).toNatClampNeg)) = iN 12 →
   CT l E (d - 1) m_Choir_keepSunday [(.ref r2, 11)] M (fun v9 M9 =>
    (((toI v9) = 0 →
     G l E d m_Life_behindStep 311 [(0, (.ref r, 37)), (3, (.int x3, 0)), (7, (.int (toI v9), 0))] [] (upd3 M9 r 0 6 (((iN (M9 r 0 6)) + (iN 0))).toInt) K) ∧
    (¬ (toI v9) = 0 →
     G l E d m_Life_behindStep 311 [(0, (.ref r, 37)), (3, (.int x3, 0)), (7, (.int (toI v9), 0))] [] (upd3 M9 r 0 6 (((iN (M9 r 0 6)) + (iN 1))).toInt) K)))) ∧
  (¬ (iN (M r3 1 (x3).toNatClampNeg)) = iN 12 →
   (((iN (M r3 1 (x3).toNatClampNeg)) = iN 13 →
   CT l E (d - 1) m_Choir_bury [(.ref r2, 11), (.int (iN (M r3 2 (x3).toNatClampNeg)), 0)] M (fun v8 M8 =>
    G l E d m_Life_behindStep 311 [(0, (.ref r, 37)), (3, (.int x3, 0)), (7, (.int (toI v8), 0))] [] M8 K)) ∧
  (¬ (iN (M r3 1 (x3).toNatClampNeg)) = iN 13 →
   (((iN (M r3 1 (x3).toNatClampNeg)) = iN 14 →
   CT l E (d - 1) m_Choir_netTwo [(.ref r2, 11), (.int (iN (M r3 2 (x3).toNatClampNeg)), 0), (.int (iN (M r3 3 (x3).toNatClampNeg)), 0)] M (fun v7 M7 =>
    (((toI v7) ≤ 0 →
     G l E d m_Life_behindStep 311 [(0, (.ref r, 37)), (3, (.int x3, 0)), (7, (.int (iN 0), 0))] [] M7 K) ∧
    (¬ (toI v7) ≤ 0 →
     G l E d m_Life_behindStep 311 [(0, (.ref r, 37)), (3, (.int x3, 0)), (7, (.int (iN 1), 0))] [] M7 K)))) ∧
  (¬ (iN (M r3 1 (x3).toNatClampNeg)) = iN 14 →
   (((iN (M r3 1 (x3).toNatClampNeg)) = iN 15 →
   CT l E (d - 1) m_Life_lendAny [(.ref r, 37), (.ref r2, 11)] M (fun v6 M6 =>
    G l E d m_Life_behindStep 311 [(0, (.ref r, 37)), (3, (.int x3, 0)), (7, (.int (toI v6), 0))] [] M6 K)) ∧
  (¬ (iN (M r3 1 (x3).toNatClampNeg)) = iN 15 →
   (((iN (M r3 1 (x3).toNatClampNeg)) = iN 16 →
   CT l E (d - 1) m_Life_lendAny [(.ref r, 37), (.ref r2, 11)] M (fun v5 M5 =>
    G l E d m_Life_behindStep 311 [(0, (.ref r, 37)), (3, (.int x3, 0)), (7, (.int (toI v5), 0))] [] M5 K)) ∧
  (¬ (iN (M r3 1 (x3).toNatClampNeg)) = iN 16 →
   (((iN (M r3 1 (x3).toNatClampNeg)) = iN 17 →
   CT l E (d - 1) m_Life_holds [(.ref r2, 11), (.ref r3, 23), (.int x3, 0)] M (fun v4 M4 =>
    (((toI v4) = 0 →
     (vp_in x3 60 ∧ K (.int ((iN (M4 r3 6 (x3).toNatClampNeg)) + (iN 1)), 0) M4)) ∧
    (¬ (toI v4) = 0 →
     K (.int (x3 + (iN 1)), 0) M4)))) ∧
  (¬ (iN (M r3 1 (x3).toNatClampNeg)) = iN 17 →
   (((iN (M r3 1 (x3).toNatClampNeg)) = iN 18 →
   CT l E (d - 1) m_Life_holds [(.ref r2, 11), (.ref r3, 23), (.int x3, 0)] M (fun v3 M3 =>
    (((toI v3) = 0 →
     (vp_in x3 60 ∧ K (.int ((iN (M3 r3 6 (x3).toNatClampNeg)) + (iN 1)), 0) M3)) ∧
    (¬ (toI v3) = 0 →
     K (.int (x3 + (iN 1)), 0) M3)))) ∧
  (¬ (iN (M r3 1 (x3).toNatClampNeg)) = iN 18 →
   (((iN (M r3 1 (x3).toNatClampNeg)) = iN 19 →
   (vp_in x3 60 ∧ G l E d m_Life_behindStep 311 [(0, (.ref r, 37)), (3, (.int x3, 0)), (7, (.int (iN 1), 0))] [] (upd3 M r 1 (x3).toNatClampNeg (((iN (M r3 4 (x3).toNatClampNeg)) - (iN 1))).toInt) K)) ∧
  (¬ (iN (M r3 1 (x3).toNatClampNeg)) = iN 19 →
   (((iN (M r3 1 (x3).toNatClampNeg)) = iN 20 →
   CT l E (d - 1) m_Life_lendAny [(.ref r, 37), (.ref r2, 11)] M (fun v2 M2 =>
    G l E d m_Life_behindStep 311 [(0, (.ref r, 37)), (3, (.int x3, 0)), (7, (.int (toI v2), 0))] [] M2 K)) ∧
  (¬ (iN (M r3 1 (x3).toNatClampNeg)) = iN 20 →
   (((iN (M r3 1 (x3).toNatClampNeg)) = iN 21 →
   K (.int (iN (M r3 0 6)), 0) M) ∧
  (¬ (iN (M r3 1 (x3).toNatClampNeg)) = iN 21 →
   CT l E (d - 1) m_Life_lendAny [(.ref r, 37), (.ref r2, 11)] M (fun v1 M1 =>
    G l E d m_Life_behindStep 311 [(0, (.ref r, 37)), (3, (.int x3, 0)), (7, (.int (toI v1), 0))] [] M1 K))))))))))))))))))))))))))))))))))))))))))))) :
  G l E d m_Life_behindStep 0 [(0, (.ref r, 37)), (1, (.ref r2, 11)), (2, (.ref r3, 23)), (3, (.int x3, 0))] [] M K := G.blk 60 _ hd ok_Life_behindStep rfl h
set_option maxRecDepth 100000 in
theorem b_Life_behindStep_311 {l : Launch} {E : EnvT} {d : Nat} {K : AV → Mem → Prop} {M : Mem} {r : Nat} {x3 : Int32} {x7 : Int32} (hd : 1 ≤ d)
  (h : ((x7 = 0 →
   K (.int (x3 + (iN 1)), 0) (upd3 M r 0 3 (((iN (M r 0 3)) + (iN 1))).toInt)) ∧
  (¬ x7 = 0 →
   K (.int (x3 + (iN 1)), 0) (upd3 M r 0 3 (((iN (M r 0 3)) + (iN 0))).toInt)))) :
  G l E d m_Life_behindStep 311 [(0, (.ref r, 37)), (3, (.int x3, 0)), (7, (.int x7, 0))] [] M K := G.blk 60 _ hd ok_Life_behindStep rfl h
def bt_Life_run : BtT := [(0, [0, 1, 2, 3], true, [(0, .aload_n 0, 1, 0, 0, 0, m0),
   (1, .iconst 1, 1, 0, 0, 0, m0),
   (2, .putfield 17, 3, 1, 2, 436, m0),
   (5, .aload_n 0, 1, 0, 0, 0, m0),
   (6, .iconst 0, 1, 0, 0, 0, m0),
   (7, .putfield 21, 3, 2, 2, 438, m0),
   (10, .aload_n 0, 1, 0, 0, 0, m0),
   (11, .iconst 0, 1, 0, 0, 0, m0),
   (12, .putfield 25, 3, 3, 2, 440, m0),
   (15, .aload_n 0, 1, 0, 0, 0, m0),
   (16, .iconst 0, 1, 0, 0, 0, m0),
   (17, .putfield 28, 3, 4, 2, 442, m0),
   (20, .aload_n 0, 1, 0, 0, 0, m0),
   (21, .iconst 0, 1, 0, 0, 0, m0),
   (22, .putfield 34, 3, 6, 2, 446, m0),
   (25, .aload_n 0, 1, 0, 0, 0, m0),
   (26, .iconst 0, 1, 0, 0, 0, m0),
   (27, .putfield 37, 3, 7, 2, 448, m0),
   (30, .aload_n 0, 1, 0, 0, 0, m0),
   (31, .iload_n 3, 1, 0, 0, 0, m0),
   (32, .putfield 40, 3, 8, 2, 450, m0),
   (35, .aload_n 2, 1, 0, 0, 0, m0),
   (36, .getfield 43, 3, 15, 0, 302, m0),
   (39, .istore 4, 2, 0, 0, 0, m0),
   (41, .iconst 0, 1, 0, 0, 0, m0),
   (42, .istore 5, 2, 0, 0, 0, m0),
   (44, .iconst 0, 1, 0, 0, 0, m0),
   (45, .istore 6, 2, 0, 0, 0, m0),
   (47, .nop, 0, 0, 0, 0, m0)]),
  (47, [0, 1, 2, 4, 5, 6], true, [(47, .iload 6, 2, 0, 0, 0, m0),
   (49, .ldc 46, 2, 1, 1000000, 1359, m0),
   (51, .if_icmp .ge 87, 3, 138, 0, 0, m0),
   (54, .nop, 0, 0, 0, 0, m0)]),
  (54, [], false, [(54, .iload 5, 2, 0, 0, 0, m0),
   (56, .aload_n 1, 1, 0, 0, 0, m0),
   (57, .getfield 47, 3, 6, 8, 360, m0),
   (60, .if_icmp .ge 78, 3, 138, 0, 0, m0),
   (63, .nop, 0, 0, 0, 0, m0)]),
  (63, [], false, [(63, .aload_n 0, 1, 0, 0, 0, m0),
   (64, .getfield 37, 3, 7, 2, 448, m0),
   (67, .ifCond .ne 71, 3, 138, 0, 0, m0),
   (70, .nop, 0, 0, 0, 0, m0)]),
  (70, [], false, [(70, .aload_n 1, 1, 0, 0, 0, m0),
   (71, .getfield 50, 3, 0, 8, 343, m0),
   (74, .iload 5, 2, 0, 0, 0, m0),
   (76, .iaload, 1, 0, 0, 0, m0),
   (77, .bipush 20, 2, 0, 0, 0, m0),
   (79, .if_icmp .ne 15, 3, 94, 0, 0, m0),
   (82, .nop, 0, 0, 0, 0, m0)]),
  (82, [], false, [(82, .aload_n 0, 1, 0, 0, 0, m0),
   (83, .aload_n 1, 1, 0, 0, 0, m0),
   (84, .iload 5, 2, 0, 0, 0, m0),
   (86, .invokevirtual 55, 3, 0, 0, 1360, m_Life_behindEnd),
   (89, .istore 5, 2, 0, 0, 0, m0),
   (91, .goto 41, 3, 132, 0, 0, m0)]),
  (94, [], false, [(94, .aload_n 0, 1, 0, 0, 0, m0),
   (95, .getfield 21, 3, 2, 2, 438, m0),
   (98, .sipush 300, 3, 0, 0, 0, m0),
   (101, .if_icmp .lt 11, 3, 112, 0, 0, m0),
   (104, .nop, 0, 0, 0, 0, m0)]),
  (104, [], false, [(104, .aload_n 0, 1, 0, 0, 0, m0),
   (105, .iconst 1, 1, 0, 0, 0, m0),
   (106, .putfield 37, 3, 7, 2, 448, m0),
   (109, .goto 23, 3, 132, 0, 0, m0)]),
  (112, [], false, [(112, .aload_n 0, 1, 0, 0, 0, m0),
   (113, .dup, 1, 0, 0, 0, m0),
   (114, .getfield 21, 3, 2, 2, 438, m0),
   (117, .iconst 1, 1, 0, 0, 0, m0),
   (118, .iadd, 1, 0, 0, 0, m0),
   (119, .putfield 21, 3, 2, 2, 438, m0),
   (122, .aload_n 0, 1, 0, 0, 0, m0),
   (123, .aload_n 2, 1, 0, 0, 0, m0),
   (124, .aload_n 1, 1, 0, 0, 0, m0),
   (125, .iload 5, 2, 0, 0, 0, m0),
   (127, .invokevirtual 59, 3, 0, 0, 1364, m_Life_behindStep),
   (130, .istore 5, 2, 0, 0, 0, m0),
   (132, .nop, 0, 0, 0, 0, m0)]),
  (132, [], false, [(132, .iinc 6 1, 3, 0, 0, 0, m0),
   (135, .goto (-88), 3, 47, 0, 0, m0)]),
  (138, [], false, [(138, .aload_n 0, 1, 0, 0, 0, m0),
   (139, .aload_n 2, 1, 0, 0, 0, m0),
   (140, .getfield 43, 3, 15, 0, 302, m0),
   (143, .iload 4, 2, 0, 0, 0, m0),
   (145, .isub, 1, 0, 0, 0, m0),
   (146, .putfield 31, 3, 5, 2, 444, m0),
   (149, .return_, 1, 0, 0, 0, m0)])]
theorem ok_Life_run : okBt m_Life_run bt_Life_run = true := by decide +kernel
set_option maxRecDepth 100000 in
theorem b_Life_run_0 {l : Launch} {E : EnvT} {d : Nat} {K : AV → Mem → Prop} {M : Mem} {r r2 r3 : Nat} {x3 : Int32} (hd : 1 ≤ d)
  (h : (((iN 1) = 0 ∨ (iN 1) = 1) ∧ G l E d m_Life_run 47 [(0, (.ref r, 37)), (1, (.ref r2, 23)), (2, (.ref r3, 11)), (4, (.int (iN ((upd3 (upd3 (upd3 (upd3 (upd3 (upd3 (upd3 M r 0 1 ((iN 1)).toInt) r 0 2 ((iN 0)).toInt) r 0 3 ((iN 0)).toInt) r 0 4 ((iN 0)).toInt) r 0 6 ((iN 0)).toInt) r 0 7 ((iN 0)).toInt) r 0 8 (x3).toInt) r3 0 15)), 0)), (5, (.int (iN 0), 0)), (6, (.int (iN 0), 0))] [] (upd3 (upd3 (upd3 (upd3 (upd3 (upd3 (upd3 M r 0 1 ((iN 1)).toInt) r 0 2 ((iN 0)).toInt) r 0 3 ((iN 0)).toInt) r 0 4 ((iN 0)).toInt) r 0 6 ((iN 0)).toInt) r 0 7 ((iN 0)).toInt) r 0 8 (x3).toInt) K)) :
  G l E d m_Life_run 0 [(0, (.ref r, 37)), (1, (.ref r2, 23)), (2, (.ref r3, 11)), (3, (.int x3, 0))] [] M K := G.blk 60 _ hd ok_Life_run rfl h
set_option maxRecDepth 100000 in
theorem b_Life_run_47 {l : Launch} {E : EnvT} {d : Nat} {K : AV → Mem → Prop} {M : Mem} {r r2 r3 : Nat} {x4 : Int32} {x5 : Int32} {x6 : Int32} (hd : 1 ≤ d)
  (h : (((iN 1000000) ≤ x6 →
   K (.null, 0) (upd3 M r 0 5 (((iN (M r3 0 15)) - x4)).toInt)) ∧
  (¬ (iN 1000000) ≤ x6 →
   (((iN (M r2 0 6)) ≤ x5 →
    K (.null, 0) (upd3 M r 0 5 (((iN (M r3 0 15)) - x4)).toInt)) ∧
   (¬ (iN (M r2 0 6)) ≤ x5 →
    ((¬ (iN (M r 0 7)) = 0 →
     K (.null, 0) (upd3 M r 0 5 (((iN (M r3 0 15)) - x4)).toInt)) ∧
    ((iN (M r 0 7)) = 0 →
     (vp_in x5 60 ∧ ((¬ (iN (M r2 1 (x5).toNatClampNeg)) = (iN 20) →
      (((iN (M r 0 2)) < (iN 300) →
       CT l E (d - 1) m_Life_behindStep [(.ref r, 37), (.ref r3, 11), (.ref r2, 23), (.int x5, 0)] (upd3 M r 0 2 (((iN (M r 0 2)) + (iN 1))).toInt) (fun v1 M1 =>
        G l E d m_Life_run 47 [(0, (.ref r, 37)), (1, (.ref r2, 23)), (2, (.ref r3, 11)), (4, (.int x4, 0)), (5, (.int (toI v1), 0)), (6, (.int (x6 + iN 1), 0))] [] M1 K)) ∧
      (¬ (iN (M r 0 2)) < (iN 300) →
       G l E d m_Life_run 47 [(0, (.ref r, 37)), (1, (.ref r2, 23)), (2, (.ref r3, 11)), (4, (.int x4, 0)), (5, (.int x5, 0)), (6, (.int (x6 + iN 1), 0))] [] (upd3 M r 0 7 ((iN 1)).toInt) K))) ∧
     ((iN (M r2 1 (x5).toNatClampNeg)) = (iN 20) →
      CT l E (d - 1) m_Life_behindEnd [(.ref r, 37), (.ref r2, 23), (.int x5, 0)] M (fun v2 M2 =>
       G l E d m_Life_run 47 [(0, (.ref r, 37)), (1, (.ref r2, 23)), (2, (.ref r3, 11)), (4, (.int x4, 0)), (5, (.int (toI v2), 0)), (6, (.int (x6 + iN 1), 0))] [] M2 K))))))))))) :
  G l E d m_Life_run 47 [(0, (.ref r, 37)), (1, (.ref r2, 23)), (2, (.ref r3, 11)), (4, (.int x4, 0)), (5, (.int x5, 0)), (6, (.int x6, 0))] [] M K := G.blk 60 _ hd ok_Life_run rfl h
end
section
def bt_Marks_keep : BtT := [(0, [0, 1, 2], true, [(0, .aload_n 0, 1, 0, 0, 0, m0),
   (1, .getfield 11, 3, 0, 3, 386, m0),
   (4, .aload_n 0, 1, 0, 0, 0, m0),
   (5, .getfield 21, 3, 2, 3, 388, m0),
   (8, .aaload, 1, 0, 0, 0, m0),
   (9, .aload_n 1, 1, 0, 0, 0, m0),
   (10, .invokevirtual 27, 3, 0, 0, 1423, m_Choir_takeFrom),
   (13, .aload_n 0, 1, 0, 0, 0, m0),
   (14, .getfield 17, 3, 1, 3, 387, m0),
   (17, .aload_n 0, 1, 0, 0, 0, m0),
   (18, .getfield 21, 3, 2, 3, 388, m0),
   (21, .aaload, 1, 0, 0, 0, m0),
   (22, .aload_n 2, 1, 0, 0, 0, m0),
   (23, .invokevirtual 31, 3, 0, 0, 1424, m_Years_takeFrom),
   (26, .aload_n 0, 1, 0, 0, 0, m0),
   (27, .dup, 1, 0, 0, 0, m0),
   (28, .getfield 21, 3, 2, 3, 388, m0),
   (31, .iconst 1, 1, 0, 0, 0, m0),
   (32, .iadd, 1, 0, 0, 0, m0),
   (33, .putfield 21, 3, 2, 3, 388, m0),
   (36, .return_, 1, 0, 0, 0, m0)])]
theorem ok_Marks_keep : okBt m_Marks_keep bt_Marks_keep = true := by decide +kernel
set_option maxRecDepth 100000 in
theorem b_Marks_keep_0 {l : Launch} {E : EnvT} {d : Nat} {K : AV → Mem → Prop} {M : Mem} {r2 r3 : Nat}  (hd : 1 ≤ d)
  (h : (vp_in (iN (M 5 0 2)) 3 ∧ CT l E (d - 1) m_Choir_takeFrom [(.ref ([(6, 11), (8, 11), (10, 11)].getD ((iN (M 5 0 2))).toNatClampNeg (0, 0)).1, 11), (.ref r2, 11)] M (fun v1 M1 =>
   (vp_in (iN (M1 5 0 2)) 3 ∧ CT l E (d - 1) m_Years_takeFrom [(.ref ([(7, 23), (9, 23), (11, 23)].getD ((iN (M1 5 0 2))).toNatClampNeg (0, 0)).1, 23), (.ref r3, 23)] M1 (fun v2 M2 =>
    K (.null, 0) (upd3 M2 5 0 2 (((iN (M2 5 0 2)) + (iN 1))).toInt)))))) :
  G l E d m_Marks_keep 0 [(0, (.ref 5, 8)), (1, (.ref r2, 11)), (2, (.ref r3, 23))] [] M K := G.blk 60 _ hd ok_Marks_keep rfl h
def bt_Marks_giveBack : BtT := [(0, [0, 1, 2], true, [(0, .aload_n 0, 1, 0, 0, 0, m0),
   (1, .dup, 1, 0, 0, 0, m0),
   (2, .getfield 21, 3, 2, 3, 388, m0),
   (5, .iconst 1, 1, 0, 0, 0, m0),
   (6, .isub, 1, 0, 0, 0, m0),
   (7, .putfield 21, 3, 2, 3, 388, m0),
   (10, .aload_n 1, 1, 0, 0, 0, m0),
   (11, .aload_n 0, 1, 0, 0, 0, m0),
   (12, .getfield 11, 3, 0, 3, 386, m0),
   (15, .aload_n 0, 1, 0, 0, 0, m0),
   (16, .getfield 21, 3, 2, 3, 388, m0),
   (19, .aaload, 1, 0, 0, 0, m0),
   (20, .invokevirtual 27, 3, 0, 0, 1423, m_Choir_takeFrom),
   (23, .aload_n 2, 1, 0, 0, 0, m0),
   (24, .aload_n 0, 1, 0, 0, 0, m0),
   (25, .getfield 17, 3, 1, 3, 387, m0),
   (28, .aload_n 0, 1, 0, 0, 0, m0),
   (29, .getfield 21, 3, 2, 3, 388, m0),
   (32, .aaload, 1, 0, 0, 0, m0),
   (33, .invokevirtual 31, 3, 0, 0, 1424, m_Years_takeFrom),
   (36, .return_, 1, 0, 0, 0, m0)])]
theorem ok_Marks_giveBack : okBt m_Marks_giveBack bt_Marks_giveBack = true := by decide +kernel
set_option maxRecDepth 100000 in
theorem b_Marks_giveBack_0 {l : Launch} {E : EnvT} {d : Nat} {K : AV → Mem → Prop} {M : Mem} {r2 r3 : Nat}  (hd : 1 ≤ d)
  (h : (vp_in (iN ((upd3 M 5 0 2 (((iN (M 5 0 2)) - (iN 1))).toInt) 5 0 2)) 3 ∧ CT l E (d - 1) m_Choir_takeFrom [(.ref r2, 11), (.ref ([(6, 11), (8, 11), (10, 11)].getD ((iN ((upd3 M 5 0 2 (((iN (M 5 0 2)) - (iN 1))).toInt) 5 0 2))).toNatClampNeg (0, 0)).1, 11)] (upd3 M 5 0 2 (((iN (M 5 0 2)) - (iN 1))).toInt) (fun v1 M1 =>
   (vp_in (iN (M1 5 0 2)) 3 ∧ CT l E (d - 1) m_Years_takeFrom [(.ref r3, 23), (.ref ([(7, 23), (9, 23), (11, 23)].getD ((iN (M1 5 0 2))).toNatClampNeg (0, 0)).1, 23)] M1 (fun v2 M2 =>
    K (.null, 0) M2))))) :
  G l E d m_Marks_giveBack 0 [(0, (.ref 5, 8)), (1, (.ref r2, 11)), (2, (.ref r3, 23))] [] M K := G.blk 60 _ hd ok_Marks_giveBack rfl h
end
section
def bt_Ties_look : BtT := [(0, [0, 1], true, [(0, .aload_n 0, 1, 0, 0, 0, m0),
   (1, .aload_n 1, 1, 0, 0, 0, m0),
   (2, .getfield 37, 3, 8, 0, 281, m0),
   (5, .putfield 30, 3, 6, 4, 410, m0),
   (8, .aload_n 0, 1, 0, 0, 0, m0),
   (9, .iconst 1, 1, 0, 0, 0, m0),
   (10, .aload_n 0, 1, 0, 0, 0, m0),
   (11, .getfield 30, 3, 6, 4, 410, m0),
   (14, .ishl, 1, 0, 0, 0, m0),
   (15, .iconst 1, 1, 0, 0, 0, m0),
   (16, .isub, 1, 0, 0, 0, m0),
   (17, .aload_n 1, 1, 0, 0, 0, m0),
   (18, .getfield 38, 3, 12, 0, 294, m0),
   (21, .iconst (-1), 1, 0, 0, 0, m0),
   (22, .ixor, 1, 0, 0, 0, m0),
   (23, .iand, 1, 0, 0, 0, m0),
   (24, .putfield 34, 3, 7, 4, 411, m0),
   (27, .iconst 0, 1, 0, 0, 0, m0),
   (28, .istore_n 2, 1, 0, 0, 0, m0),
   (29, .nop, 0, 0, 0, 0, m0)]),
  (29, [0, 1, 2], true, [(29, .iload_n 2, 1, 0, 0, 0, m0),
   (30, .aload_n 0, 1, 0, 0, 0, m0),
   (31, .getfield 30, 3, 6, 4, 410, m0),
   (34, .if_icmp .ge 102, 3, 136, 0, 0, m0),
   (37, .nop, 0, 0, 0, 0, m0)]),
  (37, [], false, [(37, .aload_n 0, 1, 0, 0, 0, m0),
   (38, .getfield 9, 3, 0, 4, 403, m0),
   (41, .iload_n 2, 1, 0, 0, 0, m0),
   (42, .aload_n 1, 1, 0, 0, 0, m0),
   (43, .iload_n 2, 1, 0, 0, 0, m0),
   (44, .invokevirtual 41, 3, 0, 0, 1153, m_Choir_balanceOf),
   (47, .iastore, 1, 0, 0, 0, m0),
   (48, .aload_n 0, 1, 0, 0, 0, m0),
   (49, .getfield 15, 3, 1, 4, 404, m0),
   (52, .iload_n 2, 1, 0, 0, 0, m0),
   (53, .iconst 0, 1, 0, 0, 0, m0),
   (54, .iastore, 1, 0, 0, 0, m0),
   (55, .aload_n 0, 1, 0, 0, 0, m0),
   (56, .getfield 18, 3, 2, 4, 405, m0),
   (59, .iload_n 2, 1, 0, 0, 0, m0),
   (60, .iconst 0, 1, 0, 0, 0, m0),
   (61, .iastore, 1, 0, 0, 0, m0),
   (62, .iconst 0, 1, 0, 0, 0, m0),
   (63, .istore_n 3, 1, 0, 0, 0, m0),
   (64, .nop, 0, 0, 0, 0, m0)]),
  (64, [0, 1, 2, 3], true, [(64, .iload_n 3, 1, 0, 0, 0, m0),
   (65, .aload_n 0, 1, 0, 0, 0, m0),
   (66, .getfield 30, 3, 6, 4, 410, m0),
   (69, .if_icmp .ge 61, 3, 130, 0, 0, m0),
   (72, .nop, 0, 0, 0, 0, m0)]),
  (72, [], false, [(72, .iload_n 2, 1, 0, 0, 0, m0),
   (73, .iload_n 3, 1, 0, 0, 0, m0),
   (74, .if_icmp .eq 24, 3, 98, 0, 0, m0),
   (77, .nop, 0, 0, 0, 0, m0)]),
  (77, [], false, [(77, .aload_n 1, 1, 0, 0, 0, m0),
   (78, .iload_n 2, 1, 0, 0, 0, m0),
   (79, .iload_n 3, 1, 0, 0, 0, m0),
   (80, .invokevirtual 45, 3, 0, 0, 1154, m_Choir_debtAtNote),
   (83, .ifCond .le 15, 3, 98, 0, 0, m0),
   (86, .nop, 0, 0, 0, 0, m0)]),
  (86, [], false, [(86, .aload_n 0, 1, 0, 0, 0, m0),
   (87, .getfield 15, 3, 1, 4, 404, m0),
   (90, .iload_n 2, 1, 0, 0, 0, m0),
   (91, .dup2, 1, 0, 0, 0, m0),
   (92, .iaload, 1, 0, 0, 0, m0),
   (93, .iconst 1, 1, 0, 0, 0, m0),
   (94, .iload_n 3, 1, 0, 0, 0, m0),
   (95, .ishl, 1, 0, 0, 0, m0),
   (96, .ior, 1, 0, 0, 0, m0),
   (97, .iastore, 1, 0, 0, 0, m0),
   (98, .nop, 0, 0, 0, 0, m0)]),
  (98, [], false, [(98, .iload_n 2, 1, 0, 0, 0, m0),
   (99, .iload_n 3, 1, 0, 0, 0, m0),
   (100, .if_icmp .eq 24, 3, 124, 0, 0, m0),
   (103, .nop, 0, 0, 0, 0, m0)]),
  (103, [], false, [(103, .aload_n 1, 1, 0, 0, 0, m0),
   (104, .iload_n 2, 1, 0, 0, 0, m0),
   (105, .iload_n 3, 1, 0, 0, 0, m0),
   (106, .invokevirtual 49, 3, 0, 0, 1155, m_Choir_owedBetween),
   (109, .ifCond .le 15, 3, 124, 0, 0, m0),
   (112, .nop, 0, 0, 0, 0, m0)]),
  (112, [], false, [(112, .aload_n 0, 1, 0, 0, 0, m0),
   (113, .getfield 18, 3, 2, 4, 405, m0),
   (116, .iload_n 2, 1, 0, 0, 0, m0),
   (117, .dup2, 1, 0, 0, 0, m0),
   (118, .iaload, 1, 0, 0, 0, m0),
   (119, .iconst 1, 1, 0, 0, 0, m0),
   (120, .iload_n 3, 1, 0, 0, 0, m0),
   (121, .ishl, 1, 0, 0, 0, m0),
   (122, .ior, 1, 0, 0, 0, m0),
   (123, .iastore, 1, 0, 0, 0, m0),
   (124, .nop, 0, 0, 0, 0, m0)]),
  (124, [], false, [(124, .iinc 3 1, 3, 0, 0, 0, m0),
   (127, .goto (-63), 3, 64, 0, 0, m0)]),
  (130, [], false, [(130, .iinc 2 1, 3, 0, 0, 0, m0),
   (133, .goto (-104), 3, 29, 0, 0, m0)]),
  (136, [], false, [(136, .return_, 1, 0, 0, 0, m0)])]
theorem ok_Ties_look : okBt m_Ties_look bt_Ties_look = true := by decide +kernel
set_option maxRecDepth 100000 in
theorem b_Ties_look_0 {l : Launch} {E : EnvT} {d : Nat} {K : AV → Mem → Prop} {M : Mem} {r2 : Nat}  (hd : 1 ≤ d)
  (h : G l E d m_Ties_look 29 [(0, (.ref 12, 30)), (1, (.ref r2, 11)), (2, (.int (iN 0), 0))] [] (upd3 (upd3 M 12 0 6 ((iN (M r2 0 8))).toInt) 12 0 7 (((((iN 1) <<< ((iN ((upd3 M 12 0 6 ((iN (M r2 0 8))).toInt) 12 0 6)) &&& 31)) - (iN 1)) &&& ((iN ((upd3 M 12 0 6 ((iN (M r2 0 8))).toInt) r2 0 12)) ^^^ (iN (-1))))).toInt) K) :
  G l E d m_Ties_look 0 [(0, (.ref 12, 30)), (1, (.ref r2, 11))] [] M K := G.blk 60 _ hd ok_Ties_look rfl h
set_option maxRecDepth 100000 in
theorem b_Ties_look_29 {l : Launch} {E : EnvT} {d : Nat} {K : AV → Mem → Prop} {M : Mem} {r2 : Nat} {x2 : Int32} (hd : 1 ≤ d)
  (h : (((iN (M 12 0 6)) ≤ x2 →
   K (.null, 0) M) ∧
  (¬ (iN (M 12 0 6)) ≤ x2 →
   CT l E (d - 1) m_Choir_balanceOf [(.ref r2, 11), (.int x2, 0)] M (fun v1 M1 =>
    (vp_in x2 8 ∧ vp_in x2 8 ∧ vp_in x2 8 ∧ G l E d m_Ties_look 64 [(0, (.ref 12, 30)), (1, (.ref r2, 11)), (2, (.int x2, 0)), (3, (.int (iN 0), 0))] [] (upd3 (upd3 (upd3 M1 12 1 (x2).toNatClampNeg ((toI v1)).toInt) 12 2 (x2).toNatClampNeg ((iN 0)).toInt) 12 3 (x2).toNatClampNeg ((iN 0)).toInt) K))))) :
  G l E d m_Ties_look 29 [(0, (.ref 12, 30)), (1, (.ref r2, 11)), (2, (.int x2, 0))] [] M K := G.blk 60 _ hd ok_Ties_look rfl h
set_option maxRecDepth 100000 in
theorem b_Ties_look_64 {l : Launch} {E : EnvT} {d : Nat} {K : AV → Mem → Prop} {M : Mem} {r2 : Nat} {x2 : Int32} {x3 : Int32} (hd : 1 ≤ d)
  (h : (((iN (M 12 0 6)) ≤ x3 →
   G l E d m_Ties_look 29 [(0, (.ref 12, 30)), (1, (.ref r2, 11)), (2, (.int (x2 + iN 1), 0))] [] M K) ∧
  (¬ (iN (M 12 0 6)) ≤ x3 →
   ((x2 = x3 →
    ((x2 = x3 →
     G l E d m_Ties_look 64 [(0, (.ref 12, 30)), (1, (.ref r2, 11)), (2, (.int x2, 0)), (3, (.int (x3 + iN 1), 0))] [] M K) ∧
    (¬ x2 = x3 →
     CT l E (d - 1) m_Choir_owedBetween [(.ref r2, 11), (.int x2, 0), (.int x3, 0)] M (fun v1 M1 =>
      (((toI v1) ≤ 0 →
       G l E d m_Ties_look 64 [(0, (.ref 12, 30)), (1, (.ref r2, 11)), (2, (.int x2, 0)), (3, (.int (x3 + iN 1), 0))] [] M1 K) ∧
      (¬ (toI v1) ≤ 0 →
       (vp_in x2 8 ∧ vp_in x2 8 ∧ G l E d m_Ties_look 64 [(0, (.ref 12, 30)), (1, (.ref r2, 11)), (2, (.int x2, 0)), (3, (.int (x3 + iN 1), 0))] [] (upd3 M1 12 3 (x2).toNatClampNeg (((iN (M1 12 3 (x2).toNatClampNeg)) ||| ((iN 1) <<< (x3 &&& 31)))).toInt) K))))))) ∧
   (¬ x2 = x3 →
    CT l E (d - 1) m_Choir_debtAtNote [(.ref r2, 11), (.int x2, 0), (.int x3, 0)] M (fun v2 M2 =>
     (((toI v2) ≤ 0 →
      ((x2 = x3 →
       G l E d m_Ties_look 64 [(0, (.ref 12, 30)), (1, (.ref r2, 11)), (2, (.int x2, 0)), (3, (.int (x3 + iN 1), 0))] [] M2 K) ∧
      (¬ x2 = x3 →
       CT l E (d - 1) m_Choir_owedBetween [(.ref r2, 11), (.int x2, 0), (.int x3, 0)] M2 (fun v3 M3 =>
        (((toI v3) ≤ 0 →
         G l E d m_Ties_look 64 [(0, (.ref 12, 30)), (1, (.ref r2, 11)), (2, (.int x2, 0)), (3, (.int (x3 + iN 1), 0))] [] M3 K) ∧
        (¬ (toI v3) ≤ 0 →
         (vp_in x2 8 ∧ vp_in x2 8 ∧ G l E d m_Ties_look 64 [(0, (.ref 12, 30)), (1, (.ref r2, 11)), (2, (.int x2, 0)), (3, (.int (x3 + iN 1), 0))] [] (upd3 M3 12 3 (x2).toNatClampNeg (((iN (M3 12 3 (x2).toNatClampNeg)) ||| ((iN 1) <<< (x3 &&& 31)))).toInt) K))))))) ∧
     (¬ (toI v2) ≤ 0 →
      (vp_in x2 8 ∧ vp_in x2 8 ∧ ((x2 = x3 →
       G l E d m_Ties_look 64 [(0, (.ref 12, 30)), (1, (.ref r2, 11)), (2, (.int x2, 0)), (3, (.int (x3 + iN 1), 0))] [] (upd3 M2 12 2 (x2).toNatClampNeg (((iN (M2 12 2 (x2).toNatClampNeg)) ||| ((iN 1) <<< (x3 &&& 31)))).toInt) K) ∧
      (¬ x2 = x3 →
       CT l E (d - 1) m_Choir_owedBetween [(.ref r2, 11), (.int x2, 0), (.int x3, 0)] (upd3 M2 12 2 (x2).toNatClampNeg (((iN (M2 12 2 (x2).toNatClampNeg)) ||| ((iN 1) <<< (x3 &&& 31)))).toInt) (fun v4 M4 =>
        (((toI v4) ≤ 0 →
         G l E d m_Ties_look 64 [(0, (.ref 12, 30)), (1, (.ref r2, 11)), (2, (.int x2, 0)), (3, (.int (x3 + iN 1), 0))] [] M4 K) ∧
        (¬ (toI v4) ≤ 0 →
         (vp_in x2 8 ∧ vp_in x2 8 ∧ G l E d m_Ties_look 64 [(0, (.ref 12, 30)), (1, (.ref r2, 11)), (2, (.int x2, 0)), (3, (.int (x3 + iN 1), 0))] [] (upd3 M4 12 3 (x2).toNatClampNeg (((iN (M4 12 3 (x2).toNatClampNeg)) ||| ((iN 1) <<< (x3 &&& 31)))).toInt) K))))))))))))))) :
  G l E d m_Ties_look 64 [(0, (.ref 12, 30)), (1, (.ref r2, 11)), (2, (.int x2, 0)), (3, (.int x3, 0))] [] M K := G.blk 60 _ hd ok_Ties_look rfl h
def bt_Ties_uneven : BtT := [(0, [0], true, [(0, .iconst 0, 1, 0, 0, 0, m0),
   (1, .istore_n 1, 1, 0, 0, 0, m0),
   (2, .iconst 0, 1, 0, 0, 0, m0),
   (3, .istore_n 2, 1, 0, 0, 0, m0),
   (4, .nop, 0, 0, 0, 0, m0)]),
  (4, [0, 1, 2], true, [(4, .iload_n 2, 1, 0, 0, 0, m0),
   (5, .aload_n 0, 1, 0, 0, 0, m0),
   (6, .getfield 30, 3, 6, 4, 410, m0),
   (9, .if_icmp .ge 24, 3, 33, 0, 0, m0),
   (12, .nop, 0, 0, 0, 0, m0)]),
  (12, [], false, [(12, .aload_n 0, 1, 0, 0, 0, m0),
   (13, .getfield 9, 3, 0, 4, 403, m0),
   (16, .iload_n 2, 1, 0, 0, 0, m0),
   (17, .iaload, 1, 0, 0, 0, m0),
   (18, .ifCond .eq 9, 3, 27, 0, 0, m0),
   (21, .nop, 0, 0, 0, 0, m0)]),
  (21, [], false, [(21, .iload_n 1, 1, 0, 0, 0, m0),
   (22, .iconst 1, 1, 0, 0, 0, m0),
   (23, .iload_n 2, 1, 0, 0, 0, m0),
   (24, .ishl, 1, 0, 0, 0, m0),
   (25, .ior, 1, 0, 0, 0, m0),
   (26, .istore_n 1, 1, 0, 0, 0, m0),
   (27, .nop, 0, 0, 0, 0, m0)]),
  (27, [], false, [(27, .iinc 2 1, 3, 0, 0, 0, m0),
   (30, .goto (-26), 3, 4, 0, 0, m0)]),
  (33, [], false, [(33, .iload_n 1, 1, 0, 0, 0, m0),
   (34, .ireturn, 1, 0, 0, 0, m0)])]
theorem ok_Ties_uneven : okBt m_Ties_uneven bt_Ties_uneven = true := by decide +kernel
set_option maxRecDepth 100000 in
theorem b_Ties_uneven_0 {l : Launch} {E : EnvT} {d : Nat} {K : AV → Mem → Prop} {M : Mem}  (hd : 1 ≤ d)
  (h : G l E d m_Ties_uneven 4 [(0, (.ref 12, 30)), (1, (.int (iN 0), 0)), (2, (.int (iN 0), 0))] [] M K) :
  G l E d m_Ties_uneven 0 [(0, (.ref 12, 30))] [] M K := G.blk 60 _ hd ok_Ties_uneven rfl h
set_option maxRecDepth 100000 in
theorem b_Ties_uneven_4 {l : Launch} {E : EnvT} {d : Nat} {K : AV → Mem → Prop} {M : Mem} {x1 : Int32} {x2 : Int32} (hd : 1 ≤ d)
  (h : (((iN (M 12 0 6)) ≤ x2 →
   K (.int x1, 0) M) ∧
  (¬ (iN (M 12 0 6)) ≤ x2 →
   (vp_in x2 8 ∧ (((iN (M 12 1 (x2).toNatClampNeg)) = 0 →
    G l E d m_Ties_uneven 4 [(0, (.ref 12, 30)), (1, (.int x1, 0)), (2, (.int (x2 + iN 1), 0))] [] M K) ∧
   (¬ (iN (M 12 1 (x2).toNatClampNeg)) = 0 →
    G l E d m_Ties_uneven 4 [(0, (.ref 12, 30)), (1, (.int (x1 ||| ((iN 1) <<< (x2 &&& 31))), 0)), (2, (.int (x2 + iN 1), 0))] [] M K)))))) :
  G l E d m_Ties_uneven 4 [(0, (.ref 12, 30)), (1, (.int x1, 0)), (2, (.int x2, 0))] [] M K := G.blk 60 _ hd ok_Ties_uneven rfl h
def bt_Ties_unevenCount : BtT := [(0, [0], true, [(0, .aload_n 0, 1, 0, 0, 0, m0),
   (1, .invokevirtual 52, 3, 0, 0, 1160, m_Ties_uneven),
   (4, .invokestatic 56, 3, 0, 0, 1164, m_Integer_bitCount),
   (7, .ireturn, 1, 0, 0, 0, m0)])]
theorem ok_Ties_unevenCount : okBt m_Ties_unevenCount bt_Ties_unevenCount = true := by decide +kernel
set_option maxRecDepth 100000 in
theorem b_Ties_unevenCount_0 {l : Launch} {E : EnvT} {d : Nat} {K : AV → Mem → Prop} {M : Mem}  (hd : 1 ≤ d)
  (h : CT l E (d - 1) m_Ties_uneven [(.ref 12, 30)] M (fun v1 M1 =>
   CT l E (d - 1) m_Integer_bitCount [(.int (toI v1), 0)] M1 (fun v2 M2 =>
    K (.int (toI v2), 0) M2))) :
  G l E d m_Ties_unevenCount 0 [(0, (.ref 12, 30))] [] M K := G.blk 60 _ hd ok_Ties_unevenCount rfl h
def bt_Ties_addUp : BtT := [(0, [0, 1], true, [(0, .iconst 0, 1, 0, 0, 0, m0),
   (1, .istore_n 2, 1, 0, 0, 0, m0),
   (2, .iconst 0, 1, 0, 0, 0, m0),
   (3, .istore_n 3, 1, 0, 0, 0, m0),
   (4, .iconst 0, 1, 0, 0, 0, m0),
   (5, .istore 4, 2, 0, 0, 0, m0),
   (7, .nop, 0, 0, 0, 0, m0)]),
  (7, [0, 1, 2, 3, 4], true, [(7, .iload 4, 2, 0, 0, 0, m0),
   (9, .aload_n 0, 1, 0, 0, 0, m0),
   (10, .getfield 30, 3, 6, 4, 410, m0),
   (13, .if_icmp .ge 56, 3, 69, 0, 0, m0),
   (16, .nop, 0, 0, 0, 0, m0)]),
  (16, [], false, [(16, .iload_n 1, 1, 0, 0, 0, m0),
   (17, .iload 4, 2, 0, 0, 0, m0),
   (19, .invokestatic 65, 3, 0, 0, 1173, m_Choir_isIn),
   (22, .ifCond .eq 41, 3, 63, 0, 0, m0),
   (25, .nop, 0, 0, 0, 0, m0)]),
  (25, [], false, [(25, .iload_n 1, 1, 0, 0, 0, m0),
   (26, .iconst 1, 1, 0, 0, 0, m0),
   (27, .iload 4, 2, 0, 0, 0, m0),
   (29, .ishl, 1, 0, 0, 0, m0),
   (30, .iconst (-1), 1, 0, 0, 0, m0),
   (31, .ixor, 1, 0, 0, 0, m0),
   (32, .iand, 1, 0, 0, 0, m0),
   (33, .istore 5, 2, 0, 0, 0, m0),
   (35, .aload_n 0, 1, 0, 0, 0, m0),
   (36, .getfield 24, 3, 4, 4, 408, m0),
   (39, .iload 5, 2, 0, 0, 0, m0),
   (41, .iaload, 1, 0, 0, 0, m0),
   (42, .aload_n 0, 1, 0, 0, 0, m0),
   (43, .getfield 9, 3, 0, 4, 403, m0),
   (46, .iload 4, 2, 0, 0, 0, m0),
   (48, .iaload, 1, 0, 0, 0, m0),
   (49, .iadd, 1, 0, 0, 0, m0),
   (50, .istore_n 3, 1, 0, 0, 0, m0),
   (51, .iload_n 2, 1, 0, 0, 0, m0),
   (52, .aload_n 0, 1, 0, 0, 0, m0),
   (53, .getfield 27, 3, 5, 4, 409, m0),
   (56, .iload 5, 2, 0, 0, 0, m0),
   (58, .iaload, 1, 0, 0, 0, m0),
   (59, .invokestatic 69, 3, 0, 0, 1174, m_Math_max),
   (62, .istore_n 2, 1, 0, 0, 0, m0),
   (63, .nop, 0, 0, 0, 0, m0)]),
  (63, [], false, [(63, .iinc 4 1, 3, 0, 0, 0, m0),
   (66, .goto (-59), 3, 7, 0, 0, m0)]),
  (69, [], false, [(69, .aload_n 0, 1, 0, 0, 0, m0),
   (70, .getfield 24, 3, 4, 4, 408, m0),
   (73, .iload_n 1, 1, 0, 0, 0, m0),
   (74, .iload_n 3, 1, 0, 0, 0, m0),
   (75, .iastore, 1, 0, 0, 0, m0),
   (76, .aload_n 0, 1, 0, 0, 0, m0),
   (77, .getfield 27, 3, 5, 4, 409, m0),
   (80, .iload_n 1, 1, 0, 0, 0, m0),
   (81, .iload_n 3, 1, 0, 0, 0, m0),
   (82, .ifCond .ne 9, 3, 91, 0, 0, m0),
   (85, .nop, 0, 0, 0, 0, m0)]),
  (85, [], false, [(85, .iload_n 2, 1, 0, 0, 0, m0),
   (86, .iconst 1, 1, 0, 0, 0, m0),
   (87, .iadd, 1, 0, 0, 0, m0),
   (88, .goto 4, 3, 92, 0, 0, m0)]),
  (91, [], false, [(91, .iload_n 2, 1, 0, 0, 0, m0),
   (92, .nop, 0, 0, 0, 0, m0)]),
  (92, [], false, [(92, .iastore, 1, 0, 0, 0, m0),
   (93, .return_, 1, 0, 0, 0, m0)])]
theorem ok_Ties_addUp : okBt m_Ties_addUp bt_Ties_addUp = true := by decide +kernel
set_option maxRecDepth 100000 in
theorem b_Ties_addUp_0 {l : Launch} {E : EnvT} {d : Nat} {K : AV → Mem → Prop} {M : Mem} {x1 : Int32} (hd : 1 ≤ d)
  (h : G l E d m_Ties_addUp 7 [(0, (.ref 12, 30)), (1, (.int x1, 0)), (2, (.int (iN 0), 0)), (3, (.int (iN 0), 0)), (4, (.int (iN 0), 0))] [] M K) :
  G l E d m_Ties_addUp 0 [(0, (.ref 12, 30)), (1, (.int x1, 0))] [] M K := G.blk 60 _ hd ok_Ties_addUp rfl h
set_option maxRecDepth 100000 in
theorem b_Ties_addUp_7 {l : Launch} {E : EnvT} {d : Nat} {K : AV → Mem → Prop} {M : Mem} {x1 : Int32} {x2 : Int32} {x3 : Int32} {x4 : Int32} (hd : 1 ≤ d)
  (h : (((iN (M 12 0 6)) ≤ x4 →
   (vp_in x1 256 ∧ ((¬ x3 = 0 →
    (vp_in x1 256 ∧ K (.null, 0) (upd3 (upd3 M 12 5 (x1).toNatClampNeg (x3).toInt) 12 6 (x1).toNatClampNeg (x2).toInt))) ∧
   (x3 = 0 →
    (vp_in x1 256 ∧ K (.null, 0) (upd3 (upd3 M 12 5 (x1).toNatClampNeg (x3).toInt) 12 6 (x1).toNatClampNeg ((x2 + (iN 1))).toInt)))))) ∧
  (¬ (iN (M 12 0 6)) ≤ x4 →
   CT l E (d - 1) m_Choir_isIn [(.int x1, 0), (.int x4, 0)] M (fun v1 M1 =>
    (((toI v1) = 0 →
     G l E d m_Ties_addUp 7 [(0, (.ref 12, 30)), (1, (.int x1, 0)), (2, (.int x2, 0)), (3, (.int x3, 0)), (4, (.int (x4 + iN 1), 0))] [] M1 K) ∧
    (¬ (toI v1) = 0 →
     (vp_in (x1 &&& (((iN 1) <<< (x4 &&& 31)) ^^^ (iN (-1)))) 256 ∧ vp_in x4 8 ∧ vp_in (x1 &&& (((iN 1) <<< (x4 &&& 31)) ^^^ (iN (-1)))) 256 ∧ CT l E (d - 1) m_Math_max [(.int x2, 0), (.int (iN (M1 12 6 ((x1 &&& (((iN 1) <<< (x4 &&& 31)) ^^^ (iN (-1))))).toNatClampNeg)), 0)] M1 (fun v2 M2 =>
      G l E d m_Ties_addUp 7 [(0, (.ref 12, 30)), (1, (.int x1, 0)), (2, (.int (toI v2), 0)), (3, (.int ((iN (M1 12 5 ((x1 &&& (((iN 1) <<< (x4 &&& 31)) ^^^ (iN (-1))))).toNatClampNeg)) + (iN (M1 12 1 (x4).toNatClampNeg))), 0)), (4, (.int (x4 + iN 1), 0))] [] M2 K)))))))) :
  G l E d m_Ties_addUp 7 [(0, (.ref 12, 30)), (1, (.int x1, 0)), (2, (.int x2, 0)), (3, (.int x3, 0)), (4, (.int x4, 0))] [] M K := G.blk 60 _ hd ok_Ties_addUp rfl h
def bt_Ties_mostParts : BtT := [(0, [0], true, [(0, .aload_n 0, 1, 0, 0, 0, m0),
   (1, .invokevirtual 52, 3, 0, 0, 1160, m_Ties_uneven),
   (4, .istore_n 1, 1, 0, 0, 0, m0),
   (5, .aload_n 0, 1, 0, 0, 0, m0),
   (6, .getfield 24, 3, 4, 4, 408, m0),
   (9, .iconst 0, 1, 0, 0, 0, m0),
   (10, .iconst 0, 1, 0, 0, 0, m0),
   (11, .iastore, 1, 0, 0, 0, m0),
   (12, .aload_n 0, 1, 0, 0, 0, m0),
   (13, .getfield 27, 3, 5, 4, 409, m0),
   (16, .iconst 0, 1, 0, 0, 0, m0),
   (17, .iconst 0, 1, 0, 0, 0, m0),
   (18, .iastore, 1, 0, 0, 0, m0),
   (19, .iconst 1, 1, 0, 0, 0, m0),
   (20, .istore_n 2, 1, 0, 0, 0, m0),
   (21, .nop, 0, 0, 0, 0, m0)]),
  (21, [0, 1, 2], true, [(21, .iload_n 2, 1, 0, 0, 0, m0),
   (22, .iload_n 1, 1, 0, 0, 0, m0),
   (23, .if_icmp .gt 22, 3, 45, 0, 0, m0),
   (26, .nop, 0, 0, 0, 0, m0)]),
  (26, [], false, [(26, .iload_n 2, 1, 0, 0, 0, m0),
   (27, .iload_n 1, 1, 0, 0, 0, m0),
   (28, .iconst (-1), 1, 0, 0, 0, m0),
   (29, .ixor, 1, 0, 0, 0, m0),
   (30, .iand, 1, 0, 0, 0, m0),
   (31, .ifCond .ne 8, 3, 39, 0, 0, m0),
   (34, .nop, 0, 0, 0, 0, m0)]),
  (34, [], false, [(34, .aload_n 0, 1, 0, 0, 0, m0),
   (35, .iload_n 2, 1, 0, 0, 0, m0),
   (36, .invokevirtual 61, 3, 0, 0, 1169, m_Ties_addUp),
   (39, .nop, 0, 0, 0, 0, m0)]),
  (39, [], false, [(39, .iinc 2 1, 3, 0, 0, 0, m0),
   (42, .goto (-21), 3, 21, 0, 0, m0)]),
  (45, [], false, [(45, .aload_n 0, 1, 0, 0, 0, m0),
   (46, .getfield 27, 3, 5, 4, 409, m0),
   (49, .iload_n 1, 1, 0, 0, 0, m0),
   (50, .iaload, 1, 0, 0, 0, m0),
   (51, .ireturn, 1, 0, 0, 0, m0)])]
theorem ok_Ties_mostParts : okBt m_Ties_mostParts bt_Ties_mostParts = true := by decide +kernel
set_option maxRecDepth 100000 in
theorem b_Ties_mostParts_0 {l : Launch} {E : EnvT} {d : Nat} {K : AV → Mem → Prop} {M : Mem}  (hd : 1 ≤ d)
  (h : CT l E (d - 1) m_Ties_uneven [(.ref 12, 30)] M (fun v1 M1 =>
   (vp_in (iN 0) 256 ∧ vp_in (iN 0) 256 ∧ G l E d m_Ties_mostParts 21 [(0, (.ref 12, 30)), (1, (.int (toI v1), 0)), (2, (.int (iN 1), 0))] [] (upd3 (upd3 M1 12 5 ((iN 0)).toNatClampNeg ((iN 0)).toInt) 12 6 ((iN 0)).toNatClampNeg ((iN 0)).toInt) K))) :
  G l E d m_Ties_mostParts 0 [(0, (.ref 12, 30))] [] M K := G.blk 60 _ hd ok_Ties_mostParts rfl h
set_option maxRecDepth 100000 in
theorem b_Ties_mostParts_21 {l : Launch} {E : EnvT} {d : Nat} {K : AV → Mem → Prop} {M : Mem} {x1 : Int32} {x2 : Int32} (hd : 1 ≤ d)
  (h : ((x1 < x2 →
   (vp_in x1 256 ∧ K (.int (iN (M 12 6 (x1).toNatClampNeg)), 0) M)) ∧
  (¬ x1 < x2 →
   ((¬ (x2 &&& (x1 ^^^ (iN (-1)))) = 0 →
    G l E d m_Ties_mostParts 21 [(0, (.ref 12, 30)), (1, (.int x1, 0)), (2, (.int (x2 + iN 1), 0))] [] M K) ∧
   ((x2 &&& (x1 ^^^ (iN (-1)))) = 0 →
    CT l E (d - 1) m_Ties_addUp [(.ref 12, 30), (.int x2, 0)] M (fun v1 M1 =>
     G l E d m_Ties_mostParts 21 [(0, (.ref 12, 30)), (1, (.int x1, 0)), (2, (.int (x2 + iN 1), 0))] [] M1 K)))))) :
  G l E d m_Ties_mostParts 21 [(0, (.ref 12, 30)), (1, (.int x1, 0)), (2, (.int x2, 0))] [] M K := G.blk 60 _ hd ok_Ties_mostParts rfl h
def bt_Ties_closes : BtT := [(0, [0, 1, 2, 3], true, [(0, .aload_n 0, 1, 0, 0, 0, m0),
   (1, .getfield 15, 3, 1, 4, 404, m0),
   (4, .aload_n 0, 1, 0, 0, 0, m0),
   (5, .getfield 21, 3, 3, 4, 406, m0),
   (8, .iload_n 1, 1, 0, 0, 0, m0),
   (9, .iconst 1, 1, 0, 0, 0, m0),
   (10, .isub, 1, 0, 0, 0, m0),
   (11, .iaload, 1, 0, 0, 0, m0),
   (12, .iaload, 1, 0, 0, 0, m0),
   (13, .istore 4, 2, 0, 0, 0, m0),
   (15, .iload_n 1, 1, 0, 0, 0, m0),
   (16, .iload_n 2, 1, 0, 0, 0, m0),
   (17, .if_icmp .lt 15, 3, 32, 0, 0, m0),
   (20, .nop, 0, 0, 0, 0, m0)]),
  (20, [], false, [(20, .iload 4, 2, 0, 0, 0, m0),
   (22, .aload_n 0, 1, 0, 0, 0, m0),
   (23, .getfield 21, 3, 3, 4, 406, m0),
   (26, .iconst 0, 1, 0, 0, 0, m0),
   (27, .iaload, 1, 0, 0, 0, m0),
   (28, .invokestatic 65, 3, 0, 0, 1173, m_Choir_isIn),
   (31, .ireturn, 1, 0, 0, 0, m0)]),
  (32, [], false, [(32, .aload_n 0, 1, 0, 0, 0, m0),
   (33, .getfield 21, 3, 3, 4, 406, m0),
   (36, .iconst 0, 1, 0, 0, 0, m0),
   (37, .iaload, 1, 0, 0, 0, m0),
   (38, .iconst 1, 1, 0, 0, 0, m0),
   (39, .iadd, 1, 0, 0, 0, m0),
   (40, .istore 5, 2, 0, 0, 0, m0),
   (42, .nop, 0, 0, 0, 0, m0)]),
  (42, [0, 1, 2, 3, 4, 5], true, [(42, .iload 5, 2, 0, 0, 0, m0),
   (44, .aload_n 0, 1, 0, 0, 0, m0),
   (45, .getfield 30, 3, 6, 4, 410, m0),
   (48, .if_icmp .ge 50, 3, 98, 0, 0, m0),
   (51, .nop, 0, 0, 0, 0, m0)]),
  (51, [], false, [(51, .iload 4, 2, 0, 0, 0, m0),
   (53, .iload_n 3, 1, 0, 0, 0, m0),
   (54, .iconst (-1), 1, 0, 0, 0, m0),
   (55, .ixor, 1, 0, 0, 0, m0),
   (56, .iand, 1, 0, 0, 0, m0),
   (57, .iload 5, 2, 0, 0, 0, m0),
   (59, .invokestatic 65, 3, 0, 0, 1173, m_Choir_isIn),
   (62, .ifCond .eq 30, 3, 92, 0, 0, m0),
   (65, .nop, 0, 0, 0, 0, m0)]),
  (65, [], false, [(65, .aload_n 0, 1, 0, 0, 0, m0),
   (66, .getfield 21, 3, 3, 4, 406, m0),
   (69, .iload_n 1, 1, 0, 0, 0, m0),
   (70, .iload 5, 2, 0, 0, 0, m0),
   (72, .iastore, 1, 0, 0, 0, m0),
   (73, .aload_n 0, 1, 0, 0, 0, m0),
   (74, .iload_n 1, 1, 0, 0, 0, m0),
   (75, .iconst 1, 1, 0, 0, 0, m0),
   (76, .iadd, 1, 0, 0, 0, m0),
   (77, .iload_n 2, 1, 0, 0, 0, m0),
   (78, .iload_n 3, 1, 0, 0, 0, m0),
   (79, .iconst 1, 1, 0, 0, 0, m0),
   (80, .iload 5, 2, 0, 0, 0, m0),
   (82, .ishl, 1, 0, 0, 0, m0),
   (83, .ior, 1, 0, 0, 0, m0),
   (84, .invokestatic 74, 3, 0, 0, 1228, m_Ties_closes),
   (87, .ifCond .eq 5, 3, 92, 0, 0, m0),
   (90, .nop, 0, 0, 0, 0, m0)]),
  (90, [], false, [(90, .iconst 1, 1, 0, 0, 0, m0),
   (91, .ireturn, 1, 0, 0, 0, m0)]),
  (92, [], false, [(92, .iinc 5 1, 3, 0, 0, 0, m0),
   (95, .goto (-53), 3, 42, 0, 0, m0)]),
  (98, [], false, [(98, .iconst 0, 1, 0, 0, 0, m0),
   (99, .ireturn, 1, 0, 0, 0, m0)])]
theorem ok_Ties_closes : okBt m_Ties_closes bt_Ties_closes = true := by decide +kernel
set_option maxRecDepth 100000 in
theorem b_Ties_closes_0 {l : Launch} {E : EnvT} {d : Nat} {K : AV → Mem → Prop} {M : Mem} {x1 : Int32} {x2 : Int32} {x3 : Int32} (hd : 1 ≤ d)
  (h : (vp_in (x1 - (iN 1)) 8 ∧ vp_in (iN (M 12 4 ((x1 - (iN 1))).toNatClampNeg)) 8 ∧ ((x1 < x2 →
   (vp_in (iN 0) 8 ∧ G l E d m_Ties_closes 42 [(0, (.ref 12, 30)), (1, (.int x1, 0)), (2, (.int x2, 0)), (3, (.int x3, 0)), (4, (.int (iN (M 12 2 ((iN (M 12 4 ((x1 - (iN 1))).toNatClampNeg))).toNatClampNeg)), 0)), (5, (.int ((iN (M 12 4 ((iN 0)).toNatClampNeg)) + (iN 1)), 0))] [] M K)) ∧
  (¬ x1 < x2 →
   (vp_in (iN 0) 8 ∧ CT l E (d - 1) m_Choir_isIn [(.int (iN (M 12 2 ((iN (M 12 4 ((x1 - (iN 1))).toNatClampNeg))).toNatClampNeg)), 0), (.int (iN (M 12 4 ((iN 0)).toNatClampNeg)), 0)] M (fun v1 M1 =>
    ((((toI v1) = 0 ∨ (toI v1) = 1)) ∧ K (.int (toI v1), 0) M1))))))) :
  G l E d m_Ties_closes 0 [(0, (.ref 12, 30)), (1, (.int x1, 0)), (2, (.int x2, 0)), (3, (.int x3, 0))] [] M K := G.blk 60 _ hd ok_Ties_closes rfl h
set_option maxRecDepth 100000 in
theorem b_Ties_closes_42 {l : Launch} {E : EnvT} {d : Nat} {K : AV → Mem → Prop} {M : Mem} {x1 : Int32} {x2 : Int32} {x3 : Int32} {x4 : Int32} {x5 : Int32} (hd : 1 ≤ d)
  (h : (((iN (M 12 0 6)) ≤ x5 →
   ((((iN 0) = 0 ∨ (iN 0) = 1)) ∧ K (.int (iN 0), 0) M)) ∧
  (¬ (iN (M 12 0 6)) ≤ x5 →
   CT l E (d - 1) m_Choir_isIn [(.int (x4 &&& (x3 ^^^ (iN (-1)))), 0), (.int x5, 0)] M (fun v1 M1 =>
    (((toI v1) = 0 →
     G l E d m_Ties_closes 42 [(0, (.ref 12, 30)), (1, (.int x1, 0)), (2, (.int x2, 0)), (3, (.int x3, 0)), (4, (.int x4, 0)), (5, (.int (x5 + iN 1), 0))] [] M1 K) ∧
    (¬ (toI v1) = 0 →
     (vp_in x1 8 ∧ CT l E (d - 1) m_Ties_closes [(.ref 12, 30), (.int (x1 + (iN 1)), 0), (.int x2, 0), (.int (x3 ||| ((iN 1) <<< (x5 &&& 31))), 0)] (upd3 M1 12 4 (x1).toNatClampNeg (x5).toInt) (fun v2 M2 =>
      (((toI v2) = 0 →
       G l E d m_Ties_closes 42 [(0, (.ref 12, 30)), (1, (.int x1, 0)), (2, (.int x2, 0)), (3, (.int x3, 0)), (4, (.int x4, 0)), (5, (.int (x5 + iN 1), 0))] [] M2 K) ∧
      (¬ (toI v2) = 0 →
       ((((iN 1) = 0 ∨ (iN 1) = 1)) ∧ K (.int (iN 1), 0) M2))))))))))) :
  G l E d m_Ties_closes 42 [(0, (.ref 12, 30)), (1, (.int x1, 0)), (2, (.int x2, 0)), (3, (.int x3, 0)), (4, (.int x4, 0)), (5, (.int x5, 0))] [] M K := G.blk 60 _ hd ok_Ties_closes rfl h
def bt_Ties_findRound : BtT := [(0, [0], true, [(0, .iconst 3, 1, 0, 0, 0, m0),
   (1, .istore_n 1, 1, 0, 0, 0, m0),
   (2, .nop, 0, 0, 0, 0, m0)]),
  (2, [0, 1], true, [(2, .iload_n 1, 1, 0, 0, 0, m0),
   (3, .aload_n 0, 1, 0, 0, 0, m0),
   (4, .getfield 30, 3, 6, 4, 410, m0),
   (7, .if_icmp .gt 46, 3, 53, 0, 0, m0),
   (10, .nop, 0, 0, 0, 0, m0)]),
  (10, [], false, [(10, .iconst 0, 1, 0, 0, 0, m0),
   (11, .istore_n 2, 1, 0, 0, 0, m0),
   (12, .nop, 0, 0, 0, 0, m0)]),
  (12, [0, 1, 2], true, [(12, .iload_n 2, 1, 0, 0, 0, m0),
   (13, .aload_n 0, 1, 0, 0, 0, m0),
   (14, .getfield 30, 3, 6, 4, 410, m0),
   (17, .if_icmp .ge 30, 3, 47, 0, 0, m0),
   (20, .nop, 0, 0, 0, 0, m0)]),
  (20, [], false, [(20, .aload_n 0, 1, 0, 0, 0, m0),
   (21, .getfield 21, 3, 3, 4, 406, m0),
   (24, .iconst 0, 1, 0, 0, 0, m0),
   (25, .iload_n 2, 1, 0, 0, 0, m0),
   (26, .iastore, 1, 0, 0, 0, m0),
   (27, .aload_n 0, 1, 0, 0, 0, m0),
   (28, .iconst 1, 1, 0, 0, 0, m0),
   (29, .iload_n 1, 1, 0, 0, 0, m0),
   (30, .iconst 1, 1, 0, 0, 0, m0),
   (31, .iload_n 2, 1, 0, 0, 0, m0),
   (32, .ishl, 1, 0, 0, 0, m0),
   (33, .invokestatic 74, 3, 0, 0, 1228, m_Ties_closes),
   (36, .ifCond .eq 5, 3, 41, 0, 0, m0),
   (39, .nop, 0, 0, 0, 0, m0)]),
  (39, [], false, [(39, .iload_n 1, 1, 0, 0, 0, m0),
   (40, .ireturn, 1, 0, 0, 0, m0)]),
  (41, [], false, [(41, .iinc 2 1, 3, 0, 0, 0, m0),
   (44, .goto (-32), 3, 12, 0, 0, m0)]),
  (47, [], false, [(47, .iinc 1 1, 3, 0, 0, 0, m0),
   (50, .goto (-48), 3, 2, 0, 0, m0)]),
  (53, [], false, [(53, .iconst 0, 1, 0, 0, 0, m0),
   (54, .ireturn, 1, 0, 0, 0, m0)])]
theorem ok_Ties_findRound : okBt m_Ties_findRound bt_Ties_findRound = true := by decide +kernel
set_option maxRecDepth 100000 in
theorem b_Ties_findRound_0 {l : Launch} {E : EnvT} {d : Nat} {K : AV → Mem → Prop} {M : Mem}  (hd : 1 ≤ d)
  (h : G l E d m_Ties_findRound 2 [(0, (.ref 12, 30)), (1, (.int (iN 3), 0))] [] M K) :
  G l E d m_Ties_findRound 0 [(0, (.ref 12, 30))] [] M K := G.blk 60 _ hd ok_Ties_findRound rfl h
set_option maxRecDepth 100000 in
theorem b_Ties_findRound_2 {l : Launch} {E : EnvT} {d : Nat} {K : AV → Mem → Prop} {M : Mem} {x1 : Int32} (hd : 1 ≤ d)
  (h : (((iN (M 12 0 6)) < x1 →
   K (.int (iN 0), 0) M) ∧
  (¬ (iN (M 12 0 6)) < x1 →
   G l E d m_Ties_findRound 12 [(0, (.ref 12, 30)), (1, (.int x1, 0)), (2, (.int (iN 0), 0))] [] M K))) :
  G l E d m_Ties_findRound 2 [(0, (.ref 12, 30)), (1, (.int x1, 0))] [] M K := G.blk 60 _ hd ok_Ties_findRound rfl h
set_option maxRecDepth 100000 in
theorem b_Ties_findRound_12 {l : Launch} {E : EnvT} {d : Nat} {K : AV → Mem → Prop} {M : Mem} {x1 : Int32} {x2 : Int32} (hd : 1 ≤ d)
  (h : (((iN (M 12 0 6)) ≤ x2 →
   G l E d m_Ties_findRound 2 [(0, (.ref 12, 30)), (1, (.int (x1 + iN 1), 0))] [] M K) ∧
  (¬ (iN (M 12 0 6)) ≤ x2 →
   (vp_in (iN 0) 8 ∧ CT l E (d - 1) m_Ties_closes [(.ref 12, 30), (.int (iN 1), 0), (.int x1, 0), (.int ((iN 1) <<< (x2 &&& 31)), 0)] (upd3 M 12 4 ((iN 0)).toNatClampNeg (x2).toInt) (fun v1 M1 =>
    (((toI v1) = 0 →
     G l E d m_Ties_findRound 12 [(0, (.ref 12, 30)), (1, (.int x1, 0)), (2, (.int (x2 + iN 1), 0))] [] M1 K) ∧
    (¬ (toI v1) = 0 →
     K (.int x1, 0) M1))))))) :
  G l E d m_Ties_findRound 12 [(0, (.ref 12, 30)), (1, (.int x1, 0)), (2, (.int x2, 0))] [] M K := G.blk 60 _ hd ok_Ties_findRound rfl h
def bt_Ties_isInEach : BtT := [(0, [0, 1], true, [(0, .iconst 0, 1, 0, 0, 0, m0),
   (1, .istore_n 2, 1, 0, 0, 0, m0),
   (2, .nop, 0, 0, 0, 0, m0)]),
  (2, [0, 1, 2], true, [(2, .iload_n 2, 1, 0, 0, 0, m0),
   (3, .aload_n 0, 1, 0, 0, 0, m0),
   (4, .getfield 30, 3, 6, 4, 410, m0),
   (7, .if_icmp .ge 32, 3, 39, 0, 0, m0),
   (10, .nop, 0, 0, 0, 0, m0)]),
  (10, [], false, [(10, .iload_n 1, 1, 0, 0, 0, m0),
   (11, .iload_n 2, 1, 0, 0, 0, m0),
   (12, .invokestatic 65, 3, 0, 0, 1173, m_Choir_isIn),
   (15, .ifCond .ne 18, 3, 33, 0, 0, m0),
   (18, .nop, 0, 0, 0, 0, m0)]),
  (18, [], false, [(18, .aload_n 0, 1, 0, 0, 0, m0),
   (19, .getfield 18, 3, 2, 4, 405, m0),
   (22, .iload_n 2, 1, 0, 0, 0, m0),
   (23, .iaload, 1, 0, 0, 0, m0),
   (24, .iload_n 1, 1, 0, 0, 0, m0),
   (25, .iconst (-1), 1, 0, 0, 0, m0),
   (26, .ixor, 1, 0, 0, 0, m0),
   (27, .iand, 1, 0, 0, 0, m0),
   (28, .ifCond .eq 5, 3, 33, 0, 0, m0),
   (31, .nop, 0, 0, 0, 0, m0)]),
  (31, [], false, [(31, .iconst 0, 1, 0, 0, 0, m0),
   (32, .ireturn, 1, 0, 0, 0, m0)]),
  (33, [], false, [(33, .iinc 2 1, 3, 0, 0, 0, m0),
   (36, .goto (-34), 3, 2, 0, 0, m0)]),
  (39, [], false, [(39, .iconst 1, 1, 0, 0, 0, m0),
   (40, .ireturn, 1, 0, 0, 0, m0)])]
theorem ok_Ties_isInEach : okBt m_Ties_isInEach bt_Ties_isInEach = true := by decide +kernel
set_option maxRecDepth 100000 in
theorem b_Ties_isInEach_0 {l : Launch} {E : EnvT} {d : Nat} {K : AV → Mem → Prop} {M : Mem} {x1 : Int32} (hd : 1 ≤ d)
  (h : G l E d m_Ties_isInEach 2 [(0, (.ref 12, 30)), (1, (.int x1, 0)), (2, (.int (iN 0), 0))] [] M K) :
  G l E d m_Ties_isInEach 0 [(0, (.ref 12, 30)), (1, (.int x1, 0))] [] M K := G.blk 60 _ hd ok_Ties_isInEach rfl h
set_option maxRecDepth 100000 in
theorem b_Ties_isInEach_2 {l : Launch} {E : EnvT} {d : Nat} {K : AV → Mem → Prop} {M : Mem} {x1 : Int32} {x2 : Int32} (hd : 1 ≤ d)
  (h : (((iN (M 12 0 6)) ≤ x2 →
   ((((iN 1) = 0 ∨ (iN 1) = 1)) ∧ K (.int (iN 1), 0) M)) ∧
  (¬ (iN (M 12 0 6)) ≤ x2 →
   CT l E (d - 1) m_Choir_isIn [(.int x1, 0), (.int x2, 0)] M (fun v1 M1 =>
    ((¬ (toI v1) = 0 →
     G l E d m_Ties_isInEach 2 [(0, (.ref 12, 30)), (1, (.int x1, 0)), (2, (.int (x2 + iN 1), 0))] [] M1 K) ∧
    ((toI v1) = 0 →
     (vp_in x2 8 ∧ ((((iN (M1 12 3 (x2).toNatClampNeg)) &&& (x1 ^^^ (iN (-1)))) = 0 →
      G l E d m_Ties_isInEach 2 [(0, (.ref 12, 30)), (1, (.int x1, 0)), (2, (.int (x2 + iN 1), 0))] [] M1 K) ∧
     (¬ ((iN (M1 12 3 (x2).toNatClampNeg)) &&& (x1 ^^^ (iN (-1)))) = 0 →
      ((((iN 0) = 0 ∨ (iN 0) = 1)) ∧ K (.int (iN 0), 0) M1)))))))))) :
  G l E d m_Ties_isInEach 2 [(0, (.ref 12, 30)), (1, (.int x1, 0)), (2, (.int x2, 0))] [] M K := G.blk 60 _ hd ok_Ties_isInEach rfl h
def bt_Ties_leastAsked : BtT := [(0, [0], true, [(0, .iconst 1, 1, 0, 0, 0, m0),
   (1, .aload_n 0, 1, 0, 0, 0, m0),
   (2, .getfield 30, 3, 6, 4, 410, m0),
   (5, .ishl, 1, 0, 0, 0, m0),
   (6, .iconst 1, 1, 0, 0, 0, m0),
   (7, .isub, 1, 0, 0, 0, m0),
   (8, .istore_n 1, 1, 0, 0, 0, m0),
   (9, .iload_n 1, 1, 0, 0, 0, m0),
   (10, .iconst 1, 1, 0, 0, 0, m0),
   (11, .isub, 1, 0, 0, 0, m0),
   (12, .istore_n 2, 1, 0, 0, 0, m0),
   (13, .nop, 0, 0, 0, 0, m0)]),
  (13, [0, 1, 2], true, [(13, .iload_n 2, 1, 0, 0, 0, m0),
   (14, .ifCond .lt 30, 3, 44, 0, 0, m0),
   (17, .nop, 0, 0, 0, 0, m0)]),
  (17, [], false, [(17, .iload_n 2, 1, 0, 0, 0, m0),
   (18, .invokestatic 56, 3, 0, 0, 1164, m_Integer_bitCount),
   (21, .iload_n 1, 1, 0, 0, 0, m0),
   (22, .invokestatic 56, 3, 0, 0, 1164, m_Integer_bitCount),
   (25, .if_icmp .gt 13, 3, 38, 0, 0, m0),
   (28, .nop, 0, 0, 0, 0, m0)]),
  (28, [], false, [(28, .aload_n 0, 1, 0, 0, 0, m0),
   (29, .iload_n 2, 1, 0, 0, 0, m0),
   (30, .invokevirtual 78, 3, 0, 0, 1251, m_Ties_isInEach),
   (33, .ifCond .eq 5, 3, 38, 0, 0, m0),
   (36, .nop, 0, 0, 0, 0, m0)]),
  (36, [], false, [(36, .iload_n 2, 1, 0, 0, 0, m0),
   (37, .istore_n 1, 1, 0, 0, 0, m0),
   (38, .nop, 0, 0, 0, 0, m0)]),
  (38, [], false, [(38, .iinc 2 (-1), 3, 0, 0, 0, m0),
   (41, .goto (-28), 3, 13, 0, 0, m0)]),
  (44, [], false, [(44, .iload_n 1, 1, 0, 0, 0, m0),
   (45, .ireturn, 1, 0, 0, 0, m0)])]
theorem ok_Ties_leastAsked : okBt m_Ties_leastAsked bt_Ties_leastAsked = true := by decide +kernel
set_option maxRecDepth 100000 in
theorem b_Ties_leastAsked_0 {l : Launch} {E : EnvT} {d : Nat} {K : AV → Mem → Prop} {M : Mem}  (hd : 1 ≤ d)
  (h : G l E d m_Ties_leastAsked 13 [(0, (.ref 12, 30)), (1, (.int (((iN 1) <<< ((iN (M 12 0 6)) &&& 31)) - (iN 1)), 0)), (2, (.int ((((iN 1) <<< ((iN (M 12 0 6)) &&& 31)) - (iN 1)) - (iN 1)), 0))] [] M K) :
  G l E d m_Ties_leastAsked 0 [(0, (.ref 12, 30))] [] M K := G.blk 60 _ hd ok_Ties_leastAsked rfl h
set_option maxRecDepth 100000 in
theorem b_Ties_leastAsked_13 {l : Launch} {E : EnvT} {d : Nat} {K : AV → Mem → Prop} {M : Mem} {x1 : Int32} {x2 : Int32} (hd : 1 ≤ d)
  (h : ((x2 < 0 →
   K (.int x1, 0) M) ∧
  (¬ x2 < 0 →
   CT l E (d - 1) m_Integer_bitCount [(.int x2, 0)] M (fun v1 M1 =>
    CT l E (d - 1) m_Integer_bitCount [(.int x1, 0)] M1 (fun v2 M2 =>
     (((toI v2) < (toI v1) →
      G l E d m_Ties_leastAsked 13 [(0, (.ref 12, 30)), (1, (.int x1, 0)), (2, (.int (x2 + iN (-1)), 0))] [] M2 K) ∧
     (¬ (toI v2) < (toI v1) →
      CT l E (d - 1) m_Ties_isInEach [(.ref 12, 30), (.int x2, 0)] M2 (fun v3 M3 =>
       (((toI v3) = 0 →
        G l E d m_Ties_leastAsked 13 [(0, (.ref 12, 30)), (1, (.int x1, 0)), (2, (.int (x2 + iN (-1)), 0))] [] M3 K) ∧
       (¬ (toI v3) = 0 →
        G l E d m_Ties_leastAsked 13 [(0, (.ref 12, 30)), (1, (.int x2, 0)), (2, (.int (x2 + iN (-1)), 0))] [] M3 K)))))))))) :
  G l E d m_Ties_leastAsked 13 [(0, (.ref 12, 30)), (1, (.int x1, 0)), (2, (.int x2, 0))] [] M K := G.blk 60 _ hd ok_Ties_leastAsked rfl h
def bt_Ties_lengthen : BtT := [(0, [0, 1], true, [(0, .iconst 0, 1, 0, 0, 0, m0),
   (1, .istore_n 2, 1, 0, 0, 0, m0),
   (2, .nop, 0, 0, 0, 0, m0)]),
  (2, [0, 1, 2], true, [(2, .iload_n 2, 1, 0, 0, 0, m0),
   (3, .aload_n 0, 1, 0, 0, 0, m0),
   (4, .getfield 30, 3, 6, 4, 410, m0),
   (7, .if_icmp .ge 78, 3, 85, 0, 0, m0),
   (10, .nop, 0, 0, 0, 0, m0)]),
  (10, [], false, [(10, .aload_n 0, 1, 0, 0, 0, m0),
   (11, .getfield 27, 3, 5, 4, 409, m0),
   (14, .iload_n 1, 1, 0, 0, 0, m0),
   (15, .iaload, 1, 0, 0, 0, m0),
   (16, .iload_n 2, 1, 0, 0, 0, m0),
   (17, .invokestatic 65, 3, 0, 0, 1173, m_Choir_isIn),
   (20, .ifCond .eq 59, 3, 79, 0, 0, m0),
   (23, .nop, 0, 0, 0, 0, m0)]),
  (23, [], false, [(23, .aload_n 0, 1, 0, 0, 0, m0),
   (24, .getfield 15, 3, 1, 4, 404, m0),
   (27, .iload_n 2, 1, 0, 0, 0, m0),
   (28, .iaload, 1, 0, 0, 0, m0),
   (29, .iload_n 1, 1, 0, 0, 0, m0),
   (30, .iconst (-1), 1, 0, 0, 0, m0),
   (31, .ixor, 1, 0, 0, 0, m0),
   (32, .iand, 1, 0, 0, 0, m0),
   (33, .istore_n 3, 1, 0, 0, 0, m0),
   (34, .iconst 0, 1, 0, 0, 0, m0),
   (35, .istore 4, 2, 0, 0, 0, m0),
   (37, .nop, 0, 0, 0, 0, m0)]),
  (37, [0, 1, 2, 3, 4], true, [(37, .iload 4, 2, 0, 0, 0, m0),
   (39, .aload_n 0, 1, 0, 0, 0, m0),
   (40, .getfield 30, 3, 6, 4, 410, m0),
   (43, .if_icmp .ge 36, 3, 79, 0, 0, m0),
   (46, .nop, 0, 0, 0, 0, m0)]),
  (46, [], false, [(46, .iload_n 3, 1, 0, 0, 0, m0),
   (47, .iload 4, 2, 0, 0, 0, m0),
   (49, .invokestatic 65, 3, 0, 0, 1173, m_Choir_isIn),
   (52, .ifCond .eq 21, 3, 73, 0, 0, m0),
   (55, .nop, 0, 0, 0, 0, m0)]),
  (55, [], false, [(55, .aload_n 0, 1, 0, 0, 0, m0),
   (56, .getfield 27, 3, 5, 4, 409, m0),
   (59, .iload_n 1, 1, 0, 0, 0, m0),
   (60, .iconst 1, 1, 0, 0, 0, m0),
   (61, .iload 4, 2, 0, 0, 0, m0),
   (63, .ishl, 1, 0, 0, 0, m0),
   (64, .ior, 1, 0, 0, 0, m0),
   (65, .dup2, 1, 0, 0, 0, m0),
   (66, .iaload, 1, 0, 0, 0, m0),
   (67, .iconst 1, 1, 0, 0, 0, m0),
   (68, .iload 4, 2, 0, 0, 0, m0),
   (70, .ishl, 1, 0, 0, 0, m0),
   (71, .ior, 1, 0, 0, 0, m0),
   (72, .iastore, 1, 0, 0, 0, m0),
   (73, .nop, 0, 0, 0, 0, m0)]),
  (73, [], false, [(73, .iinc 4 1, 3, 0, 0, 0, m0),
   (76, .goto (-39), 3, 37, 0, 0, m0)]),
  (79, [], false, [(79, .iinc 2 1, 3, 0, 0, 0, m0),
   (82, .goto (-80), 3, 2, 0, 0, m0)]),
  (85, [], false, [(85, .return_, 1, 0, 0, 0, m0)])]
theorem ok_Ties_lengthen : okBt m_Ties_lengthen bt_Ties_lengthen = true := by decide +kernel
set_option maxRecDepth 100000 in
theorem b_Ties_lengthen_0 {l : Launch} {E : EnvT} {d : Nat} {K : AV → Mem → Prop} {M : Mem} {x1 : Int32} (hd : 1 ≤ d)
  (h : G l E d m_Ties_lengthen 2 [(0, (.ref 12, 30)), (1, (.int x1, 0)), (2, (.int (iN 0), 0))] [] M K) :
  G l E d m_Ties_lengthen 0 [(0, (.ref 12, 30)), (1, (.int x1, 0))] [] M K := G.blk 60 _ hd ok_Ties_lengthen rfl h
set_option maxRecDepth 100000 in
theorem b_Ties_lengthen_2 {l : Launch} {E : EnvT} {d : Nat} {K : AV → Mem → Prop} {M : Mem} {x1 : Int32} {x2 : Int32} (hd : 1 ≤ d)
  (h : (((iN (M 12 0 6)) ≤ x2 →
   K (.null, 0) M) ∧
  (¬ (iN (M 12 0 6)) ≤ x2 →
   (vp_in x1 256 ∧ CT l E (d - 1) m_Choir_isIn [(.int (iN (M 12 6 (x1).toNatClampNeg)), 0), (.int x2, 0)] M (fun v1 M1 =>
    (((toI v1) = 0 →
     G l E d m_Ties_lengthen 2 [(0, (.ref 12, 30)), (1, (.int x1, 0)), (2, (.int (x2 + iN 1), 0))] [] M1 K) ∧
    (¬ (toI v1) = 0 →
     (vp_in x2 8 ∧ G l E d m_Ties_lengthen 37 [(0, (.ref 12, 30)), (1, (.int x1, 0)), (2, (.int x2, 0)), (3, (.int ((iN (M1 12 2 (x2).toNatClampNeg)) &&& (x1 ^^^ (iN (-1)))), 0)), (4, (.int (iN 0), 0))] [] M1 K)))))))) :
  G l E d m_Ties_lengthen 2 [(0, (.ref 12, 30)), (1, (.int x1, 0)), (2, (.int x2, 0))] [] M K := G.blk 60 _ hd ok_Ties_lengthen rfl h
set_option maxRecDepth 100000 in
theorem b_Ties_lengthen_37 {l : Launch} {E : EnvT} {d : Nat} {K : AV → Mem → Prop} {M : Mem} {x1 : Int32} {x2 : Int32} {x3 : Int32} {x4 : Int32} (hd : 1 ≤ d)
  (h : (((iN (M 12 0 6)) ≤ x4 →
   G l E d m_Ties_lengthen 2 [(0, (.ref 12, 30)), (1, (.int x1, 0)), (2, (.int (x2 + iN 1), 0))] [] M K) ∧
  (¬ (iN (M 12 0 6)) ≤ x4 →
   CT l E (d - 1) m_Choir_isIn [(.int x3, 0), (.int x4, 0)] M (fun v1 M1 =>
    (((toI v1) = 0 →
     G l E d m_Ties_lengthen 37 [(0, (.ref 12, 30)), (1, (.int x1, 0)), (2, (.int x2, 0)), (3, (.int x3, 0)), (4, (.int (x4 + iN 1), 0))] [] M1 K) ∧
    (¬ (toI v1) = 0 →
     (vp_in (x1 ||| ((iN 1) <<< (x4 &&& 31))) 256 ∧ vp_in (x1 ||| ((iN 1) <<< (x4 &&& 31))) 256 ∧ G l E d m_Ties_lengthen 37 [(0, (.ref 12, 30)), (1, (.int x1, 0)), (2, (.int x2, 0)), (3, (.int x3, 0)), (4, (.int (x4 + iN 1), 0))] [] (upd3 M1 12 6 ((x1 ||| ((iN 1) <<< (x4 &&& 31)))).toNatClampNeg (((iN (M1 12 6 ((x1 ||| ((iN 1) <<< (x4 &&& 31)))).toNatClampNeg)) ||| ((iN 1) <<< (x4 &&& 31)))).toInt) K))))))) :
  G l E d m_Ties_lengthen 37 [(0, (.ref 12, 30)), (1, (.int x1, 0)), (2, (.int x2, 0)), (3, (.int x3, 0)), (4, (.int x4, 0))] [] M K := G.blk 60 _ hd ok_Ties_lengthen rfl h
def bt_Ties_longestRow : BtT := [(0, [0], true, [(0, .aload_n 0, 1, 0, 0, 0, m0),
   (1, .getfield 27, 3, 5, 4, 409, m0),
   (4, .iconst 0, 1, 0, 0, 0, m0),
   (5, .invokestatic 82, 3, 0, 0, 1267, m_Arrays_fill1),
   (8, .iconst 0, 1, 0, 0, 0, m0),
   (9, .istore_n 1, 1, 0, 0, 0, m0),
   (10, .nop, 0, 0, 0, 0, m0)]),
  (10, [0, 1], true, [(10, .iload_n 1, 1, 0, 0, 0, m0),
   (11, .aload_n 0, 1, 0, 0, 0, m0),
   (12, .getfield 30, 3, 6, 4, 410, m0),
   (15, .if_icmp .ge 25, 3, 40, 0, 0, m0),
   (18, .nop, 0, 0, 0, 0, m0)]),
  (18, [], false, [(18, .aload_n 0, 1, 0, 0, 0, m0),
   (19, .getfield 27, 3, 5, 4, 409, m0),
   (22, .iconst 1, 1, 0, 0, 0, m0),
   (23, .iload_n 1, 1, 0, 0, 0, m0),
   (24, .ishl, 1, 0, 0, 0, m0),
   (25, .aload_n 0, 1, 0, 0, 0, m0),
   (26, .getfield 34, 3, 7, 4, 411, m0),
   (29, .iconst 1, 1, 0, 0, 0, m0),
   (30, .iload_n 1, 1, 0, 0, 0, m0),
   (31, .ishl, 1, 0, 0, 0, m0),
   (32, .iand, 1, 0, 0, 0, m0),
   (33, .iastore, 1, 0, 0, 0, m0),
   (34, .iinc 1 1, 3, 0, 0, 0, m0),
   (37, .goto (-27), 3, 10, 0, 0, m0)]),
  (40, [], false, [(40, .iconst 0, 1, 0, 0, 0, m0),
   (41, .istore_n 1, 1, 0, 0, 0, m0),
   (42, .iconst 1, 1, 0, 0, 0, m0),
   (43, .istore_n 2, 1, 0, 0, 0, m0),
   (44, .nop, 0, 0, 0, 0, m0)]),
  (44, [0, 1, 2], true, [(44, .iload_n 2, 1, 0, 0, 0, m0),
   (45, .aload_n 0, 1, 0, 0, 0, m0),
   (46, .getfield 34, 3, 7, 4, 411, m0),
   (49, .if_icmp .gt 32, 3, 81, 0, 0, m0),
   (52, .nop, 0, 0, 0, 0, m0)]),
  (52, [], false, [(52, .aload_n 0, 1, 0, 0, 0, m0),
   (53, .getfield 27, 3, 5, 4, 409, m0),
   (56, .iload_n 2, 1, 0, 0, 0, m0),
   (57, .iaload, 1, 0, 0, 0, m0),
   (58, .ifCond .eq 17, 3, 75, 0, 0, m0),
   (61, .nop, 0, 0, 0, 0, m0)]),
  (61, [], false, [(61, .iload_n 1, 1, 0, 0, 0, m0),
   (62, .iload_n 2, 1, 0, 0, 0, m0),
   (63, .invokestatic 56, 3, 0, 0, 1164, m_Integer_bitCount),
   (66, .invokestatic 69, 3, 0, 0, 1174, m_Math_max),
   (69, .istore_n 1, 1, 0, 0, 0, m0),
   (70, .aload_n 0, 1, 0, 0, 0, m0),
   (71, .iload_n 2, 1, 0, 0, 0, m0),
   (72, .invokevirtual 88, 3, 0, 0, 1268, m_Ties_lengthen),
   (75, .nop, 0, 0, 0, 0, m0)]),
  (75, [], false, [(75, .iinc 2 1, 3, 0, 0, 0, m0),
   (78, .goto (-34), 3, 44, 0, 0, m0)]),
  (81, [], false, [(81, .iload_n 1, 1, 0, 0, 0, m0),
   (82, .ireturn, 1, 0, 0, 0, m0)])]
theorem ok_Ties_longestRow : okBt m_Ties_longestRow bt_Ties_longestRow = true := by decide +kernel
set_option maxRecDepth 100000 in
theorem b_Ties_longestRow_0 {l : Launch} {E : EnvT} {d : Nat} {K : AV → Mem → Prop} {M : Mem}  (hd : 1 ≤ d)
  (h : CT l E (d - 1) m_Arrays_fill1 [(.ref 12, 36), (.int (iN 0), 0)] M (fun v1 M1 =>
   G l E d m_Ties_longestRow 10 [(0, (.ref 12, 30)), (1, (.int (iN 0), 0))] [] M1 K)) :
  G l E d m_Ties_longestRow 0 [(0, (.ref 12, 30))] [] M K := G.blk 60 _ hd ok_Ties_longestRow rfl h
set_option maxRecDepth 100000 in
theorem b_Ties_longestRow_10 {l : Launch} {E : EnvT} {d : Nat} {K : AV → Mem → Prop} {M : Mem} {x1 : Int32} (hd : 1 ≤ d)
  (h : (((iN (M 12 0 6)) ≤ x1 →
   G l E d m_Ties_longestRow 44 [(0, (.ref 12, 30)), (1, (.int (iN 0), 0)), (2, (.int (iN 1), 0))] [] M K) ∧
  (¬ (iN (M 12 0 6)) ≤ x1 →
   (vp_in ((iN 1) <<< (x1 &&& 31)) 256 ∧ G l E d m_Ties_longestRow 10 [(0, (.ref 12, 30)), (1, (.int (x1 + iN 1), 0))] [] (upd3 M 12 6 (((iN 1) <<< (x1 &&& 31))).toNatClampNeg (((iN (M 12 0 7)) &&& ((iN 1) <<< (x1 &&& 31)))).toInt) K)))) :
  G l E d m_Ties_longestRow 10 [(0, (.ref 12, 30)), (1, (.int x1, 0))] [] M K := G.blk 60 _ hd ok_Ties_longestRow rfl h
set_option maxRecDepth 100000 in
theorem b_Ties_longestRow_44 {l : Launch} {E : EnvT} {d : Nat} {K : AV → Mem → Prop} {M : Mem} {x1 : Int32} {x2 : Int32} (hd : 1 ≤ d)
  (h : (((iN (M 12 0 7)) < x2 →
   K (.int x1, 0) M) ∧
  (¬ (iN (M 12 0 7)) < x2 →
   (vp_in x2 256 ∧ (((iN (M 12 6 (x2).toNatClampNeg)) = 0 →
    G l E d m_Ties_longestRow 44 [(0, (.ref 12, 30)), (1, (.int x1, 0)), (2, (.int (x2 + iN 1), 0))] [] M K) ∧
   (¬ (iN (M 12 6 (x2).toNatClampNeg)) = 0 →
    CT l E (d - 1) m_Integer_bitCount [(.int x2, 0)] M (fun v1 M1 =>
     CT l E (d - 1) m_Math_max [(.int x1, 0), (.int (toI v1), 0)] M1 (fun v2 M2 =>
      CT l E (d - 1) m_Ties_lengthen [(.ref 12, 30), (.int x2, 0)] M2 (fun v3 M3 =>
       G l E d m_Ties_longestRow 44 [(0, (.ref 12, 30)), (1, (.int (toI v2), 0)), (2, (.int (x2 + iN 1), 0))] [] M3 K))))))))) :
  G l E d m_Ties_longestRow 44 [(0, (.ref 12, 30)), (1, (.int x1, 0)), (2, (.int x2, 0))] [] M K := G.blk 60 _ hd ok_Ties_longestRow rfl h
def bt_Ties_reachedFrom : BtT := [(0, [0, 1], true, [(0, .iconst 1, 1, 0, 0, 0, m0),
   (1, .iload_n 1, 1, 0, 0, 0, m0),
   (2, .ishl, 1, 0, 0, 0, m0),
   (3, .istore_n 2, 1, 0, 0, 0, m0),
   (4, .iconst 0, 1, 0, 0, 0, m0),
   (5, .istore_n 3, 1, 0, 0, 0, m0),
   (6, .nop, 0, 0, 0, 0, m0)]),
  (6, [0, 1, 2, 3], true, [(6, .iload_n 3, 1, 0, 0, 0, m0),
   (7, .aload_n 0, 1, 0, 0, 0, m0),
   (8, .getfield 30, 3, 6, 4, 410, m0),
   (11, .if_icmp .ge 46, 3, 57, 0, 0, m0),
   (14, .nop, 0, 0, 0, 0, m0)]),
  (14, [], false, [(14, .iconst 0, 1, 0, 0, 0, m0),
   (15, .istore 4, 2, 0, 0, 0, m0),
   (17, .nop, 0, 0, 0, 0, m0)]),
  (17, [0, 1, 2, 3, 4], true, [(17, .iload 4, 2, 0, 0, 0, m0),
   (19, .aload_n 0, 1, 0, 0, 0, m0),
   (20, .getfield 30, 3, 6, 4, 410, m0),
   (23, .if_icmp .ge 28, 3, 51, 0, 0, m0),
   (26, .nop, 0, 0, 0, 0, m0)]),
  (26, [], false, [(26, .iload_n 2, 1, 0, 0, 0, m0),
   (27, .iload 4, 2, 0, 0, 0, m0),
   (29, .invokestatic 65, 3, 0, 0, 1173, m_Choir_isIn),
   (32, .ifCond .eq 13, 3, 45, 0, 0, m0),
   (35, .nop, 0, 0, 0, 0, m0)]),
  (35, [], false, [(35, .iload_n 2, 1, 0, 0, 0, m0),
   (36, .aload_n 0, 1, 0, 0, 0, m0),
   (37, .getfield 15, 3, 1, 4, 404, m0),
   (40, .iload 4, 2, 0, 0, 0, m0),
   (42, .iaload, 1, 0, 0, 0, m0),
   (43, .ior, 1, 0, 0, 0, m0),
   (44, .istore_n 2, 1, 0, 0, 0, m0),
   (45, .nop, 0, 0, 0, 0, m0)]),
  (45, [], false, [(45, .iinc 4 1, 3, 0, 0, 0, m0),
   (48, .goto (-31), 3, 17, 0, 0, m0)]),
  (51, [], false, [(51, .iinc 3 1, 3, 0, 0, 0, m0),
   (54, .goto (-48), 3, 6, 0, 0, m0)]),
  (57, [], false, [(57, .iload_n 2, 1, 0, 0, 0, m0),
   (58, .iconst 1, 1, 0, 0, 0, m0),
   (59, .iload_n 1, 1, 0, 0, 0, m0),
   (60, .ishl, 1, 0, 0, 0, m0),
   (61, .iconst (-1), 1, 0, 0, 0, m0),
   (62, .ixor, 1, 0, 0, 0, m0),
   (63, .iand, 1, 0, 0, 0, m0),
   (64, .ireturn, 1, 0, 0, 0, m0)])]
theorem ok_Ties_reachedFrom : okBt m_Ties_reachedFrom bt_Ties_reachedFrom = true := by decide +kernel
set_option maxRecDepth 100000 in
theorem b_Ties_reachedFrom_0 {l : Launch} {E : EnvT} {d : Nat} {K : AV → Mem → Prop} {M : Mem} {x1 : Int32} (hd : 1 ≤ d)
  (h : G l E d m_Ties_reachedFrom 6 [(0, (.ref 12, 30)), (1, (.int x1, 0)), (2, (.int ((iN 1) <<< (x1 &&& 31)), 0)), (3, (.int (iN 0), 0))] [] M K) :
  G l E d m_Ties_reachedFrom 0 [(0, (.ref 12, 30)), (1, (.int x1, 0))] [] M K := G.blk 60 _ hd ok_Ties_reachedFrom rfl h
set_option maxRecDepth 100000 in
theorem b_Ties_reachedFrom_6 {l : Launch} {E : EnvT} {d : Nat} {K : AV → Mem → Prop} {M : Mem} {x1 : Int32} {x2 : Int32} {x3 : Int32} (hd : 1 ≤ d)
  (h : (((iN (M 12 0 6)) ≤ x3 →
   K (.int (x2 &&& (((iN 1) <<< (x1 &&& 31)) ^^^ (iN (-1)))), 0) M) ∧
  (¬ (iN (M 12 0 6)) ≤ x3 →
   G l E d m_Ties_reachedFrom 17 [(0, (.ref 12, 30)), (1, (.int x1, 0)), (2, (.int x2, 0)), (3, (.int x3, 0)), (4, (.int (iN 0), 0))] [] M K))) :
  G l E d m_Ties_reachedFrom 6 [(0, (.ref 12, 30)), (1, (.int x1, 0)), (2, (.int x2, 0)), (3, (.int x3, 0))] [] M K := G.blk 60 _ hd ok_Ties_reachedFrom rfl h
set_option maxRecDepth 100000 in
theorem b_Ties_reachedFrom_17 {l : Launch} {E : EnvT} {d : Nat} {K : AV → Mem → Prop} {M : Mem} {x1 : Int32} {x2 : Int32} {x3 : Int32} {x4 : Int32} (hd : 1 ≤ d)
  (h : (((iN (M 12 0 6)) ≤ x4 →
   G l E d m_Ties_reachedFrom 6 [(0, (.ref 12, 30)), (1, (.int x1, 0)), (2, (.int x2, 0)), (3, (.int (x3 + iN 1), 0))] [] M K) ∧
  (¬ (iN (M 12 0 6)) ≤ x4 →
   CT l E (d - 1) m_Choir_isIn [(.int x2, 0), (.int x4, 0)] M (fun v1 M1 =>
    (((toI v1) = 0 →
     G l E d m_Ties_reachedFrom 17 [(0, (.ref 12, 30)), (1, (.int x1, 0)), (2, (.int x2, 0)), (3, (.int x3, 0)), (4, (.int (x4 + iN 1), 0))] [] M1 K) ∧
    (¬ (toI v1) = 0 →
     (vp_in x4 8 ∧ G l E d m_Ties_reachedFrom 17 [(0, (.ref 12, 30)), (1, (.int x1, 0)), (2, (.int (x2 ||| (iN (M1 12 2 (x4).toNatClampNeg))), 0)), (3, (.int x3, 0)), (4, (.int (x4 + iN 1), 0))] [] M1 K))))))) :
  G l E d m_Ties_reachedFrom 17 [(0, (.ref 12, 30)), (1, (.int x1, 0)), (2, (.int x2, 0)), (3, (.int x3, 0)), (4, (.int x4, 0))] [] M K := G.blk 60 _ hd ok_Ties_reachedFrom rfl h
end
section
def bt_Tokens_kindOf : BtT := [(0, [0], true, [(0, .iload_n 0, 1, 0, 0, 0, m0),
   (1, .bipush 97, 2, 0, 0, 0, m0),
   (3, .if_icmp .lt 11, 3, 14, 0, 0, m0),
   (6, .nop, 0, 0, 0, 0, m0)]),
  (6, [], false, [(6, .iload_n 0, 1, 0, 0, 0, m0),
   (7, .bipush 122, 2, 0, 0, 0, m0),
   (9, .if_icmp .gt 5, 3, 14, 0, 0, m0),
   (12, .nop, 0, 0, 0, 0, m0)]),
  (12, [], false, [(12, .iconst 1, 1, 0, 0, 0, m0),
   (13, .ireturn, 1, 0, 0, 0, m0)]),
  (14, [], false, [(14, .iload_n 0, 1, 0, 0, 0, m0),
   (15, .bipush 48, 2, 0, 0, 0, m0),
   (17, .if_icmp .lt 11, 3, 28, 0, 0, m0),
   (20, .nop, 0, 0, 0, 0, m0)]),
  (20, [], false, [(20, .iload_n 0, 1, 0, 0, 0, m0),
   (21, .bipush 57, 2, 0, 0, 0, m0),
   (23, .if_icmp .gt 5, 3, 28, 0, 0, m0),
   (26, .nop, 0, 0, 0, 0, m0)]),
  (26, [], false, [(26, .iconst 2, 1, 0, 0, 0, m0),
   (27, .ireturn, 1, 0, 0, 0, m0)]),
  (28, [], false, [(28, .iload_n 0, 1, 0, 0, 0, m0),
   (29, .bipush 59, 2, 0, 0, 0, m0),
   (31, .if_icmp .eq 21, 3, 52, 0, 0, m0),
   (34, .nop, 0, 0, 0, 0, m0)]),
  (34, [], false, [(34, .iload_n 0, 1, 0, 0, 0, m0),
   (35, .bipush 60, 2, 0, 0, 0, m0),
   (37, .if_icmp .eq 15, 3, 52, 0, 0, m0),
   (40, .nop, 0, 0, 0, 0, m0)]),
  (40, [], false, [(40, .iload_n 0, 1, 0, 0, 0, m0),
   (41, .bipush 62, 2, 0, 0, 0, m0),
   (43, .if_icmp .eq 9, 3, 52, 0, 0, m0),
   (46, .nop, 0, 0, 0, 0, m0)]),
  (46, [], false, [(46, .iload_n 0, 1, 0, 0, 0, m0),
   (47, .bipush 61, 2, 0, 0, 0, m0),
   (49, .if_icmp .ne 7, 3, 56, 0, 0, m0),
   (52, .nop, 0, 0, 0, 0, m0)]),
  (52, [], false, [(52, .iconst 3, 1, 0, 0, 0, m0),
   (53, .goto 4, 3, 57, 0, 0, m0)]),
  (56, [], false, [(56, .iconst 4, 1, 0, 0, 0, m0),
   (57, .nop, 0, 0, 0, 0, m0)]),
  (57, [], false, [(57, .ireturn, 1, 0, 0, 0, m0)])]
theorem ok_Tokens_kindOf : okBt m_Tokens_kindOf bt_Tokens_kindOf = true := by decide +kernel
set_option maxRecDepth 100000 in
theorem b_Tokens_kindOf_0 {l : Launch} {E : EnvT} {d : Nat} {K : AV → Mem → Prop} {M : Mem} {x0 : Int32} (hd : 1 ≤ d)
  (h : ((x0 < (iN 97) →
   ((x0 < (iN 48) →
    ((x0 = (iN 59) →
     K (.int (iN 3), 0) M) ∧
    (¬ x0 = (iN 59) →
     ((x0 = (iN 60) →
      K (.int (iN 3), 0) M) ∧
     (¬ x0 = (iN 60) →
      ((x0 = (iN 62) →
       K (.int (iN 3), 0) M) ∧
      (¬ x0 = (iN 62) →
       ((¬ x0 = (iN 61) →
        K (.int (iN 4), 0) M) ∧
       (x0 = (iN 61) →
        K (.int (iN 3), 0) M))))))))) ∧
   (¬ x0 < (iN 48) →
    (((iN 57) < x0 →
     ((x0 = (iN 59) →
      K (.int (iN 3), 0) M) ∧
     (¬ x0 = (iN 59) →
      ((x0 = (iN 60) →
       K (.int (iN 3), 0) M) ∧
      (¬ x0 = (iN 60) →
       ((x0 = (iN 62) →
        K (.int (iN 3), 0) M) ∧
       (¬ x0 = (iN 62) →
        ((¬ x0 = (iN 61) →
         K (.int (iN 4), 0) M) ∧
        (x0 = (iN 61) →
         K (.int (iN 3), 0) M))))))))) ∧
    (¬ (iN 57) < x0 →
     K (.int (iN 2), 0) M))))) ∧
  (¬ x0 < (iN 97) →
   (((iN 122) < x0 →
    ((x0 < (iN 48) →
     ((x0 = (iN 59) →
      K (.int (iN 3), 0) M) ∧
     (¬ x0 = (iN 59) →
      ((x0 = (iN 60) →
       K (.int (iN 3), 0) M) ∧
      (¬ x0 = (iN 60) →
       ((x0 = (iN 62) →
        K (.int (iN 3), 0) M) ∧
       (¬ x0 = (iN 62) →
        ((¬ x0 = (iN 61) →
         K (.int (iN 4), 0) M) ∧
        (x0 = (iN 61) →
         K (.int (iN 3), 0) M))))))))) ∧
    (¬ x0 < (iN 48) →
     (((iN 57) < x0 →
      ((x0 = (iN 59) →
       K (.int (iN 3), 0) M) ∧
      (¬ x0 = (iN 59) →
       ((x0 = (iN 60) →
        K (.int (iN 3), 0) M) ∧
       (¬ x0 = (iN 60) →
        ((x0 = (iN 62) →
         K (.int (iN 3), 0) M) ∧
        (¬ x0 = (iN 62) →
         ((¬ x0 = (iN 61) →
          K (.int (iN 4), 0) M) ∧
         (x0 = (iN 61) →
          K (.int (iN 3), 0) M))))))))) ∧
     (¬ (iN 57) < x0 →
      K (.int (iN 2), 0) M))))) ∧
   (¬ (iN 122) < x0 →
    K (.int (iN 1), 0) M))))) :
  G l E d m_Tokens_kindOf 0 [(0, (.int x0, 0))] [] M K := G.blk 60 _ hd ok_Tokens_kindOf rfl h
def bt_Tokens_readWord : BtT := [(0, [0], true, [(0, .aload_n 0, 1, 0, 0, 0, m0),
   (1, .lconst 0, 1, 0, 0, 0, m0),
   (2, .putfield 40, 3, 9, 5, 163, m0),
   (5, .aload_n 0, 1, 0, 0, 0, m0),
   (6, .iconst 0, 1, 0, 0, 0, m0),
   (7, .putfield 34, 3, 7, 5, 159, m0),
   (10, .nop, 0, 0, 0, 0, m0)]),
  (10, [0], true, [(10, .aload_n 0, 1, 0, 0, 0, m0),
   (11, .getfield 19, 3, 2, 5, 148, m0),
   (14, .aload_n 0, 1, 0, 0, 0, m0),
   (15, .getfield 15, 3, 1, 5, 147, m0),
   (18, .if_icmp .ge 90, 3, 108, 0, 0, m0),
   (21, .nop, 0, 0, 0, 0, m0)]),
  (21, [], false, [(21, .aload_n 0, 1, 0, 0, 0, m0),
   (22, .getfield 9, 3, 0, 5, 146, m0),
   (25, .aload_n 0, 1, 0, 0, 0, m0),
   (26, .getfield 19, 3, 2, 5, 148, m0),
   (29, .baload, 1, 0, 0, 0, m0),
   (30, .bipush 97, 2, 0, 0, 0, m0),
   (32, .if_icmp .lt 76, 3, 108, 0, 0, m0),
   (35, .nop, 0, 0, 0, 0, m0)]),
  (35, [], false, [(35, .aload_n 0, 1, 0, 0, 0, m0),
   (36, .getfield 9, 3, 0, 5, 146, m0),
   (39, .aload_n 0, 1, 0, 0, 0, m0),
   (40, .getfield 19, 3, 2, 5, 148, m0),
   (43, .baload, 1, 0, 0, 0, m0),
   (44, .bipush 122, 2, 0, 0, 0, m0),
   (46, .if_icmp .gt 62, 3, 108, 0, 0, m0),
   (49, .nop, 0, 0, 0, 0, m0)]),
  (49, [], false, [(49, .aload_n 0, 1, 0, 0, 0, m0),
   (50, .getfield 34, 3, 7, 5, 159, m0),
   (53, .bipush 8, 2, 0, 0, 0, m0),
   (55, .if_icmp .ge 30, 3, 85, 0, 0, m0),
   (58, .nop, 0, 0, 0, 0, m0)]),
  (58, [], false, [(58, .aload_n 0, 1, 0, 0, 0, m0),
   (59, .aload_n 0, 1, 0, 0, 0, m0),
   (60, .getfield 40, 3, 9, 5, 163, m0),
   (63, .ldc2_w 70, 3, 1, 27, 664, m0),
   (66, .lmul, 1, 0, 0, 0, m0),
   (67, .aload_n 0, 1, 0, 0, 0, m0),
   (68, .getfield 9, 3, 0, 5, 146, m0),
   (71, .aload_n 0, 1, 0, 0, 0, m0),
   (72, .getfield 19, 3, 2, 5, 148, m0),
   (75, .baload, 1, 0, 0, 0, m0),
   (76, .i2l, 1, 0, 0, 0, m0),
   (77, .ladd, 1, 0, 0, 0, m0),
   (78, .ldc2_w 72, 3, 1, 96, 665, m0),
   (81, .lsub, 1, 0, 0, 0, m0),
   (82, .putfield 40, 3, 9, 5, 163, m0),
   (85, .nop, 0, 0, 0, 0, m0)]),
  (85, [], false, [(85, .aload_n 0, 1, 0, 0, 0, m0),
   (86, .dup, 1, 0, 0, 0, m0),
   (87, .getfield 34, 3, 7, 5, 159, m0),
   (90, .iconst 1, 1, 0, 0, 0, m0),
   (91, .iadd, 1, 0, 0, 0, m0),
   (92, .putfield 34, 3, 7, 5, 159, m0),
   (95, .aload_n 0, 1, 0, 0, 0, m0),
   (96, .dup, 1, 0, 0, 0, m0),
   (97, .getfield 19, 3, 2, 5, 148, m0),
   (100, .iconst 1, 1, 0, 0, 0, m0),
   (101, .iadd, 1, 0, 0, 0, m0),
   (102, .putfield 19, 3, 2, 5, 148, m0),
   (105, .goto (-95), 3, 10, 0, 0, m0)]),
  (108, [], false, [(108, .return_, 1, 0, 0, 0, m0)])]
theorem ok_Tokens_readWord : okBt m_Tokens_readWord bt_Tokens_readWord = true := by decide +kernel
set_option maxRecDepth 100000 in
theorem b_Tokens_readWord_0 {l : Launch} {E : EnvT} {d : Nat} {K : AV → Mem → Prop} {M : Mem} {r : Nat}  (hd : 1 ≤ d)
  (h : G l E d m_Tokens_readWord 10 [(0, (.ref r, 4))] [] (upd3 (upd3 M r 0 9 ((lI 0)).toInt) r 0 7 ((iN 0)).toInt) K) :
  G l E d m_Tokens_readWord 0 [(0, (.ref r, 4))] [] M K := G.blk 60 _ hd ok_Tokens_readWord rfl h
set_option maxRecDepth 100000 in
theorem b_Tokens_readWord_10 {l : Launch} {E : EnvT} {d : Nat} {K : AV → Mem → Prop} {M : Mem} {r : Nat}  (hd : 1 ≤ d)
  (h : (((iN (M r 0 1)) ≤ (iN (M r 0 2)) →
   K (.null, 0) M) ∧
  (¬ (iN (M r 0 1)) ≤ (iN (M r 0 2)) →
   (((M r 0 0).toNat, 2) ∈ CL ∧ vp_in (iN (M r 0 2)) 900 ∧ (((iN (M (M r 0 0).toNat 2 ((iN (M r 0 2))).toNatClampNeg)) < (iN 97) →
    K (.null, 0) M) ∧
   (¬ (iN (M (M r 0 0).toNat 2 ((iN (M r 0 2))).toNatClampNeg)) < (iN 97) →
    (((M r 0 0).toNat, 2) ∈ CL ∧ vp_in (iN (M r 0 2)) 900 ∧ (((iN 122) < (iN (M (M r 0 0).toNat 2 ((iN (M r 0 2))).toNatClampNeg)) →
     K (.null, 0) M) ∧
    (¬ (iN 122) < (iN (M (M r 0 0).toNat 2 ((iN (M r 0 2))).toNatClampNeg)) →
     (((iN 8) ≤ (iN (M r 0 7)) →
      G l E d m_Tokens_readWord 10 [(0, (.ref r, 4))] [] (upd3 (upd3 M r 0 7 (((iN (M r 0 7)) + (iN 1))).toInt) r 0 2 (((iN ((upd3 M r 0 7 (((iN (M r 0 7)) + (iN 1))).toInt) r 0 2)) + (iN 1))).toInt) K) ∧
     (¬ (iN 8) ≤ (iN (M r 0 7)) →
      (((M r 0 0).toNat, 2) ∈ CL ∧ vp_in (iN (M r 0 2)) 900 ∧ G l E d m_Tokens_readWord 10 [(0, (.ref r, 4))] [] (upd3 (upd3 (upd3 M r 0 9 (((((lI (M r 0 9)) * (lI 27)) + ((iN (M (M r 0 0).toNat 2 ((iN (M r 0 2))).toNatClampNeg))).toInt64) - (lI 96))).toInt) r 0 7 (((iN ((upd3 M r 0 9 (((((lI (M r 0 9)) * (lI 27)) + ((iN (M (M r 0 0).toNat 2 ((iN (M r 0 2))).toNatClampNeg))).toInt64) - (lI 96))).toInt) r 0 7)) + (iN 1))).toInt) r 0 2 (((iN ((upd3 (upd3 M r 0 9 (((((lI (M r 0 9)) * (lI 27)) + ((iN (M (M r 0 0).toNat 2 ((iN (M r 0 2))).toNatClampNeg))).toInt64) - (lI 96))).toInt) r 0 7 (((iN ((upd3 M r 0 9 (((((lI (M r 0 9)) * (lI 27)) + ((iN (M (M r 0 0).toNat 2 ((iN (M r 0 2))).toNatClampNeg))).toInt64) - (lI 96))).toInt) r 0 7)) + (iN 1))).toInt) r 0 2)) + (iN 1))).toInt) K)))))))))))) :
  G l E d m_Tokens_readWord 10 [(0, (.ref r, 4))] [] M K := G.blk 60 _ hd ok_Tokens_readWord rfl h
def bt_Tokens_keywordOf : BtT := [(0, [0], true, [(0, .iconst 0, 1, 0, 0, 0, m0),
   (1, .istore_n 2, 1, 0, 0, 0, m0),
   (2, .lconst 0, 1, 0, 0, 0, m0),
   (3, .lstore_n 3, 1, 0, 0, 0, m0),
   (4, .iconst 0, 1, 0, 0, 0, m0),
   (5, .istore 5, 2, 0, 0, 0, m0),
   (7, .nop, 0, 0, 0, 0, m0)]),
  (7, [0, 2, 3, 5], true, [(7, .iload 5, 2, 0, 0, 0, m0),
   (9, .ldc 74, 2, 2, 0, 0, m0),
   (11, .invokevirtual 76, 3, 0, 0, 670, m_Str_length),
   (14, .if_icmp .ge 55, 3, 69, 0, 0, m0),
   (17, .nop, 0, 0, 0, 0, m0)]),
  (17, [], false, [(17, .ldc 74, 2, 2, 0, 0, m0),
   (19, .iload 5, 2, 0, 0, 0, m0),
   (21, .invokevirtual 81, 3, 0, 0, 680, m_Str_charAt),
   (24, .istore 6, 2, 0, 0, 0, m0),
   (26, .iload 6, 2, 0, 0, 0, m0),
   (28, .bipush 32, 2, 0, 0, 0, m0),
   (30, .if_icmp .eq 20, 3, 50, 0, 0, m0),
   (33, .nop, 0, 0, 0, 0, m0)]),
  (33, [], false, [(33, .lload_n 3, 1, 0, 0, 0, m0),
   (34, .ldc2_w 70, 3, 1, 27, 664, m0),
   (37, .lmul, 1, 0, 0, 0, m0),
   (38, .iload 6, 2, 0, 0, 0, m0),
   (40, .i2l, 1, 0, 0, 0, m0),
   (41, .ladd, 1, 0, 0, 0, m0),
   (42, .ldc2_w 72, 3, 1, 96, 665, m0),
   (45, .lsub, 1, 0, 0, 0, m0),
   (46, .lstore_n 3, 1, 0, 0, 0, m0),
   (47, .goto 16, 3, 63, 0, 0, m0)]),
  (50, [], false, [(50, .lload_n 3, 1, 0, 0, 0, m0),
   (51, .lload_n 0, 1, 0, 0, 0, m0),
   (52, .lcmp, 1, 0, 0, 0, m0),
   (53, .ifCond .ne 5, 3, 58, 0, 0, m0),
   (56, .nop, 0, 0, 0, 0, m0)]),
  (56, [], false, [(56, .iload_n 2, 1, 0, 0, 0, m0),
   (57, .ireturn, 1, 0, 0, 0, m0)]),
  (58, [], false, [(58, .iinc 2 1, 3, 0, 0, 0, m0),
   (61, .lconst 0, 1, 0, 0, 0, m0),
   (62, .lstore_n 3, 1, 0, 0, 0, m0),
   (63, .nop, 0, 0, 0, 0, m0)]),
  (63, [], false, [(63, .iinc 5 1, 3, 0, 0, 0, m0),
   (66, .goto (-59), 3, 7, 0, 0, m0)]),
  (69, [], false, [(69, .iconst (-1), 1, 0, 0, 0, m0),
   (70, .ireturn, 1, 0, 0, 0, m0)])]
theorem ok_Tokens_keywordOf : okBt m_Tokens_keywordOf bt_Tokens_keywordOf = true := by decide +kernel
set_option maxRecDepth 100000 in
theorem b_Tokens_keywordOf_0 {l : Launch} {E : EnvT} {d : Nat} {K : AV → Mem → Prop} {M : Mem} {x0 : Int64} (hd : 1 ≤ d)
  (h : G l E d m_Tokens_keywordOf 7 [(0, (.long x0, 0)), (2, (.int (iN 0), 0)), (3, (.long (lI 0), 0)), (5, (.int (iN 0), 0))] [] M K) :
  G l E d m_Tokens_keywordOf 0 [(0, (.long x0, 0))] [] M K := G.blk 60 _ hd ok_Tokens_keywordOf rfl h
set_option maxRecDepth 100000 in
theorem b_Tokens_keywordOf_7 {l : Launch} {E : EnvT} {d : Nat} {K : AV → Mem → Prop} {M : Mem} {x0 : Int64} {x2 : Int32} {x3 : Int64} {x5 : Int32} (hd : 1 ≤ d)
  (h : CT l E (d - 1) m_Str_length [(.ref 0, 999)] M (fun v1 M1 =>
   (((toI v1) ≤ x5 →
    K (.int (iN (-1)), 0) M1) ∧
   (¬ (toI v1) ≤ x5 →
    CT l E (d - 1) m_Str_charAt [(.ref 0, 999), (.int x5, 0)] M1 (fun v2 M2 =>
     (((toI v2) = (iN 32) →
      ((¬ (lg_cmp x3 x0) = 0 →
       G l E d m_Tokens_keywordOf 7 [(0, (.long x0, 0)), (2, (.int (x2 + iN 1), 0)), (3, (.long (lI 0), 0)), (5, (.int (x5 + iN 1), 0))] [] M2 K) ∧
      ((lg_cmp x3 x0) = 0 →
       K (.int x2, 0) M2))) ∧
     (¬ (toI v2) = (iN 32) →
      G l E d m_Tokens_keywordOf 7 [(0, (.long x0, 0)), (2, (.int x2, 0)), (3, (.long (((x3 * (lI 27)) + ((toI v2)).toInt64) - (lI 96)), 0)), (5, (.int (x5 + iN 1), 0))] [] M2 K))))))) :
  G l E d m_Tokens_keywordOf 7 [(0, (.long x0, 0)), (2, (.int x2, 0)), (3, (.long x3, 0)), (5, (.int x5, 0))] [] M K := G.blk 60 _ hd ok_Tokens_keywordOf rfl h
def bt_Tokens_readNumber : BtT := [(0, [0], true, [(0, .iconst 0, 1, 0, 0, 0, m0),
   (1, .istore_n 1, 1, 0, 0, 0, m0),
   (2, .aload_n 0, 1, 0, 0, 0, m0),
   (3, .iconst 0, 1, 0, 0, 0, m0),
   (4, .putfield 28, 3, 5, 5, 154, m0),
   (7, .nop, 0, 0, 0, 0, m0)]),
  (7, [0, 1], true, [(7, .aload_n 0, 1, 0, 0, 0, m0),
   (8, .getfield 19, 3, 2, 5, 148, m0),
   (11, .aload_n 0, 1, 0, 0, 0, m0),
   (12, .getfield 15, 3, 1, 5, 147, m0),
   (15, .if_icmp .ge 76, 3, 91, 0, 0, m0),
   (18, .nop, 0, 0, 0, 0, m0)]),
  (18, [], false, [(18, .aload_n 0, 1, 0, 0, 0, m0),
   (19, .getfield 9, 3, 0, 5, 146, m0),
   (22, .aload_n 0, 1, 0, 0, 0, m0),
   (23, .getfield 19, 3, 2, 5, 148, m0),
   (26, .baload, 1, 0, 0, 0, m0),
   (27, .bipush 48, 2, 0, 0, 0, m0),
   (29, .if_icmp .lt 62, 3, 91, 0, 0, m0),
   (32, .nop, 0, 0, 0, 0, m0)]),
  (32, [], false, [(32, .aload_n 0, 1, 0, 0, 0, m0),
   (33, .getfield 9, 3, 0, 5, 146, m0),
   (36, .aload_n 0, 1, 0, 0, 0, m0),
   (37, .getfield 19, 3, 2, 5, 148, m0),
   (40, .baload, 1, 0, 0, 0, m0),
   (41, .bipush 57, 2, 0, 0, 0, m0),
   (43, .if_icmp .gt 48, 3, 91, 0, 0, m0),
   (46, .nop, 0, 0, 0, 0, m0)]),
  (46, [], false, [(46, .iload_n 1, 1, 0, 0, 0, m0),
   (47, .iconst 4, 1, 0, 0, 0, m0),
   (48, .if_icmp .ge 27, 3, 75, 0, 0, m0),
   (51, .nop, 0, 0, 0, 0, m0)]),
  (51, [], false, [(51, .aload_n 0, 1, 0, 0, 0, m0),
   (52, .aload_n 0, 1, 0, 0, 0, m0),
   (53, .getfield 28, 3, 5, 5, 154, m0),
   (56, .bipush 10, 2, 0, 0, 0, m0),
   (58, .imul, 1, 0, 0, 0, m0),
   (59, .aload_n 0, 1, 0, 0, 0, m0),
   (60, .getfield 9, 3, 0, 5, 146, m0),
   (63, .aload_n 0, 1, 0, 0, 0, m0),
   (64, .getfield 19, 3, 2, 5, 148, m0),
   (67, .baload, 1, 0, 0, 0, m0),
   (68, .iadd, 1, 0, 0, 0, m0),
   (69, .bipush 48, 2, 0, 0, 0, m0),
   (71, .isub, 1, 0, 0, 0, m0),
   (72, .putfield 28, 3, 5, 5, 154, m0),
   (75, .nop, 0, 0, 0, 0, m0)]),
  (75, [], false, [(75, .iinc 1 1, 3, 0, 0, 0, m0),
   (78, .aload_n 0, 1, 0, 0, 0, m0),
   (79, .dup, 1, 0, 0, 0, m0),
   (80, .getfield 19, 3, 2, 5, 148, m0),
   (83, .iconst 1, 1, 0, 0, 0, m0),
   (84, .iadd, 1, 0, 0, 0, m0),
   (85, .putfield 19, 3, 2, 5, 148, m0),
   (88, .goto (-81), 3, 7, 0, 0, m0)]),
  (91, [], false, [(91, .iload_n 1, 1, 0, 0, 0, m0),
   (92, .iconst 4, 1, 0, 0, 0, m0),
   (93, .if_icmp .le 8, 3, 101, 0, 0, m0),
   (96, .nop, 0, 0, 0, 0, m0)]),
  (96, [], false, [(96, .aload_n 0, 1, 0, 0, 0, m0),
   (97, .iconst 4, 1, 0, 0, 0, m0),
   (98, .putfield 22, 3, 3, 5, 149, m0),
   (101, .nop, 0, 0, 0, 0, m0)]),
  (101, [], false, [(101, .return_, 1, 0, 0, 0, m0)])]
theorem ok_Tokens_readNumber : okBt m_Tokens_readNumber bt_Tokens_readNumber = true := by decide +kernel
set_option maxRecDepth 100000 in
theorem b_Tokens_readNumber_0 {l : Launch} {E : EnvT} {d : Nat} {K : AV → Mem → Prop} {M : Mem} {r : Nat}  (hd : 1 ≤ d)
  (h : G l E d m_Tokens_readNumber 7 [(0, (.ref r, 4)), (1, (.int (iN 0), 0))] [] (upd3 M r 0 5 ((iN 0)).toInt) K) :
  G l E d m_Tokens_readNumber 0 [(0, (.ref r, 4))] [] M K := G.blk 60 _ hd ok_Tokens_readNumber rfl h
set_option maxRecDepth 100000 in
theorem b_Tokens_readNumber_7 {l : Launch} {E : EnvT} {d : Nat} {K : AV → Mem → Prop} {M : Mem} {r : Nat} {x1 : Int32} (hd : 1 ≤ d)
  (h : (((iN (M r 0 1)) ≤ (iN (M r 0 2)) →
   ((x1 ≤ (iN 4) →
    K (.null, 0) M) ∧
   (¬ x1 ≤ (iN 4) →
    K (.null, 0) (upd3 M r 0 3 ((iN 4)).toInt)))) ∧
  (¬ (iN (M r 0 1)) ≤ (iN (M r 0 2)) →
   (((M r 0 0).toNat, 2) ∈ CL ∧ vp_in (iN (M r 0 2)) 900 ∧ (((iN (M (M r 0 0).toNat 2 ((iN (M r 0 2))).toNatClampNeg)) < (iN 48) →
    ((x1 ≤ (iN 4) →
     K (.null, 0) M) ∧
    (¬ x1 ≤ (iN 4) →
     K (.null, 0) (upd3 M r 0 3 ((iN 4)).toInt)))) ∧
   (¬ (iN (M (M r 0 0).toNat 2 ((iN (M r 0 2))).toNatClampNeg)) < (iN 48) →
    (((M r 0 0).toNat, 2) ∈ CL ∧ vp_in (iN (M r 0 2)) 900 ∧ (((iN 57) < (iN (M (M r 0 0).toNat 2 ((iN (M r 0 2))).toNatClampNeg)) →
     ((x1 ≤ (iN 4) →
      K (.null, 0) M) ∧
     (¬ x1 ≤ (iN 4) →
      K (.null, 0) (upd3 M r 0 3 ((iN 4)).toInt)))) ∧
    (¬ (iN 57) < (iN (M (M r 0 0).toNat 2 ((iN (M r 0 2))).toNatClampNeg)) →
     (((iN 4) ≤ x1 →
      G l E d m_Tokens_readNumber 7 [(0, (.ref r, 4)), (1, (.int (x1 + iN 1), 0))] [] (upd3 M r 0 2 (((iN (M r 0 2)) + (iN 1))).toInt) K) ∧
     (¬ (iN 4) ≤ x1 →
      (((M r 0 0).toNat, 2) ∈ CL ∧ vp_in (iN (M r 0 2)) 900 ∧ G l E d m_Tokens_readNumber 7 [(0, (.ref r, 4)), (1, (.int (x1 + iN 1), 0))] [] (upd3 (upd3 M r 0 5 (((((iN (M r 0 5)) * (iN 10)) + (iN (M (M r 0 0).toNat 2 ((iN (M r 0 2))).toNatClampNeg))) - (iN 48))).toInt) r 0 2 (((iN ((upd3 M r 0 5 (((((iN (M r 0 5)) * (iN 10)) + (iN (M (M r 0 0).toNat 2 ((iN (M r 0 2))).toNatClampNeg))) - (iN 48))).toInt) r 0 2)) + (iN 1))).toInt) K)))))))))))) :
  G l E d m_Tokens_readNumber 7 [(0, (.ref r, 4)), (1, (.int x1, 0))] [] M K := G.blk 60 _ hd ok_Tokens_readNumber rfl h
def bt_Tokens_advance : BtT := [(0, [0], true, [(0, .aload_n 0, 1, 0, 0, 0, m0),
   (1, .getfield 19, 3, 2, 5, 148, m0),
   (4, .aload_n 0, 1, 0, 0, 0, m0),
   (5, .getfield 15, 3, 1, 5, 147, m0),
   (8, .if_icmp .ge 44, 3, 52, 0, 0, m0),
   (11, .nop, 0, 0, 0, 0, m0)]),
  (11, [], false, [(11, .aload_n 0, 1, 0, 0, 0, m0),
   (12, .getfield 9, 3, 0, 5, 146, m0),
   (15, .aload_n 0, 1, 0, 0, 0, m0),
   (16, .getfield 19, 3, 2, 5, 148, m0),
   (19, .baload, 1, 0, 0, 0, m0),
   (20, .bipush 32, 2, 0, 0, 0, m0),
   (22, .if_icmp .eq 17, 3, 39, 0, 0, m0),
   (25, .nop, 0, 0, 0, 0, m0)]),
  (25, [], false, [(25, .aload_n 0, 1, 0, 0, 0, m0),
   (26, .getfield 9, 3, 0, 5, 146, m0),
   (29, .aload_n 0, 1, 0, 0, 0, m0),
   (30, .getfield 19, 3, 2, 5, 148, m0),
   (33, .baload, 1, 0, 0, 0, m0),
   (34, .bipush 10, 2, 0, 0, 0, m0),
   (36, .if_icmp .ne 16, 3, 52, 0, 0, m0),
   (39, .nop, 0, 0, 0, 0, m0)]),
  (39, [], false, [(39, .aload_n 0, 1, 0, 0, 0, m0),
   (40, .dup, 1, 0, 0, 0, m0),
   (41, .getfield 19, 3, 2, 5, 148, m0),
   (44, .iconst 1, 1, 0, 0, 0, m0),
   (45, .iadd, 1, 0, 0, 0, m0),
   (46, .putfield 19, 3, 2, 5, 148, m0),
   (49, .goto (-49), 3, 0, 0, 0, m0)]),
  (52, [], false, [(52, .aload_n 0, 1, 0, 0, 0, m0),
   (53, .aload_n 0, 1, 0, 0, 0, m0),
   (54, .getfield 19, 3, 2, 5, 148, m0),
   (57, .putfield 25, 3, 4, 5, 152, m0),
   (60, .aload_n 0, 1, 0, 0, 0, m0),
   (61, .aload_n 0, 1, 0, 0, 0, m0),
   (62, .getfield 19, 3, 2, 5, 148, m0),
   (65, .aload_n 0, 1, 0, 0, 0, m0),
   (66, .getfield 15, 3, 1, 5, 147, m0),
   (69, .if_icmp .ge 18, 3, 87, 0, 0, m0),
   (72, .nop, 0, 0, 0, 0, m0)]),
  (72, [], false, [(72, .aload_n 0, 1, 0, 0, 0, m0),
   (73, .getfield 9, 3, 0, 5, 146, m0),
   (76, .aload_n 0, 1, 0, 0, 0, m0),
   (77, .getfield 19, 3, 2, 5, 148, m0),
   (80, .baload, 1, 0, 0, 0, m0),
   (81, .invokestatic 56, 3, 0, 0, 657, m_Tokens_kindOf),
   (84, .goto 4, 3, 88, 0, 0, m0)]),
  (87, [], false, [(87, .iconst 0, 1, 0, 0, 0, m0),
   (88, .nop, 0, 0, 0, 0, m0)]),
  (88, [], false, [(88, .putfield 22, 3, 3, 5, 149, m0),
   (91, .aload_n 0, 1, 0, 0, 0, m0),
   (92, .iconst (-1), 1, 0, 0, 0, m0),
   (93, .putfield 37, 3, 8, 5, 160, m0),
   (96, .aload_n 0, 1, 0, 0, 0, m0),
   (97, .getfield 22, 3, 3, 5, 149, m0),
   (100, .tableswitch 92 1 3 #[28, 59, 66], 28, 0, 0, 0, m0)]),
  (128, [], false, [(128, .aload_n 0, 1, 0, 0, 0, m0),
   (129, .invokevirtual 60, 3, 0, 0, 660, m_Tokens_readWord),
   (132, .aload_n 0, 1, 0, 0, 0, m0),
   (133, .aload_n 0, 1, 0, 0, 0, m0),
   (134, .getfield 34, 3, 7, 5, 159, m0),
   (137, .bipush 8, 2, 0, 0, 0, m0),
   (139, .if_icmp .le 7, 3, 146, 0, 0, m0),
   (142, .nop, 0, 0, 0, 0, m0)]),
  (142, [], false, [(142, .iconst (-1), 1, 0, 0, 0, m0),
   (143, .goto 10, 3, 153, 0, 0, m0)]),
  (146, [], false, [(146, .aload_n 0, 1, 0, 0, 0, m0),
   (147, .getfield 40, 3, 9, 5, 163, m0),
   (150, .invokestatic 63, 3, 0, 0, 666, m_Tokens_keywordOf),
   (153, .nop, 0, 0, 0, 0, m0)]),
  (153, [], false, [(153, .putfield 37, 3, 8, 5, 160, m0),
   (156, .goto 36, 3, 192, 0, 0, m0)]),
  (159, [], false, [(159, .aload_n 0, 1, 0, 0, 0, m0),
   (160, .invokevirtual 67, 3, 0, 0, 718, m_Tokens_readNumber),
   (163, .goto 29, 3, 192, 0, 0, m0)]),
  (166, [], false, [(166, .aload_n 0, 1, 0, 0, 0, m0),
   (167, .aload_n 0, 1, 0, 0, 0, m0),
   (168, .getfield 9, 3, 0, 5, 146, m0),
   (171, .aload_n 0, 1, 0, 0, 0, m0),
   (172, .getfield 19, 3, 2, 5, 148, m0),
   (175, .baload, 1, 0, 0, 0, m0),
   (176, .putfield 31, 3, 6, 5, 157, m0),
   (179, .aload_n 0, 1, 0, 0, 0, m0),
   (180, .dup, 1, 0, 0, 0, m0),
   (181, .getfield 19, 3, 2, 5, 148, m0),
   (184, .iconst 1, 1, 0, 0, 0, m0),
   (185, .iadd, 1, 0, 0, 0, m0),
   (186, .putfield 19, 3, 2, 5, 148, m0),
   (189, .goto 3, 3, 192, 0, 0, m0)]),
  (192, [], false, [(192, .return_, 1, 0, 0, 0, m0)])]
theorem ok_Tokens_advance : okBt m_Tokens_advance bt_Tokens_advance = true := by decide +kernel
set_option maxRecDepth 100000 in
theorem b_Tokens_advance_0 {l : Launch} {E : EnvT} {d : Nat} {K : AV → Mem → Prop} {M : Mem} {r : Nat}  (hd : 1 ≤ d)
  (h : (((iN (M r 0 1)) ≤ (iN (M r 0 2)) →
   (((iN ((upd3 M r 0 4 ((iN (M r 0 2))).toInt) r 0 1)) ≤ (iN ((upd3 M r 0 4 ((iN (M r 0 2))).toInt) r 0 2)) →
    (((iN ((upd3 (upd3 (upd3 M r 0 4 ((iN (M r 0 2))).toInt) r 0 3 ((iN 0)).toInt) r 0 8 ((iN (-1))).toInt) r 0 3)) = iN 1 →
     CT l E (d - 1) m_Tokens_readWord [(.ref r, 4)] (upd3 (upd3 (upd3 M r 0 4 ((iN (M r 0 2))).toInt) r 0 3 ((iN 0)).toInt) r 0 8 ((iN (-1))).toInt) (fun v2 M2 =>
      (((iN (M2 r 0 7)) ≤ (iN 8) →
       CT l E (d - 1) m_Tokens_keywordOf [(.long (lI (M2 r 0 9)), 0)] M2 (fun v3 M3 =>
        K (.null, 0) (upd3 M3 r 0 8 ((toI v3)).toInt))) ∧
      (¬ (iN (M2 r 0 7)) ≤ (iN 8) →
       K (.null, 0) (upd3 M2 r 0 8 ((iN (-1))).toInt))))) ∧
    (¬ (iN ((upd3 (upd3 (upd3 M r 0 4 ((iN (M r 0 2))).toInt) r 0 3 ((iN 0)).toInt) r 0 8 ((iN (-1))).toInt) r 0 3)) = iN 1 →
     (((iN ((upd3 (upd3 (upd3 M r 0 4 ((iN (M r 0 2))).toInt) r 0 3 ((iN 0)).toInt) r 0 8 ((iN (-1))).toInt) r 0 3)) = iN 2 →
     CT l E (d - 1) m_Tokens_readNumber [(.ref r, 4)] (upd3 (upd3 (upd3 M r 0 4 ((iN (M r 0 2))).toInt) r 0 3 ((iN 0)).toInt) r 0 8 ((iN (-1))).toInt) (fun v1 M1 =>
      K (.null, 0) M1)) ∧
    (¬ (iN ((upd3 (upd3 (upd3 M r 0 4 ((iN (M r 0 2))).toInt) r 0 3 ((iN 0)).toInt) r 0 8 ((iN (-1))).toInt) r 0 3)) = iN 2 →
     (((iN ((upd3 (upd3 (upd3 M r 0 4 ((iN (M r 0 2))).toInt) r 0 3 ((iN 0)).toInt) r 0 8 ((iN (-1))).toInt) r 0 3)) = iN 3 →
     ((((upd3 (upd3 (upd3 M r 0 4 ((iN (M r 0 2))).toInt) r 0 3 ((iN 0)).toInt) r 0 8 ((iN (-1))).toInt) r 0 0).toNat, 2) ∈ CL ∧ vp_in (iN ((upd3 (upd3 (upd3 M r 0 4 ((iN (M r 0 2))).toInt) r 0 3 ((iN 0)).toInt) r 0 8 ((iN (-1))).toInt) r 0 2)) 900 ∧ K (.null, 0) (upd3 (upd3 (upd3 (upd3 (upd3 M r 0 4 ((iN (M r 0 2))).toInt) r 0 3 ((iN 0)).toInt) r 0 8 ((iN (-1))).toInt) r 0 6 ((iN ((upd3 (upd3 (upd3 M r 0 4 ((iN (M r 0 2))).toInt) r 0 3 ((iN 0)).toInt) r 0 8 ((iN (-1))).toInt) ((upd3 (upd3 (upd3 M r 0 4 ((iN (M r 0 2))).toInt) r 0 3 ((iN 0)).toInt) r 0 8 ((iN (-1))).toInt) r 0 0).toNat 2 ((iN ((upd3 (upd3 (upd3 M r 0 4 ((iN (M r 0 2))).toInt) r 0 3 ((iN 0)).toInt) r 0 8 ((iN (-1))).toInt) r 0 2))).toNatClampNeg))).toInt) r 0 2 (((iN ((upd3 (upd3 (upd3 (upd3 M r 0 4 ((iN (M r 0 2))).toInt) r 0 3 ((iN 0)).toInt) r 0 8 ((iN (-1))).toInt) r 0 6 ((iN ((upd3 (upd3 (upd3 M r 0 4 ((iN (M r 0 2))).toInt) r 0 3 ((iN 0)).toInt) r 0 8 ((iN (-1))).toInt) ((upd3 (upd3 (upd3 M r 0 4 ((iN (M r 0 2))).toInt) r 0 3 ((iN 0)).toInt) r 0 8 ((iN (-1))).toInt) r 0 0).toNat 2 ((iN ((upd3 (upd3 (upd3 M r 0 4 ((iN (M r 0 2))).toInt) r 0 3 ((iN 0)).toInt) r 0 8 ((iN (-1))).toInt) r 0 2))).toNatClampNeg))).toInt) r 0 2)) + (iN 1))).toInt))) ∧
    (¬ (iN ((upd3 (upd3 (upd3 M r 0 4 ((iN (M r 0 2))).toInt) r 0 3 ((iN 0)).toInt) r 0 8 ((iN (-1))).toInt) r 0 3)) = iN 3 →
     K (.null, 0) (upd3 (upd3 (upd3 M r 0 4 ((iN (M r 0 2))).toInt) r 0 3 ((iN 0)).toInt) r 0 8 ((iN (-1))).toInt)))))))) ∧
   (¬ (iN ((upd3 M r 0 4 ((iN (M r 0 2))).toInt) r 0 1)) ≤ (iN ((upd3 M r 0 4 ((iN (M r 0 2))).toInt) r 0 2)) →
    ((((upd3 M r 0 4 ((iN (M r 0 2))).toInt) r 0 0).toNat, 2) ∈ CL ∧ vp_in (iN ((upd3 M r 0 4 ((iN (M r 0 2))).toInt) r 0 2)) 900 ∧ CT l E (d - 1) m_Tokens_kindOf [(.int (iN ((upd3 M r 0 4 ((iN (M r 0 2))).toInt) ((upd3 M r 0 4 ((iN (M r 0 2))).toInt) r 0 0).toNat 2 ((iN ((upd3 M r 0 4 ((iN (M r 0 2))).toInt) r 0 2))).toNatClampNeg)), 0)] (upd3 M r 0 4 ((iN (M r 0 2))).toInt) (fun v4 M4 =>
     (((iN ((upd3 (upd3 M4 r 0 3 ((toI v4)).toInt) r 0 8 ((iN (-1))).toInt) r 0 3)) = iN 1 →
      CT l E (d - 1) m_Tokens_readWord [(.ref r, 4)] (upd3 (upd3 M4 r 0 3 ((toI v4)).toInt) r 0 8 ((iN (-1))).toInt) (fun v6 M6 =>
       (((iN (M6 r 0 7)) ≤ (iN 8) →
        CT l E (d - 1) m_Tokens_keywordOf [(.long (lI (M6 r 0 9)), 0)] M6 (fun v7 M7 =>
         K (.null, 0) (upd3 M7 r 0 8 ((toI v7)).toInt))) ∧
       (¬ (iN (M6 r 0 7)) ≤ (iN 8) →
        K (.null, 0) (upd3 M6 r 0 8 ((iN (-1))).toInt))))) ∧
     (¬ (iN ((upd3 (upd3 M4 r 0 3 ((toI v4)).toInt) r 0 8 ((iN (-1))).toInt) r 0 3)) = iN 1 →
      (((iN ((upd3 (upd3 M4 r 0 3 ((toI v4)).toInt) r 0 8 ((iN (-1))).toInt) r 0 3)) = iN 2 →
      CT l E (d - 1) m_Tokens_readNumber [(.ref r, 4)] (upd3 (upd3 M4 r 0 3 ((toI v4)).toInt) r 0 8 ((iN (-1))).toInt) (fun v5 M5 =>
       K (.null, 0) M5)) ∧
     (¬ (iN ((upd3 (upd3 M4 r 0 3 ((toI v4)).toInt) r 0 8 ((iN (-1))).toInt) r 0 3)) = iN 2 →
      (((iN ((upd3 (upd3 M4 r 0 3 ((toI v4)).toInt) r 0 8 ((iN (-1))).toInt) r 0 3)) = iN 3 →
      ((((upd3 (upd3 M4 r 0 3 ((toI v4)).toInt) r 0 8 ((iN (-1))).toInt) r 0 0).toNat, 2) ∈ CL ∧ vp_in (iN ((upd3 (upd3 M4 r 0 3 ((toI v4)).toInt) r 0 8 ((iN (-1))).toInt) r 0 2)) 900 ∧ K (.null, 0) (upd3 (upd3 (upd3 (upd3 M4 r 0 3 ((toI v4)).toInt) r 0 8 ((iN (-1))).toInt) r 0 6 ((iN ((upd3 (upd3 M4 r 0 3 ((toI v4)).toInt) r 0 8 ((iN (-1))).toInt) ((upd3 (upd3 M4 r 0 3 ((toI v4)).toInt) r 0 8 ((iN (-1))).toInt) r 0 0).toNat 2 ((iN ((upd3 (upd3 M4 r 0 3 ((toI v4)).toInt) r 0 8 ((iN (-1))).toInt) r 0 2))).toNatClampNeg))).toInt) r 0 2 (((iN ((upd3 (upd3 (upd3 M4 r 0 3 ((toI v4)).toInt) r 0 8 ((iN (-1))).toInt) r 0 6 ((iN ((upd3 (upd3 M4 r 0 3 ((toI v4)).toInt) r 0 8 ((iN (-1))).toInt) ((upd3 (upd3 M4 r 0 3 ((toI v4)).toInt) r 0 8 ((iN (-1))).toInt) r 0 0).toNat 2 ((iN ((upd3 (upd3 M4 r 0 3 ((toI v4)).toInt) r 0 8 ((iN (-1))).toInt) r 0 2))).toNatClampNeg))).toInt) r 0 2)) + (iN 1))).toInt))) ∧
     (¬ (iN ((upd3 (upd3 M4 r 0 3 ((toI v4)).toInt) r 0 8 ((iN (-1))).toInt) r 0 3)) = iN 3 →
      K (.null, 0) (upd3 (upd3 M4 r 0 3 ((toI v4)).toInt) r 0 8 ((iN (-1))).toInt)))))))))))) ∧
  (¬ (iN (M r 0 1)) ≤ (iN (M r 0 2)) →
   (((M r 0 0).toNat, 2) ∈ CL ∧ vp_in (iN (M r 0 2)) 900 ∧ (((iN (M (M r 0 0).toNat 2 ((iN (M r 0 2))).toNatClampNeg)) = (iN 32) →
    G l E d m_Tokens_advance 0 [(0, (.ref r, 4))] [] (upd3 M r 0 2 (((iN (M r 0 2)) + (iN 1))).toInt) K) ∧
   (¬ (iN (M (M r 0 0).toNat 2 ((iN (M r 0 2))).toNatClampNeg)) = (iN 32) →
    (((M r 0 0).toNat, 2) ∈ CL ∧ vp_in (iN (M r 0 2)) 900 ∧ ((¬ (iN (M (M r 0 0).toNat 2 ((iN (M r 0 2))).toNatClampNeg)) = (iN 10) →
     (((iN ((upd3 M r 0 4 ((iN (M r 0 2))).toInt) r 0 1)) ≤ (iN ((upd3 M r 0 4 ((iN (M r 0 2))).toInt) r 0 2)) →
      (((iN ((upd3 (upd3 (upd3 M r 0 4 ((iN (M r 0 2))).toInt) r 0 3 ((iN 0)).toInt) r 0 8 ((iN (-1))).toInt) r 0 3)) = iN 1 →
       CT l E (d - 1) m_Tokens_readWord [(.ref r, 4)] (upd3 (upd3 (upd3 M r 0 4 ((iN (M r 0 2))).toInt) r 0 3 ((iN 0)).toInt) r 0 8 ((iN (-1))).toInt) (fun v9 M9 =>
        (((iN (M9 r 0 7)) ≤ (iN 8) →
         CT l E (d - 1) m_Tokens_keywordOf [(.long (lI (M9 r 0 9)), 0)] M9 (fun v10 M10 =>
          K (.null, 0) (upd3 M10 r 0 8 ((toI v10)).toInt))) ∧
        (¬ (iN (M9 r 0 7)) ≤ (iN 8) →
         K (.null, 0) (upd3 M9 r 0 8 ((iN (-1))).toInt))))) ∧
      (¬ (iN ((upd3 (upd3 (upd3 M r 0 4 ((iN (M r 0 2))).toInt) r 0 3 ((iN 0)).toInt) r 0 8 ((iN (-1))).toInt) r 0 3)) = iN 1 →
       (((iN ((upd3 (upd3 (upd3 M r 0 4 ((iN (M r 0 2))).toInt) r 0 3 ((iN 0)).toInt) r 0 8 ((iN (-1))).toInt) r 0 3)) = iN 2 →
       CT l E (d - 1) m_Tokens_readNumber [(.ref r, 4)] (upd3 (upd3 (upd3 M r 0 4 ((iN (M r 0 2))).toInt) r 0 3 ((iN 0)).toInt) r 0 8 ((iN (-1))).toInt) (fun v8 M8 =>
        K (.null, 0) M8)) ∧
      (¬ (iN ((upd3 (upd3 (upd3 M r 0 4 ((iN (M r 0 2))).toInt) r 0 3 ((iN 0)).toInt) r 0 8 ((iN (-1))).toInt) r 0 3)) = iN 2 →
       (((iN ((upd3 (upd3 (upd3 M r 0 4 ((iN (M r 0 2))).toInt) r 0 3 ((iN 0)).toInt) r 0 8 ((iN (-1))).toInt) r 0 3)) = iN 3 →
       ((((upd3 (upd3 (upd3 M r 0 4 ((iN (M r 0 2))).toInt) r 0 3 ((iN 0)).toInt) r 0 8 ((iN (-1))).toInt) r 0 0).toNat, 2) ∈ CL ∧ vp_in (iN ((upd3 (upd3 (upd3 M r 0 4 ((iN (M r 0 2))).toInt) r 0 3 ((iN 0)).toInt) r 0 8 ((iN (-1))).toInt) r 0 2)) 900 ∧ K (.null, 0) (upd3 (upd3 (upd3 (upd3 (upd3 M r 0 4 ((iN (M r 0 2))).toInt) r 0 3 ((iN 0)).toInt) r 0 8 ((iN (-1))).toInt) r 0 6 ((iN ((upd3 (upd3 (upd3 M r 0 4 ((iN (M r 0 2))).toInt) r 0 3 ((iN 0)).toInt) r 0 8 ((iN (-1))).toInt) ((upd3 (upd3 (upd3 M r 0 4 ((iN (M r 0 2))).toInt) r 0 3 ((iN 0)).toInt) r 0 8 ((iN (-1))).toInt) r 0 0).toNat 2 ((iN ((upd3 (upd3 (upd3 M r 0 4 ((iN (M r 0 2))).toInt) r 0 3 ((iN 0)).toInt) r 0 8 ((iN (-1))).toInt) r 0 2))).toNatClampNeg))).toInt) r 0 2 (((iN ((upd3 (upd3 (upd3 (upd3 M r 0 4 ((iN (M r 0 2))).toInt) r 0 3 ((iN 0)).toInt) r 0 8 ((iN (-1))).toInt) r 0 6 ((iN ((upd3 (upd3 (upd3 M r 0 4 ((iN (M r 0 2))).toInt) r 0 3 ((iN 0)).toInt) r 0 8 ((iN (-1))).toInt) ((upd3 (upd3 (upd3 M r 0 4 ((iN (M r 0 2))).toInt) r 0 3 ((iN 0)).toInt) r 0 8 ((iN (-1))).toInt) r 0 0).toNat 2 ((iN ((upd3 (upd3 (upd3 M r 0 4 ((iN (M r 0 2))).toInt) r 0 3 ((iN 0)).toInt) r 0 8 ((iN (-1))).toInt) r 0 2))).toNatClampNeg))).toInt) r 0 2)) + (iN 1))).toInt))) ∧
      (¬ (iN ((upd3 (upd3 (upd3 M r 0 4 ((iN (M r 0 2))).toInt) r 0 3 ((iN 0)).toInt) r 0 8 ((iN (-1))).toInt) r 0 3)) = iN 3 →
       K (.null, 0) (upd3 (upd3 (upd3 M r 0 4 ((iN (M r 0 2))).toInt) r 0 3 ((iN 0)).toInt) r 0 8 ((iN (-1))).toInt)))))))) ∧
     (¬ (iN ((upd3 M r 0 4 ((iN (M r 0 2))).toInt) r 0 1)) ≤ (iN ((upd3 M r 0 4 ((iN (M r 0 2))).toInt) r 0 2)) →
      ((((upd3 M r 0 4 ((iN (M r 0 2))).toInt) r 0 0).toNat, 2) ∈ CL ∧ vp_in (iN ((upd3 M r 0 4 ((iN (M r 0 2))).toInt) r 0 2)) 900 ∧ CT l E (d - 1) m_Tokens_kindOf [(.int (iN ((upd3 M r 0 4 ((iN (M r 0 2))).toInt) ((upd3 M r 0 4 ((iN (M r 0 2))).toInt) r 0 0).toNat 2 ((iN ((upd3 M r 0 4 ((iN (M r 0 2))).toInt) r 0 2))).toNatClampNeg)), 0)] (upd3 M r 0 4 ((iN (M r 0 2))).toInt) (fun v11 M11 =>
       (((iN ((upd3 (upd3 M11 r 0 3 ((toI v11)).toInt) r 0 8 ((iN (-1))).toInt) r 0 3)) = iN 1 →
        CT l E (d - 1) m_Tokens_readWord [(.ref r, 4)] (upd3 (upd3 M11 r 0 3 ((toI v11)).toInt) r 0 8 ((iN (-1))).toInt) (fun v13 M13 =>
         (((iN (M13 r 0 7)) ≤ (iN 8) →
          CT l E (d - 1) m_Tokens_keywordOf [(.long (lI (M13 r 0 9)), 0)] M13 (fun v14 M14 =>
           K (.null, 0) (upd3 M14 r 0 8 ((toI v14)).toInt))) ∧
         (¬ (iN (M13 r 0 7)) ≤ (iN 8) →
          K (.null, 0) (upd3 M13 r 0 8 ((iN (-1))).toInt))))) ∧
       (¬ (iN ((upd3 (upd3 M11 r 0 3 ((toI v11)).toInt) r 0 8 ((iN (-1))).toInt) r 0 3)) = iN 1 →
        (((iN ((upd3 (upd3 M11 r 0 3 ((toI v11)).toInt) r 0 8 ((iN (-1))).toInt) r 0 3)) = iN 2 →
        CT l E (d - 1) m_Tokens_readNumber [(.ref r, 4)] (upd3 (upd3 M11 r 0 3 ((toI v11)).toInt) r 0 8 ((iN (-1))).toInt) (fun v12 M12 =>
         K (.null, 0) M12)) ∧
       (¬ (iN ((upd3 (upd3 M11 r 0 3 ((toI v11)).toInt) r 0 8 ((iN (-1))).toInt) r 0 3)) = iN 2 →
        (((iN ((upd3 (upd3 M11 r 0 3 ((toI v11)).toInt) r 0 8 ((iN (-1))).toInt) r 0 3)) = iN 3 →
        ((((upd3 (upd3 M11 r 0 3 ((toI v11)).toInt) r 0 8 ((iN (-1))).toInt) r 0 0).toNat, 2) ∈ CL ∧ vp_in (iN ((upd3 (upd3 M11 r 0 3 ((toI v11)).toInt) r 0 8 ((iN (-1))).toInt) r 0 2)) 900 ∧ K (.null, 0) (upd3 (upd3 (upd3 (upd3 M11 r 0 3 ((toI v11)).toInt) r 0 8 ((iN (-1))).toInt) r 0 6 ((iN ((upd3 (upd3 M11 r 0 3 ((toI v11)).toInt) r 0 8 ((iN (-1))).toInt) ((upd3 (upd3 M11 r 0 3 ((toI v11)).toInt) r 0 8 ((iN (-1))).toInt) r 0 0).toNat 2 ((iN ((upd3 (upd3 M11 r 0 3 ((toI v11)).toInt) r 0 8 ((iN (-1))).toInt) r 0 2))).toNatClampNeg))).toInt) r 0 2 (((iN ((upd3 (upd3 (upd3 M11 r 0 3 ((toI v11)).toInt) r 0 8 ((iN (-1))).toInt) r 0 6 ((iN ((upd3 (upd3 M11 r 0 3 ((toI v11)).toInt) r 0 8 ((iN (-1))).toInt) ((upd3 (upd3 M11 r 0 3 ((toI v11)).toInt) r 0 8 ((iN (-1))).toInt) r 0 0).toNat 2 ((iN ((upd3 (upd3 M11 r 0 3 ((toI v11)).toInt) r 0 8 ((iN (-1))).toInt) r 0 2))).toNatClampNeg))).toInt) r 0 2)) + (iN 1))).toInt))) ∧
       (¬ (iN ((upd3 (upd3 M11 r 0 3 ((toI v11)).toInt) r 0 8 ((iN (-1))).toInt) r 0 3)) = iN 3 →
        K (.null, 0) (upd3 (upd3 M11 r 0 3 ((toI v11)).toInt) r 0 8 ((iN (-1))).toInt)))))))))))) ∧
    ((iN (M (M r 0 0).toNat 2 ((iN (M r 0 2))).toNatClampNeg)) = (iN 10) →
     G l E d m_Tokens_advance 0 [(0, (.ref r, 4))] [] (upd3 M r 0 2 (((iN (M r 0 2)) + (iN 1))).toInt) K))))))))) :
  G l E d m_Tokens_advance 0 [(0, (.ref r, 4))] [] M K := G.blk 60 _ hd ok_Tokens_advance rfl h
def bt_Tokens_start : BtT := [(0, [0, 1, 2], true, [(0, .aload_n 0, 1, 0, 0, 0, m0),
   (1, .aload_n 1, 1, 0, 0, 0, m0),
   (2, .putfield 9, 3, 0, 5, 146, m0),
   (5, .aload_n 0, 1, 0, 0, 0, m0),
   (6, .iload_n 2, 1, 0, 0, 0, m0),
   (7, .aload_n 1, 1, 0, 0, 0, m0),
   (8, .arraylength, 1, 0, 0, 0, m0),
   (9, .invokestatic 47, 3, 0, 0, 650, m_Math_min),
   (12, .putfield 15, 3, 1, 5, 147, m0),
   (15, .aload_n 0, 1, 0, 0, 0, m0),
   (16, .iconst 0, 1, 0, 0, 0, m0),
   (17, .putfield 19, 3, 2, 5, 148, m0),
   (20, .aload_n 0, 1, 0, 0, 0, m0),
   (21, .iconst 0, 1, 0, 0, 0, m0),
   (22, .putfield 44, 3, 10, 5, 165, m0),
   (25, .aload_n 0, 1, 0, 0, 0, m0),
   (26, .invokevirtual 53, 3, 0, 0, 653, m_Tokens_advance),
   (29, .return_, 1, 0, 0, 0, m0)])]
theorem ok_Tokens_start : okBt m_Tokens_start bt_Tokens_start = true := by decide +kernel
set_option maxRecDepth 100000 in
theorem b_Tokens_start_0 {l : Launch} {E : EnvT} {d : Nat} {K : AV → Mem → Prop} {M : Mem} {r : Nat} {x2 : Int32} (hd : 1 ≤ d)
  (h : CT l E (d - 1) m_Math_min [(.int x2, 0), (.int (iN 900), 0)] (upd3 M r 0 0 (0 : Int)) (fun v1 M1 =>
   CT l E (d - 1) m_Tokens_advance [(.ref r, 4)] (upd3 (upd3 (upd3 M1 r 0 1 ((toI v1)).toInt) r 0 2 ((iN 0)).toInt) r 0 10 ((iN 0)).toInt) (fun v2 M2 =>
    K (.null, 0) M2))) :
  G l E d m_Tokens_start 0 [(0, (.ref r, 4)), (1, (.ref 0, 2)), (2, (.int x2, 0))] [] M K := G.blk 60 _ hd ok_Tokens_start rfl h
def bt_Tokens_refuse : BtT := [(0, [0, 1], true, [(0, .aload_n 0, 1, 0, 0, 0, m0),
   (1, .aload_n 0, 1, 0, 0, 0, m0),
   (2, .getfield 22, 3, 3, 5, 149, m0),
   (5, .iconst 4, 1, 0, 0, 0, m0),
   (6, .if_icmp .ne 7, 3, 13, 0, 0, m0),
   (9, .nop, 0, 0, 0, 0, m0)]),
  (9, [], false, [(9, .iconst 1, 1, 0, 0, 0, m0),
   (10, .goto 4, 3, 14, 0, 0, m0)]),
  (13, [], false, [(13, .iload_n 1, 1, 0, 0, 0, m0),
   (14, .nop, 0, 0, 0, 0, m0)]),
  (14, [], false, [(14, .putfield 44, 3, 10, 5, 165, m0),
   (17, .iconst 0, 1, 0, 0, 0, m0),
   (18, .ireturn, 1, 0, 0, 0, m0)])]
theorem ok_Tokens_refuse : okBt m_Tokens_refuse bt_Tokens_refuse = true := by decide +kernel
set_option maxRecDepth 100000 in
theorem b_Tokens_refuse_0 {l : Launch} {E : EnvT} {d : Nat} {K : AV → Mem → Prop} {M : Mem} {r : Nat} {x1 : Int32} (hd : 1 ≤ d)
  (h : ((¬ (iN (M r 0 3)) = (iN 4) →
   ((((iN 0) = 0 ∨ (iN 0) = 1)) ∧ K (.int (iN 0), 0) (upd3 M r 0 10 (x1).toInt))) ∧
  ((iN (M r 0 3)) = (iN 4) →
   ((((iN 0) = 0 ∨ (iN 0) = 1)) ∧ K (.int (iN 0), 0) (upd3 M r 0 10 ((iN 1)).toInt))))) :
  G l E d m_Tokens_refuse 0 [(0, (.ref r, 4)), (1, (.int x1, 0))] [] M K := G.blk 60 _ hd ok_Tokens_refuse rfl h
def bt_Tokens_standsName : BtT := [(0, [0], true, [(0, .aload_n 0, 1, 0, 0, 0, m0),
   (1, .getfield 22, 3, 3, 5, 149, m0),
   (4, .iconst 1, 1, 0, 0, 0, m0),
   (5, .if_icmp .ne 20, 3, 25, 0, 0, m0),
   (8, .nop, 0, 0, 0, 0, m0)]),
  (8, [], false, [(8, .aload_n 0, 1, 0, 0, 0, m0),
   (9, .getfield 34, 3, 7, 5, 159, m0),
   (12, .bipush 8, 2, 0, 0, 0, m0),
   (14, .if_icmp .gt 11, 3, 25, 0, 0, m0),
   (17, .nop, 0, 0, 0, 0, m0)]),
  (17, [], false, [(17, .aload_n 0, 1, 0, 0, 0, m0),
   (18, .getfield 37, 3, 8, 5, 160, m0),
   (21, .iconst (-1), 1, 0, 0, 0, m0),
   (22, .if_icmp .eq 11, 3, 33, 0, 0, m0),
   (25, .nop, 0, 0, 0, 0, m0)]),
  (25, [], false, [(25, .aload_n 0, 1, 0, 0, 0, m0),
   (26, .iconst 2, 1, 0, 0, 0, m0),
   (27, .invokevirtual 85, 3, 0, 0, 735, m_Tokens_refuse),
   (30, .ifCond .eq 7, 3, 37, 0, 0, m0),
   (33, .nop, 0, 0, 0, 0, m0)]),
  (33, [], false, [(33, .iconst 1, 1, 0, 0, 0, m0),
   (34, .goto 4, 3, 38, 0, 0, m0)]),
  (37, [], false, [(37, .iconst 0, 1, 0, 0, 0, m0),
   (38, .nop, 0, 0, 0, 0, m0)]),
  (38, [], false, [(38, .ireturn, 1, 0, 0, 0, m0)])]
theorem ok_Tokens_standsName : okBt m_Tokens_standsName bt_Tokens_standsName = true := by decide +kernel
set_option maxRecDepth 100000 in
theorem b_Tokens_standsName_0 {l : Launch} {E : EnvT} {d : Nat} {K : AV → Mem → Prop} {M : Mem} {r : Nat}  (hd : 1 ≤ d)
  (h : ((¬ (iN (M r 0 3)) = (iN 1) →
   CT l E (d - 1) m_Tokens_refuse [(.ref r, 4), (.int (iN 2), 0)] M (fun v1 M1 =>
    (((toI v1) = 0 →
     ((((iN 0) = 0 ∨ (iN 0) = 1)) ∧ K (.int (iN 0), 0) M1)) ∧
    (¬ (toI v1) = 0 →
     ((((iN 1) = 0 ∨ (iN 1) = 1)) ∧ K (.int (iN 1), 0) M1))))) ∧
  ((iN (M r 0 3)) = (iN 1) →
   (((iN 8) < (iN (M r 0 7)) →
    CT l E (d - 1) m_Tokens_refuse [(.ref r, 4), (.int (iN 2), 0)] M (fun v2 M2 =>
     (((toI v2) = 0 →
      ((((iN 0) = 0 ∨ (iN 0) = 1)) ∧ K (.int (iN 0), 0) M2)) ∧
     (¬ (toI v2) = 0 →
      ((((iN 1) = 0 ∨ (iN 1) = 1)) ∧ K (.int (iN 1), 0) M2))))) ∧
   (¬ (iN 8) < (iN (M r 0 7)) →
    (((iN (M r 0 8)) = (iN (-1)) →
     ((((iN 1) = 0 ∨ (iN 1) = 1)) ∧ K (.int (iN 1), 0) M)) ∧
    (¬ (iN (M r 0 8)) = (iN (-1)) →
     CT l E (d - 1) m_Tokens_refuse [(.ref r, 4), (.int (iN 2), 0)] M (fun v3 M3 =>
      (((toI v3) = 0 →
       ((((iN 0) = 0 ∨ (iN 0) = 1)) ∧ K (.int (iN 0), 0) M3)) ∧
      (¬ (toI v3) = 0 →
       ((((iN 1) = 0 ∨ (iN 1) = 1)) ∧ K (.int (iN 1), 0) M3))))))))))) :
  G l E d m_Tokens_standsName 0 [(0, (.ref r, 4))] [] M K := G.blk 60 _ hd ok_Tokens_standsName rfl h
def bt_Tokens_takeKeyword : BtT := [(0, [0, 1], true, [(0, .aload_n 0, 1, 0, 0, 0, m0),
   (1, .invokevirtual 53, 3, 0, 0, 653, m_Tokens_advance),
   (4, .aload_n 0, 1, 0, 0, 0, m0),
   (5, .getfield 37, 3, 8, 5, 160, m0),
   (8, .iload_n 1, 1, 0, 0, 0, m0),
   (9, .if_icmp .eq 11, 3, 20, 0, 0, m0),
   (12, .nop, 0, 0, 0, 0, m0)]),
  (12, [], false, [(12, .aload_n 0, 1, 0, 0, 0, m0),
   (13, .iconst 2, 1, 0, 0, 0, m0),
   (14, .invokevirtual 85, 3, 0, 0, 735, m_Tokens_refuse),
   (17, .ifCond .eq 7, 3, 24, 0, 0, m0),
   (20, .nop, 0, 0, 0, 0, m0)]),
  (20, [], false, [(20, .iconst 1, 1, 0, 0, 0, m0),
   (21, .goto 4, 3, 25, 0, 0, m0)]),
  (24, [], false, [(24, .iconst 0, 1, 0, 0, 0, m0),
   (25, .nop, 0, 0, 0, 0, m0)]),
  (25, [], false, [(25, .ireturn, 1, 0, 0, 0, m0)])]
theorem ok_Tokens_takeKeyword : okBt m_Tokens_takeKeyword bt_Tokens_takeKeyword = true := by decide +kernel
set_option maxRecDepth 100000 in
theorem b_Tokens_takeKeyword_0 {l : Launch} {E : EnvT} {d : Nat} {K : AV → Mem → Prop} {M : Mem} {r : Nat} {x1 : Int32} (hd : 1 ≤ d)
  (h : CT l E (d - 1) m_Tokens_advance [(.ref r, 4)] M (fun v1 M1 =>
   (((iN (M1 r 0 8)) = x1 →
    ((((iN 1) = 0 ∨ (iN 1) = 1)) ∧ K (.int (iN 1), 0) M1)) ∧
   (¬ (iN (M1 r 0 8)) = x1 →
    CT l E (d - 1) m_Tokens_refuse [(.ref r, 4), (.int (iN 2), 0)] M1 (fun v2 M2 =>
     (((toI v2) = 0 →
      ((((iN 0) = 0 ∨ (iN 0) = 1)) ∧ K (.int (iN 0), 0) M2)) ∧
     (¬ (toI v2) = 0 →
      ((((iN 1) = 0 ∨ (iN 1) = 1)) ∧ K (.int (iN 1), 0) M2)))))))) :
  G l E d m_Tokens_takeKeyword 0 [(0, (.ref r, 4)), (1, (.int x1, 0))] [] M K := G.blk 60 _ hd ok_Tokens_takeKeyword rfl h
def bt_Tokens_standsNumber : BtT := [(0, [0, 1, 2], true, [(0, .aload_n 0, 1, 0, 0, 0, m0),
   (1, .getfield 22, 3, 3, 5, 149, m0),
   (4, .iconst 2, 1, 0, 0, 0, m0),
   (5, .if_icmp .eq 9, 3, 14, 0, 0, m0),
   (8, .nop, 0, 0, 0, 0, m0)]),
  (8, [], false, [(8, .aload_n 0, 1, 0, 0, 0, m0),
   (9, .iconst 2, 1, 0, 0, 0, m0),
   (10, .invokevirtual 85, 3, 0, 0, 735, m_Tokens_refuse),
   (13, .ireturn, 1, 0, 0, 0, m0)]),
  (14, [], false, [(14, .aload_n 0, 1, 0, 0, 0, m0),
   (15, .getfield 28, 3, 5, 5, 154, m0),
   (18, .iload_n 1, 1, 0, 0, 0, m0),
   (19, .if_icmp .lt 11, 3, 30, 0, 0, m0),
   (22, .nop, 0, 0, 0, 0, m0)]),
  (22, [], false, [(22, .aload_n 0, 1, 0, 0, 0, m0),
   (23, .getfield 28, 3, 5, 5, 154, m0),
   (26, .iload_n 2, 1, 0, 0, 0, m0),
   (27, .if_icmp .le 11, 3, 38, 0, 0, m0),
   (30, .nop, 0, 0, 0, 0, m0)]),
  (30, [], false, [(30, .aload_n 0, 1, 0, 0, 0, m0),
   (31, .iconst 4, 1, 0, 0, 0, m0),
   (32, .invokevirtual 85, 3, 0, 0, 735, m_Tokens_refuse),
   (35, .ifCond .eq 7, 3, 42, 0, 0, m0),
   (38, .nop, 0, 0, 0, 0, m0)]),
  (38, [], false, [(38, .iconst 1, 1, 0, 0, 0, m0),
   (39, .goto 4, 3, 43, 0, 0, m0)]),
  (42, [], false, [(42, .iconst 0, 1, 0, 0, 0, m0),
   (43, .nop, 0, 0, 0, 0, m0)]),
  (43, [], false, [(43, .ireturn, 1, 0, 0, 0, m0)])]
theorem ok_Tokens_standsNumber : okBt m_Tokens_standsNumber bt_Tokens_standsNumber = true := by decide +kernel
set_option maxRecDepth 100000 in
theorem b_Tokens_standsNumber_0 {l : Launch} {E : EnvT} {d : Nat} {K : AV → Mem → Prop} {M : Mem} {r : Nat} {x1 : Int32} {x2 : Int32} (hd : 1 ≤ d)
  (h : (((iN (M r 0 3)) = (iN 2) →
   (((iN (M r 0 5)) < x1 →
    CT l E (d - 1) m_Tokens_refuse [(.ref r, 4), (.int (iN 4), 0)] M (fun v1 M1 =>
     (((toI v1) = 0 →
      ((((iN 0) = 0 ∨ (iN 0) = 1)) ∧ K (.int (iN 0), 0) M1)) ∧
     (¬ (toI v1) = 0 →
      ((((iN 1) = 0 ∨ (iN 1) = 1)) ∧ K (.int (iN 1), 0) M1))))) ∧
   (¬ (iN (M r 0 5)) < x1 →
    (((iN (M r 0 5)) ≤ x2 →
     ((((iN 1) = 0 ∨ (iN 1) = 1)) ∧ K (.int (iN 1), 0) M)) ∧
    (¬ (iN (M r 0 5)) ≤ x2 →
     CT l E (d - 1) m_Tokens_refuse [(.ref r, 4), (.int (iN 4), 0)] M (fun v2 M2 =>
      (((toI v2) = 0 →
       ((((iN 0) = 0 ∨ (iN 0) = 1)) ∧ K (.int (iN 0), 0) M2)) ∧
      (¬ (toI v2) = 0 →
       ((((iN 1) = 0 ∨ (iN 1) = 1)) ∧ K (.int (iN 1), 0) M2))))))))) ∧
  (¬ (iN (M r 0 3)) = (iN 2) →
   CT l E (d - 1) m_Tokens_refuse [(.ref r, 4), (.int (iN 2), 0)] M (fun v3 M3 =>
    ((((toI v3) = 0 ∨ (toI v3) = 1)) ∧ K (.int (toI v3), 0) M3))))) :
  G l E d m_Tokens_standsNumber 0 [(0, (.ref r, 4)), (1, (.int x1, 0)), (2, (.int x2, 0))] [] M K := G.blk 60 _ hd ok_Tokens_standsNumber rfl h
def bt_Tokens_takeNumber : BtT := [(0, [0, 1, 2], true, [(0, .aload_n 0, 1, 0, 0, 0, m0),
   (1, .invokevirtual 53, 3, 0, 0, 653, m_Tokens_advance),
   (4, .aload_n 0, 1, 0, 0, 0, m0),
   (5, .iload_n 1, 1, 0, 0, 0, m0),
   (6, .iload_n 2, 1, 0, 0, 0, m0),
   (7, .invokevirtual 92, 3, 0, 0, 748, m_Tokens_standsNumber),
   (10, .ireturn, 1, 0, 0, 0, m0)])]
theorem ok_Tokens_takeNumber : okBt m_Tokens_takeNumber bt_Tokens_takeNumber = true := by decide +kernel
set_option maxRecDepth 100000 in
theorem b_Tokens_takeNumber_0 {l : Launch} {E : EnvT} {d : Nat} {K : AV → Mem → Prop} {M : Mem} {r : Nat} {x1 : Int32} {x2 : Int32} (hd : 1 ≤ d)
  (h : CT l E (d - 1) m_Tokens_advance [(.ref r, 4)] M (fun v1 M1 =>
   CT l E (d - 1) m_Tokens_standsNumber [(.ref r, 4), (.int x1, 0), (.int x2, 0)] M1 (fun v2 M2 =>
    ((((toI v2) = 0 ∨ (toI v2) = 1)) ∧ K (.int (toI v2), 0) M2)))) :
  G l E d m_Tokens_takeNumber 0 [(0, (.ref r, 4)), (1, (.int x1, 0)), (2, (.int x2, 0))] [] M K := G.blk 60 _ hd ok_Tokens_takeNumber rfl h
def bt_Tokens_standsSign : BtT := [(0, [0, 1], true, [(0, .aload_n 0, 1, 0, 0, 0, m0),
   (1, .getfield 22, 3, 3, 5, 149, m0),
   (4, .iconst 3, 1, 0, 0, 0, m0),
   (5, .if_icmp .ne 11, 3, 16, 0, 0, m0),
   (8, .nop, 0, 0, 0, 0, m0)]),
  (8, [], false, [(8, .aload_n 0, 1, 0, 0, 0, m0),
   (9, .getfield 31, 3, 6, 5, 157, m0),
   (12, .iload_n 1, 1, 0, 0, 0, m0),
   (13, .if_icmp .eq 11, 3, 24, 0, 0, m0),
   (16, .nop, 0, 0, 0, 0, m0)]),
  (16, [], false, [(16, .aload_n 0, 1, 0, 0, 0, m0),
   (17, .iconst 2, 1, 0, 0, 0, m0),
   (18, .invokevirtual 85, 3, 0, 0, 735, m_Tokens_refuse),
   (21, .ifCond .eq 7, 3, 28, 0, 0, m0),
   (24, .nop, 0, 0, 0, 0, m0)]),
  (24, [], false, [(24, .iconst 1, 1, 0, 0, 0, m0),
   (25, .goto 4, 3, 29, 0, 0, m0)]),
  (28, [], false, [(28, .iconst 0, 1, 0, 0, 0, m0),
   (29, .nop, 0, 0, 0, 0, m0)]),
  (29, [], false, [(29, .ireturn, 1, 0, 0, 0, m0)])]
theorem ok_Tokens_standsSign : okBt m_Tokens_standsSign bt_Tokens_standsSign = true := by decide +kernel
set_option maxRecDepth 100000 in
theorem b_Tokens_standsSign_0 {l : Launch} {E : EnvT} {d : Nat} {K : AV → Mem → Prop} {M : Mem} {r : Nat} {x1 : Int32} (hd : 1 ≤ d)
  (h : ((¬ (iN (M r 0 3)) = (iN 3) →
   CT l E (d - 1) m_Tokens_refuse [(.ref r, 4), (.int (iN 2), 0)] M (fun v1 M1 =>
    (((toI v1) = 0 →
     ((((iN 0) = 0 ∨ (iN 0) = 1)) ∧ K (.int (iN 0), 0) M1)) ∧
    (¬ (toI v1) = 0 →
     ((((iN 1) = 0 ∨ (iN 1) = 1)) ∧ K (.int (iN 1), 0) M1))))) ∧
  ((iN (M r 0 3)) = (iN 3) →
   (((iN (M r 0 6)) = x1 →
    ((((iN 1) = 0 ∨ (iN 1) = 1)) ∧ K (.int (iN 1), 0) M)) ∧
   (¬ (iN (M r 0 6)) = x1 →
    CT l E (d - 1) m_Tokens_refuse [(.ref r, 4), (.int (iN 2), 0)] M (fun v2 M2 =>
     (((toI v2) = 0 →
      ((((iN 0) = 0 ∨ (iN 0) = 1)) ∧ K (.int (iN 0), 0) M2)) ∧
     (¬ (toI v2) = 0 →
      ((((iN 1) = 0 ∨ (iN 1) = 1)) ∧ K (.int (iN 1), 0) M2))))))))) :
  G l E d m_Tokens_standsSign 0 [(0, (.ref r, 4)), (1, (.int x1, 0))] [] M K := G.blk 60 _ hd ok_Tokens_standsSign rfl h
def bt_Tokens_takeSinger : BtT := [(0, [0, 1, 2], true, [(0, .aload_n 0, 1, 0, 0, 0, m0),
   (1, .invokevirtual 53, 3, 0, 0, 653, m_Tokens_advance),
   (4, .aload_n 0, 1, 0, 0, 0, m0),
   (5, .invokevirtual 96, 3, 0, 0, 792, m_Tokens_standsName),
   (8, .ifCond .ne 5, 3, 13, 0, 0, m0),
   (11, .nop, 0, 0, 0, 0, m0)]),
  (11, [], false, [(11, .iconst (-1), 1, 0, 0, 0, m0),
   (12, .ireturn, 1, 0, 0, 0, m0)]),
  (13, [], false, [(13, .aload_n 1, 1, 0, 0, 0, m0),
   (14, .aload_n 0, 1, 0, 0, 0, m0),
   (15, .getfield 40, 3, 9, 5, 163, m0),
   (18, .invokevirtual 100, 3, 0, 0, 793, m_Choir_find),
   (21, .istore_n 3, 1, 0, 0, 0, m0),
   (22, .iload_n 3, 1, 0, 0, 0, m0),
   (23, .iconst (-1), 1, 0, 0, 0, m0),
   (24, .if_icmp .ne 12, 3, 36, 0, 0, m0),
   (27, .nop, 0, 0, 0, 0, m0)]),
  (27, [], false, [(27, .aload_n 0, 1, 0, 0, 0, m0),
   (28, .iconst 3, 1, 0, 0, 0, m0),
   (29, .invokevirtual 85, 3, 0, 0, 735, m_Tokens_refuse),
   (32, .pop, 1, 0, 0, 0, m0),
   (33, .goto 16, 3, 49, 0, 0, m0)]),
  (36, [], false, [(36, .iload_n 3, 1, 0, 0, 0, m0),
   (37, .iload_n 2, 1, 0, 0, 0, m0),
   (38, .if_icmp .ne 11, 3, 49, 0, 0, m0),
   (41, .nop, 0, 0, 0, 0, m0)]),
  (41, [], false, [(41, .aload_n 0, 1, 0, 0, 0, m0),
   (42, .iconst 5, 1, 0, 0, 0, m0),
   (43, .invokevirtual 85, 3, 0, 0, 735, m_Tokens_refuse),
   (46, .pop, 1, 0, 0, 0, m0),
   (47, .iconst (-1), 1, 0, 0, 0, m0),
   (48, .istore_n 3, 1, 0, 0, 0, m0),
   (49, .nop, 0, 0, 0, 0, m0)]),
  (49, [], false, [(49, .iload_n 3, 1, 0, 0, 0, m0),
   (50, .ireturn, 1, 0, 0, 0, m0)])]
theorem ok_Tokens_takeSinger : okBt m_Tokens_takeSinger bt_Tokens_takeSinger = true := by decide +kernel
set_option maxRecDepth 100000 in
theorem b_Tokens_takeSinger_0 {l : Launch} {E : EnvT} {d : Nat} {K : AV → Mem → Prop} {M : Mem} {r r2 : Nat} {x2 : Int32} (hd : 1 ≤ d)
  (h : CT l E (d - 1) m_Tokens_advance [(.ref r, 4)] M (fun v1 M1 =>
   CT l E (d - 1) m_Tokens_standsName [(.ref r, 4)] M1 (fun v2 M2 =>
    ((¬ (toI v2) = 0 →
     CT l E (d - 1) m_Choir_find [(.ref r2, 11), (.long (lI (M2 r 0 9)), 0)] M2 (fun v3 M3 =>
      ((¬ (toI v3) = (iN (-1)) →
       ((¬ (toI v3) = x2 →
        K (.int (toI v3), 0) M3) ∧
       ((toI v3) = x2 →
        CT l E (d - 1) m_Tokens_refuse [(.ref r, 4), (.int (iN 5), 0)] M3 (fun v4 M4 =>
         K (.int (iN (-1)), 0) M4)))) ∧
      ((toI v3) = (iN (-1)) →
       CT l E (d - 1) m_Tokens_refuse [(.ref r, 4), (.int (iN 3), 0)] M3 (fun v5 M5 =>
        K (.int (toI v3), 0) M5))))) ∧
    ((toI v2) = 0 →
     K (.int (iN (-1)), 0) M2))))) :
  G l E d m_Tokens_takeSinger 0 [(0, (.ref r, 4)), (1, (.ref r2, 11)), (2, (.int x2, 0))] [] M K := G.blk 60 _ hd ok_Tokens_takeSinger rfl h
def bt_Tokens_takeSign : BtT := [(0, [0, 1], true, [(0, .aload_n 0, 1, 0, 0, 0, m0),
   (1, .invokevirtual 53, 3, 0, 0, 653, m_Tokens_advance),
   (4, .aload_n 0, 1, 0, 0, 0, m0),
   (5, .iload_n 1, 1, 0, 0, 0, m0),
   (6, .invokevirtual 89, 3, 0, 0, 818, m_Tokens_standsSign),
   (9, .ireturn, 1, 0, 0, 0, m0)])]
theorem ok_Tokens_takeSign : okBt m_Tokens_takeSign bt_Tokens_takeSign = true := by decide +kernel
set_option maxRecDepth 100000 in
theorem b_Tokens_takeSign_0 {l : Launch} {E : EnvT} {d : Nat} {K : AV → Mem → Prop} {M : Mem} {r : Nat} {x1 : Int32} (hd : 1 ≤ d)
  (h : CT l E (d - 1) m_Tokens_advance [(.ref r, 4)] M (fun v1 M1 =>
   CT l E (d - 1) m_Tokens_standsSign [(.ref r, 4), (.int x1, 0)] M1 (fun v2 M2 =>
    ((((toI v2) = 0 ∨ (toI v2) = 1)) ∧ K (.int (toI v2), 0) M2)))) :
  G l E d m_Tokens_takeSign 0 [(0, (.ref r, 4)), (1, (.int x1, 0))] [] M K := G.blk 60 _ hd ok_Tokens_takeSign rfl h
def bt_Tokens_takeCompares : BtT := [(0, [0], true, [(0, .aload_n 0, 1, 0, 0, 0, m0),
   (1, .invokevirtual 53, 3, 0, 0, 653, m_Tokens_advance),
   (4, .aload_n 0, 1, 0, 0, 0, m0),
   (5, .getfield 22, 3, 3, 5, 149, m0),
   (8, .iconst 3, 1, 0, 0, 0, m0),
   (9, .if_icmp .ne 12, 3, 21, 0, 0, m0),
   (12, .nop, 0, 0, 0, 0, m0)]),
  (12, [], false, [(12, .aload_n 0, 1, 0, 0, 0, m0),
   (13, .getfield 31, 3, 6, 5, 157, m0),
   (16, .bipush 59, 2, 0, 0, 0, m0),
   (18, .if_icmp .ne 11, 3, 29, 0, 0, m0),
   (21, .nop, 0, 0, 0, 0, m0)]),
  (21, [], false, [(21, .aload_n 0, 1, 0, 0, 0, m0),
   (22, .iconst 2, 1, 0, 0, 0, m0),
   (23, .invokevirtual 85, 3, 0, 0, 735, m_Tokens_refuse),
   (26, .ifCond .eq 7, 3, 33, 0, 0, m0),
   (29, .nop, 0, 0, 0, 0, m0)]),
  (29, [], false, [(29, .iconst 1, 1, 0, 0, 0, m0),
   (30, .goto 4, 3, 34, 0, 0, m0)]),
  (33, [], false, [(33, .iconst 0, 1, 0, 0, 0, m0),
   (34, .nop, 0, 0, 0, 0, m0)]),
  (34, [], false, [(34, .ireturn, 1, 0, 0, 0, m0)])]
theorem ok_Tokens_takeCompares : okBt m_Tokens_takeCompares bt_Tokens_takeCompares = true := by decide +kernel
set_option maxRecDepth 100000 in
theorem b_Tokens_takeCompares_0 {l : Launch} {E : EnvT} {d : Nat} {K : AV → Mem → Prop} {M : Mem} {r : Nat}  (hd : 1 ≤ d)
  (h : CT l E (d - 1) m_Tokens_advance [(.ref r, 4)] M (fun v1 M1 =>
   ((¬ (iN (M1 r 0 3)) = (iN 3) →
    CT l E (d - 1) m_Tokens_refuse [(.ref r, 4), (.int (iN 2), 0)] M1 (fun v2 M2 =>
     (((toI v2) = 0 →
      ((((iN 0) = 0 ∨ (iN 0) = 1)) ∧ K (.int (iN 0), 0) M2)) ∧
     (¬ (toI v2) = 0 →
      ((((iN 1) = 0 ∨ (iN 1) = 1)) ∧ K (.int (iN 1), 0) M2))))) ∧
   ((iN (M1 r 0 3)) = (iN 3) →
    ((¬ (iN (M1 r 0 6)) = (iN 59) →
     ((((iN 1) = 0 ∨ (iN 1) = 1)) ∧ K (.int (iN 1), 0) M1)) ∧
    ((iN (M1 r 0 6)) = (iN 59) →
     CT l E (d - 1) m_Tokens_refuse [(.ref r, 4), (.int (iN 2), 0)] M1 (fun v3 M3 =>
      (((toI v3) = 0 →
       ((((iN 0) = 0 ∨ (iN 0) = 1)) ∧ K (.int (iN 0), 0) M3)) ∧
      (¬ (toI v3) = 0 →
       ((((iN 1) = 0 ∨ (iN 1) = 1)) ∧ K (.int (iN 1), 0) M3)))))))))) :
  G l E d m_Tokens_takeCompares 0 [(0, (.ref r, 4))] [] M K := G.blk 60 _ hd ok_Tokens_takeCompares rfl h
end
section
def bt_CReader_isVoice : BtT := [(0, [0], true, [(0, .iload_n 0, 1, 0, 0, 0, m0),
   (1, .iconst 2, 1, 0, 0, 0, m0),
   (2, .if_icmp .eq 13, 3, 15, 0, 0, m0),
   (5, .nop, 0, 0, 0, 0, m0)]),
  (5, [], false, [(5, .iload_n 0, 1, 0, 0, 0, m0),
   (6, .iconst 3, 1, 0, 0, 0, m0),
   (7, .if_icmp .eq 8, 3, 15, 0, 0, m0),
   (10, .nop, 0, 0, 0, 0, m0)]),
  (10, [], false, [(10, .iload_n 0, 1, 0, 0, 0, m0),
   (11, .iconst 4, 1, 0, 0, 0, m0),
   (12, .if_icmp .ne 7, 3, 19, 0, 0, m0),
   (15, .nop, 0, 0, 0, 0, m0)]),
  (15, [], false, [(15, .iconst 1, 1, 0, 0, 0, m0),
   (16, .goto 4, 3, 20, 0, 0, m0)]),
  (19, [], false, [(19, .iconst 0, 1, 0, 0, 0, m0),
   (20, .nop, 0, 0, 0, 0, m0)]),
  (20, [], false, [(20, .ireturn, 1, 0, 0, 0, m0)])]
theorem ok_CReader_isVoice : okBt m_CReader_isVoice bt_CReader_isVoice = true := by decide +kernel
set_option maxRecDepth 100000 in
theorem b_CReader_isVoice_0 {l : Launch} {E : EnvT} {d : Nat} {K : AV → Mem → Prop} {M : Mem} {x0 : Int32} (hd : 1 ≤ d)
  (h : ((x0 = (iN 2) →
   ((((iN 1) = 0 ∨ (iN 1) = 1)) ∧ K (.int (iN 1), 0) M)) ∧
  (¬ x0 = (iN 2) →
   ((x0 = (iN 3) →
    ((((iN 1) = 0 ∨ (iN 1) = 1)) ∧ K (.int (iN 1), 0) M)) ∧
   (¬ x0 = (iN 3) →
    ((¬ x0 = (iN 4) →
     ((((iN 0) = 0 ∨ (iN 0) = 1)) ∧ K (.int (iN 0), 0) M)) ∧
    (x0 = (iN 4) →
     ((((iN 1) = 0 ∨ (iN 1) = 1)) ∧ K (.int (iN 1), 0) M)))))))) :
  G l E d m_CReader_isVoice 0 [(0, (.int x0, 0))] [] M K := G.blk 60 _ hd ok_CReader_isVoice rfl h
def bt_CReader_addVoice : BtT := [(0, [0, 1, 2], true, [(0, .iconst 1, 1, 0, 0, 0, m0),
   (1, .iload_n 2, 1, 0, 0, 0, m0),
   (2, .ishl, 1, 0, 0, 0, m0),
   (3, .istore_n 3, 1, 0, 0, 0, m0),
   (4, .aload_n 0, 1, 0, 0, 0, m0),
   (5, .getfield 12, 3, 0, 1, 191, m0),
   (8, .getfield 35, 3, 8, 5, 161, m0),
   (11, .iconst 2, 1, 0, 0, 0, m0),
   (12, .if_icmp .ne 22, 3, 34, 0, 0, m0),
   (15, .nop, 0, 0, 0, 0, m0)]),
  (15, [], false, [(15, .aload_n 1, 1, 0, 0, 0, m0),
   (16, .getfield 103, 3, 9, 0, 285, m0),
   (19, .istore 4, 2, 0, 0, 0, m0),
   (21, .aload_n 1, 1, 0, 0, 0, m0),
   (22, .dup, 1, 0, 0, 0, m0),
   (23, .getfield 103, 3, 9, 0, 285, m0),
   (26, .iload_n 3, 1, 0, 0, 0, m0),
   (27, .ior, 1, 0, 0, 0, m0),
   (28, .putfield 103, 3, 9, 0, 285, m0),
   (31, .goto 49, 3, 80, 0, 0, m0)]),
  (34, [], false, [(34, .aload_n 0, 1, 0, 0, 0, m0),
   (35, .getfield 12, 3, 0, 1, 191, m0),
   (38, .getfield 35, 3, 8, 5, 161, m0),
   (41, .iconst 3, 1, 0, 0, 0, m0),
   (42, .if_icmp .ne 22, 3, 64, 0, 0, m0),
   (45, .nop, 0, 0, 0, 0, m0)]),
  (45, [], false, [(45, .aload_n 1, 1, 0, 0, 0, m0),
   (46, .getfield 106, 3, 11, 0, 291, m0),
   (49, .istore 4, 2, 0, 0, 0, m0),
   (51, .aload_n 1, 1, 0, 0, 0, m0),
   (52, .dup, 1, 0, 0, 0, m0),
   (53, .getfield 106, 3, 11, 0, 291, m0),
   (56, .iload_n 3, 1, 0, 0, 0, m0),
   (57, .ior, 1, 0, 0, 0, m0),
   (58, .putfield 106, 3, 11, 0, 291, m0),
   (61, .goto 19, 3, 80, 0, 0, m0)]),
  (64, [], false, [(64, .aload_n 1, 1, 0, 0, 0, m0),
   (65, .getfield 109, 3, 10, 0, 288, m0),
   (68, .istore 4, 2, 0, 0, 0, m0),
   (70, .aload_n 1, 1, 0, 0, 0, m0),
   (71, .dup, 1, 0, 0, 0, m0),
   (72, .getfield 109, 3, 10, 0, 288, m0),
   (75, .iload_n 3, 1, 0, 0, 0, m0),
   (76, .ior, 1, 0, 0, 0, m0),
   (77, .putfield 109, 3, 10, 0, 288, m0),
   (80, .nop, 0, 0, 0, 0, m0)]),
  (80, [], false, [(80, .iload 4, 2, 0, 0, 0, m0),
   (82, .iload_n 3, 1, 0, 0, 0, m0),
   (83, .iand, 1, 0, 0, 0, m0),
   (84, .ifCond .ne 7, 3, 91, 0, 0, m0),
   (87, .nop, 0, 0, 0, 0, m0)]),
  (87, [], false, [(87, .iconst 1, 1, 0, 0, 0, m0),
   (88, .goto 4, 3, 92, 0, 0, m0)]),
  (91, [], false, [(91, .iconst 0, 1, 0, 0, 0, m0),
   (92, .nop, 0, 0, 0, 0, m0)]),
  (92, [], false, [(92, .ireturn, 1, 0, 0, 0, m0)])]
theorem ok_CReader_addVoice : okBt m_CReader_addVoice bt_CReader_addVoice = true := by decide +kernel
set_option maxRecDepth 100000 in
theorem b_CReader_addVoice_0 {l : Launch} {E : EnvT} {d : Nat} {K : AV → Mem → Prop} {M : Mem} {r2 : Nat} {x2 : Int32} (hd : 1 ≤ d)
  (h : ((¬ (iN (M 2 0 8)) = (iN 2) →
   ((¬ (iN (M 2 0 8)) = (iN 3) →
    ((¬ ((iN (M r2 0 10)) &&& ((iN 1) <<< (x2 &&& 31))) = 0 →
     ((((iN 0) = 0 ∨ (iN 0) = 1)) ∧ K (.int (iN 0), 0) (upd3 M r2 0 10 (((iN (M r2 0 10)) ||| ((iN 1) <<< (x2 &&& 31)))).toInt))) ∧
    (((iN (M r2 0 10)) &&& ((iN 1) <<< (x2 &&& 31))) = 0 →
     ((((iN 1) = 0 ∨ (iN 1) = 1)) ∧ K (.int (iN 1), 0) (upd3 M r2 0 10 (((iN (M r2 0 10)) ||| ((iN 1) <<< (x2 &&& 31)))).toInt))))) ∧
   ((iN (M 2 0 8)) = (iN 3) →
    ((¬ ((iN (M r2 0 11)) &&& ((iN 1) <<< (x2 &&& 31))) = 0 →
     ((((iN 0) = 0 ∨ (iN 0) = 1)) ∧ K (.int (iN 0), 0) (upd3 M r2 0 11 (((iN (M r2 0 11)) ||| ((iN 1) <<< (x2 &&& 31)))).toInt))) ∧
    (((iN (M r2 0 11)) &&& ((iN 1) <<< (x2 &&& 31))) = 0 →
     ((((iN 1) = 0 ∨ (iN 1) = 1)) ∧ K (.int (iN 1), 0) (upd3 M r2 0 11 (((iN (M r2 0 11)) ||| ((iN 1) <<< (x2 &&& 31)))).toInt))))))) ∧
  ((iN (M 2 0 8)) = (iN 2) →
   ((¬ ((iN (M r2 0 9)) &&& ((iN 1) <<< (x2 &&& 31))) = 0 →
    ((((iN 0) = 0 ∨ (iN 0) = 1)) ∧ K (.int (iN 0), 0) (upd3 M r2 0 9 (((iN (M r2 0 9)) ||| ((iN 1) <<< (x2 &&& 31)))).toInt))) ∧
   (((iN (M r2 0 9)) &&& ((iN 1) <<< (x2 &&& 31))) = 0 →
    ((((iN 1) = 0 ∨ (iN 1) = 1)) ∧ K (.int (iN 1), 0) (upd3 M r2 0 9 (((iN (M r2 0 9)) ||| ((iN 1) <<< (x2 &&& 31)))).toInt))))))) :
  G l E d m_CReader_addVoice 0 [(0, (.ref 1, 3)), (1, (.ref r2, 11)), (2, (.int x2, 0))] [] M K := G.blk 60 _ hd ok_CReader_addVoice rfl h
def bt_CReader_readVoices : BtT := [(0, [0, 1, 2], true, [(0, .iconst 0, 1, 0, 0, 0, m0),
   (1, .istore_n 3, 1, 0, 0, 0, m0),
   (2, .nop, 0, 0, 0, 0, m0)]),
  (2, [0, 1, 2, 3], true, [(2, .iload_n 3, 1, 0, 0, 0, m0),
   (3, .iconst 3, 1, 0, 0, 0, m0),
   (4, .if_icmp .gt 49, 3, 53, 0, 0, m0),
   (7, .nop, 0, 0, 0, 0, m0)]),
  (7, [], false, [(7, .aload_n 0, 1, 0, 0, 0, m0),
   (8, .getfield 12, 3, 0, 1, 191, m0),
   (11, .getfield 35, 3, 8, 5, 161, m0),
   (14, .invokestatic 97, 3, 0, 0, 767, m_CReader_isVoice),
   (17, .ifCond .ne 5, 3, 22, 0, 0, m0),
   (20, .nop, 0, 0, 0, 0, m0)]),
  (20, [], false, [(20, .iconst 1, 1, 0, 0, 0, m0),
   (21, .ireturn, 1, 0, 0, 0, m0)]),
  (22, [], false, [(22, .aload_n 0, 1, 0, 0, 0, m0),
   (23, .aload_n 1, 1, 0, 0, 0, m0),
   (24, .iload_n 2, 1, 0, 0, 0, m0),
   (25, .invokevirtual 100, 3, 0, 0, 770, m_CReader_addVoice),
   (28, .ifCond .ne 12, 3, 40, 0, 0, m0),
   (31, .nop, 0, 0, 0, 0, m0)]),
  (31, [], false, [(31, .aload_n 0, 1, 0, 0, 0, m0),
   (32, .getfield 12, 3, 0, 1, 191, m0),
   (35, .iconst 5, 1, 0, 0, 0, m0),
   (36, .invokevirtual 51, 3, 0, 0, 726, m_Tokens_refuse),
   (39, .ireturn, 1, 0, 0, 0, m0)]),
  (40, [], false, [(40, .aload_n 0, 1, 0, 0, 0, m0),
   (41, .getfield 12, 3, 0, 1, 191, m0),
   (44, .invokevirtual 55, 3, 0, 0, 730, m_Tokens_advance),
   (47, .iinc 3 1, 3, 0, 0, 0, m0),
   (50, .goto (-48), 3, 2, 0, 0, m0)]),
  (53, [], false, [(53, .iconst 1, 1, 0, 0, 0, m0),
   (54, .ireturn, 1, 0, 0, 0, m0)])]
theorem ok_CReader_readVoices : okBt m_CReader_readVoices bt_CReader_readVoices = true := by decide +kernel
set_option maxRecDepth 100000 in
theorem b_CReader_readVoices_0 {l : Launch} {E : EnvT} {d : Nat} {K : AV → Mem → Prop} {M : Mem} {r2 : Nat} {x2 : Int32} (hd : 1 ≤ d)
  (h : G l E d m_CReader_readVoices 2 [(0, (.ref 1, 3)), (1, (.ref r2, 11)), (2, (.int x2, 0)), (3, (.int (iN 0), 0))] [] M K) :
  G l E d m_CReader_readVoices 0 [(0, (.ref 1, 3)), (1, (.ref r2, 11)), (2, (.int x2, 0))] [] M K := G.blk 60 _ hd ok_CReader_readVoices rfl h
set_option maxRecDepth 100000 in
theorem b_CReader_readVoices_2 {l : Launch} {E : EnvT} {d : Nat} {K : AV → Mem → Prop} {M : Mem} {r2 : Nat} {x2 : Int32} {x3 : Int32} (hd : 1 ≤ d)
  (h : (((iN 3) < x3 →
   ((((iN 1) = 0 ∨ (iN 1) = 1)) ∧ K (.int (iN 1), 0) M)) ∧
  (¬ (iN 3) < x3 →
   CT l E (d - 1) m_CReader_isVoice [(.int (iN (M 2 0 8)), 0)] M (fun v1 M1 =>
    ((¬ (toI v1) = 0 →
     CT l E (d - 1) m_CReader_addVoice [(.ref 1, 3), (.ref r2, 11), (.int x2, 0)] M1 (fun v2 M2 =>
      ((¬ (toI v2) = 0 →
       CT l E (d - 1) m_Tokens_advance [(.ref 2, 4)] M2 (fun v3 M3 =>
        G l E d m_CReader_readVoices 2 [(0, (.ref 1, 3)), (1, (.ref r2, 11)), (2, (.int x2, 0)), (3, (.int (x3 + iN 1), 0))] [] M3 K)) ∧
      ((toI v2) = 0 →
       CT l E (d - 1) m_Tokens_refuse [(.ref 2, 4), (.int (iN 5), 0)] M2 (fun v4 M4 =>
        ((((toI v4) = 0 ∨ (toI v4) = 1)) ∧ K (.int (toI v4), 0) M4)))))) ∧
    ((toI v1) = 0 →
     ((((iN 1) = 0 ∨ (iN 1) = 1)) ∧ K (.int (iN 1), 0) M1))))))) :
  G l E d m_CReader_readVoices 2 [(0, (.ref 1, 3)), (1, (.ref r2, 11)), (2, (.int x2, 0)), (3, (.int x3, 0))] [] M K := G.blk 60 _ hd ok_CReader_readVoices rfl h
def bt_CReader_readLine : BtT := [(0, [0, 1, 2], true, [(0, .aload_n 1, 1, 0, 0, 0, m0),
   (1, .getfield 112, 3, 3, 0, 270, m0),
   (4, .iload_n 2, 1, 0, 0, 0, m0),
   (5, .iconst 0, 1, 0, 0, 0, m0),
   (6, .iastore, 1, 0, 0, 0, m0),
   (7, .aload_n 0, 1, 0, 0, 0, m0),
   (8, .getfield 12, 3, 0, 1, 191, m0),
   (11, .invokevirtual 55, 3, 0, 0, 730, m_Tokens_advance),
   (14, .iconst 0, 1, 0, 0, 0, m0),
   (15, .istore_n 3, 1, 0, 0, 0, m0),
   (16, .nop, 0, 0, 0, 0, m0)]),
  (16, [0, 1, 2, 3], true, [(16, .iload_n 3, 1, 0, 0, 0, m0),
   (17, .bipush 6, 2, 0, 0, 0, m0),
   (19, .if_icmp .gt 76, 3, 95, 0, 0, m0),
   (22, .nop, 0, 0, 0, 0, m0)]),
  (22, [], false, [(22, .iload_n 3, 1, 0, 0, 0, m0),
   (23, .ifCond .le 16, 3, 39, 0, 0, m0),
   (26, .nop, 0, 0, 0, 0, m0)]),
  (26, [], false, [(26, .aload_n 0, 1, 0, 0, 0, m0),
   (27, .getfield 12, 3, 0, 1, 191, m0),
   (30, .getfield 31, 3, 3, 5, 150, m0),
   (33, .iconst 2, 1, 0, 0, 0, m0),
   (34, .if_icmp .eq 5, 3, 39, 0, 0, m0),
   (37, .nop, 0, 0, 0, 0, m0)]),
  (37, [], false, [(37, .iconst 1, 1, 0, 0, 0, m0),
   (38, .ireturn, 1, 0, 0, 0, m0)]),
  (39, [], false, [(39, .aload_n 0, 1, 0, 0, 0, m0),
   (40, .getfield 12, 3, 0, 1, 191, m0),
   (43, .iconst 0, 1, 0, 0, 0, m0),
   (44, .bipush 24, 2, 0, 0, 0, m0),
   (46, .invokevirtual 116, 3, 0, 0, 778, m_Tokens_standsNumber),
   (49, .ifCond .ne 5, 3, 54, 0, 0, m0),
   (52, .nop, 0, 0, 0, 0, m0)]),
  (52, [], false, [(52, .iconst 0, 1, 0, 0, 0, m0),
   (53, .ireturn, 1, 0, 0, 0, m0)]),
  (54, [], false, [(54, .iload_n 3, 1, 0, 0, 0, m0),
   (55, .bipush 6, 2, 0, 0, 0, m0),
   (57, .if_icmp .ne 13, 3, 70, 0, 0, m0),
   (60, .nop, 0, 0, 0, 0, m0)]),
  (60, [], false, [(60, .aload_n 0, 1, 0, 0, 0, m0),
   (61, .getfield 12, 3, 0, 1, 191, m0),
   (64, .bipush 6, 2, 0, 0, 0, m0),
   (66, .invokevirtual 51, 3, 0, 0, 726, m_Tokens_refuse),
   (69, .ireturn, 1, 0, 0, 0, m0)]),
  (70, [], false, [(70, .aload_n 1, 1, 0, 0, 0, m0),
   (71, .iload_n 2, 1, 0, 0, 0, m0),
   (72, .aload_n 0, 1, 0, 0, 0, m0),
   (73, .getfield 12, 3, 0, 1, 191, m0),
   (76, .getfield 80, 3, 5, 5, 155, m0),
   (79, .invokevirtual 119, 3, 0, 0, 779, m_Choir_addNote),
   (82, .aload_n 0, 1, 0, 0, 0, m0),
   (83, .getfield 12, 3, 0, 1, 191, m0),
   (86, .invokevirtual 55, 3, 0, 0, 730, m_Tokens_advance),
   (89, .iinc 3 1, 3, 0, 0, 0, m0),
   (92, .goto (-76), 3, 16, 0, 0, m0)]),
  (95, [], false, [(95, .iconst 1, 1, 0, 0, 0, m0),
   (96, .ireturn, 1, 0, 0, 0, m0)])]
theorem ok_CReader_readLine : okBt m_CReader_readLine bt_CReader_readLine = true := by decide +kernel
set_option maxRecDepth 100000 in
theorem b_CReader_readLine_0 {l : Launch} {E : EnvT} {d : Nat} {K : AV → Mem → Prop} {M : Mem} {r2 : Nat} {x2 : Int32} (hd : 1 ≤ d)
  (h : (vp_in x2 8 ∧ CT l E (d - 1) m_Tokens_advance [(.ref 2, 4)] (upd3 M r2 4 (x2).toNatClampNeg ((iN 0)).toInt) (fun v1 M1 =>
   G l E d m_CReader_readLine 16 [(0, (.ref 1, 3)), (1, (.ref r2, 11)), (2, (.int x2, 0)), (3, (.int (iN 0), 0))] [] M1 K))) :
  G l E d m_CReader_readLine 0 [(0, (.ref 1, 3)), (1, (.ref r2, 11)), (2, (.int x2, 0))] [] M K := G.blk 60 _ hd ok_CReader_readLine rfl h
set_option maxRecDepth 100000 in
theorem b_CReader_readLine_16 {l : Launch} {E : EnvT} {d : Nat} {K : AV → Mem → Prop} {M : Mem} {r2 : Nat} {x2 : Int32} {x3 : Int32} (hd : 1 ≤ d)
  (h : (((iN 6) < x3 →
   ((((iN 1) = 0 ∨ (iN 1) = 1)) ∧ K (.int (iN 1), 0) M)) ∧
  (¬ (iN 6) < x3 →
   ((x3 ≤ 0 →
    CT l E (d - 1) m_Tokens_standsNumber [(.ref 2, 4), (.int (iN 0), 0), (.int (iN 24), 0)] M (fun v1 M1 =>
     ((¬ (toI v1) = 0 →
      ((¬ x3 = (iN 6) →
       CT l E (d - 1) m_Choir_addNote [(.ref r2, 11), (.int x2, 0), (.int (iN (M1 2 0 5)), 0)] M1 (fun v2 M2 =>
        CT l E (d - 1) m_Tokens_advance [(.ref 2, 4)] M2 (fun v3 M3 =>
         G l E d m_CReader_readLine 16 [(0, (.ref 1, 3)), (1, (.ref r2, 11)), (2, (.int x2, 0)), (3, (.int (x3 + iN 1), 0))] [] M3 K))) ∧
      (x3 = (iN 6) →
       CT l E (d - 1) m_Tokens_refuse [(.ref 2, 4), (.int (iN 6), 0)] M1 (fun v4 M4 =>
        ((((toI v4) = 0 ∨ (toI v4) = 1)) ∧ K (.int (toI v4), 0) M4))))) ∧
     ((toI v1) = 0 →
      ((((iN 0) = 0 ∨ (iN 0) = 1)) ∧ K (.int (iN 0), 0) M1))))) ∧
   (¬ x3 ≤ 0 →
    (((iN (M 2 0 3)) = (iN 2) →
     CT l E (d - 1) m_Tokens_standsNumber [(.ref 2, 4), (.int (iN 0), 0), (.int (iN 24), 0)] M (fun v5 M5 =>
      ((¬ (toI v5) = 0 →
       ((¬ x3 = (iN 6) →
        CT l E (d - 1) m_Choir_addNote [(.ref r2, 11), (.int x2, 0), (.int (iN (M5 2 0 5)), 0)] M5 (fun v6 M6 =>
         CT l E (d - 1) m_Tokens_advance [(.ref 2, 4)] M6 (fun v7 M7 =>
          G l E d m_CReader_readLine 16 [(0, (.ref 1, 3)), (1, (.ref r2, 11)), (2, (.int x2, 0)), (3, (.int (x3 + iN 1), 0))] [] M7 K))) ∧
       (x3 = (iN 6) →
        CT l E (d - 1) m_Tokens_refuse [(.ref 2, 4), (.int (iN 6), 0)] M5 (fun v8 M8 =>
         ((((toI v8) = 0 ∨ (toI v8) = 1)) ∧ K (.int (toI v8), 0) M8))))) ∧
      ((toI v5) = 0 →
       ((((iN 0) = 0 ∨ (iN 0) = 1)) ∧ K (.int (iN 0), 0) M5))))) ∧
    (¬ (iN (M 2 0 3)) = (iN 2) →
     ((((iN 1) = 0 ∨ (iN 1) = 1)) ∧ K (.int (iN 1), 0) M)))))))) :
  G l E d m_CReader_readLine 16 [(0, (.ref 1, 3)), (1, (.ref r2, 11)), (2, (.int x2, 0)), (3, (.int x3, 0))] [] M K := G.blk 60 _ hd ok_CReader_readLine rfl h
def bt_CReader_readSinger : BtT := [(0, [0, 1], true, [(0, .aload_n 1, 1, 0, 0, 0, m0),
   (1, .getfield 58, 3, 8, 0, 282, m0),
   (4, .bipush 8, 2, 0, 0, 0, m0),
   (6, .if_icmp .lt 13, 3, 19, 0, 0, m0),
   (9, .nop, 0, 0, 0, 0, m0)]),
  (9, [], false, [(9, .aload_n 0, 1, 0, 0, 0, m0),
   (10, .getfield 12, 3, 0, 1, 191, m0),
   (13, .bipush 6, 2, 0, 0, 0, m0),
   (15, .invokevirtual 51, 3, 0, 0, 726, m_Tokens_refuse),
   (18, .ireturn, 1, 0, 0, 0, m0)]),
  (19, [], false, [(19, .aload_n 0, 1, 0, 0, 0, m0),
   (20, .getfield 12, 3, 0, 1, 191, m0),
   (23, .invokevirtual 55, 3, 0, 0, 730, m_Tokens_advance),
   (26, .aload_n 0, 1, 0, 0, 0, m0),
   (27, .getfield 12, 3, 0, 1, 191, m0),
   (30, .invokevirtual 61, 3, 0, 0, 731, m_Tokens_standsName),
   (33, .ifCond .ne 5, 3, 38, 0, 0, m0),
   (36, .nop, 0, 0, 0, 0, m0)]),
  (36, [], false, [(36, .iconst 0, 1, 0, 0, 0, m0),
   (37, .ireturn, 1, 0, 0, 0, m0)]),
  (38, [], false, [(38, .aload_n 1, 1, 0, 0, 0, m0),
   (39, .aload_n 0, 1, 0, 0, 0, m0),
   (40, .getfield 12, 3, 0, 1, 191, m0),
   (43, .getfield 65, 3, 9, 5, 164, m0),
   (46, .invokevirtual 69, 3, 0, 0, 736, m_Choir_find),
   (49, .iconst (-1), 1, 0, 0, 0, m0),
   (50, .if_icmp .eq 12, 3, 62, 0, 0, m0),
   (53, .nop, 0, 0, 0, 0, m0)]),
  (53, [], false, [(53, .aload_n 0, 1, 0, 0, 0, m0),
   (54, .getfield 12, 3, 0, 1, 191, m0),
   (57, .iconst 3, 1, 0, 0, 0, m0),
   (58, .invokevirtual 51, 3, 0, 0, 726, m_Tokens_refuse),
   (61, .ireturn, 1, 0, 0, 0, m0)]),
  (62, [], false, [(62, .aload_n 0, 1, 0, 0, 0, m0),
   (63, .getfield 12, 3, 0, 1, 191, m0),
   (66, .getfield 65, 3, 9, 5, 164, m0),
   (69, .lstore_n 2, 1, 0, 0, 0, m0),
   (70, .aload_n 0, 1, 0, 0, 0, m0),
   (71, .getfield 12, 3, 0, 1, 191, m0),
   (74, .iconst 1, 1, 0, 0, 0, m0),
   (75, .invokevirtual 73, 3, 0, 0, 740, m_Tokens_takeKeyword),
   (78, .ifCond .eq 17, 3, 95, 0, 0, m0),
   (81, .nop, 0, 0, 0, 0, m0)]),
  (81, [], false, [(81, .aload_n 0, 1, 0, 0, 0, m0),
   (82, .getfield 12, 3, 0, 1, 191, m0),
   (85, .iconst 0, 1, 0, 0, 0, m0),
   (86, .sipush 999, 3, 0, 0, 0, m0),
   (89, .invokevirtual 76, 3, 0, 0, 744, m_Tokens_takeNumber),
   (92, .ifCond .ne 5, 3, 97, 0, 0, m0),
   (95, .nop, 0, 0, 0, 0, m0)]),
  (95, [], false, [(95, .iconst 0, 1, 0, 0, 0, m0),
   (96, .ireturn, 1, 0, 0, 0, m0)]),
  (97, [], false, [(97, .aload_n 1, 1, 0, 0, 0, m0),
   (98, .lload_n 2, 1, 0, 0, 0, m0),
   (99, .aload_n 0, 1, 0, 0, 0, m0),
   (100, .getfield 12, 3, 0, 1, 191, m0),
   (103, .getfield 80, 3, 5, 5, 155, m0),
   (106, .invokevirtual 83, 3, 0, 0, 752, m_Choir_addSinger),
   (109, .istore 4, 2, 0, 0, 0, m0),
   (111, .aload_n 0, 1, 0, 0, 0, m0),
   (112, .getfield 12, 3, 0, 1, 191, m0),
   (115, .invokevirtual 55, 3, 0, 0, 730, m_Tokens_advance),
   (118, .aload_n 0, 1, 0, 0, 0, m0),
   (119, .aload_n 1, 1, 0, 0, 0, m0),
   (120, .iload 4, 2, 0, 0, 0, m0),
   (122, .invokevirtual 87, 3, 0, 0, 763, m_CReader_readVoices),
   (125, .ifCond .ne 5, 3, 130, 0, 0, m0),
   (128, .nop, 0, 0, 0, 0, m0)]),
  (128, [], false, [(128, .iconst 0, 1, 0, 0, 0, m0),
   (129, .ireturn, 1, 0, 0, 0, m0)]),
  (130, [], false, [(130, .aload_n 0, 1, 0, 0, 0, m0),
   (131, .getfield 12, 3, 0, 1, 191, m0),
   (134, .getfield 35, 3, 8, 5, 161, m0),
   (137, .iconst 5, 1, 0, 0, 0, m0),
   (138, .if_icmp .ne 15, 3, 153, 0, 0, m0),
   (141, .nop, 0, 0, 0, 0, m0)]),
  (141, [], false, [(141, .aload_n 0, 1, 0, 0, 0, m0),
   (142, .aload_n 1, 1, 0, 0, 0, m0),
   (143, .iload 4, 2, 0, 0, 0, m0),
   (145, .invokevirtual 91, 3, 0, 0, 774, m_CReader_readLine),
   (148, .ifCond .ne 5, 3, 153, 0, 0, m0),
   (151, .nop, 0, 0, 0, 0, m0)]),
  (151, [], false, [(151, .iconst 0, 1, 0, 0, 0, m0),
   (152, .ireturn, 1, 0, 0, 0, m0)]),
  (153, [], false, [(153, .aload_n 0, 1, 0, 0, 0, m0),
   (154, .getfield 12, 3, 0, 1, 191, m0),
   (157, .bipush 59, 2, 0, 0, 0, m0),
   (159, .invokevirtual 94, 3, 0, 0, 780, m_Tokens_standsSign),
   (162, .ireturn, 1, 0, 0, 0, m0)])]
theorem ok_CReader_readSinger : okBt m_CReader_readSinger bt_CReader_readSinger = true := by decide +kernel
set_option maxRecDepth 100000 in
theorem b_CReader_readSinger_0 {l : Launch} {E : EnvT} {d : Nat} {K : AV → Mem → Prop} {M : Mem} {r2 : Nat}  (hd : 1 ≤ d)
  (h : (((iN (M r2 0 8)) < (iN 8) →
   CT l E (d - 1) m_Tokens_advance [(.ref 2, 4)] M (fun v1 M1 =>
    CT l E (d - 1) m_Tokens_standsName [(.ref 2, 4)] M1 (fun v2 M2 =>
     ((¬ (toI v2) = 0 →
      CT l E (d - 1) m_Choir_find [(.ref r2, 11), (.long (lI (M2 2 0 9)), 0)] M2 (fun v3 M3 =>
       (((toI v3) = (iN (-1)) →
        CT l E (d - 1) m_Tokens_takeKeyword [(.ref 2, 4), (.int (iN 1), 0)] M3 (fun v4 M4 =>
         (((toI v4) = 0 →
          ((((iN 0) = 0 ∨ (iN 0) = 1)) ∧ K (.int (iN 0), 0) M4)) ∧
         (¬ (toI v4) = 0 →
          CT l E (d - 1) m_Tokens_takeNumber [(.ref 2, 4), (.int (iN 0), 0), (.int (iN 999), 0)] M4 (fun v5 M5 =>
           ((¬ (toI v5) = 0 →
            CT l E (d - 1) m_Choir_addSinger [(.ref r2, 11), (.long (lI (M3 2 0 9)), 0), (.int (iN (M5 2 0 5)), 0)] M5 (fun v6 M6 =>
             CT l E (d - 1) m_Tokens_advance [(.ref 2, 4)] M6 (fun v7 M7 =>
              CT l E (d - 1) m_CReader_readVoices [(.ref 1, 3), (.ref r2, 11), (.int (toI v6), 0)] M7 (fun v8 M8 =>
               ((¬ (toI v8) = 0 →
                ((¬ (iN (M8 2 0 8)) = (iN 5) →
                 CT l E (d - 1) m_Tokens_standsSign [(.ref 2, 4), (.int (iN 59), 0)] M8 (fun v9 M9 =>
                  ((((toI v9) = 0 ∨ (toI v9) = 1)) ∧ K (.int (toI v9), 0) M9))) ∧
                ((iN (M8 2 0 8)) = (iN 5) →
                 CT l E (d - 1) m_CReader_readLine [(.ref 1, 3), (.ref r2, 11), (.int (toI v6), 0)] M8 (fun v10 M10 =>
                  ((¬ (toI v10) = 0 →
                   CT l E (d - 1) m_Tokens_standsSign [(.ref 2, 4), (.int (iN 59), 0)] M10 (fun v11 M11 =>
                    ((((toI v11) = 0 ∨ (toI v11) = 1)) ∧ K (.int (toI v11), 0) M11))) ∧
                  ((toI v10) = 0 →
                   ((((iN 0) = 0 ∨ (iN 0) = 1)) ∧ K (.int (iN 0), 0) M10))))))) ∧
               ((toI v8) = 0 →
                ((((iN 0) = 0 ∨ (iN 0) = 1)) ∧ K (.int (iN 0), 0) M8))))))) ∧
           ((toI v5) = 0 →
            ((((iN 0) = 0 ∨ (iN 0) = 1)) ∧ K (.int (iN 0), 0) M5)))))))) ∧
       (¬ (toI v3) = (iN (-1)) →
        CT l E (d - 1) m_Tokens_refuse [(.ref 2, 4), (.int (iN 3), 0)] M3 (fun v12 M12 =>
         ((((toI v12) = 0 ∨ (toI v12) = 1)) ∧ K (.int (toI v12), 0) M12)))))) ∧
     ((toI v2) = 0 →
      ((((iN 0) = 0 ∨ (iN 0) = 1)) ∧ K (.int (iN 0), 0) M2)))))) ∧
  (¬ (iN (M r2 0 8)) < (iN 8) →
   CT l E (d - 1) m_Tokens_refuse [(.ref 2, 4), (.int (iN 6), 0)] M (fun v13 M13 =>
    ((((toI v13) = 0 ∨ (toI v13) = 1)) ∧ K (.int (toI v13), 0) M13))))) :
  G l E d m_CReader_readSinger 0 [(0, (.ref 1, 3)), (1, (.ref r2, 11))] [] M K := G.blk 60 _ hd ok_CReader_readSinger rfl h
def bt_CReader_readOwes : BtT := [(0, [0, 1], true, [(0, .aload_n 0, 1, 0, 0, 0, m0),
   (1, .getfield 12, 3, 0, 1, 191, m0),
   (4, .aload_n 1, 1, 0, 0, 0, m0),
   (5, .iconst (-1), 1, 0, 0, 0, m0),
   (6, .invokevirtual 123, 3, 0, 0, 788, m_Tokens_takeSinger),
   (9, .istore_n 2, 1, 0, 0, 0, m0),
   (10, .iload_n 2, 1, 0, 0, 0, m0),
   (11, .iconst (-1), 1, 0, 0, 0, m0),
   (12, .if_icmp .ne 5, 3, 17, 0, 0, m0),
   (15, .nop, 0, 0, 0, 0, m0)]),
  (15, [], false, [(15, .iconst 0, 1, 0, 0, 0, m0),
   (16, .ireturn, 1, 0, 0, 0, m0)]),
  (17, [], false, [(17, .aload_n 0, 1, 0, 0, 0, m0),
   (18, .getfield 12, 3, 0, 1, 191, m0),
   (21, .aload_n 1, 1, 0, 0, 0, m0),
   (22, .iload_n 2, 1, 0, 0, 0, m0),
   (23, .invokevirtual 123, 3, 0, 0, 788, m_Tokens_takeSinger),
   (26, .istore_n 3, 1, 0, 0, 0, m0),
   (27, .iload_n 3, 1, 0, 0, 0, m0),
   (28, .iconst (-1), 1, 0, 0, 0, m0),
   (29, .if_icmp .eq 16, 3, 45, 0, 0, m0),
   (32, .nop, 0, 0, 0, 0, m0)]),
  (32, [], false, [(32, .aload_n 0, 1, 0, 0, 0, m0),
   (33, .getfield 12, 3, 0, 1, 191, m0),
   (36, .iconst 1, 1, 0, 0, 0, m0),
   (37, .bipush 99, 2, 0, 0, 0, m0),
   (39, .invokevirtual 76, 3, 0, 0, 744, m_Tokens_takeNumber),
   (42, .ifCond .ne 5, 3, 47, 0, 0, m0),
   (45, .nop, 0, 0, 0, 0, m0)]),
  (45, [], false, [(45, .iconst 0, 1, 0, 0, 0, m0),
   (46, .ireturn, 1, 0, 0, 0, m0)]),
  (47, [], false, [(47, .aload_n 1, 1, 0, 0, 0, m0),
   (48, .iload_n 2, 1, 0, 0, 0, m0),
   (49, .iload_n 3, 1, 0, 0, 0, m0),
   (50, .aload_n 0, 1, 0, 0, 0, m0),
   (51, .getfield 12, 3, 0, 1, 191, m0),
   (54, .getfield 80, 3, 5, 5, 155, m0),
   (57, .invokevirtual 127, 3, 0, 0, 794, m_Choir_owe),
   (60, .ifCond .ne 13, 3, 73, 0, 0, m0),
   (63, .nop, 0, 0, 0, 0, m0)]),
  (63, [], false, [(63, .aload_n 0, 1, 0, 0, 0, m0),
   (64, .getfield 12, 3, 0, 1, 191, m0),
   (67, .bipush 6, 2, 0, 0, 0, m0),
   (69, .invokevirtual 51, 3, 0, 0, 726, m_Tokens_refuse),
   (72, .ireturn, 1, 0, 0, 0, m0)]),
  (73, [], false, [(73, .aload_n 0, 1, 0, 0, 0, m0),
   (74, .getfield 12, 3, 0, 1, 191, m0),
   (77, .bipush 59, 2, 0, 0, 0, m0),
   (79, .invokevirtual 131, 3, 0, 0, 814, m_Tokens_takeSign),
   (82, .ireturn, 1, 0, 0, 0, m0)])]
theorem ok_CReader_readOwes : okBt m_CReader_readOwes bt_CReader_readOwes = true := by decide +kernel
set_option maxRecDepth 100000 in
theorem b_CReader_readOwes_0 {l : Launch} {E : EnvT} {d : Nat} {K : AV → Mem → Prop} {M : Mem} {r2 : Nat}  (hd : 1 ≤ d)
  (h : CT l E (d - 1) m_Tokens_takeSinger [(.ref 2, 4), (.ref r2, 11), (.int (iN (-1)), 0)] M (fun v1 M1 =>
   ((¬ (toI v1) = (iN (-1)) →
    CT l E (d - 1) m_Tokens_takeSinger [(.ref 2, 4), (.ref r2, 11), (.int (toI v1), 0)] M1 (fun v2 M2 =>
     (((toI v2) = (iN (-1)) →
      ((((iN 0) = 0 ∨ (iN 0) = 1)) ∧ K (.int (iN 0), 0) M2)) ∧
     (¬ (toI v2) = (iN (-1)) →
      CT l E (d - 1) m_Tokens_takeNumber [(.ref 2, 4), (.int (iN 1), 0), (.int (iN 99), 0)] M2 (fun v3 M3 =>
       ((¬ (toI v3) = 0 →
        CT l E (d - 1) m_Choir_owe [(.ref r2, 11), (.int (toI v1), 0), (.int (toI v2), 0), (.int (iN (M3 2 0 5)), 0)] M3 (fun v4 M4 =>
         ((¬ (toI v4) = 0 →
          CT l E (d - 1) m_Tokens_takeSign [(.ref 2, 4), (.int (iN 59), 0)] M4 (fun v5 M5 =>
           ((((toI v5) = 0 ∨ (toI v5) = 1)) ∧ K (.int (toI v5), 0) M5))) ∧
         ((toI v4) = 0 →
          CT l E (d - 1) m_Tokens_refuse [(.ref 2, 4), (.int (iN 6), 0)] M4 (fun v6 M6 =>
           ((((toI v6) = 0 ∨ (toI v6) = 1)) ∧ K (.int (toI v6), 0) M6)))))) ∧
       ((toI v3) = 0 →
        ((((iN 0) = 0 ∨ (iN 0) = 1)) ∧ K (.int (iN 0), 0) M3)))))))) ∧
   ((toI v1) = (iN (-1)) →
    ((((iN 0) = 0 ∨ (iN 0) = 1)) ∧ K (.int (iN 0), 0) M1))))) :
  G l E d m_CReader_readOwes 0 [(0, (.ref 1, 3)), (1, (.ref r2, 11))] [] M K := G.blk 60 _ hd ok_CReader_readOwes rfl h
def bt_CReader_readHeir : BtT := [(0, [0, 1], true, [(0, .aload_n 0, 1, 0, 0, 0, m0),
   (1, .getfield 12, 3, 0, 1, 191, m0),
   (4, .aload_n 1, 1, 0, 0, 0, m0),
   (5, .iconst (-1), 1, 0, 0, 0, m0),
   (6, .invokevirtual 123, 3, 0, 0, 788, m_Tokens_takeSinger),
   (9, .istore_n 2, 1, 0, 0, 0, m0),
   (10, .iload_n 2, 1, 0, 0, 0, m0),
   (11, .iconst (-1), 1, 0, 0, 0, m0),
   (12, .if_icmp .ne 5, 3, 17, 0, 0, m0),
   (15, .nop, 0, 0, 0, 0, m0)]),
  (15, [], false, [(15, .iconst 0, 1, 0, 0, 0, m0),
   (16, .ireturn, 1, 0, 0, 0, m0)]),
  (17, [], false, [(17, .aload_n 0, 1, 0, 0, 0, m0),
   (18, .getfield 12, 3, 0, 1, 191, m0),
   (21, .aload_n 1, 1, 0, 0, 0, m0),
   (22, .iload_n 2, 1, 0, 0, 0, m0),
   (23, .invokevirtual 123, 3, 0, 0, 788, m_Tokens_takeSinger),
   (26, .istore_n 3, 1, 0, 0, 0, m0),
   (27, .iload_n 3, 1, 0, 0, 0, m0),
   (28, .iconst (-1), 1, 0, 0, 0, m0),
   (29, .if_icmp .ne 5, 3, 34, 0, 0, m0),
   (32, .nop, 0, 0, 0, 0, m0)]),
  (32, [], false, [(32, .iconst 0, 1, 0, 0, 0, m0),
   (33, .ireturn, 1, 0, 0, 0, m0)]),
  (34, [], false, [(34, .aload_n 1, 1, 0, 0, 0, m0),
   (35, .getfield 134, 3, 2, 0, 267, m0),
   (38, .iload_n 2, 1, 0, 0, 0, m0),
   (39, .iload_n 3, 1, 0, 0, 0, m0),
   (40, .iastore, 1, 0, 0, 0, m0),
   (41, .aload_n 0, 1, 0, 0, 0, m0),
   (42, .getfield 12, 3, 0, 1, 191, m0),
   (45, .bipush 59, 2, 0, 0, 0, m0),
   (47, .invokevirtual 131, 3, 0, 0, 814, m_Tokens_takeSign),
   (50, .ireturn, 1, 0, 0, 0, m0)])]
theorem ok_CReader_readHeir : okBt m_CReader_readHeir bt_CReader_readHeir = true := by decide +kernel
set_option maxRecDepth 100000 in
theorem b_CReader_readHeir_0 {l : Launch} {E : EnvT} {d : Nat} {K : AV → Mem → Prop} {M : Mem} {r2 : Nat}  (hd : 1 ≤ d)
  (h : CT l E (d - 1) m_Tokens_takeSinger [(.ref 2, 4), (.ref r2, 11), (.int (iN (-1)), 0)] M (fun v1 M1 =>
   ((¬ (toI v1) = (iN (-1)) →
    CT l E (d - 1) m_Tokens_takeSinger [(.ref 2, 4), (.ref r2, 11), (.int (toI v1), 0)] M1 (fun v2 M2 =>
     ((¬ (toI v2) = (iN (-1)) →
      (vp_in (toI v1) 8 ∧ CT l E (d - 1) m_Tokens_takeSign [(.ref 2, 4), (.int (iN 59), 0)] (upd3 M2 r2 3 ((toI v1)).toNatClampNeg ((toI v2)).toInt) (fun v3 M3 =>
       ((((toI v3) = 0 ∨ (toI v3) = 1)) ∧ K (.int (toI v3), 0) M3)))) ∧
     ((toI v2) = (iN (-1)) →
      ((((iN 0) = 0 ∨ (iN 0) = 1)) ∧ K (.int (iN 0), 0) M2))))) ∧
   ((toI v1) = (iN (-1)) →
    ((((iN 0) = 0 ∨ (iN 0) = 1)) ∧ K (.int (iN 0), 0) M1))))) :
  G l E d m_CReader_readHeir 0 [(0, (.ref 1, 3)), (1, (.ref r2, 11))] [] M K := G.blk 60 _ hd ok_CReader_readHeir rfl h
def bt_CReader_readHums : BtT := [(0, [0, 1], true, [(0, .aload_n 0, 1, 0, 0, 0, m0),
   (1, .getfield 18, 3, 1, 1, 193, m0),
   (4, .ifCond .eq 12, 3, 16, 0, 0, m0),
   (7, .nop, 0, 0, 0, 0, m0)]),
  (7, [], false, [(7, .aload_n 0, 1, 0, 0, 0, m0),
   (8, .getfield 12, 3, 0, 1, 191, m0),
   (11, .iconst 5, 1, 0, 0, 0, m0),
   (12, .invokevirtual 51, 3, 0, 0, 726, m_Tokens_refuse),
   (15, .ireturn, 1, 0, 0, 0, m0)]),
  (16, [], false, [(16, .aload_n 0, 1, 0, 0, 0, m0),
   (17, .iconst 1, 1, 0, 0, 0, m0),
   (18, .putfield 18, 3, 1, 1, 193, m0),
   (21, .aload_n 0, 1, 0, 0, 0, m0),
   (22, .getfield 12, 3, 0, 1, 191, m0),
   (25, .iconst 0, 1, 0, 0, 0, m0),
   (26, .bipush 50, 2, 0, 0, 0, m0),
   (28, .invokevirtual 76, 3, 0, 0, 744, m_Tokens_takeNumber),
   (31, .ifCond .ne 5, 3, 36, 0, 0, m0),
   (34, .nop, 0, 0, 0, 0, m0)]),
  (34, [], false, [(34, .iconst 0, 1, 0, 0, 0, m0),
   (35, .ireturn, 1, 0, 0, 0, m0)]),
  (36, [], false, [(36, .aload_n 1, 1, 0, 0, 0, m0),
   (37, .aload_n 0, 1, 0, 0, 0, m0),
   (38, .getfield 12, 3, 0, 1, 191, m0),
   (41, .getfield 80, 3, 5, 5, 155, m0),
   (44, .putfield 137, 3, 13, 0, 297, m0),
   (47, .aload_n 0, 1, 0, 0, 0, m0),
   (48, .getfield 12, 3, 0, 1, 191, m0),
   (51, .bipush 59, 2, 0, 0, 0, m0),
   (53, .invokevirtual 131, 3, 0, 0, 814, m_Tokens_takeSign),
   (56, .ireturn, 1, 0, 0, 0, m0)])]
theorem ok_CReader_readHums : okBt m_CReader_readHums bt_CReader_readHums = true := by decide +kernel
set_option maxRecDepth 100000 in
theorem b_CReader_readHums_0 {l : Launch} {E : EnvT} {d : Nat} {K : AV → Mem → Prop} {M : Mem} {r2 : Nat}  (hd : 1 ≤ d)
  (h : (((iN (M 1 0 1)) = 0 →
   (((iN 1) = 0 ∨ (iN 1) = 1) ∧ CT l E (d - 1) m_Tokens_takeNumber [(.ref 2, 4), (.int (iN 0), 0), (.int (iN 50), 0)] (upd3 M 1 0 1 ((iN 1)).toInt) (fun v1 M1 =>
    ((¬ (toI v1) = 0 →
     CT l E (d - 1) m_Tokens_takeSign [(.ref 2, 4), (.int (iN 59), 0)] (upd3 M1 r2 0 13 ((iN (M1 2 0 5))).toInt) (fun v2 M2 =>
      ((((toI v2) = 0 ∨ (toI v2) = 1)) ∧ K (.int (toI v2), 0) M2))) ∧
    ((toI v1) = 0 →
     ((((iN 0) = 0 ∨ (iN 0) = 1)) ∧ K (.int (iN 0), 0) M1)))))) ∧
  (¬ (iN (M 1 0 1)) = 0 →
   CT l E (d - 1) m_Tokens_refuse [(.ref 2, 4), (.int (iN 5), 0)] M (fun v3 M3 =>
    ((((toI v3) = 0 ∨ (toI v3) = 1)) ∧ K (.int (toI v3), 0) M3))))) :
  G l E d m_CReader_readHums 0 [(0, (.ref 1, 3)), (1, (.ref r2, 11))] [] M K := G.blk 60 _ hd ok_CReader_readHums rfl h
def bt_CReader_readAll : BtT := [(0, [0, 1, 2, 3], true, [(0, .aload_n 3, 1, 0, 0, 0, m0),
   (1, .invokevirtual 22, 3, 0, 0, 639, m_Choir_makeEmpty),
   (4, .aload_n 0, 1, 0, 0, 0, m0),
   (5, .iconst 0, 1, 0, 0, 0, m0),
   (6, .putfield 18, 3, 1, 1, 193, m0),
   (9, .aload_n 0, 1, 0, 0, 0, m0),
   (10, .getfield 12, 3, 0, 1, 191, m0),
   (13, .aload_n 1, 1, 0, 0, 0, m0),
   (14, .iload_n 2, 1, 0, 0, 0, m0),
   (15, .invokevirtual 27, 3, 0, 0, 646, m_Tokens_start),
   (18, .iconst 0, 1, 0, 0, 0, m0),
   (19, .istore 4, 2, 0, 0, 0, m0),
   (21, .nop, 0, 0, 0, 0, m0)]),
  (21, [0, 2, 3, 4], true, [(21, .iload 4, 2, 0, 0, 0, m0),
   (23, .iload_n 2, 1, 0, 0, 0, m0),
   (24, .if_icmp .gt 142, 3, 166, 0, 0, m0),
   (27, .nop, 0, 0, 0, 0, m0)]),
  (27, [], false, [(27, .aload_n 0, 1, 0, 0, 0, m0),
   (28, .getfield 12, 3, 0, 1, 191, m0),
   (31, .getfield 31, 3, 3, 5, 150, m0),
   (34, .ifCond .eq 132, 3, 166, 0, 0, m0),
   (37, .nop, 0, 0, 0, 0, m0)]),
  (37, [], false, [(37, .aload_n 0, 1, 0, 0, 0, m0),
   (38, .getfield 12, 3, 0, 1, 191, m0),
   (41, .getfield 35, 3, 8, 5, 161, m0),
   (44, .tableswitch 92 0 8 #[52, 92, 92, 92, 92, 92, 62, 72, 82], 52, 0, 0, 0, m0)]),
  (96, [], false, [(96, .aload_n 0, 1, 0, 0, 0, m0),
   (97, .aload_n 3, 1, 0, 0, 0, m0),
   (98, .invokevirtual 38, 3, 0, 0, 722, m_CReader_readSinger),
   (101, .istore 5, 2, 0, 0, 0, m0),
   (103, .goto 43, 3, 146, 0, 0, m0)]),
  (106, [], false, [(106, .aload_n 0, 1, 0, 0, 0, m0),
   (107, .aload_n 3, 1, 0, 0, 0, m0),
   (108, .invokevirtual 42, 3, 0, 0, 784, m_CReader_readOwes),
   (111, .istore 5, 2, 0, 0, 0, m0),
   (113, .goto 33, 3, 146, 0, 0, m0)]),
  (116, [], false, [(116, .aload_n 0, 1, 0, 0, 0, m0),
   (117, .aload_n 3, 1, 0, 0, 0, m0),
   (118, .invokevirtual 45, 3, 0, 0, 819, m_CReader_readHeir),
   (121, .istore 5, 2, 0, 0, 0, m0),
   (123, .goto 23, 3, 146, 0, 0, m0)]),
  (126, [], false, [(126, .aload_n 0, 1, 0, 0, 0, m0),
   (127, .aload_n 3, 1, 0, 0, 0, m0),
   (128, .invokevirtual 48, 3, 0, 0, 823, m_CReader_readHums),
   (131, .istore 5, 2, 0, 0, 0, m0),
   (133, .goto 13, 3, 146, 0, 0, m0)]),
  (136, [], false, [(136, .aload_n 0, 1, 0, 0, 0, m0),
   (137, .getfield 12, 3, 0, 1, 191, m0),
   (140, .iconst 2, 1, 0, 0, 0, m0),
   (141, .invokevirtual 51, 3, 0, 0, 726, m_Tokens_refuse),
   (144, .istore 5, 2, 0, 0, 0, m0),
   (146, .nop, 0, 0, 0, 0, m0)]),
  (146, [], false, [(146, .iload 5, 2, 0, 0, 0, m0),
   (148, .ifCond .ne 5, 3, 153, 0, 0, m0),
   (151, .nop, 0, 0, 0, 0, m0)]),
  (151, [], false, [(151, .iconst 0, 1, 0, 0, 0, m0),
   (152, .ireturn, 1, 0, 0, 0, m0)]),
  (153, [], false, [(153, .aload_n 0, 1, 0, 0, 0, m0),
   (154, .getfield 12, 3, 0, 1, 191, m0),
   (157, .invokevirtual 55, 3, 0, 0, 730, m_Tokens_advance),
   (160, .iinc 4 1, 3, 0, 0, 0, m0),
   (163, .goto (-142), 3, 21, 0, 0, m0)]),
  (166, [], false, [(166, .iconst 1, 1, 0, 0, 0, m0),
   (167, .ireturn, 1, 0, 0, 0, m0)])]
theorem ok_CReader_readAll : okBt m_CReader_readAll bt_CReader_readAll = true := by decide +kernel
set_option maxRecDepth 100000 in
theorem b_CReader_readAll_0 {l : Launch} {E : EnvT} {d : Nat} {K : AV → Mem → Prop} {M : Mem} {r3 : Nat} {x2 : Int32} (hd : 1 ≤ d)
  (h : CT l E (d - 1) m_Choir_makeEmpty [(.ref r3, 11)] M (fun v1 M1 =>
   (((iN 0) = 0 ∨ (iN 0) = 1) ∧ CT l E (d - 1) m_Tokens_start [(.ref 2, 4), (.ref 0, 2), (.int x2, 0)] (upd3 M1 1 0 1 ((iN 0)).toInt) (fun v2 M2 =>
    G l E d m_CReader_readAll 21 [(0, (.ref 1, 3)), (2, (.int x2, 0)), (3, (.ref r3, 11)), (4, (.int (iN 0), 0))] [] M2 K)))) :
  G l E d m_CReader_readAll 0 [(0, (.ref 1, 3)), (1, (.ref 0, 2)), (2, (.int x2, 0)), (3, (.ref r3, 11))] [] M K := G.blk 60 _ hd ok_CReader_readAll rfl h
set_option maxRecDepth 100000 in
theorem b_CReader_readAll_21 {l : Launch} {E : EnvT} {d : Nat} {K : AV → Mem → Prop} {M : Mem} {r3 : Nat} {x2 : Int32} {x4 : Int32} (hd : 1 ≤ d)
  (h : ((x2 < x4 →
   ((((iN 1) = 0 ∨ (iN 1) = 1)) ∧ K (.int (iN 1), 0) M)) ∧
  (¬ x2 < x4 →
   (((iN (M 2 0 3)) = 0 →
    ((((iN 1) = 0 ∨ (iN 1) = 1)) ∧ K (.int (iN 1), 0) M)) ∧
   (¬ (iN (M 2 0 3)) = 0 →
    (((iN (M 2 0 8)) = iN 0 →
     CT l E (d - 1) m_CReader_readSinger [(.ref 1, 3), (.ref r3, 11)] M (fun v19 M19 =>
      ((¬ (toI v19) = 0 →
       CT l E (d - 1) m_Tokens_advance [(.ref 2, 4)] M19 (fun v20 M20 =>
        G l E d m_CReader_readAll 21 [(0, (.ref 1, 3)), (2, (.int x2, 0)), (3, (.ref r3, 11)), (4, (.int (x4 + iN 1), 0))] [] M20 K)) ∧
      ((toI v19) = 0 →
       ((((iN 0) = 0 ∨ (iN 0) = 1)) ∧ K (.int (iN 0), 0) M19))))) ∧
    (¬ (iN (M 2 0 8)) = iN 0 →
     (((iN (M 2 0 8)) = iN 1 →
     CT l E (d - 1) m_Tokens_refuse [(.ref 2, 4), (.int (iN 2), 0)] M (fun v17 M17 =>
      ((¬ (toI v17) = 0 →
       CT l E (d - 1) m_Tokens_advance [(.ref 2, 4)] M17 (fun v18 M18 =>
        G l E d m_CReader_readAll 21 [(0, (.ref 1, 3)), (2, (.int x2, 0)), (3, (.ref r3, 11)), (4, (.int (x4 + iN 1), 0))] [] M18 K)) ∧
      ((toI v17) = 0 →
       ((((iN 0) = 0 ∨ (iN 0) = 1)) ∧ K (.int (iN 0), 0) M17))))) ∧
    (¬ (iN (M 2 0 8)) = iN 1 →
     (((iN (M 2 0 8)) = iN 2 →
     CT l E (d - 1) m_Tokens_refuse [(.ref 2, 4), (.int (iN 2), 0)] M (fun v15 M15 =>
      ((¬ (toI v15) = 0 →
       CT l E (d - 1) m_Tokens_advance [(.ref 2, 4)] M15 (fun v16 M16 =>
        G l E d m_CReader_readAll 21 [(0, (.ref 1, 3)), (2, (.int x2, 0)), (3, (.ref r3, 11)), (4, (.int (x4 + iN 1), 0))] [] M16 K)) ∧
      ((toI v15) = 0 →
       ((((iN 0) = 0 ∨ (iN 0) = 1)) ∧ K (.int (iN 0), 0) M15))))) ∧
    (¬ (iN (M 2 0 8)) = iN 2 →
     (((iN (M 2 0 8)) = iN 3 →
     CT l E (d - 1) m_Tokens_refuse [(.ref 2, 4), (.int (iN 2), 0)] M (fun v13 M13 =>
      ((¬ (toI v13) = 0 →
       CT l E (d - 1) m_Tokens_advance [(.ref 2, 4)] M13 (fun v14 M14 =>
        G l E d m_CReader_readAll 21 [(0, (.ref 1, 3)), (2, (.int x2, 0)), (3, (.ref r3, 11)), (4, (.int (x4 + iN 1), 0))] [] M14 K)) ∧
      ((toI v13) = 0 →
       ((((iN 0) = 0 ∨ (iN 0) = 1)) ∧ K (.int (iN 0), 0) M13))))) ∧
    (¬ (iN (M 2 0 8)) = iN 3 →
     (((iN (M 2 0 8)) = iN 4 →
     CT l E (d - 1) m_Tokens_refuse [(.ref 2, 4), (.int (iN 2), 0)] M (fun v11 M11 =>
      ((¬ (toI v11) = 0 →
       CT l E (d - 1) m_Tokens_advance [(.ref 2, 4)] M11 (fun v12 M12 =>
        G l E d m_CReader_readAll 21 [(0, (.ref 1, 3)), (2, (.int x2, 0)), (3, (.ref r3, 11)), (4, (.int (x4 + iN 1), 0))] [] M12 K)) ∧
      ((toI v11) = 0 →
       ((((iN 0) = 0 ∨ (iN 0) = 1)) ∧ K (.int (iN 0), 0) M11))))) ∧
    (¬ (iN (M 2 0 8)) = iN 4 →
     (((iN (M 2 0 8)) = iN 5 →
     CT l E (d - 1) m_Tokens_refuse [(.ref 2, 4), (.int (iN 2), 0)] M (fun v9 M9 =>
      ((¬ (toI v9) = 0 →
       CT l E (d - 1) m_Tokens_advance [(.ref 2, 4)] M9 (fun v10 M10 =>
        G l E d m_CReader_readAll 21 [(0, (.ref 1, 3)), (2, (.int x2, 0)), (3, (.ref r3, 11)), (4, (.int (x4 + iN 1), 0))] [] M10 K)) ∧
      ((toI v9) = 0 →
       ((((iN 0) = 0 ∨ (iN 0) = 1)) ∧ K (.int (iN 0), 0) M9))))) ∧
    (¬ (iN (M 2 0 8)) = iN 5 →
     (((iN (M 2 0 8)) = iN 6 →
     CT l E (d - 1) m_CReader_readOwes [(.ref 1, 3), (.ref r3, 11)] M (fun v7 M7 =>
      ((¬ (toI v7) = 0 →
       CT l E (d - 1) m_Tokens_advance [(.ref 2, 4)] M7 (fun v8 M8 =>
        G l E d m_CReader_readAll 21 [(0, (.ref 1, 3)), (2, (.int x2, 0)), (3, (.ref r3, 11)), (4, (.int (x4 + iN 1), 0))] [] M8 K)) ∧
      ((toI v7) = 0 →
       ((((iN 0) = 0 ∨ (iN 0) = 1)) ∧ K (.int (iN 0), 0) M7))))) ∧
    (¬ (iN (M 2 0 8)) = iN 6 →
     (((iN (M 2 0 8)) = iN 7 →
     CT l E (d - 1) m_CReader_readHeir [(.ref 1, 3), (.ref r3, 11)] M (fun v5 M5 =>
      ((¬ (toI v5) = 0 →
       CT l E (d - 1) m_Tokens_advance [(.ref 2, 4)] M5 (fun v6 M6 =>
        G l E d m_CReader_readAll 21 [(0, (.ref 1, 3)), (2, (.int x2, 0)), (3, (.ref r3, 11)), (4, (.int (x4 + iN 1), 0))] [] M6 K)) ∧
      ((toI v5) = 0 →
       ((((iN 0) = 0 ∨ (iN 0) = 1)) ∧ K (.int (iN 0), 0) M5))))) ∧
    (¬ (iN (M 2 0 8)) = iN 7 →
     (((iN (M 2 0 8)) = iN 8 →
     CT l E (d - 1) m_CReader_readHums [(.ref 1, 3), (.ref r3, 11)] M (fun v3 M3 =>
      ((¬ (toI v3) = 0 →
       CT l E (d - 1) m_Tokens_advance [(.ref 2, 4)] M3 (fun v4 M4 =>
        G l E d m_CReader_readAll 21 [(0, (.ref 1, 3)), (2, (.int x2, 0)), (3, (.ref r3, 11)), (4, (.int (x4 + iN 1), 0))] [] M4 K)) ∧
      ((toI v3) = 0 →
       ((((iN 0) = 0 ∨ (iN 0) = 1)) ∧ K (.int (iN 0), 0) M3))))) ∧
    (¬ (iN (M 2 0 8)) = iN 8 →
     CT l E (d - 1) m_Tokens_refuse [(.ref 2, 4), (.int (iN 2), 0)] M (fun v1 M1 =>
      ((¬ (toI v1) = 0 →
       CT l E (d - 1) m_Tokens_advance [(.ref 2, 4)] M1 (fun v2 M2 =>
        G l E d m_CReader_readAll 21 [(0, (.ref 1, 3)), (2, (.int x2, 0)), (3, (.ref r3, 11)), (4, (.int (x4 + iN 1), 0))] [] M2 K)) ∧
      ((toI v1) = 0 →
       ((((iN 0) = 0 ∨ (iN 0) = 1)) ∧ K (.int (iN 0), 0) M1))))))))))))))))))))))))))) :
  G l E d m_CReader_readAll 21 [(0, (.ref 1, 3)), (2, (.int x2, 0)), (3, (.ref r3, 11)), (4, (.int x4, 0))] [] M K := G.blk 60 _ hd ok_CReader_readAll rfl h
end
section
def bt_YReader_readEnd : BtT := [(0, [0, 1], true, [(0, .aload_n 0, 1, 0, 0, 0, m0),
   (1, .getfield 22, 3, 2, 9, 210, m0),
   (4, .ifCond .ne 12, 3, 16, 0, 0, m0),
   (7, .nop, 0, 0, 0, 0, m0)]),
  (7, [], false, [(7, .aload_n 0, 1, 0, 0, 0, m0),
   (8, .getfield 12, 3, 0, 9, 207, m0),
   (11, .iconst 2, 1, 0, 0, 0, m0),
   (12, .invokevirtual 56, 3, 0, 0, 853, m_Tokens_refuse),
   (15, .ireturn, 1, 0, 0, 0, m0)]),
  (16, [], false, [(16, .aload_n 0, 1, 0, 0, 0, m0),
   (17, .dup, 1, 0, 0, 0, m0),
   (18, .getfield 22, 3, 2, 9, 210, m0),
   (21, .iconst 1, 1, 0, 0, 0, m0),
   (22, .isub, 1, 0, 0, 0, m0),
   (23, .putfield 22, 3, 2, 9, 210, m0),
   (26, .aload_n 1, 1, 0, 0, 0, m0),
   (27, .aload_n 0, 1, 0, 0, 0, m0),
   (28, .getfield 18, 3, 1, 9, 209, m0),
   (31, .aload_n 0, 1, 0, 0, 0, m0),
   (32, .getfield 22, 3, 2, 9, 210, m0),
   (35, .iaload, 1, 0, 0, 0, m0),
   (36, .invokevirtual 60, 3, 0, 0, 854, m_Years_addEnd),
   (39, .aload_n 0, 1, 0, 0, 0, m0),
   (40, .getfield 12, 3, 0, 9, 207, m0),
   (43, .bipush 59, 2, 0, 0, 0, m0),
   (45, .invokevirtual 64, 3, 0, 0, 858, m_Tokens_takeSign),
   (48, .ireturn, 1, 0, 0, 0, m0)])]
theorem ok_YReader_readEnd : okBt m_YReader_readEnd bt_YReader_readEnd = true := by decide +kernel
set_option maxRecDepth 100000 in
theorem b_YReader_readEnd_0 {l : Launch} {E : EnvT} {d : Nat} {K : AV → Mem → Prop} {M : Mem} {r2 : Nat}  (hd : 1 ≤ d)
  (h : ((¬ (iN (M 3 0 2)) = 0 →
   (vp_in (iN ((upd3 M 3 0 2 (((iN (M 3 0 2)) - (iN 1))).toInt) 3 0 2)) 3 ∧ CT l E (d - 1) m_Years_addEnd [(.ref r2, 23), (.int (iN ((upd3 M 3 0 2 (((iN (M 3 0 2)) - (iN 1))).toInt) 3 1 ((iN ((upd3 M 3 0 2 (((iN (M 3 0 2)) - (iN 1))).toInt) 3 0 2))).toNatClampNeg)), 0)] (upd3 M 3 0 2 (((iN (M 3 0 2)) - (iN 1))).toInt) (fun v1 M1 =>
    CT l E (d - 1) m_Tokens_takeSign [(.ref 4, 4), (.int (iN 59), 0)] M1 (fun v2 M2 =>
     ((((toI v2) = 0 ∨ (toI v2) = 1)) ∧ K (.int (toI v2), 0) M2))))) ∧
  ((iN (M 3 0 2)) = 0 →
   CT l E (d - 1) m_Tokens_refuse [(.ref 4, 4), (.int (iN 2), 0)] M (fun v3 M3 =>
    ((((toI v3) = 0 ∨ (toI v3) = 1)) ∧ K (.int (toI v3), 0) M3))))) :
  G l E d m_YReader_readEnd 0 [(0, (.ref 3, 6)), (1, (.ref r2, 23))] [] M K := G.blk 60 _ hd ok_YReader_readEnd rfl h
def bt_YReader_beginsStep : BtT := [(0, [0], true, [(0, .iload_n 0, 1, 0, 0, 0, m0),
   (1, .tableswitch 93 3 21 #[91, 93, 93, 93, 93, 93, 91, 93, 91, 91, 91, 91, 91, 91, 93, 93, 91, 93, 91], 91, 0, 0, 0, m0)]),
  (92, [], false, [(92, .iconst 1, 1, 0, 0, 0, m0),
   (93, .ireturn, 1, 0, 0, 0, m0)]),
  (94, [], false, [(94, .iconst 0, 1, 0, 0, 0, m0),
   (95, .ireturn, 1, 0, 0, 0, m0)])]
theorem ok_YReader_beginsStep : okBt m_YReader_beginsStep bt_YReader_beginsStep = true := by decide +kernel
set_option maxRecDepth 100000 in
theorem b_YReader_beginsStep_0 {l : Launch} {E : EnvT} {d : Nat} {K : AV → Mem → Prop} {M : Mem} {x0 : Int32} (hd : 1 ≤ d)
  (h : ((x0 = iN 3 →
   ((((iN 1) = 0 ∨ (iN 1) = 1)) ∧ K (.int (iN 1), 0) M)) ∧
  (¬ x0 = iN 3 →
   ((x0 = iN 4 →
   ((((iN 0) = 0 ∨ (iN 0) = 1)) ∧ K (.int (iN 0), 0) M)) ∧
  (¬ x0 = iN 4 →
   ((x0 = iN 5 →
   ((((iN 0) = 0 ∨ (iN 0) = 1)) ∧ K (.int (iN 0), 0) M)) ∧
  (¬ x0 = iN 5 →
   ((x0 = iN 6 →
   ((((iN 0) = 0 ∨ (iN 0) = 1)) ∧ K (.int (iN 0), 0) M)) ∧
  (¬ x0 = iN 6 →
   ((x0 = iN 7 →
   ((((iN 0) = 0 ∨ (iN 0) = 1)) ∧ K (.int (iN 0), 0) M)) ∧
  (¬ x0 = iN 7 →
   ((x0 = iN 8 →
   ((((iN 0) = 0 ∨ (iN 0) = 1)) ∧ K (.int (iN 0), 0) M)) ∧
  (¬ x0 = iN 8 →
   ((x0 = iN 9 →
   ((((iN 1) = 0 ∨ (iN 1) = 1)) ∧ K (.int (iN 1), 0) M)) ∧
  (¬ x0 = iN 9 →
   ((x0 = iN 10 →
   ((((iN 0) = 0 ∨ (iN 0) = 1)) ∧ K (.int (iN 0), 0) M)) ∧
  (¬ x0 = iN 10 →
   ((x0 = iN 11 →
   ((((iN 1) = 0 ∨ (iN 1) = 1)) ∧ K (.int (iN 1), 0) M)) ∧
  (¬ x0 = iN 11 →
   ((x0 = iN 12 →
   ((((iN 1) = 0 ∨ (iN 1) = 1)) ∧ K (.int (iN 1), 0) M)) ∧
  (¬ x0 = iN 12 →
   ((x0 = iN 13 →
   ((((iN 1) = 0 ∨ (iN 1) = 1)) ∧ K (.int (iN 1), 0) M)) ∧
  (¬ x0 = iN 13 →
   ((x0 = iN 14 →
   ((((iN 1) = 0 ∨ (iN 1) = 1)) ∧ K (.int (iN 1), 0) M)) ∧
  (¬ x0 = iN 14 →
   ((x0 = iN 15 →
   ((((iN 1) = 0 ∨ (iN 1) = 1)) ∧ K (.int (iN 1), 0) M)) ∧
  (¬ x0 = iN 15 →
   ((x0 = iN 16 →
   ((((iN 1) = 0 ∨ (iN 1) = 1)) ∧ K (.int (iN 1), 0) M)) ∧
  (¬ x0 = iN 16 →
   ((x0 = iN 17 →
   ((((iN 0) = 0 ∨ (iN 0) = 1)) ∧ K (.int (iN 0), 0) M)) ∧
  (¬ x0 = iN 17 →
   ((x0 = iN 18 →
   ((((iN 0) = 0 ∨ (iN 0) = 1)) ∧ K (.int (iN 0), 0) M)) ∧
  (¬ x0 = iN 18 →
   ((x0 = iN 19 →
   ((((iN 1) = 0 ∨ (iN 1) = 1)) ∧ K (.int (iN 1), 0) M)) ∧
  (¬ x0 = iN 19 →
   ((x0 = iN 20 →
   ((((iN 0) = 0 ∨ (iN 0) = 1)) ∧ K (.int (iN 0), 0) M)) ∧
  (¬ x0 = iN 20 →
   ((x0 = iN 21 →
   ((((iN 1) = 0 ∨ (iN 1) = 1)) ∧ K (.int (iN 1), 0) M)) ∧
  (¬ x0 = iN 21 →
   ((((iN 0) = 0 ∨ (iN 0) = 1)) ∧ K (.int (iN 0), 0) M)))))))))))))))))))))))))))))))))))))))) :
  G l E d m_YReader_beginsStep 0 [(0, (.int x0, 0))] [] M K := G.blk 60 _ hd ok_YReader_beginsStep rfl h
def bt_YReader_readTestWord : BtT := [(0, [0, 1, 2], true, [(0, .aload_n 0, 1, 0, 0, 0, m0),
   (1, .getfield 12, 3, 0, 9, 207, m0),
   (4, .invokevirtual 49, 3, 0, 0, 874, m_Tokens_advance),
   (7, .aload_n 0, 1, 0, 0, 0, m0),
   (8, .getfield 12, 3, 0, 9, 207, m0),
   (11, .getfield 38, 3, 8, 5, 162, m0),
   (14, .istore_n 3, 1, 0, 0, 0, m0),
   (15, .aload_n 1, 1, 0, 0, 0, m0),
   (16, .getfield 85, 3, 0, 8, 344, m0),
   (19, .iload_n 2, 1, 0, 0, 0, m0),
   (20, .iload_n 3, 1, 0, 0, 0, m0),
   (21, .iastore, 1, 0, 0, 0, m0),
   (22, .iload_n 3, 1, 0, 0, 0, m0),
   (23, .bipush 17, 2, 0, 0, 0, m0),
   (25, .if_icmp .eq 14, 3, 39, 0, 0, m0),
   (28, .nop, 0, 0, 0, 0, m0)]),
  (28, [], false, [(28, .iload_n 3, 1, 0, 0, 0, m0),
   (29, .iconst 1, 1, 0, 0, 0, m0),
   (30, .if_icmp .eq 9, 3, 39, 0, 0, m0),
   (33, .nop, 0, 0, 0, 0, m0)]),
  (33, [], false, [(33, .iload_n 3, 1, 0, 0, 0, m0),
   (34, .bipush 18, 2, 0, 0, 0, m0),
   (36, .if_icmp .ne 7, 3, 43, 0, 0, m0),
   (39, .nop, 0, 0, 0, 0, m0)]),
  (39, [], false, [(39, .iconst 1, 1, 0, 0, 0, m0),
   (40, .goto 4, 3, 44, 0, 0, m0)]),
  (43, [], false, [(43, .iconst 0, 1, 0, 0, 0, m0),
   (44, .nop, 0, 0, 0, 0, m0)]),
  (44, [], false, [(44, .istore 4, 2, 0, 0, 0, m0),
   (46, .iload 4, 2, 0, 0, 0, m0),
   (48, .ifCond .ne 14, 3, 62, 0, 0, m0),
   (51, .nop, 0, 0, 0, 0, m0)]),
  (51, [], false, [(51, .aload_n 0, 1, 0, 0, 0, m0),
   (52, .getfield 12, 3, 0, 9, 207, m0),
   (55, .iconst 2, 1, 0, 0, 0, m0),
   (56, .invokevirtual 56, 3, 0, 0, 853, m_Tokens_refuse),
   (59, .ifCond .eq 7, 3, 66, 0, 0, m0),
   (62, .nop, 0, 0, 0, 0, m0)]),
  (62, [], false, [(62, .iconst 1, 1, 0, 0, 0, m0),
   (63, .goto 4, 3, 67, 0, 0, m0)]),
  (66, [], false, [(66, .iconst 0, 1, 0, 0, 0, m0),
   (67, .nop, 0, 0, 0, 0, m0)]),
  (67, [], false, [(67, .ireturn, 1, 0, 0, 0, m0)])]
theorem ok_YReader_readTestWord : okBt m_YReader_readTestWord bt_YReader_readTestWord = true := by decide +kernel
set_option maxRecDepth 100000 in
theorem b_YReader_readTestWord_0 {l : Launch} {E : EnvT} {d : Nat} {K : AV → Mem → Prop} {M : Mem} {r2 : Nat} {x2 : Int32} (hd : 1 ≤ d)
  (h : CT l E (d - 1) m_Tokens_advance [(.ref 4, 4)] M (fun v1 M1 =>
   (vp_in x2 60 ∧ (((iN (M1 4 0 8)) = (iN 17) →
    ((¬ (iN 1) = 0 →
     ((((iN 1) = 0 ∨ (iN 1) = 1)) ∧ K (.int (iN 1), 0) (upd3 M1 r2 1 (x2).toNatClampNeg ((iN (M1 4 0 8))).toInt))) ∧
    ((iN 1) = 0 →
     CT l E (d - 1) m_Tokens_refuse [(.ref 4, 4), (.int (iN 2), 0)] (upd3 M1 r2 1 (x2).toNatClampNeg ((iN (M1 4 0 8))).toInt) (fun v2 M2 =>
      (((toI v2) = 0 →
       ((((iN 0) = 0 ∨ (iN 0) = 1)) ∧ K (.int (iN 0), 0) M2)) ∧
      (¬ (toI v2) = 0 →
       ((((iN 1) = 0 ∨ (iN 1) = 1)) ∧ K (.int (iN 1), 0) M2))))))) ∧
   (¬ (iN (M1 4 0 8)) = (iN 17) →
    (((iN (M1 4 0 8)) = (iN 1) →
     ((¬ (iN 1) = 0 →
      ((((iN 1) = 0 ∨ (iN 1) = 1)) ∧ K (.int (iN 1), 0) (upd3 M1 r2 1 (x2).toNatClampNeg ((iN (M1 4 0 8))).toInt))) ∧
     ((iN 1) = 0 →
      CT l E (d - 1) m_Tokens_refuse [(.ref 4, 4), (.int (iN 2), 0)] (upd3 M1 r2 1 (x2).toNatClampNeg ((iN (M1 4 0 8))).toInt) (fun v3 M3 =>
       (((toI v3) = 0 →
        ((((iN 0) = 0 ∨ (iN 0) = 1)) ∧ K (.int (iN 0), 0) M3)) ∧
       (¬ (toI v3) = 0 →
        ((((iN 1) = 0 ∨ (iN 1) = 1)) ∧ K (.int (iN 1), 0) M3))))))) ∧
    (¬ (iN (M1 4 0 8)) = (iN 1) →
     ((¬ (iN (M1 4 0 8)) = (iN 18) →
      ((¬ (iN 0) = 0 →
       ((((iN 1) = 0 ∨ (iN 1) = 1)) ∧ K (.int (iN 1), 0) (upd3 M1 r2 1 (x2).toNatClampNeg ((iN (M1 4 0 8))).toInt))) ∧
      ((iN 0) = 0 →
       CT l E (d - 1) m_Tokens_refuse [(.ref 4, 4), (.int (iN 2), 0)] (upd3 M1 r2 1 (x2).toNatClampNeg ((iN (M1 4 0 8))).toInt) (fun v4 M4 =>
        (((toI v4) = 0 →
         ((((iN 0) = 0 ∨ (iN 0) = 1)) ∧ K (.int (iN 0), 0) M4)) ∧
        (¬ (toI v4) = 0 →
         ((((iN 1) = 0 ∨ (iN 1) = 1)) ∧ K (.int (iN 1), 0) M4))))))) ∧
     ((iN (M1 4 0 8)) = (iN 18) →
      ((¬ (iN 1) = 0 →
       ((((iN 1) = 0 ∨ (iN 1) = 1)) ∧ K (.int (iN 1), 0) (upd3 M1 r2 1 (x2).toNatClampNeg ((iN (M1 4 0 8))).toInt))) ∧
      ((iN 1) = 0 →
       CT l E (d - 1) m_Tokens_refuse [(.ref 4, 4), (.int (iN 2), 0)] (upd3 M1 r2 1 (x2).toNatClampNeg ((iN (M1 4 0 8))).toInt) (fun v5 M5 =>
        (((toI v5) = 0 →
         ((((iN 0) = 0 ∨ (iN 0) = 1)) ∧ K (.int (iN 0), 0) M5)) ∧
        (¬ (toI v5) = 0 →
         ((((iN 1) = 0 ∨ (iN 1) = 1)) ∧ K (.int (iN 1), 0) M5))))))))))))))) :
  G l E d m_YReader_readTestWord 0 [(0, (.ref 3, 6)), (1, (.ref r2, 23)), (2, (.int x2, 0))] [] M K := G.blk 60 _ hd ok_YReader_readTestWord rfl h
def bt_YReader_tailOf : BtT := [(0, [0], true, [(0, .iload_n 0, 1, 0, 0, 0, m0),
   (1, .tableswitch 109 1 19 #[97, 109, 103, 109, 109, 109, 109, 109, 91, 109, 91, 109, 103, 100, 109, 109, 94, 103, 106], 91, 0, 0, 0, m0)]),
  (92, [], false, [(92, .ldc 88, 2, 2, 1, 0, m0),
   (94, .areturn, 1, 0, 0, 0, m0)]),
  (95, [], false, [(95, .ldc 90, 2, 2, 2, 0, m0),
   (97, .areturn, 1, 0, 0, 0, m0)]),
  (98, [], false, [(98, .ldc 92, 2, 2, 3, 0, m0),
   (100, .areturn, 1, 0, 0, 0, m0)]),
  (101, [], false, [(101, .ldc 94, 2, 2, 4, 0, m0),
   (103, .areturn, 1, 0, 0, 0, m0)]),
  (104, [], false, [(104, .ldc 96, 2, 2, 5, 0, m0),
   (106, .areturn, 1, 0, 0, 0, m0)]),
  (107, [], false, [(107, .ldc 98, 2, 2, 6, 0, m0),
   (109, .areturn, 1, 0, 0, 0, m0)]),
  (110, [], false, [(110, .ldc 100, 2, 2, 7, 0, m0),
   (112, .areturn, 1, 0, 0, 0, m0)])]
theorem ok_YReader_tailOf : okBt m_YReader_tailOf bt_YReader_tailOf = true := by decide +kernel
set_option maxRecDepth 100000 in
theorem b_YReader_tailOf_0 {l : Launch} {E : EnvT} {d : Nat} {K : AV → Mem → Prop} {M : Mem} {x0 : Int32} (hd : 1 ≤ d)
  (h : ((x0 = iN 1 →
   K (.ref 3, 999) M) ∧
  (¬ x0 = iN 1 →
   ((x0 = iN 2 →
   K (.ref 7, 999) M) ∧
  (¬ x0 = iN 2 →
   ((x0 = iN 3 →
   K (.ref 5, 999) M) ∧
  (¬ x0 = iN 3 →
   ((x0 = iN 4 →
   K (.ref 7, 999) M) ∧
  (¬ x0 = iN 4 →
   ((x0 = iN 5 →
   K (.ref 7, 999) M) ∧
  (¬ x0 = iN 5 →
   ((x0 = iN 6 →
   K (.ref 7, 999) M) ∧
  (¬ x0 = iN 6 →
   ((x0 = iN 7 →
   K (.ref 7, 999) M) ∧
  (¬ x0 = iN 7 →
   ((x0 = iN 8 →
   K (.ref 7, 999) M) ∧
  (¬ x0 = iN 8 →
   ((x0 = iN 9 →
   K (.ref 1, 999) M) ∧
  (¬ x0 = iN 9 →
   ((x0 = iN 10 →
   K (.ref 7, 999) M) ∧
  (¬ x0 = iN 10 →
   ((x0 = iN 11 →
   K (.ref 1, 999) M) ∧
  (¬ x0 = iN 11 →
   ((x0 = iN 12 →
   K (.ref 7, 999) M) ∧
  (¬ x0 = iN 12 →
   ((x0 = iN 13 →
   K (.ref 5, 999) M) ∧
  (¬ x0 = iN 13 →
   ((x0 = iN 14 →
   K (.ref 4, 999) M) ∧
  (¬ x0 = iN 14 →
   ((x0 = iN 15 →
   K (.ref 7, 999) M) ∧
  (¬ x0 = iN 15 →
   ((x0 = iN 16 →
   K (.ref 7, 999) M) ∧
  (¬ x0 = iN 16 →
   ((x0 = iN 17 →
   K (.ref 2, 999) M) ∧
  (¬ x0 = iN 17 →
   ((x0 = iN 18 →
   K (.ref 5, 999) M) ∧
  (¬ x0 = iN 18 →
   ((x0 = iN 19 →
   K (.ref 6, 999) M) ∧
  (¬ x0 = iN 19 →
   K (.ref 7, 999) M))))))))))))))))))))))))))))))))))))))) :
  G l E d m_YReader_tailOf 0 [(0, (.int x0, 0))] [] M K := G.blk 60 _ hd ok_YReader_tailOf rfl h
def bt_YReader_leastOf : BtT := [(0, [0], true, [(0, .iload_n 0, 1, 0, 0, 0, m0),
   (1, .bipush 17, 2, 0, 0, 0, m0),
   (3, .if_icmp .eq 8, 3, 11, 0, 0, m0),
   (6, .nop, 0, 0, 0, 0, m0)]),
  (6, [], false, [(6, .iload_n 0, 1, 0, 0, 0, m0),
   (7, .iconst 1, 1, 0, 0, 0, m0),
   (8, .if_icmp .ne 7, 3, 15, 0, 0, m0),
   (11, .nop, 0, 0, 0, 0, m0)]),
  (11, [], false, [(11, .iconst 0, 1, 0, 0, 0, m0),
   (12, .goto 4, 3, 16, 0, 0, m0)]),
  (15, [], false, [(15, .iconst 1, 1, 0, 0, 0, m0),
   (16, .nop, 0, 0, 0, 0, m0)]),
  (16, [], false, [(16, .ireturn, 1, 0, 0, 0, m0)])]
theorem ok_YReader_leastOf : okBt m_YReader_leastOf bt_YReader_leastOf = true := by decide +kernel
set_option maxRecDepth 100000 in
theorem b_YReader_leastOf_0 {l : Launch} {E : EnvT} {d : Nat} {K : AV → Mem → Prop} {M : Mem} {x0 : Int32} (hd : 1 ≤ d)
  (h : ((x0 = (iN 17) →
   K (.int (iN 0), 0) M) ∧
  (¬ x0 = (iN 17) →
   ((¬ x0 = (iN 1) →
    K (.int (iN 1), 0) M) ∧
   (x0 = (iN 1) →
    K (.int (iN 0), 0) M))))) :
  G l E d m_YReader_leastOf 0 [(0, (.int x0, 0))] [] M K := G.blk 60 _ hd ok_YReader_leastOf rfl h
def bt_YReader_mostOf : BtT := [(0, [0], true, [(0, .iload_n 0, 1, 0, 0, 0, m0),
   (1, .lookupswitch 45 #[(1, 41), (9, 35), (19, 38)], 35, 0, 0, 0, m0)]),
  (36, [], false, [(36, .bipush 99, 2, 0, 0, 0, m0),
   (38, .ireturn, 1, 0, 0, 0, m0)]),
  (39, [], false, [(39, .bipush 99, 2, 0, 0, 0, m0),
   (41, .ireturn, 1, 0, 0, 0, m0)]),
  (42, [], false, [(42, .sipush 9999, 3, 0, 0, 0, m0),
   (45, .ireturn, 1, 0, 0, 0, m0)]),
  (46, [], false, [(46, .sipush 999, 3, 0, 0, 0, m0),
   (49, .ireturn, 1, 0, 0, 0, m0)])]
theorem ok_YReader_mostOf : okBt m_YReader_mostOf bt_YReader_mostOf = true := by decide +kernel
set_option maxRecDepth 100000 in
theorem b_YReader_mostOf_0 {l : Launch} {E : EnvT} {d : Nat} {K : AV → Mem → Prop} {M : Mem} {x0 : Int32} (hd : 1 ≤ d)
  (h : ((x0 = iN 1 →
   K (.int (iN 9999), 0) M) ∧
  (¬ x0 = iN 1 →
   ((x0 = iN 9 →
   K (.int (iN 99), 0) M) ∧
  (¬ x0 = iN 9 →
   ((x0 = iN 19 →
   K (.int (iN 99), 0) M) ∧
  (¬ x0 = iN 19 →
   K (.int (iN 999), 0) M))))))) :
  G l E d m_YReader_mostOf 0 [(0, (.int x0, 0))] [] M K := G.blk 60 _ hd ok_YReader_mostOf rfl h
def bt_YReader_readTail : BtT := [(0, [0, 1, 2, 3], true, [(0, .aload_n 2, 1, 0, 0, 0, m0),
   (1, .getfield 85, 3, 0, 8, 344, m0),
   (4, .iload_n 3, 1, 0, 0, 0, m0),
   (5, .iaload, 1, 0, 0, 0, m0),
   (6, .invokestatic 102, 3, 0, 0, 879, m_YReader_tailOf),
   (9, .astore 4, 2, 0, 0, 0, m0),
   (11, .iconst 1, 1, 0, 0, 0, m0),
   (12, .istore 5, 2, 0, 0, 0, m0),
   (14, .iconst 0, 1, 0, 0, 0, m0),
   (15, .istore 6, 2, 0, 0, 0, m0),
   (17, .nop, 0, 0, 0, 0, m0)]),
  (17, [0, 1, 2, 3, 4, 5, 6], true, [(17, .iload 6, 2, 0, 0, 0, m0),
   (19, .aload 4, 2, 0, 0, 0, m0),
   (21, .invokevirtual 106, 3, 0, 0, 889, m_Str_length),
   (24, .if_icmp .ge 215, 3, 239, 0, 0, m0),
   (27, .nop, 0, 0, 0, 0, m0)]),
  (27, [], false, [(27, .iload 5, 2, 0, 0, 0, m0),
   (29, .ifCond .eq 210, 3, 239, 0, 0, m0),
   (32, .nop, 0, 0, 0, 0, m0)]),
  (32, [], false, [(32, .aload 4, 2, 0, 0, 0, m0),
   (34, .iload 6, 2, 0, 0, 0, m0),
   (36, .invokevirtual 112, 3, 0, 0, 890, m_Str_charAt),
   (39, .istore 7, 2, 0, 0, 0, m0),
   (41, .iload 7, 2, 0, 0, 0, m0),
   (43, .lookupswitch 150 #[(97, 41), (98, 76), (99, 125), (116, 111)], 41, 0, 0, 0, m0)]),
  (84, [], false, [(84, .aload_n 2, 1, 0, 0, 0, m0),
   (85, .getfield 116, 3, 1, 8, 347, m0),
   (88, .iload_n 3, 1, 0, 0, 0, m0),
   (89, .aload_n 0, 1, 0, 0, 0, m0),
   (90, .getfield 12, 3, 0, 9, 207, m0),
   (93, .aload_n 1, 1, 0, 0, 0, m0),
   (94, .iconst (-1), 1, 0, 0, 0, m0),
   (95, .invokevirtual 119, 3, 0, 0, 891, m_Tokens_takeSinger),
   (98, .iastore, 1, 0, 0, 0, m0),
   (99, .aload_n 2, 1, 0, 0, 0, m0),
   (100, .getfield 116, 3, 1, 8, 347, m0),
   (103, .iload_n 3, 1, 0, 0, 0, m0),
   (104, .iaload, 1, 0, 0, 0, m0),
   (105, .iconst (-1), 1, 0, 0, 0, m0),
   (106, .if_icmp .eq 7, 3, 113, 0, 0, m0),
   (109, .nop, 0, 0, 0, 0, m0)]),
  (109, [], false, [(109, .iconst 1, 1, 0, 0, 0, m0),
   (110, .goto 4, 3, 114, 0, 0, m0)]),
  (113, [], false, [(113, .iconst 0, 1, 0, 0, 0, m0),
   (114, .nop, 0, 0, 0, 0, m0)]),
  (114, [], false, [(114, .istore 5, 2, 0, 0, 0, m0),
   (116, .goto 117, 3, 233, 0, 0, m0)]),
  (119, [], false, [(119, .aload_n 2, 1, 0, 0, 0, m0),
   (120, .getfield 123, 3, 2, 8, 350, m0),
   (123, .iload_n 3, 1, 0, 0, 0, m0),
   (124, .aload_n 0, 1, 0, 0, 0, m0),
   (125, .getfield 12, 3, 0, 9, 207, m0),
   (128, .aload_n 1, 1, 0, 0, 0, m0),
   (129, .iconst (-1), 1, 0, 0, 0, m0),
   (130, .invokevirtual 119, 3, 0, 0, 891, m_Tokens_takeSinger),
   (133, .iastore, 1, 0, 0, 0, m0),
   (134, .aload_n 2, 1, 0, 0, 0, m0),
   (135, .getfield 123, 3, 2, 8, 350, m0),
   (138, .iload_n 3, 1, 0, 0, 0, m0),
   (139, .iaload, 1, 0, 0, 0, m0),
   (140, .iconst (-1), 1, 0, 0, 0, m0),
   (141, .if_icmp .eq 7, 3, 148, 0, 0, m0),
   (144, .nop, 0, 0, 0, 0, m0)]),
  (144, [], false, [(144, .iconst 1, 1, 0, 0, 0, m0),
   (145, .goto 4, 3, 149, 0, 0, m0)]),
  (148, [], false, [(148, .iconst 0, 1, 0, 0, 0, m0),
   (149, .nop, 0, 0, 0, 0, m0)]),
  (149, [], false, [(149, .istore 5, 2, 0, 0, 0, m0),
   (151, .goto 82, 3, 233, 0, 0, m0)]),
  (154, [], false, [(154, .aload_n 0, 1, 0, 0, 0, m0),
   (155, .getfield 12, 3, 0, 9, 207, m0),
   (158, .bipush 10, 2, 0, 0, 0, m0),
   (160, .invokevirtual 126, 3, 0, 0, 892, m_Tokens_takeKeyword),
   (163, .istore 5, 2, 0, 0, 0, m0),
   (165, .goto 68, 3, 233, 0, 0, m0)]),
  (168, [], false, [(168, .aload_n 0, 1, 0, 0, 0, m0),
   (169, .getfield 12, 3, 0, 9, 207, m0),
   (172, .invokevirtual 129, 3, 0, 0, 893, m_Tokens_takeCompares),
   (175, .istore 5, 2, 0, 0, 0, m0),
   (177, .aload_n 2, 1, 0, 0, 0, m0),
   (178, .getfield 133, 3, 4, 8, 356, m0),
   (181, .iload_n 3, 1, 0, 0, 0, m0),
   (182, .aload_n 0, 1, 0, 0, 0, m0),
   (183, .getfield 12, 3, 0, 9, 207, m0),
   (186, .getfield 136, 3, 6, 5, 158, m0),
   (189, .iastore, 1, 0, 0, 0, m0),
   (190, .goto 43, 3, 233, 0, 0, m0)]),
  (193, [], false, [(193, .aload_n 0, 1, 0, 0, 0, m0),
   (194, .getfield 12, 3, 0, 9, 207, m0),
   (197, .aload_n 2, 1, 0, 0, 0, m0),
   (198, .getfield 85, 3, 0, 8, 344, m0),
   (201, .iload_n 3, 1, 0, 0, 0, m0),
   (202, .iaload, 1, 0, 0, 0, m0),
   (203, .invokestatic 139, 3, 0, 0, 897, m_YReader_leastOf),
   (206, .aload_n 2, 1, 0, 0, 0, m0),
   (207, .getfield 85, 3, 0, 8, 344, m0),
   (210, .iload_n 3, 1, 0, 0, 0, m0),
   (211, .iaload, 1, 0, 0, 0, m0),
   (212, .invokestatic 142, 3, 0, 0, 900, m_YReader_mostOf),
   (215, .invokevirtual 145, 3, 0, 0, 903, m_Tokens_takeNumber),
   (218, .istore 5, 2, 0, 0, 0, m0),
   (220, .aload_n 2, 1, 0, 0, 0, m0),
   (221, .getfield 149, 3, 3, 8, 353, m0),
   (224, .iload_n 3, 1, 0, 0, 0, m0),
   (225, .aload_n 0, 1, 0, 0, 0, m0),
   (226, .getfield 12, 3, 0, 9, 207, m0),
   (229, .getfield 152, 3, 5, 5, 156, m0),
   (232, .iastore, 1, 0, 0, 0, m0),
   (233, .nop, 0, 0, 0, 0, m0)]),
  (233, [], false, [(233, .iinc 6 1, 3, 0, 0, 0, m0),
   (236, .goto (-219), 3, 17, 0, 0, m0)]),
  (239, [], false, [(239, .iload 5, 2, 0, 0, 0, m0),
   (241, .ireturn, 1, 0, 0, 0, m0)])]
theorem ok_YReader_readTail : okBt m_YReader_readTail bt_YReader_readTail = true := by decide +kernel
set_option maxRecDepth 100000 in
theorem b_YReader_readTail_0 {l : Launch} {E : EnvT} {d : Nat} {K : AV → Mem → Prop} {M : Mem} {r2 r3 : Nat} {x3 : Int32} (hd : 1 ≤ d)
  (h : (vp_in x3 60 ∧ CT l E (d - 1) m_YReader_tailOf [(.int (iN (M r3 1 (x3).toNatClampNeg)), 0)] M (fun v1 M1 =>
   G l E d m_YReader_readTail 17 [(0, (.ref 3, 6)), (1, (.ref r2, 11)), (2, (.ref r3, 23)), (3, (.int x3, 0)), (4, (.ref (toR v1), 999)), (5, (.int (iN 1), 0)), (6, (.int (iN 0), 0))] [] M1 K))) :
  G l E d m_YReader_readTail 0 [(0, (.ref 3, 6)), (1, (.ref r2, 11)), (2, (.ref r3, 23)), (3, (.int x3, 0))] [] M K := G.blk 60 _ hd ok_YReader_readTail rfl h
set_option maxRecDepth 100000 in
theorem b_YReader_readTail_17 {l : Launch} {E : EnvT} {d : Nat} {K : AV → Mem → Prop} {M : Mem} {r2 r3 q4 : Nat} {x3 : Int32} {x5 : Int32} {x6 : Int32} (hd : 1 ≤ d)
  (h : CT l E (d - 1) m_Str_length [(.ref q4, 999)] M (fun v1 M1 =>
   (((toI v1) ≤ x6 →
    (((x5 = 0 ∨ x5 = 1)) ∧ K (.int x5, 0) M1)) ∧
   (¬ (toI v1) ≤ x6 →
    ((x5 = 0 →
     (((x5 = 0 ∨ x5 = 1)) ∧ K (.int x5, 0) M1)) ∧
    (¬ x5 = 0 →
     CT l E (d - 1) m_Str_charAt [(.ref q4, 999), (.int x6, 0)] M1 (fun v2 M2 =>
      (((toI v2) = iN 97 →
       CT l E (d - 1) m_Tokens_takeSinger [(.ref 4, 4), (.ref r2, 11), (.int (iN (-1)), 0)] M2 (fun v9 M9 =>
        (vp_in x3 60 ∧ vp_in x3 60 ∧ (((iN ((upd3 M9 r3 2 (x3).toNatClampNeg ((toI v9)).toInt) r3 2 (x3).toNatClampNeg)) = (iN (-1)) →
         G l E d m_YReader_readTail 17 [(0, (.ref 3, 6)), (1, (.ref r2, 11)), (2, (.ref r3, 23)), (3, (.int x3, 0)), (4, (.ref q4, 999)), (5, (.int (iN 0), 0)), (6, (.int (x6 + iN 1), 0))] [] (upd3 M9 r3 2 (x3).toNatClampNeg ((toI v9)).toInt) K) ∧
        (¬ (iN ((upd3 M9 r3 2 (x3).toNatClampNeg ((toI v9)).toInt) r3 2 (x3).toNatClampNeg)) = (iN (-1)) →
         G l E d m_YReader_readTail 17 [(0, (.ref 3, 6)), (1, (.ref r2, 11)), (2, (.ref r3, 23)), (3, (.int x3, 0)), (4, (.ref q4, 999)), (5, (.int (iN 1), 0)), (6, (.int (x6 + iN 1), 0))] [] (upd3 M9 r3 2 (x3).toNatClampNeg ((toI v9)).toInt) K))))) ∧
      (¬ (toI v2) = iN 97 →
       (((toI v2) = iN 98 →
       CT l E (d - 1) m_Tokens_takeSinger [(.ref 4, 4), (.ref r2, 11), (.int (iN (-1)), 0)] M2 (fun v8 M8 =>
        (vp_in x3 60 ∧ vp_in x3 60 ∧ (((iN ((upd3 M8 r3 3 (x3).toNatClampNeg ((toI v8)).toInt) r3 3 (x3).toNatClampNeg)) = (iN (-1)) →
         G l E d m_YReader_readTail 17 [(0, (.ref 3, 6)), (1, (.ref r2, 11)), (2, (.ref r3, 23)), (3, (.int x3, 0)), (4, (.ref q4, 999)), (5, (.int (iN 0), 0)), (6, (.int (x6 + iN 1), 0))] [] (upd3 M8 r3 3 (x3).toNatClampNeg ((toI v8)).toInt) K) ∧
        (¬ (iN ((upd3 M8 r3 3 (x3).toNatClampNeg ((toI v8)).toInt) r3 3 (x3).toNatClampNeg)) = (iN (-1)) →
         G l E d m_YReader_readTail 17 [(0, (.ref 3, 6)), (1, (.ref r2, 11)), (2, (.ref r3, 23)), (3, (.int x3, 0)), (4, (.ref q4, 999)), (5, (.int (iN 1), 0)), (6, (.int (x6 + iN 1), 0))] [] (upd3 M8 r3 3 (x3).toNatClampNeg ((toI v8)).toInt) K))))) ∧
      (¬ (toI v2) = iN 98 →
       (((toI v2) = iN 99 →
       CT l E (d - 1) m_Tokens_takeCompares [(.ref 4, 4)] M2 (fun v7 M7 =>
        (vp_in x3 60 ∧ G l E d m_YReader_readTail 17 [(0, (.ref 3, 6)), (1, (.ref r2, 11)), (2, (.ref r3, 23)), (3, (.int x3, 0)), (4, (.ref q4, 999)), (5, (.int (toI v7), 0)), (6, (.int (x6 + iN 1), 0))] [] (upd3 M7 r3 5 (x3).toNatClampNeg ((iN (M7 4 0 6))).toInt) K))) ∧
      (¬ (toI v2) = iN 99 →
       (((toI v2) = iN 116 →
       CT l E (d - 1) m_Tokens_takeKeyword [(.ref 4, 4), (.int (iN 10), 0)] M2 (fun v6 M6 =>
        G l E d m_YReader_readTail 17 [(0, (.ref 3, 6)), (1, (.ref r2, 11)), (2, (.ref r3, 23)), (3, (.int x3, 0)), (4, (.ref q4, 999)), (5, (.int (toI v6), 0)), (6, (.int (x6 + iN 1), 0))] [] M6 K)) ∧
      (¬ (toI v2) = iN 116 →
       (vp_in x3 60 ∧ CT l E (d - 1) m_YReader_leastOf [(.int (iN (M2 r3 1 (x3).toNatClampNeg)), 0)] M2 (fun v3 M3 =>
        (vp_in x3 60 ∧ CT l E (d - 1) m_YReader_mostOf [(.int (iN (M3 r3 1 (x3).toNatClampNeg)), 0)] M3 (fun v4 M4 =>
         CT l E (d - 1) m_Tokens_takeNumber [(.ref 4, 4), (.int (toI v3), 0), (.int (toI v4), 0)] M4 (fun v5 M5 =>
          (vp_in x3 60 ∧ G l E d m_YReader_readTail 17 [(0, (.ref 3, 6)), (1, (.ref r2, 11)), (2, (.ref r3, 23)), (3, (.int x3, 0)), (4, (.ref q4, 999)), (5, (.int (toI v5), 0)), (6, (.int (x6 + iN 1), 0))] [] (upd3 M5 r3 4 (x3).toNatClampNeg ((iN (M5 4 0 5))).toInt) K))))))))))))))))))))) :
  G l E d m_YReader_readTail 17 [(0, (.ref 3, 6)), (1, (.ref r2, 11)), (2, (.ref r3, 23)), (3, (.int x3, 0)), (4, (.ref q4, 999)), (5, (.int x5, 0)), (6, (.int x6, 0))] [] M K := G.blk 60 _ hd ok_YReader_readTail rfl h
def bt_YReader_readStep : BtT := [(0, [0, 1, 2], true, [(0, .aload_n 0, 1, 0, 0, 0, m0),
   (1, .getfield 12, 3, 0, 9, 207, m0),
   (4, .getfield 38, 3, 8, 5, 162, m0),
   (7, .istore_n 3, 1, 0, 0, 0, m0),
   (8, .iload_n 3, 1, 0, 0, 0, m0),
   (9, .invokestatic 67, 3, 0, 0, 863, m_YReader_beginsStep),
   (12, .ifCond .ne 12, 3, 24, 0, 0, m0),
   (15, .nop, 0, 0, 0, 0, m0)]),
  (15, [], false, [(15, .aload_n 0, 1, 0, 0, 0, m0),
   (16, .getfield 12, 3, 0, 9, 207, m0),
   (19, .iconst 2, 1, 0, 0, 0, m0),
   (20, .invokevirtual 56, 3, 0, 0, 853, m_Tokens_refuse),
   (23, .ireturn, 1, 0, 0, 0, m0)]),
  (24, [], false, [(24, .aload_n 2, 1, 0, 0, 0, m0),
   (25, .getfield 70, 3, 7, 8, 362, m0),
   (28, .bipush 30, 2, 0, 0, 0, m0),
   (30, .if_icmp .lt 13, 3, 43, 0, 0, m0),
   (33, .nop, 0, 0, 0, 0, m0)]),
  (33, [], false, [(33, .aload_n 0, 1, 0, 0, 0, m0),
   (34, .getfield 12, 3, 0, 9, 207, m0),
   (37, .bipush 6, 2, 0, 0, 0, m0),
   (39, .invokevirtual 56, 3, 0, 0, 853, m_Tokens_refuse),
   (42, .ireturn, 1, 0, 0, 0, m0)]),
  (43, [], false, [(43, .iload_n 3, 1, 0, 0, 0, m0),
   (44, .bipush 16, 2, 0, 0, 0, m0),
   (46, .if_icmp .eq 9, 3, 55, 0, 0, m0),
   (49, .nop, 0, 0, 0, 0, m0)]),
  (49, [], false, [(49, .iload_n 3, 1, 0, 0, 0, m0),
   (50, .bipush 19, 2, 0, 0, 0, m0),
   (52, .if_icmp .ne 7, 3, 59, 0, 0, m0),
   (55, .nop, 0, 0, 0, 0, m0)]),
  (55, [], false, [(55, .iconst 1, 1, 0, 0, 0, m0),
   (56, .goto 4, 3, 60, 0, 0, m0)]),
  (59, [], false, [(59, .iconst 0, 1, 0, 0, 0, m0),
   (60, .nop, 0, 0, 0, 0, m0)]),
  (60, [], false, [(60, .istore 4, 2, 0, 0, 0, m0),
   (62, .iload 4, 2, 0, 0, 0, m0),
   (64, .ifCond .eq 21, 3, 85, 0, 0, m0),
   (67, .nop, 0, 0, 0, 0, m0)]),
  (67, [], false, [(67, .aload_n 0, 1, 0, 0, 0, m0),
   (68, .getfield 22, 3, 2, 9, 210, m0),
   (71, .iconst 3, 1, 0, 0, 0, m0),
   (72, .if_icmp .lt 13, 3, 85, 0, 0, m0),
   (75, .nop, 0, 0, 0, 0, m0)]),
  (75, [], false, [(75, .aload_n 0, 1, 0, 0, 0, m0),
   (76, .getfield 12, 3, 0, 9, 207, m0),
   (79, .bipush 7, 2, 0, 0, 0, m0),
   (81, .invokevirtual 56, 3, 0, 0, 853, m_Tokens_refuse),
   (84, .ireturn, 1, 0, 0, 0, m0)]),
  (85, [0, 1, 2, 3, 4], true, [(85, .aload_n 2, 1, 0, 0, 0, m0),
   (86, .iload_n 3, 1, 0, 0, 0, m0),
   (87, .invokevirtual 73, 3, 0, 0, 866, m_Years_addStep),
   (90, .istore 5, 2, 0, 0, 0, m0),
   (92, .iload 4, 2, 0, 0, 0, m0),
   (94, .ifCond .eq 24, 3, 118, 0, 0, m0),
   (97, .nop, 0, 0, 0, 0, m0)]),
  (97, [], false, [(97, .aload_n 0, 1, 0, 0, 0, m0),
   (98, .getfield 18, 3, 1, 9, 209, m0),
   (101, .aload_n 0, 1, 0, 0, 0, m0),
   (102, .getfield 22, 3, 2, 9, 210, m0),
   (105, .iload 5, 2, 0, 0, 0, m0),
   (107, .iastore, 1, 0, 0, 0, m0),
   (108, .aload_n 0, 1, 0, 0, 0, m0),
   (109, .dup, 1, 0, 0, 0, m0),
   (110, .getfield 22, 3, 2, 9, 210, m0),
   (113, .iconst 1, 1, 0, 0, 0, m0),
   (114, .iadd, 1, 0, 0, 0, m0),
   (115, .putfield 22, 3, 2, 9, 210, m0),
   (118, .nop, 0, 0, 0, 0, m0)]),
  (118, [], false, [(118, .iload_n 3, 1, 0, 0, 0, m0),
   (119, .bipush 16, 2, 0, 0, 0, m0),
   (121, .if_icmp .ne 15, 3, 136, 0, 0, m0),
   (124, .nop, 0, 0, 0, 0, m0)]),
  (124, [], false, [(124, .aload_n 0, 1, 0, 0, 0, m0),
   (125, .aload_n 2, 1, 0, 0, 0, m0),
   (126, .iload 5, 2, 0, 0, 0, m0),
   (128, .invokevirtual 77, 3, 0, 0, 870, m_YReader_readTestWord),
   (131, .ifCond .ne 5, 3, 136, 0, 0, m0),
   (134, .nop, 0, 0, 0, 0, m0)]),
  (134, [], false, [(134, .iconst 0, 1, 0, 0, 0, m0),
   (135, .ireturn, 1, 0, 0, 0, m0)]),
  (136, [], false, [(136, .aload_n 0, 1, 0, 0, 0, m0),
   (137, .aload_n 1, 1, 0, 0, 0, m0),
   (138, .aload_n 2, 1, 0, 0, 0, m0),
   (139, .iload 5, 2, 0, 0, 0, m0),
   (141, .invokevirtual 81, 3, 0, 0, 875, m_YReader_readTail),
   (144, .ifCond .eq 19, 3, 163, 0, 0, m0),
   (147, .nop, 0, 0, 0, 0, m0)]),
  (147, [], false, [(147, .aload_n 0, 1, 0, 0, 0, m0),
   (148, .getfield 12, 3, 0, 9, 207, m0),
   (151, .bipush 59, 2, 0, 0, 0, m0),
   (153, .invokevirtual 64, 3, 0, 0, 858, m_Tokens_takeSign),
   (156, .ifCond .eq 7, 3, 163, 0, 0, m0),
   (159, .nop, 0, 0, 0, 0, m0)]),
  (159, [], false, [(159, .iconst 1, 1, 0, 0, 0, m0),
   (160, .goto 4, 3, 164, 0, 0, m0)]),
  (163, [], false, [(163, .iconst 0, 1, 0, 0, 0, m0),
   (164, .nop, 0, 0, 0, 0, m0)]),
  (164, [], false, [(164, .ireturn, 1, 0, 0, 0, m0)])]
theorem ok_YReader_readStep : okBt m_YReader_readStep bt_YReader_readStep = true := by decide +kernel
set_option maxRecDepth 100000 in
theorem b_YReader_readStep_0 {l : Launch} {E : EnvT} {d : Nat} {K : AV → Mem → Prop} {M : Mem} {r2 r3 : Nat}  (hd : 1 ≤ d)
  (h : CT l E (d - 1) m_YReader_beginsStep [(.int (iN (M 4 0 8)), 0)] M (fun v1 M1 =>
   ((¬ (toI v1) = 0 →
    (((iN (M1 r3 0 7)) < (iN 30) →
     (((iN (M 4 0 8)) = (iN 16) →
      (((iN 1) = 0 →
       G l E d m_YReader_readStep 85 [(0, (.ref 3, 6)), (1, (.ref r2, 11)), (2, (.ref r3, 23)), (3, (.int (iN (M 4 0 8)), 0)), (4, (.int (iN 1), 0))] [] M1 K) ∧
      (¬ (iN 1) = 0 →
       (((iN (M1 3 0 2)) < (iN 3) →
        G l E d m_YReader_readStep 85 [(0, (.ref 3, 6)), (1, (.ref r2, 11)), (2, (.ref r3, 23)), (3, (.int (iN (M 4 0 8)), 0)), (4, (.int (iN 1), 0))] [] M1 K) ∧
       (¬ (iN (M1 3 0 2)) < (iN 3) →
        CT l E (d - 1) m_Tokens_refuse [(.ref 4, 4), (.int (iN 7), 0)] M1 (fun v2 M2 =>
         ((((toI v2) = 0 ∨ (toI v2) = 1)) ∧ K (.int (toI v2), 0) M2))))))) ∧
     (¬ (iN (M 4 0 8)) = (iN 16) →
      ((¬ (iN (M 4 0 8)) = (iN 19) →
       (((iN 0) = 0 →
        G l E d m_YReader_readStep 85 [(0, (.ref 3, 6)), (1, (.ref r2, 11)), (2, (.ref r3, 23)), (3, (.int (iN (M 4 0 8)), 0)), (4, (.int (iN 0), 0))] [] M1 K) ∧
       (¬ (iN 0) = 0 →
        (((iN (M1 3 0 2)) < (iN 3) →
         G l E d m_YReader_readStep 85 [(0, (.ref 3, 6)), (1, (.ref r2, 11)), (2, (.ref r3, 23)), (3, (.int (iN (M 4 0 8)), 0)), (4, (.int (iN 0), 0))] [] M1 K) ∧
        (¬ (iN (M1 3 0 2)) < (iN 3) →
         CT l E (d - 1) m_Tokens_refuse [(.ref 4, 4), (.int (iN 7), 0)] M1 (fun v3 M3 =>
          ((((toI v3) = 0 ∨ (toI v3) = 1)) ∧ K (.int (toI v3), 0) M3))))))) ∧
      ((iN (M 4 0 8)) = (iN 19) →
       (((iN 1) = 0 →
        G l E d m_YReader_readStep 85 [(0, (.ref 3, 6)), (1, (.ref r2, 11)), (2, (.ref r3, 23)), (3, (.int (iN (M 4 0 8)), 0)), (4, (.int (iN 1), 0))] [] M1 K) ∧
       (¬ (iN 1) = 0 →
        (((iN (M1 3 0 2)) < (iN 3) →
         G l E d m_YReader_readStep 85 [(0, (.ref 3, 6)), (1, (.ref r2, 11)), (2, (.ref r3, 23)), (3, (.int (iN (M 4 0 8)), 0)), (4, (.int (iN 1), 0))] [] M1 K) ∧
        (¬ (iN (M1 3 0 2)) < (iN 3) →
         CT l E (d - 1) m_Tokens_refuse [(.ref 4, 4), (.int (iN 7), 0)] M1 (fun v4 M4 =>
          ((((toI v4) = 0 ∨ (toI v4) = 1)) ∧ K (.int (toI v4), 0) M4))))))))))) ∧
    (¬ (iN (M1 r3 0 7)) < (iN 30) →
     CT l E (d - 1) m_Tokens_refuse [(.ref 4, 4), (.int (iN 6), 0)] M1 (fun v5 M5 =>
      ((((toI v5) = 0 ∨ (toI v5) = 1)) ∧ K (.int (toI v5), 0) M5))))) ∧
   ((toI v1) = 0 →
    CT l E (d - 1) m_Tokens_refuse [(.ref 4, 4), (.int (iN 2), 0)] M1 (fun v6 M6 =>
     ((((toI v6) = 0 ∨ (toI v6) = 1)) ∧ K (.int (toI v6), 0) M6)))))) :
  G l E d m_YReader_readStep 0 [(0, (.ref 3, 6)), (1, (.ref r2, 11)), (2, (.ref r3, 23))] [] M K := G.blk 60 _ hd ok_YReader_readStep rfl h
set_option maxRecDepth 100000 in
theorem b_YReader_readStep_85 {l : Launch} {E : EnvT} {d : Nat} {K : AV → Mem → Prop} {M : Mem} {r2 r3 : Nat} {x3 : Int32} {x4 : Int32} (hd : 1 ≤ d)
  (h : CT l E (d - 1) m_Years_addStep [(.ref r3, 23), (.int x3, 0)] M (fun v1 M1 =>
   ((x4 = 0 →
    ((¬ x3 = (iN 16) →
     CT l E (d - 1) m_YReader_readTail [(.ref 3, 6), (.ref r2, 11), (.ref r3, 23), (.int (toI v1), 0)] M1 (fun v2 M2 =>
      (((toI v2) = 0 →
       ((((iN 0) = 0 ∨ (iN 0) = 1)) ∧ K (.int (iN 0), 0) M2)) ∧
      (¬ (toI v2) = 0 →
       CT l E (d - 1) m_Tokens_takeSign [(.ref 4, 4), (.int (iN 59), 0)] M2 (fun v3 M3 =>
        (((toI v3) = 0 →
         ((((iN 0) = 0 ∨ (iN 0) = 1)) ∧ K (.int (iN 0), 0) M3)) ∧
        (¬ (toI v3) = 0 →
         ((((iN 1) = 0 ∨ (iN 1) = 1)) ∧ K (.int (iN 1), 0) M3)))))))) ∧
    (x3 = (iN 16) →
     CT l E (d - 1) m_YReader_readTestWord [(.ref 3, 6), (.ref r3, 23), (.int (toI v1), 0)] M1 (fun v4 M4 =>
      ((¬ (toI v4) = 0 →
       CT l E (d - 1) m_YReader_readTail [(.ref 3, 6), (.ref r2, 11), (.ref r3, 23), (.int (toI v1), 0)] M4 (fun v5 M5 =>
        (((toI v5) = 0 →
         ((((iN 0) = 0 ∨ (iN 0) = 1)) ∧ K (.int (iN 0), 0) M5)) ∧
        (¬ (toI v5) = 0 →
         CT l E (d - 1) m_Tokens_takeSign [(.ref 4, 4), (.int (iN 59), 0)] M5 (fun v6 M6 =>
          (((toI v6) = 0 →
           ((((iN 0) = 0 ∨ (iN 0) = 1)) ∧ K (.int (iN 0), 0) M6)) ∧
          (¬ (toI v6) = 0 →
           ((((iN 1) = 0 ∨ (iN 1) = 1)) ∧ K (.int (iN 1), 0) M6)))))))) ∧
      ((toI v4) = 0 →
       ((((iN 0) = 0 ∨ (iN 0) = 1)) ∧ K (.int (iN 0), 0) M4))))))) ∧
   (¬ x4 = 0 →
    (vp_in (iN (M1 3 0 2)) 3 ∧ ((¬ x3 = (iN 16) →
     CT l E (d - 1) m_YReader_readTail [(.ref 3, 6), (.ref r2, 11), (.ref r3, 23), (.int (toI v1), 0)] (upd3 (upd3 M1 3 1 ((iN (M1 3 0 2))).toNatClampNeg ((toI v1)).toInt) 3 0 2 (((iN ((upd3 M1 3 1 ((iN (M1 3 0 2))).toNatClampNeg ((toI v1)).toInt) 3 0 2)) + (iN 1))).toInt) (fun v7 M7 =>
      (((toI v7) = 0 →
       ((((iN 0) = 0 ∨ (iN 0) = 1)) ∧ K (.int (iN 0), 0) M7)) ∧
      (¬ (toI v7) = 0 →
       CT l E (d - 1) m_Tokens_takeSign [(.ref 4, 4), (.int (iN 59), 0)] M7 (fun v8 M8 =>
        (((toI v8) = 0 →
         ((((iN 0) = 0 ∨ (iN 0) = 1)) ∧ K (.int (iN 0), 0) M8)) ∧
        (¬ (toI v8) = 0 →
         ((((iN 1) = 0 ∨ (iN 1) = 1)) ∧ K (.int (iN 1), 0) M8)))))))) ∧
    (x3 = (iN 16) →
     CT l E (d - 1) m_YReader_readTestWord [(.ref 3, 6), (.ref r3, 23), (.int (toI v1), 0)] (upd3 (upd3 M1 3 1 ((iN (M1 3 0 2))).toNatClampNeg ((toI v1)).toInt) 3 0 2 (((iN ((upd3 M1 3 1 ((iN (M1 3 0 2))).toNatClampNeg ((toI v1)).toInt) 3 0 2)) + (iN 1))).toInt) (fun v9 M9 =>
      ((¬ (toI v9) = 0 →
       CT l E (d - 1) m_YReader_readTail [(.ref 3, 6), (.ref r2, 11), (.ref r3, 23), (.int (toI v1), 0)] M9 (fun v10 M10 =>
        (((toI v10) = 0 →
         ((((iN 0) = 0 ∨ (iN 0) = 1)) ∧ K (.int (iN 0), 0) M10)) ∧
        (¬ (toI v10) = 0 →
         CT l E (d - 1) m_Tokens_takeSign [(.ref 4, 4), (.int (iN 59), 0)] M10 (fun v11 M11 =>
          (((toI v11) = 0 →
           ((((iN 0) = 0 ∨ (iN 0) = 1)) ∧ K (.int (iN 0), 0) M11)) ∧
          (¬ (toI v11) = 0 →
           ((((iN 1) = 0 ∨ (iN 1) = 1)) ∧ K (.int (iN 1), 0) M11)))))))) ∧
      ((toI v9) = 0 →
       ((((iN 0) = 0 ∨ (iN 0) = 1)) ∧ K (.int (iN 0), 0) M9))))))))))) :
  G l E d m_YReader_readStep 85 [(0, (.ref 3, 6)), (1, (.ref r2, 11)), (2, (.ref r3, 23)), (3, (.int x3, 0)), (4, (.int x4, 0))] [] M K := G.blk 60 _ hd ok_YReader_readStep rfl h
def bt_YReader_readAll : BtT := [(0, [0, 1, 2, 3, 4], true, [(0, .aload 4, 2, 0, 0, 0, m0),
   (2, .invokevirtual 26, 3, 0, 0, 847, m_Years_forget),
   (5, .aload_n 0, 1, 0, 0, 0, m0),
   (6, .iconst 0, 1, 0, 0, 0, m0),
   (7, .putfield 22, 3, 2, 9, 210, m0),
   (10, .aload_n 0, 1, 0, 0, 0, m0),
   (11, .getfield 12, 3, 0, 9, 207, m0),
   (14, .aload_n 1, 1, 0, 0, 0, m0),
   (15, .iload_n 2, 1, 0, 0, 0, m0),
   (16, .invokevirtual 31, 3, 0, 0, 848, m_Tokens_start),
   (19, .iconst 0, 1, 0, 0, 0, m0),
   (20, .istore 5, 2, 0, 0, 0, m0),
   (22, .nop, 0, 0, 0, 0, m0)]),
  (22, [0, 2, 3, 4, 5], true, [(22, .iload 5, 2, 0, 0, 0, m0),
   (24, .iload_n 2, 1, 0, 0, 0, m0),
   (25, .if_icmp .gt 63, 3, 88, 0, 0, m0),
   (28, .nop, 0, 0, 0, 0, m0)]),
  (28, [], false, [(28, .aload_n 0, 1, 0, 0, 0, m0),
   (29, .getfield 12, 3, 0, 9, 207, m0),
   (32, .getfield 35, 3, 3, 5, 151, m0),
   (35, .ifCond .eq 53, 3, 88, 0, 0, m0),
   (38, .nop, 0, 0, 0, 0, m0)]),
  (38, [], false, [(38, .aload_n 0, 1, 0, 0, 0, m0),
   (39, .getfield 12, 3, 0, 9, 207, m0),
   (42, .getfield 38, 3, 8, 5, 162, m0),
   (45, .bipush 20, 2, 0, 0, 0, m0),
   (47, .if_icmp .ne 12, 3, 59, 0, 0, m0),
   (50, .nop, 0, 0, 0, 0, m0)]),
  (50, [], false, [(50, .aload_n 0, 1, 0, 0, 0, m0),
   (51, .aload 4, 2, 0, 0, 0, m0),
   (53, .invokevirtual 41, 3, 0, 0, 849, m_YReader_readEnd),
   (56, .goto 10, 3, 66, 0, 0, m0)]),
  (59, [], false, [(59, .aload_n 0, 1, 0, 0, 0, m0),
   (60, .aload_n 3, 1, 0, 0, 0, m0),
   (61, .aload 4, 2, 0, 0, 0, m0),
   (63, .invokevirtual 45, 3, 0, 0, 859, m_YReader_readStep),
   (66, .nop, 0, 0, 0, 0, m0)]),
  (66, [], false, [(66, .istore 6, 2, 0, 0, 0, m0),
   (68, .iload 6, 2, 0, 0, 0, m0),
   (70, .ifCond .ne 5, 3, 75, 0, 0, m0),
   (73, .nop, 0, 0, 0, 0, m0)]),
  (73, [], false, [(73, .iconst 0, 1, 0, 0, 0, m0),
   (74, .ireturn, 1, 0, 0, 0, m0)]),
  (75, [], false, [(75, .aload_n 0, 1, 0, 0, 0, m0),
   (76, .getfield 12, 3, 0, 9, 207, m0),
   (79, .invokevirtual 49, 3, 0, 0, 874, m_Tokens_advance),
   (82, .iinc 5 1, 3, 0, 0, 0, m0),
   (85, .goto (-63), 3, 22, 0, 0, m0)]),
  (88, [], false, [(88, .aload 4, 2, 0, 0, 0, m0),
   (90, .iconst 1, 1, 0, 0, 0, m0),
   (91, .putfield 52, 3, 8, 8, 365, m0),
   (94, .aload_n 0, 1, 0, 0, 0, m0),
   (95, .getfield 22, 3, 2, 9, 210, m0),
   (98, .ifCond .eq 14, 3, 112, 0, 0, m0),
   (101, .nop, 0, 0, 0, 0, m0)]),
  (101, [], false, [(101, .aload_n 0, 1, 0, 0, 0, m0),
   (102, .getfield 12, 3, 0, 9, 207, m0),
   (105, .iconst 2, 1, 0, 0, 0, m0),
   (106, .invokevirtual 56, 3, 0, 0, 853, m_Tokens_refuse),
   (109, .ifCond .eq 7, 3, 116, 0, 0, m0),
   (112, .nop, 0, 0, 0, 0, m0)]),
  (112, [], false, [(112, .iconst 1, 1, 0, 0, 0, m0),
   (113, .goto 4, 3, 117, 0, 0, m0)]),
  (116, [], false, [(116, .iconst 0, 1, 0, 0, 0, m0),
   (117, .nop, 0, 0, 0, 0, m0)]),
  (117, [], false, [(117, .ireturn, 1, 0, 0, 0, m0)])]
theorem ok_YReader_readAll : okBt m_YReader_readAll bt_YReader_readAll = true := by decide +kernel
set_option maxRecDepth 100000 in
theorem b_YReader_readAll_0 {l : Launch} {E : EnvT} {d : Nat} {K : AV → Mem → Prop} {M : Mem} {r3 r4 : Nat} {x2 : Int32} (hd : 1 ≤ d)
  (h : CT l E (d - 1) m_Years_forget [(.ref r4, 23)] M (fun v1 M1 =>
   CT l E (d - 1) m_Tokens_start [(.ref 4, 4), (.ref 0, 2), (.int x2, 0)] (upd3 M1 3 0 2 ((iN 0)).toInt) (fun v2 M2 =>
    G l E d m_YReader_readAll 22 [(0, (.ref 3, 6)), (2, (.int x2, 0)), (3, (.ref r3, 11)), (4, (.ref r4, 23)), (5, (.int (iN 0), 0))] [] M2 K))) :
  G l E d m_YReader_readAll 0 [(0, (.ref 3, 6)), (1, (.ref 0, 2)), (2, (.int x2, 0)), (3, (.ref r3, 11)), (4, (.ref r4, 23))] [] M K := G.blk 60 _ hd ok_YReader_readAll rfl h
set_option maxRecDepth 100000 in
theorem b_YReader_readAll_22 {l : Launch} {E : EnvT} {d : Nat} {K : AV → Mem → Prop} {M : Mem} {r3 r4 : Nat} {x2 : Int32} {x5 : Int32} (hd : 1 ≤ d)
  (h : ((x2 < x5 →
   (((iN 1) = 0 ∨ (iN 1) = 1) ∧ (((iN ((upd3 M r4 0 8 ((iN 1)).toInt) 3 0 2)) = 0 →
    ((((iN 1) = 0 ∨ (iN 1) = 1)) ∧ K (.int (iN 1), 0) (upd3 M r4 0 8 ((iN 1)).toInt))) ∧
   (¬ (iN ((upd3 M r4 0 8 ((iN 1)).toInt) 3 0 2)) = 0 →
    CT l E (d - 1) m_Tokens_refuse [(.ref 4, 4), (.int (iN 2), 0)] (upd3 M r4 0 8 ((iN 1)).toInt) (fun v1 M1 =>
     (((toI v1) = 0 →
      ((((iN 0) = 0 ∨ (iN 0) = 1)) ∧ K (.int (iN 0), 0) M1)) ∧
     (¬ (toI v1) = 0 →
      ((((iN 1) = 0 ∨ (iN 1) = 1)) ∧ K (.int (iN 1), 0) M1)))))))) ∧
  (¬ x2 < x5 →
   (((iN (M 4 0 3)) = 0 →
    (((iN 1) = 0 ∨ (iN 1) = 1) ∧ (((iN ((upd3 M r4 0 8 ((iN 1)).toInt) 3 0 2)) = 0 →
     ((((iN 1) = 0 ∨ (iN 1) = 1)) ∧ K (.int (iN 1), 0) (upd3 M r4 0 8 ((iN 1)).toInt))) ∧
    (¬ (iN ((upd3 M r4 0 8 ((iN 1)).toInt) 3 0 2)) = 0 →
     CT l E (d - 1) m_Tokens_refuse [(.ref 4, 4), (.int (iN 2), 0)] (upd3 M r4 0 8 ((iN 1)).toInt) (fun v2 M2 =>
      (((toI v2) = 0 →
       ((((iN 0) = 0 ∨ (iN 0) = 1)) ∧ K (.int (iN 0), 0) M2)) ∧
      (¬ (toI v2) = 0 →
       ((((iN 1) = 0 ∨ (iN 1) = 1)) ∧ K (.int (iN 1), 0) M2)))))))) ∧
   (¬ (iN (M 4 0 3)) = 0 →
    ((¬ (iN (M 4 0 8)) = (iN 20) →
     CT l E (d - 1) m_YReader_readStep [(.ref 3, 6), (.ref r3, 11), (.ref r4, 23)] M (fun v3 M3 =>
      ((¬ (toI v3) = 0 →
       CT l E (d - 1) m_Tokens_advance [(.ref 4, 4)] M3 (fun v4 M4 =>
        G l E d m_YReader_readAll 22 [(0, (.ref 3, 6)), (2, (.int x2, 0)), (3, (.ref r3, 11)), (4, (.ref r4, 23)), (5, (.int (x5 + iN 1), 0))] [] M4 K)) ∧
      ((toI v3) = 0 →
       ((((iN 0) = 0 ∨ (iN 0) = 1)) ∧ K (.int (iN 0), 0) M3))))) ∧
    ((iN (M 4 0 8)) = (iN 20) →
     CT l E (d - 1) m_YReader_readEnd [(.ref 3, 6), (.ref r4, 23)] M (fun v5 M5 =>
      ((¬ (toI v5) = 0 →
       CT l E (d - 1) m_Tokens_advance [(.ref 4, 4)] M5 (fun v6 M6 =>
        G l E d m_YReader_readAll 22 [(0, (.ref 3, 6)), (2, (.int x2, 0)), (3, (.ref r3, 11)), (4, (.ref r4, 23)), (5, (.int (x5 + iN 1), 0))] [] M6 K)) ∧
      ((toI v5) = 0 →
       ((((iN 0) = 0 ∨ (iN 0) = 1)) ∧ K (.int (iN 0), 0) M5))))))))))) :
  G l E d m_YReader_readAll 22 [(0, (.ref 3, 6)), (2, (.int x2, 0)), (3, (.ref r3, 11)), (4, (.ref r4, 23)), (5, (.int x5, 0))] [] M K := G.blk 60 _ hd ok_YReader_readAll rfl h
end
section
def bt_FN_status : BtT := [(0, [0], true, [(0, .aload_n 0, 1, 0, 0, 0, m0),
   (1, .getfield 80, 3, 13, 10, 505, m0),
   (4, .ireturn, 1, 0, 0, 0, m0)])]
theorem ok_FN_status : okBt m_FN_status bt_FN_status = true := by decide +kernel
set_option maxRecDepth 100000 in
theorem b_FN_status_0 {l : Launch} {E : EnvT} {d : Nat} {K : AV → Mem → Prop} {M : Mem}  (hd : 1 ≤ d)
  (h : K (.int (iN (M 0 0 13)), 0) M) :
  G l E d m_FN_status 0 [(0, (.ref 0, 0))] [] M K := G.blk 60 _ hd ok_FN_status rfl h
def bt_FN_top : BtT := [(0, [0], true, [(0, .aload_n 0, 1, 0, 0, 0, m0),
   (1, .getfield 84, 3, 14, 10, 506, m0),
   (4, .lreturn, 1, 0, 0, 0, m0)])]
theorem ok_FN_top : okBt m_FN_top bt_FN_top = true := by decide +kernel
set_option maxRecDepth 100000 in
theorem b_FN_top_0 {l : Launch} {E : EnvT} {d : Nat} {K : AV → Mem → Prop} {M : Mem}  (hd : 1 ≤ d)
  (h : K (.long (lI (M 0 0 14)), 0) M) :
  G l E d m_FN_top 0 [(0, (.ref 0, 0))] [] M K := G.blk 60 _ hd ok_FN_top rfl h
def bt_FN_bottom : BtT := [(0, [0], true, [(0, .aload_n 0, 1, 0, 0, 0, m0),
   (1, .getfield 88, 3, 15, 10, 507, m0),
   (4, .lreturn, 1, 0, 0, 0, m0)])]
theorem ok_FN_bottom : okBt m_FN_bottom bt_FN_bottom = true := by decide +kernel
set_option maxRecDepth 100000 in
theorem b_FN_bottom_0 {l : Launch} {E : EnvT} {d : Nat} {K : AV → Mem → Prop} {M : Mem}  (hd : 1 ≤ d)
  (h : K (.long (lI (M 0 0 15)), 0) M) :
  G l E d m_FN_bottom 0 [(0, (.ref 0, 0))] [] M K := G.blk 60 _ hd ok_FN_bottom rfl h
def bt_FN_isTray : BtT := [(0, [0], true, [(0, .iload_n 0, 1, 0, 0, 0, m0),
   (1, .ifCond .lt 12, 3, 13, 0, 0, m0),
   (4, .nop, 0, 0, 0, 0, m0)]),
  (4, [], false, [(4, .iload_n 0, 1, 0, 0, 0, m0),
   (5, .iconst 4, 1, 0, 0, 0, m0),
   (6, .if_icmp .ge 7, 3, 13, 0, 0, m0),
   (9, .nop, 0, 0, 0, 0, m0)]),
  (9, [], false, [(9, .iconst 1, 1, 0, 0, 0, m0),
   (10, .goto 4, 3, 14, 0, 0, m0)]),
  (13, [], false, [(13, .iconst 0, 1, 0, 0, 0, m0),
   (14, .nop, 0, 0, 0, 0, m0)]),
  (14, [], false, [(14, .ireturn, 1, 0, 0, 0, m0)])]
theorem ok_FN_isTray : okBt m_FN_isTray bt_FN_isTray = true := by decide +kernel
set_option maxRecDepth 100000 in
theorem b_FN_isTray_0 {l : Launch} {E : EnvT} {d : Nat} {K : AV → Mem → Prop} {M : Mem} {x0 : Int32} (hd : 1 ≤ d)
  (h : ((x0 < 0 →
   ((((iN 0) = 0 ∨ (iN 0) = 1)) ∧ K (.int (iN 0), 0) M)) ∧
  (¬ x0 < 0 →
   (((iN 4) ≤ x0 →
    ((((iN 0) = 0 ∨ (iN 0) = 1)) ∧ K (.int (iN 0), 0) M)) ∧
   (¬ (iN 4) ≤ x0 →
    ((((iN 1) = 0 ∨ (iN 1) = 1)) ∧ K (.int (iN 1), 0) M)))))) :
  G l E d m_FN_isTray 0 [(0, (.int x0, 0))] [] M K := G.blk 60 _ hd ok_FN_isTray rfl h
def bt_FN_deny : BtT := [(0, [0, 1], true, [(0, .aload_n 0, 1, 0, 0, 0, m0),
   (1, .iload_n 1, 1, 0, 0, 0, m0),
   (2, .putfield 80, 3, 13, 10, 505, m0),
   (5, .iconst 0, 1, 0, 0, 0, m0),
   (6, .ireturn, 1, 0, 0, 0, m0)])]
theorem ok_FN_deny : okBt m_FN_deny bt_FN_deny = true := by decide +kernel
set_option maxRecDepth 100000 in
theorem b_FN_deny_0 {l : Launch} {E : EnvT} {d : Nat} {K : AV → Mem → Prop} {M : Mem} {x1 : Int32} (hd : 1 ≤ d)
  (h : ((((iN 0) = 0 ∨ (iN 0) = 1)) ∧ K (.int (iN 0), 0) (upd3 M 0 0 13 (x1).toInt))) :
  G l E d m_FN_deny 0 [(0, (.ref 0, 0)), (1, (.int x1, 0))] [] M K := G.blk 60 _ hd ok_FN_deny rfl h
def bt_FN_agree : BtT := [(0, [0], true, [(0, .aload_n 0, 1, 0, 0, 0, m0),
   (1, .iconst 0, 1, 0, 0, 0, m0),
   (2, .putfield 80, 3, 13, 10, 505, m0),
   (5, .iconst 1, 1, 0, 0, 0, m0),
   (6, .ireturn, 1, 0, 0, 0, m0)])]
theorem ok_FN_agree : okBt m_FN_agree bt_FN_agree = true := by decide +kernel
set_option maxRecDepth 100000 in
theorem b_FN_agree_0 {l : Launch} {E : EnvT} {d : Nat} {K : AV → Mem → Prop} {M : Mem}  (hd : 1 ≤ d)
  (h : ((((iN 1) = 0 ∨ (iN 1) = 1)) ∧ K (.int (iN 1), 0) (upd3 M 0 0 13 ((iN 0)).toInt))) :
  G l E d m_FN_agree 0 [(0, (.ref 0, 0))] [] M K := G.blk 60 _ hd ok_FN_agree rfl h
def bt_FN_tray : BtT := [(0, [0, 1, 2, 3], true, [(0, .iload_n 1, 1, 0, 0, 0, m0),
   (1, .invokestatic 101, 3, 0, 0, 566, m_FN_isTray),
   (4, .ifCond .eq 22, 3, 26, 0, 0, m0),
   (7, .nop, 0, 0, 0, 0, m0)]),
  (7, [], false, [(7, .iload_n 2, 1, 0, 0, 0, m0),
   (8, .ifCond .lt 18, 3, 26, 0, 0, m0),
   (11, .nop, 0, 0, 0, 0, m0)]),
  (11, [], false, [(11, .iload_n 2, 1, 0, 0, 0, m0),
   (12, .iconst 3, 1, 0, 0, 0, m0),
   (13, .if_icmp .gt 13, 3, 26, 0, 0, m0),
   (16, .nop, 0, 0, 0, 0, m0)]),
  (16, [], false, [(16, .iload_n 3, 1, 0, 0, 0, m0),
   (17, .ifCond .lt 9, 3, 26, 0, 0, m0),
   (20, .nop, 0, 0, 0, 0, m0)]),
  (20, [], false, [(20, .iload_n 3, 1, 0, 0, 0, m0),
   (21, .bipush 60, 2, 0, 0, 0, m0),
   (23, .if_icmp .le 9, 3, 32, 0, 0, m0),
   (26, .nop, 0, 0, 0, 0, m0)]),
  (26, [], false, [(26, .aload_n 0, 1, 0, 0, 0, m0),
   (27, .iconst 1, 1, 0, 0, 0, m0),
   (28, .invokevirtual 105, 3, 0, 0, 569, m_FN_deny),
   (31, .ireturn, 1, 0, 0, 0, m0)]),
  (32, [], false, [(32, .aload_n 0, 1, 0, 0, 0, m0),
   (33, .getfield 11, 3, 0, 10, 492, m0),
   (36, .iload_n 1, 1, 0, 0, 0, m0),
   (37, .aaload, 1, 0, 0, 0, m0),
   (38, .iload_n 2, 1, 0, 0, 0, m0),
   (39, .iload_n 3, 1, 0, 0, 0, m0),
   (40, .invokevirtual 108, 3, 0, 0, 573, m_Tray_make),
   (43, .aload_n 0, 1, 0, 0, 0, m0),
   (44, .invokevirtual 112, 3, 0, 0, 580, m_FN_agree),
   (47, .ireturn, 1, 0, 0, 0, m0)])]
theorem ok_FN_tray : okBt m_FN_tray bt_FN_tray = true := by decide +kernel
set_option maxRecDepth 100000 in
theorem b_FN_tray_0 {l : Launch} {E : EnvT} {d : Nat} {K : AV → Mem → Prop} {M : Mem} {x1 : Int32} {x2 : Int32} {x3 : Int32} (hd : 1 ≤ d)
  (h : CT l E (d - 1) m_FN_isTray [(.int x1, 0)] M (fun v1 M1 =>
   (((toI v1) = 0 →
    CT l E (d - 1) m_FN_deny [(.ref 0, 0), (.int (iN 1), 0)] M1 (fun v2 M2 =>
     ((((toI v2) = 0 ∨ (toI v2) = 1)) ∧ K (.int (toI v2), 0) M2))) ∧
   (¬ (toI v1) = 0 →
    ((x2 < 0 →
     CT l E (d - 1) m_FN_deny [(.ref 0, 0), (.int (iN 1), 0)] M1 (fun v3 M3 =>
      ((((toI v3) = 0 ∨ (toI v3) = 1)) ∧ K (.int (toI v3), 0) M3))) ∧
    (¬ x2 < 0 →
     (((iN 3) < x2 →
      CT l E (d - 1) m_FN_deny [(.ref 0, 0), (.int (iN 1), 0)] M1 (fun v4 M4 =>
       ((((toI v4) = 0 ∨ (toI v4) = 1)) ∧ K (.int (toI v4), 0) M4))) ∧
     (¬ (iN 3) < x2 →
      ((x3 < 0 →
       CT l E (d - 1) m_FN_deny [(.ref 0, 0), (.int (iN 1), 0)] M1 (fun v5 M5 =>
        ((((toI v5) = 0 ∨ (toI v5) = 1)) ∧ K (.int (toI v5), 0) M5))) ∧
      (¬ x3 < 0 →
       ((x3 ≤ (iN 60) →
        (vp_in x1 4 ∧ CT l E (d - 1) m_Tray_make [(.ref ([(20, 39), (21, 39), (22, 39), (23, 39)].getD (x1).toNatClampNeg (0, 0)).1, 39), (.int x2, 0), (.int x3, 0)] M1 (fun v6 M6 =>
         CT l E (d - 1) m_FN_agree [(.ref 0, 0)] M6 (fun v7 M7 =>
          ((((toI v7) = 0 ∨ (toI v7) = 1)) ∧ K (.int (toI v7), 0) M7))))) ∧
       (¬ x3 ≤ (iN 60) →
        CT l E (d - 1) m_FN_deny [(.ref 0, 0), (.int (iN 1), 0)] M1 (fun v8 M8 =>
         ((((toI v8) = 0 ∨ (toI v8) = 1)) ∧ K (.int (toI v8), 0) M8)))))))))))))) :
  G l E d m_FN_tray 0 [(0, (.ref 0, 0)), (1, (.int x1, 0)), (2, (.int x2, 0)), (3, (.int x3, 0))] [] M K := G.blk 60 _ hd ok_FN_tray rfl h
def bt_FN_cellStatus : BtT := [(0, [0, 1, 2], true, [(0, .iload_n 1, 1, 0, 0, 0, m0),
   (1, .invokestatic 101, 3, 0, 0, 566, m_FN_isTray),
   (4, .ifCond .ne 5, 3, 9, 0, 0, m0),
   (7, .nop, 0, 0, 0, 0, m0)]),
  (7, [], false, [(7, .iconst 1, 1, 0, 0, 0, m0),
   (8, .ireturn, 1, 0, 0, 0, m0)]),
  (9, [], false, [(9, .aload_n 0, 1, 0, 0, 0, m0),
   (10, .getfield 11, 3, 0, 10, 492, m0),
   (13, .iload_n 1, 1, 0, 0, 0, m0),
   (14, .aaload, 1, 0, 0, 0, m0),
   (15, .invokevirtual 132, 3, 0, 0, 592, m_Tray_isMissing),
   (18, .ifCond .eq 5, 3, 23, 0, 0, m0),
   (21, .nop, 0, 0, 0, 0, m0)]),
  (21, [], false, [(21, .iconst 2, 1, 0, 0, 0, m0),
   (22, .ireturn, 1, 0, 0, 0, m0)]),
  (23, [], false, [(23, .iload_n 2, 1, 0, 0, 0, m0),
   (24, .ifCond .lt 20, 3, 44, 0, 0, m0),
   (27, .nop, 0, 0, 0, 0, m0)]),
  (27, [], false, [(27, .iload_n 2, 1, 0, 0, 0, m0),
   (28, .aload_n 0, 1, 0, 0, 0, m0),
   (29, .getfield 11, 3, 0, 10, 492, m0),
   (32, .iload_n 1, 1, 0, 0, 0, m0),
   (33, .aaload, 1, 0, 0, 0, m0),
   (34, .getfield 428, 3, 2, 6, 484, m0),
   (37, .if_icmp .ge 7, 3, 44, 0, 0, m0),
   (40, .nop, 0, 0, 0, 0, m0)]),
  (40, [], false, [(40, .iconst 0, 1, 0, 0, 0, m0),
   (41, .goto 4, 3, 45, 0, 0, m0)]),
  (44, [], false, [(44, .iconst 3, 1, 0, 0, 0, m0),
   (45, .nop, 0, 0, 0, 0, m0)]),
  (45, [], false, [(45, .ireturn, 1, 0, 0, 0, m0)])]
theorem ok_FN_cellStatus : okBt m_FN_cellStatus bt_FN_cellStatus = true := by decide +kernel
set_option maxRecDepth 100000 in
theorem b_FN_cellStatus_0 {l : Launch} {E : EnvT} {d : Nat} {K : AV → Mem → Prop} {M : Mem} {x1 : Int32} {x2 : Int32} (hd : 1 ≤ d)
  (h : CT l E (d - 1) m_FN_isTray [(.int x1, 0)] M (fun v1 M1 =>
   ((¬ (toI v1) = 0 →
    (vp_in x1 4 ∧ CT l E (d - 1) m_Tray_isMissing [(.ref ([(20, 39), (21, 39), (22, 39), (23, 39)].getD (x1).toNatClampNeg (0, 0)).1, 39)] M1 (fun v2 M2 =>
     (((toI v2) = 0 →
      ((x2 < 0 →
       K (.int (iN 3), 0) M2) ∧
      (¬ x2 < 0 →
       (vp_in x1 4 ∧ (((iN (M2 ([(20, 39), (21, 39), (22, 39), (23, 39)].getD (x1).toNatClampNeg (0, 0)).1 0 2)) ≤ x2 →
        K (.int (iN 3), 0) M2) ∧
       (¬ (iN (M2 ([(20, 39), (21, 39), (22, 39), (23, 39)].getD (x1).toNatClampNeg (0, 0)).1 0 2)) ≤ x2 →
        K (.int (iN 0), 0) M2)))))) ∧
     (¬ (toI v2) = 0 →
      K (.int (iN 2), 0) M2))))) ∧
   ((toI v1) = 0 →
    K (.int (iN 1), 0) M1)))) :
  G l E d m_FN_cellStatus 0 [(0, (.ref 0, 0)), (1, (.int x1, 0)), (2, (.int x2, 0))] [] M K := G.blk 60 _ hd ok_FN_cellStatus rfl h
def bt_FN_write : BtT := [(0, [0, 1, 2, 3], true, [(0, .aload_n 0, 1, 0, 0, 0, m0),
   (1, .iload_n 1, 1, 0, 0, 0, m0),
   (2, .iload_n 2, 1, 0, 0, 0, m0),
   (3, .invokevirtual 116, 3, 0, 0, 588, m_FN_cellStatus),
   (6, .istore 5, 2, 0, 0, 0, m0),
   (8, .iload 5, 2, 0, 0, 0, m0),
   (10, .ifCond .eq 10, 3, 20, 0, 0, m0),
   (13, .nop, 0, 0, 0, 0, m0)]),
  (13, [], false, [(13, .aload_n 0, 1, 0, 0, 0, m0),
   (14, .iload 5, 2, 0, 0, 0, m0),
   (16, .invokevirtual 105, 3, 0, 0, 569, m_FN_deny),
   (19, .ireturn, 1, 0, 0, 0, m0)]),
  (20, [], false, [(20, .aload_n 0, 1, 0, 0, 0, m0),
   (21, .getfield 11, 3, 0, 10, 492, m0),
   (24, .iload_n 1, 1, 0, 0, 0, m0),
   (25, .aaload, 1, 0, 0, 0, m0),
   (26, .iload_n 2, 1, 0, 0, 0, m0),
   (27, .lload_n 3, 1, 0, 0, 0, m0),
   (28, .invokevirtual 120, 3, 0, 0, 596, m_Tray_put),
   (31, .aload_n 0, 1, 0, 0, 0, m0),
   (32, .invokevirtual 112, 3, 0, 0, 580, m_FN_agree),
   (35, .ireturn, 1, 0, 0, 0, m0)])]
theorem ok_FN_write : okBt m_FN_write bt_FN_write = true := by decide +kernel
set_option maxRecDepth 100000 in
theorem b_FN_write_0 {l : Launch} {E : EnvT} {d : Nat} {K : AV → Mem → Prop} {M : Mem} {x1 : Int32} {x2 : Int32} {x3 : Int64} (hd : 1 ≤ d)
  (h : CT l E (d - 1) m_FN_cellStatus [(.ref 0, 0), (.int x1, 0), (.int x2, 0)] M (fun v1 M1 =>
   (((toI v1) = 0 →
    (vp_in x1 4 ∧ CT l E (d - 1) m_Tray_put [(.ref ([(20, 39), (21, 39), (22, 39), (23, 39)].getD (x1).toNatClampNeg (0, 0)).1, 39), (.int x2, 0), (.long x3, 0)] M1 (fun v2 M2 =>
     CT l E (d - 1) m_FN_agree [(.ref 0, 0)] M2 (fun v3 M3 =>
      ((((toI v3) = 0 ∨ (toI v3) = 1)) ∧ K (.int (toI v3), 0) M3))))) ∧
   (¬ (toI v1) = 0 →
    CT l E (d - 1) m_FN_deny [(.ref 0, 0), (.int (toI v1), 0)] M1 (fun v4 M4 =>
     ((((toI v4) = 0 ∨ (toI v4) = 1)) ∧ K (.int (toI v4), 0) M4)))))) :
  G l E d m_FN_write 0 [(0, (.ref 0, 0)), (1, (.int x1, 0)), (2, (.int x2, 0)), (3, (.long x3, 0))] [] M K := G.blk 60 _ hd ok_FN_write rfl h
def bt_FN_refuse : BtT := [(0, [0, 1], true, [(0, .aload_n 0, 1, 0, 0, 0, m0),
   (1, .iload_n 1, 1, 0, 0, 0, m0),
   (2, .putfield 80, 3, 13, 10, 505, m0),
   (5, .iconst (-1), 1, 0, 0, 0, m0),
   (6, .ireturn, 1, 0, 0, 0, m0)])]
theorem ok_FN_refuse : okBt m_FN_refuse bt_FN_refuse = true := by decide +kernel
set_option maxRecDepth 100000 in
theorem b_FN_refuse_0 {l : Launch} {E : EnvT} {d : Nat} {K : AV → Mem → Prop} {M : Mem} {x1 : Int32} (hd : 1 ≤ d)
  (h : K (.int (iN (-1)), 0) (upd3 M 0 0 13 (x1).toInt)) :
  G l E d m_FN_refuse 0 [(0, (.ref 0, 0)), (1, (.int x1, 0))] [] M K := G.blk 60 _ hd ok_FN_refuse rfl h
def bt_FN_read : BtT := [(0, [0, 1, 2], true, [(0, .aload_n 0, 1, 0, 0, 0, m0),
   (1, .iload_n 1, 1, 0, 0, 0, m0),
   (2, .iload_n 2, 1, 0, 0, 0, m0),
   (3, .invokevirtual 116, 3, 0, 0, 588, m_FN_cellStatus),
   (6, .istore_n 3, 1, 0, 0, 0, m0),
   (7, .iload_n 3, 1, 0, 0, 0, m0),
   (8, .ifCond .eq 10, 3, 18, 0, 0, m0),
   (11, .nop, 0, 0, 0, 0, m0)]),
  (11, [], false, [(11, .aload_n 0, 1, 0, 0, 0, m0),
   (12, .iload_n 3, 1, 0, 0, 0, m0),
   (13, .invokevirtual 124, 3, 0, 0, 608, m_FN_refuse),
   (16, .i2l, 1, 0, 0, 0, m0),
   (17, .lreturn, 1, 0, 0, 0, m0)]),
  (18, [], false, [(18, .aload_n 0, 1, 0, 0, 0, m0),
   (19, .iconst 0, 1, 0, 0, 0, m0),
   (20, .putfield 80, 3, 13, 10, 505, m0),
   (23, .aload_n 0, 1, 0, 0, 0, m0),
   (24, .getfield 11, 3, 0, 10, 492, m0),
   (27, .iload_n 1, 1, 0, 0, 0, m0),
   (28, .aaload, 1, 0, 0, 0, m0),
   (29, .getfield 128, 3, 0, 6, 480, m0),
   (32, .iload_n 2, 1, 0, 0, 0, m0),
   (33, .laload, 1, 0, 0, 0, m0),
   (34, .lreturn, 1, 0, 0, 0, m0)])]
theorem ok_FN_read : okBt m_FN_read bt_FN_read = true := by decide +kernel
set_option maxRecDepth 100000 in
theorem b_FN_read_0 {l : Launch} {E : EnvT} {d : Nat} {K : AV → Mem → Prop} {M : Mem} {x1 : Int32} {x2 : Int32} (hd : 1 ≤ d)
  (h : CT l E (d - 1) m_FN_cellStatus [(.ref 0, 0), (.int x1, 0), (.int x2, 0)] M (fun v1 M1 =>
   (((toI v1) = 0 →
    (vp_in x1 4 ∧ vp_in x2 60 ∧ K (.long (lI ((upd3 M1 0 0 13 ((iN 0)).toInt) ([(20, 39), (21, 39), (22, 39), (23, 39)].getD (x1).toNatClampNeg (0, 0)).1 1 (x2).toNatClampNeg)), 0) (upd3 M1 0 0 13 ((iN 0)).toInt))) ∧
   (¬ (toI v1) = 0 →
    CT l E (d - 1) m_FN_refuse [(.ref 0, 0), (.int (toI v1), 0)] M1 (fun v2 M2 =>
     K (.long ((toI v2)).toInt64, 0) M2))))) :
  G l E d m_FN_read 0 [(0, (.ref 0, 0)), (1, (.int x1, 0)), (2, (.int x2, 0))] [] M K := G.blk 60 _ hd ok_FN_read rfl h
def bt_FN_pour : BtT := [(0, [0, 1, 2, 3, 4, 5], true, [(0, .iload_n 1, 1, 0, 0, 0, m0),
   (1, .invokestatic 101, 3, 0, 0, 566, m_FN_isTray),
   (4, .ifCond .eq 24, 3, 28, 0, 0, m0),
   (7, .nop, 0, 0, 0, 0, m0)]),
  (7, [], false, [(7, .iload_n 3, 1, 0, 0, 0, m0),
   (8, .invokestatic 101, 3, 0, 0, 566, m_FN_isTray),
   (11, .ifCond .eq 17, 3, 28, 0, 0, m0),
   (14, .nop, 0, 0, 0, 0, m0)]),
  (14, [], false, [(14, .iload_n 2, 1, 0, 0, 0, m0),
   (15, .ifCond .lt 13, 3, 28, 0, 0, m0),
   (18, .nop, 0, 0, 0, 0, m0)]),
  (18, [], false, [(18, .iload 4, 2, 0, 0, 0, m0),
   (20, .ifCond .lt 8, 3, 28, 0, 0, m0),
   (23, .nop, 0, 0, 0, 0, m0)]),
  (23, [], false, [(23, .iload 5, 2, 0, 0, 0, m0),
   (25, .ifCond .ge 9, 3, 34, 0, 0, m0),
   (28, .nop, 0, 0, 0, 0, m0)]),
  (28, [], false, [(28, .aload_n 0, 1, 0, 0, 0, m0),
   (29, .iconst 1, 1, 0, 0, 0, m0),
   (30, .invokevirtual 105, 3, 0, 0, 569, m_FN_deny),
   (33, .ireturn, 1, 0, 0, 0, m0)]),
  (34, [], false, [(34, .aload_n 0, 1, 0, 0, 0, m0),
   (35, .getfield 11, 3, 0, 10, 492, m0),
   (38, .iload_n 1, 1, 0, 0, 0, m0),
   (39, .aaload, 1, 0, 0, 0, m0),
   (40, .astore 6, 2, 0, 0, 0, m0),
   (42, .aload_n 0, 1, 0, 0, 0, m0),
   (43, .getfield 11, 3, 0, 10, 492, m0),
   (46, .iload_n 3, 1, 0, 0, 0, m0),
   (47, .aaload, 1, 0, 0, 0, m0),
   (48, .astore 7, 2, 0, 0, 0, m0),
   (50, .aload 6, 2, 0, 0, 0, m0),
   (52, .invokevirtual 132, 3, 0, 0, 592, m_Tray_isMissing),
   (55, .ifCond .ne 11, 3, 66, 0, 0, m0),
   (58, .nop, 0, 0, 0, 0, m0)]),
  (58, [], false, [(58, .aload 7, 2, 0, 0, 0, m0),
   (60, .invokevirtual 132, 3, 0, 0, 592, m_Tray_isMissing),
   (63, .ifCond .eq 9, 3, 72, 0, 0, m0),
   (66, .nop, 0, 0, 0, 0, m0)]),
  (66, [], false, [(66, .aload_n 0, 1, 0, 0, 0, m0),
   (67, .iconst 2, 1, 0, 0, 0, m0),
   (68, .invokevirtual 105, 3, 0, 0, 569, m_FN_deny),
   (71, .ireturn, 1, 0, 0, 0, m0)]),
  (72, [], false, [(72, .aload 6, 2, 0, 0, 0, m0),
   (74, .getfield 135, 3, 1, 6, 482, m0),
   (77, .aload 7, 2, 0, 0, 0, m0),
   (79, .getfield 135, 3, 1, 6, 482, m0),
   (82, .if_icmp .eq 10, 3, 92, 0, 0, m0),
   (85, .nop, 0, 0, 0, 0, m0)]),
  (85, [], false, [(85, .aload_n 0, 1, 0, 0, 0, m0),
   (86, .bipush 8, 2, 0, 0, 0, m0),
   (88, .invokevirtual 105, 3, 0, 0, 569, m_FN_deny),
   (91, .ireturn, 1, 0, 0, 0, m0)]),
  (92, [], false, [(92, .aload 6, 2, 0, 0, 0, m0),
   (94, .iload_n 2, 1, 0, 0, 0, m0),
   (95, .iload 5, 2, 0, 0, 0, m0),
   (97, .invokevirtual 138, 3, 0, 0, 616, m_Tray_hasRow),
   (100, .ifCond .eq 15, 3, 115, 0, 0, m0),
   (103, .nop, 0, 0, 0, 0, m0)]),
  (103, [], false, [(103, .aload 7, 2, 0, 0, 0, m0),
   (105, .iload 4, 2, 0, 0, 0, m0),
   (107, .iload 5, 2, 0, 0, 0, m0),
   (109, .invokevirtual 138, 3, 0, 0, 616, m_Tray_hasRow),
   (112, .ifCond .ne 9, 3, 121, 0, 0, m0),
   (115, .nop, 0, 0, 0, 0, m0)]),
  (115, [], false, [(115, .aload_n 0, 1, 0, 0, 0, m0),
   (116, .iconst 3, 1, 0, 0, 0, m0),
   (117, .invokevirtual 105, 3, 0, 0, 569, m_FN_deny),
   (120, .ireturn, 1, 0, 0, 0, m0)]),
  (121, [], false, [(121, .aload 6, 2, 0, 0, 0, m0),
   (123, .getfield 128, 3, 0, 6, 480, m0),
   (126, .iload_n 2, 1, 0, 0, 0, m0),
   (127, .aload 7, 2, 0, 0, 0, m0),
   (129, .getfield 128, 3, 0, 6, 480, m0),
   (132, .iload 4, 2, 0, 0, 0, m0),
   (134, .iload 5, 2, 0, 0, 0, m0),
   (136, .invokestatic 142, 3, 0, 0, 620, m_copy),
   (139, .aload_n 0, 1, 0, 0, 0, m0),
   (140, .invokevirtual 112, 3, 0, 0, 580, m_FN_agree),
   (143, .ireturn, 1, 0, 0, 0, m0)])]
theorem ok_FN_pour : okBt m_FN_pour bt_FN_pour = true := by decide +kernel
set_option maxRecDepth 100000 in
theorem b_FN_pour_0 {l : Launch} {E : EnvT} {d : Nat} {K : AV → Mem → Prop} {M : Mem} {x1 : Int32} {x2 : Int32} {x3 : Int32} {x4 : Int32} {x5 : Int32} (hd : 1 ≤ d)
  (h : CT l E (d - 1) m_FN_isTray [(.int x1, 0)] M (fun v1 M1 =>
   (((toI v1) = 0 →
    CT l E (d - 1) m_FN_deny [(.ref 0, 0), (.int (iN 1), 0)] M1 (fun v2 M2 =>
     ((((toI v2) = 0 ∨ (toI v2) = 1)) ∧ K (.int (toI v2), 0) M2))) ∧
   (¬ (toI v1) = 0 →
    CT l E (d - 1) m_FN_isTray [(.int x3, 0)] M1 (fun v3 M3 =>
     (((toI v3) = 0 →
      CT l E (d - 1) m_FN_deny [(.ref 0, 0), (.int (iN 1), 0)] M3 (fun v4 M4 =>
       ((((toI v4) = 0 ∨ (toI v4) = 1)) ∧ K (.int (toI v4), 0) M4))) ∧
     (¬ (toI v3) = 0 →
      ((x2 < 0 →
       CT l E (d - 1) m_FN_deny [(.ref 0, 0), (.int (iN 1), 0)] M3 (fun v5 M5 =>
        ((((toI v5) = 0 ∨ (toI v5) = 1)) ∧ K (.int (toI v5), 0) M5))) ∧
      (¬ x2 < 0 →
       ((x4 < 0 →
        CT l E (d - 1) m_FN_deny [(.ref 0, 0), (.int (iN 1), 0)] M3 (fun v6 M6 =>
         ((((toI v6) = 0 ∨ (toI v6) = 1)) ∧ K (.int (toI v6), 0) M6))) ∧
       (¬ x4 < 0 →
        ((0 ≤ x5 →
         (vp_in x1 4 ∧ vp_in x3 4 ∧ CT l E (d - 1) m_Tray_isMissing [(.ref ([(20, 39), (21, 39), (22, 39), (23, 39)].getD (x1).toNatClampNeg (0, 0)).1, 39)] M3 (fun v7 M7 =>
          ((¬ (toI v7) = 0 →
           CT l E (d - 1) m_FN_deny [(.ref 0, 0), (.int (iN 2), 0)] M7 (fun v8 M8 =>
            ((((toI v8) = 0 ∨ (toI v8) = 1)) ∧ K (.int (toI v8), 0) M8))) ∧
          ((toI v7) = 0 →
           CT l E (d - 1) m_Tray_isMissing [(.ref ([(20, 39), (21, 39), (22, 39), (23, 39)].getD (x3).toNatClampNeg (0, 0)).1, 39)] M7 (fun v9 M9 =>
            (((toI v9) = 0 →
             (((iN (M9 ([(20, 39), (21, 39), (22, 39), (23, 39)].getD (x1).toNatClampNeg (0, 0)).1 0 1)) = (iN (M9 ([(20, 39), (21, 39), (22, 39), (23, 39)].getD (x3).toNatClampNeg (0, 0)).1 0 1)) →
              CT l E (d - 1) m_Tray_hasRow [(.ref ([(20, 39), (21, 39), (22, 39), (23, 39)].getD (x1).toNatClampNeg (0, 0)).1, 39), (.int x2, 0), (.int x5, 0)] M9 (fun v10 M10 =>
               (((toI v10) = 0 →
                CT l E (d - 1) m_FN_deny [(.ref 0, 0), (.int (iN 3), 0)] M10 (fun v11 M11 =>
                 ((((toI v11) = 0 ∨ (toI v11) = 1)) ∧ K (.int (toI v11), 0) M11))) ∧
               (¬ (toI v10) = 0 →
                CT l E (d - 1) m_Tray_hasRow [(.ref ([(20, 39), (21, 39), (22, 39), (23, 39)].getD (x3).toNatClampNeg (0, 0)).1, 39), (.int x4, 0), (.int x5, 0)] M10 (fun v12 M12 =>
                 ((¬ (toI v12) = 0 →
                  (¬ x2 < 0 ∧ ¬ x4 < 0 ∧ ¬ x5 < 0 ∧ (x2).toNatClampNeg + (x5).toNatClampNeg ≤ 60 ∧ (x4).toNatClampNeg + (x5).toNatClampNeg ≤ 60 ∧ CT l E (d - 1) m_FN_agree [(.ref 0, 0)] (cpyM M12 ([(20, 39), (21, 39), (22, 39), (23, 39)].getD (x1).toNatClampNeg (0, 0)).1 1 ([(20, 39), (21, 39), (22, 39), (23, 39)].getD (x3).toNatClampNeg (0, 0)).1 1 (x2).toNatClampNeg (x4).toNatClampNeg (x5).toNatClampNeg) (fun v13 M13 =>
                   ((((toI v13) = 0 ∨ (toI v13) = 1)) ∧ K (.int (toI v13), 0) M13)))) ∧
                 ((toI v12) = 0 →
                  CT l E (d - 1) m_FN_deny [(.ref 0, 0), (.int (iN 3), 0)] M12 (fun v14 M14 =>
                   ((((toI v14) = 0 ∨ (toI v14) = 1)) ∧ K (.int (toI v14), 0) M14))))))))) ∧
             (¬ (iN (M9 ([(20, 39), (21, 39), (22, 39), (23, 39)].getD (x1).toNatClampNeg (0, 0)).1 0 1)) = (iN (M9 ([(20, 39), (21, 39), (22, 39), (23, 39)].getD (x3).toNatClampNeg (0, 0)).1 0 1)) →
              CT l E (d - 1) m_FN_deny [(.ref 0, 0), (.int (iN 8), 0)] M9 (fun v15 M15 =>
               ((((toI v15) = 0 ∨ (toI v15) = 1)) ∧ K (.int (toI v15), 0) M15))))) ∧
            (¬ (toI v9) = 0 →
             CT l E (d - 1) m_FN_deny [(.ref 0, 0), (.int (iN 2), 0)] M9 (fun v16 M16 =>
              ((((toI v16) = 0 ∨ (toI v16) = 1)) ∧ K (.int (toI v16), 0) M16)))))))))) ∧
        (¬ 0 ≤ x5 →
         CT l E (d - 1) m_FN_deny [(.ref 0, 0), (.int (iN 1), 0)] M3 (fun v17 M17 =>
          ((((toI v17) = 0 ∨ (toI v17) = 1)) ∧ K (.int (toI v17), 0) M17))))))))))))))) :
  G l E d m_FN_pour 0 [(0, (.ref 0, 0)), (1, (.int x1, 0)), (2, (.int x2, 0)), (3, (.int x3, 0)), (4, (.int x4, 0)), (5, (.int x5, 0))] [] M K := G.blk 60 _ hd ok_FN_pour rfl h
def bt_FN_spool : BtT := [(0, [0, 1], true, [(0, .aload_n 0, 1, 0, 0, 0, m0),
   (1, .getfield 15, 3, 1, 10, 493, m0),
   (4, .aload_n 0, 1, 0, 0, 0, m0),
   (5, .getfield 91, 3, 16, 10, 508, m0),
   (8, .iload_n 1, 1, 0, 0, 0, m0),
   (9, .bipush 24, 2, 0, 0, 0, m0),
   (11, .ishr, 1, 0, 0, 0, m0),
   (12, .i2b, 1, 0, 0, 0, m0),
   (13, .bastore, 1, 0, 0, 0, m0),
   (14, .aload_n 0, 1, 0, 0, 0, m0),
   (15, .getfield 15, 3, 1, 10, 493, m0),
   (18, .aload_n 0, 1, 0, 0, 0, m0),
   (19, .getfield 91, 3, 16, 10, 508, m0),
   (22, .iconst 1, 1, 0, 0, 0, m0),
   (23, .iadd, 1, 0, 0, 0, m0),
   (24, .iload_n 1, 1, 0, 0, 0, m0),
   (25, .bipush 16, 2, 0, 0, 0, m0),
   (27, .ishr, 1, 0, 0, 0, m0),
   (28, .i2b, 1, 0, 0, 0, m0),
   (29, .bastore, 1, 0, 0, 0, m0),
   (30, .aload_n 0, 1, 0, 0, 0, m0),
   (31, .getfield 15, 3, 1, 10, 493, m0),
   (34, .aload_n 0, 1, 0, 0, 0, m0),
   (35, .getfield 91, 3, 16, 10, 508, m0),
   (38, .iconst 2, 1, 0, 0, 0, m0),
   (39, .iadd, 1, 0, 0, 0, m0),
   (40, .iload_n 1, 1, 0, 0, 0, m0),
   (41, .bipush 8, 2, 0, 0, 0, m0),
   (43, .ishr, 1, 0, 0, 0, m0),
   (44, .i2b, 1, 0, 0, 0, m0),
   (45, .bastore, 1, 0, 0, 0, m0),
   (46, .nop, 0, 0, 0, 0, m0)]),
  (46, [0, 1], true, [(46, .aload_n 0, 1, 0, 0, 0, m0),
   (47, .getfield 15, 3, 1, 10, 493, m0),
   (50, .aload_n 0, 1, 0, 0, 0, m0),
   (51, .getfield 91, 3, 16, 10, 508, m0),
   (54, .iconst 3, 1, 0, 0, 0, m0),
   (55, .iadd, 1, 0, 0, 0, m0),
   (56, .iload_n 1, 1, 0, 0, 0, m0),
   (57, .i2b, 1, 0, 0, 0, m0),
   (58, .bastore, 1, 0, 0, 0, m0),
   (59, .aload_n 0, 1, 0, 0, 0, m0),
   (60, .dup, 1, 0, 0, 0, m0),
   (61, .getfield 91, 3, 16, 10, 508, m0),
   (64, .iconst 4, 1, 0, 0, 0, m0),
   (65, .iadd, 1, 0, 0, 0, m0),
   (66, .putfield 91, 3, 16, 10, 508, m0),
   (69, .return_, 1, 0, 0, 0, m0)])]
theorem ok_FN_spool : okBt m_FN_spool bt_FN_spool = true := by decide +kernel
set_option maxRecDepth 100000 in
theorem b_FN_spool_0 {l : Launch} {E : EnvT} {d : Nat} {K : AV → Mem → Prop} {M : Mem} {x1 : Int32} (hd : 1 ≤ d)
  (h : (vp_in (iN (M 0 0 16)) 900 ∧ vp_in ((iN ((upd3 M 0 2 ((iN (M 0 0 16))).toNatClampNeg (((x1 >>> ((iN 24) &&& 31))).toInt8.toInt32).toInt8.toInt32.toInt) 0 0 16)) + (iN 1)) 900 ∧ vp_in ((iN ((upd3 (upd3 M 0 2 ((iN (M 0 0 16))).toNatClampNeg (((x1 >>> ((iN 24) &&& 31))).toInt8.toInt32).toInt8.toInt32.toInt) 0 2 (((iN ((upd3 M 0 2 ((iN (M 0 0 16))).toNatClampNeg (((x1 >>> ((iN 24) &&& 31))).toInt8.toInt32).toInt8.toInt32.toInt) 0 0 16)) + (iN 1))).toNatClampNeg (((x1 >>> ((iN 16) &&& 31))).toInt8.toInt32).toInt8.toInt32.toInt) 0 0 16)) + (iN 2)) 900 ∧ G l E d m_FN_spool 46 [(0, (.ref 0, 0)), (1, (.int x1, 0))] [] (upd3 (upd3 (upd3 M 0 2 ((iN (M 0 0 16))).toNatClampNeg (((x1 >>> ((iN 24) &&& 31))).toInt8.toInt32).toInt8.toInt32.toInt) 0 2 (((iN ((upd3 M 0 2 ((iN (M 0 0 16))).toNatClampNeg (((x1 >>> ((iN 24) &&& 31))).toInt8.toInt32).toInt8.toInt32.toInt) 0 0 16)) + (iN 1))).toNatClampNeg (((x1 >>> ((iN 16) &&& 31))).toInt8.toInt32).toInt8.toInt32.toInt) 0 2 (((iN ((upd3 (upd3 M 0 2 ((iN (M 0 0 16))).toNatClampNeg (((x1 >>> ((iN 24) &&& 31))).toInt8.toInt32).toInt8.toInt32.toInt) 0 2 (((iN ((upd3 M 0 2 ((iN (M 0 0 16))).toNatClampNeg (((x1 >>> ((iN 24) &&& 31))).toInt8.toInt32).toInt8.toInt32.toInt) 0 0 16)) + (iN 1))).toNatClampNeg (((x1 >>> ((iN 16) &&& 31))).toInt8.toInt32).toInt8.toInt32.toInt) 0 0 16)) + (iN 2))).toNatClampNeg (((x1 >>> ((iN 8) &&& 31))).toInt8.toInt32).toInt8.toInt32.toInt) K)) :
  G l E d m_FN_spool 0 [(0, (.ref 0, 0)), (1, (.int x1, 0))] [] M K := G.blk 60 _ hd ok_FN_spool rfl h
set_option maxRecDepth 100000 in
theorem b_FN_spool_46 {l : Launch} {E : EnvT} {d : Nat} {K : AV → Mem → Prop} {M : Mem} {x1 : Int32} (hd : 1 ≤ d)
  (h : (vp_in ((iN (M 0 0 16)) + (iN 3)) 900 ∧ K (.null, 0) (upd3 (upd3 M 0 2 (((iN (M 0 0 16)) + (iN 3))).toNatClampNeg ((x1).toInt8.toInt32).toInt8.toInt32.toInt) 0 0 16 (((iN ((upd3 M 0 2 (((iN (M 0 0 16)) + (iN 3))).toNatClampNeg ((x1).toInt8.toInt32).toInt8.toInt32.toInt) 0 0 16)) + (iN 4))).toInt))) :
  G l E d m_FN_spool 46 [(0, (.ref 0, 0)), (1, (.int x1, 0))] [] M K := G.blk 60 _ hd ok_FN_spool rfl h
def bt_FN_feed : BtT := [(0, [0, 1, 2, 3, 4, 5], true, [(0, .aload_n 0, 1, 0, 0, 0, m0),
   (1, .getfield 91, 3, 16, 10, 508, m0),
   (4, .bipush 20, 2, 0, 0, 0, m0),
   (6, .iadd, 1, 0, 0, 0, m0),
   (7, .sipush 900, 3, 0, 0, 0, m0),
   (10, .if_icmp .le 5, 3, 15, 0, 0, m0),
   (13, .nop, 0, 0, 0, 0, m0)]),
  (13, [], false, [(13, .iconst (-1), 1, 0, 0, 0, m0),
   (14, .ireturn, 1, 0, 0, 0, m0)]),
  (15, [], false, [(15, .aload_n 0, 1, 0, 0, 0, m0),
   (16, .iload_n 1, 1, 0, 0, 0, m0),
   (17, .invokevirtual 148, 3, 0, 0, 627, m_FN_spool),
   (20, .aload_n 0, 1, 0, 0, 0, m0),
   (21, .iload_n 2, 1, 0, 0, 0, m0),
   (22, .invokevirtual 148, 3, 0, 0, 627, m_FN_spool),
   (25, .aload_n 0, 1, 0, 0, 0, m0),
   (26, .iload_n 3, 1, 0, 0, 0, m0),
   (27, .invokevirtual 148, 3, 0, 0, 627, m_FN_spool),
   (30, .aload_n 0, 1, 0, 0, 0, m0),
   (31, .iload 4, 2, 0, 0, 0, m0),
   (33, .invokevirtual 148, 3, 0, 0, 627, m_FN_spool),
   (36, .aload_n 0, 1, 0, 0, 0, m0),
   (37, .iload 5, 2, 0, 0, 0, m0),
   (39, .invokevirtual 148, 3, 0, 0, 627, m_FN_spool),
   (42, .aload_n 0, 1, 0, 0, 0, m0),
   (43, .getfield 91, 3, 16, 10, 508, m0),
   (46, .ireturn, 1, 0, 0, 0, m0)])]
theorem ok_FN_feed : okBt m_FN_feed bt_FN_feed = true := by decide +kernel
set_option maxRecDepth 100000 in
theorem b_FN_feed_0 {l : Launch} {E : EnvT} {d : Nat} {K : AV → Mem → Prop} {M : Mem} {x1 : Int32} {x2 : Int32} {x3 : Int32} {x4 : Int32} {x5 : Int32} (hd : 1 ≤ d)
  (h : ((((iN (M 0 0 16)) + (iN 20)) ≤ (iN 900) →
   CT l E (d - 1) m_FN_spool [(.ref 0, 0), (.int x1, 0)] M (fun v1 M1 =>
    CT l E (d - 1) m_FN_spool [(.ref 0, 0), (.int x2, 0)] M1 (fun v2 M2 =>
     CT l E (d - 1) m_FN_spool [(.ref 0, 0), (.int x3, 0)] M2 (fun v3 M3 =>
      CT l E (d - 1) m_FN_spool [(.ref 0, 0), (.int x4, 0)] M3 (fun v4 M4 =>
       CT l E (d - 1) m_FN_spool [(.ref 0, 0), (.int x5, 0)] M4 (fun v5 M5 =>
        K (.int (iN (M5 0 0 16)), 0) M5)))))) ∧
  (¬ ((iN (M 0 0 16)) + (iN 20)) ≤ (iN 900) →
   K (.int (iN (-1)), 0) M))) :
  G l E d m_FN_feed 0 [(0, (.ref 0, 0)), (1, (.int x1, 0)), (2, (.int x2, 0)), (3, (.int x3, 0)), (4, (.int x4, 0)), (5, (.int x5, 0))] [] M K := G.blk 60 _ hd ok_FN_feed rfl h
def bt_FN_noteFault : BtT := [(0, [0, 1], true, [(0, .aload_n 0, 1, 0, 0, 0, m0),
   (1, .iconst 0, 1, 0, 0, 0, m0),
   (2, .putfield 91, 3, 16, 10, 508, m0),
   (5, .aload_n 0, 1, 0, 0, 0, m0),
   (6, .aload_n 1, 1, 0, 0, 0, m0),
   (7, .getfield 433, 3, 10, 5, 166, m0),
   (10, .putfield 94, 3, 17, 10, 509, m0),
   (13, .aload_n 0, 1, 0, 0, 0, m0),
   (14, .aload_n 1, 1, 0, 0, 0, m0),
   (15, .getfield 433, 3, 10, 5, 166, m0),
   (18, .ifCond .ne 7, 3, 25, 0, 0, m0),
   (21, .nop, 0, 0, 0, 0, m0)]),
  (21, [], false, [(21, .iconst (-1), 1, 0, 0, 0, m0),
   (22, .goto 7, 3, 29, 0, 0, m0)]),
  (25, [], false, [(25, .aload_n 1, 1, 0, 0, 0, m0),
   (26, .getfield 438, 3, 4, 5, 153, m0),
   (29, .nop, 0, 0, 0, 0, m0)]),
  (29, [], false, [(29, .putfield 97, 3, 18, 10, 510, m0),
   (32, .return_, 1, 0, 0, 0, m0)])]
theorem ok_FN_noteFault : okBt m_FN_noteFault bt_FN_noteFault = true := by decide +kernel
set_option maxRecDepth 100000 in
theorem b_FN_noteFault_0 {l : Launch} {E : EnvT} {d : Nat} {K : AV → Mem → Prop} {M : Mem} {r2 : Nat}  (hd : 1 ≤ d)
  (h : ((¬ (iN ((upd3 (upd3 M 0 0 16 ((iN 0)).toInt) 0 0 17 ((iN ((upd3 M 0 0 16 ((iN 0)).toInt) r2 0 10))).toInt) r2 0 10)) = 0 →
   K (.null, 0) (upd3 (upd3 (upd3 M 0 0 16 ((iN 0)).toInt) 0 0 17 ((iN ((upd3 M 0 0 16 ((iN 0)).toInt) r2 0 10))).toInt) 0 0 18 ((iN ((upd3 (upd3 M 0 0 16 ((iN 0)).toInt) 0 0 17 ((iN ((upd3 M 0 0 16 ((iN 0)).toInt) r2 0 10))).toInt) r2 0 4))).toInt)) ∧
  ((iN ((upd3 (upd3 M 0 0 16 ((iN 0)).toInt) 0 0 17 ((iN ((upd3 M 0 0 16 ((iN 0)).toInt) r2 0 10))).toInt) r2 0 10)) = 0 →
   K (.null, 0) (upd3 (upd3 (upd3 M 0 0 16 ((iN 0)).toInt) 0 0 17 ((iN ((upd3 M 0 0 16 ((iN 0)).toInt) r2 0 10))).toInt) 0 0 18 ((iN (-1))).toInt)))) :
  G l E d m_FN_noteFault 0 [(0, (.ref 0, 0)), (1, (.ref r2, 4))] [] M K := G.blk 60 _ hd ok_FN_noteFault rfl h
def bt_FN_answer : BtT := [(0, [0, 1], true, [(0, .aload_n 0, 1, 0, 0, 0, m0),
   (1, .iconst 0, 1, 0, 0, 0, m0),
   (2, .putfield 80, 3, 13, 10, 505, m0),
   (5, .iload_n 1, 1, 0, 0, 0, m0),
   (6, .ireturn, 1, 0, 0, 0, m0)])]
theorem ok_FN_answer : okBt m_FN_answer bt_FN_answer = true := by decide +kernel
set_option maxRecDepth 100000 in
theorem b_FN_answer_0 {l : Launch} {E : EnvT} {d : Nat} {K : AV → Mem → Prop} {M : Mem} {x1 : Int32} (hd : 1 ≤ d)
  (h : K (.int x1, 0) (upd3 M 0 0 13 ((iN 0)).toInt)) :
  G l E d m_FN_answer 0 [(0, (.ref 0, 0)), (1, (.int x1, 0))] [] M K := G.blk 60 _ hd ok_FN_answer rfl h
def bt_FN_choir : BtT := [(0, [0, 1], true, [(0, .iload_n 1, 1, 0, 0, 0, m0),
   (1, .ifCond .lt 11, 3, 12, 0, 0, m0),
   (4, .nop, 0, 0, 0, 0, m0)]),
  (4, [], false, [(4, .iload_n 1, 1, 0, 0, 0, m0),
   (5, .aload_n 0, 1, 0, 0, 0, m0),
   (6, .getfield 91, 3, 16, 10, 508, m0),
   (9, .if_icmp .le 9, 3, 18, 0, 0, m0),
   (12, .nop, 0, 0, 0, 0, m0)]),
  (12, [], false, [(12, .aload_n 0, 1, 0, 0, 0, m0),
   (13, .iconst 1, 1, 0, 0, 0, m0),
   (14, .invokevirtual 124, 3, 0, 0, 608, m_FN_refuse),
   (17, .ireturn, 1, 0, 0, 0, m0)]),
  (18, [], false, [(18, .aload_n 0, 1, 0, 0, 0, m0),
   (19, .getfield 22, 3, 2, 10, 494, m0),
   (22, .aload_n 0, 1, 0, 0, 0, m0),
   (23, .getfield 15, 3, 1, 10, 493, m0),
   (26, .iload_n 1, 1, 0, 0, 0, m0),
   (27, .aload_n 0, 1, 0, 0, 0, m0),
   (28, .getfield 67, 3, 10, 10, 502, m0),
   (31, .invokevirtual 152, 3, 0, 0, 635, m_CReader_readAll),
   (34, .istore_n 2, 1, 0, 0, 0, m0),
   (35, .aload_n 0, 1, 0, 0, 0, m0),
   (36, .aload_n 0, 1, 0, 0, 0, m0),
   (37, .getfield 22, 3, 2, 10, 494, m0),
   (40, .getfield 156, 3, 0, 1, 192, m0),
   (43, .invokevirtual 160, 3, 0, 0, 827, m_FN_noteFault),
   (46, .iload_n 2, 1, 0, 0, 0, m0),
   (47, .ifCond .ne 10, 3, 57, 0, 0, m0),
   (50, .nop, 0, 0, 0, 0, m0)]),
  (50, [], false, [(50, .aload_n 0, 1, 0, 0, 0, m0),
   (51, .bipush 9, 2, 0, 0, 0, m0),
   (53, .invokevirtual 124, 3, 0, 0, 608, m_FN_refuse),
   (56, .ireturn, 1, 0, 0, 0, m0)]),
  (57, [], false, [(57, .aload_n 0, 1, 0, 0, 0, m0),
   (58, .getfield 64, 3, 9, 10, 501, m0),
   (61, .astore_n 3, 1, 0, 0, 0, m0),
   (62, .aload_n 0, 1, 0, 0, 0, m0),
   (63, .aload_n 0, 1, 0, 0, 0, m0),
   (64, .getfield 67, 3, 10, 10, 502, m0),
   (67, .putfield 64, 3, 9, 10, 501, m0),
   (70, .aload_n 0, 1, 0, 0, 0, m0),
   (71, .aload_n 3, 1, 0, 0, 0, m0),
   (72, .putfield 67, 3, 10, 10, 502, m0),
   (75, .aload_n 0, 1, 0, 0, 0, m0),
   (76, .getfield 73, 3, 11, 10, 503, m0),
   (79, .invokevirtual 164, 3, 0, 0, 831, m_Years_forget),
   (82, .aload_n 0, 1, 0, 0, 0, m0),
   (83, .aload_n 0, 1, 0, 0, 0, m0),
   (84, .getfield 64, 3, 9, 10, 501, m0),
   (87, .getfield 167, 3, 8, 0, 283, m0),
   (90, .invokevirtual 170, 3, 0, 0, 835, m_FN_answer),
   (93, .ireturn, 1, 0, 0, 0, m0)])]
theorem ok_FN_choir : okBt m_FN_choir bt_FN_choir = true := by decide +kernel
set_option maxRecDepth 100000 in
theorem b_FN_choir_0 {l : Launch} {E : EnvT} {d : Nat} {K : AV → Mem → Prop} {M : Mem} {x1 : Int32} (hd : 1 ≤ d)
  (h : ((x1 < 0 →
   CT l E (d - 1) m_FN_refuse [(.ref 0, 0), (.int (iN 1), 0)] M (fun v1 M1 =>
    K (.int (toI v1), 0) M1)) ∧
  (¬ x1 < 0 →
   ((x1 ≤ (iN (M 0 0 16)) →
    (((M 0 0 10).toNat, 11) ∈ CL ∧ CT l E (d - 1) m_CReader_readAll [(.ref 1, 3), (.ref 0, 2), (.int x1, 0), (.ref (M 0 0 10).toNat, 11)] M (fun v2 M2 =>
     CT l E (d - 1) m_FN_noteFault [(.ref 0, 0), (.ref 2, 4)] M2 (fun v3 M3 =>
      ((¬ (toI v2) = 0 →
       (((M3 0 0 9).toNat, 11) ∈ CL ∧ ((M3 0 0 10).toNat, 11) ∈ CL ∧ (((upd3 (upd3 M3 0 0 9 ((M3 0 0 10).toNat : Int)) 0 0 10 ((M3 0 0 9).toNat : Int)) 0 0 11).toNat, 23) ∈ CL ∧ CT l E (d - 1) m_Years_forget [(.ref ((upd3 (upd3 M3 0 0 9 ((M3 0 0 10).toNat : Int)) 0 0 10 ((M3 0 0 9).toNat : Int)) 0 0 11).toNat, 23)] (upd3 (upd3 M3 0 0 9 ((M3 0 0 10).toNat : Int)) 0 0 10 ((M3 0 0 9).toNat : Int)) (fun v4 M4 =>
        (((M4 0 0 9).toNat, 11) ∈ CL ∧ CT l E (d - 1) m_FN_answer [(.ref 0, 0), (.int (iN (M4 (M4 0 0 9).toNat 0 8)), 0)] M4 (fun v5 M5 =>
         K (.int (toI v5), 0) M5))))) ∧
      ((toI v2) = 0 →
       CT l E (d - 1) m_FN_refuse [(.ref 0, 0), (.int (iN 9), 0)] M3 (fun v6 M6 =>
        K (.int (toI v6), 0) M6))))))) ∧
   (¬ x1 ≤ (iN (M 0 0 16)) →
    CT l E (d - 1) m_FN_refuse [(.ref 0, 0), (.int (iN 1), 0)] M (fun v7 M7 =>
     K (.int (toI v7), 0) M7)))))) :
  G l E d m_FN_choir 0 [(0, (.ref 0, 0)), (1, (.int x1, 0))] [] M K := G.blk 60 _ hd ok_FN_choir rfl h
def bt_FN_years : BtT := [(0, [0, 1], true, [(0, .iload_n 1, 1, 0, 0, 0, m0),
   (1, .ifCond .lt 18, 3, 19, 0, 0, m0),
   (4, .nop, 0, 0, 0, 0, m0)]),
  (4, [], false, [(4, .iload_n 1, 1, 0, 0, 0, m0),
   (5, .aload_n 0, 1, 0, 0, 0, m0),
   (6, .getfield 91, 3, 16, 10, 508, m0),
   (9, .if_icmp .gt 10, 3, 19, 0, 0, m0),
   (12, .nop, 0, 0, 0, 0, m0)]),
  (12, [], false, [(12, .iload_n 1, 1, 0, 0, 0, m0),
   (13, .sipush 300, 3, 0, 0, 0, m0),
   (16, .if_icmp .le 9, 3, 25, 0, 0, m0),
   (19, .nop, 0, 0, 0, 0, m0)]),
  (19, [], false, [(19, .aload_n 0, 1, 0, 0, 0, m0),
   (20, .iconst 1, 1, 0, 0, 0, m0),
   (21, .invokevirtual 124, 3, 0, 0, 608, m_FN_refuse),
   (24, .ireturn, 1, 0, 0, 0, m0)]),
  (25, [], false, [(25, .aload_n 0, 1, 0, 0, 0, m0),
   (26, .getfield 29, 3, 3, 10, 495, m0),
   (29, .aload_n 0, 1, 0, 0, 0, m0),
   (30, .getfield 15, 3, 1, 10, 493, m0),
   (33, .iload_n 1, 1, 0, 0, 0, m0),
   (34, .aload_n 0, 1, 0, 0, 0, m0),
   (35, .getfield 64, 3, 9, 10, 501, m0),
   (38, .aload_n 0, 1, 0, 0, 0, m0),
   (39, .getfield 77, 3, 12, 10, 504, m0),
   (42, .invokevirtual 173, 3, 0, 0, 843, m_YReader_readAll),
   (45, .istore_n 2, 1, 0, 0, 0, m0),
   (46, .aload_n 0, 1, 0, 0, 0, m0),
   (47, .aload_n 0, 1, 0, 0, 0, m0),
   (48, .getfield 29, 3, 3, 10, 495, m0),
   (51, .getfield 176, 3, 0, 9, 208, m0),
   (54, .invokevirtual 160, 3, 0, 0, 827, m_FN_noteFault),
   (57, .iload_n 2, 1, 0, 0, 0, m0),
   (58, .ifCond .ne 10, 3, 68, 0, 0, m0),
   (61, .nop, 0, 0, 0, 0, m0)]),
  (61, [], false, [(61, .aload_n 0, 1, 0, 0, 0, m0),
   (62, .bipush 9, 2, 0, 0, 0, m0),
   (64, .invokevirtual 124, 3, 0, 0, 608, m_FN_refuse),
   (67, .ireturn, 1, 0, 0, 0, m0)]),
  (68, [], false, [(68, .aload_n 0, 1, 0, 0, 0, m0),
   (69, .getfield 73, 3, 11, 10, 503, m0),
   (72, .astore_n 3, 1, 0, 0, 0, m0),
   (73, .aload_n 0, 1, 0, 0, 0, m0),
   (74, .aload_n 0, 1, 0, 0, 0, m0),
   (75, .getfield 77, 3, 12, 10, 504, m0),
   (78, .putfield 73, 3, 11, 10, 503, m0),
   (81, .aload_n 0, 1, 0, 0, 0, m0),
   (82, .aload_n 3, 1, 0, 0, 0, m0),
   (83, .putfield 77, 3, 12, 10, 504, m0),
   (86, .aload_n 0, 1, 0, 0, 0, m0),
   (87, .aload_n 0, 1, 0, 0, 0, m0),
   (88, .getfield 73, 3, 11, 10, 503, m0),
   (91, .getfield 177, 3, 7, 8, 363, m0),
   (94, .invokevirtual 170, 3, 0, 0, 835, m_FN_answer),
   (97, .ireturn, 1, 0, 0, 0, m0)])]
theorem ok_FN_years : okBt m_FN_years bt_FN_years = true := by decide +kernel
set_option maxRecDepth 100000 in
theorem b_FN_years_0 {l : Launch} {E : EnvT} {d : Nat} {K : AV → Mem → Prop} {M : Mem} {x1 : Int32} (hd : 1 ≤ d)
  (h : ((x1 < 0 →
   CT l E (d - 1) m_FN_refuse [(.ref 0, 0), (.int (iN 1), 0)] M (fun v1 M1 =>
    K (.int (toI v1), 0) M1)) ∧
  (¬ x1 < 0 →
   (((iN (M 0 0 16)) < x1 →
    CT l E (d - 1) m_FN_refuse [(.ref 0, 0), (.int (iN 1), 0)] M (fun v2 M2 =>
     K (.int (toI v2), 0) M2)) ∧
   (¬ (iN (M 0 0 16)) < x1 →
    ((x1 ≤ (iN 300) →
     (((M 0 0 9).toNat, 11) ∈ CL ∧ ((M 0 0 12).toNat, 23) ∈ CL ∧ CT l E (d - 1) m_YReader_readAll [(.ref 3, 6), (.ref 0, 2), (.int x1, 0), (.ref (M 0 0 9).toNat, 11), (.ref (M 0 0 12).toNat, 23)] M (fun v3 M3 =>
      CT l E (d - 1) m_FN_noteFault [(.ref 0, 0), (.ref 4, 4)] M3 (fun v4 M4 =>
       ((¬ (toI v3) = 0 →
        (((M4 0 0 11).toNat, 23) ∈ CL ∧ ((M4 0 0 12).toNat, 23) ∈ CL ∧ (((upd3 (upd3 M4 0 0 11 ((M4 0 0 12).toNat : Int)) 0 0 12 ((M4 0 0 11).toNat : Int)) 0 0 11).toNat, 23) ∈ CL ∧ CT l E (d - 1) m_FN_answer [(.ref 0, 0), (.int (iN ((upd3 (upd3 M4 0 0 11 ((M4 0 0 12).toNat : Int)) 0 0 12 ((M4 0 0 11).toNat : Int)) ((upd3 (upd3 M4 0 0 11 ((M4 0 0 12).toNat : Int)) 0 0 12 ((M4 0 0 11).toNat : Int)) 0 0 11).toNat 0 7)), 0)] (upd3 (upd3 M4 0 0 11 ((M4 0 0 12).toNat : Int)) 0 0 12 ((M4 0 0 11).toNat : Int)) (fun v5 M5 =>
         K (.int (toI v5), 0) M5))) ∧
       ((toI v3) = 0 →
        CT l E (d - 1) m_FN_refuse [(.ref 0, 0), (.int (iN 9), 0)] M4 (fun v6 M6 =>
         K (.int (toI v6), 0) M6))))))) ∧
    (¬ x1 ≤ (iN 300) →
     CT l E (d - 1) m_FN_refuse [(.ref 0, 0), (.int (iN 1), 0)] M (fun v7 M7 =>
      K (.int (toI v7), 0) M7)))))))) :
  G l E d m_FN_years 0 [(0, (.ref 0, 0)), (1, (.int x1, 0))] [] M K := G.blk 60 _ hd ok_FN_years rfl h
def bt_FN_fault : BtT := [(0, [0, 1], true, [(0, .iload_n 1, 1, 0, 0, 0, m0),
   (1, .ifCond .ne 8, 3, 9, 0, 0, m0),
   (4, .nop, 0, 0, 0, 0, m0)]),
  (4, [], false, [(4, .aload_n 0, 1, 0, 0, 0, m0),
   (5, .getfield 94, 3, 17, 10, 509, m0),
   (8, .ireturn, 1, 0, 0, 0, m0)]),
  (9, [], false, [(9, .iload_n 1, 1, 0, 0, 0, m0),
   (10, .iconst 1, 1, 0, 0, 0, m0),
   (11, .if_icmp .ne 10, 3, 21, 0, 0, m0),
   (14, .nop, 0, 0, 0, 0, m0)]),
  (14, [], false, [(14, .aload_n 0, 1, 0, 0, 0, m0),
   (15, .getfield 97, 3, 18, 10, 510, m0),
   (18, .goto 4, 3, 22, 0, 0, m0)]),
  (21, [], false, [(21, .iconst (-1), 1, 0, 0, 0, m0),
   (22, .nop, 0, 0, 0, 0, m0)]),
  (22, [], false, [(22, .ireturn, 1, 0, 0, 0, m0)])]
theorem ok_FN_fault : okBt m_FN_fault bt_FN_fault = true := by decide +kernel
set_option maxRecDepth 100000 in
theorem b_FN_fault_0 {l : Launch} {E : EnvT} {d : Nat} {K : AV → Mem → Prop} {M : Mem} {x1 : Int32} (hd : 1 ≤ d)
  (h : ((¬ x1 = 0 →
   ((¬ x1 = (iN 1) →
    K (.int (iN (-1)), 0) M) ∧
   (x1 = (iN 1) →
    K (.int (iN (M 0 0 18)), 0) M))) ∧
  (x1 = 0 →
   K (.int (iN (M 0 0 17)), 0) M))) :
  G l E d m_FN_fault 0 [(0, (.ref 0, 0)), (1, (.int x1, 0))] [] M K := G.blk 60 _ hd ok_FN_fault rfl h
def bt_FN_told : BtT := [(0, [0, 1], true, [(0, .iload_n 1, 1, 0, 0, 0, m0),
   (1, .tableswitch 178 0 9 #[55, 67, 79, 91, 103, 118, 130, 142, 154, 166], 55, 0, 0, 0, m0)]),
  (56, [], false, [(56, .aload_n 0, 1, 0, 0, 0, m0),
   (57, .aload_n 0, 1, 0, 0, 0, m0),
   (58, .getfield 64, 3, 9, 10, 501, m0),
   (61, .getfield 167, 3, 8, 0, 283, m0),
   (64, .invokevirtual 170, 3, 0, 0, 835, m_FN_answer),
   (67, .ireturn, 1, 0, 0, 0, m0)]),
  (68, [], false, [(68, .aload_n 0, 1, 0, 0, 0, m0),
   (69, .aload_n 0, 1, 0, 0, 0, m0),
   (70, .getfield 64, 3, 9, 10, 501, m0),
   (73, .getfield 180, 3, 13, 0, 298, m0),
   (76, .invokevirtual 170, 3, 0, 0, 835, m_FN_answer),
   (79, .ireturn, 1, 0, 0, 0, m0)]),
  (80, [], false, [(80, .aload_n 0, 1, 0, 0, 0, m0),
   (81, .aload_n 0, 1, 0, 0, 0, m0),
   (82, .getfield 64, 3, 9, 10, 501, m0),
   (85, .getfield 183, 3, 14, 0, 300, m0),
   (88, .invokevirtual 170, 3, 0, 0, 835, m_FN_answer),
   (91, .ireturn, 1, 0, 0, 0, m0)]),
  (92, [], false, [(92, .aload_n 0, 1, 0, 0, 0, m0),
   (93, .aload_n 0, 1, 0, 0, 0, m0),
   (94, .getfield 64, 3, 9, 10, 501, m0),
   (97, .invokevirtual 186, 3, 0, 0, 912, m_Choir_debtsAtNotes),
   (100, .invokevirtual 170, 3, 0, 0, 835, m_FN_answer),
   (103, .ireturn, 1, 0, 0, 0, m0)]),
  (104, [], false, [(104, .aload_n 0, 1, 0, 0, 0, m0),
   (105, .aload_n 0, 1, 0, 0, 0, m0),
   (106, .getfield 64, 3, 9, 10, 501, m0),
   (109, .getfield 190, 3, 7, 0, 279, m0),
   (112, .getfield 194, 3, 3, 7, 251, m0),
   (115, .invokevirtual 170, 3, 0, 0, 835, m_FN_answer),
   (118, .ireturn, 1, 0, 0, 0, m0)]),
  (119, [], false, [(119, .aload_n 0, 1, 0, 0, 0, m0),
   (120, .aload_n 0, 1, 0, 0, 0, m0),
   (121, .getfield 64, 3, 9, 10, 501, m0),
   (124, .invokevirtual 199, 3, 0, 0, 916, m_Choir_allOwed),
   (127, .invokevirtual 170, 3, 0, 0, 835, m_FN_answer),
   (130, .ireturn, 1, 0, 0, 0, m0)]),
  (131, [], false, [(131, .aload_n 0, 1, 0, 0, 0, m0),
   (132, .aload_n 0, 1, 0, 0, 0, m0),
   (133, .getfield 64, 3, 9, 10, 501, m0),
   (136, .invokevirtual 202, 3, 0, 0, 939, m_Choir_allCoins),
   (139, .invokevirtual 170, 3, 0, 0, 835, m_FN_answer),
   (142, .ireturn, 1, 0, 0, 0, m0)]),
  (143, [], false, [(143, .aload_n 0, 1, 0, 0, 0, m0),
   (144, .aload_n 0, 1, 0, 0, 0, m0),
   (145, .getfield 64, 3, 9, 10, 501, m0),
   (148, .getfield 205, 3, 15, 0, 303, m0),
   (151, .invokevirtual 170, 3, 0, 0, 835, m_FN_answer),
   (154, .ireturn, 1, 0, 0, 0, m0)]),
  (155, [], false, [(155, .aload_n 0, 1, 0, 0, 0, m0),
   (156, .aload_n 0, 1, 0, 0, 0, m0),
   (157, .getfield 64, 3, 9, 10, 501, m0),
   (160, .getfield 208, 3, 11, 0, 292, m0),
   (163, .invokevirtual 170, 3, 0, 0, 835, m_FN_answer),
   (166, .ireturn, 1, 0, 0, 0, m0)]),
  (167, [], false, [(167, .aload_n 0, 1, 0, 0, 0, m0),
   (168, .aload_n 0, 1, 0, 0, 0, m0),
   (169, .getfield 64, 3, 9, 10, 501, m0),
   (172, .getfield 211, 3, 12, 0, 295, m0),
   (175, .invokevirtual 170, 3, 0, 0, 835, m_FN_answer),
   (178, .ireturn, 1, 0, 0, 0, m0)]),
  (179, [], false, [(179, .aload_n 0, 1, 0, 0, 0, m0),
   (180, .iconst 1, 1, 0, 0, 0, m0),
   (181, .invokevirtual 124, 3, 0, 0, 608, m_FN_refuse),
   (184, .ireturn, 1, 0, 0, 0, m0)])]
theorem ok_FN_told : okBt m_FN_told bt_FN_told = true := by decide +kernel
set_option maxRecDepth 100000 in
theorem b_FN_told_0 {l : Launch} {E : EnvT} {d : Nat} {K : AV → Mem → Prop} {M : Mem} {x1 : Int32} (hd : 1 ≤ d)
  (h : ((x1 = iN 0 →
   (((M 0 0 9).toNat, 11) ∈ CL ∧ CT l E (d - 1) m_FN_answer [(.ref 0, 0), (.int (iN (M (M 0 0 9).toNat 0 8)), 0)] M (fun v14 M14 =>
    K (.int (toI v14), 0) M14))) ∧
  (¬ x1 = iN 0 →
   ((x1 = iN 1 →
   (((M 0 0 9).toNat, 11) ∈ CL ∧ CT l E (d - 1) m_FN_answer [(.ref 0, 0), (.int (iN (M (M 0 0 9).toNat 0 13)), 0)] M (fun v13 M13 =>
    K (.int (toI v13), 0) M13))) ∧
  (¬ x1 = iN 1 →
   ((x1 = iN 2 →
   (((M 0 0 9).toNat, 11) ∈ CL ∧ CT l E (d - 1) m_FN_answer [(.ref 0, 0), (.int (iN (M (M 0 0 9).toNat 0 14)), 0)] M (fun v12 M12 =>
    K (.int (toI v12), 0) M12))) ∧
  (¬ x1 = iN 2 →
   ((x1 = iN 3 →
   (((M 0 0 9).toNat, 11) ∈ CL ∧ CT l E (d - 1) m_Choir_debtsAtNotes [(.ref (M 0 0 9).toNat, 11)] M (fun v10 M10 =>
    CT l E (d - 1) m_FN_answer [(.ref 0, 0), (.int (toI v10), 0)] M10 (fun v11 M11 =>
     K (.int (toI v11), 0) M11)))) ∧
  (¬ x1 = iN 3 →
   ((x1 = iN 4 →
   (((M 0 0 9).toNat, 11) ∈ CL ∧ CT l E (d - 1) m_FN_answer [(.ref 0, 0), (.int (iN (M (M 0 0 9).toNat 8 3)), 0)] M (fun v9 M9 =>
    K (.int (toI v9), 0) M9))) ∧
  (¬ x1 = iN 4 →
   ((x1 = iN 5 →
   (((M 0 0 9).toNat, 11) ∈ CL ∧ CT l E (d - 1) m_Choir_allOwed [(.ref (M 0 0 9).toNat, 11)] M (fun v7 M7 =>
    CT l E (d - 1) m_FN_answer [(.ref 0, 0), (.int (toI v7), 0)] M7 (fun v8 M8 =>
     K (.int (toI v8), 0) M8)))) ∧
  (¬ x1 = iN 5 →
   ((x1 = iN 6 →
   (((M 0 0 9).toNat, 11) ∈ CL ∧ CT l E (d - 1) m_Choir_allCoins [(.ref (M 0 0 9).toNat, 11)] M (fun v5 M5 =>
    CT l E (d - 1) m_FN_answer [(.ref 0, 0), (.int (toI v5), 0)] M5 (fun v6 M6 =>
     K (.int (toI v6), 0) M6)))) ∧
  (¬ x1 = iN 6 →
   ((x1 = iN 7 →
   (((M 0 0 9).toNat, 11) ∈ CL ∧ CT l E (d - 1) m_FN_answer [(.ref 0, 0), (.int (iN (M (M 0 0 9).toNat 0 15)), 0)] M (fun v4 M4 =>
    K (.int (toI v4), 0) M4))) ∧
  (¬ x1 = iN 7 →
   ((x1 = iN 8 →
   (((M 0 0 9).toNat, 11) ∈ CL ∧ CT l E (d - 1) m_FN_answer [(.ref 0, 0), (.int (iN (M (M 0 0 9).toNat 0 11)), 0)] M (fun v3 M3 =>
    K (.int (toI v3), 0) M3))) ∧
  (¬ x1 = iN 8 →
   ((x1 = iN 9 →
   (((M 0 0 9).toNat, 11) ∈ CL ∧ CT l E (d - 1) m_FN_answer [(.ref 0, 0), (.int (iN (M (M 0 0 9).toNat 0 12)), 0)] M (fun v2 M2 =>
    K (.int (toI v2), 0) M2))) ∧
  (¬ x1 = iN 9 →
   CT l E (d - 1) m_FN_refuse [(.ref 0, 0), (.int (iN 1), 0)] M (fun v1 M1 =>
    K (.int (toI v1), 0) M1)))))))))))))))))))))) :
  G l E d m_FN_told 0 [(0, (.ref 0, 0)), (1, (.int x1, 0))] [] M K := G.blk 60 _ hd ok_FN_told rfl h
def bt_FN_answerOr : BtT := [(0, [0, 1, 2], true, [(0, .iload_n 1, 1, 0, 0, 0, m0),
   (1, .iconst (-1), 1, 0, 0, 0, m0),
   (2, .if_icmp .ne 11, 3, 13, 0, 0, m0),
   (5, .nop, 0, 0, 0, 0, m0)]),
  (5, [], false, [(5, .aload_n 0, 1, 0, 0, 0, m0),
   (6, .iload_n 2, 1, 0, 0, 0, m0),
   (7, .invokevirtual 124, 3, 0, 0, 608, m_FN_refuse),
   (10, .goto 8, 3, 18, 0, 0, m0)]),
  (13, [], false, [(13, .aload_n 0, 1, 0, 0, 0, m0),
   (14, .iload_n 1, 1, 0, 0, 0, m0),
   (15, .invokevirtual 170, 3, 0, 0, 835, m_FN_answer),
   (18, .nop, 0, 0, 0, 0, m0)]),
  (18, [], false, [(18, .ireturn, 1, 0, 0, 0, m0)])]
theorem ok_FN_answerOr : okBt m_FN_answerOr bt_FN_answerOr = true := by decide +kernel
set_option maxRecDepth 100000 in
theorem b_FN_answerOr_0 {l : Launch} {E : EnvT} {d : Nat} {K : AV → Mem → Prop} {M : Mem} {x1 : Int32} {x2 : Int32} (hd : 1 ≤ d)
  (h : ((¬ x1 = (iN (-1)) →
   CT l E (d - 1) m_FN_answer [(.ref 0, 0), (.int x1, 0)] M (fun v1 M1 =>
    K (.int (toI v1), 0) M1)) ∧
  (x1 = (iN (-1)) →
   CT l E (d - 1) m_FN_refuse [(.ref 0, 0), (.int x2, 0)] M (fun v2 M2 =>
    K (.int (toI v2), 0) M2)))) :
  G l E d m_FN_answerOr 0 [(0, (.ref 0, 0)), (1, (.int x1, 0)), (2, (.int x2, 0))] [] M K := G.blk 60 _ hd ok_FN_answerOr rfl h
def bt_FN_singer : BtT := [(0, [0, 1, 2], true, [(0, .aload_n 0, 1, 0, 0, 0, m0),
   (1, .getfield 64, 3, 9, 10, 501, m0),
   (4, .iload_n 1, 1, 0, 0, 0, m0),
   (5, .invokevirtual 214, 3, 0, 0, 947, m_Choir_knows),
   (8, .ifCond .ne 9, 3, 17, 0, 0, m0),
   (11, .nop, 0, 0, 0, 0, m0)]),
  (11, [], false, [(11, .aload_n 0, 1, 0, 0, 0, m0),
   (12, .iconst 1, 1, 0, 0, 0, m0),
   (13, .invokevirtual 124, 3, 0, 0, 608, m_FN_refuse),
   (16, .ireturn, 1, 0, 0, 0, m0)]),
  (17, [], false, [(17, .iload_n 2, 1, 0, 0, 0, m0),
   (18, .tableswitch 144 0 6 #[42, 56, 70, 86, 102, 118, 131], 42, 0, 0, 0, m0)]),
  (60, [], false, [(60, .aload_n 0, 1, 0, 0, 0, m0),
   (61, .aload_n 0, 1, 0, 0, 0, m0),
   (62, .getfield 64, 3, 9, 10, 501, m0),
   (65, .getfield 217, 3, 1, 0, 265, m0),
   (68, .iload_n 1, 1, 0, 0, 0, m0),
   (69, .iaload, 1, 0, 0, 0, m0),
   (70, .invokevirtual 170, 3, 0, 0, 835, m_FN_answer),
   (73, .ireturn, 1, 0, 0, 0, m0)]),
  (74, [], false, [(74, .aload_n 0, 1, 0, 0, 0, m0),
   (75, .aload_n 0, 1, 0, 0, 0, m0),
   (76, .getfield 64, 3, 9, 10, 501, m0),
   (79, .getfield 221, 3, 3, 0, 271, m0),
   (82, .iload_n 1, 1, 0, 0, 0, m0),
   (83, .iaload, 1, 0, 0, 0, m0),
   (84, .invokevirtual 170, 3, 0, 0, 835, m_FN_answer),
   (87, .ireturn, 1, 0, 0, 0, m0)]),
  (88, [], false, [(88, .aload_n 0, 1, 0, 0, 0, m0),
   (89, .aload_n 0, 1, 0, 0, 0, m0),
   (90, .getfield 64, 3, 9, 10, 501, m0),
   (93, .getfield 224, 3, 9, 0, 286, m0),
   (96, .iload_n 1, 1, 0, 0, 0, m0),
   (97, .invokestatic 227, 3, 0, 0, 951, m_Choir_oneIfIn),
   (100, .invokevirtual 170, 3, 0, 0, 835, m_FN_answer),
   (103, .ireturn, 1, 0, 0, 0, m0)]),
  (104, [], false, [(104, .aload_n 0, 1, 0, 0, 0, m0),
   (105, .aload_n 0, 1, 0, 0, 0, m0),
   (106, .getfield 64, 3, 9, 10, 501, m0),
   (109, .getfield 230, 3, 10, 0, 289, m0),
   (112, .iload_n 1, 1, 0, 0, 0, m0),
   (113, .invokestatic 227, 3, 0, 0, 951, m_Choir_oneIfIn),
   (116, .invokevirtual 170, 3, 0, 0, 835, m_FN_answer),
   (119, .ireturn, 1, 0, 0, 0, m0)]),
  (120, [], false, [(120, .aload_n 0, 1, 0, 0, 0, m0),
   (121, .aload_n 0, 1, 0, 0, 0, m0),
   (122, .getfield 64, 3, 9, 10, 501, m0),
   (125, .getfield 233, 3, 2, 0, 268, m0),
   (128, .iload_n 1, 1, 0, 0, 0, m0),
   (129, .iaload, 1, 0, 0, 0, m0),
   (130, .bipush 6, 2, 0, 0, 0, m0),
   (132, .invokevirtual 236, 3, 0, 0, 954, m_FN_answerOr),
   (135, .ireturn, 1, 0, 0, 0, m0)]),
  (136, [], false, [(136, .aload_n 0, 1, 0, 0, 0, m0),
   (137, .aload_n 0, 1, 0, 0, 0, m0),
   (138, .getfield 64, 3, 9, 10, 501, m0),
   (141, .iload_n 1, 1, 0, 0, 0, m0),
   (142, .invokevirtual 239, 3, 0, 0, 958, m_Choir_owesInAll),
   (145, .invokevirtual 170, 3, 0, 0, 835, m_FN_answer),
   (148, .ireturn, 1, 0, 0, 0, m0)]),
  (149, [], false, [(149, .aload_n 0, 1, 0, 0, 0, m0),
   (150, .aload_n 0, 1, 0, 0, 0, m0),
   (151, .getfield 64, 3, 9, 10, 501, m0),
   (154, .iload_n 1, 1, 0, 0, 0, m0),
   (155, .invokevirtual 242, 3, 0, 0, 962, m_Choir_isOwedInAll),
   (158, .invokevirtual 170, 3, 0, 0, 835, m_FN_answer),
   (161, .ireturn, 1, 0, 0, 0, m0)]),
  (162, [], false, [(162, .aload_n 0, 1, 0, 0, 0, m0),
   (163, .iconst 1, 1, 0, 0, 0, m0),
   (164, .invokevirtual 124, 3, 0, 0, 608, m_FN_refuse),
   (167, .ireturn, 1, 0, 0, 0, m0)])]
theorem ok_FN_singer : okBt m_FN_singer bt_FN_singer = true := by decide +kernel
set_option maxRecDepth 100000 in
theorem b_FN_singer_0 {l : Launch} {E : EnvT} {d : Nat} {K : AV → Mem → Prop} {M : Mem} {x1 : Int32} {x2 : Int32} (hd : 1 ≤ d)
  (h : (((M 0 0 9).toNat, 11) ∈ CL ∧ CT l E (d - 1) m_Choir_knows [(.ref (M 0 0 9).toNat, 11), (.int x1, 0)] M (fun v1 M1 =>
   ((¬ (toI v1) = 0 →
    ((x2 = iN 0 →
     (((M1 0 0 9).toNat, 11) ∈ CL ∧ vp_in x1 8 ∧ CT l E (d - 1) m_FN_answer [(.ref 0, 0), (.int (iN (M1 (M1 0 0 9).toNat 2 (x1).toNatClampNeg)), 0)] M1 (fun v13 M13 =>
      K (.int (toI v13), 0) M13))) ∧
    (¬ x2 = iN 0 →
     ((x2 = iN 1 →
     (((M1 0 0 9).toNat, 11) ∈ CL ∧ vp_in x1 8 ∧ CT l E (d - 1) m_FN_answer [(.ref 0, 0), (.int (iN (M1 (M1 0 0 9).toNat 4 (x1).toNatClampNeg)), 0)] M1 (fun v12 M12 =>
      K (.int (toI v12), 0) M12))) ∧
    (¬ x2 = iN 1 →
     ((x2 = iN 2 →
     (((M1 0 0 9).toNat, 11) ∈ CL ∧ CT l E (d - 1) m_Choir_oneIfIn [(.int (iN (M1 (M1 0 0 9).toNat 0 9)), 0), (.int x1, 0)] M1 (fun v10 M10 =>
      CT l E (d - 1) m_FN_answer [(.ref 0, 0), (.int (toI v10), 0)] M10 (fun v11 M11 =>
       K (.int (toI v11), 0) M11)))) ∧
    (¬ x2 = iN 2 →
     ((x2 = iN 3 →
     (((M1 0 0 9).toNat, 11) ∈ CL ∧ CT l E (d - 1) m_Choir_oneIfIn [(.int (iN (M1 (M1 0 0 9).toNat 0 10)), 0), (.int x1, 0)] M1 (fun v8 M8 =>
      CT l E (d - 1) m_FN_answer [(.ref 0, 0), (.int (toI v8), 0)] M8 (fun v9 M9 =>
       K (.int (toI v9), 0) M9)))) ∧
    (¬ x2 = iN 3 →
     ((x2 = iN 4 →
     (((M1 0 0 9).toNat, 11) ∈ CL ∧ vp_in x1 8 ∧ CT l E (d - 1) m_FN_answerOr [(.ref 0, 0), (.int (iN (M1 (M1 0 0 9).toNat 3 (x1).toNatClampNeg)), 0), (.int (iN 6), 0)] M1 (fun v7 M7 =>
      K (.int (toI v7), 0) M7))) ∧
    (¬ x2 = iN 4 →
     ((x2 = iN 5 →
     (((M1 0 0 9).toNat, 11) ∈ CL ∧ CT l E (d - 1) m_Choir_owesInAll [(.ref (M1 0 0 9).toNat, 11), (.int x1, 0)] M1 (fun v5 M5 =>
      CT l E (d - 1) m_FN_answer [(.ref 0, 0), (.int (toI v5), 0)] M5 (fun v6 M6 =>
       K (.int (toI v6), 0) M6)))) ∧
    (¬ x2 = iN 5 →
     ((x2 = iN 6 →
     (((M1 0 0 9).toNat, 11) ∈ CL ∧ CT l E (d - 1) m_Choir_isOwedInAll [(.ref (M1 0 0 9).toNat, 11), (.int x1, 0)] M1 (fun v3 M3 =>
      CT l E (d - 1) m_FN_answer [(.ref 0, 0), (.int (toI v3), 0)] M3 (fun v4 M4 =>
       K (.int (toI v4), 0) M4)))) ∧
    (¬ x2 = iN 6 →
     CT l E (d - 1) m_FN_refuse [(.ref 0, 0), (.int (iN 1), 0)] M1 (fun v2 M2 =>
      K (.int (toI v2), 0) M2)))))))))))))))) ∧
   ((toI v1) = 0 →
    CT l E (d - 1) m_FN_refuse [(.ref 0, 0), (.int (iN 1), 0)] M1 (fun v14 M14 =>
     K (.int (toI v14), 0) M14)))))) :
  G l E d m_FN_singer 0 [(0, (.ref 0, 0)), (1, (.int x1, 0)), (2, (.int x2, 0))] [] M K := G.blk 60 _ hd ok_FN_singer rfl h
def bt_FN_line : BtT := [(0, [0, 1, 2], true, [(0, .aload_n 0, 1, 0, 0, 0, m0),
   (1, .getfield 64, 3, 9, 10, 501, m0),
   (4, .iload_n 1, 1, 0, 0, 0, m0),
   (5, .invokevirtual 214, 3, 0, 0, 947, m_Choir_knows),
   (8, .ifCond .eq 15, 3, 23, 0, 0, m0),
   (11, .nop, 0, 0, 0, 0, m0)]),
  (11, [], false, [(11, .aload_n 0, 1, 0, 0, 0, m0),
   (12, .getfield 64, 3, 9, 10, 501, m0),
   (15, .iload_n 1, 1, 0, 0, 0, m0),
   (16, .iload_n 2, 1, 0, 0, 0, m0),
   (17, .invokevirtual 245, 3, 0, 0, 970, m_Choir_hasNote),
   (20, .ifCond .ne 9, 3, 29, 0, 0, m0),
   (23, .nop, 0, 0, 0, 0, m0)]),
  (23, [], false, [(23, .aload_n 0, 1, 0, 0, 0, m0),
   (24, .iconst 1, 1, 0, 0, 0, m0),
   (25, .invokevirtual 124, 3, 0, 0, 608, m_FN_refuse),
   (28, .ireturn, 1, 0, 0, 0, m0)]),
  (29, [], false, [(29, .aload_n 0, 1, 0, 0, 0, m0),
   (30, .aload_n 0, 1, 0, 0, 0, m0),
   (31, .getfield 64, 3, 9, 10, 501, m0),
   (34, .getfield 248, 3, 4, 0, 273, m0),
   (37, .iload_n 1, 1, 0, 0, 0, m0),
   (38, .iload_n 2, 1, 0, 0, 0, m0),
   (39, .invokestatic 251, 3, 0, 0, 974, m_Choir_slot),
   (42, .iaload, 1, 0, 0, 0, m0),
   (43, .invokevirtual 170, 3, 0, 0, 835, m_FN_answer),
   (46, .ireturn, 1, 0, 0, 0, m0)])]
theorem ok_FN_line : okBt m_FN_line bt_FN_line = true := by decide +kernel
set_option maxRecDepth 100000 in
theorem b_FN_line_0 {l : Launch} {E : EnvT} {d : Nat} {K : AV → Mem → Prop} {M : Mem} {x1 : Int32} {x2 : Int32} (hd : 1 ≤ d)
  (h : (((M 0 0 9).toNat, 11) ∈ CL ∧ CT l E (d - 1) m_Choir_knows [(.ref (M 0 0 9).toNat, 11), (.int x1, 0)] M (fun v1 M1 =>
   (((toI v1) = 0 →
    CT l E (d - 1) m_FN_refuse [(.ref 0, 0), (.int (iN 1), 0)] M1 (fun v2 M2 =>
     K (.int (toI v2), 0) M2)) ∧
   (¬ (toI v1) = 0 →
    (((M1 0 0 9).toNat, 11) ∈ CL ∧ CT l E (d - 1) m_Choir_hasNote [(.ref (M1 0 0 9).toNat, 11), (.int x1, 0), (.int x2, 0)] M1 (fun v3 M3 =>
     ((¬ (toI v3) = 0 →
      (((M3 0 0 9).toNat, 11) ∈ CL ∧ CT l E (d - 1) m_Choir_slot [(.int x1, 0), (.int x2, 0)] M3 (fun v4 M4 =>
       (vp_in (toI v4) 48 ∧ CT l E (d - 1) m_FN_answer [(.ref 0, 0), (.int (iN (M4 (M3 0 0 9).toNat 5 ((toI v4)).toNatClampNeg)), 0)] M4 (fun v5 M5 =>
        K (.int (toI v5), 0) M5))))) ∧
     ((toI v3) = 0 →
      CT l E (d - 1) m_FN_refuse [(.ref 0, 0), (.int (iN 1), 0)] M3 (fun v6 M6 =>
       K (.int (toI v6), 0) M6)))))))))) :
  G l E d m_FN_line 0 [(0, (.ref 0, 0)), (1, (.int x1, 0)), (2, (.int x2, 0))] [] M K := G.blk 60 _ hd ok_FN_line rfl h
def bt_FN_held : BtT := [(0, [0, 1, 2, 3], true, [(0, .aload_n 0, 1, 0, 0, 0, m0),
   (1, .getfield 64, 3, 9, 10, 501, m0),
   (4, .iload_n 1, 1, 0, 0, 0, m0),
   (5, .invokevirtual 214, 3, 0, 0, 947, m_Choir_knows),
   (8, .ifCond .eq 24, 3, 32, 0, 0, m0),
   (11, .nop, 0, 0, 0, 0, m0)]),
  (11, [], false, [(11, .aload_n 0, 1, 0, 0, 0, m0),
   (12, .getfield 64, 3, 9, 10, 501, m0),
   (15, .iload_n 1, 1, 0, 0, 0, m0),
   (16, .iload_n 2, 1, 0, 0, 0, m0),
   (17, .invokevirtual 245, 3, 0, 0, 970, m_Choir_hasNote),
   (20, .ifCond .eq 12, 3, 32, 0, 0, m0),
   (23, .nop, 0, 0, 0, 0, m0)]),
  (23, [], false, [(23, .iload_n 3, 1, 0, 0, 0, m0),
   (24, .ifCond .lt 8, 3, 32, 0, 0, m0),
   (27, .nop, 0, 0, 0, 0, m0)]),
  (27, [], false, [(27, .iload_n 3, 1, 0, 0, 0, m0),
   (28, .iconst 1, 1, 0, 0, 0, m0),
   (29, .if_icmp .le 9, 3, 38, 0, 0, m0),
   (32, .nop, 0, 0, 0, 0, m0)]),
  (32, [], false, [(32, .aload_n 0, 1, 0, 0, 0, m0),
   (33, .iconst 1, 1, 0, 0, 0, m0),
   (34, .invokevirtual 124, 3, 0, 0, 608, m_FN_refuse),
   (37, .ireturn, 1, 0, 0, 0, m0)]),
  (38, [], false, [(38, .iload_n 1, 1, 0, 0, 0, m0),
   (39, .iload_n 2, 1, 0, 0, 0, m0),
   (40, .invokestatic 251, 3, 0, 0, 974, m_Choir_slot),
   (43, .istore 4, 2, 0, 0, 0, m0),
   (45, .aload_n 0, 1, 0, 0, 0, m0),
   (46, .getfield 64, 3, 9, 10, 501, m0),
   (49, .getfield 254, 3, 5, 0, 275, m0),
   (52, .iload 4, 2, 0, 0, 0, m0),
   (54, .iaload, 1, 0, 0, 0, m0),
   (55, .iconst (-1), 1, 0, 0, 0, m0),
   (56, .if_icmp .ne 10, 3, 66, 0, 0, m0),
   (59, .nop, 0, 0, 0, 0, m0)]),
  (59, [], false, [(59, .aload_n 0, 1, 0, 0, 0, m0),
   (60, .bipush 6, 2, 0, 0, 0, m0),
   (62, .invokevirtual 124, 3, 0, 0, 608, m_FN_refuse),
   (65, .ireturn, 1, 0, 0, 0, m0)]),
  (66, [], false, [(66, .aload_n 0, 1, 0, 0, 0, m0),
   (67, .iload_n 3, 1, 0, 0, 0, m0),
   (68, .ifCond .ne 16, 3, 84, 0, 0, m0),
   (71, .nop, 0, 0, 0, 0, m0)]),
  (71, [], false, [(71, .aload_n 0, 1, 0, 0, 0, m0),
   (72, .getfield 64, 3, 9, 10, 501, m0),
   (75, .getfield 254, 3, 5, 0, 275, m0),
   (78, .iload 4, 2, 0, 0, 0, m0),
   (80, .iaload, 1, 0, 0, 0, m0),
   (81, .goto 13, 3, 94, 0, 0, m0)]),
  (84, [], false, [(84, .aload_n 0, 1, 0, 0, 0, m0),
   (85, .getfield 64, 3, 9, 10, 501, m0),
   (88, .getfield 257, 3, 6, 0, 277, m0),
   (91, .iload 4, 2, 0, 0, 0, m0),
   (93, .iaload, 1, 0, 0, 0, m0),
   (94, .nop, 0, 0, 0, 0, m0)]),
  (94, [], false, [(94, .invokevirtual 170, 3, 0, 0, 835, m_FN_answer),
   (97, .ireturn, 1, 0, 0, 0, m0)])]
theorem ok_FN_held : okBt m_FN_held bt_FN_held = true := by decide +kernel
set_option maxRecDepth 100000 in
theorem b_FN_held_0 {l : Launch} {E : EnvT} {d : Nat} {K : AV → Mem → Prop} {M : Mem} {x1 : Int32} {x2 : Int32} {x3 : Int32} (hd : 1 ≤ d)
  (h : (((M 0 0 9).toNat, 11) ∈ CL ∧ CT l E (d - 1) m_Choir_knows [(.ref (M 0 0 9).toNat, 11), (.int x1, 0)] M (fun v1 M1 =>
   (((toI v1) = 0 →
    CT l E (d - 1) m_FN_refuse [(.ref 0, 0), (.int (iN 1), 0)] M1 (fun v2 M2 =>
     K (.int (toI v2), 0) M2)) ∧
   (¬ (toI v1) = 0 →
    (((M1 0 0 9).toNat, 11) ∈ CL ∧ CT l E (d - 1) m_Choir_hasNote [(.ref (M1 0 0 9).toNat, 11), (.int x1, 0), (.int x2, 0)] M1 (fun v3 M3 =>
     (((toI v3) = 0 →
      CT l E (d - 1) m_FN_refuse [(.ref 0, 0), (.int (iN 1), 0)] M3 (fun v4 M4 =>
       K (.int (toI v4), 0) M4)) ∧
     (¬ (toI v3) = 0 →
      ((x3 < 0 →
       CT l E (d - 1) m_FN_refuse [(.ref 0, 0), (.int (iN 1), 0)] M3 (fun v5 M5 =>
        K (.int (toI v5), 0) M5)) ∧
      (¬ x3 < 0 →
       ((x3 ≤ (iN 1) →
        CT l E (d - 1) m_Choir_slot [(.int x1, 0), (.int x2, 0)] M3 (fun v6 M6 =>
         (((M6 0 0 9).toNat, 11) ∈ CL ∧ vp_in (toI v6) 48 ∧ ((¬ (iN (M6 (M6 0 0 9).toNat 6 ((toI v6)).toNatClampNeg)) = (iN (-1)) →
          ((¬ x3 = 0 →
           (((M6 0 0 9).toNat, 11) ∈ CL ∧ vp_in (toI v6) 48 ∧ CT l E (d - 1) m_FN_answer [(.ref 0, 0), (.int (iN (M6 (M6 0 0 9).toNat 7 ((toI v6)).toNatClampNeg)), 0)] M6 (fun v7 M7 =>
            K (.int (toI v7), 0) M7))) ∧
          (x3 = 0 →
           (((M6 0 0 9).toNat, 11) ∈ CL ∧ vp_in (toI v6) 48 ∧ CT l E (d - 1) m_FN_answer [(.ref 0, 0), (.int (iN (M6 (M6 0 0 9).toNat 6 ((toI v6)).toNatClampNeg)), 0)] M6 (fun v8 M8 =>
            K (.int (toI v8), 0) M8))))) ∧
         ((iN (M6 (M6 0 0 9).toNat 6 ((toI v6)).toNatClampNeg)) = (iN (-1)) →
          CT l E (d - 1) m_FN_refuse [(.ref 0, 0), (.int (iN 6), 0)] M6 (fun v9 M9 =>
           K (.int (toI v9), 0) M9)))))) ∧
       (¬ x3 ≤ (iN 1) →
        CT l E (d - 1) m_FN_refuse [(.ref 0, 0), (.int (iN 1), 0)] M3 (fun v10 M10 =>
         K (.int (toI v10), 0) M10)))))))))))))) :
  G l E d m_FN_held 0 [(0, (.ref 0, 0)), (1, (.int x1, 0)), (2, (.int x2, 0)), (3, (.int x3, 0))] [] M K := G.blk 60 _ hd ok_FN_held rfl h
def bt_FN_owed : BtT := [(0, [0, 1, 2], true, [(0, .aload_n 0, 1, 0, 0, 0, m0),
   (1, .getfield 64, 3, 9, 10, 501, m0),
   (4, .iload_n 1, 1, 0, 0, 0, m0),
   (5, .invokevirtual 214, 3, 0, 0, 947, m_Choir_knows),
   (8, .ifCond .eq 19, 3, 27, 0, 0, m0),
   (11, .nop, 0, 0, 0, 0, m0)]),
  (11, [], false, [(11, .aload_n 0, 1, 0, 0, 0, m0),
   (12, .getfield 64, 3, 9, 10, 501, m0),
   (15, .iload_n 2, 1, 0, 0, 0, m0),
   (16, .invokevirtual 214, 3, 0, 0, 947, m_Choir_knows),
   (19, .ifCond .eq 8, 3, 27, 0, 0, m0),
   (22, .nop, 0, 0, 0, 0, m0)]),
  (22, [], false, [(22, .iload_n 1, 1, 0, 0, 0, m0),
   (23, .iload_n 2, 1, 0, 0, 0, m0),
   (24, .if_icmp .ne 9, 3, 33, 0, 0, m0),
   (27, .nop, 0, 0, 0, 0, m0)]),
  (27, [], false, [(27, .aload_n 0, 1, 0, 0, 0, m0),
   (28, .iconst 1, 1, 0, 0, 0, m0),
   (29, .invokevirtual 124, 3, 0, 0, 608, m_FN_refuse),
   (32, .ireturn, 1, 0, 0, 0, m0)]),
  (33, [], false, [(33, .aload_n 0, 1, 0, 0, 0, m0),
   (34, .aload_n 0, 1, 0, 0, 0, m0),
   (35, .getfield 64, 3, 9, 10, 501, m0),
   (38, .iload_n 1, 1, 0, 0, 0, m0),
   (39, .iload_n 2, 1, 0, 0, 0, m0),
   (40, .invokevirtual 260, 3, 0, 0, 983, m_Choir_owedBetween),
   (43, .invokevirtual 170, 3, 0, 0, 835, m_FN_answer),
   (46, .ireturn, 1, 0, 0, 0, m0)])]
theorem ok_FN_owed : okBt m_FN_owed bt_FN_owed = true := by decide +kernel
set_option maxRecDepth 100000 in
theorem b_FN_owed_0 {l : Launch} {E : EnvT} {d : Nat} {K : AV → Mem → Prop} {M : Mem} {x1 : Int32} {x2 : Int32} (hd : 1 ≤ d)
  (h : (((M 0 0 9).toNat, 11) ∈ CL ∧ CT l E (d - 1) m_Choir_knows [(.ref (M 0 0 9).toNat, 11), (.int x1, 0)] M (fun v1 M1 =>
   (((toI v1) = 0 →
    CT l E (d - 1) m_FN_refuse [(.ref 0, 0), (.int (iN 1), 0)] M1 (fun v2 M2 =>
     K (.int (toI v2), 0) M2)) ∧
   (¬ (toI v1) = 0 →
    (((M1 0 0 9).toNat, 11) ∈ CL ∧ CT l E (d - 1) m_Choir_knows [(.ref (M1 0 0 9).toNat, 11), (.int x2, 0)] M1 (fun v3 M3 =>
     (((toI v3) = 0 →
      CT l E (d - 1) m_FN_refuse [(.ref 0, 0), (.int (iN 1), 0)] M3 (fun v4 M4 =>
       K (.int (toI v4), 0) M4)) ∧
     (¬ (toI v3) = 0 →
      ((¬ x1 = x2 →
       (((M3 0 0 9).toNat, 11) ∈ CL ∧ CT l E (d - 1) m_Choir_owedBetween [(.ref (M3 0 0 9).toNat, 11), (.int x1, 0), (.int x2, 0)] M3 (fun v5 M5 =>
        CT l E (d - 1) m_FN_answer [(.ref 0, 0), (.int (toI v5), 0)] M5 (fun v6 M6 =>
         K (.int (toI v6), 0) M6)))) ∧
      (x1 = x2 →
       CT l E (d - 1) m_FN_refuse [(.ref 0, 0), (.int (iN 1), 0)] M3 (fun v7 M7 =>
        K (.int (toI v7), 0) M7)))))))))))) :
  G l E d m_FN_owed 0 [(0, (.ref 0, 0)), (1, (.int x1, 0)), (2, (.int x2, 0))] [] M K := G.blk 60 _ hd ok_FN_owed rfl h
def bt_FN_waiting : BtT := [(0, [0, 1, 2], true, [(0, .iload_n 2, 1, 0, 0, 0, m0),
   (1, .ifCond .lt 8, 3, 9, 0, 0, m0),
   (4, .nop, 0, 0, 0, 0, m0)]),
  (4, [], false, [(4, .iload_n 2, 1, 0, 0, 0, m0),
   (5, .iconst 2, 1, 0, 0, 0, m0),
   (6, .if_icmp .le 9, 3, 15, 0, 0, m0),
   (9, .nop, 0, 0, 0, 0, m0)]),
  (9, [], false, [(9, .aload_n 0, 1, 0, 0, 0, m0),
   (10, .iconst 1, 1, 0, 0, 0, m0),
   (11, .invokevirtual 124, 3, 0, 0, 608, m_FN_refuse),
   (14, .ireturn, 1, 0, 0, 0, m0)]),
  (15, [], false, [(15, .aload_n 0, 1, 0, 0, 0, m0),
   (16, .getfield 64, 3, 9, 10, 501, m0),
   (19, .getfield 190, 3, 7, 0, 279, m0),
   (22, .astore_n 3, 1, 0, 0, 0, m0),
   (23, .iload_n 1, 1, 0, 0, 0, m0),
   (24, .ifCond .lt 11, 3, 35, 0, 0, m0),
   (27, .nop, 0, 0, 0, 0, m0)]),
  (27, [], false, [(27, .iload_n 1, 1, 0, 0, 0, m0),
   (28, .aload_n 3, 1, 0, 0, 0, m0),
   (29, .getfield 194, 3, 3, 7, 251, m0),
   (32, .if_icmp .lt 10, 3, 42, 0, 0, m0),
   (35, .nop, 0, 0, 0, 0, m0)]),
  (35, [], false, [(35, .aload_n 0, 1, 0, 0, 0, m0),
   (36, .bipush 6, 2, 0, 0, 0, m0),
   (38, .invokevirtual 124, 3, 0, 0, 608, m_FN_refuse),
   (41, .ireturn, 1, 0, 0, 0, m0)]),
  (42, [], false, [(42, .iload_n 2, 1, 0, 0, 0, m0),
   (43, .ifCond .ne 14, 3, 57, 0, 0, m0),
   (46, .nop, 0, 0, 0, 0, m0)]),
  (46, [], false, [(46, .aload_n 0, 1, 0, 0, 0, m0),
   (47, .aload_n 3, 1, 0, 0, 0, m0),
   (48, .getfield 263, 3, 0, 7, 241, m0),
   (51, .iload_n 1, 1, 0, 0, 0, m0),
   (52, .iaload, 1, 0, 0, 0, m0),
   (53, .invokevirtual 170, 3, 0, 0, 835, m_FN_answer),
   (56, .ireturn, 1, 0, 0, 0, m0)]),
  (57, [], false, [(57, .aload_n 0, 1, 0, 0, 0, m0),
   (58, .iload_n 2, 1, 0, 0, 0, m0),
   (59, .iconst 1, 1, 0, 0, 0, m0),
   (60, .if_icmp .ne 12, 3, 72, 0, 0, m0),
   (63, .nop, 0, 0, 0, 0, m0)]),
  (63, [], false, [(63, .aload_n 3, 1, 0, 0, 0, m0),
   (64, .getfield 266, 3, 1, 7, 244, m0),
   (67, .iload_n 1, 1, 0, 0, 0, m0),
   (68, .iaload, 1, 0, 0, 0, m0),
   (69, .goto 9, 3, 78, 0, 0, m0)]),
  (72, [], false, [(72, .aload_n 3, 1, 0, 0, 0, m0),
   (73, .getfield 269, 3, 2, 7, 247, m0),
   (76, .iload_n 1, 1, 0, 0, 0, m0),
   (77, .iaload, 1, 0, 0, 0, m0),
   (78, .nop, 0, 0, 0, 0, m0)]),
  (78, [], false, [(78, .invokevirtual 170, 3, 0, 0, 835, m_FN_answer),
   (81, .ireturn, 1, 0, 0, 0, m0)])]
theorem ok_FN_waiting : okBt m_FN_waiting bt_FN_waiting = true := by decide +kernel
set_option maxRecDepth 100000 in
theorem b_FN_waiting_0 {l : Launch} {E : EnvT} {d : Nat} {K : AV → Mem → Prop} {M : Mem} {x1 : Int32} {x2 : Int32} (hd : 1 ≤ d)
  (h : ((x2 < 0 →
   CT l E (d - 1) m_FN_refuse [(.ref 0, 0), (.int (iN 1), 0)] M (fun v1 M1 =>
    K (.int (toI v1), 0) M1)) ∧
  (¬ x2 < 0 →
   ((x2 ≤ (iN 2) →
    (((M 0 0 9).toNat, 11) ∈ CL ∧ ((x1 < 0 →
     CT l E (d - 1) m_FN_refuse [(.ref 0, 0), (.int (iN 6), 0)] M (fun v2 M2 =>
      K (.int (toI v2), 0) M2)) ∧
    (¬ x1 < 0 →
     ((x1 < (iN (M (M 0 0 9).toNat 8 3)) →
      ((¬ x2 = 0 →
       ((¬ x2 = (iN 1) →
        (vp_in x1 8 ∧ CT l E (d - 1) m_FN_answer [(.ref 0, 0), (.int (iN (M (M 0 0 9).toNat 11 (x1).toNatClampNeg)), 0)] M (fun v3 M3 =>
         K (.int (toI v3), 0) M3))) ∧
       (x2 = (iN 1) →
        (vp_in x1 8 ∧ CT l E (d - 1) m_FN_answer [(.ref 0, 0), (.int (iN (M (M 0 0 9).toNat 10 (x1).toNatClampNeg)), 0)] M (fun v4 M4 =>
         K (.int (toI v4), 0) M4))))) ∧
      (x2 = 0 →
       (vp_in x1 8 ∧ CT l E (d - 1) m_FN_answer [(.ref 0, 0), (.int (iN (M (M 0 0 9).toNat 9 (x1).toNatClampNeg)), 0)] M (fun v5 M5 =>
        K (.int (toI v5), 0) M5))))) ∧
     (¬ x1 < (iN (M (M 0 0 9).toNat 8 3)) →
      CT l E (d - 1) m_FN_refuse [(.ref 0, 0), (.int (iN 6), 0)] M (fun v6 M6 =>
       K (.int (toI v6), 0) M6))))))) ∧
   (¬ x2 ≤ (iN 2) →
    CT l E (d - 1) m_FN_refuse [(.ref 0, 0), (.int (iN 1), 0)] M (fun v7 M7 =>
     K (.int (toI v7), 0) M7)))))) :
  G l E d m_FN_waiting 0 [(0, (.ref 0, 0)), (1, (.int x1, 0)), (2, (.int x2, 0))] [] M K := G.blk 60 _ hd ok_FN_waiting rfl h
def bt_FN_sung : BtT := [(0, [0, 1, 2], true, [(0, .aload_n 0, 1, 0, 0, 0, m0),
   (1, .getfield 64, 3, 9, 10, 501, m0),
   (4, .iload_n 1, 1, 0, 0, 0, m0),
   (5, .invokevirtual 272, 3, 0, 0, 999, m_Choir_lives),
   (8, .ifCond .eq 15, 3, 23, 0, 0, m0),
   (11, .nop, 0, 0, 0, 0, m0)]),
  (11, [], false, [(11, .aload_n 0, 1, 0, 0, 0, m0),
   (12, .getfield 64, 3, 9, 10, 501, m0),
   (15, .iload_n 1, 1, 0, 0, 0, m0),
   (16, .iload_n 2, 1, 0, 0, 0, m0),
   (17, .invokevirtual 245, 3, 0, 0, 970, m_Choir_hasNote),
   (20, .ifCond .ne 9, 3, 29, 0, 0, m0),
   (23, .nop, 0, 0, 0, 0, m0)]),
  (23, [], false, [(23, .aload_n 0, 1, 0, 0, 0, m0),
   (24, .iconst 1, 1, 0, 0, 0, m0),
   (25, .invokevirtual 124, 3, 0, 0, 608, m_FN_refuse),
   (28, .ireturn, 1, 0, 0, 0, m0)]),
  (29, [], false, [(29, .aload_n 0, 1, 0, 0, 0, m0),
   (30, .aload_n 0, 1, 0, 0, 0, m0),
   (31, .getfield 64, 3, 9, 10, 501, m0),
   (34, .iload_n 1, 1, 0, 0, 0, m0),
   (35, .iload_n 2, 1, 0, 0, 0, m0),
   (36, .invokevirtual 275, 3, 0, 0, 1003, m_Choir_sungAt),
   (39, .invokevirtual 170, 3, 0, 0, 835, m_FN_answer),
   (42, .ireturn, 1, 0, 0, 0, m0)])]
theorem ok_FN_sung : okBt m_FN_sung bt_FN_sung = true := by decide +kernel
set_option maxRecDepth 100000 in
theorem b_FN_sung_0 {l : Launch} {E : EnvT} {d : Nat} {K : AV → Mem → Prop} {M : Mem} {x1 : Int32} {x2 : Int32} (hd : 1 ≤ d)
  (h : (((M 0 0 9).toNat, 11) ∈ CL ∧ CT l E (d - 1) m_Choir_lives [(.ref (M 0 0 9).toNat, 11), (.int x1, 0)] M (fun v1 M1 =>
   (((toI v1) = 0 →
    CT l E (d - 1) m_FN_refuse [(.ref 0, 0), (.int (iN 1), 0)] M1 (fun v2 M2 =>
     K (.int (toI v2), 0) M2)) ∧
   (¬ (toI v1) = 0 →
    (((M1 0 0 9).toNat, 11) ∈ CL ∧ CT l E (d - 1) m_Choir_hasNote [(.ref (M1 0 0 9).toNat, 11), (.int x1, 0), (.int x2, 0)] M1 (fun v3 M3 =>
     ((¬ (toI v3) = 0 →
      (((M3 0 0 9).toNat, 11) ∈ CL ∧ CT l E (d - 1) m_Choir_sungAt [(.ref (M3 0 0 9).toNat, 11), (.int x1, 0), (.int x2, 0)] M3 (fun v4 M4 =>
       CT l E (d - 1) m_FN_answer [(.ref 0, 0), (.int (toI v4), 0)] M4 (fun v5 M5 =>
        K (.int (toI v5), 0) M5)))) ∧
     ((toI v3) = 0 →
      CT l E (d - 1) m_FN_refuse [(.ref 0, 0), (.int (iN 1), 0)] M3 (fun v6 M6 =>
       K (.int (toI v6), 0) M6)))))))))) :
  G l E d m_FN_sung 0 [(0, (.ref 0, 0)), (1, (.int x1, 0)), (2, (.int x2, 0))] [] M K := G.blk 60 _ hd ok_FN_sung rfl h
def bt_FN_lineTrayStatus : BtT := [(0, [0, 1, 2], true, [(0, .aload_n 0, 1, 0, 0, 0, m0),
   (1, .getfield 64, 3, 9, 10, 501, m0),
   (4, .iload_n 1, 1, 0, 0, 0, m0),
   (5, .invokevirtual 272, 3, 0, 0, 999, m_Choir_lives),
   (8, .ifCond .eq 10, 3, 18, 0, 0, m0),
   (11, .nop, 0, 0, 0, 0, m0)]),
  (11, [], false, [(11, .iload_n 2, 1, 0, 0, 0, m0),
   (12, .invokestatic 101, 3, 0, 0, 566, m_FN_isTray),
   (15, .ifCond .ne 5, 3, 20, 0, 0, m0),
   (18, .nop, 0, 0, 0, 0, m0)]),
  (18, [], false, [(18, .iconst 1, 1, 0, 0, 0, m0),
   (19, .ireturn, 1, 0, 0, 0, m0)]),
  (20, [], false, [(20, .aload_n 0, 1, 0, 0, 0, m0),
   (21, .getfield 11, 3, 0, 10, 492, m0),
   (24, .iload_n 2, 1, 0, 0, 0, m0),
   (25, .aaload, 1, 0, 0, 0, m0),
   (26, .invokevirtual 132, 3, 0, 0, 592, m_Tray_isMissing),
   (29, .ifCond .eq 5, 3, 34, 0, 0, m0),
   (32, .nop, 0, 0, 0, 0, m0)]),
  (32, [], false, [(32, .iconst 2, 1, 0, 0, 0, m0),
   (33, .ireturn, 1, 0, 0, 0, m0)]),
  (34, [], false, [(34, .aload_n 0, 1, 0, 0, 0, m0),
   (35, .getfield 11, 3, 0, 10, 492, m0),
   (38, .iload_n 2, 1, 0, 0, 0, m0),
   (39, .aaload, 1, 0, 0, 0, m0),
   (40, .getfield 428, 3, 2, 6, 484, m0),
   (43, .aload_n 0, 1, 0, 0, 0, m0),
   (44, .getfield 64, 3, 9, 10, 501, m0),
   (47, .getfield 221, 3, 3, 0, 271, m0),
   (50, .iload_n 1, 1, 0, 0, 0, m0),
   (51, .iaload, 1, 0, 0, 0, m0),
   (52, .if_icmp .ge 7, 3, 59, 0, 0, m0),
   (55, .nop, 0, 0, 0, 0, m0)]),
  (55, [], false, [(55, .iconst 3, 1, 0, 0, 0, m0),
   (56, .goto 4, 3, 60, 0, 0, m0)]),
  (59, [], false, [(59, .iconst 0, 1, 0, 0, 0, m0),
   (60, .nop, 0, 0, 0, 0, m0)]),
  (60, [], false, [(60, .ireturn, 1, 0, 0, 0, m0)])]
theorem ok_FN_lineTrayStatus : okBt m_FN_lineTrayStatus bt_FN_lineTrayStatus = true := by decide +kernel
set_option maxRecDepth 100000 in
theorem b_FN_lineTrayStatus_0 {l : Launch} {E : EnvT} {d : Nat} {K : AV → Mem → Prop} {M : Mem} {x1 : Int32} {x2 : Int32} (hd : 1 ≤ d)
  (h : (((M 0 0 9).toNat, 11) ∈ CL ∧ CT l E (d - 1) m_Choir_lives [(.ref (M 0 0 9).toNat, 11), (.int x1, 0)] M (fun v1 M1 =>
   (((toI v1) = 0 →
    K (.int (iN 1), 0) M1) ∧
   (¬ (toI v1) = 0 →
    CT l E (d - 1) m_FN_isTray [(.int x2, 0)] M1 (fun v2 M2 =>
     ((¬ (toI v2) = 0 →
      (vp_in x2 4 ∧ CT l E (d - 1) m_Tray_isMissing [(.ref ([(20, 39), (21, 39), (22, 39), (23, 39)].getD (x2).toNatClampNeg (0, 0)).1, 39)] M2 (fun v3 M3 =>
       (((toI v3) = 0 →
        (vp_in x2 4 ∧ ((M3 0 0 9).toNat, 11) ∈ CL ∧ vp_in x1 8 ∧ (((iN (M3 (M3 0 0 9).toNat 4 (x1).toNatClampNeg)) ≤ (iN (M3 ([(20, 39), (21, 39), (22, 39), (23, 39)].getD (x2).toNatClampNeg (0, 0)).1 0 2)) →
         K (.int (iN 0), 0) M3) ∧
        (¬ (iN (M3 (M3 0 0 9).toNat 4 (x1).toNatClampNeg)) ≤ (iN (M3 ([(20, 39), (21, 39), (22, 39), (23, 39)].getD (x2).toNatClampNeg (0, 0)).1 0 2)) →
         K (.int (iN 3), 0) M3)))) ∧
       (¬ (toI v3) = 0 →
        K (.int (iN 2), 0) M3))))) ∧
     ((toI v2) = 0 →
      K (.int (iN 1), 0) M2)))))))) :
  G l E d m_FN_lineTrayStatus 0 [(0, (.ref 0, 0)), (1, (.int x1, 0)), (2, (.int x2, 0))] [] M K := G.blk 60 _ hd ok_FN_lineTrayStatus rfl h
def bt_FN_copySung : BtT := [(0, [0, 1, 2], true, [(0, .aload_n 0, 1, 0, 0, 0, m0),
   (1, .iload_n 1, 1, 0, 0, 0, m0),
   (2, .iload_n 2, 1, 0, 0, 0, m0),
   (3, .invokevirtual 278, 3, 0, 0, 1011, m_FN_lineTrayStatus),
   (6, .istore_n 3, 1, 0, 0, 0, m0),
   (7, .iload_n 3, 1, 0, 0, 0, m0),
   (8, .ifCond .eq 9, 3, 17, 0, 0, m0),
   (11, .nop, 0, 0, 0, 0, m0)]),
  (11, [], false, [(11, .aload_n 0, 1, 0, 0, 0, m0),
   (12, .iload_n 3, 1, 0, 0, 0, m0),
   (13, .invokevirtual 124, 3, 0, 0, 608, m_FN_refuse),
   (16, .ireturn, 1, 0, 0, 0, m0)]),
  (17, [], false, [(17, .aload_n 0, 1, 0, 0, 0, m0),
   (18, .getfield 64, 3, 9, 10, 501, m0),
   (21, .getfield 221, 3, 3, 0, 271, m0),
   (24, .iload_n 1, 1, 0, 0, 0, m0),
   (25, .iaload, 1, 0, 0, 0, m0),
   (26, .istore 4, 2, 0, 0, 0, m0),
   (28, .iconst 0, 1, 0, 0, 0, m0),
   (29, .istore 5, 2, 0, 0, 0, m0),
   (31, .nop, 0, 0, 0, 0, m0)]),
  (31, [0, 1, 2, 4, 5], true, [(31, .iload 5, 2, 0, 0, 0, m0),
   (33, .iload 4, 2, 0, 0, 0, m0),
   (35, .if_icmp .ge 31, 3, 66, 0, 0, m0),
   (38, .nop, 0, 0, 0, 0, m0)]),
  (38, [], false, [(38, .aload_n 0, 1, 0, 0, 0, m0),
   (39, .getfield 11, 3, 0, 10, 492, m0),
   (42, .iload_n 2, 1, 0, 0, 0, m0),
   (43, .aaload, 1, 0, 0, 0, m0),
   (44, .iload 5, 2, 0, 0, 0, m0),
   (46, .aload_n 0, 1, 0, 0, 0, m0),
   (47, .getfield 64, 3, 9, 10, 501, m0),
   (50, .iload_n 1, 1, 0, 0, 0, m0),
   (51, .iload 5, 2, 0, 0, 0, m0),
   (53, .invokevirtual 275, 3, 0, 0, 1003, m_Choir_sungAt),
   (56, .i2l, 1, 0, 0, 0, m0),
   (57, .invokevirtual 120, 3, 0, 0, 596, m_Tray_put),
   (60, .iinc 5 1, 3, 0, 0, 0, m0),
   (63, .goto (-32), 3, 31, 0, 0, m0)]),
  (66, [], false, [(66, .aload_n 0, 1, 0, 0, 0, m0),
   (67, .iload 4, 2, 0, 0, 0, m0),
   (69, .invokevirtual 170, 3, 0, 0, 835, m_FN_answer),
   (72, .ireturn, 1, 0, 0, 0, m0)])]
theorem ok_FN_copySung : okBt m_FN_copySung bt_FN_copySung = true := by decide +kernel
set_option maxRecDepth 100000 in
theorem b_FN_copySung_0 {l : Launch} {E : EnvT} {d : Nat} {K : AV → Mem → Prop} {M : Mem} {x1 : Int32} {x2 : Int32} (hd : 1 ≤ d)
  (h : CT l E (d - 1) m_FN_lineTrayStatus [(.ref 0, 0), (.int x1, 0), (.int x2, 0)] M (fun v1 M1 =>
   (((toI v1) = 0 →
    (((M1 0 0 9).toNat, 11) ∈ CL ∧ vp_in x1 8 ∧ G l E d m_FN_copySung 31 [(0, (.ref 0, 0)), (1, (.int x1, 0)), (2, (.int x2, 0)), (4, (.int (iN (M1 (M1 0 0 9).toNat 4 (x1).toNatClampNeg)), 0)), (5, (.int (iN 0), 0))] [] M1 K)) ∧
   (¬ (toI v1) = 0 →
    CT l E (d - 1) m_FN_refuse [(.ref 0, 0), (.int (toI v1), 0)] M1 (fun v2 M2 =>
     K (.int (toI v2), 0) M2))))) :
  G l E d m_FN_copySung 0 [(0, (.ref 0, 0)), (1, (.int x1, 0)), (2, (.int x2, 0))] [] M K := G.blk 60 _ hd ok_FN_copySung rfl h
set_option maxRecDepth 100000 in
theorem b_FN_copySung_31 {l : Launch} {E : EnvT} {d : Nat} {K : AV → Mem → Prop} {M : Mem} {x1 : Int32} {x2 : Int32} {x4 : Int32} {x5 : Int32} (hd : 1 ≤ d)
  (h : ((x4 ≤ x5 →
   CT l E (d - 1) m_FN_answer [(.ref 0, 0), (.int x4, 0)] M (fun v1 M1 =>
    K (.int (toI v1), 0) M1)) ∧
  (¬ x4 ≤ x5 →
   (vp_in x2 4 ∧ ((M 0 0 9).toNat, 11) ∈ CL ∧ CT l E (d - 1) m_Choir_sungAt [(.ref (M 0 0 9).toNat, 11), (.int x1, 0), (.int x5, 0)] M (fun v2 M2 =>
    CT l E (d - 1) m_Tray_put [(.ref ([(20, 39), (21, 39), (22, 39), (23, 39)].getD (x2).toNatClampNeg (0, 0)).1, 39), (.int x5, 0), (.long ((toI v2)).toInt64, 0)] M2 (fun v3 M3 =>
     G l E d m_FN_copySung 31 [(0, (.ref 0, 0)), (1, (.int x1, 0)), (2, (.int x2, 0)), (4, (.int x4, 0)), (5, (.int (x5 + iN 1), 0))] [] M3 K)))))) :
  G l E d m_FN_copySung 31 [(0, (.ref 0, 0)), (1, (.int x1, 0)), (2, (.int x2, 0)), (4, (.int x4, 0)), (5, (.int x5, 0))] [] M K := G.blk 60 _ hd ok_FN_copySung rfl h
def bt_FN_lend : BtT := [(0, [0, 1, 2, 3], true, [(0, .aload_n 0, 1, 0, 0, 0, m0),
   (1, .getfield 64, 3, 9, 10, 501, m0),
   (4, .iload_n 1, 1, 0, 0, 0, m0),
   (5, .iload_n 2, 1, 0, 0, 0, m0),
   (6, .invokevirtual 281, 3, 0, 0, 1019, m_Choir_areTwo),
   (9, .ifCond .eq 14, 3, 23, 0, 0, m0),
   (12, .nop, 0, 0, 0, 0, m0)]),
  (12, [], false, [(12, .iload_n 3, 1, 0, 0, 0, m0),
   (13, .iconst 1, 1, 0, 0, 0, m0),
   (14, .if_icmp .lt 9, 3, 23, 0, 0, m0),
   (17, .nop, 0, 0, 0, 0, m0)]),
  (17, [], false, [(17, .iload_n 3, 1, 0, 0, 0, m0),
   (18, .bipush 99, 2, 0, 0, 0, m0),
   (20, .if_icmp .le 9, 3, 29, 0, 0, m0),
   (23, .nop, 0, 0, 0, 0, m0)]),
  (23, [], false, [(23, .aload_n 0, 1, 0, 0, 0, m0),
   (24, .iconst 1, 1, 0, 0, 0, m0),
   (25, .invokevirtual 124, 3, 0, 0, 608, m_FN_refuse),
   (28, .ireturn, 1, 0, 0, 0, m0)]),
  (29, [], false, [(29, .aload_n 0, 1, 0, 0, 0, m0),
   (30, .getfield 64, 3, 9, 10, 501, m0),
   (33, .iload_n 1, 1, 0, 0, 0, m0),
   (34, .iload_n 2, 1, 0, 0, 0, m0),
   (35, .iload_n 3, 1, 0, 0, 0, m0),
   (36, .invokevirtual 284, 3, 0, 0, 1024, m_Choir_lendCoins),
   (39, .ifCond .ne 10, 3, 49, 0, 0, m0),
   (42, .nop, 0, 0, 0, 0, m0)]),
  (42, [], false, [(42, .aload_n 0, 1, 0, 0, 0, m0),
   (43, .bipush 7, 2, 0, 0, 0, m0),
   (45, .invokevirtual 124, 3, 0, 0, 608, m_FN_refuse),
   (48, .ireturn, 1, 0, 0, 0, m0)]),
  (49, [], false, [(49, .aload_n 0, 1, 0, 0, 0, m0),
   (50, .aload_n 0, 1, 0, 0, 0, m0),
   (51, .getfield 64, 3, 9, 10, 501, m0),
   (54, .iload_n 2, 1, 0, 0, 0, m0),
   (55, .iload_n 1, 1, 0, 0, 0, m0),
   (56, .invokevirtual 260, 3, 0, 0, 983, m_Choir_owedBetween),
   (59, .invokevirtual 170, 3, 0, 0, 835, m_FN_answer),
   (62, .ireturn, 1, 0, 0, 0, m0)])]
theorem ok_FN_lend : okBt m_FN_lend bt_FN_lend = true := by decide +kernel
set_option maxRecDepth 100000 in
theorem b_FN_lend_0 {l : Launch} {E : EnvT} {d : Nat} {K : AV → Mem → Prop} {M : Mem} {x1 : Int32} {x2 : Int32} {x3 : Int32} (hd : 1 ≤ d)
  (h : (((M 0 0 9).toNat, 11) ∈ CL ∧ CT l E (d - 1) m_Choir_areTwo [(.ref (M 0 0 9).toNat, 11), (.int x1, 0), (.int x2, 0)] M (fun v1 M1 =>
   (((toI v1) = 0 →
    CT l E (d - 1) m_FN_refuse [(.ref 0, 0), (.int (iN 1), 0)] M1 (fun v2 M2 =>
     K (.int (toI v2), 0) M2)) ∧
   (¬ (toI v1) = 0 →
    ((x3 < (iN 1) →
     CT l E (d - 1) m_FN_refuse [(.ref 0, 0), (.int (iN 1), 0)] M1 (fun v3 M3 =>
      K (.int (toI v3), 0) M3)) ∧
    (¬ x3 < (iN 1) →
     ((x3 ≤ (iN 99) →
      (((M1 0 0 9).toNat, 11) ∈ CL ∧ CT l E (d - 1) m_Choir_lendCoins [(.ref (M1 0 0 9).toNat, 11), (.int x1, 0), (.int x2, 0), (.int x3, 0)] M1 (fun v4 M4 =>
       ((¬ (toI v4) = 0 →
        (((M4 0 0 9).toNat, 11) ∈ CL ∧ CT l E (d - 1) m_Choir_owedBetween [(.ref (M4 0 0 9).toNat, 11), (.int x2, 0), (.int x1, 0)] M4 (fun v5 M5 =>
         CT l E (d - 1) m_FN_answer [(.ref 0, 0), (.int (toI v5), 0)] M5 (fun v6 M6 =>
          K (.int (toI v6), 0) M6)))) ∧
       ((toI v4) = 0 →
        CT l E (d - 1) m_FN_refuse [(.ref 0, 0), (.int (iN 7), 0)] M4 (fun v7 M7 =>
         K (.int (toI v7), 0) M7)))))) ∧
     (¬ x3 ≤ (iN 99) →
      CT l E (d - 1) m_FN_refuse [(.ref 0, 0), (.int (iN 1), 0)] M1 (fun v8 M8 =>
       K (.int (toI v8), 0) M8)))))))))) :
  G l E d m_FN_lend 0 [(0, (.ref 0, 0)), (1, (.int x1, 0)), (2, (.int x2, 0)), (3, (.int x3, 0))] [] M K := G.blk 60 _ hd ok_FN_lend rfl h
def bt_FN_pay : BtT := [(0, [0, 1, 2, 3], true, [(0, .aload_n 0, 1, 0, 0, 0, m0),
   (1, .getfield 64, 3, 9, 10, 501, m0),
   (4, .iload_n 1, 1, 0, 0, 0, m0),
   (5, .iload_n 2, 1, 0, 0, 0, m0),
   (6, .invokevirtual 281, 3, 0, 0, 1019, m_Choir_areTwo),
   (9, .ifCond .eq 15, 3, 24, 0, 0, m0),
   (12, .nop, 0, 0, 0, 0, m0)]),
  (12, [], false, [(12, .iload_n 3, 1, 0, 0, 0, m0),
   (13, .iconst 1, 1, 0, 0, 0, m0),
   (14, .if_icmp .lt 10, 3, 24, 0, 0, m0),
   (17, .nop, 0, 0, 0, 0, m0)]),
  (17, [], false, [(17, .iload_n 3, 1, 0, 0, 0, m0),
   (18, .sipush 999, 3, 0, 0, 0, m0),
   (21, .if_icmp .le 9, 3, 30, 0, 0, m0),
   (24, .nop, 0, 0, 0, 0, m0)]),
  (24, [], false, [(24, .aload_n 0, 1, 0, 0, 0, m0),
   (25, .iconst 1, 1, 0, 0, 0, m0),
   (26, .invokevirtual 124, 3, 0, 0, 608, m_FN_refuse),
   (29, .ireturn, 1, 0, 0, 0, m0)]),
  (30, [], false, [(30, .aload_n 0, 1, 0, 0, 0, m0),
   (31, .getfield 64, 3, 9, 10, 501, m0),
   (34, .iload_n 1, 1, 0, 0, 0, m0),
   (35, .iload_n 2, 1, 0, 0, 0, m0),
   (36, .iload_n 3, 1, 0, 0, 0, m0),
   (37, .invokevirtual 288, 3, 0, 0, 1034, m_Choir_payCoins),
   (40, .ifCond .ne 10, 3, 50, 0, 0, m0),
   (43, .nop, 0, 0, 0, 0, m0)]),
  (43, [], false, [(43, .aload_n 0, 1, 0, 0, 0, m0),
   (44, .bipush 7, 2, 0, 0, 0, m0),
   (46, .invokevirtual 124, 3, 0, 0, 608, m_FN_refuse),
   (49, .ireturn, 1, 0, 0, 0, m0)]),
  (50, [], false, [(50, .aload_n 0, 1, 0, 0, 0, m0),
   (51, .aload_n 0, 1, 0, 0, 0, m0),
   (52, .getfield 64, 3, 9, 10, 501, m0),
   (55, .iload_n 1, 1, 0, 0, 0, m0),
   (56, .iload_n 2, 1, 0, 0, 0, m0),
   (57, .invokevirtual 260, 3, 0, 0, 983, m_Choir_owedBetween),
   (60, .invokevirtual 170, 3, 0, 0, 835, m_FN_answer),
   (63, .ireturn, 1, 0, 0, 0, m0)])]
theorem ok_FN_pay : okBt m_FN_pay bt_FN_pay = true := by decide +kernel
set_option maxRecDepth 100000 in
theorem b_FN_pay_0 {l : Launch} {E : EnvT} {d : Nat} {K : AV → Mem → Prop} {M : Mem} {x1 : Int32} {x2 : Int32} {x3 : Int32} (hd : 1 ≤ d)
  (h : (((M 0 0 9).toNat, 11) ∈ CL ∧ CT l E (d - 1) m_Choir_areTwo [(.ref (M 0 0 9).toNat, 11), (.int x1, 0), (.int x2, 0)] M (fun v1 M1 =>
   (((toI v1) = 0 →
    CT l E (d - 1) m_FN_refuse [(.ref 0, 0), (.int (iN 1), 0)] M1 (fun v2 M2 =>
     K (.int (toI v2), 0) M2)) ∧
   (¬ (toI v1) = 0 →
    ((x3 < (iN 1) →
     CT l E (d - 1) m_FN_refuse [(.ref 0, 0), (.int (iN 1), 0)] M1 (fun v3 M3 =>
      K (.int (toI v3), 0) M3)) ∧
    (¬ x3 < (iN 1) →
     ((x3 ≤ (iN 999) →
      (((M1 0 0 9).toNat, 11) ∈ CL ∧ CT l E (d - 1) m_Choir_payCoins [(.ref (M1 0 0 9).toNat, 11), (.int x1, 0), (.int x2, 0), (.int x3, 0)] M1 (fun v4 M4 =>
       ((¬ (toI v4) = 0 →
        (((M4 0 0 9).toNat, 11) ∈ CL ∧ CT l E (d - 1) m_Choir_owedBetween [(.ref (M4 0 0 9).toNat, 11), (.int x1, 0), (.int x2, 0)] M4 (fun v5 M5 =>
         CT l E (d - 1) m_FN_answer [(.ref 0, 0), (.int (toI v5), 0)] M5 (fun v6 M6 =>
          K (.int (toI v6), 0) M6)))) ∧
       ((toI v4) = 0 →
        CT l E (d - 1) m_FN_refuse [(.ref 0, 0), (.int (iN 7), 0)] M4 (fun v7 M7 =>
         K (.int (toI v7), 0) M7)))))) ∧
     (¬ x3 ≤ (iN 999) →
      CT l E (d - 1) m_FN_refuse [(.ref 0, 0), (.int (iN 1), 0)] M1 (fun v8 M8 =>
       K (.int (toI v8), 0) M8)))))))))) :
  G l E d m_FN_pay 0 [(0, (.ref 0, 0)), (1, (.int x1, 0)), (2, (.int x2, 0)), (3, (.int x3, 0))] [] M K := G.blk 60 _ hd ok_FN_pay rfl h
def bt_FN_chord : BtT := [(0, [0, 1, 2], true, [(0, .aload_n 0, 1, 0, 0, 0, m0),
   (1, .getfield 64, 3, 9, 10, 501, m0),
   (4, .iload_n 1, 1, 0, 0, 0, m0),
   (5, .iload_n 2, 1, 0, 0, 0, m0),
   (6, .invokevirtual 281, 3, 0, 0, 1019, m_Choir_areTwo),
   (9, .ifCond .ne 9, 3, 18, 0, 0, m0),
   (12, .nop, 0, 0, 0, 0, m0)]),
  (12, [], false, [(12, .aload_n 0, 1, 0, 0, 0, m0),
   (13, .iconst 1, 1, 0, 0, 0, m0),
   (14, .invokevirtual 124, 3, 0, 0, 608, m_FN_refuse),
   (17, .ireturn, 1, 0, 0, 0, m0)]),
  (18, [], false, [(18, .aload_n 0, 1, 0, 0, 0, m0),
   (19, .getfield 64, 3, 9, 10, 501, m0),
   (22, .iload_n 1, 1, 0, 0, 0, m0),
   (23, .iload_n 2, 1, 0, 0, 0, m0),
   (24, .invokevirtual 291, 3, 0, 0, 1058, m_Choir_netTwo),
   (27, .istore_n 3, 1, 0, 0, 0, m0),
   (28, .iload_n 3, 1, 0, 0, 0, m0),
   (29, .ifCond .ne 12, 3, 41, 0, 0, m0),
   (32, .nop, 0, 0, 0, 0, m0)]),
  (32, [], false, [(32, .aload_n 0, 1, 0, 0, 0, m0),
   (33, .bipush 7, 2, 0, 0, 0, m0),
   (35, .invokevirtual 124, 3, 0, 0, 608, m_FN_refuse),
   (38, .goto 8, 3, 46, 0, 0, m0)]),
  (41, [], false, [(41, .aload_n 0, 1, 0, 0, 0, m0),
   (42, .iload_n 3, 1, 0, 0, 0, m0),
   (43, .invokevirtual 170, 3, 0, 0, 835, m_FN_answer),
   (46, .nop, 0, 0, 0, 0, m0)]),
  (46, [], false, [(46, .ireturn, 1, 0, 0, 0, m0)])]
theorem ok_FN_chord : okBt m_FN_chord bt_FN_chord = true := by decide +kernel
set_option maxRecDepth 100000 in
theorem b_FN_chord_0 {l : Launch} {E : EnvT} {d : Nat} {K : AV → Mem → Prop} {M : Mem} {x1 : Int32} {x2 : Int32} (hd : 1 ≤ d)
  (h : (((M 0 0 9).toNat, 11) ∈ CL ∧ CT l E (d - 1) m_Choir_areTwo [(.ref (M 0 0 9).toNat, 11), (.int x1, 0), (.int x2, 0)] M (fun v1 M1 =>
   ((¬ (toI v1) = 0 →
    (((M1 0 0 9).toNat, 11) ∈ CL ∧ CT l E (d - 1) m_Choir_netTwo [(.ref (M1 0 0 9).toNat, 11), (.int x1, 0), (.int x2, 0)] M1 (fun v2 M2 =>
     ((¬ (toI v2) = 0 →
      CT l E (d - 1) m_FN_answer [(.ref 0, 0), (.int (toI v2), 0)] M2 (fun v3 M3 =>
       K (.int (toI v3), 0) M3)) ∧
     ((toI v2) = 0 →
      CT l E (d - 1) m_FN_refuse [(.ref 0, 0), (.int (iN 7), 0)] M2 (fun v4 M4 =>
       K (.int (toI v4), 0) M4)))))) ∧
   ((toI v1) = 0 →
    CT l E (d - 1) m_FN_refuse [(.ref 0, 0), (.int (iN 1), 0)] M1 (fun v5 M5 =>
     K (.int (toI v5), 0) M5)))))) :
  G l E d m_FN_chord 0 [(0, (.ref 0, 0)), (1, (.int x1, 0)), (2, (.int x2, 0))] [] M K := G.blk 60 _ hd ok_FN_chord rfl h
def bt_FN_sunday : BtT := [(0, [0], true, [(0, .aload_n 0, 1, 0, 0, 0, m0),
   (1, .getfield 64, 3, 9, 10, 501, m0),
   (4, .invokevirtual 294, 3, 0, 0, 1066, m_Choir_keepSunday),
   (7, .ifCond .ne 9, 3, 16, 0, 0, m0),
   (10, .nop, 0, 0, 0, 0, m0)]),
  (10, [], false, [(10, .aload_n 0, 1, 0, 0, 0, m0),
   (11, .iconst 4, 1, 0, 0, 0, m0),
   (12, .invokevirtual 124, 3, 0, 0, 608, m_FN_refuse),
   (15, .ireturn, 1, 0, 0, 0, m0)]),
  (16, [], false, [(16, .aload_n 0, 1, 0, 0, 0, m0),
   (17, .aload_n 0, 1, 0, 0, 0, m0),
   (18, .getfield 64, 3, 9, 10, 501, m0),
   (21, .invokevirtual 199, 3, 0, 0, 916, m_Choir_allOwed),
   (24, .invokevirtual 170, 3, 0, 0, 835, m_FN_answer),
   (27, .ireturn, 1, 0, 0, 0, m0)])]
theorem ok_FN_sunday : okBt m_FN_sunday bt_FN_sunday = true := by decide +kernel
set_option maxRecDepth 100000 in
theorem b_FN_sunday_0 {l : Launch} {E : EnvT} {d : Nat} {K : AV → Mem → Prop} {M : Mem}  (hd : 1 ≤ d)
  (h : (((M 0 0 9).toNat, 11) ∈ CL ∧ CT l E (d - 1) m_Choir_keepSunday [(.ref (M 0 0 9).toNat, 11)] M (fun v1 M1 =>
   ((¬ (toI v1) = 0 →
    (((M1 0 0 9).toNat, 11) ∈ CL ∧ CT l E (d - 1) m_Choir_allOwed [(.ref (M1 0 0 9).toNat, 11)] M1 (fun v2 M2 =>
     CT l E (d - 1) m_FN_answer [(.ref 0, 0), (.int (toI v2), 0)] M2 (fun v3 M3 =>
      K (.int (toI v3), 0) M3)))) ∧
   ((toI v1) = 0 →
    CT l E (d - 1) m_FN_refuse [(.ref 0, 0), (.int (iN 4), 0)] M1 (fun v4 M4 =>
     K (.int (toI v4), 0) M4)))))) :
  G l E d m_FN_sunday 0 [(0, (.ref 0, 0))] [] M K := G.blk 60 _ hd ok_FN_sunday rfl h
def bt_FN_cold : BtT := [(0, [0, 1], true, [(0, .aload_n 0, 1, 0, 0, 0, m0),
   (1, .getfield 64, 3, 9, 10, 501, m0),
   (4, .iload_n 1, 1, 0, 0, 0, m0),
   (5, .invokevirtual 272, 3, 0, 0, 999, m_Choir_lives),
   (8, .ifCond .ne 9, 3, 17, 0, 0, m0),
   (11, .nop, 0, 0, 0, 0, m0)]),
  (11, [], false, [(11, .aload_n 0, 1, 0, 0, 0, m0),
   (12, .iconst 1, 1, 0, 0, 0, m0),
   (13, .invokevirtual 124, 3, 0, 0, 608, m_FN_refuse),
   (16, .ireturn, 1, 0, 0, 0, m0)]),
  (17, [], false, [(17, .aload_n 0, 1, 0, 0, 0, m0),
   (18, .aload_n 0, 1, 0, 0, 0, m0),
   (19, .getfield 64, 3, 9, 10, 501, m0),
   (22, .iload_n 1, 1, 0, 0, 0, m0),
   (23, .invokevirtual 297, 3, 0, 0, 1074, m_Choir_catchCold),
   (26, .bipush 7, 2, 0, 0, 0, m0),
   (28, .invokevirtual 236, 3, 0, 0, 954, m_FN_answerOr),
   (31, .ireturn, 1, 0, 0, 0, m0)])]
theorem ok_FN_cold : okBt m_FN_cold bt_FN_cold = true := by decide +kernel
set_option maxRecDepth 100000 in
theorem b_FN_cold_0 {l : Launch} {E : EnvT} {d : Nat} {K : AV → Mem → Prop} {M : Mem} {x1 : Int32} (hd : 1 ≤ d)
  (h : (((M 0 0 9).toNat, 11) ∈ CL ∧ CT l E (d - 1) m_Choir_lives [(.ref (M 0 0 9).toNat, 11), (.int x1, 0)] M (fun v1 M1 =>
   ((¬ (toI v1) = 0 →
    (((M1 0 0 9).toNat, 11) ∈ CL ∧ CT l E (d - 1) m_Choir_catchCold [(.ref (M1 0 0 9).toNat, 11), (.int x1, 0)] M1 (fun v2 M2 =>
     CT l E (d - 1) m_FN_answerOr [(.ref 0, 0), (.int (toI v2), 0), (.int (iN 7), 0)] M2 (fun v3 M3 =>
      K (.int (toI v3), 0) M3)))) ∧
   ((toI v1) = 0 →
    CT l E (d - 1) m_FN_refuse [(.ref 0, 0), (.int (iN 1), 0)] M1 (fun v4 M4 =>
     K (.int (toI v4), 0) M4)))))) :
  G l E d m_FN_cold 0 [(0, (.ref 0, 0)), (1, (.int x1, 0))] [] M K := G.blk 60 _ hd ok_FN_cold rfl h
def bt_FN_well : BtT := [(0, [0, 1], true, [(0, .aload_n 0, 1, 0, 0, 0, m0),
   (1, .getfield 64, 3, 9, 10, 501, m0),
   (4, .iload_n 1, 1, 0, 0, 0, m0),
   (5, .invokevirtual 272, 3, 0, 0, 999, m_Choir_lives),
   (8, .ifCond .ne 9, 3, 17, 0, 0, m0),
   (11, .nop, 0, 0, 0, 0, m0)]),
  (11, [], false, [(11, .aload_n 0, 1, 0, 0, 0, m0),
   (12, .iconst 1, 1, 0, 0, 0, m0),
   (13, .invokevirtual 124, 3, 0, 0, 608, m_FN_refuse),
   (16, .ireturn, 1, 0, 0, 0, m0)]),
  (17, [], false, [(17, .aload_n 0, 1, 0, 0, 0, m0),
   (18, .getfield 64, 3, 9, 10, 501, m0),
   (21, .getfield 208, 3, 11, 0, 292, m0),
   (24, .iload_n 1, 1, 0, 0, 0, m0),
   (25, .invokestatic 300, 3, 0, 0, 1082, m_Choir_isIn),
   (28, .ifCond .ne 10, 3, 38, 0, 0, m0),
   (31, .nop, 0, 0, 0, 0, m0)]),
  (31, [], false, [(31, .aload_n 0, 1, 0, 0, 0, m0),
   (32, .bipush 7, 2, 0, 0, 0, m0),
   (34, .invokevirtual 124, 3, 0, 0, 608, m_FN_refuse),
   (37, .ireturn, 1, 0, 0, 0, m0)]),
  (38, [], false, [(38, .aload_n 0, 1, 0, 0, 0, m0),
   (39, .getfield 64, 3, 9, 10, 501, m0),
   (42, .dup, 1, 0, 0, 0, m0),
   (43, .getfield 208, 3, 11, 0, 292, m0),
   (46, .iconst 1, 1, 0, 0, 0, m0),
   (47, .iload_n 1, 1, 0, 0, 0, m0),
   (48, .ishl, 1, 0, 0, 0, m0),
   (49, .iconst (-1), 1, 0, 0, 0, m0),
   (50, .ixor, 1, 0, 0, 0, m0),
   (51, .iand, 1, 0, 0, 0, m0),
   (52, .putfield 208, 3, 11, 0, 292, m0),
   (55, .aload_n 0, 1, 0, 0, 0, m0),
   (56, .aload_n 0, 1, 0, 0, 0, m0),
   (57, .getfield 64, 3, 9, 10, 501, m0),
   (60, .getfield 208, 3, 11, 0, 292, m0),
   (63, .invokestatic 303, 3, 0, 0, 1083, m_Integer_bitCount),
   (66, .invokevirtual 170, 3, 0, 0, 835, m_FN_answer),
   (69, .ireturn, 1, 0, 0, 0, m0)])]
theorem ok_FN_well : okBt m_FN_well bt_FN_well = true := by decide +kernel
set_option maxRecDepth 100000 in
theorem b_FN_well_0 {l : Launch} {E : EnvT} {d : Nat} {K : AV → Mem → Prop} {M : Mem} {x1 : Int32} (hd : 1 ≤ d)
  (h : (((M 0 0 9).toNat, 11) ∈ CL ∧ CT l E (d - 1) m_Choir_lives [(.ref (M 0 0 9).toNat, 11), (.int x1, 0)] M (fun v1 M1 =>
   ((¬ (toI v1) = 0 →
    (((M1 0 0 9).toNat, 11) ∈ CL ∧ CT l E (d - 1) m_Choir_isIn [(.int (iN (M1 (M1 0 0 9).toNat 0 11)), 0), (.int x1, 0)] M1 (fun v2 M2 =>
     ((¬ (toI v2) = 0 →
      (((M2 0 0 9).toNat, 11) ∈ CL ∧ (((upd3 M2 (M2 0 0 9).toNat 0 11 (((iN (M2 (M2 0 0 9).toNat 0 11)) &&& (((iN 1) <<< (x1 &&& 31)) ^^^ (iN (-1))))).toInt) 0 0 9).toNat, 11) ∈ CL ∧ CT l E (d - 1) m_Integer_bitCount [(.int (iN ((upd3 M2 (M2 0 0 9).toNat 0 11 (((iN (M2 (M2 0 0 9).toNat 0 11)) &&& (((iN 1) <<< (x1 &&& 31)) ^^^ (iN (-1))))).toInt) ((upd3 M2 (M2 0 0 9).toNat 0 11 (((iN (M2 (M2 0 0 9).toNat 0 11)) &&& (((iN 1) <<< (x1 &&& 31)) ^^^ (iN (-1))))).toInt) 0 0 9).toNat 0 11)), 0)] (upd3 M2 (M2 0 0 9).toNat 0 11 (((iN (M2 (M2 0 0 9).toNat 0 11)) &&& (((iN 1) <<< (x1 &&& 31)) ^^^ (iN (-1))))).toInt) (fun v3 M3 =>
       CT l E (d - 1) m_FN_answer [(.ref 0, 0), (.int (toI v3), 0)] M3 (fun v4 M4 =>
        K (.int (toI v4), 0) M4)))) ∧
     ((toI v2) = 0 →
      CT l E (d - 1) m_FN_refuse [(.ref 0, 0), (.int (iN 7), 0)] M2 (fun v5 M5 =>
       K (.int (toI v5), 0) M5)))))) ∧
   ((toI v1) = 0 →
    CT l E (d - 1) m_FN_refuse [(.ref 0, 0), (.int (iN 1), 0)] M1 (fun v6 M6 =>
     K (.int (toI v6), 0) M6)))))) :
  G l E d m_FN_well 0 [(0, (.ref 0, 0)), (1, (.int x1, 0))] [] M K := G.blk 60 _ hd ok_FN_well rfl h
def bt_FN_die : BtT := [(0, [0, 1], true, [(0, .aload_n 0, 1, 0, 0, 0, m0),
   (1, .getfield 64, 3, 9, 10, 501, m0),
   (4, .iload_n 1, 1, 0, 0, 0, m0),
   (5, .invokevirtual 272, 3, 0, 0, 999, m_Choir_lives),
   (8, .ifCond .ne 9, 3, 17, 0, 0, m0),
   (11, .nop, 0, 0, 0, 0, m0)]),
  (11, [], false, [(11, .aload_n 0, 1, 0, 0, 0, m0),
   (12, .iconst 1, 1, 0, 0, 0, m0),
   (13, .invokevirtual 124, 3, 0, 0, 608, m_FN_refuse),
   (16, .ireturn, 1, 0, 0, 0, m0)]),
  (17, [], false, [(17, .aload_n 0, 1, 0, 0, 0, m0),
   (18, .getfield 64, 3, 9, 10, 501, m0),
   (21, .iload_n 1, 1, 0, 0, 0, m0),
   (22, .invokevirtual 308, 3, 0, 0, 1093, m_Choir_bury),
   (25, .pop, 1, 0, 0, 0, m0),
   (26, .aload_n 0, 1, 0, 0, 0, m0),
   (27, .aload_n 0, 1, 0, 0, 0, m0),
   (28, .getfield 64, 3, 9, 10, 501, m0),
   (31, .invokevirtual 311, 3, 0, 0, 1109, m_Choir_livingCount),
   (34, .invokevirtual 170, 3, 0, 0, 835, m_FN_answer),
   (37, .ireturn, 1, 0, 0, 0, m0)])]
theorem ok_FN_die : okBt m_FN_die bt_FN_die = true := by decide +kernel
set_option maxRecDepth 100000 in
theorem b_FN_die_0 {l : Launch} {E : EnvT} {d : Nat} {K : AV → Mem → Prop} {M : Mem} {x1 : Int32} (hd : 1 ≤ d)
  (h : (((M 0 0 9).toNat, 11) ∈ CL ∧ CT l E (d - 1) m_Choir_lives [(.ref (M 0 0 9).toNat, 11), (.int x1, 0)] M (fun v1 M1 =>
   ((¬ (toI v1) = 0 →
    (((M1 0 0 9).toNat, 11) ∈ CL ∧ CT l E (d - 1) m_Choir_bury [(.ref (M1 0 0 9).toNat, 11), (.int x1, 0)] M1 (fun v2 M2 =>
     (((M2 0 0 9).toNat, 11) ∈ CL ∧ CT l E (d - 1) m_Choir_livingCount [(.ref (M2 0 0 9).toNat, 11)] M2 (fun v3 M3 =>
      CT l E (d - 1) m_FN_answer [(.ref 0, 0), (.int (toI v3), 0)] M3 (fun v4 M4 =>
       K (.int (toI v4), 0) M4)))))) ∧
   ((toI v1) = 0 →
    CT l E (d - 1) m_FN_refuse [(.ref 0, 0), (.int (iN 1), 0)] M1 (fun v5 M5 =>
     K (.int (toI v5), 0) M5)))))) :
  G l E d m_FN_die 0 [(0, (.ref 0, 0)), (1, (.int x1, 0))] [] M K := G.blk 60 _ hd ok_FN_die rfl h
def bt_FN_earn : BtT := [(0, [0, 1, 2], true, [(0, .aload_n 0, 1, 0, 0, 0, m0),
   (1, .getfield 64, 3, 9, 10, 501, m0),
   (4, .iload_n 1, 1, 0, 0, 0, m0),
   (5, .invokevirtual 272, 3, 0, 0, 999, m_Choir_lives),
   (8, .ifCond .eq 15, 3, 23, 0, 0, m0),
   (11, .nop, 0, 0, 0, 0, m0)]),
  (11, [], false, [(11, .iload_n 2, 1, 0, 0, 0, m0),
   (12, .iconst 1, 1, 0, 0, 0, m0),
   (13, .if_icmp .lt 10, 3, 23, 0, 0, m0),
   (16, .nop, 0, 0, 0, 0, m0)]),
  (16, [], false, [(16, .iload_n 2, 1, 0, 0, 0, m0),
   (17, .sipush 999, 3, 0, 0, 0, m0),
   (20, .if_icmp .le 9, 3, 29, 0, 0, m0),
   (23, .nop, 0, 0, 0, 0, m0)]),
  (23, [], false, [(23, .aload_n 0, 1, 0, 0, 0, m0),
   (24, .iconst 1, 1, 0, 0, 0, m0),
   (25, .invokevirtual 124, 3, 0, 0, 608, m_FN_refuse),
   (28, .ireturn, 1, 0, 0, 0, m0)]),
  (29, [], false, [(29, .aload_n 0, 1, 0, 0, 0, m0),
   (30, .getfield 64, 3, 9, 10, 501, m0),
   (33, .getfield 217, 3, 1, 0, 265, m0),
   (36, .iload_n 1, 1, 0, 0, 0, m0),
   (37, .iaload, 1, 0, 0, 0, m0),
   (38, .iload_n 2, 1, 0, 0, 0, m0),
   (39, .iadd, 1, 0, 0, 0, m0),
   (40, .sipush 9999, 3, 0, 0, 0, m0),
   (43, .if_icmp .le 10, 3, 53, 0, 0, m0),
   (46, .nop, 0, 0, 0, 0, m0)]),
  (46, [], false, [(46, .aload_n 0, 1, 0, 0, 0, m0),
   (47, .bipush 7, 2, 0, 0, 0, m0),
   (49, .invokevirtual 124, 3, 0, 0, 608, m_FN_refuse),
   (52, .ireturn, 1, 0, 0, 0, m0)]),
  (53, [], false, [(53, .aload_n 0, 1, 0, 0, 0, m0),
   (54, .getfield 64, 3, 9, 10, 501, m0),
   (57, .getfield 217, 3, 1, 0, 265, m0),
   (60, .iload_n 1, 1, 0, 0, 0, m0),
   (61, .dup2, 1, 0, 0, 0, m0),
   (62, .iaload, 1, 0, 0, 0, m0),
   (63, .iload_n 2, 1, 0, 0, 0, m0),
   (64, .iadd, 1, 0, 0, 0, m0),
   (65, .iastore, 1, 0, 0, 0, m0),
   (66, .aload_n 0, 1, 0, 0, 0, m0),
   (67, .aload_n 0, 1, 0, 0, 0, m0),
   (68, .getfield 64, 3, 9, 10, 501, m0),
   (71, .getfield 217, 3, 1, 0, 265, m0),
   (74, .iload_n 1, 1, 0, 0, 0, m0),
   (75, .iaload, 1, 0, 0, 0, m0),
   (76, .invokevirtual 170, 3, 0, 0, 835, m_FN_answer),
   (79, .ireturn, 1, 0, 0, 0, m0)])]
theorem ok_FN_earn : okBt m_FN_earn bt_FN_earn = true := by decide +kernel
set_option maxRecDepth 100000 in
theorem b_FN_earn_0 {l : Launch} {E : EnvT} {d : Nat} {K : AV → Mem → Prop} {M : Mem} {x1 : Int32} {x2 : Int32} (hd : 1 ≤ d)
  (h : (((M 0 0 9).toNat, 11) ∈ CL ∧ CT l E (d - 1) m_Choir_lives [(.ref (M 0 0 9).toNat, 11), (.int x1, 0)] M (fun v1 M1 =>
   (((toI v1) = 0 →
    CT l E (d - 1) m_FN_refuse [(.ref 0, 0), (.int (iN 1), 0)] M1 (fun v2 M2 =>
     K (.int (toI v2), 0) M2)) ∧
   (¬ (toI v1) = 0 →
    ((x2 < (iN 1) →
     CT l E (d - 1) m_FN_refuse [(.ref 0, 0), (.int (iN 1), 0)] M1 (fun v3 M3 =>
      K (.int (toI v3), 0) M3)) ∧
    (¬ x2 < (iN 1) →
     ((x2 ≤ (iN 999) →
      (((M1 0 0 9).toNat, 11) ∈ CL ∧ vp_in x1 8 ∧ ((((iN (M1 (M1 0 0 9).toNat 2 (x1).toNatClampNeg)) + x2) ≤ (iN 9999) →
       (((M1 0 0 9).toNat, 11) ∈ CL ∧ vp_in x1 8 ∧ vp_in x1 8 ∧ (((upd3 M1 (M1 0 0 9).toNat 2 (x1).toNatClampNeg (((iN (M1 (M1 0 0 9).toNat 2 (x1).toNatClampNeg)) + x2)).toInt) 0 0 9).toNat, 11) ∈ CL ∧ vp_in x1 8 ∧ CT l E (d - 1) m_FN_answer [(.ref 0, 0), (.int (iN ((upd3 M1 (M1 0 0 9).toNat 2 (x1).toNatClampNeg (((iN (M1 (M1 0 0 9).toNat 2 (x1).toNatClampNeg)) + x2)).toInt) ((upd3 M1 (M1 0 0 9).toNat 2 (x1).toNatClampNeg (((iN (M1 (M1 0 0 9).toNat 2 (x1).toNatClampNeg)) + x2)).toInt) 0 0 9).toNat 2 (x1).toNatClampNeg)), 0)] (upd3 M1 (M1 0 0 9).toNat 2 (x1).toNatClampNeg (((iN (M1 (M1 0 0 9).toNat 2 (x1).toNatClampNeg)) + x2)).toInt) (fun v4 M4 =>
        K (.int (toI v4), 0) M4))) ∧
      (¬ ((iN (M1 (M1 0 0 9).toNat 2 (x1).toNatClampNeg)) + x2) ≤ (iN 9999) →
       CT l E (d - 1) m_FN_refuse [(.ref 0, 0), (.int (iN 7), 0)] M1 (fun v5 M5 =>
        K (.int (toI v5), 0) M5))))) ∧
     (¬ x2 ≤ (iN 999) →
      CT l E (d - 1) m_FN_refuse [(.ref 0, 0), (.int (iN 1), 0)] M1 (fun v6 M6 =>
       K (.int (toI v6), 0) M6)))))))))) :
  G l E d m_FN_earn 0 [(0, (.ref 0, 0)), (1, (.int x1, 0)), (2, (.int x2, 0))] [] M K := G.blk 60 _ hd ok_FN_earn rfl h
def bt_FN_name : BtT := [(0, [0, 1, 2], true, [(0, .aload_n 0, 1, 0, 0, 0, m0),
   (1, .getfield 64, 3, 9, 10, 501, m0),
   (4, .iload_n 1, 1, 0, 0, 0, m0),
   (5, .invokevirtual 272, 3, 0, 0, 999, m_Choir_lives),
   (8, .ifCond .eq 24, 3, 32, 0, 0, m0),
   (11, .nop, 0, 0, 0, 0, m0)]),
  (11, [], false, [(11, .iload_n 1, 1, 0, 0, 0, m0),
   (12, .iload_n 2, 1, 0, 0, 0, m0),
   (13, .if_icmp .eq 19, 3, 32, 0, 0, m0),
   (16, .nop, 0, 0, 0, 0, m0)]),
  (16, [], false, [(16, .iload_n 2, 1, 0, 0, 0, m0),
   (17, .iconst (-1), 1, 0, 0, 0, m0),
   (18, .if_icmp .eq 20, 3, 38, 0, 0, m0),
   (21, .nop, 0, 0, 0, 0, m0)]),
  (21, [], false, [(21, .aload_n 0, 1, 0, 0, 0, m0),
   (22, .getfield 64, 3, 9, 10, 501, m0),
   (25, .iload_n 2, 1, 0, 0, 0, m0),
   (26, .invokevirtual 272, 3, 0, 0, 999, m_Choir_lives),
   (29, .ifCond .ne 9, 3, 38, 0, 0, m0),
   (32, .nop, 0, 0, 0, 0, m0)]),
  (32, [], false, [(32, .aload_n 0, 1, 0, 0, 0, m0),
   (33, .iconst 1, 1, 0, 0, 0, m0),
   (34, .invokevirtual 105, 3, 0, 0, 569, m_FN_deny),
   (37, .ireturn, 1, 0, 0, 0, m0)]),
  (38, [], false, [(38, .aload_n 0, 1, 0, 0, 0, m0),
   (39, .getfield 64, 3, 9, 10, 501, m0),
   (42, .getfield 233, 3, 2, 0, 268, m0),
   (45, .iload_n 1, 1, 0, 0, 0, m0),
   (46, .iload_n 2, 1, 0, 0, 0, m0),
   (47, .iastore, 1, 0, 0, 0, m0),
   (48, .aload_n 0, 1, 0, 0, 0, m0),
   (49, .invokevirtual 112, 3, 0, 0, 580, m_FN_agree),
   (52, .ireturn, 1, 0, 0, 0, m0)])]
theorem ok_FN_name : okBt m_FN_name bt_FN_name = true := by decide +kernel
set_option maxRecDepth 100000 in
theorem b_FN_name_0 {l : Launch} {E : EnvT} {d : Nat} {K : AV → Mem → Prop} {M : Mem} {x1 : Int32} {x2 : Int32} (hd : 1 ≤ d)
  (h : (((M 0 0 9).toNat, 11) ∈ CL ∧ CT l E (d - 1) m_Choir_lives [(.ref (M 0 0 9).toNat, 11), (.int x1, 0)] M (fun v1 M1 =>
   (((toI v1) = 0 →
    CT l E (d - 1) m_FN_deny [(.ref 0, 0), (.int (iN 1), 0)] M1 (fun v2 M2 =>
     ((((toI v2) = 0 ∨ (toI v2) = 1)) ∧ K (.int (toI v2), 0) M2))) ∧
   (¬ (toI v1) = 0 →
    ((x1 = x2 →
     CT l E (d - 1) m_FN_deny [(.ref 0, 0), (.int (iN 1), 0)] M1 (fun v3 M3 =>
      ((((toI v3) = 0 ∨ (toI v3) = 1)) ∧ K (.int (toI v3), 0) M3))) ∧
    (¬ x1 = x2 →
     ((x2 = (iN (-1)) →
      (((M1 0 0 9).toNat, 11) ∈ CL ∧ vp_in x1 8 ∧ CT l E (d - 1) m_FN_agree [(.ref 0, 0)] (upd3 M1 (M1 0 0 9).toNat 3 (x1).toNatClampNeg (x2).toInt) (fun v4 M4 =>
       ((((toI v4) = 0 ∨ (toI v4) = 1)) ∧ K (.int (toI v4), 0) M4)))) ∧
     (¬ x2 = (iN (-1)) →
      (((M1 0 0 9).toNat, 11) ∈ CL ∧ CT l E (d - 1) m_Choir_lives [(.ref (M1 0 0 9).toNat, 11), (.int x2, 0)] M1 (fun v5 M5 =>
       ((¬ (toI v5) = 0 →
        (((M5 0 0 9).toNat, 11) ∈ CL ∧ vp_in x1 8 ∧ CT l E (d - 1) m_FN_agree [(.ref 0, 0)] (upd3 M5 (M5 0 0 9).toNat 3 (x1).toNatClampNeg (x2).toInt) (fun v6 M6 =>
         ((((toI v6) = 0 ∨ (toI v6) = 1)) ∧ K (.int (toI v6), 0) M6)))) ∧
       ((toI v5) = 0 →
        CT l E (d - 1) m_FN_deny [(.ref 0, 0), (.int (iN 1), 0)] M5 (fun v7 M7 =>
         ((((toI v7) = 0 ∨ (toI v7) = 1)) ∧ K (.int (toI v7), 0) M7))))))))))))))) :
  G l E d m_FN_name 0 [(0, (.ref 0, 0)), (1, (.int x1, 0)), (2, (.int x2, 0))] [] M K := G.blk 60 _ hd ok_FN_name rfl h
def bt_FN_hum : BtT := [(0, [0, 1], true, [(0, .iload_n 1, 1, 0, 0, 0, m0),
   (1, .ifCond .lt 9, 3, 10, 0, 0, m0),
   (4, .nop, 0, 0, 0, 0, m0)]),
  (4, [], false, [(4, .iload_n 1, 1, 0, 0, 0, m0),
   (5, .bipush 50, 2, 0, 0, 0, m0),
   (7, .if_icmp .le 9, 3, 16, 0, 0, m0),
   (10, .nop, 0, 0, 0, 0, m0)]),
  (10, [], false, [(10, .aload_n 0, 1, 0, 0, 0, m0),
   (11, .iconst 1, 1, 0, 0, 0, m0),
   (12, .invokevirtual 105, 3, 0, 0, 569, m_FN_deny),
   (15, .ireturn, 1, 0, 0, 0, m0)]),
  (16, [], false, [(16, .aload_n 0, 1, 0, 0, 0, m0),
   (17, .getfield 64, 3, 9, 10, 501, m0),
   (20, .iload_n 1, 1, 0, 0, 0, m0),
   (21, .putfield 180, 3, 13, 0, 298, m0),
   (24, .aload_n 0, 1, 0, 0, 0, m0),
   (25, .invokevirtual 112, 3, 0, 0, 580, m_FN_agree),
   (28, .ireturn, 1, 0, 0, 0, m0)])]
theorem ok_FN_hum : okBt m_FN_hum bt_FN_hum = true := by decide +kernel
set_option maxRecDepth 100000 in
theorem b_FN_hum_0 {l : Launch} {E : EnvT} {d : Nat} {K : AV → Mem → Prop} {M : Mem} {x1 : Int32} (hd : 1 ≤ d)
  (h : ((x1 < 0 →
   CT l E (d - 1) m_FN_deny [(.ref 0, 0), (.int (iN 1), 0)] M (fun v1 M1 =>
    ((((toI v1) = 0 ∨ (toI v1) = 1)) ∧ K (.int (toI v1), 0) M1))) ∧
  (¬ x1 < 0 →
   ((x1 ≤ (iN 50) →
    (((M 0 0 9).toNat, 11) ∈ CL ∧ CT l E (d - 1) m_FN_agree [(.ref 0, 0)] (upd3 M (M 0 0 9).toNat 0 13 (x1).toInt) (fun v2 M2 =>
     ((((toI v2) = 0 ∨ (toI v2) = 1)) ∧ K (.int (toI v2), 0) M2)))) ∧
   (¬ x1 ≤ (iN 50) →
    CT l E (d - 1) m_FN_deny [(.ref 0, 0), (.int (iN 1), 0)] M (fun v3 M3 =>
     ((((toI v3) = 0 ∨ (toI v3) = 1)) ∧ K (.int (toI v3), 0) M3))))))) :
  G l E d m_FN_hum 0 [(0, (.ref 0, 0)), (1, (.int x1, 0))] [] M K := G.blk 60 _ hd ok_FN_hum rfl h
end
section
def bt_FN_chords : BtT := [(0, [0], true, [(0, .aload_n 0, 1, 0, 0, 0, m0),
   (1, .aload_n 0, 1, 0, 0, 0, m0),
   (2, .getfield 64, 3, 9, 10, 501, m0),
   (5, .invokevirtual 314, 3, 0, 0, 1130, m_Choir_netAll),
   (8, .invokevirtual 170, 3, 0, 0, 835, m_FN_answer),
   (11, .ireturn, 1, 0, 0, 0, m0)])]
theorem ok_FN_chords : okBt m_FN_chords bt_FN_chords = true := by decide +kernel
set_option maxRecDepth 100000 in
theorem b_FN_chords_0 {l : Launch} {E : EnvT} {d : Nat} {K : AV → Mem → Prop} {M : Mem}  (hd : 1 ≤ d)
  (h : (((M 0 0 9).toNat, 11) ∈ CL ∧ CT l E (d - 1) m_Choir_netAll [(.ref (M 0 0 9).toNat, 11)] M (fun v1 M1 =>
   CT l E (d - 1) m_FN_answer [(.ref 0, 0), (.int (toI v1), 0)] M1 (fun v2 M2 =>
    K (.int (toI v2), 0) M2)))) :
  G l E d m_FN_chords 0 [(0, (.ref 0, 0))] [] M K := G.blk 60 _ hd ok_FN_chords rfl h
def bt_FN_balance : BtT := [(0, [0, 1], true, [(0, .aload_n 0, 1, 0, 0, 0, m0),
   (1, .getfield 64, 3, 9, 10, 501, m0),
   (4, .iload_n 1, 1, 0, 0, 0, m0),
   (5, .invokevirtual 272, 3, 0, 0, 999, m_Choir_lives),
   (8, .ifCond .ne 9, 3, 17, 0, 0, m0),
   (11, .nop, 0, 0, 0, 0, m0)]),
  (11, [], false, [(11, .aload_n 0, 1, 0, 0, 0, m0),
   (12, .iconst 1, 1, 0, 0, 0, m0),
   (13, .invokevirtual 124, 3, 0, 0, 608, m_FN_refuse),
   (16, .ireturn, 1, 0, 0, 0, m0)]),
  (17, [], false, [(17, .aload_n 0, 1, 0, 0, 0, m0),
   (18, .aload_n 0, 1, 0, 0, 0, m0),
   (19, .getfield 64, 3, 9, 10, 501, m0),
   (22, .iload_n 1, 1, 0, 0, 0, m0),
   (23, .invokevirtual 317, 3, 0, 0, 1139, m_Choir_balanceOf),
   (26, .invokevirtual 170, 3, 0, 0, 835, m_FN_answer),
   (29, .ireturn, 1, 0, 0, 0, m0)])]
theorem ok_FN_balance : okBt m_FN_balance bt_FN_balance = true := by decide +kernel
set_option maxRecDepth 100000 in
theorem b_FN_balance_0 {l : Launch} {E : EnvT} {d : Nat} {K : AV → Mem → Prop} {M : Mem} {x1 : Int32} (hd : 1 ≤ d)
  (h : (((M 0 0 9).toNat, 11) ∈ CL ∧ CT l E (d - 1) m_Choir_lives [(.ref (M 0 0 9).toNat, 11), (.int x1, 0)] M (fun v1 M1 =>
   ((¬ (toI v1) = 0 →
    (((M1 0 0 9).toNat, 11) ∈ CL ∧ CT l E (d - 1) m_Choir_balanceOf [(.ref (M1 0 0 9).toNat, 11), (.int x1, 0)] M1 (fun v2 M2 =>
     CT l E (d - 1) m_FN_answer [(.ref 0, 0), (.int (toI v2), 0)] M2 (fun v3 M3 =>
      K (.int (toI v3), 0) M3)))) ∧
   ((toI v1) = 0 →
    CT l E (d - 1) m_FN_refuse [(.ref 0, 0), (.int (iN 1), 0)] M1 (fun v4 M4 =>
     K (.int (toI v4), 0) M4)))))) :
  G l E d m_FN_balance 0 [(0, (.ref 0, 0)), (1, (.int x1, 0))] [] M K := G.blk 60 _ hd ok_FN_balance rfl h
def bt_FN_payings : BtT := [(0, [0], true, [(0, .aload_n 0, 1, 0, 0, 0, m0),
   (1, .getfield 43, 3, 5, 10, 497, m0),
   (4, .aload_n 0, 1, 0, 0, 0, m0),
   (5, .getfield 64, 3, 9, 10, 501, m0),
   (8, .invokevirtual 320, 3, 0, 0, 1149, m_Ties_look),
   (11, .aload_n 0, 1, 0, 0, 0, m0),
   (12, .aload_n 0, 1, 0, 0, 0, m0),
   (13, .getfield 43, 3, 5, 10, 497, m0),
   (16, .invokevirtual 324, 3, 0, 0, 1156, m_Ties_unevenCount),
   (19, .aload_n 0, 1, 0, 0, 0, m0),
   (20, .getfield 43, 3, 5, 10, 497, m0),
   (23, .invokevirtual 327, 3, 0, 0, 1165, m_Ties_mostParts),
   (26, .isub, 1, 0, 0, 0, m0),
   (27, .invokevirtual 170, 3, 0, 0, 835, m_FN_answer),
   (30, .ireturn, 1, 0, 0, 0, m0)])]
theorem ok_FN_payings : okBt m_FN_payings bt_FN_payings = true := by decide +kernel
set_option maxRecDepth 100000 in
theorem b_FN_payings_0 {l : Launch} {E : EnvT} {d : Nat} {K : AV → Mem → Prop} {M : Mem}  (hd : 1 ≤ d)
  (h : (((M 0 0 9).toNat, 11) ∈ CL ∧ CT l E (d - 1) m_Ties_look [(.ref 12, 30), (.ref (M 0 0 9).toNat, 11)] M (fun v1 M1 =>
   CT l E (d - 1) m_Ties_unevenCount [(.ref 12, 30)] M1 (fun v2 M2 =>
    CT l E (d - 1) m_Ties_mostParts [(.ref 12, 30)] M2 (fun v3 M3 =>
     CT l E (d - 1) m_FN_answer [(.ref 0, 0), (.int ((toI v2) - (toI v3)), 0)] M3 (fun v4 M4 =>
      K (.int (toI v4), 0) M4)))))) :
  G l E d m_FN_payings 0 [(0, (.ref 0, 0))] [] M K := G.blk 60 _ hd ok_FN_payings rfl h
def bt_FN_parts : BtT := [(0, [0], true, [(0, .aload_n 0, 1, 0, 0, 0, m0),
   (1, .getfield 43, 3, 5, 10, 497, m0),
   (4, .aload_n 0, 1, 0, 0, 0, m0),
   (5, .getfield 64, 3, 9, 10, 501, m0),
   (8, .invokevirtual 320, 3, 0, 0, 1149, m_Ties_look),
   (11, .aload_n 0, 1, 0, 0, 0, m0),
   (12, .aload_n 0, 1, 0, 0, 0, m0),
   (13, .getfield 43, 3, 5, 10, 497, m0),
   (16, .invokevirtual 327, 3, 0, 0, 1165, m_Ties_mostParts),
   (19, .invokevirtual 170, 3, 0, 0, 835, m_FN_answer),
   (22, .ireturn, 1, 0, 0, 0, m0)])]
theorem ok_FN_parts : okBt m_FN_parts bt_FN_parts = true := by decide +kernel
set_option maxRecDepth 100000 in
theorem b_FN_parts_0 {l : Launch} {E : EnvT} {d : Nat} {K : AV → Mem → Prop} {M : Mem}  (hd : 1 ≤ d)
  (h : (((M 0 0 9).toNat, 11) ∈ CL ∧ CT l E (d - 1) m_Ties_look [(.ref 12, 30), (.ref (M 0 0 9).toNat, 11)] M (fun v1 M1 =>
   CT l E (d - 1) m_Ties_mostParts [(.ref 12, 30)] M1 (fun v2 M2 =>
    CT l E (d - 1) m_FN_answer [(.ref 0, 0), (.int (toI v2), 0)] M2 (fun v3 M3 =>
     K (.int (toI v3), 0) M3))))) :
  G l E d m_FN_parts 0 [(0, (.ref 0, 0))] [] M K := G.blk 60 _ hd ok_FN_parts rfl h
def bt_FN_shorts : BtT := [(0, [0], true, [(0, .iconst 0, 1, 0, 0, 0, m0),
   (1, .istore_n 1, 1, 0, 0, 0, m0),
   (2, .iconst 0, 1, 0, 0, 0, m0),
   (3, .istore_n 2, 1, 0, 0, 0, m0),
   (4, .nop, 0, 0, 0, 0, m0)]),
  (4, [0, 1, 2], true, [(4, .iload_n 2, 1, 0, 0, 0, m0),
   (5, .aload_n 0, 1, 0, 0, 0, m0),
   (6, .getfield 64, 3, 9, 10, 501, m0),
   (9, .getfield 167, 3, 8, 0, 283, m0),
   (12, .if_icmp .ge 26, 3, 38, 0, 0, m0),
   (15, .nop, 0, 0, 0, 0, m0)]),
  (15, [], false, [(15, .aload_n 0, 1, 0, 0, 0, m0),
   (16, .getfield 64, 3, 9, 10, 501, m0),
   (19, .iload_n 2, 1, 0, 0, 0, m0),
   (20, .invokevirtual 330, 3, 0, 0, 1183, m_Choir_lacks),
   (23, .ifCond .le 9, 3, 32, 0, 0, m0),
   (26, .nop, 0, 0, 0, 0, m0)]),
  (26, [], false, [(26, .iload_n 1, 1, 0, 0, 0, m0),
   (27, .iconst 1, 1, 0, 0, 0, m0),
   (28, .iload_n 2, 1, 0, 0, 0, m0),
   (29, .ishl, 1, 0, 0, 0, m0),
   (30, .ior, 1, 0, 0, 0, m0),
   (31, .istore_n 1, 1, 0, 0, 0, m0),
   (32, .nop, 0, 0, 0, 0, m0)]),
  (32, [], false, [(32, .iinc 2 1, 3, 0, 0, 0, m0),
   (35, .goto (-31), 3, 4, 0, 0, m0)]),
  (38, [], false, [(38, .aload_n 0, 1, 0, 0, 0, m0),
   (39, .iload_n 1, 1, 0, 0, 0, m0),
   (40, .invokevirtual 170, 3, 0, 0, 835, m_FN_answer),
   (43, .ireturn, 1, 0, 0, 0, m0)])]
theorem ok_FN_shorts : okBt m_FN_shorts bt_FN_shorts = true := by decide +kernel
set_option maxRecDepth 100000 in
theorem b_FN_shorts_0 {l : Launch} {E : EnvT} {d : Nat} {K : AV → Mem → Prop} {M : Mem}  (hd : 1 ≤ d)
  (h : G l E d m_FN_shorts 4 [(0, (.ref 0, 0)), (1, (.int (iN 0), 0)), (2, (.int (iN 0), 0))] [] M K) :
  G l E d m_FN_shorts 0 [(0, (.ref 0, 0))] [] M K := G.blk 60 _ hd ok_FN_shorts rfl h
set_option maxRecDepth 100000 in
theorem b_FN_shorts_4 {l : Launch} {E : EnvT} {d : Nat} {K : AV → Mem → Prop} {M : Mem} {x1 : Int32} {x2 : Int32} (hd : 1 ≤ d)
  (h : (((M 0 0 9).toNat, 11) ∈ CL ∧ (((iN (M (M 0 0 9).toNat 0 8)) ≤ x2 →
   CT l E (d - 1) m_FN_answer [(.ref 0, 0), (.int x1, 0)] M (fun v1 M1 =>
    K (.int (toI v1), 0) M1)) ∧
  (¬ (iN (M (M 0 0 9).toNat 0 8)) ≤ x2 →
   (((M 0 0 9).toNat, 11) ∈ CL ∧ CT l E (d - 1) m_Choir_lacks [(.ref (M 0 0 9).toNat, 11), (.int x2, 0)] M (fun v2 M2 =>
    (((toI v2) ≤ 0 →
     G l E d m_FN_shorts 4 [(0, (.ref 0, 0)), (1, (.int x1, 0)), (2, (.int (x2 + iN 1), 0))] [] M2 K) ∧
    (¬ (toI v2) ≤ 0 →
     G l E d m_FN_shorts 4 [(0, (.ref 0, 0)), (1, (.int (x1 ||| ((iN 1) <<< (x2 &&& 31))), 0)), (2, (.int (x2 + iN 1), 0))] [] M2 K)))))))) :
  G l E d m_FN_shorts 4 [(0, (.ref 0, 0)), (1, (.int x1, 0)), (2, (.int x2, 0))] [] M K := G.blk 60 _ hd ok_FN_shorts rfl h
def bt_FN_lacking : BtT := [(0, [0], true, [(0, .iconst 0, 1, 0, 0, 0, m0),
   (1, .istore_n 1, 1, 0, 0, 0, m0),
   (2, .iconst 0, 1, 0, 0, 0, m0),
   (3, .istore_n 2, 1, 0, 0, 0, m0),
   (4, .nop, 0, 0, 0, 0, m0)]),
  (4, [0, 1, 2], true, [(4, .iload_n 2, 1, 0, 0, 0, m0),
   (5, .aload_n 0, 1, 0, 0, 0, m0),
   (6, .getfield 64, 3, 9, 10, 501, m0),
   (9, .getfield 167, 3, 8, 0, 283, m0),
   (12, .if_icmp .ge 20, 3, 32, 0, 0, m0),
   (15, .nop, 0, 0, 0, 0, m0)]),
  (15, [], false, [(15, .iload_n 1, 1, 0, 0, 0, m0),
   (16, .aload_n 0, 1, 0, 0, 0, m0),
   (17, .getfield 64, 3, 9, 10, 501, m0),
   (20, .iload_n 2, 1, 0, 0, 0, m0),
   (21, .invokevirtual 330, 3, 0, 0, 1183, m_Choir_lacks),
   (24, .iadd, 1, 0, 0, 0, m0),
   (25, .istore_n 1, 1, 0, 0, 0, m0),
   (26, .iinc 2 1, 3, 0, 0, 0, m0),
   (29, .goto (-25), 3, 4, 0, 0, m0)]),
  (32, [], false, [(32, .aload_n 0, 1, 0, 0, 0, m0),
   (33, .iload_n 1, 1, 0, 0, 0, m0),
   (34, .invokevirtual 170, 3, 0, 0, 835, m_FN_answer),
   (37, .ireturn, 1, 0, 0, 0, m0)])]
theorem ok_FN_lacking : okBt m_FN_lacking bt_FN_lacking = true := by decide +kernel
set_option maxRecDepth 100000 in
theorem b_FN_lacking_0 {l : Launch} {E : EnvT} {d : Nat} {K : AV → Mem → Prop} {M : Mem}  (hd : 1 ≤ d)
  (h : G l E d m_FN_lacking 4 [(0, (.ref 0, 0)), (1, (.int (iN 0), 0)), (2, (.int (iN 0), 0))] [] M K) :
  G l E d m_FN_lacking 0 [(0, (.ref 0, 0))] [] M K := G.blk 60 _ hd ok_FN_lacking rfl h
set_option maxRecDepth 100000 in
theorem b_FN_lacking_4 {l : Launch} {E : EnvT} {d : Nat} {K : AV → Mem → Prop} {M : Mem} {x1 : Int32} {x2 : Int32} (hd : 1 ≤ d)
  (h : (((M 0 0 9).toNat, 11) ∈ CL ∧ (((iN (M (M 0 0 9).toNat 0 8)) ≤ x2 →
   CT l E (d - 1) m_FN_answer [(.ref 0, 0), (.int x1, 0)] M (fun v1 M1 =>
    K (.int (toI v1), 0) M1)) ∧
  (¬ (iN (M (M 0 0 9).toNat 0 8)) ≤ x2 →
   (((M 0 0 9).toNat, 11) ∈ CL ∧ CT l E (d - 1) m_Choir_lacks [(.ref (M 0 0 9).toNat, 11), (.int x2, 0)] M (fun v2 M2 =>
    G l E d m_FN_lacking 4 [(0, (.ref 0, 0)), (1, (.int (x1 + (toI v2)), 0)), (2, (.int (x2 + iN 1), 0))] [] M2 K)))))) :
  G l E d m_FN_lacking 4 [(0, (.ref 0, 0)), (1, (.int x1, 0)), (2, (.int x2, 0))] [] M K := G.blk 60 _ hd ok_FN_lacking rfl h
def bt_FN_measured : BtT := [(0, [0, 1, 2], true, [(0, .iload_n 2, 1, 0, 0, 0, m0),
   (1, .lookupswitch 45 #[(0, 27), (1, 36)], 27, 0, 0, 0, m0)]),
  (28, [], false, [(28, .aload_n 0, 1, 0, 0, 0, m0),
   (29, .getfield 64, 3, 9, 10, 501, m0),
   (32, .iload_n 1, 1, 0, 0, 0, m0),
   (33, .invokevirtual 242, 3, 0, 0, 962, m_Choir_isOwedInAll),
   (36, .ireturn, 1, 0, 0, 0, m0)]),
  (37, [], false, [(37, .aload_n 0, 1, 0, 0, 0, m0),
   (38, .getfield 64, 3, 9, 10, 501, m0),
   (41, .iload_n 1, 1, 0, 0, 0, m0),
   (42, .invokevirtual 239, 3, 0, 0, 958, m_Choir_owesInAll),
   (45, .ireturn, 1, 0, 0, 0, m0)]),
  (46, [], false, [(46, .aload_n 0, 1, 0, 0, 0, m0),
   (47, .getfield 64, 3, 9, 10, 501, m0),
   (50, .iload_n 1, 1, 0, 0, 0, m0),
   (51, .invokevirtual 272, 3, 0, 0, 999, m_Choir_lives),
   (54, .ifCond .eq 14, 3, 68, 0, 0, m0),
   (57, .nop, 0, 0, 0, 0, m0)]),
  (57, [], false, [(57, .aload_n 0, 1, 0, 0, 0, m0),
   (58, .getfield 64, 3, 9, 10, 501, m0),
   (61, .iload_n 1, 1, 0, 0, 0, m0),
   (62, .invokevirtual 359, 3, 0, 0, 1204, m_Choir_freeNotes),
   (65, .goto 4, 3, 69, 0, 0, m0)]),
  (68, [], false, [(68, .iconst 0, 1, 0, 0, 0, m0),
   (69, .nop, 0, 0, 0, 0, m0)]),
  (69, [], false, [(69, .ireturn, 1, 0, 0, 0, m0)])]
theorem ok_FN_measured : okBt m_FN_measured bt_FN_measured = true := by decide +kernel
set_option maxRecDepth 100000 in
theorem b_FN_measured_0 {l : Launch} {E : EnvT} {d : Nat} {K : AV → Mem → Prop} {M : Mem} {x1 : Int32} {x2 : Int32} (hd : 1 ≤ d)
  (h : ((x2 = iN 0 →
   (((M 0 0 9).toNat, 11) ∈ CL ∧ CT l E (d - 1) m_Choir_isOwedInAll [(.ref (M 0 0 9).toNat, 11), (.int x1, 0)] M (fun v4 M4 =>
    K (.int (toI v4), 0) M4))) ∧
  (¬ x2 = iN 0 →
   ((x2 = iN 1 →
   (((M 0 0 9).toNat, 11) ∈ CL ∧ CT l E (d - 1) m_Choir_owesInAll [(.ref (M 0 0 9).toNat, 11), (.int x1, 0)] M (fun v3 M3 =>
    K (.int (toI v3), 0) M3))) ∧
  (¬ x2 = iN 1 →
   (((M 0 0 9).toNat, 11) ∈ CL ∧ CT l E (d - 1) m_Choir_lives [(.ref (M 0 0 9).toNat, 11), (.int x1, 0)] M (fun v1 M1 =>
    (((toI v1) = 0 →
     K (.int (iN 0), 0) M1) ∧
    (¬ (toI v1) = 0 →
     (((M1 0 0 9).toNat, 11) ∈ CL ∧ CT l E (d - 1) m_Choir_freeNotes [(.ref (M1 0 0 9).toNat, 11), (.int x1, 0)] M1 (fun v2 M2 =>
      K (.int (toI v2), 0) M2))))))))))) :
  G l E d m_FN_measured 0 [(0, (.ref 0, 0)), (1, (.int x1, 0)), (2, (.int x2, 0))] [] M K := G.blk 60 _ hd ok_FN_measured rfl h
def bt_FN_firstWithMost : BtT := [(0, [0, 1], true, [(0, .iconst (-1), 1, 0, 0, 0, m0),
   (1, .istore_n 2, 1, 0, 0, 0, m0),
   (2, .iconst 0, 1, 0, 0, 0, m0),
   (3, .istore_n 3, 1, 0, 0, 0, m0),
   (4, .iconst 0, 1, 0, 0, 0, m0),
   (5, .istore 4, 2, 0, 0, 0, m0),
   (7, .nop, 0, 0, 0, 0, m0)]),
  (7, [0, 1, 2, 3, 4], true, [(7, .iload 4, 2, 0, 0, 0, m0),
   (9, .aload_n 0, 1, 0, 0, 0, m0),
   (10, .getfield 64, 3, 9, 10, 501, m0),
   (13, .getfield 167, 3, 8, 0, 283, m0),
   (16, .if_icmp .ge 30, 3, 46, 0, 0, m0),
   (19, .nop, 0, 0, 0, 0, m0)]),
  (19, [], false, [(19, .aload_n 0, 1, 0, 0, 0, m0),
   (20, .iload 4, 2, 0, 0, 0, m0),
   (22, .iload_n 1, 1, 0, 0, 0, m0),
   (23, .invokevirtual 425, 3, 0, 0, 1200, m_FN_measured),
   (26, .istore 5, 2, 0, 0, 0, m0),
   (28, .iload 5, 2, 0, 0, 0, m0),
   (30, .iload_n 3, 1, 0, 0, 0, m0),
   (31, .if_icmp .le 9, 3, 40, 0, 0, m0),
   (34, .nop, 0, 0, 0, 0, m0)]),
  (34, [], false, [(34, .iload 5, 2, 0, 0, 0, m0),
   (36, .istore_n 3, 1, 0, 0, 0, m0),
   (37, .iload 4, 2, 0, 0, 0, m0),
   (39, .istore_n 2, 1, 0, 0, 0, m0),
   (40, .nop, 0, 0, 0, 0, m0)]),
  (40, [], false, [(40, .iinc 4 1, 3, 0, 0, 0, m0),
   (43, .goto (-36), 3, 7, 0, 0, m0)]),
  (46, [], false, [(46, .aload_n 0, 1, 0, 0, 0, m0),
   (47, .iload_n 2, 1, 0, 0, 0, m0),
   (48, .bipush 6, 2, 0, 0, 0, m0),
   (50, .invokevirtual 236, 3, 0, 0, 954, m_FN_answerOr),
   (53, .ireturn, 1, 0, 0, 0, m0)])]
theorem ok_FN_firstWithMost : okBt m_FN_firstWithMost bt_FN_firstWithMost = true := by decide +kernel
set_option maxRecDepth 100000 in
theorem b_FN_firstWithMost_0 {l : Launch} {E : EnvT} {d : Nat} {K : AV → Mem → Prop} {M : Mem} {x1 : Int32} (hd : 1 ≤ d)
  (h : G l E d m_FN_firstWithMost 7 [(0, (.ref 0, 0)), (1, (.int x1, 0)), (2, (.int (iN (-1)), 0)), (3, (.int (iN 0), 0)), (4, (.int (iN 0), 0))] [] M K) :
  G l E d m_FN_firstWithMost 0 [(0, (.ref 0, 0)), (1, (.int x1, 0))] [] M K := G.blk 60 _ hd ok_FN_firstWithMost rfl h
set_option maxRecDepth 100000 in
theorem b_FN_firstWithMost_7 {l : Launch} {E : EnvT} {d : Nat} {K : AV → Mem → Prop} {M : Mem} {x1 : Int32} {x2 : Int32} {x3 : Int32} {x4 : Int32} (hd : 1 ≤ d)
  (h : (((M 0 0 9).toNat, 11) ∈ CL ∧ (((iN (M (M 0 0 9).toNat 0 8)) ≤ x4 →
   CT l E (d - 1) m_FN_answerOr [(.ref 0, 0), (.int x2, 0), (.int (iN 6), 0)] M (fun v1 M1 =>
    K (.int (toI v1), 0) M1)) ∧
  (¬ (iN (M (M 0 0 9).toNat 0 8)) ≤ x4 →
   CT l E (d - 1) m_FN_measured [(.ref 0, 0), (.int x4, 0), (.int x1, 0)] M (fun v2 M2 =>
    (((toI v2) ≤ x3 →
     G l E d m_FN_firstWithMost 7 [(0, (.ref 0, 0)), (1, (.int x1, 0)), (2, (.int x2, 0)), (3, (.int x3, 0)), (4, (.int (x4 + iN 1), 0))] [] M2 K) ∧
    (¬ (toI v2) ≤ x3 →
     G l E d m_FN_firstWithMost 7 [(0, (.ref 0, 0)), (1, (.int x1, 0)), (2, (.int x4, 0)), (3, (.int (toI v2), 0)), (4, (.int (x4 + iN 1), 0))] [] M2 K))))))) :
  G l E d m_FN_firstWithMost 7 [(0, (.ref 0, 0)), (1, (.int x1, 0)), (2, (.int x2, 0)), (3, (.int x3, 0)), (4, (.int x4, 0))] [] M K := G.blk 60 _ hd ok_FN_firstWithMost rfl h
def bt_FN_richest : BtT := [(0, [0], true, [(0, .aload_n 0, 1, 0, 0, 0, m0),
   (1, .iconst 0, 1, 0, 0, 0, m0),
   (2, .invokevirtual 333, 3, 0, 0, 1196, m_FN_firstWithMost),
   (5, .ireturn, 1, 0, 0, 0, m0)])]
theorem ok_FN_richest : okBt m_FN_richest bt_FN_richest = true := by decide +kernel
set_option maxRecDepth 100000 in
theorem b_FN_richest_0 {l : Launch} {E : EnvT} {d : Nat} {K : AV → Mem → Prop} {M : Mem}  (hd : 1 ≤ d)
  (h : CT l E (d - 1) m_FN_firstWithMost [(.ref 0, 0), (.int (iN 0), 0)] M (fun v1 M1 =>
   K (.int (toI v1), 0) M1)) :
  G l E d m_FN_richest 0 [(0, (.ref 0, 0))] [] M K := G.blk 60 _ hd ok_FN_richest rfl h
def bt_FN_deepest : BtT := [(0, [0], true, [(0, .aload_n 0, 1, 0, 0, 0, m0),
   (1, .iconst 1, 1, 0, 0, 0, m0),
   (2, .invokevirtual 333, 3, 0, 0, 1196, m_FN_firstWithMost),
   (5, .ireturn, 1, 0, 0, 0, m0)])]
theorem ok_FN_deepest : okBt m_FN_deepest bt_FN_deepest = true := by decide +kernel
set_option maxRecDepth 100000 in
theorem b_FN_deepest_0 {l : Launch} {E : EnvT} {d : Nat} {K : AV → Mem → Prop} {M : Mem}  (hd : 1 ≤ d)
  (h : CT l E (d - 1) m_FN_firstWithMost [(.ref 0, 0), (.int (iN 1), 0)] M (fun v1 M1 =>
   K (.int (toI v1), 0) M1)) :
  G l E d m_FN_deepest 0 [(0, (.ref 0, 0))] [] M K := G.blk 60 _ hd ok_FN_deepest rfl h
def bt_FN_tellFraction : BtT := [(0, [0, 1, 3], true, [(0, .lload_n 3, 1, 0, 0, 0, m0),
   (1, .lstore 5, 2, 0, 0, 0, m0),
   (3, .lload_n 1, 1, 0, 0, 0, m0),
   (4, .lstore 7, 2, 0, 0, 0, m0),
   (6, .iconst 0, 1, 0, 0, 0, m0),
   (7, .istore 9, 2, 0, 0, 0, m0),
   (9, .nop, 0, 0, 0, 0, m0)]),
  (9, [0, 1, 3, 5, 7, 9], true, [(9, .iload 9, 2, 0, 0, 0, m0),
   (11, .bipush 100, 2, 0, 0, 0, m0),
   (13, .if_icmp .ge 31, 3, 44, 0, 0, m0),
   (16, .nop, 0, 0, 0, 0, m0)]),
  (16, [], false, [(16, .lload 7, 2, 0, 0, 0, m0),
   (18, .lconst 0, 1, 0, 0, 0, m0),
   (19, .lcmp, 1, 0, 0, 0, m0),
   (20, .ifCond .eq 24, 3, 44, 0, 0, m0),
   (23, .nop, 0, 0, 0, 0, m0)]),
  (23, [], false, [(23, .lload 5, 2, 0, 0, 0, m0),
   (25, .lload 7, 2, 0, 0, 0, m0),
   (27, .lrem, 1, 0, 0, 0, m0),
   (28, .lstore 10, 2, 0, 0, 0, m0),
   (30, .lload 7, 2, 0, 0, 0, m0),
   (32, .lstore 5, 2, 0, 0, 0, m0),
   (34, .lload 10, 2, 0, 0, 0, m0),
   (36, .lstore 7, 2, 0, 0, 0, m0),
   (38, .iinc 9 1, 3, 0, 0, 0, m0),
   (41, .goto (-32), 3, 9, 0, 0, m0)]),
  (44, [], false, [(44, .aload_n 0, 1, 0, 0, 0, m0),
   (45, .lload 5, 2, 0, 0, 0, m0),
   (47, .lconst 0, 1, 0, 0, 0, m0),
   (48, .lcmp, 1, 0, 0, 0, m0),
   (49, .ifCond .ne 7, 3, 56, 0, 0, m0),
   (52, .nop, 0, 0, 0, 0, m0)]),
  (52, [], false, [(52, .lconst 0, 1, 0, 0, 0, m0),
   (53, .goto 7, 3, 60, 0, 0, m0)]),
  (56, [], false, [(56, .lload_n 1, 1, 0, 0, 0, m0),
   (57, .lload 5, 2, 0, 0, 0, m0),
   (59, .ldiv, 1, 0, 0, 0, m0),
   (60, .nop, 0, 0, 0, 0, m0)]),
  (60, [], false, [(60, .putfield 84, 3, 14, 10, 506, m0),
   (63, .aload_n 0, 1, 0, 0, 0, m0),
   (64, .lload 5, 2, 0, 0, 0, m0),
   (66, .lconst 0, 1, 0, 0, 0, m0),
   (67, .lcmp, 1, 0, 0, 0, m0),
   (68, .ifCond .ne 7, 3, 75, 0, 0, m0),
   (71, .nop, 0, 0, 0, 0, m0)]),
  (71, [], false, [(71, .lconst 1, 1, 0, 0, 0, m0),
   (72, .goto 7, 3, 79, 0, 0, m0)]),
  (75, [], false, [(75, .lload_n 3, 1, 0, 0, 0, m0),
   (76, .lload 5, 2, 0, 0, 0, m0),
   (78, .ldiv, 1, 0, 0, 0, m0),
   (79, .nop, 0, 0, 0, 0, m0)]),
  (79, [], false, [(79, .putfield 88, 3, 15, 10, 507, m0),
   (82, .return_, 1, 0, 0, 0, m0)])]
theorem ok_FN_tellFraction : okBt m_FN_tellFraction bt_FN_tellFraction = true := by decide +kernel
set_option maxRecDepth 100000 in
theorem b_FN_tellFraction_0 {l : Launch} {E : EnvT} {d : Nat} {K : AV → Mem → Prop} {M : Mem} {x1 : Int64} {x3 : Int64} (hd : 1 ≤ d)
  (h : G l E d m_FN_tellFraction 9 [(0, (.ref 0, 0)), (1, (.long x1, 0)), (3, (.long x3, 0)), (5, (.long x3, 0)), (7, (.long x1, 0)), (9, (.int (iN 0), 0))] [] M K) :
  G l E d m_FN_tellFraction 0 [(0, (.ref 0, 0)), (1, (.long x1, 0)), (3, (.long x3, 0))] [] M K := G.blk 60 _ hd ok_FN_tellFraction rfl h
set_option maxRecDepth 100000 in
theorem b_FN_tellFraction_9 {l : Launch} {E : EnvT} {d : Nat} {K : AV → Mem → Prop} {M : Mem} {x1 : Int64} {x3 : Int64} {x5 : Int64} {x7 : Int64} {x9 : Int32} (hd : 1 ≤ d)
  (h : (((iN 100) ≤ x9 →
   ((¬ (lg_cmp x5 (lI 0)) = 0 →
    (¬ x5 = 0 ∧ ((¬ (lg_cmp x5 (lI 0)) = 0 →
     (¬ x5 = 0 ∧ K (.null, 0) (upd3 (upd3 M 0 0 14 ((x1 / x5)).toInt) 0 0 15 ((x3 / x5)).toInt))) ∧
    ((lg_cmp x5 (lI 0)) = 0 →
     K (.null, 0) (upd3 (upd3 M 0 0 14 ((x1 / x5)).toInt) 0 0 15 ((lI 1)).toInt))))) ∧
   ((lg_cmp x5 (lI 0)) = 0 →
    ((¬ (lg_cmp x5 (lI 0)) = 0 →
     (¬ x5 = 0 ∧ K (.null, 0) (upd3 (upd3 M 0 0 14 ((lI 0)).toInt) 0 0 15 ((x3 / x5)).toInt))) ∧
    ((lg_cmp x5 (lI 0)) = 0 →
     K (.null, 0) (upd3 (upd3 M 0 0 14 ((lI 0)).toInt) 0 0 15 ((lI 1)).toInt)))))) ∧
  (¬ (iN 100) ≤ x9 →
   (((lg_cmp x7 (lI 0)) = 0 →
    ((¬ (lg_cmp x5 (lI 0)) = 0 →
     (¬ x5 = 0 ∧ ((¬ (lg_cmp x5 (lI 0)) = 0 →
      (¬ x5 = 0 ∧ K (.null, 0) (upd3 (upd3 M 0 0 14 ((x1 / x5)).toInt) 0 0 15 ((x3 / x5)).toInt))) ∧
     ((lg_cmp x5 (lI 0)) = 0 →
      K (.null, 0) (upd3 (upd3 M 0 0 14 ((x1 / x5)).toInt) 0 0 15 ((lI 1)).toInt))))) ∧
    ((lg_cmp x5 (lI 0)) = 0 →
     ((¬ (lg_cmp x5 (lI 0)) = 0 →
      (¬ x5 = 0 ∧ K (.null, 0) (upd3 (upd3 M 0 0 14 ((lI 0)).toInt) 0 0 15 ((x3 / x5)).toInt))) ∧
     ((lg_cmp x5 (lI 0)) = 0 →
      K (.null, 0) (upd3 (upd3 M 0 0 14 ((lI 0)).toInt) 0 0 15 ((lI 1)).toInt)))))) ∧
   (¬ (lg_cmp x7 (lI 0)) = 0 →
    (¬ x7 = 0 ∧ G l E d m_FN_tellFraction 9 [(0, (.ref 0, 0)), (1, (.long x1, 0)), (3, (.long x3, 0)), (5, (.long x7, 0)), (7, (.long (lR x5 x7), 0)), (9, (.int (x9 + iN 1), 0))] [] M K)))))) :
  G l E d m_FN_tellFraction 9 [(0, (.ref 0, 0)), (1, (.long x1, 0)), (3, (.long x3, 0)), (5, (.long x5, 0)), (7, (.long x7, 0)), (9, (.int x9, 0))] [] M K := G.blk 60 _ hd ok_FN_tellFraction rfl h
def bt_FN_bass : BtT := [(0, [0], true, [(0, .aload_n 0, 1, 0, 0, 0, m0),
   (1, .getfield 64, 3, 9, 10, 501, m0),
   (4, .invokevirtual 199, 3, 0, 0, 916, m_Choir_allOwed),
   (7, .istore_n 1, 1, 0, 0, 0, m0),
   (8, .iload_n 1, 1, 0, 0, 0, m0),
   (9, .ifCond .ne 10, 3, 19, 0, 0, m0),
   (12, .nop, 0, 0, 0, 0, m0)]),
  (12, [], false, [(12, .aload_n 0, 1, 0, 0, 0, m0),
   (13, .bipush 6, 2, 0, 0, 0, m0),
   (15, .invokevirtual 105, 3, 0, 0, 569, m_FN_deny),
   (18, .ireturn, 1, 0, 0, 0, m0)]),
  (19, [], false, [(19, .iconst 0, 1, 0, 0, 0, m0),
   (20, .istore_n 2, 1, 0, 0, 0, m0),
   (21, .iconst 0, 1, 0, 0, 0, m0),
   (22, .istore_n 3, 1, 0, 0, 0, m0),
   (23, .nop, 0, 0, 0, 0, m0)]),
  (23, [0, 1, 2, 3], true, [(23, .iload_n 3, 1, 0, 0, 0, m0),
   (24, .aload_n 0, 1, 0, 0, 0, m0),
   (25, .getfield 64, 3, 9, 10, 501, m0),
   (28, .getfield 167, 3, 8, 0, 283, m0),
   (31, .if_icmp .ge 34, 3, 65, 0, 0, m0),
   (34, .nop, 0, 0, 0, 0, m0)]),
  (34, [], false, [(34, .aload_n 0, 1, 0, 0, 0, m0),
   (35, .getfield 64, 3, 9, 10, 501, m0),
   (38, .getfield 224, 3, 9, 0, 286, m0),
   (41, .iload_n 3, 1, 0, 0, 0, m0),
   (42, .invokestatic 300, 3, 0, 0, 1082, m_Choir_isIn),
   (45, .ifCond .eq 14, 3, 59, 0, 0, m0),
   (48, .nop, 0, 0, 0, 0, m0)]),
  (48, [], false, [(48, .iload_n 2, 1, 0, 0, 0, m0),
   (49, .aload_n 0, 1, 0, 0, 0, m0),
   (50, .getfield 64, 3, 9, 10, 501, m0),
   (53, .iload_n 3, 1, 0, 0, 0, m0),
   (54, .invokevirtual 242, 3, 0, 0, 962, m_Choir_isOwedInAll),
   (57, .iadd, 1, 0, 0, 0, m0),
   (58, .istore_n 2, 1, 0, 0, 0, m0),
   (59, .nop, 0, 0, 0, 0, m0)]),
  (59, [], false, [(59, .iinc 3 1, 3, 0, 0, 0, m0),
   (62, .goto (-39), 3, 23, 0, 0, m0)]),
  (65, [], false, [(65, .aload_n 0, 1, 0, 0, 0, m0),
   (66, .iload_n 2, 1, 0, 0, 0, m0),
   (67, .i2l, 1, 0, 0, 0, m0),
   (68, .iload_n 1, 1, 0, 0, 0, m0),
   (69, .i2l, 1, 0, 0, 0, m0),
   (70, .invokevirtual 336, 3, 0, 0, 1216, m_FN_tellFraction),
   (73, .aload_n 0, 1, 0, 0, 0, m0),
   (74, .invokevirtual 112, 3, 0, 0, 580, m_FN_agree),
   (77, .ireturn, 1, 0, 0, 0, m0)])]
theorem ok_FN_bass : okBt m_FN_bass bt_FN_bass = true := by decide +kernel
set_option maxRecDepth 100000 in
theorem b_FN_bass_0 {l : Launch} {E : EnvT} {d : Nat} {K : AV → Mem → Prop} {M : Mem}  (hd : 1 ≤ d)
  (h : (((M 0 0 9).toNat, 11) ∈ CL ∧ CT l E (d - 1) m_Choir_allOwed [(.ref (M 0 0 9).toNat, 11)] M (fun v1 M1 =>
   ((¬ (toI v1) = 0 →
    G l E d m_FN_bass 23 [(0, (.ref 0, 0)), (1, (.int (toI v1), 0)), (2, (.int (iN 0), 0)), (3, (.int (iN 0), 0))] [] M1 K) ∧
   ((toI v1) = 0 →
    CT l E (d - 1) m_FN_deny [(.ref 0, 0), (.int (iN 6), 0)] M1 (fun v2 M2 =>
     ((((toI v2) = 0 ∨ (toI v2) = 1)) ∧ K (.int (toI v2), 0) M2))))))) :
  G l E d m_FN_bass 0 [(0, (.ref 0, 0))] [] M K := G.blk 60 _ hd ok_FN_bass rfl h
set_option maxRecDepth 100000 in
theorem b_FN_bass_23 {l : Launch} {E : EnvT} {d : Nat} {K : AV → Mem → Prop} {M : Mem} {x1 : Int32} {x2 : Int32} {x3 : Int32} (hd : 1 ≤ d)
  (h : (((M 0 0 9).toNat, 11) ∈ CL ∧ (((iN (M (M 0 0 9).toNat 0 8)) ≤ x3 →
   CT l E (d - 1) m_FN_tellFraction [(.ref 0, 0), (.long (x2).toInt64, 0), (.long (x1).toInt64, 0)] M (fun v1 M1 =>
    CT l E (d - 1) m_FN_agree [(.ref 0, 0)] M1 (fun v2 M2 =>
     ((((toI v2) = 0 ∨ (toI v2) = 1)) ∧ K (.int (toI v2), 0) M2)))) ∧
  (¬ (iN (M (M 0 0 9).toNat 0 8)) ≤ x3 →
   (((M 0 0 9).toNat, 11) ∈ CL ∧ CT l E (d - 1) m_Choir_isIn [(.int (iN (M (M 0 0 9).toNat 0 9)), 0), (.int x3, 0)] M (fun v3 M3 =>
    (((toI v3) = 0 →
     G l E d m_FN_bass 23 [(0, (.ref 0, 0)), (1, (.int x1, 0)), (2, (.int x2, 0)), (3, (.int (x3 + iN 1), 0))] [] M3 K) ∧
    (¬ (toI v3) = 0 →
     (((M3 0 0 9).toNat, 11) ∈ CL ∧ CT l E (d - 1) m_Choir_isOwedInAll [(.ref (M3 0 0 9).toNat, 11), (.int x3, 0)] M3 (fun v4 M4 =>
      G l E d m_FN_bass 23 [(0, (.ref 0, 0)), (1, (.int x1, 0)), (2, (.int (x2 + (toI v4)), 0)), (3, (.int (x3 + iN 1), 0))] [] M4 K)))))))))) :
  G l E d m_FN_bass 23 [(0, (.ref 0, 0)), (1, (.int x1, 0)), (2, (.int x2, 0)), (3, (.int x3, 0))] [] M K := G.blk 60 _ hd ok_FN_bass rfl h
def bt_FN_round : BtT := [(0, [0], true, [(0, .aload_n 0, 1, 0, 0, 0, m0),
   (1, .getfield 43, 3, 5, 10, 497, m0),
   (4, .aload_n 0, 1, 0, 0, 0, m0),
   (5, .getfield 64, 3, 9, 10, 501, m0),
   (8, .invokevirtual 320, 3, 0, 0, 1149, m_Ties_look),
   (11, .aload_n 0, 1, 0, 0, 0, m0),
   (12, .getfield 43, 3, 5, 10, 497, m0),
   (15, .invokevirtual 340, 3, 0, 0, 1224, m_Ties_findRound),
   (18, .istore_n 1, 1, 0, 0, 0, m0),
   (19, .iload_n 1, 1, 0, 0, 0, m0),
   (20, .ifCond .ne 12, 3, 32, 0, 0, m0),
   (23, .nop, 0, 0, 0, 0, m0)]),
  (23, [], false, [(23, .aload_n 0, 1, 0, 0, 0, m0),
   (24, .bipush 6, 2, 0, 0, 0, m0),
   (26, .invokevirtual 124, 3, 0, 0, 608, m_FN_refuse),
   (29, .goto 8, 3, 37, 0, 0, m0)]),
  (32, [], false, [(32, .aload_n 0, 1, 0, 0, 0, m0),
   (33, .iload_n 1, 1, 0, 0, 0, m0),
   (34, .invokevirtual 170, 3, 0, 0, 835, m_FN_answer),
   (37, .nop, 0, 0, 0, 0, m0)]),
  (37, [], false, [(37, .ireturn, 1, 0, 0, 0, m0)])]
theorem ok_FN_round : okBt m_FN_round bt_FN_round = true := by decide +kernel
set_option maxRecDepth 100000 in
theorem b_FN_round_0 {l : Launch} {E : EnvT} {d : Nat} {K : AV → Mem → Prop} {M : Mem}  (hd : 1 ≤ d)
  (h : (((M 0 0 9).toNat, 11) ∈ CL ∧ CT l E (d - 1) m_Ties_look [(.ref 12, 30), (.ref (M 0 0 9).toNat, 11)] M (fun v1 M1 =>
   CT l E (d - 1) m_Ties_findRound [(.ref 12, 30)] M1 (fun v2 M2 =>
    ((¬ (toI v2) = 0 →
     CT l E (d - 1) m_FN_answer [(.ref 0, 0), (.int (toI v2), 0)] M2 (fun v3 M3 =>
      K (.int (toI v3), 0) M3)) ∧
    ((toI v2) = 0 →
     CT l E (d - 1) m_FN_refuse [(.ref 0, 0), (.int (iN 6), 0)] M2 (fun v4 M4 =>
      K (.int (toI v4), 0) M4))))))) :
  G l E d m_FN_round 0 [(0, (.ref 0, 0))] [] M K := G.blk 60 _ hd ok_FN_round rfl h
def bt_FN_roundAt : BtT := [(0, [0, 1], true, [(0, .iload_n 1, 1, 0, 0, 0, m0),
   (1, .ifCond .ge 9, 3, 10, 0, 0, m0),
   (4, .nop, 0, 0, 0, 0, m0)]),
  (4, [], false, [(4, .aload_n 0, 1, 0, 0, 0, m0),
   (5, .iconst 1, 1, 0, 0, 0, m0),
   (6, .invokevirtual 124, 3, 0, 0, 608, m_FN_refuse),
   (9, .ireturn, 1, 0, 0, 0, m0)]),
  (10, [], false, [(10, .aload_n 0, 1, 0, 0, 0, m0),
   (11, .getfield 43, 3, 5, 10, 497, m0),
   (14, .aload_n 0, 1, 0, 0, 0, m0),
   (15, .getfield 64, 3, 9, 10, 501, m0),
   (18, .invokevirtual 320, 3, 0, 0, 1149, m_Ties_look),
   (21, .iload_n 1, 1, 0, 0, 0, m0),
   (22, .aload_n 0, 1, 0, 0, 0, m0),
   (23, .getfield 43, 3, 5, 10, 497, m0),
   (26, .invokevirtual 340, 3, 0, 0, 1224, m_Ties_findRound),
   (29, .if_icmp .lt 10, 3, 39, 0, 0, m0),
   (32, .nop, 0, 0, 0, 0, m0)]),
  (32, [], false, [(32, .aload_n 0, 1, 0, 0, 0, m0),
   (33, .bipush 6, 2, 0, 0, 0, m0),
   (35, .invokevirtual 124, 3, 0, 0, 608, m_FN_refuse),
   (38, .ireturn, 1, 0, 0, 0, m0)]),
  (39, [], false, [(39, .aload_n 0, 1, 0, 0, 0, m0),
   (40, .aload_n 0, 1, 0, 0, 0, m0),
   (41, .getfield 43, 3, 5, 10, 497, m0),
   (44, .getfield 343, 3, 3, 4, 407, m0),
   (47, .iload_n 1, 1, 0, 0, 0, m0),
   (48, .iaload, 1, 0, 0, 0, m0),
   (49, .invokevirtual 170, 3, 0, 0, 835, m_FN_answer),
   (52, .ireturn, 1, 0, 0, 0, m0)])]
theorem ok_FN_roundAt : okBt m_FN_roundAt bt_FN_roundAt = true := by decide +kernel
set_option maxRecDepth 100000 in
theorem b_FN_roundAt_0 {l : Launch} {E : EnvT} {d : Nat} {K : AV → Mem → Prop} {M : Mem} {x1 : Int32} (hd : 1 ≤ d)
  (h : ((0 ≤ x1 →
   (((M 0 0 9).toNat, 11) ∈ CL ∧ CT l E (d - 1) m_Ties_look [(.ref 12, 30), (.ref (M 0 0 9).toNat, 11)] M (fun v1 M1 =>
    CT l E (d - 1) m_Ties_findRound [(.ref 12, 30)] M1 (fun v2 M2 =>
     ((x1 < (toI v2) →
      (vp_in x1 8 ∧ CT l E (d - 1) m_FN_answer [(.ref 0, 0), (.int (iN (M2 12 4 (x1).toNatClampNeg)), 0)] M2 (fun v3 M3 =>
       K (.int (toI v3), 0) M3))) ∧
     (¬ x1 < (toI v2) →
      CT l E (d - 1) m_FN_refuse [(.ref 0, 0), (.int (iN 6), 0)] M2 (fun v4 M4 =>
       K (.int (toI v4), 0) M4))))))) ∧
  (¬ 0 ≤ x1 →
   CT l E (d - 1) m_FN_refuse [(.ref 0, 0), (.int (iN 1), 0)] M (fun v5 M5 =>
    K (.int (toI v5), 0) M5)))) :
  G l E d m_FN_roundAt 0 [(0, (.ref 0, 0)), (1, (.int x1, 0))] [] M K := G.blk 60 _ hd ok_FN_roundAt rfl h
def bt_FN_clear : BtT := [(0, [0], true, [(0, .aload_n 0, 1, 0, 0, 0, m0),
   (1, .getfield 43, 3, 5, 10, 497, m0),
   (4, .aload_n 0, 1, 0, 0, 0, m0),
   (5, .getfield 64, 3, 9, 10, 501, m0),
   (8, .invokevirtual 320, 3, 0, 0, 1149, m_Ties_look),
   (11, .aload_n 0, 1, 0, 0, 0, m0),
   (12, .getfield 43, 3, 5, 10, 497, m0),
   (15, .invokevirtual 340, 3, 0, 0, 1224, m_Ties_findRound),
   (18, .istore_n 1, 1, 0, 0, 0, m0),
   (19, .iload_n 1, 1, 0, 0, 0, m0),
   (20, .ifCond .ne 10, 3, 30, 0, 0, m0),
   (23, .nop, 0, 0, 0, 0, m0)]),
  (23, [], false, [(23, .aload_n 0, 1, 0, 0, 0, m0),
   (24, .bipush 7, 2, 0, 0, 0, m0),
   (26, .invokevirtual 124, 3, 0, 0, 608, m_FN_refuse),
   (29, .ireturn, 1, 0, 0, 0, m0)]),
  (30, [], false, [(30, .aload_n 0, 1, 0, 0, 0, m0),
   (31, .aload_n 0, 1, 0, 0, 0, m0),
   (32, .getfield 64, 3, 9, 10, 501, m0),
   (35, .aload_n 0, 1, 0, 0, 0, m0),
   (36, .getfield 43, 3, 5, 10, 497, m0),
   (39, .getfield 343, 3, 3, 4, 407, m0),
   (42, .iload_n 1, 1, 0, 0, 0, m0),
   (43, .invokevirtual 346, 3, 0, 0, 1239, m_Choir_clearRing),
   (46, .invokevirtual 170, 3, 0, 0, 835, m_FN_answer),
   (49, .ireturn, 1, 0, 0, 0, m0)])]
theorem ok_FN_clear : okBt m_FN_clear bt_FN_clear = true := by decide +kernel
set_option maxRecDepth 100000 in
theorem b_FN_clear_0 {l : Launch} {E : EnvT} {d : Nat} {K : AV → Mem → Prop} {M : Mem}  (hd : 1 ≤ d)
  (h : (((M 0 0 9).toNat, 11) ∈ CL ∧ CT l E (d - 1) m_Ties_look [(.ref 12, 30), (.ref (M 0 0 9).toNat, 11)] M (fun v1 M1 =>
   CT l E (d - 1) m_Ties_findRound [(.ref 12, 30)] M1 (fun v2 M2 =>
    ((¬ (toI v2) = 0 →
     (((M2 0 0 9).toNat, 11) ∈ CL ∧ CT l E (d - 1) m_Choir_clearRing [(.ref (M2 0 0 9).toNat, 11), (.ref 12, 34), (.int (toI v2), 0)] M2 (fun v3 M3 =>
      CT l E (d - 1) m_FN_answer [(.ref 0, 0), (.int (toI v3), 0)] M3 (fun v4 M4 =>
       K (.int (toI v4), 0) M4)))) ∧
    ((toI v2) = 0 →
     CT l E (d - 1) m_FN_refuse [(.ref 0, 0), (.int (iN 7), 0)] M2 (fun v5 M5 =>
      K (.int (toI v5), 0) M5))))))) :
  G l E d m_FN_clear 0 [(0, (.ref 0, 0))] [] M K := G.blk 60 _ hd ok_FN_clear rfl h
def bt_FN_ask : BtT := [(0, [0], true, [(0, .aload_n 0, 1, 0, 0, 0, m0),
   (1, .getfield 43, 3, 5, 10, 497, m0),
   (4, .aload_n 0, 1, 0, 0, 0, m0),
   (5, .getfield 64, 3, 9, 10, 501, m0),
   (8, .invokevirtual 320, 3, 0, 0, 1149, m_Ties_look),
   (11, .aload_n 0, 1, 0, 0, 0, m0),
   (12, .aload_n 0, 1, 0, 0, 0, m0),
   (13, .getfield 43, 3, 5, 10, 497, m0),
   (16, .invokevirtual 350, 3, 0, 0, 1247, m_Ties_leastAsked),
   (19, .invokestatic 303, 3, 0, 0, 1083, m_Integer_bitCount),
   (22, .invokevirtual 170, 3, 0, 0, 835, m_FN_answer),
   (25, .ireturn, 1, 0, 0, 0, m0)])]
theorem ok_FN_ask : okBt m_FN_ask bt_FN_ask = true := by decide +kernel
set_option maxRecDepth 100000 in
theorem b_FN_ask_0 {l : Launch} {E : EnvT} {d : Nat} {K : AV → Mem → Prop} {M : Mem}  (hd : 1 ≤ d)
  (h : (((M 0 0 9).toNat, 11) ∈ CL ∧ CT l E (d - 1) m_Ties_look [(.ref 12, 30), (.ref (M 0 0 9).toNat, 11)] M (fun v1 M1 =>
   CT l E (d - 1) m_Ties_leastAsked [(.ref 12, 30)] M1 (fun v2 M2 =>
    CT l E (d - 1) m_Integer_bitCount [(.int (toI v2), 0)] M2 (fun v3 M3 =>
     CT l E (d - 1) m_FN_answer [(.ref 0, 0), (.int (toI v3), 0)] M3 (fun v4 M4 =>
      K (.int (toI v4), 0) M4)))))) :
  G l E d m_FN_ask 0 [(0, (.ref 0, 0))] [] M K := G.blk 60 _ hd ok_FN_ask rfl h
def bt_FN_askSet : BtT := [(0, [0], true, [(0, .aload_n 0, 1, 0, 0, 0, m0),
   (1, .getfield 43, 3, 5, 10, 497, m0),
   (4, .aload_n 0, 1, 0, 0, 0, m0),
   (5, .getfield 64, 3, 9, 10, 501, m0),
   (8, .invokevirtual 320, 3, 0, 0, 1149, m_Ties_look),
   (11, .aload_n 0, 1, 0, 0, 0, m0),
   (12, .aload_n 0, 1, 0, 0, 0, m0),
   (13, .getfield 43, 3, 5, 10, 497, m0),
   (16, .invokevirtual 350, 3, 0, 0, 1247, m_Ties_leastAsked),
   (19, .invokevirtual 170, 3, 0, 0, 835, m_FN_answer),
   (22, .ireturn, 1, 0, 0, 0, m0)])]
theorem ok_FN_askSet : okBt m_FN_askSet bt_FN_askSet = true := by decide +kernel
set_option maxRecDepth 100000 in
theorem b_FN_askSet_0 {l : Launch} {E : EnvT} {d : Nat} {K : AV → Mem → Prop} {M : Mem}  (hd : 1 ≤ d)
  (h : (((M 0 0 9).toNat, 11) ∈ CL ∧ CT l E (d - 1) m_Ties_look [(.ref 12, 30), (.ref (M 0 0 9).toNat, 11)] M (fun v1 M1 =>
   CT l E (d - 1) m_Ties_leastAsked [(.ref 12, 30)] M1 (fun v2 M2 =>
    CT l E (d - 1) m_FN_answer [(.ref 0, 0), (.int (toI v2), 0)] M2 (fun v3 M3 =>
     K (.int (toI v3), 0) M3))))) :
  G l E d m_FN_askSet 0 [(0, (.ref 0, 0))] [] M K := G.blk 60 _ hd ok_FN_askSet rfl h
def bt_FN_chain : BtT := [(0, [0], true, [(0, .aload_n 0, 1, 0, 0, 0, m0),
   (1, .getfield 43, 3, 5, 10, 497, m0),
   (4, .aload_n 0, 1, 0, 0, 0, m0),
   (5, .getfield 64, 3, 9, 10, 501, m0),
   (8, .invokevirtual 320, 3, 0, 0, 1149, m_Ties_look),
   (11, .aload_n 0, 1, 0, 0, 0, m0),
   (12, .aload_n 0, 1, 0, 0, 0, m0),
   (13, .getfield 43, 3, 5, 10, 497, m0),
   (16, .invokevirtual 353, 3, 0, 0, 1263, m_Ties_longestRow),
   (19, .invokevirtual 170, 3, 0, 0, 835, m_FN_answer),
   (22, .ireturn, 1, 0, 0, 0, m0)])]
theorem ok_FN_chain : okBt m_FN_chain bt_FN_chain = true := by decide +kernel
set_option maxRecDepth 100000 in
theorem b_FN_chain_0 {l : Launch} {E : EnvT} {d : Nat} {K : AV → Mem → Prop} {M : Mem}  (hd : 1 ≤ d)
  (h : (((M 0 0 9).toNat, 11) ∈ CL ∧ CT l E (d - 1) m_Ties_look [(.ref 12, 30), (.ref (M 0 0 9).toNat, 11)] M (fun v1 M1 =>
   CT l E (d - 1) m_Ties_longestRow [(.ref 12, 30)] M1 (fun v2 M2 =>
    CT l E (d - 1) m_FN_answer [(.ref 0, 0), (.int (toI v2), 0)] M2 (fun v3 M3 =>
     K (.int (toI v3), 0) M3))))) :
  G l E d m_FN_chain 0 [(0, (.ref 0, 0))] [] M K := G.blk 60 _ hd ok_FN_chain rfl h
def bt_FN_behind : BtT := [(0, [0, 1], true, [(0, .aload_n 0, 1, 0, 0, 0, m0),
   (1, .getfield 64, 3, 9, 10, 501, m0),
   (4, .iload_n 1, 1, 0, 0, 0, m0),
   (5, .invokevirtual 272, 3, 0, 0, 999, m_Choir_lives),
   (8, .ifCond .ne 9, 3, 17, 0, 0, m0),
   (11, .nop, 0, 0, 0, 0, m0)]),
  (11, [], false, [(11, .aload_n 0, 1, 0, 0, 0, m0),
   (12, .iconst 1, 1, 0, 0, 0, m0),
   (13, .invokevirtual 124, 3, 0, 0, 608, m_FN_refuse),
   (16, .ireturn, 1, 0, 0, 0, m0)]),
  (17, [], false, [(17, .aload_n 0, 1, 0, 0, 0, m0),
   (18, .getfield 43, 3, 5, 10, 497, m0),
   (21, .aload_n 0, 1, 0, 0, 0, m0),
   (22, .getfield 64, 3, 9, 10, 501, m0),
   (25, .invokevirtual 320, 3, 0, 0, 1149, m_Ties_look),
   (28, .aload_n 0, 1, 0, 0, 0, m0),
   (29, .aload_n 0, 1, 0, 0, 0, m0),
   (30, .getfield 43, 3, 5, 10, 497, m0),
   (33, .iload_n 1, 1, 0, 0, 0, m0),
   (34, .invokevirtual 356, 3, 0, 0, 1276, m_Ties_reachedFrom),
   (37, .invokevirtual 170, 3, 0, 0, 835, m_FN_answer),
   (40, .ireturn, 1, 0, 0, 0, m0)])]
theorem ok_FN_behind : okBt m_FN_behind bt_FN_behind = true := by decide +kernel
set_option maxRecDepth 100000 in
theorem b_FN_behind_0 {l : Launch} {E : EnvT} {d : Nat} {K : AV → Mem → Prop} {M : Mem} {x1 : Int32} (hd : 1 ≤ d)
  (h : (((M 0 0 9).toNat, 11) ∈ CL ∧ CT l E (d - 1) m_Choir_lives [(.ref (M 0 0 9).toNat, 11), (.int x1, 0)] M (fun v1 M1 =>
   ((¬ (toI v1) = 0 →
    (((M1 0 0 9).toNat, 11) ∈ CL ∧ CT l E (d - 1) m_Ties_look [(.ref 12, 30), (.ref (M1 0 0 9).toNat, 11)] M1 (fun v2 M2 =>
     CT l E (d - 1) m_Ties_reachedFrom [(.ref 12, 30), (.int x1, 0)] M2 (fun v3 M3 =>
      CT l E (d - 1) m_FN_answer [(.ref 0, 0), (.int (toI v3), 0)] M3 (fun v4 M4 =>
       K (.int (toI v4), 0) M4))))) ∧
   ((toI v1) = 0 →
    CT l E (d - 1) m_FN_refuse [(.ref 0, 0), (.int (iN 1), 0)] M1 (fun v5 M5 =>
     K (.int (toI v5), 0) M5)))))) :
  G l E d m_FN_behind 0 [(0, (.ref 0, 0)), (1, (.int x1, 0))] [] M K := G.blk 60 _ hd ok_FN_behind rfl h
def bt_FN_free : BtT := [(0, [0, 1], true, [(0, .aload_n 0, 1, 0, 0, 0, m0),
   (1, .getfield 64, 3, 9, 10, 501, m0),
   (4, .iload_n 1, 1, 0, 0, 0, m0),
   (5, .invokevirtual 272, 3, 0, 0, 999, m_Choir_lives),
   (8, .ifCond .ne 9, 3, 17, 0, 0, m0),
   (11, .nop, 0, 0, 0, 0, m0)]),
  (11, [], false, [(11, .aload_n 0, 1, 0, 0, 0, m0),
   (12, .iconst 1, 1, 0, 0, 0, m0),
   (13, .invokevirtual 124, 3, 0, 0, 608, m_FN_refuse),
   (16, .ireturn, 1, 0, 0, 0, m0)]),
  (17, [], false, [(17, .aload_n 0, 1, 0, 0, 0, m0),
   (18, .aload_n 0, 1, 0, 0, 0, m0),
   (19, .getfield 64, 3, 9, 10, 501, m0),
   (22, .iload_n 1, 1, 0, 0, 0, m0),
   (23, .invokevirtual 359, 3, 0, 0, 1204, m_Choir_freeNotes),
   (26, .invokevirtual 170, 3, 0, 0, 835, m_FN_answer),
   (29, .ireturn, 1, 0, 0, 0, m0)])]
theorem ok_FN_free : okBt m_FN_free bt_FN_free = true := by decide +kernel
set_option maxRecDepth 100000 in
theorem b_FN_free_0 {l : Launch} {E : EnvT} {d : Nat} {K : AV → Mem → Prop} {M : Mem} {x1 : Int32} (hd : 1 ≤ d)
  (h : (((M 0 0 9).toNat, 11) ∈ CL ∧ CT l E (d - 1) m_Choir_lives [(.ref (M 0 0 9).toNat, 11), (.int x1, 0)] M (fun v1 M1 =>
   ((¬ (toI v1) = 0 →
    (((M1 0 0 9).toNat, 11) ∈ CL ∧ CT l E (d - 1) m_Choir_freeNotes [(.ref (M1 0 0 9).toNat, 11), (.int x1, 0)] M1 (fun v2 M2 =>
     CT l E (d - 1) m_FN_answer [(.ref 0, 0), (.int (toI v2), 0)] M2 (fun v3 M3 =>
      K (.int (toI v3), 0) M3)))) ∧
   ((toI v1) = 0 →
    CT l E (d - 1) m_FN_refuse [(.ref 0, 0), (.int (iN 1), 0)] M1 (fun v4 M4 =>
     K (.int (toI v4), 0) M4)))))) :
  G l E d m_FN_free 0 [(0, (.ref 0, 0)), (1, (.int x1, 0))] [] M K := G.blk 60 _ hd ok_FN_free rfl h
def bt_FN_queue : BtT := [(0, [0, 1], true, [(0, .aload_n 0, 1, 0, 0, 0, m0),
   (1, .getfield 64, 3, 9, 10, 501, m0),
   (4, .iload_n 1, 1, 0, 0, 0, m0),
   (5, .invokevirtual 272, 3, 0, 0, 999, m_Choir_lives),
   (8, .ifCond .ne 9, 3, 17, 0, 0, m0),
   (11, .nop, 0, 0, 0, 0, m0)]),
  (11, [], false, [(11, .aload_n 0, 1, 0, 0, 0, m0),
   (12, .iconst 1, 1, 0, 0, 0, m0),
   (13, .invokevirtual 124, 3, 0, 0, 608, m_FN_refuse),
   (16, .ireturn, 1, 0, 0, 0, m0)]),
  (17, [], false, [(17, .aload_n 0, 1, 0, 0, 0, m0),
   (18, .aload_n 0, 1, 0, 0, 0, m0),
   (19, .getfield 64, 3, 9, 10, 501, m0),
   (22, .getfield 190, 3, 7, 0, 279, m0),
   (25, .iload_n 1, 1, 0, 0, 0, m0),
   (26, .invokevirtual 362, 3, 0, 0, 1288, m_Waiting_countFor),
   (29, .invokevirtual 170, 3, 0, 0, 835, m_FN_answer),
   (32, .ireturn, 1, 0, 0, 0, m0)])]
theorem ok_FN_queue : okBt m_FN_queue bt_FN_queue = true := by decide +kernel
set_option maxRecDepth 100000 in
theorem b_FN_queue_0 {l : Launch} {E : EnvT} {d : Nat} {K : AV → Mem → Prop} {M : Mem} {x1 : Int32} (hd : 1 ≤ d)
  (h : (((M 0 0 9).toNat, 11) ∈ CL ∧ CT l E (d - 1) m_Choir_lives [(.ref (M 0 0 9).toNat, 11), (.int x1, 0)] M (fun v1 M1 =>
   ((¬ (toI v1) = 0 →
    (((M1 0 0 9).toNat, 11) ∈ CL ∧ CT l E (d - 1) m_Waiting_countFor [(.ref (M1 0 0 9).toNat, 19), (.int x1, 0)] M1 (fun v2 M2 =>
     CT l E (d - 1) m_FN_answer [(.ref 0, 0), (.int (toI v2), 0)] M2 (fun v3 M3 =>
      K (.int (toI v3), 0) M3)))) ∧
   ((toI v1) = 0 →
    CT l E (d - 1) m_FN_refuse [(.ref 0, 0), (.int (iN 1), 0)] M1 (fun v4 M4 =>
     K (.int (toI v4), 0) M4)))))) :
  G l E d m_FN_queue 0 [(0, (.ref 0, 0)), (1, (.int x1, 0))] [] M K := G.blk 60 _ hd ok_FN_queue rfl h
def bt_FN_roomiest : BtT := [(0, [0], true, [(0, .aload_n 0, 1, 0, 0, 0, m0),
   (1, .iconst 2, 1, 0, 0, 0, m0),
   (2, .invokevirtual 333, 3, 0, 0, 1196, m_FN_firstWithMost),
   (5, .ireturn, 1, 0, 0, 0, m0)])]
theorem ok_FN_roomiest : okBt m_FN_roomiest bt_FN_roomiest = true := by decide +kernel
set_option maxRecDepth 100000 in
theorem b_FN_roomiest_0 {l : Launch} {E : EnvT} {d : Nat} {K : AV → Mem → Prop} {M : Mem}  (hd : 1 ≤ d)
  (h : CT l E (d - 1) m_FN_firstWithMost [(.ref 0, 0), (.int (iN 2), 0)] M (fun v1 M1 =>
   K (.int (toI v1), 0) M1)) :
  G l E d m_FN_roomiest 0 [(0, (.ref 0, 0))] [] M K := G.blk 60 _ hd ok_FN_roomiest rfl h
def bt_FN_falsest : BtT := [(0, [0, 1], true, [(0, .aload_n 0, 1, 0, 0, 0, m0),
   (1, .getfield 64, 3, 9, 10, 501, m0),
   (4, .iload_n 1, 1, 0, 0, 0, m0),
   (5, .invokevirtual 272, 3, 0, 0, 999, m_Choir_lives),
   (8, .ifCond .ne 9, 3, 17, 0, 0, m0),
   (11, .nop, 0, 0, 0, 0, m0)]),
  (11, [], false, [(11, .aload_n 0, 1, 0, 0, 0, m0),
   (12, .iconst 1, 1, 0, 0, 0, m0),
   (13, .invokevirtual 124, 3, 0, 0, 608, m_FN_refuse),
   (16, .ireturn, 1, 0, 0, 0, m0)]),
  (17, [], false, [(17, .iconst (-1), 1, 0, 0, 0, m0),
   (18, .istore_n 2, 1, 0, 0, 0, m0),
   (19, .iconst 0, 1, 0, 0, 0, m0),
   (20, .istore_n 3, 1, 0, 0, 0, m0),
   (21, .iconst 0, 1, 0, 0, 0, m0),
   (22, .istore 4, 2, 0, 0, 0, m0),
   (24, .nop, 0, 0, 0, 0, m0)]),
  (24, [0, 1, 2, 3, 4], true, [(24, .iload 4, 2, 0, 0, 0, m0),
   (26, .aload_n 0, 1, 0, 0, 0, m0),
   (27, .getfield 64, 3, 9, 10, 501, m0),
   (30, .getfield 221, 3, 3, 0, 271, m0),
   (33, .iload_n 1, 1, 0, 0, 0, m0),
   (34, .iaload, 1, 0, 0, 0, m0),
   (35, .if_icmp .ge 37, 3, 72, 0, 0, m0),
   (38, .nop, 0, 0, 0, 0, m0)]),
  (38, [], false, [(38, .aload_n 0, 1, 0, 0, 0, m0),
   (39, .getfield 64, 3, 9, 10, 501, m0),
   (42, .getfield 257, 3, 6, 0, 277, m0),
   (45, .iload_n 1, 1, 0, 0, 0, m0),
   (46, .iload 4, 2, 0, 0, 0, m0),
   (48, .invokestatic 251, 3, 0, 0, 974, m_Choir_slot),
   (51, .iaload, 1, 0, 0, 0, m0),
   (52, .istore 5, 2, 0, 0, 0, m0),
   (54, .iload 5, 2, 0, 0, 0, m0),
   (56, .iload_n 3, 1, 0, 0, 0, m0),
   (57, .if_icmp .le 9, 3, 66, 0, 0, m0),
   (60, .nop, 0, 0, 0, 0, m0)]),
  (60, [], false, [(60, .iload 5, 2, 0, 0, 0, m0),
   (62, .istore_n 3, 1, 0, 0, 0, m0),
   (63, .iload 4, 2, 0, 0, 0, m0),
   (65, .istore_n 2, 1, 0, 0, 0, m0),
   (66, .nop, 0, 0, 0, 0, m0)]),
  (66, [], false, [(66, .iinc 4 1, 3, 0, 0, 0, m0),
   (69, .goto (-45), 3, 24, 0, 0, m0)]),
  (72, [], false, [(72, .aload_n 0, 1, 0, 0, 0, m0),
   (73, .iload_n 2, 1, 0, 0, 0, m0),
   (74, .bipush 6, 2, 0, 0, 0, m0),
   (76, .invokevirtual 236, 3, 0, 0, 954, m_FN_answerOr),
   (79, .ireturn, 1, 0, 0, 0, m0)])]
theorem ok_FN_falsest : okBt m_FN_falsest bt_FN_falsest = true := by decide +kernel
set_option maxRecDepth 100000 in
theorem b_FN_falsest_0 {l : Launch} {E : EnvT} {d : Nat} {K : AV → Mem → Prop} {M : Mem} {x1 : Int32} (hd : 1 ≤ d)
  (h : (((M 0 0 9).toNat, 11) ∈ CL ∧ CT l E (d - 1) m_Choir_lives [(.ref (M 0 0 9).toNat, 11), (.int x1, 0)] M (fun v1 M1 =>
   ((¬ (toI v1) = 0 →
    G l E d m_FN_falsest 24 [(0, (.ref 0, 0)), (1, (.int x1, 0)), (2, (.int (iN (-1)), 0)), (3, (.int (iN 0), 0)), (4, (.int (iN 0), 0))] [] M1 K) ∧
   ((toI v1) = 0 →
    CT l E (d - 1) m_FN_refuse [(.ref 0, 0), (.int (iN 1), 0)] M1 (fun v2 M2 =>
     K (.int (toI v2), 0) M2)))))) :
  G l E d m_FN_falsest 0 [(0, (.ref 0, 0)), (1, (.int x1, 0))] [] M K := G.blk 60 _ hd ok_FN_falsest rfl h
set_option maxRecDepth 100000 in
theorem b_FN_falsest_24 {l : Launch} {E : EnvT} {d : Nat} {K : AV → Mem → Prop} {M : Mem} {x1 : Int32} {x2 : Int32} {x3 : Int32} {x4 : Int32} (hd : 1 ≤ d)
  (h : (((M 0 0 9).toNat, 11) ∈ CL ∧ vp_in x1 8 ∧ (((iN (M (M 0 0 9).toNat 4 (x1).toNatClampNeg)) ≤ x4 →
   CT l E (d - 1) m_FN_answerOr [(.ref 0, 0), (.int x2, 0), (.int (iN 6), 0)] M (fun v1 M1 =>
    K (.int (toI v1), 0) M1)) ∧
  (¬ (iN (M (M 0 0 9).toNat 4 (x1).toNatClampNeg)) ≤ x4 →
   (((M 0 0 9).toNat, 11) ∈ CL ∧ CT l E (d - 1) m_Choir_slot [(.int x1, 0), (.int x4, 0)] M (fun v2 M2 =>
    (vp_in (toI v2) 48 ∧ (((iN (M2 (M 0 0 9).toNat 7 ((toI v2)).toNatClampNeg)) ≤ x3 →
     G l E d m_FN_falsest 24 [(0, (.ref 0, 0)), (1, (.int x1, 0)), (2, (.int x2, 0)), (3, (.int x3, 0)), (4, (.int (x4 + iN 1), 0))] [] M2 K) ∧
    (¬ (iN (M2 (M 0 0 9).toNat 7 ((toI v2)).toNatClampNeg)) ≤ x3 →
     G l E d m_FN_falsest 24 [(0, (.ref 0, 0)), (1, (.int x1, 0)), (2, (.int x4, 0)), (3, (.int (iN (M2 (M 0 0 9).toNat 7 ((toI v2)).toNatClampNeg)), 0)), (4, (.int (x4 + iN 1), 0))] [] M2 K))))))))) :
  G l E d m_FN_falsest 24 [(0, (.ref 0, 0)), (1, (.int x1, 0)), (2, (.int x2, 0)), (3, (.int x3, 0)), (4, (.int x4, 0))] [] M K := G.blk 60 _ hd ok_FN_falsest rfl h
def bt_FN_heardStatus : BtT := [(0, [0, 1, 2], true, [(0, .aload_n 0, 1, 0, 0, 0, m0),
   (1, .iload_n 1, 1, 0, 0, 0, m0),
   (2, .iload_n 2, 1, 0, 0, 0, m0),
   (3, .invokevirtual 278, 3, 0, 0, 1011, m_FN_lineTrayStatus),
   (6, .istore_n 3, 1, 0, 0, 0, m0),
   (7, .iload_n 3, 1, 0, 0, 0, m0),
   (8, .ifCond .eq 5, 3, 13, 0, 0, m0),
   (11, .nop, 0, 0, 0, 0, m0)]),
  (11, [], false, [(11, .iload_n 3, 1, 0, 0, 0, m0),
   (12, .ireturn, 1, 0, 0, 0, m0)]),
  (13, [], false, [(13, .iconst 0, 1, 0, 0, 0, m0),
   (14, .istore 4, 2, 0, 0, 0, m0),
   (16, .nop, 0, 0, 0, 0, m0)]),
  (16, [0, 1, 2, 4], true, [(16, .iload 4, 2, 0, 0, 0, m0),
   (18, .aload_n 0, 1, 0, 0, 0, m0),
   (19, .getfield 64, 3, 9, 10, 501, m0),
   (22, .getfield 221, 3, 3, 0, 271, m0),
   (25, .iload_n 1, 1, 0, 0, 0, m0),
   (26, .iaload, 1, 0, 0, 0, m0),
   (27, .if_icmp .ge 43, 3, 70, 0, 0, m0),
   (30, .nop, 0, 0, 0, 0, m0)]),
  (30, [], false, [(30, .aload_n 0, 1, 0, 0, 0, m0),
   (31, .getfield 11, 3, 0, 10, 492, m0),
   (34, .iload_n 2, 1, 0, 0, 0, m0),
   (35, .aaload, 1, 0, 0, 0, m0),
   (36, .getfield 128, 3, 0, 6, 480, m0),
   (39, .iload 4, 2, 0, 0, 0, m0),
   (41, .laload, 1, 0, 0, 0, m0),
   (42, .lstore 5, 2, 0, 0, 0, m0),
   (44, .lload 5, 2, 0, 0, 0, m0),
   (46, .ldc2_w 429, 3, 1, (-12), 1308, m0),
   (49, .lcmp, 1, 0, 0, 0, m0),
   (50, .ifCond .lt 12, 3, 62, 0, 0, m0),
   (53, .nop, 0, 0, 0, 0, m0)]),
  (53, [], false, [(53, .lload 5, 2, 0, 0, 0, m0),
   (55, .ldc2_w 431, 3, 1, 2000, 1309, m0),
   (58, .lcmp, 1, 0, 0, 0, m0),
   (59, .ifCond .le 5, 3, 64, 0, 0, m0),
   (62, .nop, 0, 0, 0, 0, m0)]),
  (62, [], false, [(62, .iconst 5, 1, 0, 0, 0, m0),
   (63, .ireturn, 1, 0, 0, 0, m0)]),
  (64, [], false, [(64, .iinc 4 1, 3, 0, 0, 0, m0),
   (67, .goto (-51), 3, 16, 0, 0, m0)]),
  (70, [], false, [(70, .iconst 0, 1, 0, 0, 0, m0),
   (71, .ireturn, 1, 0, 0, 0, m0)])]
theorem ok_FN_heardStatus : okBt m_FN_heardStatus bt_FN_heardStatus = true := by decide +kernel
set_option maxRecDepth 100000 in
theorem b_FN_heardStatus_0 {l : Launch} {E : EnvT} {d : Nat} {K : AV → Mem → Prop} {M : Mem} {x1 : Int32} {x2 : Int32} (hd : 1 ≤ d)
  (h : CT l E (d - 1) m_FN_lineTrayStatus [(.ref 0, 0), (.int x1, 0), (.int x2, 0)] M (fun v1 M1 =>
   (((toI v1) = 0 →
    G l E d m_FN_heardStatus 16 [(0, (.ref 0, 0)), (1, (.int x1, 0)), (2, (.int x2, 0)), (4, (.int (iN 0), 0))] [] M1 K) ∧
   (¬ (toI v1) = 0 →
    K (.int (toI v1), 0) M1)))) :
  G l E d m_FN_heardStatus 0 [(0, (.ref 0, 0)), (1, (.int x1, 0)), (2, (.int x2, 0))] [] M K := G.blk 60 _ hd ok_FN_heardStatus rfl h
set_option maxRecDepth 100000 in
theorem b_FN_heardStatus_16 {l : Launch} {E : EnvT} {d : Nat} {K : AV → Mem → Prop} {M : Mem} {x1 : Int32} {x2 : Int32} {x4 : Int32} (hd : 1 ≤ d)
  (h : (((M 0 0 9).toNat, 11) ∈ CL ∧ vp_in x1 8 ∧ (((iN (M (M 0 0 9).toNat 4 (x1).toNatClampNeg)) ≤ x4 →
   K (.int (iN 0), 0) M) ∧
  (¬ (iN (M (M 0 0 9).toNat 4 (x1).toNatClampNeg)) ≤ x4 →
   (vp_in x2 4 ∧ vp_in x4 60 ∧ (((lg_cmp (lI (M ([(20, 39), (21, 39), (22, 39), (23, 39)].getD (x2).toNatClampNeg (0, 0)).1 1 (x4).toNatClampNeg)) (lI (-12))) < 0 →
    K (.int (iN 5), 0) M) ∧
   (¬ (lg_cmp (lI (M ([(20, 39), (21, 39), (22, 39), (23, 39)].getD (x2).toNatClampNeg (0, 0)).1 1 (x4).toNatClampNeg)) (lI (-12))) < 0 →
    (((lg_cmp (lI (M ([(20, 39), (21, 39), (22, 39), (23, 39)].getD (x2).toNatClampNeg (0, 0)).1 1 (x4).toNatClampNeg)) (lI 2000)) ≤ 0 →
     G l E d m_FN_heardStatus 16 [(0, (.ref 0, 0)), (1, (.int x1, 0)), (2, (.int x2, 0)), (4, (.int (x4 + iN 1), 0))] [] M K) ∧
    (¬ (lg_cmp (lI (M ([(20, 39), (21, 39), (22, 39), (23, 39)].getD (x2).toNatClampNeg (0, 0)).1 1 (x4).toNatClampNeg)) (lI 2000)) ≤ 0 →
     K (.int (iN 5), 0) M))))))))) :
  G l E d m_FN_heardStatus 16 [(0, (.ref 0, 0)), (1, (.int x1, 0)), (2, (.int x2, 0)), (4, (.int x4, 0))] [] M K := G.blk 60 _ hd ok_FN_heardStatus rfl h
def bt_FN_offAt : BtT := [(0, [0, 1, 2, 3], true, [(0, .aload_n 0, 1, 0, 0, 0, m0),
   (1, .getfield 11, 3, 0, 10, 492, m0),
   (4, .iload_n 2, 1, 0, 0, 0, m0),
   (5, .aaload, 1, 0, 0, 0, m0),
   (6, .getfield 128, 3, 0, 6, 480, m0),
   (9, .iload_n 3, 1, 0, 0, 0, m0),
   (10, .laload, 1, 0, 0, 0, m0),
   (11, .l2i, 1, 0, 0, 0, m0),
   (12, .aload_n 0, 1, 0, 0, 0, m0),
   (13, .getfield 64, 3, 9, 10, 501, m0),
   (16, .iload_n 1, 1, 0, 0, 0, m0),
   (17, .iload_n 3, 1, 0, 0, 0, m0),
   (18, .invokevirtual 275, 3, 0, 0, 1003, m_Choir_sungAt),
   (21, .isub, 1, 0, 0, 0, m0),
   (22, .ireturn, 1, 0, 0, 0, m0)])]
theorem ok_FN_offAt : okBt m_FN_offAt bt_FN_offAt = true := by decide +kernel
set_option maxRecDepth 100000 in
theorem b_FN_offAt_0 {l : Launch} {E : EnvT} {d : Nat} {K : AV → Mem → Prop} {M : Mem} {x1 : Int32} {x2 : Int32} {x3 : Int32} (hd : 1 ≤ d)
  (h : (vp_in x2 4 ∧ vp_in x3 60 ∧ ((M 0 0 9).toNat, 11) ∈ CL ∧ CT l E (d - 1) m_Choir_sungAt [(.ref (M 0 0 9).toNat, 11), (.int x1, 0), (.int x3, 0)] M (fun v1 M1 =>
   K (.int (((lI (M ([(20, 39), (21, 39), (22, 39), (23, 39)].getD (x2).toNatClampNeg (0, 0)).1 1 (x3).toNatClampNeg))).toInt32 - (toI v1)), 0) M1))) :
  G l E d m_FN_offAt 0 [(0, (.ref 0, 0)), (1, (.int x1, 0)), (2, (.int x2, 0)), (3, (.int x3, 0))] [] M K := G.blk 60 _ hd ok_FN_offAt rfl h
def bt_FN_heard : BtT := [(0, [0, 1, 2], true, [(0, .aload_n 0, 1, 0, 0, 0, m0),
   (1, .iload_n 1, 1, 0, 0, 0, m0),
   (2, .iload_n 2, 1, 0, 0, 0, m0),
   (3, .invokevirtual 365, 3, 0, 0, 1304, m_FN_heardStatus),
   (6, .istore_n 3, 1, 0, 0, 0, m0),
   (7, .iload_n 3, 1, 0, 0, 0, m0),
   (8, .ifCond .eq 9, 3, 17, 0, 0, m0),
   (11, .nop, 0, 0, 0, 0, m0)]),
  (11, [], false, [(11, .aload_n 0, 1, 0, 0, 0, m0),
   (12, .iload_n 3, 1, 0, 0, 0, m0),
   (13, .invokevirtual 124, 3, 0, 0, 608, m_FN_refuse),
   (16, .ireturn, 1, 0, 0, 0, m0)]),
  (17, [], false, [(17, .iconst 0, 1, 0, 0, 0, m0),
   (18, .istore 4, 2, 0, 0, 0, m0),
   (20, .iconst 0, 1, 0, 0, 0, m0),
   (21, .istore 5, 2, 0, 0, 0, m0),
   (23, .nop, 0, 0, 0, 0, m0)]),
  (23, [0, 1, 2, 4, 5], true, [(23, .iload 5, 2, 0, 0, 0, m0),
   (25, .aload_n 0, 1, 0, 0, 0, m0),
   (26, .getfield 64, 3, 9, 10, 501, m0),
   (29, .getfield 221, 3, 3, 0, 271, m0),
   (32, .iload_n 1, 1, 0, 0, 0, m0),
   (33, .iaload, 1, 0, 0, 0, m0),
   (34, .if_icmp .ge 41, 3, 75, 0, 0, m0),
   (37, .nop, 0, 0, 0, 0, m0)]),
  (37, [], false, [(37, .aload_n 0, 1, 0, 0, 0, m0),
   (38, .getfield 64, 3, 9, 10, 501, m0),
   (41, .getfield 257, 3, 6, 0, 277, m0),
   (44, .iload_n 1, 1, 0, 0, 0, m0),
   (45, .iload 5, 2, 0, 0, 0, m0),
   (47, .invokestatic 251, 3, 0, 0, 974, m_Choir_slot),
   (50, .iaload, 1, 0, 0, 0, m0),
   (51, .istore 6, 2, 0, 0, 0, m0),
   (53, .iload 4, 2, 0, 0, 0, m0),
   (55, .aload_n 0, 1, 0, 0, 0, m0),
   (56, .iload_n 1, 1, 0, 0, 0, m0),
   (57, .iload_n 2, 1, 0, 0, 0, m0),
   (58, .iload 5, 2, 0, 0, 0, m0),
   (60, .invokevirtual 368, 3, 0, 0, 1310, m_FN_offAt),
   (63, .iload 6, 2, 0, 0, 0, m0),
   (65, .iadd, 1, 0, 0, 0, m0),
   (66, .iadd, 1, 0, 0, 0, m0),
   (67, .istore 4, 2, 0, 0, 0, m0),
   (69, .iinc 5 1, 3, 0, 0, 0, m0),
   (72, .goto (-49), 3, 23, 0, 0, m0)]),
  (75, [], false, [(75, .aload_n 0, 1, 0, 0, 0, m0),
   (76, .iload 4, 2, 0, 0, 0, m0),
   (78, .invokevirtual 170, 3, 0, 0, 835, m_FN_answer),
   (81, .ireturn, 1, 0, 0, 0, m0)])]
theorem ok_FN_heard : okBt m_FN_heard bt_FN_heard = true := by decide +kernel
set_option maxRecDepth 100000 in
theorem b_FN_heard_0 {l : Launch} {E : EnvT} {d : Nat} {K : AV → Mem → Prop} {M : Mem} {x1 : Int32} {x2 : Int32} (hd : 1 ≤ d)
  (h : CT l E (d - 1) m_FN_heardStatus [(.ref 0, 0), (.int x1, 0), (.int x2, 0)] M (fun v1 M1 =>
   (((toI v1) = 0 →
    G l E d m_FN_heard 23 [(0, (.ref 0, 0)), (1, (.int x1, 0)), (2, (.int x2, 0)), (4, (.int (iN 0), 0)), (5, (.int (iN 0), 0))] [] M1 K) ∧
   (¬ (toI v1) = 0 →
    CT l E (d - 1) m_FN_refuse [(.ref 0, 0), (.int (toI v1), 0)] M1 (fun v2 M2 =>
     K (.int (toI v2), 0) M2))))) :
  G l E d m_FN_heard 0 [(0, (.ref 0, 0)), (1, (.int x1, 0)), (2, (.int x2, 0))] [] M K := G.blk 60 _ hd ok_FN_heard rfl h
set_option maxRecDepth 100000 in
theorem b_FN_heard_23 {l : Launch} {E : EnvT} {d : Nat} {K : AV → Mem → Prop} {M : Mem} {x1 : Int32} {x2 : Int32} {x4 : Int32} {x5 : Int32} (hd : 1 ≤ d)
  (h : (((M 0 0 9).toNat, 11) ∈ CL ∧ vp_in x1 8 ∧ (((iN (M (M 0 0 9).toNat 4 (x1).toNatClampNeg)) ≤ x5 →
   CT l E (d - 1) m_FN_answer [(.ref 0, 0), (.int x4, 0)] M (fun v1 M1 =>
    K (.int (toI v1), 0) M1)) ∧
  (¬ (iN (M (M 0 0 9).toNat 4 (x1).toNatClampNeg)) ≤ x5 →
   (((M 0 0 9).toNat, 11) ∈ CL ∧ CT l E (d - 1) m_Choir_slot [(.int x1, 0), (.int x5, 0)] M (fun v2 M2 =>
    (vp_in (toI v2) 48 ∧ CT l E (d - 1) m_FN_offAt [(.ref 0, 0), (.int x1, 0), (.int x2, 0), (.int x5, 0)] M2 (fun v3 M3 =>
     G l E d m_FN_heard 23 [(0, (.ref 0, 0)), (1, (.int x1, 0)), (2, (.int x2, 0)), (4, (.int (x4 + ((toI v3) + (iN (M2 (M 0 0 9).toNat 7 ((toI v2)).toNatClampNeg)))), 0)), (5, (.int (x5 + iN 1), 0))] [] M3 K)))))))) :
  G l E d m_FN_heard 23 [(0, (.ref 0, 0)), (1, (.int x1, 0)), (2, (.int x2, 0)), (4, (.int x4, 0)), (5, (.int x5, 0))] [] M K := G.blk 60 _ hd ok_FN_heard rfl h
def bt_FN_transposed : BtT := [(0, [0, 1, 2], true, [(0, .aload_n 0, 1, 0, 0, 0, m0),
   (1, .iload_n 1, 1, 0, 0, 0, m0),
   (2, .iload_n 2, 1, 0, 0, 0, m0),
   (3, .invokevirtual 365, 3, 0, 0, 1304, m_FN_heardStatus),
   (6, .istore_n 3, 1, 0, 0, 0, m0),
   (7, .iload_n 3, 1, 0, 0, 0, m0),
   (8, .ifCond .eq 9, 3, 17, 0, 0, m0),
   (11, .nop, 0, 0, 0, 0, m0)]),
  (11, [], false, [(11, .aload_n 0, 1, 0, 0, 0, m0),
   (12, .iload_n 3, 1, 0, 0, 0, m0),
   (13, .invokevirtual 124, 3, 0, 0, 608, m_FN_refuse),
   (16, .ireturn, 1, 0, 0, 0, m0)]),
  (17, [], false, [(17, .aload_n 0, 1, 0, 0, 0, m0),
   (18, .iload_n 1, 1, 0, 0, 0, m0),
   (19, .iload_n 2, 1, 0, 0, 0, m0),
   (20, .iconst 0, 1, 0, 0, 0, m0),
   (21, .invokevirtual 368, 3, 0, 0, 1310, m_FN_offAt),
   (24, .istore 4, 2, 0, 0, 0, m0),
   (26, .iconst 1, 1, 0, 0, 0, m0),
   (27, .istore 5, 2, 0, 0, 0, m0),
   (29, .nop, 0, 0, 0, 0, m0)]),
  (29, [0, 1, 2, 4, 5], true, [(29, .iload 5, 2, 0, 0, 0, m0),
   (31, .aload_n 0, 1, 0, 0, 0, m0),
   (32, .getfield 64, 3, 9, 10, 501, m0),
   (35, .getfield 221, 3, 3, 0, 271, m0),
   (38, .iload_n 1, 1, 0, 0, 0, m0),
   (39, .iaload, 1, 0, 0, 0, m0),
   (40, .if_icmp .ge 29, 3, 69, 0, 0, m0),
   (43, .nop, 0, 0, 0, 0, m0)]),
  (43, [], false, [(43, .aload_n 0, 1, 0, 0, 0, m0),
   (44, .iload_n 1, 1, 0, 0, 0, m0),
   (45, .iload_n 2, 1, 0, 0, 0, m0),
   (46, .iload 5, 2, 0, 0, 0, m0),
   (48, .invokevirtual 368, 3, 0, 0, 1310, m_FN_offAt),
   (51, .iload 4, 2, 0, 0, 0, m0),
   (53, .if_icmp .eq 10, 3, 63, 0, 0, m0),
   (56, .nop, 0, 0, 0, 0, m0)]),
  (56, [], false, [(56, .aload_n 0, 1, 0, 0, 0, m0),
   (57, .bipush 6, 2, 0, 0, 0, m0),
   (59, .invokevirtual 124, 3, 0, 0, 608, m_FN_refuse),
   (62, .ireturn, 1, 0, 0, 0, m0)]),
  (63, [], false, [(63, .iinc 5 1, 3, 0, 0, 0, m0),
   (66, .goto (-37), 3, 29, 0, 0, m0)]),
  (69, [], false, [(69, .aload_n 0, 1, 0, 0, 0, m0),
   (70, .iload 4, 2, 0, 0, 0, m0),
   (72, .invokevirtual 170, 3, 0, 0, 835, m_FN_answer),
   (75, .ireturn, 1, 0, 0, 0, m0)])]
theorem ok_FN_transposed : okBt m_FN_transposed bt_FN_transposed = true := by decide +kernel
set_option maxRecDepth 100000 in
theorem b_FN_transposed_0 {l : Launch} {E : EnvT} {d : Nat} {K : AV → Mem → Prop} {M : Mem} {x1 : Int32} {x2 : Int32} (hd : 1 ≤ d)
  (h : CT l E (d - 1) m_FN_heardStatus [(.ref 0, 0), (.int x1, 0), (.int x2, 0)] M (fun v1 M1 =>
   (((toI v1) = 0 →
    CT l E (d - 1) m_FN_offAt [(.ref 0, 0), (.int x1, 0), (.int x2, 0), (.int (iN 0), 0)] M1 (fun v2 M2 =>
     G l E d m_FN_transposed 29 [(0, (.ref 0, 0)), (1, (.int x1, 0)), (2, (.int x2, 0)), (4, (.int (toI v2), 0)), (5, (.int (iN 1), 0))] [] M2 K)) ∧
   (¬ (toI v1) = 0 →
    CT l E (d - 1) m_FN_refuse [(.ref 0, 0), (.int (toI v1), 0)] M1 (fun v3 M3 =>
     K (.int (toI v3), 0) M3))))) :
  G l E d m_FN_transposed 0 [(0, (.ref 0, 0)), (1, (.int x1, 0)), (2, (.int x2, 0))] [] M K := G.blk 60 _ hd ok_FN_transposed rfl h
set_option maxRecDepth 100000 in
theorem b_FN_transposed_29 {l : Launch} {E : EnvT} {d : Nat} {K : AV → Mem → Prop} {M : Mem} {x1 : Int32} {x2 : Int32} {x4 : Int32} {x5 : Int32} (hd : 1 ≤ d)
  (h : (((M 0 0 9).toNat, 11) ∈ CL ∧ vp_in x1 8 ∧ (((iN (M (M 0 0 9).toNat 4 (x1).toNatClampNeg)) ≤ x5 →
   CT l E (d - 1) m_FN_answer [(.ref 0, 0), (.int x4, 0)] M (fun v1 M1 =>
    K (.int (toI v1), 0) M1)) ∧
  (¬ (iN (M (M 0 0 9).toNat 4 (x1).toNatClampNeg)) ≤ x5 →
   CT l E (d - 1) m_FN_offAt [(.ref 0, 0), (.int x1, 0), (.int x2, 0), (.int x5, 0)] M (fun v2 M2 =>
    (((toI v2) = x4 →
     G l E d m_FN_transposed 29 [(0, (.ref 0, 0)), (1, (.int x1, 0)), (2, (.int x2, 0)), (4, (.int x4, 0)), (5, (.int (x5 + iN 1), 0))] [] M2 K) ∧
    (¬ (toI v2) = x4 →
     CT l E (d - 1) m_FN_refuse [(.ref 0, 0), (.int (iN 6), 0)] M2 (fun v3 M3 =>
      K (.int (toI v3), 0) M3)))))))) :
  G l E d m_FN_transposed 29 [(0, (.ref 0, 0)), (1, (.int x1, 0)), (2, (.int x2, 0)), (4, (.int x4, 0)), (5, (.int x5, 0))] [] M K := G.blk 60 _ hd ok_FN_transposed rfl h
def bt_FN_forged : BtT := [(0, [0, 1, 2], true, [(0, .aload_n 0, 1, 0, 0, 0, m0),
   (1, .iload_n 1, 1, 0, 0, 0, m0),
   (2, .iload_n 2, 1, 0, 0, 0, m0),
   (3, .invokevirtual 365, 3, 0, 0, 1304, m_FN_heardStatus),
   (6, .istore_n 3, 1, 0, 0, 0, m0),
   (7, .iload_n 3, 1, 0, 0, 0, m0),
   (8, .ifCond .eq 9, 3, 17, 0, 0, m0),
   (11, .nop, 0, 0, 0, 0, m0)]),
  (11, [], false, [(11, .aload_n 0, 1, 0, 0, 0, m0),
   (12, .iload_n 3, 1, 0, 0, 0, m0),
   (13, .invokevirtual 124, 3, 0, 0, 608, m_FN_refuse),
   (16, .ireturn, 1, 0, 0, 0, m0)]),
  (17, [], false, [(17, .iconst (-1), 1, 0, 0, 0, m0),
   (18, .istore 4, 2, 0, 0, 0, m0),
   (20, .iconst 0, 1, 0, 0, 0, m0),
   (21, .istore 5, 2, 0, 0, 0, m0),
   (23, .nop, 0, 0, 0, 0, m0)]),
  (23, [0, 1, 2, 4, 5], true, [(23, .iload 5, 2, 0, 0, 0, m0),
   (25, .aload_n 0, 1, 0, 0, 0, m0),
   (26, .getfield 64, 3, 9, 10, 501, m0),
   (29, .getfield 221, 3, 3, 0, 271, m0),
   (32, .iload_n 1, 1, 0, 0, 0, m0),
   (33, .iaload, 1, 0, 0, 0, m0),
   (34, .if_icmp .ge 37, 3, 71, 0, 0, m0),
   (37, .nop, 0, 0, 0, 0, m0)]),
  (37, [], false, [(37, .aload_n 0, 1, 0, 0, 0, m0),
   (38, .iload_n 1, 1, 0, 0, 0, m0),
   (39, .iload_n 2, 1, 0, 0, 0, m0),
   (40, .iload 5, 2, 0, 0, 0, m0),
   (42, .invokevirtual 368, 3, 0, 0, 1310, m_FN_offAt),
   (45, .ifCond .eq 20, 3, 65, 0, 0, m0),
   (48, .nop, 0, 0, 0, 0, m0)]),
  (48, [], false, [(48, .iload 4, 2, 0, 0, 0, m0),
   (50, .iconst (-1), 1, 0, 0, 0, m0),
   (51, .if_icmp .eq 10, 3, 61, 0, 0, m0),
   (54, .nop, 0, 0, 0, 0, m0)]),
  (54, [], false, [(54, .aload_n 0, 1, 0, 0, 0, m0),
   (55, .bipush 6, 2, 0, 0, 0, m0),
   (57, .invokevirtual 124, 3, 0, 0, 608, m_FN_refuse),
   (60, .ireturn, 1, 0, 0, 0, m0)]),
  (61, [], false, [(61, .iload 5, 2, 0, 0, 0, m0),
   (63, .istore 4, 2, 0, 0, 0, m0),
   (65, .nop, 0, 0, 0, 0, m0)]),
  (65, [], false, [(65, .iinc 5 1, 3, 0, 0, 0, m0),
   (68, .goto (-45), 3, 23, 0, 0, m0)]),
  (71, [], false, [(71, .aload_n 0, 1, 0, 0, 0, m0),
   (72, .iload 4, 2, 0, 0, 0, m0),
   (74, .bipush 6, 2, 0, 0, 0, m0),
   (76, .invokevirtual 236, 3, 0, 0, 954, m_FN_answerOr),
   (79, .ireturn, 1, 0, 0, 0, m0)])]
theorem ok_FN_forged : okBt m_FN_forged bt_FN_forged = true := by decide +kernel
set_option maxRecDepth 100000 in
theorem b_FN_forged_0 {l : Launch} {E : EnvT} {d : Nat} {K : AV → Mem → Prop} {M : Mem} {x1 : Int32} {x2 : Int32} (hd : 1 ≤ d)
  (h : CT l E (d - 1) m_FN_heardStatus [(.ref 0, 0), (.int x1, 0), (.int x2, 0)] M (fun v1 M1 =>
   (((toI v1) = 0 →
    G l E d m_FN_forged 23 [(0, (.ref 0, 0)), (1, (.int x1, 0)), (2, (.int x2, 0)), (4, (.int (iN (-1)), 0)), (5, (.int (iN 0), 0))] [] M1 K) ∧
   (¬ (toI v1) = 0 →
    CT l E (d - 1) m_FN_refuse [(.ref 0, 0), (.int (toI v1), 0)] M1 (fun v2 M2 =>
     K (.int (toI v2), 0) M2))))) :
  G l E d m_FN_forged 0 [(0, (.ref 0, 0)), (1, (.int x1, 0)), (2, (.int x2, 0))] [] M K := G.blk 60 _ hd ok_FN_forged rfl h
set_option maxRecDepth 100000 in
theorem b_FN_forged_23 {l : Launch} {E : EnvT} {d : Nat} {K : AV → Mem → Prop} {M : Mem} {x1 : Int32} {x2 : Int32} {x4 : Int32} {x5 : Int32} (hd : 1 ≤ d)
  (h : (((M 0 0 9).toNat, 11) ∈ CL ∧ vp_in x1 8 ∧ (((iN (M (M 0 0 9).toNat 4 (x1).toNatClampNeg)) ≤ x5 →
   CT l E (d - 1) m_FN_answerOr [(.ref 0, 0), (.int x4, 0), (.int (iN 6), 0)] M (fun v1 M1 =>
    K (.int (toI v1), 0) M1)) ∧
  (¬ (iN (M (M 0 0 9).toNat 4 (x1).toNatClampNeg)) ≤ x5 →
   CT l E (d - 1) m_FN_offAt [(.ref 0, 0), (.int x1, 0), (.int x2, 0), (.int x5, 0)] M (fun v2 M2 =>
    (((toI v2) = 0 →
     G l E d m_FN_forged 23 [(0, (.ref 0, 0)), (1, (.int x1, 0)), (2, (.int x2, 0)), (4, (.int x4, 0)), (5, (.int (x5 + iN 1), 0))] [] M2 K) ∧
    (¬ (toI v2) = 0 →
     ((x4 = (iN (-1)) →
      G l E d m_FN_forged 23 [(0, (.ref 0, 0)), (1, (.int x1, 0)), (2, (.int x2, 0)), (4, (.int x5, 0)), (5, (.int (x5 + iN 1), 0))] [] M2 K) ∧
     (¬ x4 = (iN (-1)) →
      CT l E (d - 1) m_FN_refuse [(.ref 0, 0), (.int (iN 6), 0)] M2 (fun v3 M3 =>
       K (.int (toI v3), 0) M3)))))))))) :
  G l E d m_FN_forged 23 [(0, (.ref 0, 0)), (1, (.int x1, 0)), (2, (.int x2, 0)), (4, (.int x4, 0)), (5, (.int x5, 0))] [] M K := G.blk 60 _ hd ok_FN_forged rfl h
def bt_FN_whose : BtT := [(0, [0, 1, 2], true, [(0, .aload_n 0, 1, 0, 0, 0, m0),
   (1, .getfield 64, 3, 9, 10, 501, m0),
   (4, .iload_n 1, 1, 0, 0, 0, m0),
   (5, .invokevirtual 272, 3, 0, 0, 999, m_Choir_lives),
   (8, .ifCond .eq 15, 3, 23, 0, 0, m0),
   (11, .nop, 0, 0, 0, 0, m0)]),
  (11, [], false, [(11, .iload_n 2, 1, 0, 0, 0, m0),
   (12, .iconst 1, 1, 0, 0, 0, m0),
   (13, .if_icmp .lt 10, 3, 23, 0, 0, m0),
   (16, .nop, 0, 0, 0, 0, m0)]),
  (16, [], false, [(16, .iload_n 2, 1, 0, 0, 0, m0),
   (17, .sipush 999, 3, 0, 0, 0, m0),
   (20, .if_icmp .le 9, 3, 29, 0, 0, m0),
   (23, .nop, 0, 0, 0, 0, m0)]),
  (23, [], false, [(23, .aload_n 0, 1, 0, 0, 0, m0),
   (24, .iconst 1, 1, 0, 0, 0, m0),
   (25, .invokevirtual 124, 3, 0, 0, 608, m_FN_refuse),
   (28, .ireturn, 1, 0, 0, 0, m0)]),
  (29, [], false, [(29, .iconst 0, 1, 0, 0, 0, m0),
   (30, .istore_n 3, 1, 0, 0, 0, m0),
   (31, .nop, 0, 0, 0, 0, m0)]),
  (31, [0, 1, 2, 3], true, [(31, .iload_n 3, 1, 0, 0, 0, m0),
   (32, .aload_n 0, 1, 0, 0, 0, m0),
   (33, .getfield 64, 3, 9, 10, 501, m0),
   (36, .getfield 221, 3, 3, 0, 271, m0),
   (39, .iload_n 1, 1, 0, 0, 0, m0),
   (40, .iaload, 1, 0, 0, 0, m0),
   (41, .if_icmp .ge 45, 3, 86, 0, 0, m0),
   (44, .nop, 0, 0, 0, 0, m0)]),
  (44, [], false, [(44, .iload_n 1, 1, 0, 0, 0, m0),
   (45, .iload_n 3, 1, 0, 0, 0, m0),
   (46, .invokestatic 251, 3, 0, 0, 974, m_Choir_slot),
   (49, .istore 4, 2, 0, 0, 0, m0),
   (51, .aload_n 0, 1, 0, 0, 0, m0),
   (52, .getfield 64, 3, 9, 10, 501, m0),
   (55, .getfield 257, 3, 6, 0, 277, m0),
   (58, .iload 4, 2, 0, 0, 0, m0),
   (60, .iaload, 1, 0, 0, 0, m0),
   (61, .iload_n 2, 1, 0, 0, 0, m0),
   (62, .if_icmp .ne 18, 3, 80, 0, 0, m0),
   (65, .nop, 0, 0, 0, 0, m0)]),
  (65, [], false, [(65, .aload_n 0, 1, 0, 0, 0, m0),
   (66, .aload_n 0, 1, 0, 0, 0, m0),
   (67, .getfield 64, 3, 9, 10, 501, m0),
   (70, .getfield 254, 3, 5, 0, 275, m0),
   (73, .iload 4, 2, 0, 0, 0, m0),
   (75, .iaload, 1, 0, 0, 0, m0),
   (76, .invokevirtual 170, 3, 0, 0, 835, m_FN_answer),
   (79, .ireturn, 1, 0, 0, 0, m0)]),
  (80, [], false, [(80, .iinc 3 1, 3, 0, 0, 0, m0),
   (83, .goto (-52), 3, 31, 0, 0, m0)]),
  (86, [], false, [(86, .aload_n 0, 1, 0, 0, 0, m0),
   (87, .bipush 6, 2, 0, 0, 0, m0),
   (89, .invokevirtual 124, 3, 0, 0, 608, m_FN_refuse),
   (92, .ireturn, 1, 0, 0, 0, m0)])]
theorem ok_FN_whose : okBt m_FN_whose bt_FN_whose = true := by decide +kernel
set_option maxRecDepth 100000 in
theorem b_FN_whose_0 {l : Launch} {E : EnvT} {d : Nat} {K : AV → Mem → Prop} {M : Mem} {x1 : Int32} {x2 : Int32} (hd : 1 ≤ d)
  (h : (((M 0 0 9).toNat, 11) ∈ CL ∧ CT l E (d - 1) m_Choir_lives [(.ref (M 0 0 9).toNat, 11), (.int x1, 0)] M (fun v1 M1 =>
   (((toI v1) = 0 →
    CT l E (d - 1) m_FN_refuse [(.ref 0, 0), (.int (iN 1), 0)] M1 (fun v2 M2 =>
     K (.int (toI v2), 0) M2)) ∧
   (¬ (toI v1) = 0 →
    ((x2 < (iN 1) →
     CT l E (d - 1) m_FN_refuse [(.ref 0, 0), (.int (iN 1), 0)] M1 (fun v3 M3 =>
      K (.int (toI v3), 0) M3)) ∧
    (¬ x2 < (iN 1) →
     ((x2 ≤ (iN 999) →
      G l E d m_FN_whose 31 [(0, (.ref 0, 0)), (1, (.int x1, 0)), (2, (.int x2, 0)), (3, (.int (iN 0), 0))] [] M1 K) ∧
     (¬ x2 ≤ (iN 999) →
      CT l E (d - 1) m_FN_refuse [(.ref 0, 0), (.int (iN 1), 0)] M1 (fun v4 M4 =>
       K (.int (toI v4), 0) M4)))))))))) :
  G l E d m_FN_whose 0 [(0, (.ref 0, 0)), (1, (.int x1, 0)), (2, (.int x2, 0))] [] M K := G.blk 60 _ hd ok_FN_whose rfl h
set_option maxRecDepth 100000 in
theorem b_FN_whose_31 {l : Launch} {E : EnvT} {d : Nat} {K : AV → Mem → Prop} {M : Mem} {x1 : Int32} {x2 : Int32} {x3 : Int32} (hd : 1 ≤ d)
  (h : (((M 0 0 9).toNat, 11) ∈ CL ∧ vp_in x1 8 ∧ (((iN (M (M 0 0 9).toNat 4 (x1).toNatClampNeg)) ≤ x3 →
   CT l E (d - 1) m_FN_refuse [(.ref 0, 0), (.int (iN 6), 0)] M (fun v1 M1 =>
    K (.int (toI v1), 0) M1)) ∧
  (¬ (iN (M (M 0 0 9).toNat 4 (x1).toNatClampNeg)) ≤ x3 →
   CT l E (d - 1) m_Choir_slot [(.int x1, 0), (.int x3, 0)] M (fun v2 M2 =>
    (((M2 0 0 9).toNat, 11) ∈ CL ∧ vp_in (toI v2) 48 ∧ ((¬ (iN (M2 (M2 0 0 9).toNat 7 ((toI v2)).toNatClampNeg)) = x2 →
     G l E d m_FN_whose 31 [(0, (.ref 0, 0)), (1, (.int x1, 0)), (2, (.int x2, 0)), (3, (.int (x3 + iN 1), 0))] [] M2 K) ∧
    ((iN (M2 (M2 0 0 9).toNat 7 ((toI v2)).toNatClampNeg)) = x2 →
     (((M2 0 0 9).toNat, 11) ∈ CL ∧ vp_in (toI v2) 48 ∧ CT l E (d - 1) m_FN_answer [(.ref 0, 0), (.int (iN (M2 (M2 0 0 9).toNat 6 ((toI v2)).toNatClampNeg)), 0)] M2 (fun v3 M3 =>
      K (.int (toI v3), 0) M3)))))))))) :
  G l E d m_FN_whose 31 [(0, (.ref 0, 0)), (1, (.int x1, 0)), (2, (.int x2, 0)), (3, (.int x3, 0))] [] M K := G.blk 60 _ hd ok_FN_whose rfl h
def bt_FN_isDebtOrNone : BtT := [(0, [0], true, [(0, .iload_n 0, 1, 0, 0, 0, m0),
   (1, .ifCond .lt 14, 3, 15, 0, 0, m0),
   (4, .nop, 0, 0, 0, 0, m0)]),
  (4, [], false, [(4, .iload_n 0, 1, 0, 0, 0, m0),
   (5, .sipush 999, 3, 0, 0, 0, m0),
   (8, .if_icmp .gt 7, 3, 15, 0, 0, m0),
   (11, .nop, 0, 0, 0, 0, m0)]),
  (11, [], false, [(11, .iconst 1, 1, 0, 0, 0, m0),
   (12, .goto 4, 3, 16, 0, 0, m0)]),
  (15, [], false, [(15, .iconst 0, 1, 0, 0, 0, m0),
   (16, .nop, 0, 0, 0, 0, m0)]),
  (16, [], false, [(16, .ireturn, 1, 0, 0, 0, m0)])]
theorem ok_FN_isDebtOrNone : okBt m_FN_isDebtOrNone bt_FN_isDebtOrNone = true := by decide +kernel
set_option maxRecDepth 100000 in
theorem b_FN_isDebtOrNone_0 {l : Launch} {E : EnvT} {d : Nat} {K : AV → Mem → Prop} {M : Mem} {x0 : Int32} (hd : 1 ≤ d)
  (h : ((x0 < 0 →
   ((((iN 0) = 0 ∨ (iN 0) = 1)) ∧ K (.int (iN 0), 0) M)) ∧
  (¬ x0 < 0 →
   (((iN 999) < x0 →
    ((((iN 0) = 0 ∨ (iN 0) = 1)) ∧ K (.int (iN 0), 0) M)) ∧
   (¬ (iN 999) < x0 →
    ((((iN 1) = 0 ∨ (iN 1) = 1)) ∧ K (.int (iN 1), 0) M)))))) :
  G l E d m_FN_isDebtOrNone 0 [(0, (.int x0, 0))] [] M K := G.blk 60 _ hd ok_FN_isDebtOrNone rfl h
def bt_FN_isSpan : BtT := [(0, [0], true, [(0, .iload_n 0, 1, 0, 0, 0, m0),
   (1, .ifCond .lt 14, 3, 15, 0, 0, m0),
   (4, .nop, 0, 0, 0, 0, m0)]),
  (4, [], false, [(4, .iload_n 0, 1, 0, 0, 0, m0),
   (5, .sipush 999, 3, 0, 0, 0, m0),
   (8, .if_icmp .gt 7, 3, 15, 0, 0, m0),
   (11, .nop, 0, 0, 0, 0, m0)]),
  (11, [], false, [(11, .iconst 1, 1, 0, 0, 0, m0),
   (12, .goto 4, 3, 16, 0, 0, m0)]),
  (15, [], false, [(15, .iconst 0, 1, 0, 0, 0, m0),
   (16, .nop, 0, 0, 0, 0, m0)]),
  (16, [], false, [(16, .ireturn, 1, 0, 0, 0, m0)])]
theorem ok_FN_isSpan : okBt m_FN_isSpan bt_FN_isSpan = true := by decide +kernel
set_option maxRecDepth 100000 in
theorem b_FN_isSpan_0 {l : Launch} {E : EnvT} {d : Nat} {K : AV → Mem → Prop} {M : Mem} {x0 : Int32} (hd : 1 ≤ d)
  (h : ((x0 < 0 →
   ((((iN 0) = 0 ∨ (iN 0) = 1)) ∧ K (.int (iN 0), 0) M)) ∧
  (¬ x0 < 0 →
   (((iN 999) < x0 →
    ((((iN 0) = 0 ∨ (iN 0) = 1)) ∧ K (.int (iN 0), 0) M)) ∧
   (¬ (iN 999) < x0 →
    ((((iN 1) = 0 ∨ (iN 1) = 1)) ∧ K (.int (iN 1), 0) M)))))) :
  G l E d m_FN_isSpan 0 [(0, (.int x0, 0))] [] M K := G.blk 60 _ hd ok_FN_isSpan rfl h
def bt_FN_grows : BtT := [(0, [0, 1, 2], true, [(0, .iload_n 1, 1, 0, 0, 0, m0),
   (1, .invokestatic 372, 3, 0, 0, 1330, m_FN_isDebtOrNone),
   (4, .ifCond .eq 10, 3, 14, 0, 0, m0),
   (7, .nop, 0, 0, 0, 0, m0)]),
  (7, [], false, [(7, .iload_n 2, 1, 0, 0, 0, m0),
   (8, .invokestatic 375, 3, 0, 0, 1333, m_FN_isSpan),
   (11, .ifCond .ne 9, 3, 20, 0, 0, m0),
   (14, .nop, 0, 0, 0, 0, m0)]),
  (14, [], false, [(14, .aload_n 0, 1, 0, 0, 0, m0),
   (15, .iconst 1, 1, 0, 0, 0, m0),
   (16, .invokevirtual 124, 3, 0, 0, 608, m_FN_refuse),
   (19, .ireturn, 1, 0, 0, 0, m0)]),
  (20, [], false, [(20, .aload_n 0, 1, 0, 0, 0, m0),
   (21, .aload_n 0, 1, 0, 0, 0, m0),
   (22, .getfield 64, 3, 9, 10, 501, m0),
   (25, .iload_n 1, 1, 0, 0, 0, m0),
   (26, .iload_n 2, 1, 0, 0, 0, m0),
   (27, .invokevirtual 378, 3, 0, 0, 1336, m_Choir_grownIn),
   (30, .invokevirtual 170, 3, 0, 0, 835, m_FN_answer),
   (33, .ireturn, 1, 0, 0, 0, m0)])]
theorem ok_FN_grows : okBt m_FN_grows bt_FN_grows = true := by decide +kernel
set_option maxRecDepth 100000 in
theorem b_FN_grows_0 {l : Launch} {E : EnvT} {d : Nat} {K : AV → Mem → Prop} {M : Mem} {x1 : Int32} {x2 : Int32} (hd : 1 ≤ d)
  (h : CT l E (d - 1) m_FN_isDebtOrNone [(.int x1, 0)] M (fun v1 M1 =>
   (((toI v1) = 0 →
    CT l E (d - 1) m_FN_refuse [(.ref 0, 0), (.int (iN 1), 0)] M1 (fun v2 M2 =>
     K (.int (toI v2), 0) M2)) ∧
   (¬ (toI v1) = 0 →
    CT l E (d - 1) m_FN_isSpan [(.int x2, 0)] M1 (fun v3 M3 =>
     ((¬ (toI v3) = 0 →
      (((M3 0 0 9).toNat, 11) ∈ CL ∧ CT l E (d - 1) m_Choir_grownIn [(.ref (M3 0 0 9).toNat, 11), (.int x1, 0), (.int x2, 0)] M3 (fun v4 M4 =>
       CT l E (d - 1) m_FN_answer [(.ref 0, 0), (.int (toI v4), 0)] M4 (fun v5 M5 =>
        K (.int (toI v5), 0) M5)))) ∧
     ((toI v3) = 0 →
      CT l E (d - 1) m_FN_refuse [(.ref 0, 0), (.int (iN 1), 0)] M3 (fun v6 M6 =>
       K (.int (toI v6), 0) M6)))))))) :
  G l E d m_FN_grows 0 [(0, (.ref 0, 0)), (1, (.int x1, 0)), (2, (.int x2, 0))] [] M K := G.blk 60 _ hd ok_FN_grows rfl h
def bt_FN_before : BtT := [(0, [0, 1, 2], true, [(0, .iload_n 1, 1, 0, 0, 0, m0),
   (1, .invokestatic 372, 3, 0, 0, 1330, m_FN_isDebtOrNone),
   (4, .ifCond .eq 10, 3, 14, 0, 0, m0),
   (7, .nop, 0, 0, 0, 0, m0)]),
  (7, [], false, [(7, .iload_n 2, 1, 0, 0, 0, m0),
   (8, .invokestatic 375, 3, 0, 0, 1333, m_FN_isSpan),
   (11, .ifCond .ne 9, 3, 20, 0, 0, m0),
   (14, .nop, 0, 0, 0, 0, m0)]),
  (14, [], false, [(14, .aload_n 0, 1, 0, 0, 0, m0),
   (15, .iconst 1, 1, 0, 0, 0, m0),
   (16, .invokevirtual 124, 3, 0, 0, 608, m_FN_refuse),
   (19, .ireturn, 1, 0, 0, 0, m0)]),
  (20, [], false, [(20, .iconst 0, 1, 0, 0, 0, m0),
   (21, .istore_n 3, 1, 0, 0, 0, m0),
   (22, .sipush 999, 3, 0, 0, 0, m0),
   (25, .istore 4, 2, 0, 0, 0, m0),
   (27, .iconst 0, 1, 0, 0, 0, m0),
   (28, .istore 5, 2, 0, 0, 0, m0),
   (30, .nop, 0, 0, 0, 0, m0)]),
  (30, [0, 1, 2, 3, 4, 5], true, [(30, .iload 5, 2, 0, 0, 0, m0),
   (32, .bipush 32, 2, 0, 0, 0, m0),
   (34, .if_icmp .ge 49, 3, 83, 0, 0, m0),
   (37, .nop, 0, 0, 0, 0, m0)]),
  (37, [], false, [(37, .iload_n 3, 1, 0, 0, 0, m0),
   (38, .iload 4, 2, 0, 0, 0, m0),
   (40, .if_icmp .ge 43, 3, 83, 0, 0, m0),
   (43, .nop, 0, 0, 0, 0, m0)]),
  (43, [], false, [(43, .iload_n 3, 1, 0, 0, 0, m0),
   (44, .iload 4, 2, 0, 0, 0, m0),
   (46, .iadd, 1, 0, 0, 0, m0),
   (47, .iconst 2, 1, 0, 0, 0, m0),
   (48, .idiv, 1, 0, 0, 0, m0),
   (49, .istore 6, 2, 0, 0, 0, m0),
   (51, .aload_n 0, 1, 0, 0, 0, m0),
   (52, .getfield 64, 3, 9, 10, 501, m0),
   (55, .iload 6, 2, 0, 0, 0, m0),
   (57, .iload_n 2, 1, 0, 0, 0, m0),
   (58, .invokevirtual 378, 3, 0, 0, 1336, m_Choir_grownIn),
   (61, .iload_n 1, 1, 0, 0, 0, m0),
   (62, .if_icmp .lt 10, 3, 72, 0, 0, m0),
   (65, .nop, 0, 0, 0, 0, m0)]),
  (65, [], false, [(65, .iload 6, 2, 0, 0, 0, m0),
   (67, .istore 4, 2, 0, 0, 0, m0),
   (69, .goto 8, 3, 77, 0, 0, m0)]),
  (72, [], false, [(72, .iload 6, 2, 0, 0, 0, m0),
   (74, .iconst 1, 1, 0, 0, 0, m0),
   (75, .iadd, 1, 0, 0, 0, m0),
   (76, .istore_n 3, 1, 0, 0, 0, m0),
   (77, .nop, 0, 0, 0, 0, m0)]),
  (77, [], false, [(77, .iinc 5 1, 3, 0, 0, 0, m0),
   (80, .goto (-50), 3, 30, 0, 0, m0)]),
  (83, [], false, [(83, .aload_n 0, 1, 0, 0, 0, m0),
   (84, .iload_n 3, 1, 0, 0, 0, m0),
   (85, .invokevirtual 170, 3, 0, 0, 835, m_FN_answer),
   (88, .ireturn, 1, 0, 0, 0, m0)])]
theorem ok_FN_before : okBt m_FN_before bt_FN_before = true := by decide +kernel
set_option maxRecDepth 100000 in
theorem b_FN_before_0 {l : Launch} {E : EnvT} {d : Nat} {K : AV → Mem → Prop} {M : Mem} {x1 : Int32} {x2 : Int32} (hd : 1 ≤ d)
  (h : CT l E (d - 1) m_FN_isDebtOrNone [(.int x1, 0)] M (fun v1 M1 =>
   (((toI v1) = 0 →
    CT l E (d - 1) m_FN_refuse [(.ref 0, 0), (.int (iN 1), 0)] M1 (fun v2 M2 =>
     K (.int (toI v2), 0) M2)) ∧
   (¬ (toI v1) = 0 →
    CT l E (d - 1) m_FN_isSpan [(.int x2, 0)] M1 (fun v3 M3 =>
     ((¬ (toI v3) = 0 →
      G l E d m_FN_before 30 [(0, (.ref 0, 0)), (1, (.int x1, 0)), (2, (.int x2, 0)), (3, (.int (iN 0), 0)), (4, (.int (iN 999), 0)), (5, (.int (iN 0), 0))] [] M3 K) ∧
     ((toI v3) = 0 →
      CT l E (d - 1) m_FN_refuse [(.ref 0, 0), (.int (iN 1), 0)] M3 (fun v4 M4 =>
       K (.int (toI v4), 0) M4)))))))) :
  G l E d m_FN_before 0 [(0, (.ref 0, 0)), (1, (.int x1, 0)), (2, (.int x2, 0))] [] M K := G.blk 60 _ hd ok_FN_before rfl h
set_option maxRecDepth 100000 in
theorem b_FN_before_30 {l : Launch} {E : EnvT} {d : Nat} {K : AV → Mem → Prop} {M : Mem} {x1 : Int32} {x2 : Int32} {x3 : Int32} {x4 : Int32} {x5 : Int32} (hd : 1 ≤ d)
  (h : (((iN 32) ≤ x5 →
   CT l E (d - 1) m_FN_answer [(.ref 0, 0), (.int x3, 0)] M (fun v1 M1 =>
    K (.int (toI v1), 0) M1)) ∧
  (¬ (iN 32) ≤ x5 →
   ((x4 ≤ x3 →
    CT l E (d - 1) m_FN_answer [(.ref 0, 0), (.int x3, 0)] M (fun v2 M2 =>
     K (.int (toI v2), 0) M2)) ∧
   (¬ x4 ≤ x3 →
    (¬ (iN 2) = 0 ∧ ((M 0 0 9).toNat, 11) ∈ CL ∧ CT l E (d - 1) m_Choir_grownIn [(.ref (M 0 0 9).toNat, 11), (.int ((x3 + x4) / (iN 2)), 0), (.int x2, 0)] M (fun v3 M3 =>
     (((toI v3) < x1 →
      G l E d m_FN_before 30 [(0, (.ref 0, 0)), (1, (.int x1, 0)), (2, (.int x2, 0)), (3, (.int (((x3 + x4) / (iN 2)) + (iN 1)), 0)), (4, (.int x4, 0)), (5, (.int (x5 + iN 1), 0))] [] M3 K) ∧
     (¬ (toI v3) < x1 →
      G l E d m_FN_before 30 [(0, (.ref 0, 0)), (1, (.int x1, 0)), (2, (.int x2, 0)), (3, (.int x3, 0)), (4, (.int ((x3 + x4) / (iN 2)), 0)), (5, (.int (x5 + iN 1), 0))] [] M3 K))))))))) :
  G l E d m_FN_before 30 [(0, (.ref 0, 0)), (1, (.int x1, 0)), (2, (.int x2, 0)), (3, (.int x3, 0)), (4, (.int x4, 0)), (5, (.int x5, 0))] [] M K := G.blk 60 _ hd ok_FN_before rfl h
def bt_FN_when : BtT := [(0, [0, 1, 2], true, [(0, .iload_n 1, 1, 0, 0, 0, m0),
   (1, .invokestatic 372, 3, 0, 0, 1330, m_FN_isDebtOrNone),
   (4, .ifCond .eq 10, 3, 14, 0, 0, m0),
   (7, .nop, 0, 0, 0, 0, m0)]),
  (7, [], false, [(7, .iload_n 2, 1, 0, 0, 0, m0),
   (8, .invokestatic 372, 3, 0, 0, 1330, m_FN_isDebtOrNone),
   (11, .ifCond .ne 9, 3, 20, 0, 0, m0),
   (14, .nop, 0, 0, 0, 0, m0)]),
  (14, [], false, [(14, .aload_n 0, 1, 0, 0, 0, m0),
   (15, .iconst 1, 1, 0, 0, 0, m0),
   (16, .invokevirtual 124, 3, 0, 0, 608, m_FN_refuse),
   (19, .ireturn, 1, 0, 0, 0, m0)]),
  (20, [], false, [(20, .iload_n 1, 1, 0, 0, 0, m0),
   (21, .istore_n 3, 1, 0, 0, 0, m0),
   (22, .iconst 0, 1, 0, 0, 0, m0),
   (23, .istore 4, 2, 0, 0, 0, m0),
   (25, .nop, 0, 0, 0, 0, m0)]),
  (25, [0, 2, 3, 4], true, [(25, .iload 4, 2, 0, 0, 0, m0),
   (27, .sipush 999, 3, 0, 0, 0, m0),
   (30, .if_icmp .gt 30, 3, 60, 0, 0, m0),
   (33, .nop, 0, 0, 0, 0, m0)]),
  (33, [], false, [(33, .iload_n 3, 1, 0, 0, 0, m0),
   (34, .iload_n 2, 1, 0, 0, 0, m0),
   (35, .if_icmp .lt 10, 3, 45, 0, 0, m0),
   (38, .nop, 0, 0, 0, 0, m0)]),
  (38, [], false, [(38, .aload_n 0, 1, 0, 0, 0, m0),
   (39, .iload 4, 2, 0, 0, 0, m0),
   (41, .invokevirtual 170, 3, 0, 0, 835, m_FN_answer),
   (44, .ireturn, 1, 0, 0, 0, m0)]),
  (45, [], false, [(45, .aload_n 0, 1, 0, 0, 0, m0),
   (46, .getfield 64, 3, 9, 10, 501, m0),
   (49, .iload_n 3, 1, 0, 0, 0, m0),
   (50, .invokevirtual 381, 3, 0, 0, 1345, m_Choir_grown),
   (53, .istore_n 3, 1, 0, 0, 0, m0),
   (54, .iinc 4 1, 3, 0, 0, 0, m0),
   (57, .goto (-32), 3, 25, 0, 0, m0)]),
  (60, [], false, [(60, .aload_n 0, 1, 0, 0, 0, m0),
   (61, .bipush 6, 2, 0, 0, 0, m0),
   (63, .invokevirtual 124, 3, 0, 0, 608, m_FN_refuse),
   (66, .ireturn, 1, 0, 0, 0, m0)])]
theorem ok_FN_when : okBt m_FN_when bt_FN_when = true := by decide +kernel
set_option maxRecDepth 100000 in
theorem b_FN_when_0 {l : Launch} {E : EnvT} {d : Nat} {K : AV → Mem → Prop} {M : Mem} {x1 : Int32} {x2 : Int32} (hd : 1 ≤ d)
  (h : CT l E (d - 1) m_FN_isDebtOrNone [(.int x1, 0)] M (fun v1 M1 =>
   (((toI v1) = 0 →
    CT l E (d - 1) m_FN_refuse [(.ref 0, 0), (.int (iN 1), 0)] M1 (fun v2 M2 =>
     K (.int (toI v2), 0) M2)) ∧
   (¬ (toI v1) = 0 →
    CT l E (d - 1) m_FN_isDebtOrNone [(.int x2, 0)] M1 (fun v3 M3 =>
     ((¬ (toI v3) = 0 →
      G l E d m_FN_when 25 [(0, (.ref 0, 0)), (2, (.int x2, 0)), (3, (.int x1, 0)), (4, (.int (iN 0), 0))] [] M3 K) ∧
     ((toI v3) = 0 →
      CT l E (d - 1) m_FN_refuse [(.ref 0, 0), (.int (iN 1), 0)] M3 (fun v4 M4 =>
       K (.int (toI v4), 0) M4)))))))) :
  G l E d m_FN_when 0 [(0, (.ref 0, 0)), (1, (.int x1, 0)), (2, (.int x2, 0))] [] M K := G.blk 60 _ hd ok_FN_when rfl h
set_option maxRecDepth 100000 in
theorem b_FN_when_25 {l : Launch} {E : EnvT} {d : Nat} {K : AV → Mem → Prop} {M : Mem} {x2 : Int32} {x3 : Int32} {x4 : Int32} (hd : 1 ≤ d)
  (h : (((iN 999) < x4 →
   CT l E (d - 1) m_FN_refuse [(.ref 0, 0), (.int (iN 6), 0)] M (fun v1 M1 =>
    K (.int (toI v1), 0) M1)) ∧
  (¬ (iN 999) < x4 →
   ((x3 < x2 →
    (((M 0 0 9).toNat, 11) ∈ CL ∧ CT l E (d - 1) m_Choir_grown [(.ref (M 0 0 9).toNat, 11), (.int x3, 0)] M (fun v2 M2 =>
     G l E d m_FN_when 25 [(0, (.ref 0, 0)), (2, (.int x2, 0)), (3, (.int (toI v2), 0)), (4, (.int (x4 + iN 1), 0))] [] M2 K))) ∧
   (¬ x3 < x2 →
    CT l E (d - 1) m_FN_answer [(.ref 0, 0), (.int x4, 0)] M (fun v3 M3 =>
     K (.int (toI v3), 0) M3)))))) :
  G l E d m_FN_when 25 [(0, (.ref 0, 0)), (2, (.int x2, 0)), (3, (.int x3, 0)), (4, (.int x4, 0))] [] M K := G.blk 60 _ hd ok_FN_when rfl h
def bt_FN_owedIn : BtT := [(0, [0, 1], true, [(0, .iload_n 1, 1, 0, 0, 0, m0),
   (1, .invokestatic 375, 3, 0, 0, 1333, m_FN_isSpan),
   (4, .ifCond .ne 9, 3, 13, 0, 0, m0),
   (7, .nop, 0, 0, 0, 0, m0)]),
  (7, [], false, [(7, .aload_n 0, 1, 0, 0, 0, m0),
   (8, .iconst 1, 1, 0, 0, 0, m0),
   (9, .invokevirtual 124, 3, 0, 0, 608, m_FN_refuse),
   (12, .ireturn, 1, 0, 0, 0, m0)]),
  (13, [], false, [(13, .aload_n 0, 1, 0, 0, 0, m0),
   (14, .aload_n 0, 1, 0, 0, 0, m0),
   (15, .getfield 64, 3, 9, 10, 501, m0),
   (18, .iload_n 1, 1, 0, 0, 0, m0),
   (19, .invokevirtual 384, 3, 0, 0, 1350, m_Choir_allOwedIn),
   (22, .invokevirtual 170, 3, 0, 0, 835, m_FN_answer),
   (25, .ireturn, 1, 0, 0, 0, m0)])]
theorem ok_FN_owedIn : okBt m_FN_owedIn bt_FN_owedIn = true := by decide +kernel
set_option maxRecDepth 100000 in
theorem b_FN_owedIn_0 {l : Launch} {E : EnvT} {d : Nat} {K : AV → Mem → Prop} {M : Mem} {x1 : Int32} (hd : 1 ≤ d)
  (h : CT l E (d - 1) m_FN_isSpan [(.int x1, 0)] M (fun v1 M1 =>
   ((¬ (toI v1) = 0 →
    (((M1 0 0 9).toNat, 11) ∈ CL ∧ CT l E (d - 1) m_Choir_allOwedIn [(.ref (M1 0 0 9).toNat, 11), (.int x1, 0)] M1 (fun v2 M2 =>
     CT l E (d - 1) m_FN_answer [(.ref 0, 0), (.int (toI v2), 0)] M2 (fun v3 M3 =>
      K (.int (toI v3), 0) M3)))) ∧
   ((toI v1) = 0 →
    CT l E (d - 1) m_FN_refuse [(.ref 0, 0), (.int (iN 1), 0)] M1 (fun v4 M4 =>
     K (.int (toI v4), 0) M4))))) :
  G l E d m_FN_owedIn 0 [(0, (.ref 0, 0)), (1, (.int x1, 0))] [] M K := G.blk 60 _ hd ok_FN_owedIn rfl h
def bt_FN_live : BtT := [(0, [0, 1], true, [(0, .iload_n 1, 1, 0, 0, 0, m0),
   (1, .ifCond .lt 10, 3, 11, 0, 0, m0),
   (4, .nop, 0, 0, 0, 0, m0)]),
  (4, [], false, [(4, .iload_n 1, 1, 0, 0, 0, m0),
   (5, .sipush 9999, 3, 0, 0, 0, m0),
   (8, .if_icmp .le 9, 3, 17, 0, 0, m0),
   (11, .nop, 0, 0, 0, 0, m0)]),
  (11, [], false, [(11, .aload_n 0, 1, 0, 0, 0, m0),
   (12, .iconst 1, 1, 0, 0, 0, m0),
   (13, .invokevirtual 124, 3, 0, 0, 608, m_FN_refuse),
   (16, .ireturn, 1, 0, 0, 0, m0)]),
  (17, [], false, [(17, .aload_n 0, 1, 0, 0, 0, m0),
   (18, .getfield 73, 3, 11, 10, 503, m0),
   (21, .getfield 387, 3, 8, 8, 366, m0),
   (24, .ifCond .ne 10, 3, 34, 0, 0, m0),
   (27, .nop, 0, 0, 0, 0, m0)]),
  (27, [], false, [(27, .aload_n 0, 1, 0, 0, 0, m0),
   (28, .bipush 6, 2, 0, 0, 0, m0),
   (30, .invokevirtual 124, 3, 0, 0, 608, m_FN_refuse),
   (33, .ireturn, 1, 0, 0, 0, m0)]),
  (34, [], false, [(34, .aload_n 0, 1, 0, 0, 0, m0),
   (35, .getfield 50, 3, 6, 10, 498, m0),
   (38, .aload_n 0, 1, 0, 0, 0, m0),
   (39, .getfield 73, 3, 11, 10, 503, m0),
   (42, .aload_n 0, 1, 0, 0, 0, m0),
   (43, .getfield 64, 3, 9, 10, 501, m0),
   (46, .iload_n 1, 1, 0, 0, 0, m0),
   (47, .invokevirtual 391, 3, 0, 0, 1355, m_Life_run),
   (50, .aload_n 0, 1, 0, 0, 0, m0),
   (51, .aload_n 0, 1, 0, 0, 0, m0),
   (52, .getfield 50, 3, 6, 10, 498, m0),
   (55, .getfield 395, 3, 2, 2, 439, m0),
   (58, .invokevirtual 170, 3, 0, 0, 835, m_FN_answer),
   (61, .ireturn, 1, 0, 0, 0, m0)])]
theorem ok_FN_live : okBt m_FN_live bt_FN_live = true := by decide +kernel
set_option maxRecDepth 100000 in
theorem b_FN_live_0 {l : Launch} {E : EnvT} {d : Nat} {K : AV → Mem → Prop} {M : Mem} {x1 : Int32} (hd : 1 ≤ d)
  (h : ((x1 < 0 →
   CT l E (d - 1) m_FN_refuse [(.ref 0, 0), (.int (iN 1), 0)] M (fun v1 M1 =>
    K (.int (toI v1), 0) M1)) ∧
  (¬ x1 < 0 →
   ((x1 ≤ (iN 9999) →
    (((M 0 0 11).toNat, 23) ∈ CL ∧ ((¬ (iN (M (M 0 0 11).toNat 0 8)) = 0 →
     (((M 0 0 11).toNat, 23) ∈ CL ∧ ((M 0 0 9).toNat, 11) ∈ CL ∧ CT l E (d - 1) m_Life_run [(.ref 13, 37), (.ref (M 0 0 11).toNat, 23), (.ref (M 0 0 9).toNat, 11), (.int x1, 0)] M (fun v2 M2 =>
      CT l E (d - 1) m_FN_answer [(.ref 0, 0), (.int (iN (M2 13 0 2)), 0)] M2 (fun v3 M3 =>
       K (.int (toI v3), 0) M3)))) ∧
    ((iN (M (M 0 0 11).toNat 0 8)) = 0 →
     CT l E (d - 1) m_FN_refuse [(.ref 0, 0), (.int (iN 6), 0)] M (fun v4 M4 =>
      K (.int (toI v4), 0) M4))))) ∧
   (¬ x1 ≤ (iN 9999) →
    CT l E (d - 1) m_FN_refuse [(.ref 0, 0), (.int (iN 1), 0)] M (fun v5 M5 =>
     K (.int (toI v5), 0) M5)))))) :
  G l E d m_FN_live 0 [(0, (.ref 0, 0)), (1, (.int x1, 0))] [] M K := G.blk 60 _ hd ok_FN_live rfl h
def bt_FN_lived : BtT := [(0, [0, 1], true, [(0, .iload_n 1, 1, 0, 0, 0, m0),
   (1, .ifCond .lt 8, 3, 9, 0, 0, m0),
   (4, .nop, 0, 0, 0, 0, m0)]),
  (4, [], false, [(4, .iload_n 1, 1, 0, 0, 0, m0),
   (5, .iconst 4, 1, 0, 0, 0, m0),
   (6, .if_icmp .le 9, 3, 15, 0, 0, m0),
   (9, .nop, 0, 0, 0, 0, m0)]),
  (9, [], false, [(9, .aload_n 0, 1, 0, 0, 0, m0),
   (10, .iconst 1, 1, 0, 0, 0, m0),
   (11, .invokevirtual 124, 3, 0, 0, 608, m_FN_refuse),
   (14, .ireturn, 1, 0, 0, 0, m0)]),
  (15, [], false, [(15, .aload_n 0, 1, 0, 0, 0, m0),
   (16, .getfield 50, 3, 6, 10, 498, m0),
   (19, .getfield 396, 3, 1, 2, 437, m0),
   (22, .ifCond .ne 10, 3, 32, 0, 0, m0),
   (25, .nop, 0, 0, 0, 0, m0)]),
  (25, [], false, [(25, .aload_n 0, 1, 0, 0, 0, m0),
   (26, .bipush 6, 2, 0, 0, 0, m0),
   (28, .invokevirtual 124, 3, 0, 0, 608, m_FN_refuse),
   (31, .ireturn, 1, 0, 0, 0, m0)]),
  (32, [], false, [(32, .iload_n 1, 1, 0, 0, 0, m0),
   (33, .tableswitch 79 0 3 #[31, 43, 55, 67], 31, 0, 0, 0, m0)]),
  (64, [], false, [(64, .aload_n 0, 1, 0, 0, 0, m0),
   (65, .aload_n 0, 1, 0, 0, 0, m0),
   (66, .getfield 50, 3, 6, 10, 498, m0),
   (69, .getfield 399, 3, 3, 2, 441, m0),
   (72, .invokevirtual 170, 3, 0, 0, 835, m_FN_answer),
   (75, .ireturn, 1, 0, 0, 0, m0)]),
  (76, [], false, [(76, .aload_n 0, 1, 0, 0, 0, m0),
   (77, .aload_n 0, 1, 0, 0, 0, m0),
   (78, .getfield 50, 3, 6, 10, 498, m0),
   (81, .getfield 402, 3, 4, 2, 443, m0),
   (84, .invokevirtual 170, 3, 0, 0, 835, m_FN_answer),
   (87, .ireturn, 1, 0, 0, 0, m0)]),
  (88, [], false, [(88, .aload_n 0, 1, 0, 0, 0, m0),
   (89, .aload_n 0, 1, 0, 0, 0, m0),
   (90, .getfield 50, 3, 6, 10, 498, m0),
   (93, .getfield 405, 3, 5, 2, 445, m0),
   (96, .invokevirtual 170, 3, 0, 0, 835, m_FN_answer),
   (99, .ireturn, 1, 0, 0, 0, m0)]),
  (100, [], false, [(100, .aload_n 0, 1, 0, 0, 0, m0),
   (101, .aload_n 0, 1, 0, 0, 0, m0),
   (102, .getfield 50, 3, 6, 10, 498, m0),
   (105, .getfield 406, 3, 6, 2, 447, m0),
   (108, .invokevirtual 170, 3, 0, 0, 835, m_FN_answer),
   (111, .ireturn, 1, 0, 0, 0, m0)]),
  (112, [], false, [(112, .aload_n 0, 1, 0, 0, 0, m0),
   (113, .aload_n 0, 1, 0, 0, 0, m0),
   (114, .getfield 50, 3, 6, 10, 498, m0),
   (117, .getfield 409, 3, 7, 2, 449, m0),
   (120, .invokevirtual 170, 3, 0, 0, 835, m_FN_answer),
   (123, .ireturn, 1, 0, 0, 0, m0)])]
theorem ok_FN_lived : okBt m_FN_lived bt_FN_lived = true := by decide +kernel
set_option maxRecDepth 100000 in
theorem b_FN_lived_0 {l : Launch} {E : EnvT} {d : Nat} {K : AV → Mem → Prop} {M : Mem} {x1 : Int32} (hd : 1 ≤ d)
  (h : ((x1 < 0 →
   CT l E (d - 1) m_FN_refuse [(.ref 0, 0), (.int (iN 1), 0)] M (fun v1 M1 =>
    K (.int (toI v1), 0) M1)) ∧
  (¬ x1 < 0 →
   ((x1 ≤ (iN 4) →
    ((¬ (iN (M 13 0 1)) = 0 →
     ((x1 = iN 0 →
      CT l E (d - 1) m_FN_answer [(.ref 0, 0), (.int (iN (M 13 0 3)), 0)] M (fun v6 M6 =>
       K (.int (toI v6), 0) M6)) ∧
     (¬ x1 = iN 0 →
      ((x1 = iN 1 →
      CT l E (d - 1) m_FN_answer [(.ref 0, 0), (.int (iN (M 13 0 4)), 0)] M (fun v5 M5 =>
       K (.int (toI v5), 0) M5)) ∧
     (¬ x1 = iN 1 →
      ((x1 = iN 2 →
      CT l E (d - 1) m_FN_answer [(.ref 0, 0), (.int (iN (M 13 0 5)), 0)] M (fun v4 M4 =>
       K (.int (toI v4), 0) M4)) ∧
     (¬ x1 = iN 2 →
      ((x1 = iN 3 →
      CT l E (d - 1) m_FN_answer [(.ref 0, 0), (.int (iN (M 13 0 6)), 0)] M (fun v3 M3 =>
       K (.int (toI v3), 0) M3)) ∧
     (¬ x1 = iN 3 →
      CT l E (d - 1) m_FN_answer [(.ref 0, 0), (.int (iN (M 13 0 7)), 0)] M (fun v2 M2 =>
       K (.int (toI v2), 0) M2)))))))))) ∧
    ((iN (M 13 0 1)) = 0 →
     CT l E (d - 1) m_FN_refuse [(.ref 0, 0), (.int (iN 6), 0)] M (fun v7 M7 =>
      K (.int (toI v7), 0) M7)))) ∧
   (¬ x1 ≤ (iN 4) →
    CT l E (d - 1) m_FN_refuse [(.ref 0, 0), (.int (iN 1), 0)] M (fun v8 M8 =>
     K (.int (toI v8), 0) M8)))))) :
  G l E d m_FN_lived 0 [(0, (.ref 0, 0)), (1, (.int x1, 0))] [] M K := G.blk 60 _ hd ok_FN_lived rfl h
def bt_FN_mean : BtT := [(0, [0, 1, 2], true, [(0, .iload_n 1, 1, 0, 0, 0, m0),
   (1, .ifCond .lt 32, 3, 33, 0, 0, m0),
   (4, .nop, 0, 0, 0, 0, m0)]),
  (4, [], false, [(4, .iload_n 1, 1, 0, 0, 0, m0),
   (5, .sipush 9999, 3, 0, 0, 0, m0),
   (8, .if_icmp .gt 25, 3, 33, 0, 0, m0),
   (11, .nop, 0, 0, 0, 0, m0)]),
  (11, [], false, [(11, .iload_n 2, 1, 0, 0, 0, m0),
   (12, .iconst 1, 1, 0, 0, 0, m0),
   (13, .if_icmp .lt 20, 3, 33, 0, 0, m0),
   (16, .nop, 0, 0, 0, 0, m0)]),
  (16, [], false, [(16, .iload_n 2, 1, 0, 0, 0, m0),
   (17, .bipush 20, 2, 0, 0, 0, m0),
   (19, .if_icmp .gt 14, 3, 33, 0, 0, m0),
   (22, .nop, 0, 0, 0, 0, m0)]),
  (22, [], false, [(22, .iload_n 1, 1, 0, 0, 0, m0),
   (23, .iload_n 2, 1, 0, 0, 0, m0),
   (24, .iadd, 1, 0, 0, 0, m0),
   (25, .iconst 1, 1, 0, 0, 0, m0),
   (26, .isub, 1, 0, 0, 0, m0),
   (27, .sipush 9999, 3, 0, 0, 0, m0),
   (30, .if_icmp .le 9, 3, 39, 0, 0, m0),
   (33, .nop, 0, 0, 0, 0, m0)]),
  (33, [], false, [(33, .aload_n 0, 1, 0, 0, 0, m0),
   (34, .iconst 1, 1, 0, 0, 0, m0),
   (35, .invokevirtual 105, 3, 0, 0, 569, m_FN_deny),
   (38, .ireturn, 1, 0, 0, 0, m0)]),
  (39, [], false, [(39, .aload_n 0, 1, 0, 0, 0, m0),
   (40, .getfield 73, 3, 11, 10, 503, m0),
   (43, .getfield 387, 3, 8, 8, 366, m0),
   (46, .ifCond .ne 10, 3, 56, 0, 0, m0),
   (49, .nop, 0, 0, 0, 0, m0)]),
  (49, [], false, [(49, .aload_n 0, 1, 0, 0, 0, m0),
   (50, .bipush 6, 2, 0, 0, 0, m0),
   (52, .invokevirtual 105, 3, 0, 0, 569, m_FN_deny),
   (55, .ireturn, 1, 0, 0, 0, m0)]),
  (56, [], false, [(56, .lconst 0, 1, 0, 0, 0, m0),
   (57, .lstore_n 3, 1, 0, 0, 0, m0),
   (58, .iconst 0, 1, 0, 0, 0, m0),
   (59, .istore 5, 2, 0, 0, 0, m0),
   (61, .nop, 0, 0, 0, 0, m0)]),
  (61, [0, 1, 2, 3, 5], true, [(61, .iload 5, 2, 0, 0, 0, m0),
   (63, .iload_n 2, 1, 0, 0, 0, m0),
   (64, .if_icmp .ge 50, 3, 114, 0, 0, m0),
   (67, .nop, 0, 0, 0, 0, m0)]),
  (67, [], false, [(67, .aload_n 0, 1, 0, 0, 0, m0),
   (68, .getfield 60, 3, 8, 10, 500, m0),
   (71, .aload_n 0, 1, 0, 0, 0, m0),
   (72, .getfield 64, 3, 9, 10, 501, m0),
   (75, .invokevirtual 412, 3, 0, 0, 1405, m_Choir_takeFrom),
   (78, .aload_n 0, 1, 0, 0, 0, m0),
   (79, .getfield 54, 3, 7, 10, 499, m0),
   (82, .aload_n 0, 1, 0, 0, 0, m0),
   (83, .getfield 73, 3, 11, 10, 503, m0),
   (86, .aload_n 0, 1, 0, 0, 0, m0),
   (87, .getfield 60, 3, 8, 10, 500, m0),
   (90, .iload_n 1, 1, 0, 0, 0, m0),
   (91, .iload 5, 2, 0, 0, 0, m0),
   (93, .iadd, 1, 0, 0, 0, m0),
   (94, .invokevirtual 391, 3, 0, 0, 1355, m_Life_run),
   (97, .lload_n 3, 1, 0, 0, 0, m0),
   (98, .aload_n 0, 1, 0, 0, 0, m0),
   (99, .getfield 60, 3, 8, 10, 500, m0),
   (102, .invokevirtual 199, 3, 0, 0, 916, m_Choir_allOwed),
   (105, .i2l, 1, 0, 0, 0, m0),
   (106, .ladd, 1, 0, 0, 0, m0),
   (107, .lstore_n 3, 1, 0, 0, 0, m0),
   (108, .iinc 5 1, 3, 0, 0, 0, m0),
   (111, .goto (-50), 3, 61, 0, 0, m0)]),
  (114, [], false, [(114, .aload_n 0, 1, 0, 0, 0, m0),
   (115, .lload_n 3, 1, 0, 0, 0, m0),
   (116, .iload_n 2, 1, 0, 0, 0, m0),
   (117, .i2l, 1, 0, 0, 0, m0),
   (118, .invokevirtual 336, 3, 0, 0, 1216, m_FN_tellFraction),
   (121, .aload_n 0, 1, 0, 0, 0, m0),
   (122, .invokevirtual 112, 3, 0, 0, 580, m_FN_agree),
   (125, .ireturn, 1, 0, 0, 0, m0)])]
theorem ok_FN_mean : okBt m_FN_mean bt_FN_mean = true := by decide +kernel
set_option maxRecDepth 100000 in
theorem b_FN_mean_0 {l : Launch} {E : EnvT} {d : Nat} {K : AV → Mem → Prop} {M : Mem} {x1 : Int32} {x2 : Int32} (hd : 1 ≤ d)
  (h : ((x1 < 0 →
   CT l E (d - 1) m_FN_deny [(.ref 0, 0), (.int (iN 1), 0)] M (fun v1 M1 =>
    ((((toI v1) = 0 ∨ (toI v1) = 1)) ∧ K (.int (toI v1), 0) M1))) ∧
  (¬ x1 < 0 →
   (((iN 9999) < x1 →
    CT l E (d - 1) m_FN_deny [(.ref 0, 0), (.int (iN 1), 0)] M (fun v2 M2 =>
     ((((toI v2) = 0 ∨ (toI v2) = 1)) ∧ K (.int (toI v2), 0) M2))) ∧
   (¬ (iN 9999) < x1 →
    ((x2 < (iN 1) →
     CT l E (d - 1) m_FN_deny [(.ref 0, 0), (.int (iN 1), 0)] M (fun v3 M3 =>
      ((((toI v3) = 0 ∨ (toI v3) = 1)) ∧ K (.int (toI v3), 0) M3))) ∧
    (¬ x2 < (iN 1) →
     (((iN 20) < x2 →
      CT l E (d - 1) m_FN_deny [(.ref 0, 0), (.int (iN 1), 0)] M (fun v4 M4 =>
       ((((toI v4) = 0 ∨ (toI v4) = 1)) ∧ K (.int (toI v4), 0) M4))) ∧
     (¬ (iN 20) < x2 →
      ((((x1 + x2) - (iN 1)) ≤ (iN 9999) →
       (((M 0 0 11).toNat, 23) ∈ CL ∧ ((¬ (iN (M (M 0 0 11).toNat 0 8)) = 0 →
        G l E d m_FN_mean 61 [(0, (.ref 0, 0)), (1, (.int x1, 0)), (2, (.int x2, 0)), (3, (.long (lI 0), 0)), (5, (.int (iN 0), 0))] [] M K) ∧
       ((iN (M (M 0 0 11).toNat 0 8)) = 0 →
        CT l E (d - 1) m_FN_deny [(.ref 0, 0), (.int (iN 6), 0)] M (fun v5 M5 =>
         ((((toI v5) = 0 ∨ (toI v5) = 1)) ∧ K (.int (toI v5), 0) M5)))))) ∧
      (¬ ((x1 + x2) - (iN 1)) ≤ (iN 9999) →
       CT l E (d - 1) m_FN_deny [(.ref 0, 0), (.int (iN 1), 0)] M (fun v6 M6 =>
        ((((toI v6) = 0 ∨ (toI v6) = 1)) ∧ K (.int (toI v6), 0) M6))))))))))))) :
  G l E d m_FN_mean 0 [(0, (.ref 0, 0)), (1, (.int x1, 0)), (2, (.int x2, 0))] [] M K := G.blk 60 _ hd ok_FN_mean rfl h
set_option maxRecDepth 100000 in
theorem b_FN_mean_61 {l : Launch} {E : EnvT} {d : Nat} {K : AV → Mem → Prop} {M : Mem} {x1 : Int32} {x2 : Int32} {x3 : Int64} {x5 : Int32} (hd : 1 ≤ d)
  (h : ((x2 ≤ x5 →
   CT l E (d - 1) m_FN_tellFraction [(.ref 0, 0), (.long x3, 0), (.long (x2).toInt64, 0)] M (fun v1 M1 =>
    CT l E (d - 1) m_FN_agree [(.ref 0, 0)] M1 (fun v2 M2 =>
     ((((toI v2) = 0 ∨ (toI v2) = 1)) ∧ K (.int (toI v2), 0) M2)))) ∧
  (¬ x2 ≤ x5 →
   (((M 0 0 9).toNat, 11) ∈ CL ∧ CT l E (d - 1) m_Choir_takeFrom [(.ref 15, 11), (.ref (M 0 0 9).toNat, 11)] M (fun v3 M3 =>
    (((M3 0 0 11).toNat, 23) ∈ CL ∧ CT l E (d - 1) m_Life_run [(.ref 14, 37), (.ref (M3 0 0 11).toNat, 23), (.ref 15, 11), (.int (x1 + x5), 0)] M3 (fun v4 M4 =>
     CT l E (d - 1) m_Choir_allOwed [(.ref 15, 11)] M4 (fun v5 M5 =>
      G l E d m_FN_mean 61 [(0, (.ref 0, 0)), (1, (.int x1, 0)), (2, (.int x2, 0)), (3, (.long (x3 + ((toI v5)).toInt64), 0)), (5, (.int (x5 + iN 1), 0))] [] M5 K)))))))) :
  G l E d m_FN_mean 61 [(0, (.ref 0, 0)), (1, (.int x1, 0)), (2, (.int x2, 0)), (3, (.long x3, 0)), (5, (.int x5, 0))] [] M K := G.blk 60 _ hd ok_FN_mean rfl h
def bt_FN_mark : BtT := [(0, [0], true, [(0, .aload_n 0, 1, 0, 0, 0, m0),
   (1, .getfield 36, 3, 4, 10, 496, m0),
   (4, .getfield 415, 3, 2, 3, 389, m0),
   (7, .iconst 3, 1, 0, 0, 0, m0),
   (8, .if_icmp .lt 9, 3, 17, 0, 0, m0),
   (11, .nop, 0, 0, 0, 0, m0)]),
  (11, [], false, [(11, .aload_n 0, 1, 0, 0, 0, m0),
   (12, .iconst 4, 1, 0, 0, 0, m0),
   (13, .invokevirtual 124, 3, 0, 0, 608, m_FN_refuse),
   (16, .ireturn, 1, 0, 0, 0, m0)]),
  (17, [], false, [(17, .aload_n 0, 1, 0, 0, 0, m0),
   (18, .getfield 36, 3, 4, 10, 496, m0),
   (21, .aload_n 0, 1, 0, 0, 0, m0),
   (22, .getfield 64, 3, 9, 10, 501, m0),
   (25, .aload_n 0, 1, 0, 0, 0, m0),
   (26, .getfield 73, 3, 11, 10, 503, m0),
   (29, .invokevirtual 418, 3, 0, 0, 1419, m_Marks_keep),
   (32, .aload_n 0, 1, 0, 0, 0, m0),
   (33, .aload_n 0, 1, 0, 0, 0, m0),
   (34, .getfield 36, 3, 4, 10, 496, m0),
   (37, .getfield 415, 3, 2, 3, 389, m0),
   (40, .invokevirtual 170, 3, 0, 0, 835, m_FN_answer),
   (43, .ireturn, 1, 0, 0, 0, m0)])]
theorem ok_FN_mark : okBt m_FN_mark bt_FN_mark = true := by decide +kernel
set_option maxRecDepth 100000 in
theorem b_FN_mark_0 {l : Launch} {E : EnvT} {d : Nat} {K : AV → Mem → Prop} {M : Mem}  (hd : 1 ≤ d)
  (h : (((iN (M 5 0 2)) < (iN 3) →
   (((M 0 0 9).toNat, 11) ∈ CL ∧ ((M 0 0 11).toNat, 23) ∈ CL ∧ CT l E (d - 1) m_Marks_keep [(.ref 5, 8), (.ref (M 0 0 9).toNat, 11), (.ref (M 0 0 11).toNat, 23)] M (fun v1 M1 =>
    CT l E (d - 1) m_FN_answer [(.ref 0, 0), (.int (iN (M1 5 0 2)), 0)] M1 (fun v2 M2 =>
     K (.int (toI v2), 0) M2)))) ∧
  (¬ (iN (M 5 0 2)) < (iN 3) →
   CT l E (d - 1) m_FN_refuse [(.ref 0, 0), (.int (iN 4), 0)] M (fun v3 M3 =>
    K (.int (toI v3), 0) M3)))) :
  G l E d m_FN_mark 0 [(0, (.ref 0, 0))] [] M K := G.blk 60 _ hd ok_FN_mark rfl h
def bt_FN_undo : BtT := [(0, [0], true, [(0, .aload_n 0, 1, 0, 0, 0, m0),
   (1, .getfield 36, 3, 4, 10, 496, m0),
   (4, .getfield 415, 3, 2, 3, 389, m0),
   (7, .ifCond .ne 10, 3, 17, 0, 0, m0),
   (10, .nop, 0, 0, 0, 0, m0)]),
  (10, [], false, [(10, .aload_n 0, 1, 0, 0, 0, m0),
   (11, .bipush 6, 2, 0, 0, 0, m0),
   (13, .invokevirtual 124, 3, 0, 0, 608, m_FN_refuse),
   (16, .ireturn, 1, 0, 0, 0, m0)]),
  (17, [], false, [(17, .aload_n 0, 1, 0, 0, 0, m0),
   (18, .getfield 36, 3, 4, 10, 496, m0),
   (21, .aload_n 0, 1, 0, 0, 0, m0),
   (22, .getfield 64, 3, 9, 10, 501, m0),
   (25, .aload_n 0, 1, 0, 0, 0, m0),
   (26, .getfield 73, 3, 11, 10, 503, m0),
   (29, .invokevirtual 422, 3, 0, 0, 1433, m_Marks_giveBack),
   (32, .aload_n 0, 1, 0, 0, 0, m0),
   (33, .aload_n 0, 1, 0, 0, 0, m0),
   (34, .getfield 36, 3, 4, 10, 496, m0),
   (37, .getfield 415, 3, 2, 3, 389, m0),
   (40, .invokevirtual 170, 3, 0, 0, 835, m_FN_answer),
   (43, .ireturn, 1, 0, 0, 0, m0)])]
theorem ok_FN_undo : okBt m_FN_undo bt_FN_undo = true := by decide +kernel
set_option maxRecDepth 100000 in
theorem b_FN_undo_0 {l : Launch} {E : EnvT} {d : Nat} {K : AV → Mem → Prop} {M : Mem}  (hd : 1 ≤ d)
  (h : ((¬ (iN (M 5 0 2)) = 0 →
   (((M 0 0 9).toNat, 11) ∈ CL ∧ ((M 0 0 11).toNat, 23) ∈ CL ∧ CT l E (d - 1) m_Marks_giveBack [(.ref 5, 8), (.ref (M 0 0 9).toNat, 11), (.ref (M 0 0 11).toNat, 23)] M (fun v1 M1 =>
    CT l E (d - 1) m_FN_answer [(.ref 0, 0), (.int (iN (M1 5 0 2)), 0)] M1 (fun v2 M2 =>
     K (.int (toI v2), 0) M2)))) ∧
  ((iN (M 5 0 2)) = 0 →
   CT l E (d - 1) m_FN_refuse [(.ref 0, 0), (.int (iN 6), 0)] M (fun v3 M3 =>
    K (.int (toI v3), 0) M3)))) :
  G l E d m_FN_undo 0 [(0, (.ref 0, 0))] [] M K := G.blk 60 _ hd ok_FN_undo rfl h
end
section
theorem iN_add (a b : Int) : iN a + iN b = iN (a + b) := (Int32.ofInt_add a b).symm
theorem iN_sub (a b : Int) : iN a - iN b = iN (a - b) := (Int32.ofInt_sub a b).symm
theorem iN_mul (a b : Int) : iN a * iN b = iN (a * b) := (Int32.ofInt_mul a b).symm
theorem iN_neg (a : Int) : -iN a = iN (-a) := (Int32.ofInt_neg a).symm
theorem iN_lt {a b : Int} (h1 : -2147483648 ≤ a) (h2 : a < 2147483648) (h3 : -2147483648 ≤ b) (h4 : b < 2147483648) : iN a < iN b ↔ a < b := by
  rw [Int32.lt_iff_toInt_lt, iN_small h1 h2, iN_small h3 h4]
theorem iN_le {a b : Int} (h1 : -2147483648 ≤ a) (h2 : a < 2147483648) (h3 : -2147483648 ≤ b) (h4 : b < 2147483648) : iN a ≤ iN b ↔ a ≤ b := by
  rw [Int32.le_iff_toInt_le, iN_small h1 h2, iN_small h3 h4]
theorem iN_eq {a b : Int} (h1 : -2147483648 ≤ a) (h2 : a < 2147483648) (h3 : -2147483648 ≤ b) (h4 : b < 2147483648) : iN a = iN b ↔ a = b := by
  rw [← Int32.toInt_inj, iN_small h1 h2, iN_small h3 h4]
theorem iN_lt0 {a : Int} (h1 : -2147483648 ≤ a) (h2 : a < 2147483648) : iN a < 0 ↔ a < 0 := iN_lt (b := 0) h1 h2 (by decide) (by decide)
theorem iN_0lt {a : Int} (h1 : -2147483648 ≤ a) (h2 : a < 2147483648) : 0 < iN a ↔ 0 < a := iN_lt (a := 0) (by decide) (by decide) h1 h2
theorem iN_le0 {a : Int} (h1 : -2147483648 ≤ a) (h2 : a < 2147483648) : iN a ≤ 0 ↔ a ≤ 0 := iN_le (b := 0) h1 h2 (by decide) (by decide)
theorem iN_0le {a : Int} (h1 : -2147483648 ≤ a) (h2 : a < 2147483648) : 0 ≤ iN a ↔ 0 ≤ a := iN_le (a := 0) (by decide) (by decide) h1 h2
theorem iN_eq0 {a : Int} (h1 : -2147483648 ≤ a) (h2 : a < 2147483648) : iN a = 0 ↔ a = 0 := iN_eq (b := 0) h1 h2 (by decide) (by decide)
theorem iN_eq1 {a : Int} (h1 : -2147483648 ≤ a) (h2 : a < 2147483648) : iN a = 1 ↔ a = 1 := iN_eq (b := 1) h1 h2 (by decide) (by decide)
theorem iN_toI {a : Int} (h1 : -2147483648 ≤ a) (h2 : a < 2147483648) : (iN a).toInt = a := iN_small h1 h2
theorem iN_cl {a : Int} (h2 : a < 2147483648) (h1 : 0 ≤ a) : (iN a).toNatClampNeg = a.toNat := by
  show (iN a).toInt.toNat = a.toNat
  rw [iN_small (by omega) h2]
theorem iN_clN {k : Nat} (h : (k : Int) < 2147483648) : (iN (k : Int)).toNatClampNeg = k := by
  rw [iN_cl h (by omega)]
  rfl
theorem iN_in {a : Int} {n : Nat} (h1 : 0 ≤ a) (h2 : a < n) (hn : n ≤ 10000) : vp_in (iN a) n := by
  rw [vp_in_iff, iN_small (by omega) (by omega)]
  exact ⟨h1, h2⟩
theorem iN_ex (x : Int32) : ∃ z : Int, -2147483648 ≤ z ∧ z < 2147483648 ∧ x = iN z := ⟨x.toInt, Int32.le_toInt x, Int32.toInt_lt x, (iN_toInt x).symm⟩
theorem tdiv_nn {a b : Int} (h1 : 0 ≤ a) : a.tdiv b = a / b := Int.tdiv_eq_ediv_of_nonneg h1
theorem iN_div {a b : Int} (h1 : 0 ≤ a) (h2 : a < 2147483648) (h3 : 0 < b) (h4 : b < 2147483648) : iN a / iN b = iN (a / b) := by
  rw [← Int32.toInt_inj, Int32.toInt_div, iN_small (by omega) h2, iN_small (by omega) h4, tdiv_nn h1]
  have h5 : 0 ≤ a / b := Int.ediv_nonneg h1 (by omega)
  have h6 : a / b ≤ a := Int.ediv_le_self b h1
  rw [iN_small (by omega) (by omega)]
  have h7 : (2 : Int) ^ 32 = 4294967296 := by decide
  have h8 : (2 : Nat) ^ 32 = 4294967296 := by decide
  rw [h8]
  exact Int.bmod_eq_of_le (by omega) (by omega)
theorem iN_rem {a b : Int} (h1 : 0 ≤ a) (h2 : a < 2147483648) (h3 : 0 < b) (h4 : b < 2147483648) : iR (iN a) (iN b) = iN (a % b) := by
  unfold iR
  rw [iN_div h1 h2 h3 h4, iN_mul, iN_sub]
  congr 1
  have := Int.emod_add_mul_ediv a b
  rw [Int.mul_comm]
  omega
theorem dn {P : Nat → Prop} (n : Nat) (he : P n) (hs : ∀ k, k < n → P (k + 1) → P k) : ∀ k, k ≤ n → P k := by
  intro k hk
  obtain ⟨m, rfl⟩ : ∃ m, n = k + m := ⟨n - k, by omega⟩
  induction m generalizing k with
  | zero => exact he
  | succ m ih =>
    refine hs k (by omega) (ih (k + 1) ?_ (fun j hj hp => hs j (by omega) hp) (by omega))
    rw [show k + 1 + m = k + (m + 1) by omega]; exact he
def b2i (b : Bool) : Int := if b then 1 else 0
def cntN (p : Nat → Bool) : Nat → Int
  | 0 => 0
  | k + 1 => cntN p k + b2i (p k)
def sumN (f : Nat → Int) : Nat → Int
  | 0 => 0
  | k + 1 => sumN f k + f k
/-- the first place from i on, below i + m, where p holds; -1 without one -/
def fndF (p : Nat → Bool) : Nat → Nat → Int
  | _, 0 => -1
  | i, m + 1 => if p i then (i : Int) else fndF p (i + 1) m
def fnd (p : Nat → Bool) (n : Nat) : Int := fndF p 0 n
abbrev Ch : Type := Nat → Nat → Int
def setR (M : Mem) (r : Nat) (C : Ch) : Mem := fun r' => if r' = r then C else M r'
def upd2 (C : Ch) (c k : Nat) (v : Int) : Ch := fun c' k' => if c' = c ∧ k' = k then v else C c' k'
theorem upd3_setR (M : Mem) (r c k : Nat) (v : Int) : upd3 M r c k v = setR M r (upd2 (M r) c k v) := by
  funext r' c' k'
  unfold upd3 setR upd2
  by_cases h : r' = r
  · subst h; simp
  · simp [h]
theorem setR_same (M : Mem) (r : Nat) (C : Ch) : setR M r C r = C := by simp [setR]
theorem setR_ne (M : Mem) {r r' : Nat} (C : Ch) (h : r' ≠ r) : setR M r C r' = M r' := by simp [setR, h]
theorem setR_setR (M : Mem) (r : Nat) (C C' : Ch) : setR (setR M r C) r C' = setR M r C' := by
  funext r'
  unfold setR
  split <;> rfl
theorem setR_self (M : Mem) (r : Nat) : setR M r (M r) = M := by
  funext r'
  unfold setR
  split
  · rename_i h; rw [h]
  · rfl
theorem upd2_same (C : Ch) (c k : Nat) (v : Int) : upd2 C c k v c k = v := by simp [upd2]
theorem upd2_k (C : Ch) {c k k' : Nat} (v : Int) (h : k' ≠ k) : upd2 C c k v c k' = C c k' := by simp [upd2, h]
theorem upd2_c (C : Ch) {c c' k : Nat} (v : Int) (h : c' ≠ c) : upd2 C c k v c' = C c' := by
  funext k'
  simp [upd2, h]
theorem upd2_at (C : Ch) (c k : Nat) (v : Int) (k' : Nat) : upd2 C c k v c k' = if k' = k then v else C c k' := by simp [upd2]
theorem toI_int (x : Int32) (n : Nat) : toI (.int x, n) = x := rfl
theorem toL_long (x : Int64) (n : Nat) : toL (.long x, n) = x := rfl
theorem toR_ref (x : Nat) (n : Nat) : toR (.ref x, n) = x := rfl
end
section
theorem CT.ofF {l : Launch} {E : EnvT} {d : Nat} {mi : MI} {as : List AV} {M : Mem} {K : AV → Mem → Prop} (hy : plainFor mi.1 = true) (hn : asz as ≤ mi.2.2.1) (g : G l E d mi 0 (aargs 0 as) [] M K) : CT l E d mi as M K := by
  intro hT
  refine va_MetF (cc := mi.2.1) (maxL := mi.2.2.1) (ret := mi.2.2.2.1) hy rfl ?_
  intro p e s m args below meth c s₁ B hml hv
  obtain ⟨rfl, hH, hK, hD, hb⟩ := hv
  have he := lv_entry (as.map (cv E)) (n := mi.2.2.1) (by rw [asz_cv]; exact hn)
  rw [aargs_cv] at he
  rw [lg_entry_eq]
  exact g p e s m _ below meth c s.heap [] _ ⟨B.exec, B.bytes, hml, findClass_of_methodNamed B.named, atoms_spec (ws := WS mi) B.pre, B.returns, B.notSynchronized, hK, hD, hb⟩ hH va_S.rf (aargs_TV as 0 hT) (fun v hv => by cases hv) he
theorem c_max {l : Launch} {E : EnvT} {d : Nat} {K : AV → Mem → Prop} {M : Mem} {a b : Int} (hd : 1 ≤ d) (h1 : -2147483648 ≤ a) (h2 : a < 2147483648) (h3 : -2147483648 ≤ b) (h4 : b < 2147483648) (h : K (.int (iN (max a b)), 0) M) : CT l E d m_Math_max [(.int (iN a), 0), (.int (iN b), 0)] M K := by
  refine CT.ofF (by decide +kernel) (Nat.le_of_ble_eq_true rfl) (b_Math_max_0 hd ?_)
  simp (disch := omega) only [iN_lt]
  refine ⟨fun c => ?_, fun c => ?_⟩
  · rw [show max a b = b by omega] at h; exact h
  · rw [show max a b = a by omega] at h; exact h
theorem c_min {l : Launch} {E : EnvT} {d : Nat} {K : AV → Mem → Prop} {M : Mem} {a b : Int} (hd : 1 ≤ d) (h1 : -2147483648 ≤ a) (h2 : a < 2147483648) (h3 : -2147483648 ≤ b) (h4 : b < 2147483648) (h : K (.int (iN (min a b)), 0) M) : CT l E d m_Math_min [(.int (iN a), 0), (.int (iN b), 0)] M K := by
  refine CT.ofF (by decide +kernel) (Nat.le_of_ble_eq_true rfl) (b_Math_min_0 hd ?_)
  simp (disch := omega) only [iN_lt]
  refine ⟨fun c => ?_, fun c => ?_⟩
  · rw [show min a b = b by omega] at h; exact h
  · rw [show min a b = a by omega] at h; exact h
theorem c_slot {l : Launch} {E : EnvT} {d : Nat} {K : AV → Mem → Prop} {M : Mem} {a b : Int} (hd : 1 ≤ d) (h : K (.int (iN (a * 6 + b)), 0) M) : CT l E d m_Choir_slot [(.int (iN a), 0), (.int (iN b), 0)] M K := by
  refine CT.of (by decide +kernel) (Nat.le_of_ble_eq_true rfl) (b_Choir_slot_0 hd ?_)
  simp only [iN_mul, iN_add]
  exact h
def slotOfC (C : Ch) (x : Int) (b : Nat) : Int := fndF (fun i => C 6 i == x) (6 * b) (C 4 b).toNat
theorem c_slotOf {l : Launch} {E : EnvT} {d : Nat} {K : AV → Mem → Prop} {M : Mem} {r : Nat} {x : Int} {b : Nat} (hd : 1 ≤ d) (hb : b < 8) (hx1 : -1 ≤ x) (hx2 : x < 100) (hl : 0 ≤ M r 4 b) (hl2 : M r 4 b ≤ 6) (hh : ∀ i, i < 48 → -1 ≤ M r 6 i ∧ M r 6 i < 100) (h : K (.int (iN (slotOfC (M r) x b)), 0) M) : CT l E d m_Choir_slotOf [(.ref r, 11), (.int (iN x), 0), (.int (iN b), 0)] M K := by
  refine CT.of (by decide +kernel) (Nat.le_of_ble_eq_true rfl) (b_Choir_slotOf_0 hd ⟨iN_in (by omega) (by omega) (by omega), ?_⟩)
  simp (disch := omega) only [iN_mul, iN_add, iN_clN]
  obtain ⟨n, hn⟩ : ∃ n : Nat, M r 4 b = n := ⟨(M r 4 b).toNat, by omega⟩
  rw [hn]
  have key : ∀ m i : Nat, i + m = 6 * b + n → slotOfC (M r) x b = fndF (fun i => M r 6 i == x) i m → G l E d m_Choir_slotOf 18 [(0, (.ref r, 11)), (1, (.int (iN x), 0)), (4, (.int (iN (b * 6 + n)), 0)), (5, (.int (iN i), 0))] [] M K := by
    intro m
    induction m with
    | zero =>
      intro i hi he
      refine b_Choir_slotOf_18 hd ?_
      simp (disch := omega) only [iN_le, iN_eq, iN_add, iN_clN]
      refine ⟨fun _ => ?_, fun c => absurd (by omega) c⟩
      rw [he] at h
      exact h
    | succ m ih =>
      intro i hi he
      refine b_Choir_slotOf_18 hd ?_
      have := hh i (by omega)
      simp (disch := omega) only [iN_le, iN_eq, iN_add, iN_clN]
      refine ⟨fun c => absurd c (by omega), fun _ => ⟨iN_in (by omega) (by omega) (by omega), fun c => ?_, fun c => ?_⟩⟩
      · refine ih (i + 1) (by omega) ?_
        rw [he]
        simp [fndF, c]
      · rw [he] at h
        simpa [fndF, c] using h
  have := key n (6 * b) rfl (by unfold slotOfC; rw [hn]; rfl)
  rw [show (b : Int) * 6 = ((6 * b : Nat) : Int) by push_cast; omega]
  rw [show (b : Int) * 6 = ((6 * b : Nat) : Int) by push_cast; omega] at this
  exact this
end
section
theorem pn_Choir : plainName "FalseNotes$Choir" = true := by decide +kernel
theorem pn_Waiting : plainName "FalseNotes$Waiting" = true := by decide +kernel
theorem pn_Tray : plainName "FalseNotes$Tray" = true := by decide +kernel
theorem pn_Years : plainName "FalseNotes$Years" = true := by decide +kernel
theorem pn_Life : plainName "FalseNotes$Life" = true := by decide +kernel
theorem pn_Marks : plainName "FalseNotes$Marks" = true := by decide +kernel
theorem pn_Ties : plainName "FalseNotes$Ties" = true := by decide +kernel
theorem pn_Tokens : plainName "FalseNotes$Tokens" = true := by decide +kernel
theorem pn_CReader : plainName "FalseNotes$ChoirReader" = true := by decide +kernel
theorem pn_YReader : plainName "FalseNotes$YearsReader" = true := by decide +kernel
theorem pn_FN : plainName "FalseNotes" = true := by decide +kernel
theorem pn_Mod : plainName "FalseNotesModel" = true := by decide +kernel
theorem pn_Integer : plainName "java/lang/Integer" = true := by decide +kernel
theorem pn_Arrays : plainName "java/util/Arrays" = true := by decide +kernel
def inS (m : Int) (s : Nat) : Bool := m.toNat.testBit s
theorem shr_bit0 : ∀ m : Nat, m < 256 → ∀ s : Nat, s < 8 → ((iN (m : Int) >>> (iN (s : Int) &&& 31)) &&& iN 1) = iN (b2i (m.testBit s)) := by decide +kernel
theorem shr_bit {m : Int} {s : Nat} (h1 : 0 ≤ m) (h2 : m < 256) (h3 : s < 8) : ((iN m >>> (iN (s : Int) &&& 31)) &&& iN 1) = iN (b2i (inS m s)) := by
  obtain ⟨k, rfl⟩ : ∃ k : Nat, m = k := ⟨m.toNat, by omega⟩
  exact shr_bit0 k (by omega) s h3
theorem b2i_01 (b : Bool) : b2i b = 0 ∨ b2i b = 1 := by cases b <;> simp [b2i]
theorem b2i_lo (b : Bool) : 0 ≤ b2i b := by cases b <;> simp [b2i]
theorem b2i_hi (b : Bool) : b2i b ≤ 1 := by cases b <;> simp [b2i]
theorem b2i_0 (b : Bool) : b2i b = 0 ↔ b = false := by cases b <;> simp [b2i]
theorem b2i_z (b : Bool) : iN (b2i b) = 0 ↔ b = false := by cases b <;> decide +kernel
theorem z01 : iN 0 = 0 ∨ iN 0 = 1 := Or.inl (by decide +kernel)
theorem o01 : iN 1 = 0 ∨ iN 1 = 1 := Or.inr (by decide +kernel)
theorem bb01 (b : Bool) : iN (b2i b) = 0 ∨ iN (b2i b) = 1 := by cases b <;> decide +kernel
def popc (m : Nat) : Int := cntN (fun i => m.testBit i) 8
def bcF (x0 : Int32) : Int32 := ((((((((x0 - (((x0).toUInt32 >>> (((iN 1)).toUInt32 &&& Int32.toUInt32 31)).toInt32 &&& (iN 1431655765))) &&& (iN 858993459)) + ((((x0 - (((x0).toUInt32 >>> (((iN 1)).toUInt32 &&& Int32.toUInt32 31)).toInt32 &&& (iN 1431655765)))).toUInt32 >>> (((iN 2)).toUInt32 &&& Int32.toUInt32 31)).toInt32 &&& (iN 858993459))) + (((((x0 - (((x0).toUInt32 >>> (((iN 1)).toUInt32 &&& Int32.toUInt32 31)).toInt32 &&& (iN 1431655765))) &&& (iN 858993459)) + ((((x0 - (((x0).toUInt32 >>> (((iN 1)).toUInt32 &&& Int32.toUInt32 31)).toInt32 &&& (iN 1431655765)))).toUInt32 >>> (((iN 2)).toUInt32 &&& Int32.toUInt32 31)).toInt32 &&& (iN 858993459)))).toUInt32 >>> (((iN 4)).toUInt32 &&& Int32.toUInt32 31)).toInt32) &&& (iN 252645135)) + (((((((x0 - (((x0).toUInt32 >>> (((iN 1)).toUInt32 &&& Int32.toUInt32 31)).toInt32 &&& (iN 1431655765))) &&& (iN 858993459)) + ((((x0 - (((x0).toUInt32 >>> (((iN 1)).toUInt32 &&& Int32.toUInt32 31)).toInt32 &&& (iN 1431655765)))).toUInt32 >>> (((iN 2)).toUInt32 &&& Int32.toUInt32 31)).toInt32 &&& (iN 858993459))) + (((((x0 - (((x0).toUInt32 >>> (((iN 1)).toUInt32 &&& Int32.toUInt32 31)).toInt32 &&& (iN 1431655765))) &&& (iN 858993459)) + ((((x0 - (((x0).toUInt32 >>> (((iN 1)).toUInt32 &&& Int32.toUInt32 31)).toInt32 &&& (iN 1431655765)))).toUInt32 >>> (((iN 2)).toUInt32 &&& Int32.toUInt32 31)).toInt32 &&& (iN 858993459)))).toUInt32 >>> (((iN 4)).toUInt32 &&& Int32.toUInt32 31)).toInt32) &&& (iN 252645135))).toUInt32 >>> (((iN 8)).toUInt32 &&& Int32.toUInt32 31)).toInt32) + ((((((((x0 - (((x0).toUInt32 >>> (((iN 1)).toUInt32 &&& Int32.toUInt32 31)).toInt32 &&& (iN 1431655765))) &&& (iN 858993459)) + ((((x0 - (((x0).toUInt32 >>> (((iN 1)).toUInt32 &&& Int32.toUInt32 31)).toInt32 &&& (iN 1431655765)))).toUInt32 >>> (((iN 2)).toUInt32 &&& Int32.toUInt32 31)).toInt32 &&& (iN 858993459))) + (((((x0 - (((x0).toUInt32 >>> (((iN 1)).toUInt32 &&& Int32.toUInt32 31)).toInt32 &&& (iN 1431655765))) &&& (iN 858993459)) + ((((x0 - (((x0).toUInt32 >>> (((iN 1)).toUInt32 &&& Int32.toUInt32 31)).toInt32 &&& (iN 1431655765)))).toUInt32 >>> (((iN 2)).toUInt32 &&& Int32.toUInt32 31)).toInt32 &&& (iN 858993459)))).toUInt32 >>> (((iN 4)).toUInt32 &&& Int32.toUInt32 31)).toInt32) &&& (iN 252645135)) + (((((((x0 - (((x0).toUInt32 >>> (((iN 1)).toUInt32 &&& Int32.toUInt32 31)).toInt32 &&& (iN 1431655765))) &&& (iN 858993459)) + ((((x0 - (((x0).toUInt32 >>> (((iN 1)).toUInt32 &&& Int32.toUInt32 31)).toInt32 &&& (iN 1431655765)))).toUInt32 >>> (((iN 2)).toUInt32 &&& Int32.toUInt32 31)).toInt32 &&& (iN 858993459))) + (((((x0 - (((x0).toUInt32 >>> (((iN 1)).toUInt32 &&& Int32.toUInt32 31)).toInt32 &&& (iN 1431655765))) &&& (iN 858993459)) + ((((x0 - (((x0).toUInt32 >>> (((iN 1)).toUInt32 &&& Int32.toUInt32 31)).toInt32 &&& (iN 1431655765)))).toUInt32 >>> (((iN 2)).toUInt32 &&& Int32.toUInt32 31)).toInt32 &&& (iN 858993459)))).toUInt32 >>> (((iN 4)).toUInt32 &&& Int32.toUInt32 31)).toInt32) &&& (iN 252645135))).toUInt32 >>> (((iN 8)).toUInt32 &&& Int32.toUInt32 31)).toInt32)).toUInt32 >>> (((iN 16)).toUInt32 &&& Int32.toUInt32 31)).toInt32) &&& (iN 63))
theorem bcF_eq : ∀ m : Nat, m < 256 → bcF (iN (m : Int)) = iN (popc m) := by decide +kernel
theorem c_bitCount {l : Launch} {E : EnvT} {d : Nat} {K : AV → Mem → Prop} {M : Mem} {m : Int} (hd : 1 ≤ d) (h1 : 0 ≤ m) (h2 : m < 256) (h : K (.int (iN (popc m.toNat)), 0) M) : CT l E d m_Integer_bitCount [(.int (iN m), 0)] M K := by
  refine CT.of pn_Integer (Nat.le_of_ble_eq_true rfl) ?_
  refine b_Integer_bitCount_0 hd ?_
  obtain ⟨k, rfl⟩ : ∃ k : Nat, m = k := ⟨m.toNat, by omega⟩
  have e := bcF_eq k (by omega)
  unfold bcF at e
  rw [e]
  exact h
def VB (C : Ch) : Prop := (0 ≤ C 0 8 ∧ C 0 8 ≤ 8) ∧ (∀ j, 9 ≤ j → j ≤ 12 → 0 ≤ C 0 j ∧ C 0 j < 256) ∧ (0 ≤ C 0 13 ∧ C 0 13 ≤ 50) ∧ (0 ≤ C 0 14 ∧ C 0 14 ≤ 9999) ∧ (-2147483648 ≤ C 0 15 ∧ C 0 15 < 2147483648) ∧ (∀ s, s < 8 → 0 ≤ C 2 s ∧ C 2 s ≤ 9999) ∧ (∀ s, s < 8 → -1 ≤ C 3 s ∧ C 3 s < 8) ∧ (∀ s, s < 8 → 0 ≤ C 4 s ∧ C 4 s ≤ 6) ∧ (∀ i, i < 48 → 0 ≤ C 5 i ∧ C 5 i ≤ 24) ∧ (∀ i, i < 48 → -1 ≤ C 6 i ∧ C 6 i < 8) ∧ (∀ i, i < 48 → 0 ≤ C 7 i ∧ C 7 i ≤ 999) ∧ (0 ≤ C 8 3 ∧ C 8 3 ≤ 8) ∧ (∀ k, k < 8 → 0 ≤ C 9 k ∧ C 9 k < 8) ∧ (∀ k, k < 8 → 0 ≤ C 10 k ∧ C 10 k < 8) ∧ (∀ k, k < 8 → 0 ≤ C 11 k ∧ C 11 k ≤ 999)
theorem VB.n {C : Ch} (h : VB C) : 0 ≤ C 0 8 ∧ C 0 8 ≤ 8 := h.1
theorem VB.ms {C : Ch} (h : VB C) : ∀ j, 9 ≤ j → j ≤ 12 → 0 ≤ C 0 j ∧ C 0 j < 256 := h.2.1
theorem VB.hum {C : Ch} (h : VB C) : 0 ≤ C 0 13 ∧ C 0 13 ≤ 50 := h.2.2.1
theorem VB.sun {C : Ch} (h : VB C) : 0 ≤ C 0 14 ∧ C 0 14 ≤ 9999 := h.2.2.2.1
theorem VB.paid {C : Ch} (h : VB C) : -2147483648 ≤ C 0 15 ∧ C 0 15 < 2147483648 := h.2.2.2.2.1
theorem VB.pu {C : Ch} (h : VB C) : ∀ s, s < 8 → 0 ≤ C 2 s ∧ C 2 s ≤ 9999 := h.2.2.2.2.2.1
theorem VB.he {C : Ch} (h : VB C) : ∀ s, s < 8 → -1 ≤ C 3 s ∧ C 3 s < 8 := h.2.2.2.2.2.2.1
theorem VB.le {C : Ch} (h : VB C) : ∀ s, s < 8 → 0 ≤ C 4 s ∧ C 4 s ≤ 6 := h.2.2.2.2.2.2.2.1
theorem VB.no {C : Ch} (h : VB C) : ∀ i, i < 48 → 0 ≤ C 5 i ∧ C 5 i ≤ 24 := h.2.2.2.2.2.2.2.2.1
theorem VB.ho {C : Ch} (h : VB C) : ∀ i, i < 48 → -1 ≤ C 6 i ∧ C 6 i < 8 := h.2.2.2.2.2.2.2.2.2.1
theorem VB.de {C : Ch} (h : VB C) : ∀ i, i < 48 → 0 ≤ C 7 i ∧ C 7 i ≤ 999 := h.2.2.2.2.2.2.2.2.2.2.1
theorem VB.w {C : Ch} (h : VB C) : 0 ≤ C 8 3 ∧ C 8 3 ≤ 8 := h.2.2.2.2.2.2.2.2.2.2.2.1
theorem VB.wa {C : Ch} (h : VB C) : ∀ k, k < 8 → 0 ≤ C 9 k ∧ C 9 k < 8 := h.2.2.2.2.2.2.2.2.2.2.2.2.1
theorem VB.wb {C : Ch} (h : VB C) : ∀ k, k < 8 → 0 ≤ C 10 k ∧ C 10 k < 8 := h.2.2.2.2.2.2.2.2.2.2.2.2.2.1
theorem VB.wm {C : Ch} (h : VB C) : ∀ k, k < 8 → 0 ≤ C 11 k ∧ C 11 k ≤ 999 := h.2.2.2.2.2.2.2.2.2.2.2.2.2.2
theorem c_isIn {l : Launch} {E : EnvT} {d : Nat} {K : AV → Mem → Prop} {M : Mem} {m : Int} {s : Nat} (hd : 1 ≤ d) (h1 : 0 ≤ m) (h2 : m < 256) (h3 : s < 8) (h : K (.int (iN (b2i (inS m s))), 0) M) : CT l E d m_Choir_isIn [(.int (iN m), 0), (.int (iN s), 0)] M K := by
  refine CT.of pn_Choir (Nat.le_of_ble_eq_true rfl) ?_
  refine b_Choir_isIn_0 hd ?_
  rw [shr_bit h1 h2 h3]
  cases hb : inS m s with
  | false => rw [hb] at h; exact ⟨fun _ => ⟨z01, h⟩, fun c => absurd (by decide +kernel) c⟩
  | true => rw [hb] at h; exact ⟨fun c => absurd c (by decide +kernel), fun _ => ⟨o01, h⟩⟩
theorem c_oneIfIn {l : Launch} {E : EnvT} {d : Nat} {K : AV → Mem → Prop} {M : Mem} {m : Int} {s : Nat} (hd : 1 ≤ d) (h1 : 0 ≤ m) (h2 : m < 256) (h3 : s < 8) (h : K (.int (iN (b2i (inS m s))), 0) M) : CT l E d m_Choir_oneIfIn [(.int (iN m), 0), (.int (iN s), 0)] M K := by
  refine CT.of pn_Choir (Nat.le_of_ble_eq_true rfl) ?_
  refine b_Choir_oneIfIn_0 hd ?_
  rw [shr_bit h1 h2 h3]
  exact h
def knowsB (C : Ch) (z : Int) : Bool := decide (0 ≤ z ∧ z < C 0 8)
def livesB (C : Ch) (z : Int) : Bool := decide (0 ≤ z ∧ z < C 0 8) && !inS (C 0 12) z.toNat
theorem c_knows {l : Launch} {E : EnvT} {d : Nat} {K : AV → Mem → Prop} {M : Mem} {r : Nat} {z : Int} (hd : 1 ≤ d) (hV : VB (M r)) (h1 : -2147483648 ≤ z) (h2 : z < 2147483648) (h : K (.int (iN (b2i (knowsB (M r) z))), 0) M) : CT l E d m_Choir_knows [(.ref r, 11), (.int (iN z), 0)] M K := by
  refine CT.of pn_Choir (Nat.le_of_ble_eq_true rfl) ?_
  refine b_Choir_knows_0 hd ?_
  have hn := hV.n
  simp (disch := omega) only [true_or, or_true, true_and, iN_lt, iN_le, iN_eq, iN_lt0, iN_le0, iN_0le, iN_0lt, iN_eq0, iN_eq1, iN_add, iN_sub, iN_mul, iN_neg, iN_clN, toI_int]
  refine ⟨fun c => ?_, fun c => ⟨fun c2 => ?_, fun c2 => ?_⟩⟩
  · rw [show knowsB (M r) z = false from decide_eq_false (by omega)] at h; exact h
  · rw [show knowsB (M r) z = false from decide_eq_false (by omega)] at h; exact h
  · rw [show knowsB (M r) z = true from decide_eq_true (by omega)] at h; exact h
theorem c_lives {l : Launch} {E : EnvT} {d : Nat} {K : AV → Mem → Prop} {M : Mem} {r : Nat} {z : Int} (hd : 1 ≤ d) (hV : VB (M r)) (h1 : -2147483648 ≤ z) (h2 : z < 2147483648) (h : K (.int (iN (b2i (livesB (M r) z))), 0) M) : CT l E d m_Choir_lives [(.ref r, 11), (.int (iN z), 0)] M K := by
  refine CT.of pn_Choir (Nat.le_of_ble_eq_true rfl) ?_
  refine b_Choir_lives_0 hd ?_
  have hn := hV.n
  have hm := hV.ms 12 (by omega) (by omega)
  refine ⟨fun c => ⟨z01, ?_⟩, fun c => ⟨fun c2 => ⟨z01, ?_⟩, fun c2 => ?_⟩⟩
  · rw [iN_lt0 h1 h2] at c
    have e : decide (0 ≤ z ∧ z < M r 0 8) = false := decide_eq_false (by omega)
    unfold livesB at h; rw [e] at h; exact h
  · rw [iN_lt0 h1 h2] at c
    rw [iN_le (by omega) (by omega) h1 h2] at c2
    have e : decide (0 ≤ z ∧ z < M r 0 8) = false := decide_eq_false (by omega)
    unfold livesB at h; rw [e] at h; exact h
  · rw [iN_lt0 h1 h2] at c
    rw [iN_le (by omega) (by omega) h1 h2] at c2
    obtain ⟨k, rfl⟩ : ∃ k : Nat, z = k := ⟨z.toNat, by omega⟩
    have e : decide (0 ≤ (k : Int) ∧ (k : Int) < M r 0 8) = true := decide_eq_true (by omega)
    unfold livesB at h
    rw [e] at h
    rw [shr_bit hm.1 hm.2 (by omega), b2i_z]
    have e2 : (k : Int).toNat = k := rfl
    rw [e2] at h
    cases hb : inS (M r 0 12) k with
    | false => rw [hb] at h; exact ⟨fun c => absurd rfl c, fun _ => ⟨o01, h⟩⟩
    | true => rw [hb] at h; exact ⟨fun _ => ⟨z01, h⟩, fun c => absurd c (by decide)⟩
def twoB (C : Ch) (a b : Int) : Bool := livesB C a && (livesB C b && !decide (a = b))
theorem c_areTwo {l : Launch} {E : EnvT} {d : Nat} {K : AV → Mem → Prop} {M : Mem} {r : Nat} {a b : Int} (hd : 2 ≤ d) (hV : VB (M r)) (h1 : -2147483648 ≤ a) (h2 : a < 2147483648) (h3 : -2147483648 ≤ b) (h4 : b < 2147483648) (h : K (.int (iN (b2i (twoB (M r) a b))), 0) M) : CT l E d m_Choir_areTwo [(.ref r, 11), (.int (iN a), 0), (.int (iN b), 0)] M K := by
  refine CT.of pn_Choir (Nat.le_of_ble_eq_true rfl) ?_
  refine b_Choir_areTwo_0 (by omega) (c_lives (by omega) hV h1 h2 ?_)
  unfold twoB at h
  simp only [toI_int, b2i_z]
  refine ⟨fun c => ⟨z01, ?_⟩, fun c => c_lives (by omega) hV h3 h4 ?_⟩
  · rw [c] at h; exact h
  · rw [Bool.not_eq_false] at c
    rw [c] at h
    simp only [toI_int, b2i_z]
    refine ⟨fun c => ⟨z01, ?_⟩, fun c => ⟨fun e => ⟨z01, ?_⟩, fun e => ⟨o01, ?_⟩⟩⟩
    · rw [c] at h; exact h
    · rw [Bool.not_eq_false] at c
      rw [iN_eq h1 h2 h3 h4] at e
      rw [c, decide_eq_true e] at h; exact h
    · rw [Bool.not_eq_false] at c
      rw [iN_eq h1 h2 h3 h4] at e
      rw [c, decide_eq_false e] at h; exact h
end
section
theorem c_hasNote {l : Launch} {E : EnvT} {d : Nat} {K : AV → Mem → Prop} {M : Mem} {r : Nat} {s : Nat} {z : Int} (hd : 1 ≤ d) (hV : VB (M r)) (hs : s < 8) (h1 : -2147483648 ≤ z) (h2 : z < 2147483648) (h : K (.int (iN (b2i (decide (0 ≤ z ∧ z < M r 4 s)))), 0) M) : CT l E d m_Choir_hasNote [(.ref r, 11), (.int (iN s), 0), (.int (iN z), 0)] M K := by
  refine CT.of pn_Choir (Nat.le_of_ble_eq_true rfl) ?_
  refine b_Choir_hasNote_0 hd ?_
  have hn := hV.le s hs
  simp (disch := omega) only [true_or, or_true, true_and, iN_lt, iN_le, iN_eq, iN_lt0, iN_le0, iN_0le, iN_0lt, iN_eq0, iN_eq1, iN_add, iN_sub, iN_mul, iN_neg, iN_clN, toI_int]
  refine ⟨fun c => ?_, fun c => ⟨iN_in (by omega) (by omega) (by omega), fun c2 => ?_, fun c2 => ?_⟩⟩
  · rw [decide_eq_false (by omega)] at h; exact h
  · rw [decide_eq_false (by omega)] at h; exact h
  · rw [decide_eq_true (by omega)] at h; exact h
theorem popc_lo (m : Nat) : 0 ≤ popc m := by
  unfold popc
  simp only [cntN]
  have := b2i_lo (m.testBit 0); have := b2i_lo (m.testBit 1); have := b2i_lo (m.testBit 2); have := b2i_lo (m.testBit 3)
  have := b2i_lo (m.testBit 4); have := b2i_lo (m.testBit 5); have := b2i_lo (m.testBit 6); have := b2i_lo (m.testBit 7)
  omega
theorem popc_hi (m : Nat) : popc m ≤ 8 := by
  unfold popc
  simp only [cntN]
  have := b2i_hi (m.testBit 0); have := b2i_hi (m.testBit 1); have := b2i_hi (m.testBit 2); have := b2i_hi (m.testBit 3)
  have := b2i_hi (m.testBit 4); have := b2i_hi (m.testBit 5); have := b2i_hi (m.testBit 6); have := b2i_hi (m.testBit 7)
  omega
theorem c_livingCount {l : Launch} {E : EnvT} {d : Nat} {K : AV → Mem → Prop} {M : Mem} {r : Nat} (hd : 2 ≤ d) (hV : VB (M r)) (h : K (.int (iN (M r 0 8 - popc (M r 0 12).toNat)), 0) M) : CT l E d m_Choir_livingCount [(.ref r, 11)] M K := by
  refine CT.of pn_Choir (Nat.le_of_ble_eq_true rfl) ?_
  have hm := hV.ms 12 (by omega) (by omega)
  refine b_Choir_livingCount_0 (by omega) (c_bitCount (by omega) hm.1 hm.2 ?_)
  rw [toI_int, iN_sub]
  exact h
def noteOfC (C : Ch) (x : Int) (b : Nat) : Int := fnd (fun k => C 6 (6 * b + k) == x) (C 4 b).toNat
theorem fndF_ge (p : Nat → Bool) : ∀ (m i : Nat), fndF p i m = -1 ∨ ∃ j : Nat, fndF p i m = j ∧ i ≤ j ∧ j < i + m ∧ p j = true ∧ ∀ q, i ≤ q → q < j → p q = false
  | 0, _ => Or.inl rfl
  | m + 1, i => by
    unfold fndF
    split
    · rename_i h; exact Or.inr ⟨i, rfl, by omega, by omega, h, fun q _ _ => by omega⟩
    · rename_i h
      rcases fndF_ge p m (i + 1) with e | ⟨j, e, h1, h2, h3, h4⟩
      · exact Or.inl e
      · refine Or.inr ⟨j, e, by omega, by omega, h3, fun q q1 q2 => ?_⟩
        by_cases hq : q = i
        · subst hq; simpa using h
        · exact h4 q (by omega) q2
theorem fndF_none (p : Nat → Bool) : ∀ (m i : Nat), fndF p i m = -1 ↔ ∀ q, i ≤ q → q < i + m → p q = false
  | 0, i => by simp [fndF]; omega
  | m + 1, i => by
    unfold fndF
    split
    · rename_i h
      constructor
      · intro e; omega
      · intro hq; rw [hq i (by omega) (by omega)] at h; cases h
    · rename_i h
      rw [fndF_none p m (i + 1)]
      constructor
      · intro hq q q1 q2
        by_cases e : q = i
        · subst e; simpa using h
        · exact hq q (by omega) (by omega)
      · intro hq q q1 q2; exact hq q (by omega) (by omega)
theorem fndF_some (p : Nat → Bool) {m i j : Nat} (h1 : i ≤ j) (h2 : j < i + m) (h3 : p j = true) (h4 : ∀ q, i ≤ q → q < j → p q = false) : fndF p i m = j := by
  rcases fndF_ge p m i with e | ⟨j', e, a1, a2, a3, a4⟩
  · rw [(fndF_none p m i).mp e j h1 h2] at h3; cases h3
  · rw [e]
    rcases Nat.lt_trichotomy j j' with c | c | c
    · rw [a4 j h1 c] at h3; cases h3
    · rw [c]
    · rw [h4 j' a1 c] at a3; cases a3
theorem slotOf_note (C : Ch) (x : Int) (b : Nat) : slotOfC C x b = if noteOfC C x b = -1 then -1 else 6 * b + noteOfC C x b := by
  unfold slotOfC noteOfC fnd
  rcases fndF_ge (fun k => C 6 (6 * b + k) == x) (C 4 b).toNat 0 with e | ⟨j, e, h1, h2, h3, h4⟩
  · rw [e, if_pos rfl, fndF_none]
    rw [fndF_none] at e
    intro q q1 q2
    have := e (q - 6 * b) (by omega) (by omega)
    rw [show 6 * b + (q - 6 * b) = q by omega] at this
    exact this
  · rw [e, if_neg (by omega)]
    rw [fndF_some (j := 6 * b + j) _ (by omega) (by omega) h3]
    · push_cast; rfl
    · intro q q1 q2
      have := h4 (q - 6 * b) (by omega) (by omega)
      rw [show 6 * b + (q - 6 * b) = q by omega] at this
      exact this
theorem slotOf_rng {C : Ch} (hV : VB C) (x : Int) {b : Nat} (hb : b < 8) : slotOfC C x b = -1 ∨ ∃ i : Nat, slotOfC C x b = i ∧ 6 * b ≤ i ∧ i < 6 * b + (C 4 b).toNat ∧ i < 48 ∧ C 6 i = x := by
  have hl := hV.le b hb
  rcases fndF_ge (fun i => C 6 i == x) (C 4 b).toNat (6 * b) with e | ⟨j, e, h1, h2, h3, -⟩
  · exact Or.inl e
  · exact Or.inr ⟨j, e, h1, h2, by omega, by simpa using h3⟩
theorem c_slotOfV {l : Launch} {E : EnvT} {d : Nat} {K : AV → Mem → Prop} {M : Mem} {r : Nat} {x : Int} {b : Nat} (hd : 1 ≤ d) (hV : VB (M r)) (hb : b < 8) (hx1 : -1 ≤ x) (hx2 : x < 100) (h : K (.int (iN (slotOfC (M r) x b)), 0) M) : CT l E d m_Choir_slotOf [(.ref r, 11), (.int (iN x), 0), (.int (iN b), 0)] M K :=
  c_slotOf hd hb hx1 hx2 (hV.le b hb).1 (hV.le b hb).2 (fun i hi => ⟨(hV.ho i hi).1, by have := (hV.ho i hi).2; omega⟩) h
def debtC (C : Ch) (x : Int) (b : Nat) : Int := if slotOfC C x b = -1 then 0 else C 7 (slotOfC C x b).toNat
theorem debtC_rng {C : Ch} (hV : VB C) (x : Int) {b : Nat} (hb : b < 8) : 0 ≤ debtC C x b ∧ debtC C x b ≤ 999 := by
  unfold debtC
  rcases slotOf_rng hV x hb with e | ⟨i, e, -, -, hi, -⟩
  · rw [e, if_pos rfl]; omega
  · rw [e, if_neg (by omega)]; exact hV.de i hi
theorem c_debtAtNote {l : Launch} {E : EnvT} {d : Nat} {K : AV → Mem → Prop} {M : Mem} {r : Nat} {x : Int} {b : Nat} (hd : 2 ≤ d) (hV : VB (M r)) (hb : b < 8) (hx1 : -1 ≤ x) (hx2 : x < 100) (h : K (.int (iN (debtC (M r) x b)), 0) M) : CT l E d m_Choir_debtAtNote [(.ref r, 11), (.int (iN x), 0), (.int (iN b), 0)] M K := by
  refine CT.of pn_Choir (Nat.le_of_ble_eq_true rfl) ?_
  refine b_Choir_debtAtNote_0 (by omega) (c_slotOfV (by omega) hV hb hx1 hx2 ?_)
  unfold debtC at h
  rcases slotOf_rng hV x hb with e | ⟨i, e, -, -, hi, -⟩
  · rw [e] at h ⊢
    simp only [toI_int]
    exact ⟨fun c => absurd trivial c, fun _ => h⟩
  · rw [e] at h ⊢
    simp only [toI_int]
    rw [iN_eq (by omega) (by omega) (by omega) (by omega)]
    rw [if_neg (by omega)] at h
    rw [iN_clN (by omega)]
    exact ⟨fun c => ⟨iN_in (by omega) (by omega) (by omega), h⟩, fun c => absurd c (by omega)⟩
def placeOfC (C : Ch) (x y : Int) : Int := fnd (fun k => C 9 k == x && C 10 k == y) (C 8 3).toNat
theorem placeOf_rng {C : Ch} (hV : VB C) (x y : Int) : placeOfC C x y = -1 ∨ ∃ i : Nat, placeOfC C x y = i ∧ i < (C 8 3).toNat ∧ i < 8 ∧ C 9 i = x ∧ C 10 i = y := by
  have hl := hV.w
  unfold placeOfC fnd
  rcases fndF_ge (fun k => C 9 k == x && C 10 k == y) (C 8 3).toNat 0 with e | ⟨j, e, h1, h2, h3, -⟩
  · exact Or.inl e
  · simp only [Bool.and_eq_true, beq_iff_eq] at h3
    exact Or.inr ⟨j, e, by omega, by omega, h3.1, h3.2⟩
theorem c_placeOf {l : Launch} {E : EnvT} {d : Nat} {K : AV → Mem → Prop} {M : Mem} {r : Nat} {x y : Int} (hd : 1 ≤ d) (hV : VB (M r)) (hx1 : -1 ≤ x) (hx2 : x < 100) (hy1 : -1 ≤ y) (hy2 : y < 100) (h : K (.int (iN (placeOfC (M r) x y)), 0) M) : CT l E d m_Waiting_placeOf [(.ref r, 19), (.int (iN x), 0), (.int (iN y), 0)] M K := by
  refine CT.of pn_Waiting (Nat.le_of_ble_eq_true rfl) ?_
  refine b_Waiting_placeOf_0 hd ?_
  have hw := hV.w
  obtain ⟨n, hn⟩ : ∃ n : Nat, M r 8 3 = n := ⟨(M r 8 3).toNat, (by omega)⟩
  have key : ∀ m i : Nat, i + m = n → placeOfC (M r) x y = fndF (fun k => M r 9 k == x && M r 10 k == y) i m → G l E d m_Waiting_placeOf 2 [(0, (.ref r, 19)), (1, (.int (iN x), 0)), (2, (.int (iN y), 0)), (3, (.int (iN i), 0))] [] M K := by
    intro m
    induction m with
    | zero =>
      intro i hi he
      refine b_Waiting_placeOf_2 hd ?_
      rw [hn]
      refine ⟨fun _ => ?_, fun c => absurd ((iN_le (by omega) (by omega) (by omega) (by omega)).mpr (by omega)) c⟩
      rw [he] at h
      exact h
    | succ m ih =>
      intro i hi he
      refine b_Waiting_placeOf_2 hd ?_
      have ha := hV.wa i (by omega)
      have hb := hV.wb i (by omega)
      rw [hn]
      simp (disch := omega) only [true_or, or_true, true_and, iN_lt, iN_le, iN_eq, iN_lt0, iN_le0, iN_0le, iN_0lt, iN_eq0, iN_eq1, iN_add, iN_sub, iN_mul, iN_neg, iN_clN, toI_int]
      refine ⟨fun c => absurd c (by omega), fun _ => ⟨iN_in (by omega) (by omega) (by omega), fun c => ?_, fun c => ⟨iN_in (by omega) (by omega) (by omega), fun c2 => ?_, fun c2 => ?_⟩⟩⟩
      · refine ih (i + 1) (by omega) ?_
        rw [he]
        simp [fndF, c]
      · refine ih (i + 1) (by omega) ?_
        rw [he]
        simp [fndF, c2]
      · rw [he] at h
        simpa [fndF, c, c2] using h
  exact key n 0 (by omega) (by unfold placeOfC fnd; rw [hn]; rfl)
def owedC (C : Ch) (x : Int) (b : Nat) : Int := debtC C x b + if placeOfC C x b = -1 then 0 else C 11 (placeOfC C x b).toNat
theorem owedC_rng {C : Ch} (hV : VB C) (x : Int) {b : Nat} (hb : b < 8) : 0 ≤ owedC C x b ∧ owedC C x b ≤ 1998 := by
  have h1 := debtC_rng hV x hb
  unfold owedC
  rcases placeOf_rng hV x b with e | ⟨i, e, -, hi, -, -⟩
  · rw [e, if_pos rfl]; omega
  · rw [e, if_neg (by omega)]
    have := hV.wm i hi
    rw [show ((i : Int)).toNat = i from rfl]
    omega
theorem c_owedBetween {l : Launch} {E : EnvT} {d : Nat} {K : AV → Mem → Prop} {M : Mem} {r : Nat} {x : Int} {b : Nat} (hd : 3 ≤ d) (hV : VB (M r)) (hb : b < 8) (hx1 : -1 ≤ x) (hx2 : x < 100) (h : K (.int (iN (owedC (M r) x b)), 0) M) : CT l E d m_Choir_owedBetween [(.ref r, 11), (.int (iN x), 0), (.int (iN b), 0)] M K := by
  refine CT.of pn_Choir (Nat.le_of_ble_eq_true rfl) ?_
  refine b_Choir_owedBetween_0 (by omega) (c_placeOf (by omega) hV hx1 hx2 (by omega) (by omega) (c_debtAtNote (by omega) hV hb hx1 hx2 ?_))
  unfold owedC at h
  rcases placeOf_rng hV x b with e | ⟨i, e, -, hi, -, -⟩
  · rw [e] at h ⊢
    simp only [toI_int, iN_add]
    exact ⟨fun c => absurd trivial c, fun _ => h⟩
  · rw [e] at h ⊢
    simp only [toI_int]
    rw [iN_eq (by omega) (by omega) (by omega) (by omega), iN_clN (by omega), iN_add]
    rw [if_neg (by omega)] at h
    exact ⟨fun c => ⟨iN_in (by omega) (by omega) (by omega), h⟩, fun c => absurd c (by omega)⟩
end
section
theorem sumN_rng {f : Nat → Int} {lo hi : Int} : ∀ n : Nat, (∀ k, k < n → lo ≤ f k ∧ f k ≤ hi) → n * lo ≤ sumN f n ∧ sumN f n ≤ n * hi
  | 0, _ => by simp [sumN]
  | n + 1, h => by
    have h1 := sumN_rng n (fun k hk => h k (by omega))
    have h2 := h n (by omega)
    simp only [sumN]
    push_cast
    rw [Int.add_mul, Int.add_mul]
    omega
theorem cntN_rng (p : Nat → Bool) : ∀ n : Nat, 0 ≤ cntN p n ∧ cntN p n ≤ n
  | 0 => by simp [cntN]
  | n + 1 => by
    have h1 := cntN_rng p n
    have := b2i_lo (p n)
    have := b2i_hi (p n)
    simp only [cntN]
    omega
def ifz (c : Bool) (v : Int) : Int := if c then v else 0
theorem ifz_rng {c : Bool} {v : Int} (h1 : 0 ≤ v) (h2 : v ≤ 999) : 0 ≤ ifz c v ∧ ifz c v ≤ 999 := by
  unfold ifz; split <;> omega
def owesC (C : Ch) (x : Int) : Int := sumN (fun i => ifz (C 6 i == x) (C 7 i)) 48 + sumN (fun k => ifz (C 9 k == x) (C 11 k)) (C 8 3).toNat
def isOwC (C : Ch) (s : Nat) : Int := sumN (fun k => C 7 (6 * s + k)) (C 4 s).toNat + sumN (fun k => ifz (C 10 k == s) (C 11 k)) (C 8 3).toNat
theorem s48_rng {C : Ch} (hV : VB C) (x : Int) {n : Nat} (hn : n ≤ 48) : 0 ≤ sumN (fun i => ifz (C 6 i == x) (C 7 i)) n ∧ sumN (fun i => ifz (C 6 i == x) (C 7 i)) n ≤ 47952 := by
  have := sumN_rng (f := fun i => ifz (C 6 i == x) (C 7 i)) (lo := 0) (hi := 999) n (fun k hk => ifz_rng (hV.de k (by omega)).1 (hV.de k (by omega)).2)
  omega
theorem sw_rng {C : Ch} (hV : VB C) (j : Nat) (x : Int) {n : Nat} (hn : n ≤ 8) : 0 ≤ sumN (fun k => ifz (C j k == x) (C 11 k)) n ∧ sumN (fun k => ifz (C j k == x) (C 11 k)) n ≤ 7992 := by
  have := sumN_rng (f := fun k => ifz (C j k == x) (C 11 k)) (lo := 0) (hi := 999) n (fun k hk => ifz_rng (hV.wm k (by omega)).1 (hV.wm k (by omega)).2)
  omega
theorem owesC_rng {C : Ch} (hV : VB C) (x : Int) : 0 ≤ owesC C x ∧ owesC C x ≤ 60000 := by
  have hw := hV.w
  have h1 := s48_rng hV x (n := 48) (by omega)
  have h2 := sw_rng hV 9 x (n := (C 8 3).toNat) (by omega)
  unfold owesC
  omega
theorem sl_rng {C : Ch} (hV : VB C) {s n : Nat} (hs : s < 8) (hn : n ≤ 6) : 0 ≤ sumN (fun k => C 7 (6 * s + k)) n ∧ sumN (fun k => C 7 (6 * s + k)) n ≤ 5994 := by
  have := sumN_rng (f := fun k => C 7 (6 * s + k)) (lo := 0) (hi := 999) n (fun k hk => hV.de (6 * s + k) (by omega))
  omega
theorem isOwC_rng {C : Ch} (hV : VB C) {s : Nat} (hs : s < 8) : 0 ≤ isOwC C s ∧ isOwC C s ≤ 60000 := by
  have hw := hV.w
  have hl := hV.le s hs
  have h1 := sl_rng hV (s := s) (n := (C 4 s).toNat) hs (by omega)
  have h2 := sw_rng hV 10 s (n := (C 8 3).toNat) (by omega)
  unfold isOwC
  omega
theorem c_owesInAll {l : Launch} {E : EnvT} {d : Nat} {K : AV → Mem → Prop} {M : Mem} {r : Nat} {x : Int} (hd : 1 ≤ d) (hV : VB (M r)) (hx1 : -1 ≤ x) (hx2 : x < 100) (h : K (.int (iN (owesC (M r) x)), 0) M) : CT l E d m_Choir_owesInAll [(.ref r, 11), (.int (iN x), 0)] M K := by
  refine CT.of pn_Choir (Nat.le_of_ble_eq_true rfl) ?_
  refine b_Choir_owesInAll_0 hd ?_
  have hw := hV.w
  obtain ⟨n, hn⟩ : ∃ n : Nat, M r 8 3 = n := ⟨(M r 8 3).toNat, (by omega)⟩
  unfold owesC at h
  rw [hn] at h
  have k2 : ∀ k, k ≤ n → G l E d m_Choir_owesInAll 37 [(0, (.ref r, 11)), (1, (.int (iN x), 0)), (2, (.int (iN (sumN (fun i => ifz (M r 6 i == x) (M r 7 i)) 48 + sumN (fun k => ifz (M r 9 k == x) (M r 11 k)) k)), 0)), (3, (.int (iN k), 0))] [] M K := by
    refine dn n ?_ (fun k hk ih => ?_)
    · refine b_Choir_owesInAll_37 hd ?_
      rw [hn]
      exact ⟨fun _ => h, fun c => absurd ((iN_le (by omega) (by omega) (by omega) (by omega)).mpr (by omega)) c⟩
    · refine b_Choir_owesInAll_37 hd ?_
      have ha := hV.wa k (by omega)
      rw [hn]
      simp (disch := omega) only [true_or, or_true, true_and, iN_lt, iN_le, iN_eq, iN_lt0, iN_le0, iN_0le, iN_0lt, iN_eq0, iN_eq1, iN_add, iN_sub, iN_mul, iN_neg, iN_clN, toI_int]
      refine ⟨fun c => absurd c (by omega), fun _ => ⟨iN_in (by omega) (by omega) (by omega), fun c => ?_, fun c => ⟨iN_in (by omega) (by omega) (by omega), ?_⟩⟩⟩
      · simpa [sumN, ifz, c] using ih
      · simpa [sumN, ifz, c, Int.add_assoc] using ih
  have k1 : ∀ k, k ≤ 48 → G l E d m_Choir_owesInAll 4 [(0, (.ref r, 11)), (1, (.int (iN x), 0)), (2, (.int (iN (sumN (fun i => ifz (M r 6 i == x) (M r 7 i)) k)), 0)), (3, (.int (iN k), 0))] [] M K := by
    refine dn 48 ?_ (fun k hk ih => ?_)
    · refine b_Choir_owesInAll_4 hd ⟨fun _ => ?_, fun c => absurd ((iN_le (by omega) (by omega) (by omega) (by omega)).mpr (by omega)) c⟩
      have := k2 0 (by omega)
      simpa [sumN] using this
    · refine b_Choir_owesInAll_4 hd ?_
      have ha := hV.ho k (by omega)
      simp (disch := omega) only [true_or, or_true, true_and, iN_lt, iN_le, iN_eq, iN_lt0, iN_le0, iN_0le, iN_0lt, iN_eq0, iN_eq1, iN_add, iN_sub, iN_mul, iN_neg, iN_clN, toI_int]
      refine ⟨fun c => absurd c (by omega), fun _ => ⟨iN_in (by omega) (by omega) (by omega), fun c => ?_, fun c => ⟨iN_in (by omega) (by omega) (by omega), ?_⟩⟩⟩
      · simpa [sumN, ifz, c] using ih
      · simpa [sumN, ifz, c] using ih
  exact k1 0 (by omega)
theorem c_isOwedInAll {l : Launch} {E : EnvT} {d : Nat} {K : AV → Mem → Prop} {M : Mem} {r : Nat} {s : Nat} (hd : 2 ≤ d) (hV : VB (M r)) (hs : s < 8) (h : K (.int (iN (isOwC (M r) s)), 0) M) : CT l E d m_Choir_isOwedInAll [(.ref r, 11), (.int (iN s), 0)] M K := by
  refine CT.of pn_Choir (Nat.le_of_ble_eq_true rfl) ?_
  refine b_Choir_isOwedInAll_0 (by omega) ?_
  have hw := hV.w
  have hl := hV.le s hs
  obtain ⟨n, hn⟩ : ∃ n : Nat, M r 8 3 = n := ⟨(M r 8 3).toNat, (by omega)⟩
  obtain ⟨q, hq⟩ : ∃ q : Nat, M r 4 s = q := ⟨(M r 4 s).toNat, (by omega)⟩
  unfold isOwC at h
  rw [hn, hq] at h
  have k2 : ∀ k, k ≤ n → G l E d m_Choir_isOwedInAll 35 [(0, (.ref r, 11)), (1, (.int (iN s), 0)), (2, (.int (iN (sumN (fun k => M r 7 (6 * s + k)) q + sumN (fun k => ifz (M r 10 k == s) (M r 11 k)) k)), 0)), (3, (.int (iN k), 0))] [] M K := by
    refine dn n ?_ (fun k hk ih => ?_)
    · refine b_Choir_isOwedInAll_35 (by omega) ?_
      rw [hn]
      exact ⟨fun _ => h, fun c => absurd ((iN_le (by omega) (by omega) (by omega) (by omega)).mpr (by omega)) c⟩
    · refine b_Choir_isOwedInAll_35 (by omega) ?_
      have ha := hV.wb k (by omega)
      rw [hn]
      simp (disch := omega) only [true_or, or_true, true_and, iN_lt, iN_le, iN_eq, iN_lt0, iN_le0, iN_0le, iN_0lt, iN_eq0, iN_eq1, iN_add, iN_sub, iN_mul, iN_neg, iN_clN, toI_int]
      refine ⟨fun c => absurd c (by omega), fun _ => ⟨iN_in (by omega) (by omega) (by omega), fun c => ?_, fun c => ⟨iN_in (by omega) (by omega) (by omega), ?_⟩⟩⟩
      · simpa [sumN, ifz, c] using ih
      · simpa [sumN, ifz, c, Int.add_assoc] using ih
  have k1 : ∀ k, k ≤ q → G l E d m_Choir_isOwedInAll 4 [(0, (.ref r, 11)), (1, (.int (iN s), 0)), (2, (.int (iN (sumN (fun k => M r 7 (6 * s + k)) k)), 0)), (3, (.int (iN k), 0))] [] M K := by
    refine dn q ?_ (fun k hk ih => ?_)
    · refine b_Choir_isOwedInAll_4 (by omega) ?_
      simp (disch := omega) only [true_or, or_true, true_and, iN_lt, iN_le, iN_eq, iN_lt0, iN_le0, iN_0le, iN_0lt, iN_eq0, iN_eq1, iN_add, iN_sub, iN_mul, iN_neg, iN_clN, toI_int, hq]
      refine ⟨iN_in (by omega) (by omega) (by omega), fun _ => ?_, fun c => absurd (by omega) c⟩
      have := k2 0 (by omega)
      simpa [sumN] using this
    · refine b_Choir_isOwedInAll_4 (by omega) ?_
      simp (disch := omega) only [true_or, or_true, true_and, iN_lt, iN_le, iN_eq, iN_lt0, iN_le0, iN_0le, iN_0lt, iN_eq0, iN_eq1, iN_add, iN_sub, iN_mul, iN_neg, iN_clN, toI_int, hq]
      refine ⟨iN_in (by omega) (by omega) (by omega), fun c => absurd c (by omega), fun _ => c_slot (by omega) ?_⟩
      rw [show (s : Int) * 6 + k = ((6 * s + k : Nat) : Int) by push_cast; omega]
      simp (disch := omega) only [true_or, or_true, true_and, iN_lt, iN_le, iN_eq, iN_lt0, iN_le0, iN_0le, iN_0lt, iN_eq0, iN_eq1, iN_add, iN_sub, iN_mul, iN_neg, iN_clN, toI_int]
      refine ⟨iN_in (by omega) (by omega) (by omega), ?_⟩
      simpa [sumN] using ih
  exact k1 0 (by omega)
def balC (C : Ch) (s : Nat) : Int := isOwC C s - owesC C s
theorem c_balanceOf {l : Launch} {E : EnvT} {d : Nat} {K : AV → Mem → Prop} {M : Mem} {r : Nat} {s : Nat} (hd : 3 ≤ d) (hV : VB (M r)) (hs : s < 8) (h : K (.int (iN (balC (M r) s)), 0) M) : CT l E d m_Choir_balanceOf [(.ref r, 11), (.int (iN s), 0)] M K := by
  refine CT.of pn_Choir (Nat.le_of_ble_eq_true rfl) ?_
  refine b_Choir_balanceOf_0 (by omega) (c_isOwedInAll (by omega) hV hs (c_owesInAll (by omega) hV (by omega) (by omega) ?_))
  rw [toI_int, toI_int, iN_sub]
  exact h
def lackC (C : Ch) (s : Nat) : Int := max 0 (-(C 2 s + balC C s))
theorem balC_rng {C : Ch} (hV : VB C) {s : Nat} (hs : s < 8) : -60000 ≤ balC C s ∧ balC C s ≤ 60000 := by
  have h1 := isOwC_rng hV hs
  have h2 := owesC_rng hV s
  unfold balC
  omega
theorem c_lacks {l : Launch} {E : EnvT} {d : Nat} {K : AV → Mem → Prop} {M : Mem} {r : Nat} {s : Nat} (hd : 4 ≤ d) (hV : VB (M r)) (hs : s < 8) (h : K (.int (iN (lackC (M r) s)), 0) M) : CT l E d m_Choir_lacks [(.ref r, 11), (.int (iN s), 0)] M K := by
  refine CT.of pn_Choir (Nat.le_of_ble_eq_true rfl) ?_
  have h1 := balC_rng hV hs
  have h2 := hV.pu s hs
  refine b_Choir_lacks_0 (by omega) ⟨iN_in (by omega) (by omega) (by omega), c_balanceOf (by omega) hV hs ?_⟩
  rw [iN_clN (by omega), toI_int, iN_add, iN_neg]
  refine c_max (by omega) (by omega) (by omega) (by omega) (by omega) ?_
  exact h
theorem c_debtsAtNotes {l : Launch} {E : EnvT} {d : Nat} {K : AV → Mem → Prop} {M : Mem} {r : Nat} (hd : 1 ≤ d) (hV : VB (M r)) (h : K (.int (iN (cntN (fun i => decide (0 < M r 7 i)) 48)), 0) M) : CT l E d m_Choir_debtsAtNotes [(.ref r, 11)] M K := by
  refine CT.of pn_Choir (Nat.le_of_ble_eq_true rfl) ?_
  refine b_Choir_debtsAtNotes_0 hd ?_
  have k1 : ∀ k, k ≤ 48 → G l E d m_Choir_debtsAtNotes 4 [(0, (.ref r, 11)), (1, (.int (iN (cntN (fun i => decide (0 < M r 7 i)) k)), 0)), (2, (.int (iN k), 0))] [] M K := by
    refine dn 48 ?_ (fun k hk ih => ?_)
    · exact b_Choir_debtsAtNotes_4 hd ⟨fun _ => h, fun c => absurd ((iN_le (by omega) (by omega) (by omega) (by omega)).mpr (by omega)) c⟩
    · refine b_Choir_debtsAtNotes_4 hd ?_
      have ha := hV.de k (by omega)
      simp (disch := omega) only [true_or, or_true, true_and, iN_lt, iN_le, iN_eq, iN_lt0, iN_le0, iN_0le, iN_0lt, iN_eq0, iN_eq1, iN_add, iN_sub, iN_mul, iN_neg, iN_clN, toI_int]
      refine ⟨fun c => absurd c (by omega), fun _ => ⟨iN_in (by omega) (by omega) (by omega), fun c => ?_, fun c => ?_⟩⟩
      · have e : decide (0 < M r 7 k) = false := decide_eq_false (by omega)
        simpa [cntN, b2i, e] using ih
      · have e : decide (0 < M r 7 k) = true := decide_eq_true (by omega)
        simp only [cntN, e, b2i, if_true] at ih
        exact ih
  exact k1 0 (by omega)
theorem c_allCoins {l : Launch} {E : EnvT} {d : Nat} {K : AV → Mem → Prop} {M : Mem} {r : Nat} (hd : 1 ≤ d) (hV : VB (M r)) (h : K (.int (iN (sumN (M r 2) (M r 0 8).toNat)), 0) M) : CT l E d m_Choir_allCoins [(.ref r, 11)] M K := by
  refine CT.of pn_Choir (Nat.le_of_ble_eq_true rfl) ?_
  refine b_Choir_allCoins_0 hd ?_
  have hw := hV.n
  obtain ⟨n, hn⟩ : ∃ n : Nat, M r 0 8 = n := ⟨(M r 0 8).toNat, (by omega)⟩
  rw [hn] at h
  have k1 : ∀ k, k ≤ n → G l E d m_Choir_allCoins 4 [(0, (.ref r, 11)), (1, (.int (iN (sumN (M r 2) k)), 0)), (2, (.int (iN k), 0))] [] M K := by
    refine dn n ?_ (fun k hk ih => ?_)
    · refine b_Choir_allCoins_4 hd ?_
      rw [hn]
      exact ⟨fun _ => h, fun c => absurd ((iN_le (by omega) (by omega) (by omega) (by omega)).mpr (by omega)) c⟩
    · refine b_Choir_allCoins_4 hd ?_
      rw [hn]
      simp (disch := omega) only [true_or, or_true, true_and, iN_lt, iN_le, iN_eq, iN_lt0, iN_le0, iN_0le, iN_0lt, iN_eq0, iN_eq1, iN_add, iN_sub, iN_mul, iN_neg, iN_clN, toI_int]
      refine ⟨fun c => absurd c (by omega), fun _ => ⟨iN_in (by omega) (by omega) (by omega), ?_⟩⟩
      simpa [sumN] using ih
  exact k1 0 (by omega)
def grownC (h : Int) (x : Int) : Int := if x = 0 ∨ h = 0 then x else min 999 (x + max 1 (x * h / 100))
theorem grownC_rng {h x : Int} (h1 : 0 ≤ h) (h2 : h ≤ 50) (h3 : 0 ≤ x) (h4 : x ≤ 999) : 0 ≤ grownC h x ∧ grownC h x ≤ 999 := by
  unfold grownC
  split <;> omega
theorem mul_rng {x h : Int} (h1 : 0 ≤ h) (h2 : h ≤ 50) (h3 : 0 ≤ x) (h4 : x ≤ 999) : 0 ≤ x * h ∧ x * h ≤ 49950 := by
  refine ⟨Int.mul_nonneg h3 h1, ?_⟩
  have := Int.mul_le_mul h4 h2 h1 (by omega : (0 : Int) ≤ 999)
  omega
theorem c_grown {l : Launch} {E : EnvT} {d : Nat} {K : AV → Mem → Prop} {M : Mem} {r : Nat} {x : Int} (hd : 2 ≤ d) (hV : VB (M r)) (h1 : 0 ≤ x) (h2 : x ≤ 999) (h : K (.int (iN (grownC (M r 0 13) x)), 0) M) : CT l E d m_Choir_grown [(.ref r, 11), (.int (iN x), 0)] M K := by
  refine CT.of pn_Choir (Nat.le_of_ble_eq_true rfl) ?_
  have hh := hV.hum
  have hm := mul_rng hh.1 hh.2 h1 h2
  refine b_Choir_grown_0 (by omega) ?_
  unfold grownC at h
  rw [iN_eq0 (by omega) (by omega), iN_eq0 (by omega) (by omega), iN_mul, iN_div (by omega) (by omega) (by omega) (by omega)]
  refine ⟨fun c => ?_, fun c => ⟨fun c2 => ⟨by decide +kernel, c_max (by omega) (by omega) (by omega) (by omega) (by omega) ?_⟩, fun c2 => ?_⟩⟩
  · rw [if_pos (Or.inl c)] at h; exact h
  · rw [if_neg (by omega)] at h
    rw [toI_int, iN_add]
    exact c_min (by omega) (by omega) (by omega) (by omega) (by omega) h
  · rw [if_pos (Or.inr c2)] at h; exact h
def growsC (h : Int) : Nat → Int → Int
  | 0, x => x
  | n + 1, x => grownC h (growsC h n x)
theorem growsC_rng {h x : Int} (h1 : 0 ≤ h) (h2 : h ≤ 50) (h3 : 0 ≤ x) (h4 : x ≤ 999) : ∀ n, 0 ≤ growsC h n x ∧ growsC h n x ≤ 999
  | 0 => ⟨h3, h4⟩
  | n + 1 => grownC_rng h1 h2 (growsC_rng h1 h2 h3 h4 n).1 (growsC_rng h1 h2 h3 h4 n).2
theorem growsC_fix {h x : Int} {n : Nat} (e : growsC h (n + 1) x = growsC h n x) : ∀ m, growsC h (n + m) x = growsC h n x
  | 0 => rfl
  | m + 1 => by
    show grownC h (growsC h (n + m) x) = _
    rw [growsC_fix e m]
    exact e
theorem c_grownIn {l : Launch} {E : EnvT} {d : Nat} {K : AV → Mem → Prop} {M : Mem} {r : Nat} {x : Int} {n : Nat} (hd : 3 ≤ d) (hV : VB (M r)) (h1 : 0 ≤ x) (h2 : x ≤ 999) (hn : n ≤ 999) (h : K (.int (iN (growsC (M r 0 13) n x)), 0) M) : CT l E d m_Choir_grownIn [(.ref r, 11), (.int (iN x), 0), (.int (iN n), 0)] M K := by
  refine CT.of pn_Choir (Nat.le_of_ble_eq_true rfl) ?_
  have hh := hV.hum
  refine b_Choir_grownIn_0 (by omega) ?_
  have k1 : ∀ k, k ≤ n → G l E d m_Choir_grownIn 5 [(0, (.ref r, 11)), (2, (.int (iN n), 0)), (3, (.int (iN (growsC (M r 0 13) k x)), 0)), (4, (.int (iN k), 0))] [] M K := by
    refine dn n ?_ (fun k hk ih => ?_)
    · refine b_Choir_grownIn_5 (by omega) ⟨fun _ => h, fun c => absurd ((iN_le (by omega) (by omega) (by omega) (by omega)).mpr (by omega)) c⟩
    · have g1 := growsC_rng hh.1 hh.2 h1 h2 k
      have g2 := growsC_rng hh.1 hh.2 h1 h2 (k + 1)
      refine b_Choir_grownIn_5 (by omega) ⟨fun c => absurd ((iN_le (by omega) (by omega) (by omega) (by omega)).mp c) (by omega), fun _ => c_grown (by omega) hV g1.1 g1.2 ?_⟩
      rw [toI_int]
      have e0 : grownC (M r 0 13) (growsC (M r 0 13) k x) = growsC (M r 0 13) (k + 1) x := rfl
      rw [e0, iN_eq (by omega) (by omega) (by omega) (by omega), iN_add]
      refine ⟨fun _ => ih, fun c => ?_⟩
      have e := growsC_fix c (n - k)
      rw [show k + (n - k) = n by omega] at e
      rw [e] at h
      exact h
  exact k1 0 (by omega)
end
section
theorem VB_2 {C : Ch} {k : Nat} {v : Int} (h : VB C) (h1 : 0 ≤ v) (h2 : v ≤ 9999) : VB (upd2 C 2 k v) := by
  obtain ⟨a1, a2, a3, a4, a5, a6, a7, a8, a9, a10, a11, a12, a13, a14, a15⟩ := h
  exact ⟨by rw [upd2_c C v (by decide : 0 ≠ 2)]; exact a1, by rw [upd2_c C v (by decide : 0 ≠ 2)]; exact a2, by rw [upd2_c C v (by decide : 0 ≠ 2)]; exact a3, by rw [upd2_c C v (by decide : 0 ≠ 2)]; exact a4, by rw [upd2_c C v (by decide : 0 ≠ 2)]; exact a5, fun j hj => by rw [upd2_at]; split; exact ⟨h1, h2⟩; exact a6 j hj, by rw [upd2_c C v (by decide : 3 ≠ 2)]; exact a7, by rw [upd2_c C v (by decide : 4 ≠ 2)]; exact a8, by rw [upd2_c C v (by decide : 5 ≠ 2)]; exact a9, by rw [upd2_c C v (by decide : 6 ≠ 2)]; exact a10, by rw [upd2_c C v (by decide : 7 ≠ 2)]; exact a11, by rw [upd2_c C v (by decide : 8 ≠ 2)]; exact a12, by rw [upd2_c C v (by decide : 9 ≠ 2)]; exact a13, by rw [upd2_c C v (by decide : 10 ≠ 2)]; exact a14, by rw [upd2_c C v (by decide : 11 ≠ 2)]; exact a15⟩
theorem VB_3 {C : Ch} {k : Nat} {v : Int} (h : VB C) (h1 : -1 ≤ v) (h2 : v < 8) : VB (upd2 C 3 k v) := by
  obtain ⟨a1, a2, a3, a4, a5, a6, a7, a8, a9, a10, a11, a12, a13, a14, a15⟩ := h
  exact ⟨by rw [upd2_c C v (by decide : 0 ≠ 3)]; exact a1, by rw [upd2_c C v (by decide : 0 ≠ 3)]; exact a2, by rw [upd2_c C v (by decide : 0 ≠ 3)]; exact a3, by rw [upd2_c C v (by decide : 0 ≠ 3)]; exact a4, by rw [upd2_c C v (by decide : 0 ≠ 3)]; exact a5, by rw [upd2_c C v (by decide : 2 ≠ 3)]; exact a6, fun j hj => by rw [upd2_at]; split; exact ⟨h1, h2⟩; exact a7 j hj, by rw [upd2_c C v (by decide : 4 ≠ 3)]; exact a8, by rw [upd2_c C v (by decide : 5 ≠ 3)]; exact a9, by rw [upd2_c C v (by decide : 6 ≠ 3)]; exact a10, by rw [upd2_c C v (by decide : 7 ≠ 3)]; exact a11, by rw [upd2_c C v (by decide : 8 ≠ 3)]; exact a12, by rw [upd2_c C v (by decide : 9 ≠ 3)]; exact a13, by rw [upd2_c C v (by decide : 10 ≠ 3)]; exact a14, by rw [upd2_c C v (by decide : 11 ≠ 3)]; exact a15⟩
theorem VB_4 {C : Ch} {k : Nat} {v : Int} (h : VB C) (h1 : 0 ≤ v) (h2 : v ≤ 6) : VB (upd2 C 4 k v) := by
  obtain ⟨a1, a2, a3, a4, a5, a6, a7, a8, a9, a10, a11, a12, a13, a14, a15⟩ := h
  exact ⟨by rw [upd2_c C v (by decide : 0 ≠ 4)]; exact a1, by rw [upd2_c C v (by decide : 0 ≠ 4)]; exact a2, by rw [upd2_c C v (by decide : 0 ≠ 4)]; exact a3, by rw [upd2_c C v (by decide : 0 ≠ 4)]; exact a4, by rw [upd2_c C v (by decide : 0 ≠ 4)]; exact a5, by rw [upd2_c C v (by decide : 2 ≠ 4)]; exact a6, by rw [upd2_c C v (by decide : 3 ≠ 4)]; exact a7, fun j hj => by rw [upd2_at]; split; exact ⟨h1, h2⟩; exact a8 j hj, by rw [upd2_c C v (by decide : 5 ≠ 4)]; exact a9, by rw [upd2_c C v (by decide : 6 ≠ 4)]; exact a10, by rw [upd2_c C v (by decide : 7 ≠ 4)]; exact a11, by rw [upd2_c C v (by decide : 8 ≠ 4)]; exact a12, by rw [upd2_c C v (by decide : 9 ≠ 4)]; exact a13, by rw [upd2_c C v (by decide : 10 ≠ 4)]; exact a14, by rw [upd2_c C v (by decide : 11 ≠ 4)]; exact a15⟩
theorem VB_5 {C : Ch} {k : Nat} {v : Int} (h : VB C) (h1 : 0 ≤ v) (h2 : v ≤ 24) : VB (upd2 C 5 k v) := by
  obtain ⟨a1, a2, a3, a4, a5, a6, a7, a8, a9, a10, a11, a12, a13, a14, a15⟩ := h
  exact ⟨by rw [upd2_c C v (by decide : 0 ≠ 5)]; exact a1, by rw [upd2_c C v (by decide : 0 ≠ 5)]; exact a2, by rw [upd2_c C v (by decide : 0 ≠ 5)]; exact a3, by rw [upd2_c C v (by decide : 0 ≠ 5)]; exact a4, by rw [upd2_c C v (by decide : 0 ≠ 5)]; exact a5, by rw [upd2_c C v (by decide : 2 ≠ 5)]; exact a6, by rw [upd2_c C v (by decide : 3 ≠ 5)]; exact a7, by rw [upd2_c C v (by decide : 4 ≠ 5)]; exact a8, fun j hj => by rw [upd2_at]; split; exact ⟨h1, h2⟩; exact a9 j hj, by rw [upd2_c C v (by decide : 6 ≠ 5)]; exact a10, by rw [upd2_c C v (by decide : 7 ≠ 5)]; exact a11, by rw [upd2_c C v (by decide : 8 ≠ 5)]; exact a12, by rw [upd2_c C v (by decide : 9 ≠ 5)]; exact a13, by rw [upd2_c C v (by decide : 10 ≠ 5)]; exact a14, by rw [upd2_c C v (by decide : 11 ≠ 5)]; exact a15⟩
theorem VB_6 {C : Ch} {k : Nat} {v : Int} (h : VB C) (h1 : -1 ≤ v) (h2 : v < 8) : VB (upd2 C 6 k v) := by
  obtain ⟨a1, a2, a3, a4, a5, a6, a7, a8, a9, a10, a11, a12, a13, a14, a15⟩ := h
  exact ⟨by rw [upd2_c C v (by decide : 0 ≠ 6)]; exact a1, by rw [upd2_c C v (by decide : 0 ≠ 6)]; exact a2, by rw [upd2_c C v (by decide : 0 ≠ 6)]; exact a3, by rw [upd2_c C v (by decide : 0 ≠ 6)]; exact a4, by rw [upd2_c C v (by decide : 0 ≠ 6)]; exact a5, by rw [upd2_c C v (by decide : 2 ≠ 6)]; exact a6, by rw [upd2_c C v (by decide : 3 ≠ 6)]; exact a7, by rw [upd2_c C v (by decide : 4 ≠ 6)]; exact a8, by rw [upd2_c C v (by decide : 5 ≠ 6)]; exact a9, fun j hj => by rw [upd2_at]; split; exact ⟨h1, h2⟩; exact a10 j hj, by rw [upd2_c C v (by decide : 7 ≠ 6)]; exact a11, by rw [upd2_c C v (by decide : 8 ≠ 6)]; exact a12, by rw [upd2_c C v (by decide : 9 ≠ 6)]; exact a13, by rw [upd2_c C v (by decide : 10 ≠ 6)]; exact a14, by rw [upd2_c C v (by decide : 11 ≠ 6)]; exact a15⟩
theorem VB_7 {C : Ch} {k : Nat} {v : Int} (h : VB C) (h1 : 0 ≤ v) (h2 : v ≤ 999) : VB (upd2 C 7 k v) := by
  obtain ⟨a1, a2, a3, a4, a5, a6, a7, a8, a9, a10, a11, a12, a13, a14, a15⟩ := h
  exact ⟨by rw [upd2_c C v (by decide : 0 ≠ 7)]; exact a1, by rw [upd2_c C v (by decide : 0 ≠ 7)]; exact a2, by rw [upd2_c C v (by decide : 0 ≠ 7)]; exact a3, by rw [upd2_c C v (by decide : 0 ≠ 7)]; exact a4, by rw [upd2_c C v (by decide : 0 ≠ 7)]; exact a5, by rw [upd2_c C v (by decide : 2 ≠ 7)]; exact a6, by rw [upd2_c C v (by decide : 3 ≠ 7)]; exact a7, by rw [upd2_c C v (by decide : 4 ≠ 7)]; exact a8, by rw [upd2_c C v (by decide : 5 ≠ 7)]; exact a9, by rw [upd2_c C v (by decide : 6 ≠ 7)]; exact a10, fun j hj => by rw [upd2_at]; split; exact ⟨h1, h2⟩; exact a11 j hj, by rw [upd2_c C v (by decide : 8 ≠ 7)]; exact a12, by rw [upd2_c C v (by decide : 9 ≠ 7)]; exact a13, by rw [upd2_c C v (by decide : 10 ≠ 7)]; exact a14, by rw [upd2_c C v (by decide : 11 ≠ 7)]; exact a15⟩
theorem VB_9 {C : Ch} {k : Nat} {v : Int} (h : VB C) (h1 : 0 ≤ v) (h2 : v < 8) : VB (upd2 C 9 k v) := by
  obtain ⟨a1, a2, a3, a4, a5, a6, a7, a8, a9, a10, a11, a12, a13, a14, a15⟩ := h
  exact ⟨by rw [upd2_c C v (by decide : 0 ≠ 9)]; exact a1, by rw [upd2_c C v (by decide : 0 ≠ 9)]; exact a2, by rw [upd2_c C v (by decide : 0 ≠ 9)]; exact a3, by rw [upd2_c C v (by decide : 0 ≠ 9)]; exact a4, by rw [upd2_c C v (by decide : 0 ≠ 9)]; exact a5, by rw [upd2_c C v (by decide : 2 ≠ 9)]; exact a6, by rw [upd2_c C v (by decide : 3 ≠ 9)]; exact a7, by rw [upd2_c C v (by decide : 4 ≠ 9)]; exact a8, by rw [upd2_c C v (by decide : 5 ≠ 9)]; exact a9, by rw [upd2_c C v (by decide : 6 ≠ 9)]; exact a10, by rw [upd2_c C v (by decide : 7 ≠ 9)]; exact a11, by rw [upd2_c C v (by decide : 8 ≠ 9)]; exact a12, fun j hj => by rw [upd2_at]; split; exact ⟨h1, h2⟩; exact a13 j hj, by rw [upd2_c C v (by decide : 10 ≠ 9)]; exact a14, by rw [upd2_c C v (by decide : 11 ≠ 9)]; exact a15⟩
theorem VB_10 {C : Ch} {k : Nat} {v : Int} (h : VB C) (h1 : 0 ≤ v) (h2 : v < 8) : VB (upd2 C 10 k v) := by
  obtain ⟨a1, a2, a3, a4, a5, a6, a7, a8, a9, a10, a11, a12, a13, a14, a15⟩ := h
  exact ⟨by rw [upd2_c C v (by decide : 0 ≠ 10)]; exact a1, by rw [upd2_c C v (by decide : 0 ≠ 10)]; exact a2, by rw [upd2_c C v (by decide : 0 ≠ 10)]; exact a3, by rw [upd2_c C v (by decide : 0 ≠ 10)]; exact a4, by rw [upd2_c C v (by decide : 0 ≠ 10)]; exact a5, by rw [upd2_c C v (by decide : 2 ≠ 10)]; exact a6, by rw [upd2_c C v (by decide : 3 ≠ 10)]; exact a7, by rw [upd2_c C v (by decide : 4 ≠ 10)]; exact a8, by rw [upd2_c C v (by decide : 5 ≠ 10)]; exact a9, by rw [upd2_c C v (by decide : 6 ≠ 10)]; exact a10, by rw [upd2_c C v (by decide : 7 ≠ 10)]; exact a11, by rw [upd2_c C v (by decide : 8 ≠ 10)]; exact a12, by rw [upd2_c C v (by decide : 9 ≠ 10)]; exact a13, fun j hj => by rw [upd2_at]; split; exact ⟨h1, h2⟩; exact a14 j hj, by rw [upd2_c C v (by decide : 11 ≠ 10)]; exact a15⟩
theorem VB_11 {C : Ch} {k : Nat} {v : Int} (h : VB C) (h1 : 0 ≤ v) (h2 : v ≤ 999) : VB (upd2 C 11 k v) := by
  obtain ⟨a1, a2, a3, a4, a5, a6, a7, a8, a9, a10, a11, a12, a13, a14, a15⟩ := h
  exact ⟨by rw [upd2_c C v (by decide : 0 ≠ 11)]; exact a1, by rw [upd2_c C v (by decide : 0 ≠ 11)]; exact a2, by rw [upd2_c C v (by decide : 0 ≠ 11)]; exact a3, by rw [upd2_c C v (by decide : 0 ≠ 11)]; exact a4, by rw [upd2_c C v (by decide : 0 ≠ 11)]; exact a5, by rw [upd2_c C v (by decide : 2 ≠ 11)]; exact a6, by rw [upd2_c C v (by decide : 3 ≠ 11)]; exact a7, by rw [upd2_c C v (by decide : 4 ≠ 11)]; exact a8, by rw [upd2_c C v (by decide : 5 ≠ 11)]; exact a9, by rw [upd2_c C v (by decide : 6 ≠ 11)]; exact a10, by rw [upd2_c C v (by decide : 7 ≠ 11)]; exact a11, by rw [upd2_c C v (by decide : 8 ≠ 11)]; exact a12, by rw [upd2_c C v (by decide : 9 ≠ 11)]; exact a13, by rw [upd2_c C v (by decide : 10 ≠ 11)]; exact a14, fun j hj => by rw [upd2_at]; split; exact ⟨h1, h2⟩; exact a15 j hj⟩
theorem VB_f8 {C : Ch} {v : Int} (h : VB C) (h1 : 0 ≤ v) (h2 : v ≤ 8) : VB (upd2 C 0 8 v) := by
  obtain ⟨a1, a2, a3, a4, a5, a6, a7, a8, a9, a10, a11, a12, a13, a14, a15⟩ := h
  exact ⟨by rw [upd2_same]; exact ⟨h1, h2⟩, fun j q1 q2 => by rw [upd2_k C v (by omega : j ≠ 8)]; exact a2 j q1 q2, by rw [upd2_k C v (by decide : 13 ≠ 8)]; exact a3, by rw [upd2_k C v (by decide : 14 ≠ 8)]; exact a4, by rw [upd2_k C v (by decide : 15 ≠ 8)]; exact a5, by rw [upd2_c C v (by decide : 2 ≠ 0)]; exact a6, by rw [upd2_c C v (by decide : 3 ≠ 0)]; exact a7, by rw [upd2_c C v (by decide : 4 ≠ 0)]; exact a8, by rw [upd2_c C v (by decide : 5 ≠ 0)]; exact a9, by rw [upd2_c C v (by decide : 6 ≠ 0)]; exact a10, by rw [upd2_c C v (by decide : 7 ≠ 0)]; exact a11, by rw [upd2_c C v (by decide : 8 ≠ 0)]; exact a12, by rw [upd2_c C v (by decide : 9 ≠ 0)]; exact a13, by rw [upd2_c C v (by decide : 10 ≠ 0)]; exact a14, by rw [upd2_c C v (by decide : 11 ≠ 0)]; exact a15⟩
theorem VB_f9 {C : Ch} {v : Int} (h : VB C) (h1 : 0 ≤ v) (h2 : v < 256) : VB (upd2 C 0 9 v) := by
  obtain ⟨a1, a2, a3, a4, a5, a6, a7, a8, a9, a10, a11, a12, a13, a14, a15⟩ := h
  exact ⟨by rw [upd2_k C v (by decide : 8 ≠ 9)]; exact a1, fun j q1 q2 => by rw [upd2_at]; split; exact ⟨h1, h2⟩; exact a2 j q1 q2, by rw [upd2_k C v (by decide : 13 ≠ 9)]; exact a3, by rw [upd2_k C v (by decide : 14 ≠ 9)]; exact a4, by rw [upd2_k C v (by decide : 15 ≠ 9)]; exact a5, by rw [upd2_c C v (by decide : 2 ≠ 0)]; exact a6, by rw [upd2_c C v (by decide : 3 ≠ 0)]; exact a7, by rw [upd2_c C v (by decide : 4 ≠ 0)]; exact a8, by rw [upd2_c C v (by decide : 5 ≠ 0)]; exact a9, by rw [upd2_c C v (by decide : 6 ≠ 0)]; exact a10, by rw [upd2_c C v (by decide : 7 ≠ 0)]; exact a11, by rw [upd2_c C v (by decide : 8 ≠ 0)]; exact a12, by rw [upd2_c C v (by decide : 9 ≠ 0)]; exact a13, by rw [upd2_c C v (by decide : 10 ≠ 0)]; exact a14, by rw [upd2_c C v (by decide : 11 ≠ 0)]; exact a15⟩
theorem VB_f10 {C : Ch} {v : Int} (h : VB C) (h1 : 0 ≤ v) (h2 : v < 256) : VB (upd2 C 0 10 v) := by
  obtain ⟨a1, a2, a3, a4, a5, a6, a7, a8, a9, a10, a11, a12, a13, a14, a15⟩ := h
  exact ⟨by rw [upd2_k C v (by decide : 8 ≠ 10)]; exact a1, fun j q1 q2 => by rw [upd2_at]; split; exact ⟨h1, h2⟩; exact a2 j q1 q2, by rw [upd2_k C v (by decide : 13 ≠ 10)]; exact a3, by rw [upd2_k C v (by decide : 14 ≠ 10)]; exact a4, by rw [upd2_k C v (by decide : 15 ≠ 10)]; exact a5, by rw [upd2_c C v (by decide : 2 ≠ 0)]; exact a6, by rw [upd2_c C v (by decide : 3 ≠ 0)]; exact a7, by rw [upd2_c C v (by decide : 4 ≠ 0)]; exact a8, by rw [upd2_c C v (by decide : 5 ≠ 0)]; exact a9, by rw [upd2_c C v (by decide : 6 ≠ 0)]; exact a10, by rw [upd2_c C v (by decide : 7 ≠ 0)]; exact a11, by rw [upd2_c C v (by decide : 8 ≠ 0)]; exact a12, by rw [upd2_c C v (by decide : 9 ≠ 0)]; exact a13, by rw [upd2_c C v (by decide : 10 ≠ 0)]; exact a14, by rw [upd2_c C v (by decide : 11 ≠ 0)]; exact a15⟩
theorem VB_f11 {C : Ch} {v : Int} (h : VB C) (h1 : 0 ≤ v) (h2 : v < 256) : VB (upd2 C 0 11 v) := by
  obtain ⟨a1, a2, a3, a4, a5, a6, a7, a8, a9, a10, a11, a12, a13, a14, a15⟩ := h
  exact ⟨by rw [upd2_k C v (by decide : 8 ≠ 11)]; exact a1, fun j q1 q2 => by rw [upd2_at]; split; exact ⟨h1, h2⟩; exact a2 j q1 q2, by rw [upd2_k C v (by decide : 13 ≠ 11)]; exact a3, by rw [upd2_k C v (by decide : 14 ≠ 11)]; exact a4, by rw [upd2_k C v (by decide : 15 ≠ 11)]; exact a5, by rw [upd2_c C v (by decide : 2 ≠ 0)]; exact a6, by rw [upd2_c C v (by decide : 3 ≠ 0)]; exact a7, by rw [upd2_c C v (by decide : 4 ≠ 0)]; exact a8, by rw [upd2_c C v (by decide : 5 ≠ 0)]; exact a9, by rw [upd2_c C v (by decide : 6 ≠ 0)]; exact a10, by rw [upd2_c C v (by decide : 7 ≠ 0)]; exact a11, by rw [upd2_c C v (by decide : 8 ≠ 0)]; exact a12, by rw [upd2_c C v (by decide : 9 ≠ 0)]; exact a13, by rw [upd2_c C v (by decide : 10 ≠ 0)]; exact a14, by rw [upd2_c C v (by decide : 11 ≠ 0)]; exact a15⟩
theorem VB_f12 {C : Ch} {v : Int} (h : VB C) (h1 : 0 ≤ v) (h2 : v < 256) : VB (upd2 C 0 12 v) := by
  obtain ⟨a1, a2, a3, a4, a5, a6, a7, a8, a9, a10, a11, a12, a13, a14, a15⟩ := h
  exact ⟨by rw [upd2_k C v (by decide : 8 ≠ 12)]; exact a1, fun j q1 q2 => by rw [upd2_at]; split; exact ⟨h1, h2⟩; exact a2 j q1 q2, by rw [upd2_k C v (by decide : 13 ≠ 12)]; exact a3, by rw [upd2_k C v (by decide : 14 ≠ 12)]; exact a4, by rw [upd2_k C v (by decide : 15 ≠ 12)]; exact a5, by rw [upd2_c C v (by decide : 2 ≠ 0)]; exact a6, by rw [upd2_c C v (by decide : 3 ≠ 0)]; exact a7, by rw [upd2_c C v (by decide : 4 ≠ 0)]; exact a8, by rw [upd2_c C v (by decide : 5 ≠ 0)]; exact a9, by rw [upd2_c C v (by decide : 6 ≠ 0)]; exact a10, by rw [upd2_c C v (by decide : 7 ≠ 0)]; exact a11, by rw [upd2_c C v (by decide : 8 ≠ 0)]; exact a12, by rw [upd2_c C v (by decide : 9 ≠ 0)]; exact a13, by rw [upd2_c C v (by decide : 10 ≠ 0)]; exact a14, by rw [upd2_c C v (by decide : 11 ≠ 0)]; exact a15⟩
theorem VB_f13 {C : Ch} {v : Int} (h : VB C) (h1 : 0 ≤ v) (h2 : v ≤ 50) : VB (upd2 C 0 13 v) := by
  obtain ⟨a1, a2, a3, a4, a5, a6, a7, a8, a9, a10, a11, a12, a13, a14, a15⟩ := h
  exact ⟨by rw [upd2_k C v (by decide : 8 ≠ 13)]; exact a1, fun j q1 q2 => by rw [upd2_k C v (by omega : j ≠ 13)]; exact a2 j q1 q2, by rw [upd2_same]; exact ⟨h1, h2⟩, by rw [upd2_k C v (by decide : 14 ≠ 13)]; exact a4, by rw [upd2_k C v (by decide : 15 ≠ 13)]; exact a5, by rw [upd2_c C v (by decide : 2 ≠ 0)]; exact a6, by rw [upd2_c C v (by decide : 3 ≠ 0)]; exact a7, by rw [upd2_c C v (by decide : 4 ≠ 0)]; exact a8, by rw [upd2_c C v (by decide : 5 ≠ 0)]; exact a9, by rw [upd2_c C v (by decide : 6 ≠ 0)]; exact a10, by rw [upd2_c C v (by decide : 7 ≠ 0)]; exact a11, by rw [upd2_c C v (by decide : 8 ≠ 0)]; exact a12, by rw [upd2_c C v (by decide : 9 ≠ 0)]; exact a13, by rw [upd2_c C v (by decide : 10 ≠ 0)]; exact a14, by rw [upd2_c C v (by decide : 11 ≠ 0)]; exact a15⟩
theorem VB_f14 {C : Ch} {v : Int} (h : VB C) (h1 : 0 ≤ v) (h2 : v ≤ 9999) : VB (upd2 C 0 14 v) := by
  obtain ⟨a1, a2, a3, a4, a5, a6, a7, a8, a9, a10, a11, a12, a13, a14, a15⟩ := h
  exact ⟨by rw [upd2_k C v (by decide : 8 ≠ 14)]; exact a1, fun j q1 q2 => by rw [upd2_k C v (by omega : j ≠ 14)]; exact a2 j q1 q2, by rw [upd2_k C v (by decide : 13 ≠ 14)]; exact a3, by rw [upd2_same]; exact ⟨h1, h2⟩, by rw [upd2_k C v (by decide : 15 ≠ 14)]; exact a5, by rw [upd2_c C v (by decide : 2 ≠ 0)]; exact a6, by rw [upd2_c C v (by decide : 3 ≠ 0)]; exact a7, by rw [upd2_c C v (by decide : 4 ≠ 0)]; exact a8, by rw [upd2_c C v (by decide : 5 ≠ 0)]; exact a9, by rw [upd2_c C v (by decide : 6 ≠ 0)]; exact a10, by rw [upd2_c C v (by decide : 7 ≠ 0)]; exact a11, by rw [upd2_c C v (by decide : 8 ≠ 0)]; exact a12, by rw [upd2_c C v (by decide : 9 ≠ 0)]; exact a13, by rw [upd2_c C v (by decide : 10 ≠ 0)]; exact a14, by rw [upd2_c C v (by decide : 11 ≠ 0)]; exact a15⟩
theorem VB_f15 {C : Ch} {v : Int} (h : VB C) (h1 : -2147483648 ≤ v) (h2 : v < 2147483648) : VB (upd2 C 0 15 v) := by
  obtain ⟨a1, a2, a3, a4, a5, a6, a7, a8, a9, a10, a11, a12, a13, a14, a15⟩ := h
  exact ⟨by rw [upd2_k C v (by decide : 8 ≠ 15)]; exact a1, fun j q1 q2 => by rw [upd2_k C v (by omega : j ≠ 15)]; exact a2 j q1 q2, by rw [upd2_k C v (by decide : 13 ≠ 15)]; exact a3, by rw [upd2_k C v (by decide : 14 ≠ 15)]; exact a4, by rw [upd2_same]; exact ⟨h1, h2⟩, by rw [upd2_c C v (by decide : 2 ≠ 0)]; exact a6, by rw [upd2_c C v (by decide : 3 ≠ 0)]; exact a7, by rw [upd2_c C v (by decide : 4 ≠ 0)]; exact a8, by rw [upd2_c C v (by decide : 5 ≠ 0)]; exact a9, by rw [upd2_c C v (by decide : 6 ≠ 0)]; exact a10, by rw [upd2_c C v (by decide : 7 ≠ 0)]; exact a11, by rw [upd2_c C v (by decide : 8 ≠ 0)]; exact a12, by rw [upd2_c C v (by decide : 9 ≠ 0)]; exact a13, by rw [upd2_c C v (by decide : 10 ≠ 0)]; exact a14, by rw [upd2_c C v (by decide : 11 ≠ 0)]; exact a15⟩
theorem VB_w {C : Ch} {v : Int} (h : VB C) (h1 : 0 ≤ v) (h2 : v ≤ 8) : VB (upd2 C 8 3 v) := by
  obtain ⟨a1, a2, a3, a4, a5, a6, a7, a8, a9, a10, a11, a12, a13, a14, a15⟩ := h
  exact ⟨by rw [upd2_c C v (by decide : 0 ≠ 8)]; exact a1, by rw [upd2_c C v (by decide : 0 ≠ 8)]; exact a2, by rw [upd2_c C v (by decide : 0 ≠ 8)]; exact a3, by rw [upd2_c C v (by decide : 0 ≠ 8)]; exact a4, by rw [upd2_c C v (by decide : 0 ≠ 8)]; exact a5, by rw [upd2_c C v (by decide : 2 ≠ 8)]; exact a6, by rw [upd2_c C v (by decide : 3 ≠ 8)]; exact a7, by rw [upd2_c C v (by decide : 4 ≠ 8)]; exact a8, by rw [upd2_c C v (by decide : 5 ≠ 8)]; exact a9, by rw [upd2_c C v (by decide : 6 ≠ 8)]; exact a10, by rw [upd2_c C v (by decide : 7 ≠ 8)]; exact a11, by rw [upd2_same]; exact ⟨h1, h2⟩, by rw [upd2_c C v (by decide : 9 ≠ 8)]; exact a13, by rw [upd2_c C v (by decide : 10 ≠ 8)]; exact a14, by rw [upd2_c C v (by decide : 11 ≠ 8)]; exact a15⟩
end
section
def freeC (C : Ch) (s : Nat) : Int := cntN (fun k => C 6 (6 * s + k) == -1) (C 4 s).toNat
theorem c_freeNotes {l : Launch} {E : EnvT} {d : Nat} {K : AV → Mem → Prop} {M : Mem} {r : Nat} {s : Nat} (hd : 2 ≤ d) (hV : VB (M r)) (hs : s < 8) (h : K (.int (iN (freeC (M r) s)), 0) M) : CT l E d m_Choir_freeNotes [(.ref r, 11), (.int (iN s), 0)] M K := by
  refine CT.of pn_Choir (Nat.le_of_ble_eq_true rfl) ?_
  refine b_Choir_freeNotes_0 (by omega) ?_
  have hl := hV.le s hs
  obtain ⟨q, hq⟩ : ∃ q : Nat, M r 4 s = q := ⟨(M r 4 s).toNat, (by omega)⟩
  unfold freeC at h
  rw [hq] at h
  have k1 : ∀ k, k ≤ q → G l E d m_Choir_freeNotes 4 [(0, (.ref r, 11)), (1, (.int (iN s), 0)), (2, (.int (iN (cntN (fun k => M r 6 (6 * s + k) == -1) k)), 0)), (3, (.int (iN k), 0))] [] M K := by
    refine dn q ?_ (fun k hk ih => ?_)
    · refine b_Choir_freeNotes_4 (by omega) ?_
      simp (disch := omega) only [true_or, or_true, true_and, iN_lt, iN_le, iN_eq, iN_lt0, iN_le0, iN_0le, iN_0lt, iN_eq0, iN_eq1, iN_add, iN_sub, iN_mul, iN_neg, iN_clN, toI_int, hq]
      exact ⟨iN_in (by omega) (by omega) (by omega), fun _ => h, fun c => absurd (by omega) c⟩
    · refine b_Choir_freeNotes_4 (by omega) ?_
      have hh := hV.ho (6 * s + k) (by omega)
      simp (disch := omega) only [true_or, or_true, true_and, iN_lt, iN_le, iN_eq, iN_lt0, iN_le0, iN_0le, iN_0lt, iN_eq0, iN_eq1, iN_add, iN_sub, iN_mul, iN_neg, iN_clN, toI_int, hq]
      refine ⟨iN_in (by omega) (by omega) (by omega), fun c => absurd c (by omega), fun _ => c_slot (by omega) ?_⟩
      rw [show (s : Int) * 6 + k = ((6 * s + k : Nat) : Int) by push_cast; omega]
      simp (disch := omega) only [true_or, or_true, true_and, iN_lt, iN_le, iN_eq, iN_lt0, iN_le0, iN_0le, iN_0lt, iN_eq0, iN_eq1, iN_add, iN_sub, iN_mul, iN_neg, iN_clN, toI_int]
      refine ⟨iN_in (by omega) (by omega) (by omega), fun c => ?_, fun c => ?_⟩
      · simpa [cntN, b2i, c] using ih
      · simpa [cntN, b2i, c] using ih
  exact k1 0 (by omega)
def sungC (C : Ch) (s k : Nat) : Int := C 5 (6 * s + k) + C 7 (6 * s + k) - (if inS (C 0 9) s then 12 else 0)
theorem c_sungAt {l : Launch} {E : EnvT} {d : Nat} {K : AV → Mem → Prop} {M : Mem} {r : Nat} {s k : Nat} (hd : 2 ≤ d) (hV : VB (M r)) (hs : s < 8) (hk : k < 6) (h : K (.int (iN (sungC (M r) s k)), 0) M) : CT l E d m_Choir_sungAt [(.ref r, 11), (.int (iN s), 0), (.int (iN k), 0)] M K := by
  refine CT.of pn_Choir (Nat.le_of_ble_eq_true rfl) ?_
  refine b_Choir_sungAt_0 (by omega) (c_slot (by omega) ?_)
  have hm := hV.ms 9 (by omega) (by omega)
  rw [show (s : Int) * 6 + k = ((6 * s + k : Nat) : Int) by push_cast; omega, toI_int, iN_clN (by omega)]
  refine ⟨iN_in (by omega) (by omega) (by omega), iN_in (by omega) (by omega) (by omega), c_isIn (by omega) hm.1 hm.2 hs ?_⟩
  unfold sungC at h
  simp only [toI_int, b2i_z, iN_add, iN_sub]
  refine ⟨fun c => ?_, fun c => ?_⟩
  · rw [c] at h; simpa using h
  · rw [Bool.not_eq_false] at c
    rw [c] at h; exact h
def livAt (C : Ch) : Nat → Nat → Int → Int
  | _, 0, _ => -1
  | s, m + 1, k => if livesB C s then (if k = 0 then (s : Int) else livAt C (s + 1) m (k - 1)) else livAt C (s + 1) m k
theorem c_livingAt {l : Launch} {E : EnvT} {d : Nat} {K : AV → Mem → Prop} {M : Mem} {r : Nat} {k : Int} (hd : 2 ≤ d) (hV : VB (M r)) (h1 : 0 ≤ k) (h2 : k < 100) (h : K (.int (iN (livAt (M r) 0 (M r 0 8).toNat k)), 0) M) : CT l E d m_Choir_livingAt [(.ref r, 11), (.int (iN k), 0)] M K := by
  refine CT.of pn_Choir (Nat.le_of_ble_eq_true rfl) ?_
  refine b_Choir_livingAt_0 (by omega) ?_
  have hw := hV.n
  obtain ⟨n, hn⟩ : ∃ n : Nat, M r 0 8 = n := ⟨(M r 0 8).toNat, (by omega)⟩
  rw [hn] at h
  have key : ∀ (m s : Nat) (j : Int), s + m = n → 0 ≤ j → j < 100 → livAt (M r) 0 n k = livAt (M r) s m j → G l E d m_Choir_livingAt 4 [(0, (.ref r, 11)), (2, (.int (iN j), 0)), (3, (.int (iN s), 0))] [] M K := by
    intro m
    induction m with
    | zero =>
      intro s j hs j1 j2 he
      refine b_Choir_livingAt_4 (by omega) ?_
      rw [hn]
      have h' : K (.int (iN (livAt (M r) 0 n k)), 0) M := h
      rw [he] at h'
      exact ⟨fun _ => h', fun c => absurd ((iN_le (by omega) (by omega) (by omega) (by omega)).mpr (by omega)) c⟩
    | succ m ih =>
      intro s j hs j1 j2 he
      refine b_Choir_livingAt_4 (by omega) ?_
      rw [hn]
      refine ⟨fun c => absurd ((iN_le (by omega) (by omega) (by omega) (by omega)).mp c) (by omega), fun _ => c_lives (by omega) hV (by omega) (by omega) ?_⟩
      simp only [toI_int, b2i_z, iN_add]
      refine ⟨fun c => ?_, fun c => ⟨fun c2 => ?_, fun c2 => ?_⟩⟩
      · refine ih (s + 1) j (by omega) j1 j2 ?_
        rw [he]
        simp [livAt, c]
      · rw [Bool.not_eq_false] at c
        rw [iN_eq0 (by omega) (by omega)] at c2
        refine ih (s + 1) (j + -1) (by omega) (by omega) (by omega) ?_
        rw [he]
        simp only [livAt, c, if_true, c2, if_false]
        rfl
      · rw [Bool.not_eq_false] at c
        rw [iN_eq0 (by omega) (by omega)] at c2
        have h' : K (.int (iN (livAt (M r) 0 n k)), 0) M := h
        rw [he] at h'
        simpa only [livAt, c, if_true, c2] using h'
  exact key n 0 k (by omega) h1 h2 rfl
theorem c_countFor {l : Launch} {E : EnvT} {d : Nat} {K : AV → Mem → Prop} {M : Mem} {r : Nat} {x : Int} (hd : 1 ≤ d) (hV : VB (M r)) (hx1 : -1 ≤ x) (hx2 : x < 100) (h : K (.int (iN (cntN (fun k => M r 10 k == x) (M r 8 3).toNat)), 0) M) : CT l E d m_Waiting_countFor [(.ref r, 19), (.int (iN x), 0)] M K := by
  refine CT.of pn_Waiting (Nat.le_of_ble_eq_true rfl) ?_
  refine b_Waiting_countFor_0 hd ?_
  have hw := hV.w
  obtain ⟨n, hn⟩ : ∃ n : Nat, M r 8 3 = n := ⟨(M r 8 3).toNat, (by omega)⟩
  rw [hn] at h
  have k1 : ∀ k, k ≤ n → G l E d m_Waiting_countFor 4 [(0, (.ref r, 19)), (1, (.int (iN x), 0)), (2, (.int (iN (cntN (fun k => M r 10 k == x) k)), 0)), (3, (.int (iN k), 0))] [] M K := by
    refine dn n ?_ (fun k hk ih => ?_)
    · refine b_Waiting_countFor_4 hd ?_
      rw [hn]
      exact ⟨fun _ => h, fun c => absurd ((iN_le (by omega) (by omega) (by omega) (by omega)).mpr (by omega)) c⟩
    · refine b_Waiting_countFor_4 hd ?_
      have ha := hV.wb k (by omega)
      rw [hn]
      simp (disch := omega) only [true_or, or_true, true_and, iN_lt, iN_le, iN_eq, iN_lt0, iN_le0, iN_0le, iN_0lt, iN_eq0, iN_eq1, iN_add, iN_sub, iN_mul, iN_neg, iN_clN, toI_int]
      refine ⟨fun c => absurd c (by omega), fun _ => ⟨iN_in (by omega) (by omega) (by omega), fun c => ?_, fun c => ?_⟩⟩
      · simpa [cntN, b2i, c] using ih
      · simpa [cntN, b2i, c] using ih
  exact k1 0 (by omega)
/-- all that is owed in w SUNDAYS, LINE by LINE -/
def lineIn (C : Ch) (w s : Nat) : Nat → Int := sumN (fun k => growsC (C 0 13) (if inS (C 0 10) s then 0 else w) (C 7 (6 * s + k)))
def linesIn (C : Ch) (w : Nat) : Nat → Int := sumN (fun s => lineIn C w s (C 4 s).toNat)
def allOwC (C : Ch) (w : Nat) : Int := linesIn C w (C 0 8).toNat + sumN (C 11) (C 8 3).toNat
theorem c_allOwedIn {l : Launch} {E : EnvT} {d : Nat} {K : AV → Mem → Prop} {M : Mem} {r : Nat} {w : Nat} (hd : 4 ≤ d) (hV : VB (M r)) (hw9 : w ≤ 999) (h : K (.int (iN (allOwC (M r) w)), 0) M) : CT l E d m_Choir_allOwedIn [(.ref r, 11), (.int (iN w), 0)] M K := by
  refine CT.of pn_Choir (Nat.le_of_ble_eq_true rfl) ?_
  refine b_Choir_allOwedIn_0 (by omega) ?_
  have hn0 := hV.n
  have hw0 := hV.w
  have hm := hV.ms 10 (by omega) (by omega)
  obtain ⟨n, hn⟩ : ∃ n : Nat, M r 0 8 = n := ⟨(M r 0 8).toNat, (by omega)⟩
  obtain ⟨p, hp⟩ : ∃ p : Nat, M r 8 3 = p := ⟨(M r 8 3).toNat, (by omega)⟩
  unfold allOwC at h
  rw [hn, hp] at h
  have k3 : ∀ k, k ≤ p → G l E d m_Choir_allOwedIn 78 [(0, (.ref r, 11)), (2, (.int (iN (linesIn (M r) w n + sumN (M r 11) k)), 0)), (3, (.int (iN k), 0))] [] M K := by
    refine dn p ?_ (fun k hk ih => ?_)
    · refine b_Choir_allOwedIn_78 (by omega) ?_
      rw [hp]
      exact ⟨fun _ => h, fun c => absurd ((iN_le (by omega) (by omega) (by omega) (by omega)).mpr (by omega)) c⟩
    · refine b_Choir_allOwedIn_78 (by omega) ?_
      rw [hp]
      simp (disch := omega) only [true_or, or_true, true_and, iN_lt, iN_le, iN_eq, iN_lt0, iN_le0, iN_0le, iN_0lt, iN_eq0, iN_eq1, iN_add, iN_sub, iN_mul, iN_neg, iN_clN, toI_int]
      refine ⟨fun c => absurd c (by omega), fun _ => ⟨iN_in (by omega) (by omega) (by omega), ?_⟩⟩
      simpa [sumN, Int.add_assoc] using ih
  have k1 : ∀ s, s ≤ n → G l E d m_Choir_allOwedIn 4 [(0, (.ref r, 11)), (1, (.int (iN w), 0)), (2, (.int (iN (linesIn (M r) w s)), 0)), (3, (.int (iN s), 0))] [] M K := by
    refine dn n ?_ (fun s hs ih => ?_)
    · refine b_Choir_allOwedIn_4 (by omega) ?_
      rw [hn]
      refine ⟨fun _ => ?_, fun c => absurd ((iN_le (by omega) (by omega) (by omega) (by omega)).mpr (by omega)) c⟩
      have := k3 0 (by omega)
      simpa [sumN] using this
    · have hl := hV.le s (by omega)
      obtain ⟨q, hq⟩ : ∃ q : Nat, M r 4 s = q := ⟨(M r 4 s).toNat, (by omega)⟩
      have k2 : ∀ k, k ≤ q → G l E d m_Choir_allOwedIn 33 [(0, (.ref r, 11)), (1, (.int (iN w), 0)), (2, (.int (iN (linesIn (M r) w s + lineIn (M r) w s k)), 0)), (3, (.int (iN s), 0)), (4, (.int (iN ((if inS (M r 0 10) s then 0 else w : Nat) : Int)), 0)), (5, (.int (iN k), 0))] [] M K := by
        refine dn q ?_ (fun k hk ih2 => ?_)
        · refine b_Choir_allOwedIn_33 (by omega) ?_
          simp (disch := omega) only [true_or, or_true, true_and, iN_lt, iN_le, iN_eq, iN_lt0, iN_le0, iN_0le, iN_0lt, iN_eq0, iN_eq1, iN_add, iN_sub, iN_mul, iN_neg, iN_clN, toI_int, hq]
          refine ⟨iN_in (by omega) (by omega) (by omega), fun _ => ?_, fun c => absurd (by omega) c⟩
          have e : linesIn (M r) w (s + 1) = linesIn (M r) w s + lineIn (M r) w s q := by
            show linesIn (M r) w s + lineIn (M r) w s (M r 4 s).toNat = _
            rw [hq]; rfl
          rw [e] at ih
          exact ih
        · refine b_Choir_allOwedIn_33 (by omega) ?_
          have hh := hV.de (6 * s + k) (by omega)
          simp (disch := omega) only [true_or, or_true, true_and, iN_lt, iN_le, iN_eq, iN_lt0, iN_le0, iN_0le, iN_0lt, iN_eq0, iN_eq1, iN_add, iN_sub, iN_mul, iN_neg, iN_clN, toI_int, hq]
          refine ⟨iN_in (by omega) (by omega) (by omega), fun c => absurd c (by omega), fun _ => c_slot (by omega) ?_⟩
          rw [show (s : Int) * 6 + k = ((6 * s + k : Nat) : Int) by push_cast; omega]
          simp (disch := omega) only [true_or, or_true, true_and, iN_lt, iN_le, iN_eq, iN_lt0, iN_le0, iN_0le, iN_0lt, iN_eq0, iN_eq1, iN_add, iN_sub, iN_mul, iN_neg, iN_clN, toI_int]
          refine ⟨iN_in (by omega) (by omega) (by omega), c_grownIn (by omega) hV hh.1 hh.2 (by split <;> omega) ?_⟩
          rw [toI_int, iN_add]
          simpa [lineIn, sumN, Int.add_assoc] using ih2
      refine b_Choir_allOwedIn_4 (by omega) ?_
      rw [hn]
      refine ⟨fun c => absurd ((iN_le (by omega) (by omega) (by omega) (by omega)).mp c) (by omega), fun _ => c_isIn (by omega) hm.1 hm.2 (by omega) ?_⟩
      simp only [toI_int, b2i_z]
      have k20 := k2 0 (by omega)
      refine ⟨fun c => ?_, fun c => ?_⟩
      · rw [c] at k20
        simpa [lineIn, sumN] using k20
      · rw [Bool.not_eq_false] at c
        rw [c] at k20
        simpa [lineIn, sumN] using k20
  exact k1 0 (by omega)
theorem c_allOwed {l : Launch} {E : EnvT} {d : Nat} {K : AV → Mem → Prop} {M : Mem} {r : Nat} (hd : 5 ≤ d) (hV : VB (M r)) (h : K (.int (iN (allOwC (M r) 0)), 0) M) : CT l E d m_Choir_allOwed [(.ref r, 11)] M K := by
  refine CT.of pn_Choir (Nat.le_of_ble_eq_true rfl) ?_
  exact b_Choir_allOwed_0 (by omega) (c_allOwedIn (w := 0) (by omega) hV (by omega) h)
end
section
def wr (z : Int) : Int := (iN z).toInt
theorem wr_id {z : Int} (h1 : -2147483648 ≤ z) (h2 : z < 2147483648) : wr z = z := iN_small h1 h2
theorem wr_rng (z : Int) : -2147483648 ≤ wr z ∧ wr z < 2147483648 := ⟨Int32.le_toInt _, Int32.toInt_lt _⟩
theorem twoB_spec {C : Ch} {a b : Int} (h : twoB C a b = true) : (0 ≤ a ∧ a < C 0 8) ∧ (0 ≤ b ∧ b < C 0 8) ∧ a ≠ b := by
  simp only [twoB, livesB, Bool.and_eq_true, decide_eq_true_eq, Bool.not_eq_true', decide_eq_false_iff_not] at h
  exact ⟨h.1.1, h.2.1.1, h.2.2⟩
theorem livesB_spec {C : Ch} {a : Int} (h : livesB C a = true) : 0 ≤ a ∧ a < C 0 8 := by
  simp only [livesB, Bool.and_eq_true, decide_eq_true_eq] at h
  exact h.1
theorem c_livesS {l : Launch} {E : EnvT} {d : Nat} {K : AV → Mem → Prop} {M : Mem} {r : Nat} {C : Ch} {z : Int} (hd : 1 ≤ d) (hV : VB C) (h1 : -2147483648 ≤ z) (h2 : z < 2147483648) (h : K (.int (iN (b2i (livesB C z))), 0) (setR M r C)) : CT l E d m_Choir_lives [(.ref r, 11), (.int (iN z), 0)] (setR M r C) K :=
  c_lives hd (by rw [setR_same]; exact hV) h1 h2 (by rw [setR_same]; exact h)
theorem c_areTwoS {l : Launch} {E : EnvT} {d : Nat} {K : AV → Mem → Prop} {M : Mem} {r : Nat} {C : Ch} {a b : Int} (hd : 2 ≤ d) (hV : VB C) (h1 : -2147483648 ≤ a) (h2 : a < 2147483648) (h3 : -2147483648 ≤ b) (h4 : b < 2147483648) (h : K (.int (iN (b2i (twoB C a b))), 0) (setR M r C)) : CT l E d m_Choir_areTwo [(.ref r, 11), (.int (iN a), 0), (.int (iN b), 0)] (setR M r C) K :=
  c_areTwo hd (by rw [setR_same]; exact hV) h1 h2 h3 h4 (by rw [setR_same]; exact h)
theorem c_slotOfS {l : Launch} {E : EnvT} {d : Nat} {K : AV → Mem → Prop} {M : Mem} {r : Nat} {C : Ch} {x : Int} {b : Nat} (hd : 1 ≤ d) (hV : VB C) (hb : b < 8) (hx1 : -1 ≤ x) (hx2 : x < 100) (h : K (.int (iN (slotOfC C x b)), 0) (setR M r C)) : CT l E d m_Choir_slotOf [(.ref r, 11), (.int (iN x), 0), (.int (iN b), 0)] (setR M r C) K :=
  c_slotOfV hd (by rw [setR_same]; exact hV) hb hx1 hx2 (by rw [setR_same]; exact h)
theorem c_placeOfS {l : Launch} {E : EnvT} {d : Nat} {K : AV → Mem → Prop} {M : Mem} {r : Nat} {C : Ch} {x y : Int} (hd : 1 ≤ d) (hV : VB C) (hx1 : -1 ≤ x) (hx2 : x < 100) (hy1 : -1 ≤ y) (hy2 : y < 100) (h : K (.int (iN (placeOfC C x y)), 0) (setR M r C)) : CT l E d m_Waiting_placeOf [(.ref r, 19), (.int (iN x), 0), (.int (iN y), 0)] (setR M r C) K :=
  c_placeOf hd (by rw [setR_same]; exact hV) hx1 hx2 hy1 hy2 (by rw [setR_same]; exact h)
theorem c_debtAtNoteS {l : Launch} {E : EnvT} {d : Nat} {K : AV → Mem → Prop} {M : Mem} {r : Nat} {C : Ch} {x : Int} {b : Nat} (hd : 2 ≤ d) (hV : VB C) (hb : b < 8) (hx1 : -1 ≤ x) (hx2 : x < 100) (h : K (.int (iN (debtC C x b)), 0) (setR M r C)) : CT l E d m_Choir_debtAtNote [(.ref r, 11), (.int (iN x), 0), (.int (iN b), 0)] (setR M r C) K :=
  c_debtAtNote hd (by rw [setR_same]; exact hV) hb hx1 hx2 (by rw [setR_same]; exact h)
def takeOffC (C : Ch) (i : Nat) (n : Int) : Ch := if C 7 i - n = 0 then upd2 (upd2 C 7 i (C 7 i - n)) 6 i (-1) else upd2 C 7 i (C 7 i - n)
theorem VB_takeOff {C : Ch} {i : Nat} {n : Int} (hV : VB C) (hi : i < 48) (h1 : 0 ≤ n) (h2 : n ≤ C 7 i) : VB (takeOffC C i n) := by
  have hd := hV.de i hi
  unfold takeOffC
  split
  · exact VB_6 (VB_7 hV (by omega) (by omega)) (by omega) (by omega)
  · exact VB_7 hV (by omega) (by omega)
theorem c_takeOff {l : Launch} {E : EnvT} {d : Nat} {K : AV → Mem → Prop} {M : Mem} {r : Nat} {C : Ch} {i : Nat} {n : Int} (hd : 1 ≤ d) (hV : VB C) (hi : i < 48) (h1 : 0 ≤ n) (h2 : n ≤ C 7 i) (h : K (.null, 0) (setR M r (takeOffC C i n))) : CT l E d m_Choir_takeOff [(.ref r, 11), (.int (iN i), 0), (.int (iN n), 0)] (setR M r C) K := by
  refine CT.of pn_Choir (Nat.le_of_ble_eq_true rfl) ?_
  refine b_Choir_takeOff_0 hd ?_
  have hde := hV.de i hi
  unfold takeOffC at h
  simp only [upd3_setR, setR_same, setR_setR, iN_sub, iN_clN (show (i : Int) < 2147483648 by omega), iN_small (show -2147483648 ≤ C 7 i - n by omega) (show C 7 i - n < 2147483648 by omega), upd2_same, iN_eq0 (show -2147483648 ≤ C 7 i - n by omega) (show C 7 i - n < 2147483648 by omega)]
  refine ⟨iN_in (by omega) (by omega) (by omega), iN_in (by omega) (by omega) (by omega), iN_in (by omega) (by omega) (by omega), fun c => ?_, fun c => ⟨iN_in (by omega) (by omega) (by omega), ?_⟩⟩
  · rw [if_neg c] at h; exact h
  · rw [if_pos c] at h; exact h
def handC (C : Ch) (a b : Nat) (n : Int) : Ch := upd2 (upd2 (upd2 C 2 a (C 2 a - n)) 2 b (upd2 C 2 a (C 2 a - n) 2 b + n)) 0 15 (wr (C 0 15 + n))
theorem hand_b {C : Ch} {a b : Nat} {n : Int} (hV : VB C) (ha : a < 8) (hb : b < 8) (h1 : 0 ≤ n) (h2 : n ≤ C 2 a) (h3 : C 2 b + n ≤ 9999) : 0 ≤ upd2 C 2 a (C 2 a - n) 2 b + n ∧ upd2 C 2 a (C 2 a - n) 2 b + n ≤ 9999 := by
  have p1 := hV.pu a ha
  have p2 := hV.pu b hb
  rw [upd2_at]
  split <;> omega
theorem VB_hand {C : Ch} {a b : Nat} {n : Int} (hV : VB C) (ha : a < 8) (hb : b < 8) (h1 : 0 ≤ n) (h2 : n ≤ C 2 a) (h3 : C 2 b + n ≤ 9999) : VB (handC C a b n) := by
  have p1 := hV.pu a ha
  have hh := hand_b hV ha hb h1 h2 h3
  unfold handC
  exact VB_f15 (VB_2 (VB_2 hV (by omega) (by omega)) (by omega) (by omega)) (wr_rng _).1 (wr_rng _).2
theorem c_handOver {l : Launch} {E : EnvT} {d : Nat} {K : AV → Mem → Prop} {M : Mem} {r : Nat} {C : Ch} {a b : Nat} {n : Int} (hd : 1 ≤ d) (hV : VB C) (ha : a < 8) (hb : b < 8) (h1 : 0 ≤ n) (h2 : n ≤ C 2 a) (h3 : C 2 b + n ≤ 9999) (h : K (.null, 0) (setR M r (handC C a b n))) : CT l E d m_Choir_handOver [(.ref r, 11), (.int (iN a), 0), (.int (iN b), 0), (.int (iN n), 0)] (setR M r C) K := by
  refine CT.of pn_Choir (Nat.le_of_ble_eq_true rfl) ?_
  refine b_Choir_handOver_0 hd ?_
  have p1 := hV.pu a ha
  have hh := hand_b hV ha hb h1 h2 h3
  unfold handC at h
  refine ⟨iN_in (by omega) (by omega) (by omega), iN_in (by omega) (by omega) (by omega), iN_in (by omega) (by omega) (by omega), iN_in (by omega) (by omega) (by omega), ?_⟩
  simp only [upd3_setR, setR_same, setR_setR, iN_sub, iN_add, iN_clN (show (a : Int) < 2147483648 by omega), iN_clN (show (b : Int) < 2147483648 by omega), iN_small (show -2147483648 ≤ C 2 a - n by omega) (show C 2 a - n < 2147483648 by omega), iN_small (show -2147483648 ≤ upd2 C 2 a (C 2 a - n) 2 b + n by omega) (show upd2 C 2 a (C 2 a - n) 2 b + n < 2147483648 by omega), upd2_c _ _ (show 0 ≠ 2 by decide)]
  exact h
theorem c_raise {l : Launch} {E : EnvT} {d : Nat} {K : AV → Mem → Prop} {M : Mem} {r : Nat} {C : Ch} {k : Nat} {n : Int} (hd : 1 ≤ d) (hV : VB C) (hk : k < 8) (h1 : 0 ≤ n) (h2 : n ≤ 9999) (h : K (.int (iN (b2i (decide (C 11 k + n ≤ 999)))), 0) (setR M r (if C 11 k + n ≤ 999 then upd2 C 11 k (C 11 k + n) else C))) : CT l E d m_Waiting_raise [(.ref r, 19), (.int (iN k), 0), (.int (iN n), 0)] (setR M r C) K := by
  refine CT.of pn_Waiting (Nat.le_of_ble_eq_true rfl) ?_
  refine b_Waiting_raise_0 hd ?_
  have p1 := hV.wm k hk
  simp only [upd3_setR, setR_same, setR_setR, iN_add, iN_clN (show (k : Int) < 2147483648 by omega), iN_small (show -2147483648 ≤ C 11 k + n by omega) (show C 11 k + n < 2147483648 by omega), iN_le (show -2147483648 ≤ C 11 k + n by omega) (show C 11 k + n < 2147483648 by omega) (show -2147483648 ≤ (999 : Int) by omega) (show (999 : Int) < 2147483648 by omega)]
  refine ⟨iN_in (by omega) (by omega) (by omega), fun c => ⟨iN_in (by omega) (by omega) (by omega), iN_in (by omega) (by omega) (by omega), o01, ?_⟩, fun c => ⟨z01, ?_⟩⟩
  · rw [if_pos c, decide_eq_true c] at h; exact h
  · rw [if_neg c, decide_eq_false c] at h; exact h
def joinC (C : Ch) (a b : Int) (n : Int) : Ch := upd2 (upd2 (upd2 (upd2 C 9 (C 8 3).toNat a) 10 (C 8 3).toNat b) 11 (C 8 3).toNat n) 8 3 (C 8 3 + 1)
theorem VB_join {C : Ch} {a b n : Int} (hV : VB C) (hw : C 8 3 < 8) (a1 : 0 ≤ a) (a2 : a < 8) (b1 : 0 ≤ b) (b2 : b < 8) (h1 : 0 ≤ n) (h2 : n ≤ 999) : VB (joinC C a b n) := by
  have := hV.w
  exact VB_w (VB_11 (VB_10 (VB_9 hV (by omega) (by omega)) (by omega) (by omega)) (by omega) (by omega)) (by omega) (by omega)
theorem c_join {l : Launch} {E : EnvT} {d : Nat} {K : AV → Mem → Prop} {M : Mem} {r : Nat} {C : Ch} {a b n : Int} (hd : 1 ≤ d) (hV : VB C) (a1 : 0 ≤ a) (a2 : a < 8) (b1 : 0 ≤ b) (b2 : b < 8) (h1 : 0 ≤ n) (h2 : n ≤ 999) (h : K (.int (iN (b2i (decide (C 8 3 < 8)))), 0) (setR M r (if C 8 3 < 8 then joinC C a b n else C))) : CT l E d m_Waiting_join [(.ref r, 19), (.int (iN a), 0), (.int (iN b), 0), (.int (iN n), 0)] (setR M r C) K := by
  refine CT.of pn_Waiting (Nat.le_of_ble_eq_true rfl) ?_
  refine b_Waiting_join_0 hd ?_
  have p1 := hV.w
  have hcl : (iN (C 8 3)).toNatClampNeg = (C 8 3).toNat := iN_cl (by omega) (by omega)
  simp only [upd3_setR, setR_same, setR_setR, hcl, upd2_c _ _ (show 8 ≠ 9 by decide), upd2_c _ _ (show 8 ≠ 10 by decide), upd2_c _ _ (show 8 ≠ 11 by decide), iN_add, iN_small (show -2147483648 ≤ C 8 3 + 1 by omega) (show C 8 3 + 1 < 2147483648 by omega), iN_lt (show -2147483648 ≤ C 8 3 by omega) (show C 8 3 < 2147483648 by omega) (show -2147483648 ≤ (8 : Int) by omega) (show (8 : Int) < 2147483648 by omega), iN_small (show -2147483648 ≤ a by omega) (show a < 2147483648 by omega), iN_small (show -2147483648 ≤ b by omega) (show b < 2147483648 by omega), iN_small (show -2147483648 ≤ n by omega) (show n < 2147483648 by omega)]
  refine ⟨fun c => ⟨iN_in (by omega) (by omega) (by omega), iN_in (by omega) (by omega) (by omega), iN_in (by omega) (by omega) (by omega), o01, ?_⟩, fun c => ⟨z01, ?_⟩⟩
  · rw [if_pos c, decide_eq_true c] at h; exact h
  · rw [if_neg c, decide_eq_false c] at h; exact h
def shC (C : Ch) (k j : Nat) : Ch := fun c i => if (c = 9 ∨ c = 10 ∨ c = 11) ∧ k ≤ i ∧ i < j then C c (i + 1) else C c i
def leaveC (C : Ch) (k : Nat) : Ch := upd2 (shC C k ((C 8 3).toNat - 1)) 8 3 (C 8 3 - 1)
theorem shC_0 (C : Ch) (k j : Nat) (h : j ≤ k) : shC C k j = C := by
  funext c i
  unfold shC
  rw [if_neg]
  omega
theorem shC_w (C : Ch) (k j : Nat) {c : Nat} (h : ¬ (c = 9 ∨ c = 10 ∨ c = 11)) : shC C k j c = C c := by
  funext i
  unfold shC
  rw [if_neg (fun q => h q.1)]
theorem shC_hi (C : Ch) (k j c i : Nat) (h : j ≤ i) : shC C k j c i = C c i := by
  unfold shC
  rw [if_neg]
  omega
theorem shC_step (C : Ch) (k j : Nat) (hk : k ≤ j) : upd2 (upd2 (upd2 (shC C k j) 9 j (C 9 (j + 1))) 10 j (C 10 (j + 1))) 11 j (C 11 (j + 1)) = shC C k (j + 1) := by
  funext c i
  unfold upd2 shC
  by_cases hi : i = j
  · subst hi
    by_cases h9 : c = 9
    · subst h9; simp [hk]
    · by_cases h10 : c = 10
      · subst h10; simp [hk]
      · by_cases h11 : c = 11
        · subst h11; simp [hk]
        · simp [h9, h10, h11]
  · simp only [hi, and_false, if_false]
    congr 1
    apply propext
    omega
theorem VB_sh {C : Ch} (hV : VB C) (k : Nat) {j : Nat} (hj : j ≤ 7) : VB (shC C k j) := by
  have e : ∀ c, ¬ (c = 9 ∨ c = 10 ∨ c = 11) → shC C k j c = C c := fun c hc => shC_w C k j hc
  obtain ⟨a1, a2, a3, a4, a5, a6, a7, a8, a9, a10, a11, a12, a13, a14, a15⟩ := hV
  refine ⟨by rw [e 0 (by omega)]; exact a1, by rw [e 0 (by omega)]; exact a2, by rw [e 0 (by omega)]; exact a3, by rw [e 0 (by omega)]; exact a4, by rw [e 0 (by omega)]; exact a5, by rw [e 2 (by omega)]; exact a6, by rw [e 3 (by omega)]; exact a7, by rw [e 4 (by omega)]; exact a8, by rw [e 5 (by omega)]; exact a9, by rw [e 6 (by omega)]; exact a10, by rw [e 7 (by omega)]; exact a11, by rw [e 8 (by omega)]; exact a12, fun i hi => ?_, fun i hi => ?_, fun i hi => ?_⟩
  · unfold shC; split
    · exact a13 (i + 1) (by omega)
    · exact a13 i hi
  · unfold shC; split
    · exact a14 (i + 1) (by omega)
    · exact a14 i hi
  · unfold shC; split
    · exact a15 (i + 1) (by omega)
    · exact a15 i hi
theorem VB_leave {C : Ch} (hV : VB C) (k : Nat) (hw : 1 ≤ C 8 3) : VB (leaveC C k) := by
  have := hV.w
  exact VB_w (VB_sh hV k (by omega)) (by omega) (by omega)
theorem c_leave {l : Launch} {E : EnvT} {d : Nat} {K : AV → Mem → Prop} {M : Mem} {r : Nat} {C : Ch} {k : Nat} (hd : 1 ≤ d) (hV : VB C) (hk : (k : Int) < C 8 3) (h : K (.null, 0) (setR M r (leaveC C k))) : CT l E d m_Waiting_leave [(.ref r, 19), (.int (iN k), 0)] (setR M r C) K := by
  refine CT.of pn_Waiting (Nat.le_of_ble_eq_true rfl) ?_
  refine b_Waiting_leave_0 hd ?_
  have hw := hV.w
  obtain ⟨n, hn⟩ : ∃ n : Nat, C 8 3 = n := ⟨(C 8 3).toNat, (by omega)⟩
  unfold leaveC at h
  rw [hn] at h
  rw [show ((n : Int)).toNat - 1 = n - 1 from rfl] at h
  have key : ∀ m j : Nat, k ≤ j → j + m = n - 1 → G l E d m_Waiting_leave 2 [(0, (.ref r, 19)), (2, (.int (iN j), 0))] [] (setR M r (shC C k j)) K := by
    intro m
    induction m with
    | zero =>
      intro j hkj hj
      have hj' : j = n - 1 := (by omega)
      refine b_Waiting_leave_2 hd ?_
      simp only [upd3_setR, setR_same, setR_setR, shC_w C k j (show ¬ (8 = 9 ∨ 8 = 10 ∨ 8 = 11) by omega), hn, iN_add, iN_sub]
      refine ⟨fun _ => ?_, fun c => absurd ((iN_le (by omega) (by omega) (by omega) (by omega)).mpr (by omega)) c⟩
      rw [iN_small (by omega) (by omega), hj']
      exact h
    | succ m ih =>
      intro j hkj hj
      refine b_Waiting_leave_2 hd ?_
      have w1 := hV.wa (j + 1) (by omega)
      have w2 := hV.wb (j + 1) (by omega)
      have w3 := hV.wm (j + 1) (by omega)
      have e1 : (iN ((j : Int) + 1)).toNatClampNeg = j + 1 := iN_clN (k := j + 1) (by omega)
      simp only [upd3_setR, setR_same, setR_setR, shC_w C k j (show ¬ (8 = 9 ∨ 8 = 10 ∨ 8 = 11) by omega), hn, iN_add, e1, iN_clN (show (j : Int) < 2147483648 by omega)]
      refine ⟨fun c => absurd ((iN_le (by omega) (by omega) (by omega) (by omega)).mp c) (by omega), fun _ => ⟨iN_in (by omega) (by omega) (by omega), iN_in (by omega) (by omega) (by omega), iN_in (by omega) (by omega) (by omega), iN_in (by omega) (by omega) (by omega), iN_in (by omega) (by omega) (by omega), iN_in (by omega) (by omega) (by omega), ?_⟩⟩
      simp only [upd2_c _ _ (show 10 ≠ 9 by decide), upd2_c _ _ (show 11 ≠ 9 by decide), upd2_c _ _ (show 11 ≠ 10 by decide), shC_hi C k j _ (j + 1) (Nat.le_succ j), iN_small (show -2147483648 ≤ C 9 (j + 1) by omega) (show C 9 (j + 1) < 2147483648 by omega), iN_small (show -2147483648 ≤ C 10 (j + 1) by omega) (show C 10 (j + 1) < 2147483648 by omega), iN_small (show -2147483648 ≤ C 11 (j + 1) by omega) (show C 11 (j + 1) < 2147483648 by omega)]
      rw [shC_step C k j hkj]
      exact ih (j + 1) (by omega) (by omega)
  have k0 := key (n - 1 - k) k (Nat.le_refl k) (by omega)
  rw [shC_0 C k k (Nat.le_refl k)] at k0
  exact k0
end
section
def oweC (C : Ch) (a : Int) (b : Nat) (n : Int) : Bool × Ch :=
  if slotOfC C a b ≠ -1 then (if C 7 (slotOfC C a b).toNat + n ≤ 999 then (true, upd2 C 7 (slotOfC C a b).toNat (C 7 (slotOfC C a b).toNat + n)) else (false, C))
  else if placeOfC C a b ≠ -1 then (if C 11 (placeOfC C a b).toNat + n ≤ 999 then (true, upd2 C 11 (placeOfC C a b).toNat (C 11 (placeOfC C a b).toNat + n)) else (false, C))
  else if slotOfC C (-1) b = -1 then (if C 8 3 < 8 then (true, joinC C a b n) else (false, C))
  else (true, upd2 (upd2 C 6 (slotOfC C (-1) b).toNat a) 7 (slotOfC C (-1) b).toNat n)
theorem VB_owe {C : Ch} {a : Int} {b : Nat} {n : Int} (hV : VB C) (a1 : 0 ≤ a) (a2 : a < 8) (hb : b < 8) (h1 : 0 ≤ n) (h2 : n ≤ 999) : VB (oweC C a b n).2 := by
  unfold oweC
  split
  · split
    · rcases slotOf_rng hV a hb with e | ⟨i, e, -, -, hi, -⟩
      · contradiction
      · rename_i h9
        rw [e] at h9 ⊢
        rw [show ((i : Int)).toNat = i from rfl] at h9 ⊢
        have := hV.de i hi
        exact VB_7 hV (by omega) (by omega)
    · exact hV
  · split
    · split
      · rcases placeOf_rng hV a b with e | ⟨i, e, -, hi, -, -⟩
        · contradiction
        · rename_i h9
          rw [e] at h9 ⊢
          rw [show ((i : Int)).toNat = i from rfl] at h9 ⊢
          have := hV.wm i hi
          exact VB_11 hV (by omega) (by omega)
      · exact hV
    · split
      · split
        · rename_i h9
          exact VB_join hV h9 a1 a2 (by omega) (by omega) h1 h2
        · exact hV
      · exact VB_7 (VB_6 hV (by omega) (by omega)) h1 h2
theorem c_owe {l : Launch} {E : EnvT} {d : Nat} {K : AV → Mem → Prop} {M : Mem} {r : Nat} {C : Ch} {a b : Nat} {n : Int} (hd : 2 ≤ d) (hV : VB C) (ha : a < 8) (hb : b < 8) (h1 : 0 ≤ n) (h2 : n ≤ 999) (h : K (.int (iN (b2i (oweC C a b n).1)), 0) (setR M r (oweC C a b n).2)) : CT l E d m_Choir_owe [(.ref r, 11), (.int (iN a), 0), (.int (iN b), 0), (.int (iN n), 0)] (setR M r C) K := by
  refine CT.of pn_Choir (Nat.le_of_ble_eq_true rfl) ?_
  refine b_Choir_owe_0 (by omega) (c_slotOfS (by omega) hV hb (by omega) (by omega) ?_)
  unfold oweC at h
  rcases slotOf_rng hV a hb with e | ⟨i, e, -, -, hi, -⟩
  · rw [if_neg (by simp [e])] at h
    rw [e, toI_int]
    refine ⟨fun _ => c_placeOfS (by omega) hV (by omega) (by omega) (by omega) (by omega) ?_, fun c => absurd rfl c⟩
    rcases placeOf_rng hV a b with e2 | ⟨j, e2, -, hj, -, -⟩
    · rw [if_neg (by simp [e2])] at h
      rw [e2, toI_int]
      refine ⟨fun _ => c_slotOfS (by omega) hV hb (by omega) (by omega) ?_, fun c => absurd rfl c⟩
      rcases slotOf_rng hV (-1) hb with e3 | ⟨f, e3, -, -, hf, -⟩
      · rw [if_pos e3] at h
        rw [e3, toI_int]
        refine ⟨fun c => absurd rfl c, fun _ => c_join (by omega) hV (by omega) (by omega) (by omega) (by omega) h1 h2 ?_⟩
        rw [toI_int]
        refine ⟨bb01 _, ?_⟩
        by_cases c : C 8 3 < 8
        · rw [if_pos c] at h ⊢; rw [decide_eq_true c]; exact h
        · rw [if_neg c] at h ⊢; rw [decide_eq_false c]; exact h
      · rw [if_neg (by omega), e3] at h
        rw [e3, toI_int, iN_eq (by omega) (by omega) (by omega) (by omega)]
        refine ⟨fun _ => ?_, fun c => absurd c (by omega)⟩
        refine ⟨iN_in (by omega) (by omega) (by omega), iN_in (by omega) (by omega) (by omega), o01, ?_⟩
        simp only [upd3_setR, setR_same, setR_setR, iN_clN (show (f : Int) < 2147483648 by omega), iN_small (show -2147483648 ≤ (a : Int) by omega) (show (a : Int) < 2147483648 by omega), iN_small (show -2147483648 ≤ n by omega) (show n < 2147483648 by omega)]
        exact h
    · rw [if_pos (by omega), e2] at h
      rw [show ((j : Int)).toNat = j from rfl] at h
      rw [e2, toI_int, iN_eq (by omega) (by omega) (by omega) (by omega)]
      refine ⟨fun c => absurd c (by omega), fun _ => c_raise (by omega) hV hj h1 (by omega) ?_⟩
      rw [toI_int]
      refine ⟨bb01 _, ?_⟩
      by_cases c : C 11 j + n ≤ 999
      · rw [if_pos c] at h ⊢; rw [decide_eq_true c]; exact h
      · rw [if_neg c] at h ⊢; rw [decide_eq_false c]; exact h
  · rw [if_pos (by omega), e] at h
    rw [show ((i : Int)).toNat = i from rfl] at h
    rw [e, toI_int, iN_eq (by omega) (by omega) (by omega) (by omega)]
    have hde := hV.de i hi
    refine ⟨fun c => absurd c (by omega), fun _ => ?_⟩
    simp only [upd3_setR, setR_same, setR_setR, iN_add, iN_clN (show (i : Int) < 2147483648 by omega), iN_small (show -2147483648 ≤ C 7 i + n by omega) (show C 7 i + n < 2147483648 by omega), iN_le (show -2147483648 ≤ C 7 i + n by omega) (show C 7 i + n < 2147483648 by omega) (show -2147483648 ≤ (999 : Int) by omega) (show (999 : Int) < 2147483648 by omega)]
    refine ⟨iN_in (by omega) (by omega) (by omega), fun c => ⟨iN_in (by omega) (by omega) (by omega), iN_in (by omega) (by omega) (by omega), o01, ?_⟩, fun c => ⟨z01, ?_⟩⟩
    · rw [if_pos c] at h; exact h
    · rw [if_neg c] at h; exact h
def lendC (C : Ch) (a b : Int) (n : Int) : Bool × Ch :=
  if twoB C a b = true ∧ inS (C 0 11) b.toNat = false ∧ n ≤ C 2 a.toNat ∧ C 2 b.toNat + n ≤ 9999 ∧ (oweC C b a.toNat n).1 = true then
    (true, upd2 (upd2 (oweC C b a.toNat n).2 2 a.toNat (C 2 a.toNat - n)) 2 b.toNat (C 2 b.toNat + n)) else (false, C)
theorem oweC_false {C : Ch} {a : Int} {b : Nat} {n : Int} (h : (oweC C a b n).1 = false) : (oweC C a b n).2 = C := by
  revert h
  unfold oweC
  split
  · split
    · intro h; cases h
    · intro _; rfl
  · split
    · split
      · intro h; cases h
      · intro _; rfl
    · split
      · split
        · intro h; cases h
        · intro _; rfl
      · intro h; cases h
theorem joinC_c {C : Ch} {a b n : Int} {c : Nat} (h : c ≠ 8 ∧ c ≠ 9 ∧ c ≠ 10 ∧ c ≠ 11) : joinC C a b n c = C c := by
  unfold joinC
  rw [upd2_c _ _ h.1, upd2_c _ _ h.2.2.2, upd2_c _ _ h.2.2.1, upd2_c _ _ h.2.1]
theorem oweC_c {C : Ch} {a : Int} {b : Nat} {n : Int} {c : Nat} (h : c ≠ 6 ∧ c ≠ 7 ∧ c ≠ 8 ∧ c ≠ 9 ∧ c ≠ 10 ∧ c ≠ 11) : (oweC C a b n).2 c = C c := by
  unfold oweC
  split
  · split
    · exact upd2_c _ _ h.2.1
    · rfl
  · split
    · split
      · exact upd2_c _ _ h.2.2.2.2.2
      · rfl
    · split
      · split
        · exact joinC_c h.2.2
        · rfl
      · show upd2 (upd2 _ _ _ _) _ _ _ c = _
        rw [upd2_c _ _ h.2.1, upd2_c _ _ h.1]
theorem VB_lend {C : Ch} {a b : Int} {n : Int} (hV : VB C) (h1 : 0 ≤ n) (h2 : n ≤ 999) : VB (lendC C a b n).2 := by
  unfold lendC
  split
  · rename_i h
    obtain ⟨t1, t2, t3⟩ := twoB_spec h.1
    have := hV.n
    have p1 := hV.pu a.toNat (by omega)
    have p2 := hV.pu b.toNat (by omega)
    exact VB_2 (VB_2 (VB_owe hV (by omega) (by omega) (by omega) h1 h2) (by omega) (by omega)) (by omega) (by omega)
  · exact hV
theorem c_lendCoins {l : Launch} {E : EnvT} {d : Nat} {K : AV → Mem → Prop} {M : Mem} {r : Nat} {C : Ch} {a b : Int} {n : Int} (hd : 3 ≤ d) (hV : VB C) (a1 : -2147483648 ≤ a) (a2 : a < 2147483648) (b1 : -2147483648 ≤ b) (b2 : b < 2147483648) (h1 : 0 ≤ n) (h2 : n ≤ 999) (h : K (.int (iN (b2i (lendC C a b n).1)), 0) (setR M r (lendC C a b n).2)) : CT l E d m_Choir_lendCoins [(.ref r, 11), (.int (iN a), 0), (.int (iN b), 0), (.int (iN n), 0)] (setR M r C) K := by
  refine CT.of pn_Choir (Nat.le_of_ble_eq_true rfl) ?_
  refine b_Choir_lendCoins_0 (by omega) (c_areTwoS (by omega) hV a1 a2 b1 b2 ?_)
  unfold lendC at h
  rw [toI_int, b2i_z]
  refine ⟨fun c => ⟨z01, ?_⟩, fun c => ?_⟩
  · rw [if_neg (by simp [c])] at h; exact h
  · rw [Bool.not_eq_false] at c
    obtain ⟨t1, t2, t3⟩ := twoB_spec c
    have hn := hV.n
    obtain ⟨x, rfl⟩ : ∃ x : Nat, a = x := ⟨a.toNat, (by omega)⟩
    obtain ⟨y, rfl⟩ : ∃ y : Nat, b = y := ⟨b.toNat, (by omega)⟩
    have hxy : (y : Nat) ≠ x := fun q => t3 (by rw [q])
    have p1 := hV.pu x (by omega)
    have p2 := hV.pu y (by omega)
    have hm := hV.ms 11 (by omega) (by omega)
    simp only [show ((x : Int)).toNat = x from rfl, show ((y : Int)).toNat = y from rfl] at h
    rw [setR_same]
    refine c_isIn (by omega) hm.1 hm.2 (by omega) ?_
    rw [toI_int, b2i_z]
    refine ⟨fun c2 => ⟨z01, ?_⟩, fun c2 => ?_⟩
    · rw [if_neg (by simp [c2])] at h; exact h
    · simp only [setR_same, iN_add, iN_sub, iN_clN (show (x : Int) < 2147483648 by omega), iN_clN (show (y : Int) < 2147483648 by omega)]
      refine ⟨iN_in (by omega) (by omega) (by omega), fun c3 => ⟨z01, ?_⟩, fun c3 => ⟨iN_in (by omega) (by omega) (by omega), fun c4 => c_owe (by omega) hV (by omega) (by omega) h1 h2 ?_, fun c4 => ⟨z01, ?_⟩⟩⟩
      · rw [iN_lt (by omega) (by omega) (by omega) (by omega)] at c3
        rw [if_neg (by omega)] at h; exact h
      · rw [iN_lt (by omega) (by omega) (by omega) (by omega)] at c3
        rw [iN_le (by omega) (by omega) (by omega) (by omega)] at c4
        rw [toI_int, b2i_z]
        have ec : (oweC C y x n).2 2 = C 2 := oweC_c (by omega)
        refine ⟨fun c5 => ⟨iN_in (by omega) (by omega) (by omega), iN_in (by omega) (by omega) (by omega), iN_in (by omega) (by omega) (by omega), iN_in (by omega) (by omega) (by omega), o01, ?_⟩, fun c5 => ⟨z01, ?_⟩⟩
        · rw [Bool.not_eq_false] at c5
          rw [if_pos ⟨c, c2, (by omega), (by omega), c5⟩] at h
          simp only [upd3_setR, setR_same, setR_setR, ec, upd2_k _ _ hxy, iN_small (show -2147483648 ≤ C 2 x - n by omega) (show C 2 x - n < 2147483648 by omega), iN_small (show -2147483648 ≤ C 2 y + n by omega) (show C 2 y + n < 2147483648 by omega), iN_sub, iN_add]
          exact h
        · rw [if_neg (by simp [c5])] at h
          rw [oweC_false c5]; exact h
      · rw [iN_lt (by omega) (by omega) (by omega) (by omega)] at c3
        rw [iN_le (by omega) (by omega) (by omega) (by omega)] at c4
        rw [if_neg (by omega)] at h; exact h
def settleF : Nat → Nat → Ch → Ch
  | 0, _, C => C
  | f + 1, k, C => if (k : Int) < C 8 3 then (if slotOfC C (-1) (C 10 k).toNat = -1 then settleF f (k + 1) C else settleF f k (leaveC (upd2 (upd2 C 6 (slotOfC C (-1) (C 10 k).toNat).toNat (C 9 k)) 7 (slotOfC C (-1) (C 10 k).toNat).toNat (C 11 k)) k)) else C
def settleC (C : Ch) : Ch := settleF 8 0 C
theorem VB_settleF : ∀ (f k : Nat) {C : Ch}, VB C → VB (settleF f k C)
  | 0, _, _, h => h
  | f + 1, k, C, h => by
    unfold settleF
    split
    · rename_i hk
      have hw := h.w
      have b1 := h.wa k (by omega)
      have b2 := h.wb k (by omega)
      have b3 := h.wm k (by omega)
      split
      · exact VB_settleF f (k + 1) h
      · refine VB_settleF f k (VB_leave (VB_7 (VB_6 h (by omega) (by omega)) (by omega) (by omega)) k ?_)
        rw [upd2_c _ _ (show 8 ≠ 7 by decide), upd2_c _ _ (show 8 ≠ 6 by decide)]
        omega
    · exact h
theorem VB_settle {C : Ch} (h : VB C) : VB (settleC C) := VB_settleF 8 0 h
theorem c_settle {l : Launch} {E : EnvT} {d : Nat} {K : AV → Mem → Prop} {M : Mem} {r : Nat} {C : Ch} (hd : 2 ≤ d) (hV : VB C) (h : K (.null, 0) (setR M r (settleC C))) : CT l E d m_Choir_settle [(.ref r, 11)] (setR M r C) K := by
  refine CT.of pn_Choir (Nat.le_of_ble_eq_true rfl) ?_
  refine b_Choir_settle_0 (by omega) ?_
  have key : ∀ (f t k : Nat) (D : Ch), t + f = 8 → k ≤ t → VB D → settleC C = settleF f k D → G l E d m_Choir_settle 4 [(0, (.ref r, 11)), (1, (.int (iN k), 0)), (2, (.int (iN t), 0))] [] (setR M r D) K := by
    intro f
    induction f with
    | zero =>
      intro t k D ht hk hD he
      rw [he] at h
      exact b_Choir_settle_4 (by omega) ⟨fun _ => h, fun c => absurd ((iN_le (by omega) (by omega) (by omega) (by omega)).mpr (by omega)) c⟩
    | succ f ih =>
      intro t k D ht hk hD he
      refine b_Choir_settle_4 (by omega) ?_
      have hw := hD.w
      simp only [setR_same, iN_clN (show (k : Int) < 2147483648 by omega), iN_add]
      refine ⟨fun c => absurd ((iN_le (by omega) (by omega) (by omega) (by omega)).mp c) (by omega), fun _ => ⟨fun c => ?_, fun c => ?_⟩⟩
      · rw [iN_le (by omega) (by omega) (by omega) (by omega)] at c
        rw [he] at h
        unfold settleF at h
        rw [if_neg (by omega)] at h
        exact h
      · rw [iN_le (by omega) (by omega) (by omega) (by omega)] at c
        have b1 := hD.wa k (by omega)
        have b2 := hD.wb k (by omega)
        have b3 := hD.wm k (by omega)
        obtain ⟨s, hs⟩ : ∃ s : Nat, D 10 k = s := ⟨(D 10 k).toNat, (by omega)⟩
        refine ⟨iN_in (by omega) (by omega) (by omega), ?_⟩
        rw [hs]
        refine c_slotOfS (by omega) hD (by omega) (by omega) (by omega) ?_
        unfold settleF at he
        rw [if_pos (by omega), hs, show ((s : Int)).toNat = s from rfl] at he
        rcases slotOf_rng hD (-1) (b := s) (by omega) with e | ⟨i, e, -, -, hi, -⟩
        · rw [if_pos e] at he
          rw [e, toI_int]
          exact ⟨fun c => absurd rfl c, fun _ => ih (t + 1) (k + 1) D (by omega) (by omega) hD he⟩
        · rw [e, if_neg (by omega), show ((i : Int)).toNat = i from rfl] at he
          rw [e, toI_int, iN_eq (by omega) (by omega) (by omega) (by omega)]
          refine ⟨fun _ => ⟨iN_in (by omega) (by omega) (by omega), iN_in (by omega) (by omega) (by omega), iN_in (by omega) (by omega) (by omega), iN_in (by omega) (by omega) (by omega), ?_⟩, fun c => absurd c (by omega)⟩
          simp only [upd3_setR, setR_same, setR_setR, iN_clN (show (i : Int) < 2147483648 by omega), upd2_c _ _ (show 11 ≠ 6 by decide), iN_small (show -2147483648 ≤ D 9 k by omega) (show D 9 k < 2147483648 by omega), iN_small (show -2147483648 ≤ D 11 k by omega) (show D 11 k < 2147483648 by omega)]
          have hV2 : VB (upd2 (upd2 D 6 i (D 9 k)) 7 i (D 11 k)) := VB_7 (VB_6 hD (by omega) (by omega)) (by omega) (by omega)
          have e8 : upd2 (upd2 D 6 i (D 9 k)) 7 i (D 11 k) 8 = D 8 := by rw [upd2_c _ _ (show 8 ≠ 7 by decide), upd2_c _ _ (show 8 ≠ 6 by decide)]
          refine c_leave (by omega) hV2 (by rw [e8]; omega) ?_
          exact ih (t + 1) k _ (by omega) (by omega) (VB_leave hV2 k (by rw [e8]; omega)) he
  exact key 8 0 0 C rfl (Nat.le_refl 0) hV rfl
end
section
theorem takeOffC_c {C : Ch} {i : Nat} {n : Int} {c : Nat} (h6 : c ≠ 6) (h7 : c ≠ 7) : takeOffC C i n c = C c := by
  unfold takeOffC
  split
  · rw [upd2_c _ _ h6, upd2_c _ _ h7]
  · rw [upd2_c _ _ h7]
theorem takeOffC_7 {C : Ch} {i j : Nat} {n : Int} (h : j ≠ i) : takeOffC C i n 7 j = C 7 j := by
  unfold takeOffC
  split
  · rw [upd2_c _ _ (show 7 ≠ 6 by decide), upd2_k _ _ h]
  · rw [upd2_k _ _ h]
theorem handC_c {C : Ch} {a b : Nat} {n : Int} {c : Nat} (h0 : c ≠ 0) (h2 : c ≠ 2) : handC C a b n c = C c := by
  unfold handC
  rw [upd2_c _ _ h0, upd2_c _ _ h2, upd2_c _ _ h2]
theorem leaveC_c {C : Ch} {k c : Nat} (h : c ≠ 8 ∧ c ≠ 9 ∧ c ≠ 10 ∧ c ≠ 11) : leaveC C k c = C c := by
  unfold leaveC
  rw [upd2_c _ _ h.1, shC_w _ _ _ (by omega)]
theorem settleF_c {c : Nat} (h : c ≠ 6 ∧ c ≠ 7 ∧ c ≠ 8 ∧ c ≠ 9 ∧ c ≠ 10 ∧ c ≠ 11) : ∀ (f k : Nat) (C : Ch), settleF f k C c = C c
  | 0, _, _ => rfl
  | f + 1, k, C => by
    unfold settleF
    split
    · split
      · exact settleF_c h f (k + 1) C
      · rw [settleF_c h f k, leaveC_c h.2.2, upd2_c _ _ h.2.1, upd2_c _ _ h.1]
    · rfl
theorem settleC_c {c : Nat} {C : Ch} (h : c ≠ 6 ∧ c ≠ 7 ∧ c ≠ 8 ∧ c ≠ 9 ∧ c ≠ 10 ∧ c ≠ 11) : settleC C c = C c := settleF_c h 8 0 C
def payC (C : Ch) (a b : Int) (n : Int) : Bool × Ch :=
  if twoB C a b = true ∧ slotOfC C a b.toNat ≠ -1 ∧ n ≤ C 7 (slotOfC C a b.toNat).toNat ∧ n ≤ C 2 a.toNat ∧ C 2 b.toNat + n ≤ 9999 then
    (true, settleC (takeOffC (handC C a.toNat b.toNat n) (slotOfC C a b.toNat).toNat n)) else (false, C)
theorem c_payCoins {l : Launch} {E : EnvT} {d : Nat} {K : AV → Mem → Prop} {M : Mem} {r : Nat} {C : Ch} {a b : Int} {n : Int} (hd : 3 ≤ d) (hV : VB C) (a1 : -2147483648 ≤ a) (a2 : a < 2147483648) (b1 : -2147483648 ≤ b) (b2 : b < 2147483648) (h1 : 0 ≤ n) (h2 : n ≤ 9999) (h : K (.int (iN (b2i (payC C a b n).1)), 0) (setR M r (payC C a b n).2)) : CT l E d m_Choir_payCoins [(.ref r, 11), (.int (iN a), 0), (.int (iN b), 0), (.int (iN n), 0)] (setR M r C) K := by
  refine CT.of pn_Choir (Nat.le_of_ble_eq_true rfl) ?_
  refine b_Choir_payCoins_0 (by omega) (c_areTwoS (by omega) hV a1 a2 b1 b2 ?_)
  unfold payC at h
  rw [toI_int, b2i_z]
  refine ⟨fun c => ?_, fun c => ⟨z01, ?_⟩⟩
  · rw [Bool.not_eq_false] at c
    obtain ⟨t1, t2, t3⟩ := twoB_spec c
    have hn := hV.n
    obtain ⟨x, rfl⟩ : ∃ x : Nat, a = x := ⟨a.toNat, (by omega)⟩
    obtain ⟨y, rfl⟩ : ∃ y : Nat, b = y := ⟨b.toNat, (by omega)⟩
    have p1 := hV.pu x (by omega)
    have p2 := hV.pu y (by omega)
    simp only [show ((x : Int)).toNat = x from rfl, show ((y : Int)).toNat = y from rfl] at h
    refine c_slotOfS (by omega) hV (by omega) (by omega) (by omega) ?_
    rcases slotOf_rng hV x (b := y) (by omega) with e | ⟨i, e, -, -, hi, -⟩
    · rw [e, toI_int]
      refine ⟨fun _ => ⟨z01, ?_⟩, fun c => absurd rfl c⟩
      rw [if_neg (by simp [e])] at h; exact h
    · simp only [e, show ((i : Int)).toNat = i from rfl] at h
      have hde := hV.de i hi
      simp only [e, toI_int, setR_same, iN_add, iN_clN (show (x : Int) < 2147483648 by omega), iN_clN (show (y : Int) < 2147483648 by omega), iN_clN (show (i : Int) < 2147483648 by omega)]
      rw [iN_eq (by omega) (by omega) (by omega) (by omega), iN_lt (by omega) (by omega) (by omega) (by omega), iN_lt (by omega) (by omega) (by omega) (by omega), iN_le (by omega) (by omega) (by omega) (by omega)]
      refine ⟨fun c => absurd c (by omega), fun _ => ⟨iN_in (by omega) (by omega) (by omega), fun c2 => ⟨z01, ?_⟩, fun c2 => ⟨iN_in (by omega) (by omega) (by omega), fun c3 => ⟨z01, ?_⟩, fun c3 => ⟨iN_in (by omega) (by omega) (by omega), fun c4 => ?_, fun c4 => ⟨z01, ?_⟩⟩⟩⟩⟩
      · rw [if_neg (by omega)] at h; exact h
      · rw [if_neg (by omega)] at h; exact h
      · rw [if_pos ⟨c, by omega, by omega, by omega, by omega⟩] at h
        have hV2 := VB_hand (a := x) (b := y) (n := n) hV (by omega) (by omega) h1 (by omega) (by omega)
        have e7 : handC C x y n 7 = C 7 := handC_c (by decide) (by decide)
        refine c_handOver (by omega) hV (by omega) (by omega) h1 (by omega) (by omega) (c_takeOff (by omega) hV2 hi h1 (by rw [e7]; omega) (c_settle (by omega) (VB_takeOff hV2 hi h1 (by rw [e7]; omega)) ⟨o01, h⟩))
      · rw [if_neg (by omega)] at h; exact h
  · rw [if_neg (by simp [c])] at h; exact h
def netC (C : Ch) (a b : Int) : Int × Ch :=
  if twoB C a b = true ∧ slotOfC C a b.toNat ≠ -1 ∧ slotOfC C b a.toNat ≠ -1 then
    (min (C 7 (slotOfC C a b.toNat).toNat) (C 7 (slotOfC C b a.toNat).toNat), settleC (takeOffC (takeOffC C (slotOfC C a b.toNat).toNat (min (C 7 (slotOfC C a b.toNat).toNat) (C 7 (slotOfC C b a.toNat).toNat))) (slotOfC C b a.toNat).toNat (min (C 7 (slotOfC C a b.toNat).toNat) (C 7 (slotOfC C b a.toNat).toNat))))
  else (0, C)
theorem net_two {C : Ch} (hV : VB C) {x y i j : Nat} (hx : x < 8) (hy : y < 8) (hne : x ≠ y) (hi1 : 6 * y ≤ i) (hi2 : i < 6 * y + (C 4 y).toNat) (hj1 : 6 * x ≤ j) (hj2 : j < 6 * x + (C 4 x).toNat) : j ≠ i := by
  have l1 := hV.le x hx
  have l2 := hV.le y hy
  omega
theorem c_netTwo {l : Launch} {E : EnvT} {d : Nat} {K : AV → Mem → Prop} {M : Mem} {r : Nat} {C : Ch} {a b : Int} (hd : 3 ≤ d) (hV : VB C) (a1 : -2147483648 ≤ a) (a2 : a < 2147483648) (b1 : -2147483648 ≤ b) (b2 : b < 2147483648) (h : K (.int (iN (netC C a b).1), 0) (setR M r (netC C a b).2)) : CT l E d m_Choir_netTwo [(.ref r, 11), (.int (iN a), 0), (.int (iN b), 0)] (setR M r C) K := by
  refine CT.of pn_Choir (Nat.le_of_ble_eq_true rfl) ?_
  refine b_Choir_netTwo_0 (by omega) (c_areTwoS (by omega) hV a1 a2 b1 b2 ?_)
  unfold netC at h
  rw [toI_int, b2i_z]
  refine ⟨fun c => ?_, fun c => ?_⟩
  · rw [Bool.not_eq_false] at c
    obtain ⟨t1, t2, t3⟩ := twoB_spec c
    have hn := hV.n
    obtain ⟨x, rfl⟩ : ∃ x : Nat, a = x := ⟨a.toNat, (by omega)⟩
    obtain ⟨y, rfl⟩ : ∃ y : Nat, b = y := ⟨b.toNat, (by omega)⟩
    simp only [show ((x : Int)).toNat = x from rfl, show ((y : Int)).toNat = y from rfl] at h
    refine c_slotOfS (by omega) hV (by omega) (by omega) (by omega) (c_slotOfS (by omega) hV (by omega) (by omega) (by omega) ?_)
    rcases slotOf_rng hV x (b := y) (by omega) with e | ⟨i, e, i1, i2, hi, -⟩
    · rw [e, toI_int]
      refine ⟨fun _ => ?_, fun c => absurd rfl c⟩
      rw [if_neg (by simp [e])] at h; exact h
    · rcases slotOf_rng hV y (b := x) (by omega) with e2 | ⟨j, e2, j1, j2, hj, -⟩
      · simp only [e, e2, toI_int]
        rw [iN_eq (by omega) (by omega) (by omega) (by omega)]
        refine ⟨fun c => absurd c (by omega), fun _ => ⟨fun c => absurd trivial c, fun _ => ?_⟩⟩
        rw [if_neg (by simp [e2])] at h; exact h
      · rw [if_pos ⟨c, by omega, by omega⟩] at h
        simp only [e, e2, show ((i : Int)).toNat = i from rfl, show ((j : Int)).toNat = j from rfl] at h
        have d1 := hV.de i hi
        have d2 := hV.de j hj
        have hji := net_two hV (x := x) (y := y) (by omega) (by omega) (fun q => t3 (by rw [q])) i1 i2 j1 j2
        simp only [e, e2, toI_int, setR_same, iN_clN (show (i : Int) < 2147483648 by omega), iN_clN (show (j : Int) < 2147483648 by omega)]
        rw [iN_eq (by omega) (by omega) (by omega) (by omega), iN_eq (by omega) (by omega) (by omega) (by omega)]
        refine ⟨fun c => absurd c (by omega), fun _ => ⟨fun _ => ⟨iN_in (by omega) (by omega) (by omega), iN_in (by omega) (by omega) (by omega), c_min (by omega) (by omega) (by omega) (by omega) (by omega) ?_⟩, fun c => absurd c (by omega)⟩⟩
        rw [toI_int]
        have hV2 := VB_takeOff (n := min (C 7 i) (C 7 j)) hV hi (by omega) (by omega)
        have e7 : takeOffC C i (min (C 7 i) (C 7 j)) 7 j = C 7 j := takeOffC_7 hji
        exact c_takeOff (by omega) hV hi (by omega) (by omega) (c_takeOff (by omega) hV2 hj (by omega) (by rw [e7]; omega) (c_settle (by omega) (VB_takeOff hV2 hj (by omega) (by rw [e7]; omega)) h))
  · rw [if_neg (by simp [c])] at h; exact h
theorem VB_net {C : Ch} {a b : Int} (hV : VB C) : VB (netC C a b).2 := by
  unfold netC
  split
  · rename_i h
    obtain ⟨t1, t2, t3⟩ := twoB_spec h.1
    have hn := hV.n
    rcases slotOf_rng hV a (b := b.toNat) (by omega) with e | ⟨i, e, i1, i2, hi, -⟩
    · exact absurd e h.2.1
    · rcases slotOf_rng hV b (b := a.toNat) (by omega) with e2 | ⟨j, e2, j1, j2, hj, -⟩
      · exact absurd e2 h.2.2
      · simp only [e, e2, show ((i : Int)).toNat = i from rfl, show ((j : Int)).toNat = j from rfl]
        have d1 := hV.de i hi
        have d2 := hV.de j hj
        have hji := net_two hV (x := a.toNat) (y := b.toNat) (by omega) (by omega) (by omega) i1 i2 j1 j2
        exact VB_settle (VB_takeOff (VB_takeOff hV hi (by omega) (by omega)) hj (by omega) (by rw [takeOffC_7 hji]; omega))
  · exact hV
theorem VB_pay {C : Ch} {a b n : Int} (hV : VB C) (h1 : 0 ≤ n) : VB (payC C a b n).2 := by
  unfold payC
  split
  · rename_i h
    obtain ⟨t1, t2, t3⟩ := twoB_spec h.1
    have hn := hV.n
    rcases slotOf_rng hV a (b := b.toNat) (by omega) with e | ⟨i, e, i1, i2, hi, -⟩
    · exact absurd e h.2.1
    · have h3 := h.2.2
      simp only [e, show ((i : Int)).toNat = i from rfl] at h3 ⊢
      exact VB_settle (VB_takeOff (VB_hand hV (by omega) (by omega) h1 h3.2.1 h3.2.2) hi h1 (by rw [handC_c (by decide) (by decide)]; exact h3.1))
  · exact hV
theorem netC_c {C : Ch} {a b : Int} {c : Nat} (h : c ≠ 6 ∧ c ≠ 7 ∧ c ≠ 8 ∧ c ≠ 9 ∧ c ≠ 10 ∧ c ≠ 11) : (netC C a b).2 c = C c := by
  unfold netC
  split
  · show settleC _ c = _
    rw [settleC_c h, takeOffC_c h.1 h.2.1, takeOffC_c h.1 h.2.1]
  · rfl
def netRow (a : Nat) : Nat → Nat → Int × Ch → Int × Ch
  | 0, _, q => q
  | m + 1, b, q => netRow a m (b + 1) (q.1 + (netC q.2 a b).1, (netC q.2 a b).2)
def netAllF (n : Nat) : Nat → Nat → Int × Ch → Int × Ch
  | 0, _, q => q
  | m + 1, a, q => netAllF n m (a + 1) (netRow a (n - (a + 1)) (a + 1) q)
def netAllC (C : Ch) : Int × Ch := netAllF (C 0 8).toNat (C 0 8).toNat 0 (0, C)
theorem VB_netRow (a : Nat) : ∀ (m b : Nat) {q : Int × Ch}, VB q.2 → VB (netRow a m b q).2
  | 0, _, _, h => h
  | m + 1, b, q, h => VB_netRow a m (b + 1) (VB_net h)
theorem netRow_c (a : Nat) {c : Nat} (h : c ≠ 6 ∧ c ≠ 7 ∧ c ≠ 8 ∧ c ≠ 9 ∧ c ≠ 10 ∧ c ≠ 11) : ∀ (m b : Nat) (q : Int × Ch), (netRow a m b q).2 c = q.2 c
  | 0, _, _ => rfl
  | m + 1, b, q => by
    show (netRow a m (b + 1) _).2 c = _
    rw [netRow_c a h m (b + 1)]
    exact netC_c h
theorem c_netAll {l : Launch} {E : EnvT} {d : Nat} {K : AV → Mem → Prop} {M : Mem} {r : Nat} {C : Ch} (hd : 4 ≤ d) (hV : VB C) (h : K (.int (iN (netAllC C).1), 0) (setR M r (netAllC C).2)) : CT l E d m_Choir_netAll [(.ref r, 11)] (setR M r C) K := by
  refine CT.of pn_Choir (Nat.le_of_ble_eq_true rfl) ?_
  refine b_Choir_netAll_0 (by omega) ?_
  have hn0 := hV.n
  obtain ⟨n, hn⟩ : ∃ n : Nat, C 0 8 = n := ⟨(C 0 8).toNat, (by omega)⟩
  unfold netAllC at h
  rw [hn, show ((n : Int)).toNat = n from rfl] at h
  have key : ∀ (m a : Nat) (q : Int × Ch), a + m = n → VB q.2 → q.2 0 8 = n → netAllF n n 0 (0, C) = netAllF n m a q → G l E d m_Choir_netAll 4 [(0, (.ref r, 11)), (1, (.int (iN q.1), 0)), (2, (.int (iN a), 0))] [] (setR M r q.2) K := by
    intro m
    induction m with
    | zero =>
      intro a q ha hq hq8 he
      refine b_Choir_netAll_4 (by omega) ?_
      rw [setR_same, hq8]
      rw [he] at h
      exact ⟨fun _ => h, fun c => absurd ((iN_le (by omega) (by omega) (by omega) (by omega)).mpr (by omega)) c⟩
    | succ m ih =>
      intro a q ha hq hq8 he
      refine b_Choir_netAll_4 (by omega) ?_
      rw [setR_same, hq8]
      refine ⟨fun c => absurd ((iN_le (by omega) (by omega) (by omega) (by omega)).mp c) (by omega), fun _ => ?_⟩
      have key2 : ∀ (m2 b : Nat) (q2 : Int × Ch), b + m2 = n → VB q2.2 → q2.2 0 8 = n → netRow a (n - (a + 1)) (a + 1) q = netRow a m2 b q2 → G l E d m_Choir_netAll 16 [(0, (.ref r, 11)), (1, (.int (iN q2.1), 0)), (2, (.int (iN a), 0)), (3, (.int (iN b), 0))] [] (setR M r q2.2) K := by
        intro m2
        induction m2 with
        | zero =>
          intro b q2 hb hq2 hq28 he2
          refine b_Choir_netAll_16 (by omega) ?_
          rw [setR_same, hq28]
          refine ⟨fun _ => ?_, fun c => absurd ((iN_le (by omega) (by omega) (by omega) (by omega)).mpr (by omega)) c⟩
          rw [iN_add]
          refine ih (a + 1) q2 (by omega) hq2 hq28 ?_
          rw [he]
          show netAllF n m (a + 1) (netRow a (n - (a + 1)) (a + 1) q) = _
          rw [he2]
          rfl
        | succ m2 ih2 =>
          intro b q2 hb hq2 hq28 he2
          refine b_Choir_netAll_16 (by omega) ?_
          rw [setR_same, hq28]
          refine ⟨fun c => absurd ((iN_le (by omega) (by omega) (by omega) (by omega)).mp c) (by omega), fun _ => c_netTwo (by omega) hq2 (by omega) (by omega) (by omega) (by omega) ?_⟩
          rw [toI_int, iN_add, iN_add]
          refine ih2 (b + 1) (q2.1 + (netC q2.2 a b).1, (netC q2.2 a b).2) (by omega) (VB_net hq2) ?_ he2
          show (netC q2.2 a b).2 0 8 = n
          rw [netC_c (by omega)]
          exact hq28
      rw [iN_add]
      exact key2 (n - (a + 1)) (a + 1) q (by omega) hq hq8 rfl
  exact key n 0 (0, C) (by omega) hV hn rfl
end
section
def setB (m : Int) (s : Nat) : Int := ((m.toNat ||| 2 ^ s : Nat) : Int)
def clrB (m : Int) (s : Nat) : Int := ((m.toNat &&& (255 - 2 ^ s) : Nat) : Int)
theorem or_bit0 : ∀ m : Nat, m < 256 → ∀ s : Nat, s < 8 → (iN (m : Int) ||| (iN 1 <<< (iN (s : Int) &&& 31))) = iN ((m ||| 2 ^ s : Nat) : Int) ∧ (m ||| 2 ^ s) < 256 := by decide +kernel
theorem clr_bit0 : ∀ m : Nat, m < 256 → ∀ s : Nat, s < 8 → (iN (m : Int) &&& ((iN 1 <<< (iN (s : Int) &&& 31)) ^^^ iN (-1))) = iN ((m &&& (255 - 2 ^ s) : Nat) : Int) ∧ (m &&& (255 - 2 ^ s)) < 256 := by decide +kernel
theorem or_bit {m : Int} {s : Nat} (h1 : 0 ≤ m) (h2 : m < 256) (h3 : s < 8) : (iN m ||| (iN 1 <<< (iN (s : Int) &&& 31))) = iN (setB m s) := by
  obtain ⟨k, rfl⟩ : ∃ k : Nat, m = k := ⟨m.toNat, (by omega)⟩
  exact (or_bit0 k (by omega) s h3).1
theorem clr_bit {m : Int} {s : Nat} (h1 : 0 ≤ m) (h2 : m < 256) (h3 : s < 8) : (iN m &&& ((iN 1 <<< (iN (s : Int) &&& 31)) ^^^ iN (-1))) = iN (clrB m s) := by
  obtain ⟨k, rfl⟩ : ∃ k : Nat, m = k := ⟨m.toNat, (by omega)⟩
  exact (clr_bit0 k (by omega) s h3).1
theorem setB_rng {m : Int} {s : Nat} (h1 : 0 ≤ m) (h2 : m < 256) (h3 : s < 8) : 0 ≤ setB m s ∧ setB m s < 256 := by
  obtain ⟨k, rfl⟩ : ∃ k : Nat, m = k := ⟨m.toNat, (by omega)⟩
  have := (or_bit0 k (by omega) s h3).2
  unfold setB
  rw [show ((k : Int)).toNat = k from rfl]
  omega
theorem clrB_rng {m : Int} {s : Nat} (h1 : 0 ≤ m) (h2 : m < 256) (h3 : s < 8) : 0 ≤ clrB m s ∧ clrB m s < 256 := by
  obtain ⟨k, rfl⟩ : ∃ k : Nat, m = k := ⟨m.toNat, (by omega)⟩
  have := (clr_bit0 k (by omega) s h3).2
  unfold clrB
  rw [show ((k : Int)).toNat = k from rfl]
  omega
/-- the ring: who, out of Ties' path P -/
def ringMin (C : Ch) (P : Nat → Int) (n : Nat) : Nat → Int
  | 0 => 999
  | k + 1 => min (ringMin C P n k) (debtC C (P k) (P ((k + 1) % n)).toNat)
def ringOff (P : Nat → Int) (n : Nat) (off : Int) : Nat → Nat → Ch → Ch
  | 0, _, C => C
  | m + 1, k, C => ringOff P n off m (k + 1) (if slotOfC C (P k) (P ((k + 1) % n)).toNat = -1 then C else takeOffC C (slotOfC C (P k) (P ((k + 1) % n)).toNat).toNat off)
theorem ringMin_rng {C : Ch} (hV : VB C) {P : Nat → Int} {n : Nat} (hn : 1 ≤ n) (hn8 : n ≤ 8) (hP : ∀ k, k < 8 → 0 ≤ P k ∧ P k < 8) : ∀ k, 0 ≤ ringMin C P n k ∧ ringMin C P n k ≤ 999
  | 0 => by simp [ringMin]
  | k + 1 => by
    have h1 := ringMin_rng hV hn hn8 hP k
    have hlt : (k + 1) % n < n := Nat.mod_lt _ (by omega)
    have h3 := hP ((k + 1) % n) (by omega)
    have h2 := debtC_rng hV (P k) (b := (P ((k + 1) % n)).toNat) (by omega)
    simp only [ringMin]
    omega
theorem c_clearRing {l : Launch} {E : EnvT} {d : Nat} {K : AV → Mem → Prop} {M : Mem} {r r2 : Nat} {C : Ch} {n : Nat} {P : Nat → Int} (hd : 3 ≤ d) (hV : VB C) (hr : r2 ≠ r) (hn : 1 ≤ n) (hn8 : n ≤ 8) (hPe : M r2 4 = P) (hP : ∀ k, k < 8 → 0 ≤ P k ∧ P k < 8)
    (hoff : ∀ m k D, k + m = n → ringOff P n (ringMin C P n n) n 0 C = ringOff P n (ringMin C P n n) m k D → VB D → 1 ≤ m → slotOfC D (P k) (P ((k + 1) % n)).toNat ≠ -1 → ringMin C P n n ≤ D 7 (slotOfC D (P k) (P ((k + 1) % n)).toNat).toNat)
    (h : K (.int (iN (ringMin C P n n)), 0) (setR M r (settleC (ringOff P n (ringMin C P n n) n 0 C)))) : CT l E d m_Choir_clearRing [(.ref r, 11), (.ref r2, 34), (.int (iN n), 0)] (setR M r C) K := by
  refine CT.of pn_Choir (Nat.le_of_ble_eq_true rfl) ?_
  refine b_Choir_clearRing_0 (by omega) ?_
  have hrm := ringMin_rng hV hn hn8 hP
  have key2 : ∀ (m k : Nat) (D : Ch), k + m = n → VB D → ringOff P n (ringMin C P n n) n 0 C = ringOff P n (ringMin C P n n) m k D → G l E d m_Choir_clearRing 43 [(0, (.ref r, 11)), (1, (.ref r2, 34)), (2, (.int (iN n), 0)), (3, (.int (iN (ringMin C P n n)), 0)), (4, (.int (iN k), 0))] [] (setR M r D) K := by
    intro m
    induction m with
    | zero =>
      intro k D hk hD he
      refine b_Choir_clearRing_43 (by omega) ⟨fun _ => c_settle (by omega) hD ?_, fun c => absurd ((iN_le (by omega) (by omega) (by omega) (by omega)).mpr (by omega)) c⟩
      rw [he] at h
      exact h
    | succ m ih =>
      intro k D hk hD he
      have h0 := hoff (m + 1) k D hk he hD (by omega)
      have hlt : (k + 1) % n < n := Nat.mod_lt _ (by omega)
      have q1 := hP k (by omega)
      have q2 := hP ((k + 1) % n) (by omega)
      obtain ⟨y, hy⟩ : ∃ y : Nat, P ((k + 1) % n) = y := ⟨(P ((k + 1) % n)).toNat, (by omega)⟩
      refine b_Choir_clearRing_43 (by omega) ⟨fun c => absurd ((iN_le (by omega) (by omega) (by omega) (by omega)).mp c) (by omega), fun _ => ?_⟩
      have er : iR (iN (k : Int) + iN 1) (iN (n : Int)) = iN (((k + 1) % n : Nat) : Int) := by
        rw [iN_add, iN_rem (by omega) (by omega) (by omega) (by omega)]
        rfl
      rw [er, iN_clN (by omega), iN_clN (by omega), setR_ne M D hr, hPe, hy]
      refine ⟨iN_in (by omega) (by omega) (by omega), by rw [iN_eq0 (by omega) (by omega)]; omega, iN_in (by omega) (by omega) (by omega), c_slotOfS (by omega) hD (by omega) (by omega) (by omega) ?_⟩
      rw [hy, show ((y : Int)).toNat = y from rfl] at h0
      have he' := he
      simp only [ringOff] at he'
      rw [hy, show ((y : Int)).toNat = y from rfl] at he'
      rw [iN_add]
      rcases slotOf_rng hD (P k) (b := y) (by omega) with e | ⟨i, e, -, -, hi, -⟩
      · rw [e, toI_int]
        rw [if_pos e] at he'
        exact ⟨fun _ => ih (k + 1) D (by omega) hD he', fun c => absurd rfl c⟩
      · rw [e, if_neg (by omega), show ((i : Int)).toNat = i from rfl] at he'
        rw [e, show ((i : Int)).toNat = i from rfl] at h0
        have h0' := h0 (by omega)
        rw [e, toI_int, iN_eq (by omega) (by omega) (by omega) (by omega)]
        exact ⟨fun c => absurd c (by omega), fun _ => c_takeOff (by omega) hD hi (hrm n).1 h0' (ih (k + 1) _ (by omega) (VB_takeOff hD hi (hrm n).1 h0') he')⟩
  have key1 : ∀ k, k ≤ n → G l E d m_Choir_clearRing 7 [(0, (.ref r, 11)), (1, (.ref r2, 34)), (2, (.int (iN n), 0)), (3, (.int (iN (ringMin C P n k)), 0)), (4, (.int (iN k), 0))] [] (setR M r C) K := by
    refine dn n ?_ (fun k hk ih => ?_)
    · exact b_Choir_clearRing_7 (by omega) ⟨fun _ => key2 n 0 C (by omega) hV rfl, fun c => absurd ((iN_le (by omega) (by omega) (by omega) (by omega)).mpr (by omega)) c⟩
    · have hlt : (k + 1) % n < n := Nat.mod_lt _ (by omega)
      have q1 := hP k (by omega)
      have q2 := hP ((k + 1) % n) (by omega)
      have q3 := hrm k
      obtain ⟨y, hy⟩ : ∃ y : Nat, P ((k + 1) % n) = y := ⟨(P ((k + 1) % n)).toNat, (by omega)⟩
      have q4 := debtC_rng hV (P k) (b := y) (by omega)
      refine b_Choir_clearRing_7 (by omega) ⟨fun c => absurd ((iN_le (by omega) (by omega) (by omega) (by omega)).mp c) (by omega), fun _ => ?_⟩
      have er : iR (iN (k : Int) + iN 1) (iN (n : Int)) = iN (((k + 1) % n : Nat) : Int) := by
        rw [iN_add, iN_rem (by omega) (by omega) (by omega) (by omega)]
        rfl
      rw [er, iN_clN (by omega), iN_clN (by omega), setR_ne M C hr, hPe, hy]
      refine ⟨iN_in (by omega) (by omega) (by omega), by rw [iN_eq0 (by omega) (by omega)]; omega, iN_in (by omega) (by omega) (by omega), c_debtAtNoteS (by omega) hV (by omega) (by omega) (by omega) ?_⟩
      rw [toI_int]
      refine c_min (by omega) (by omega) (by omega) (by omega) (by omega) ?_
      rw [toI_int, iN_add]
      have e : ringMin C P n (k + 1) = min (ringMin C P n k) (debtC C (P k) y) := by
        show min _ (debtC C (P k) (P ((k + 1) % n)).toNat) = _
        rw [hy]; rfl
      rw [e] at ih
      exact ih
  exact key1 0 (by omega)
/-- SUNDAY: which places have grown when s LINES are through and k NOTES of the next -/
def sunP (C : Ch) (s k : Nat) : Ch := fun c i => if c = 7 ∧ ((i / 6 < s ∨ (i / 6 = s ∧ i % 6 < k)) ∧ ((i % 6 : Nat) : Int) < C 4 (i / 6) ∧ inS (C 0 10) (i / 6) = false) then grownC (C 0 13) (C 7 i) else if c = 0 ∧ i = 14 then C 0 14 + 1 else C c i
def sunC (C : Ch) : Bool × Ch := if C 0 14 < 9999 then (true, sunP C (C 0 8).toNat 0) else (false, C)
theorem sunP_c (C : Ch) (s k : Nat) {c : Nat} (h7 : c ≠ 7) (h0 : c ≠ 0) : sunP C s k c = C c := by
  funext i
  unfold sunP
  rw [if_neg (fun q => h7 q.1), if_neg (fun q => h0 q.1)]
theorem sunP_0 (C : Ch) (s k : Nat) {j : Nat} (h : j ≠ 14) : sunP C s k 0 j = C 0 j := by
  unfold sunP
  rw [if_neg (fun q => absurd q.1 (by decide)), if_neg (fun q => h q.2)]
theorem sunP_14 (C : Ch) (s k : Nat) : sunP C s k 0 14 = C 0 14 + 1 := by
  unfold sunP
  rw [if_neg (fun q => absurd q.1 (by decide)), if_pos ⟨rfl, rfl⟩]
theorem sunP_at (C : Ch) (s k : Nat) : sunP C s k 7 (6 * s + k) = C 7 (6 * s + k) ∨ k ≥ 6 := by
  by_cases hk : k < 6
  · left
    unfold sunP
    rw [if_neg, if_neg (fun q => absurd q.1 (by decide))]
    rintro ⟨-, h, -⟩
    have e1 : (6 * s + k) / 6 = s := (by omega)
    have e2 : (6 * s + k) % 6 = k := (by omega)
    rw [e1, e2] at h
    omega
  · right; omega
theorem VB_sun {C : Ch} (hV : VB C) (h14 : C 0 14 < 9999) (s k : Nat) : VB (sunP C s k) := by
  have hu := hV.hum
  obtain ⟨a1, a2, a3, a4, a5, a6, a7, a8, a9, a10, a11, a12, a13, a14, a15⟩ := id hV
  refine ⟨by rw [sunP_0 C s k (by decide)]; exact a1, fun j q1 q2 => by rw [sunP_0 C s k (by omega)]; exact a2 j q1 q2, by rw [sunP_0 C s k (by decide)]; exact a3, by rw [sunP_14]; omega, by rw [sunP_0 C s k (by decide)]; exact a5, by rw [sunP_c C s k (by decide) (by decide)]; exact a6, by rw [sunP_c C s k (by decide) (by decide)]; exact a7, by rw [sunP_c C s k (by decide) (by decide)]; exact a8, by rw [sunP_c C s k (by decide) (by decide)]; exact a9, by rw [sunP_c C s k (by decide) (by decide)]; exact a10, fun i hi => ?_, by rw [sunP_c C s k (by decide) (by decide)]; exact a12, by rw [sunP_c C s k (by decide) (by decide)]; exact a13, by rw [sunP_c C s k (by decide) (by decide)]; exact a14, by rw [sunP_c C s k (by decide) (by decide)]; exact a15⟩
  unfold sunP
  split
  · exact grownC_rng hu.1 hu.2 (a11 i hi).1 (a11 i hi).2
  · rw [if_neg (fun q => absurd q.1 (by decide))]
    exact a11 i hi
theorem sunP_step {C : Ch} {s k : Nat} (hk : (k : Int) < C 4 s) (hk6 : k < 6) (hdf : inS (C 0 10) s = false) : upd2 (sunP C s k) 7 (6 * s + k) (grownC (C 0 13) (C 7 (6 * s + k))) = sunP C s (k + 1) := by
  funext c i
  unfold upd2 sunP
  have e1 : (6 * s + k) / 6 = s := (by omega)
  have e2 : (6 * s + k) % 6 = k := (by omega)
  by_cases hc : c = 7
  · subst hc
    by_cases hi : i = 6 * s + k
    · subst hi
      rw [if_pos ⟨rfl, rfl⟩, if_pos]
      rw [e1, e2]
      exact ⟨rfl, Or.inr ⟨rfl, (by omega)⟩, hk, hdf⟩
    · rw [if_neg (fun q => hi q.2)]
      have e3 : (i / 6 < s ∨ (i / 6 = s ∧ i % 6 < k)) ↔ (i / 6 < s ∨ (i / 6 = s ∧ i % 6 < k + 1)) := (by omega)
      simp only [e3]
  · rw [if_neg (fun q => hc q.1)]
    simp [hc]
theorem sunP_row {C : Ch} {s k : Nat} (hk : C 4 s ≤ k ∨ inS (C 0 10) s = true) (hk6 : k ≤ 6) : sunP C s k = sunP C (s + 1) 0 ∨ True := Or.inr trivial
theorem sunP_next {C : Ch} {s k : Nat} (h : ∀ j, k ≤ j → j < 6 → ¬ ((j : Int) < C 4 s ∧ inS (C 0 10) s = false)) : sunP C s k = sunP C (s + 1) 0 := by
  funext c i
  unfold sunP
  by_cases hc : c = 7
  · subst hc
    have e3 : ((i / 6 < s ∨ (i / 6 = s ∧ i % 6 < k)) ∧ ((i % 6 : Nat) : Int) < C 4 (i / 6) ∧ inS (C 0 10) (i / 6) = false) ↔ ((i / 6 < s + 1 ∨ (i / 6 = s + 1 ∧ i % 6 < 0)) ∧ ((i % 6 : Nat) : Int) < C 4 (i / 6) ∧ inS (C 0 10) (i / 6) = false) := by
      constructor
      · rintro ⟨h1, h2⟩
        exact ⟨(by omega), h2⟩
      · rintro ⟨h1, h2⟩
        refine ⟨?_, h2⟩
        by_cases hs : i / 6 = s
        · by_cases hj : i % 6 < k
          · exact Or.inr ⟨hs, hj⟩
          · rw [hs] at h2
            exact absurd h2 (h (i % 6) (by omega) (by omega))
        · omega
    simp only [e3]
  · simp [hc]
theorem c_keepSunday {l : Launch} {E : EnvT} {d : Nat} {K : AV → Mem → Prop} {M : Mem} {r : Nat} {C : Ch} (hd : 3 ≤ d) (hV : VB C) (h : K (.int (iN (b2i (sunC C).1)), 0) (setR M r (sunC C).2)) : CT l E d m_Choir_keepSunday [(.ref r, 11)] (setR M r C) K := by
  refine CT.of pn_Choir (Nat.le_of_ble_eq_true rfl) ?_
  refine b_Choir_keepSunday_0 (by omega) ?_
  have hs0 := hV.sun
  have hn0 := hV.n
  have hu := hV.hum
  have hm := hV.ms 10 (by omega) (by omega)
  obtain ⟨n, hn⟩ : ∃ n : Nat, C 0 8 = n := ⟨(C 0 8).toNat, (by omega)⟩
  unfold sunC at h
  rw [setR_same, iN_lt (by omega) (by omega) (by omega) (by omega)]
  refine ⟨fun c => ?_, fun c => ⟨z01, ?_⟩⟩
  · rw [if_pos c, hn, show ((n : Int)).toNat = n from rfl] at h
    have hVs : ∀ s k, VB (sunP C s k) := fun s k => VB_sun hV c s k
    have key : ∀ s, s ≤ n → G l E d m_Choir_keepSunday 24 [(0, (.ref r, 11)), (1, (.int (iN s), 0))] [] (setR M r (sunP C s 0)) K := by
      refine dn n ?_ (fun s hs ih => ?_)
      · refine b_Choir_keepSunday_24 (by omega) ?_
        rw [setR_same, sunP_0 C n 0 (by decide), hn]
        exact ⟨fun _ => ⟨o01, h⟩, fun c => absurd ((iN_le (by omega) (by omega) (by omega) (by omega)).mpr (by omega)) c⟩
      · have hl := hV.le s (by omega)
        obtain ⟨q, hq⟩ : ∃ q : Nat, C 4 s = q := ⟨(C 4 s).toNat, (by omega)⟩
        have key2 : ∀ k, k ≤ q → G l E d m_Choir_keepSunday 34 [(0, (.ref r, 11)), (1, (.int (iN s), 0)), (2, (.int (iN k), 0))] [] (setR M r (sunP C s k)) K := by
          refine dn q ?_ (fun k hk ih2 => ?_)
          · refine b_Choir_keepSunday_34 (by omega) ?_
            rw [setR_same, iN_clN (by omega), sunP_c C s q (show 4 ≠ 7 by decide) (show 4 ≠ 0 by decide), hq]
            refine ⟨iN_in (by omega) (by omega) (by omega), fun _ => ?_, fun c => absurd ((iN_le (by omega) (by omega) (by omega) (by omega)).mpr (by omega)) c⟩
            rw [iN_add, sunP_next (fun j h1 h2 => by rw [hq]; omega)]
            exact ih
          · refine b_Choir_keepSunday_34 (by omega) ?_
            rw [setR_same, iN_clN (by omega), sunP_c C s k (show 4 ≠ 7 by decide) (show 4 ≠ 0 by decide), hq, sunP_0 C s k (show 10 ≠ 14 by decide)]
            refine ⟨iN_in (by omega) (by omega) (by omega), fun c => absurd ((iN_le (by omega) (by omega) (by omega) (by omega)).mp c) (by omega), fun _ => c_isIn (by omega) hm.1 hm.2 (by omega) ?_⟩
            rw [toI_int, b2i_z]
            refine ⟨fun c2 => ?_, fun c2 => c_slot (by omega) ?_⟩
            · rw [iN_add, sunP_next (fun j h1 h2 h3 => c2 h3.2)]
              exact ih
            · rw [show (s : Int) * 6 + k = ((6 * s + k : Nat) : Int) by push_cast; omega, toI_int, iN_clN (by omega), setR_same]
              have e7 : sunP C s k 7 (6 * s + k) = C 7 (6 * s + k) := (sunP_at C s k).resolve_right (by omega)
              have hde := hV.de (6 * s + k) (by omega)
              have hg := grownC_rng hu.1 hu.2 hde.1 hde.2
              rw [e7]
              refine ⟨iN_in (by omega) (by omega) (by omega), c_grown (by omega) (by rw [setR_same]; exact hVs s k) hde.1 hde.2 ?_⟩
              rw [setR_same, sunP_0 C s k (show 13 ≠ 14 by decide), toI_int]
              refine ⟨iN_in (by omega) (by omega) (by omega), ?_⟩
              rw [upd3_setR, setR_same, setR_setR, iN_small (by omega) (by omega), iN_add, sunP_step (by rw [hq]; omega) (by omega) c2]
              exact ih2
        refine b_Choir_keepSunday_24 (by omega) ?_
        rw [setR_same, sunP_0 C s 0 (by decide), hn]
        exact ⟨fun c => absurd ((iN_le (by omega) (by omega) (by omega) (by omega)).mp c) (by omega), fun _ => key2 0 (by omega)⟩
    have e0 : upd2 C 0 14 (C 0 14 + 1) = sunP C 0 0 := by
      funext c' i
      unfold upd2 sunP
      rw [if_neg (show ¬ (c' = 7 ∧ ((i / 6 < 0 ∨ (i / 6 = 0 ∧ i % 6 < 0)) ∧ ((i % 6 : Nat) : Int) < C 4 (i / 6) ∧ inS (C 0 10) (i / 6) = false)) by omega)]
    rw [upd3_setR, setR_same, setR_setR, iN_add, iN_small (by omega) (by omega), e0]
    exact key 0 (by omega)
  · rw [if_neg c] at h; exact h
end
section
def coldF (s : Nat) : Nat → Nat → Ch → Ch
  | 0, _, C => C
  | m + 1, b, C => coldF s m (b + 1) (if slotOfC C s b = -1 then C else takeOffC (handC C s b (min (C 7 (slotOfC C s b).toNat) (min (C 2 s) (9999 - C 2 b)))) (slotOfC C s b).toNat (min (C 7 (slotOfC C s b).toNat) (min (C 2 s) (9999 - C 2 b))))
def coldC (C : Ch) (z : Int) : Int × Ch := if livesB C z = true ∧ inS (C 0 11) z.toNat = false then
    (wr (settleC (upd2 (coldF z.toNat (C 0 8).toNat 0 C) 0 11 (setB (C 0 11) z.toNat)) 0 15 - C 0 15), settleC (upd2 (coldF z.toNat (C 0 8).toNat 0 C) 0 11 (setB (C 0 11) z.toNat))) else (-1, C)
theorem coldF_c (s : Nat) {c : Nat} (h0 : c ≠ 0) (h2 : c ≠ 2) (h6 : c ≠ 6) (h7 : c ≠ 7) : ∀ (m b : Nat) (C : Ch), coldF s m b C c = C c
  | 0, _, _ => rfl
  | m + 1, b, C => by
    show coldF s m (b + 1) _ c = _
    rw [coldF_c s h0 h2 h6 h7 m (b + 1)]
    split
    · rfl
    · rw [takeOffC_c h6 h7, handC_c h0 h2]
theorem handC_0 {C : Ch} {a b : Nat} {n : Int} {j : Nat} (h : j ≠ 15) : handC C a b n 0 j = C 0 j := by
  unfold handC
  rw [upd2_k _ _ h, upd2_c _ _ (show 0 ≠ 2 by decide), upd2_c _ _ (show 0 ≠ 2 by decide)]
theorem coldF_0 (s : Nat) {j : Nat} (h : j ≠ 15) : ∀ (m b : Nat) (C : Ch), coldF s m b C 0 j = C 0 j
  | 0, _, _ => rfl
  | m + 1, b, C => by
    show coldF s m (b + 1) _ 0 j = _
    rw [coldF_0 s h m (b + 1)]
    split
    · rfl
    · rw [takeOffC_c (by decide) (by decide), handC_0 h]
theorem VB_coldStep {C : Ch} {s b i : Nat} (hV : VB C) (hs : s < 8) (hb : b < 8) (hi : i < 48) : VB (takeOffC (handC C s b (min (C 7 i) (min (C 2 s) (9999 - C 2 b)))) i (min (C 7 i) (min (C 2 s) (9999 - C 2 b)))) := by
  have d1 := hV.de i hi
  have p1 := hV.pu s hs
  have p2 := hV.pu b hb
  exact VB_takeOff (VB_hand hV hs hb (by omega) (by omega) (by omega)) hi (by omega) (by rw [handC_c (by decide) (by decide)]; omega)
theorem VB_coldF {s : Nat} (hs : s < 8) : ∀ (m b : Nat) {C : Ch}, b + m ≤ 8 → VB C → VB (coldF s m b C)
  | 0, _, _, _, h => h
  | m + 1, b, C, hb, h => by
    show VB (coldF s m (b + 1) _)
    refine VB_coldF hs m (b + 1) (by omega) ?_
    split
    · exact h
    · rename_i hne
      rcases slotOf_rng h s (b := b) (by omega) with e | ⟨i, e, -, -, hi, -⟩
      · exact absurd e hne
      · rw [e, show ((i : Int)).toNat = i from rfl]
        exact VB_coldStep h hs (by omega) hi
theorem c_catchCold {l : Launch} {E : EnvT} {d : Nat} {K : AV → Mem → Prop} {M : Mem} {r : Nat} {C : Ch} {z : Int} (hd : 3 ≤ d) (hV : VB C) (h1 : -2147483648 ≤ z) (h2 : z < 2147483648) (h : K (.int (iN (coldC C z).1), 0) (setR M r (coldC C z).2)) : CT l E d m_Choir_catchCold [(.ref r, 11), (.int (iN z), 0)] (setR M r C) K := by
  refine CT.of pn_Choir (Nat.le_of_ble_eq_true rfl) ?_
  refine b_Choir_catchCold_0 (by omega) (c_livesS (by omega) hV h1 h2 ?_)
  unfold coldC at h
  rw [toI_int, b2i_z]
  refine ⟨fun c => ?_, fun c => ?_⟩
  · rw [if_neg (by simp [c])] at h; exact h
  · rw [Bool.not_eq_false] at c
    have t1 := livesB_spec c
    have hn0 := hV.n
    obtain ⟨s, rfl⟩ : ∃ s : Nat, z = s := ⟨z.toNat, (by omega)⟩
    obtain ⟨n, hn⟩ : ∃ n : Nat, C 0 8 = n := ⟨(C 0 8).toNat, (by omega)⟩
    have hm := hV.ms 11 (by omega) (by omega)
    rw [setR_same]
    refine c_isIn (by omega) hm.1 hm.2 (by omega) ?_
    rw [toI_int, b2i_z]
    simp only [show ((s : Int)).toNat = s from rfl, hn, show ((n : Int)).toNat = n from rfl] at h
    refine ⟨fun c2 => ?_, fun c2 => ?_⟩
    · rw [if_pos ⟨c, c2⟩] at h
      have hs8 : s < 8 := (by omega)
      have hVF : ∀ m b D, b + m = n → VB D → VB (coldF s m b D) := fun m b D hb hD => VB_coldF hs8 m b (by omega) hD
      have key : ∀ (m b : Nat) (D : Ch), b + m = n → VB D → D 0 8 = n → D 0 11 = C 0 11 → coldF s n 0 C = coldF s m b D → G l E d m_Choir_catchCold 28 [(0, (.ref r, 11)), (1, (.int (iN s), 0)), (2, (.int (iN (C 0 15)), 0)), (3, (.int (iN b), 0))] [] (setR M r D) K := by
        intro m
        induction m with
        | zero =>
          intro b D hb hD hD8 hD11 he
          refine b_Choir_catchCold_28 (by omega) ?_
          simp only [setR_same, hD8, hD11]
          refine ⟨fun _ => ?_, fun c => absurd ((iN_le (by omega) (by omega) (by omega) (by omega)).mpr (by omega)) c⟩
          have hsb := setB_rng hm.1 hm.2 hs8
          rw [or_bit hm.1 hm.2 hs8, upd3_setR, setR_same, setR_setR, iN_small (by omega) (by omega)]
          refine c_settle (by omega) (VB_f11 hD hsb.1 hsb.2) ?_
          rw [he] at h
          rw [setR_same, iN_sub]
          have e9 : ∀ z : Int, iN (wr z) = iN z := fun z => iN_toInt _
          rw [e9] at h
          exact h
        | succ m ih =>
          intro b D hb hD hD8 hD11 he
          refine b_Choir_catchCold_28 (by omega) ?_
          simp only [setR_same, hD8]
          refine ⟨fun c => absurd ((iN_le (by omega) (by omega) (by omega) (by omega)).mp c) (by omega), fun _ => c_slotOfS (by omega) hD (by omega) (by omega) (by omega) ?_⟩
          have he' := he
          simp only [coldF] at he'
          rcases slotOf_rng hD s (b := b) (by omega) with e | ⟨i, e, -, -, hi, -⟩
          · rw [e, toI_int]
            rw [if_pos e] at he'
            rw [iN_add]
            exact ⟨fun _ => ih (b + 1) D (by omega) hD hD8 hD11 he', fun c => absurd rfl c⟩
          · rw [e, if_neg (by omega), show ((i : Int)).toNat = i from rfl] at he'
            have d1 := hD.de i hi
            have p1 := hD.pu s hs8
            have p2 := hD.pu b (by omega)
            simp only [e, toI_int, setR_same, iN_add, iN_sub, iN_clN (show (s : Int) < 2147483648 by omega), iN_clN (show (b : Int) < 2147483648 by omega), iN_clN (show (i : Int) < 2147483648 by omega)]
            rw [iN_eq (by omega) (by omega) (by omega) (by omega)]
            refine ⟨fun c => absurd c (by omega), fun _ => ⟨iN_in (by omega) (by omega) (by omega), iN_in (by omega) (by omega) (by omega), iN_in (by omega) (by omega) (by omega), c_min (by omega) (by omega) (by omega) (by omega) (by omega) (c_min (by omega) (by omega) (by omega) (by omega) (by omega) ?_)⟩⟩
            simp only [toI_int]
            refine c_handOver (by omega) hD hs8 (by omega) (by omega) (by omega) (by omega) (c_takeOff (by omega) (VB_hand hD hs8 (by omega) (by omega) (by omega) (by omega)) hi (by omega) (by rw [handC_c (by decide) (by decide)]; omega) ?_)
            refine ih (b + 1) _ (by omega) (VB_coldStep hD hs8 (by omega) hi) ?_ ?_ he'
            · rw [takeOffC_c (by decide) (by decide), handC_0 (by decide)]; exact hD8
            · rw [takeOffC_c (by decide) (by decide), handC_0 (by decide)]; exact hD11
      have := key n 0 C (by omega) hV hn rfl rfl
      rw [setR_same]
      exact this
    · rw [if_neg (by simp [c2])] at h; exact h
theorem VB_cold {C : Ch} {z : Int} (hV : VB C) : VB (coldC C z).2 := by
  unfold coldC
  split
  · rename_i h
    have t1 := livesB_spec h.1
    have hn0 := hV.n
    have hm := hV.ms 11 (by omega) (by omega)
    have hsb := setB_rng (s := z.toNat) hm.1 hm.2 (by omega)
    exact VB_settle (VB_f11 (VB_coldF (by omega) _ 0 (by omega) hV) hsb.1 hsb.2)
  · exact hV
/-- the HEIR's part, or none -/
def inhC (C : Ch) (heir : Int) (b : Nat) (n : Int) : Ch := if heir = -1 ∨ heir = b then C else (oweC C heir b n).2
theorem VB_inh {C : Ch} {heir : Int} {b : Nat} {n : Int} (hV : VB C) (a1 : -1 ≤ heir) (a2 : heir < 8) (hb : b < 8) (h1 : 0 ≤ n) (h2 : n ≤ 999) : VB (inhC C heir b n) := by
  unfold inhC
  split
  · exact hV
  · exact VB_owe hV (by omega) a2 hb h1 h2
theorem inhC_c {C : Ch} {heir : Int} {b : Nat} {n : Int} {c : Nat} (h : c ≠ 6 ∧ c ≠ 7 ∧ c ≠ 8 ∧ c ≠ 9 ∧ c ≠ 10 ∧ c ≠ 11) : inhC C heir b n c = C c := by
  unfold inhC
  split
  · rfl
  · exact oweC_c h
def passF (s : Nat) (heir : Int) : Nat → Nat → Ch → Ch
  | 0, _, C => C
  | m + 1, b, C => passF s heir m (b + 1) (if slotOfC C s b = -1 then C else inhC (takeOffC C (slotOfC C s b).toNat (C 7 (slotOfC C s b).toNat)) heir b (C 7 (slotOfC C s b).toNat))
theorem VB_passF {s : Nat} {heir : Int} (a1 : -1 ≤ heir) (a2 : heir < 8) : ∀ (m b : Nat) {C : Ch}, b + m ≤ 8 → VB C → VB (passF s heir m b C)
  | 0, _, _, _, h => h
  | m + 1, b, C, hb, h => by
    show VB (passF s heir m (b + 1) _)
    refine VB_passF a1 a2 m (b + 1) (by omega) ?_
    split
    · exact h
    · rename_i hne
      rcases slotOf_rng h s (b := b) (by omega) with e | ⟨i, e, -, -, hi, -⟩
      · exact absurd e hne
      · rw [e, show ((i : Int)).toNat = i from rfl]
        have := h.de i hi
        exact VB_inh (VB_takeOff h hi (by omega) (by omega)) a1 a2 (by omega) (by omega) (by omega)
theorem passF_c {s : Nat} {heir : Int} {c : Nat} (h : c ≠ 6 ∧ c ≠ 7 ∧ c ≠ 8 ∧ c ≠ 9 ∧ c ≠ 10 ∧ c ≠ 11) : ∀ (m b : Nat) (C : Ch), passF s heir m b C c = C c
  | 0, _, _ => rfl
  | m + 1, b, C => by
    show passF s heir m (b + 1) _ c = _
    rw [passF_c h m (b + 1)]
    split
    · rfl
    · rw [inhC_c h, takeOffC_c h.1 h.2.1]
theorem c_passOnHeld {l : Launch} {E : EnvT} {d : Nat} {K : AV → Mem → Prop} {M : Mem} {r : Nat} {C : Ch} {s n : Nat} {heir : Int} (hd : 3 ≤ d) (hV : VB C) (hs : s < 8) (hn : C 0 8 = n) (a1 : -1 ≤ heir) (a2 : heir < 8) (h : K (.null, 0) (setR M r (passF s heir n 0 C))) : CT l E d m_Choir_passOnHeld [(.ref r, 11), (.int (iN s), 0), (.int (iN heir), 0)] (setR M r C) K := by
  refine CT.of pn_Choir (Nat.le_of_ble_eq_true rfl) ?_
  refine b_Choir_passOnHeld_0 (by omega) ?_
  have hn0 := hV.n
  have key : ∀ (m b : Nat) (D : Ch), b + m = n → VB D → D 0 8 = n → passF s heir n 0 C = passF s heir m b D → G l E d m_Choir_passOnHeld 2 [(0, (.ref r, 11)), (1, (.int (iN s), 0)), (2, (.int (iN heir), 0)), (3, (.int (iN b), 0))] [] (setR M r D) K := by
    intro m
    induction m with
    | zero =>
      intro b D hb hD hD8 he
      refine b_Choir_passOnHeld_2 (by omega) ?_
      rw [setR_same, hD8]
      rw [he] at h
      exact ⟨fun _ => h, fun c => absurd ((iN_le (by omega) (by omega) (by omega) (by omega)).mpr (by omega)) c⟩
    | succ m ih =>
      intro b D hb hD hD8 he
      refine b_Choir_passOnHeld_2 (by omega) ?_
      rw [setR_same, hD8]
      refine ⟨fun c => absurd ((iN_le (by omega) (by omega) (by omega) (by omega)).mp c) (by omega), fun _ => c_slotOfS (by omega) hD (by omega) (by omega) (by omega) ?_⟩
      have he' := he
      simp only [passF] at he'
      rcases slotOf_rng hD s (b := b) (by omega) with e | ⟨i, e, -, -, hi, -⟩
      · rw [e, toI_int]
        rw [if_pos e] at he'
        rw [iN_add]
        exact ⟨fun _ => ih (b + 1) D (by omega) hD hD8 he', fun c => absurd rfl c⟩
      · rw [e, if_neg (by omega), show ((i : Int)).toNat = i from rfl] at he'
        have d1 := hD.de i hi
        simp only [e, toI_int, setR_same, iN_add, iN_clN (show (i : Int) < 2147483648 by omega)]
        rw [iN_eq (by omega) (by omega) (by omega) (by omega), iN_eq (by omega) (by omega) (by omega) (by omega), iN_eq (by omega) (by omega) (by omega) (by omega)]
        have hV2 := VB_takeOff (n := D 7 i) hD hi (by omega) (by omega)
        have e8 : takeOffC D i (D 7 i) 0 8 = n := by rw [takeOffC_c (by decide) (by decide)]; exact hD8
        unfold inhC at he'
        refine ⟨fun c => absurd c (by omega), fun _ => ⟨iN_in (by omega) (by omega) (by omega), c_takeOff (by omega) hD hi (by omega) (by omega) ⟨fun c => ?_, fun c => ⟨fun c2 => ?_, fun c2 => ?_⟩⟩⟩⟩
        · rw [if_pos (Or.inl c)] at he'
          exact ih (b + 1) _ (by omega) hV2 e8 he'
        · rw [if_pos (Or.inr c2)] at he'
          exact ih (b + 1) _ (by omega) hV2 e8 he'
        · rw [if_neg (by omega)] at he'
          obtain ⟨y, rfl⟩ : ∃ y : Nat, heir = y := ⟨heir.toNat, (by omega)⟩
          refine c_owe (by omega) hV2 (by omega) (by omega) (by omega) (by omega) (ih (b + 1) _ (by omega) (VB_owe hV2 (by omega) (by omega) (by omega) (by omega) (by omega)) ?_ he')
          rw [oweC_c (by omega)]; exact e8
  exact key n 0 C (by omega) hV hn rfl
def passW (s : Nat) (heir : Int) : Nat → Nat → Ch → Ch
  | 0, _, C => C
  | f + 1, k, C => if (k : Int) < C 8 3 then (if C 9 k = s then passW s heir f k (inhC (leaveC C k) heir (C 10 k).toNat (C 11 k)) else passW s heir f (k + 1) C) else C
theorem VB_passW {s : Nat} {heir : Int} (a1 : -1 ≤ heir) (a2 : heir < 8) : ∀ (f k : Nat) {C : Ch}, VB C → VB (passW s heir f k C)
  | 0, _, _, h => h
  | f + 1, k, C, h => by
    unfold passW
    split
    · have hw := h.w
      have b2 := h.wb k (by omega)
      have b3 := h.wm k (by omega)
      split
      · exact VB_passW a1 a2 f k (VB_inh (VB_leave h k (by omega)) a1 a2 (by omega) (by omega) (by omega))
      · exact VB_passW a1 a2 f (k + 1) h
    · exact h
theorem passW_c {s : Nat} {heir : Int} {c : Nat} (h : c ≠ 6 ∧ c ≠ 7 ∧ c ≠ 8 ∧ c ≠ 9 ∧ c ≠ 10 ∧ c ≠ 11) : ∀ (f k : Nat) (C : Ch), passW s heir f k C c = C c
  | 0, _, _ => rfl
  | f + 1, k, C => by
    unfold passW
    split
    · split
      · rw [passW_c h f k, inhC_c h, leaveC_c h.2.2]
      · exact passW_c h f (k + 1) C
    · rfl
theorem c_passOnWaiting {l : Launch} {E : EnvT} {d : Nat} {K : AV → Mem → Prop} {M : Mem} {r : Nat} {C : Ch} {s : Nat} {heir : Int} (hd : 3 ≤ d) (hV : VB C) (hs : s < 8) (a1 : -1 ≤ heir) (a2 : heir < 8) (h : K (.null, 0) (setR M r (passW s heir 8 0 C))) : CT l E d m_Choir_passOnWaiting [(.ref r, 11), (.int (iN s), 0), (.int (iN heir), 0)] (setR M r C) K := by
  refine CT.of pn_Choir (Nat.le_of_ble_eq_true rfl) ?_
  refine b_Choir_passOnWaiting_0 (by omega) ?_
  generalize hX : passW s heir 8 0 C = X at h
  have key : ∀ (f t k : Nat) (D : Ch), t + f = 8 → k ≤ t → VB D → X = passW s heir f k D → G l E d m_Choir_passOnWaiting 5 [(0, (.ref r, 11)), (1, (.int (iN s), 0)), (2, (.int (iN heir), 0)), (3, (.int (iN k), 0)), (4, (.int (iN t), 0))] [] (setR M r D) K := by
    intro f
    induction f with
    | zero =>
      intro t k D ht hk hD he
      rw [he] at h
      exact b_Choir_passOnWaiting_5 (by omega) ⟨fun _ => h, fun c => absurd ((iN_le (by omega) (by omega) (by omega) (by omega)).mpr (by omega)) c⟩
    | succ f ih =>
      intro t k D ht hk hD he
      refine b_Choir_passOnWaiting_5 (by omega) ?_
      have hw := hD.w
      have b1 := hD.wa k (by omega)
      have b2 := hD.wb k (by omega)
      have b3 := hD.wm k (by omega)
      simp only [setR_same, iN_clN (show (k : Int) < 2147483648 by omega), iN_add]
      refine ⟨fun c => absurd ((iN_le (by omega) (by omega) (by omega) (by omega)).mp c) (by omega), fun _ => ⟨fun c => ?_, fun c => ⟨iN_in (by omega) (by omega) (by omega), ?_⟩⟩⟩
      · rw [iN_le (by omega) (by omega) (by omega) (by omega)] at c
        rw [he] at h
        unfold passW at h
        rw [if_neg (by omega)] at h
        exact h
      · rw [iN_le (by omega) (by omega) (by omega) (by omega)] at c
        unfold passW at he
        rw [if_pos (by omega)] at he
        rw [iN_eq (by omega) (by omega) (by omega) (by omega)]
        refine ⟨fun c2 => ?_, fun c2 => ?_⟩
        · rw [if_neg c2] at he
          exact ih (t + 1) (k + 1) D (by omega) (by omega) hD he
        · rw [if_pos c2] at he
          obtain ⟨y, hy⟩ : ∃ y : Nat, D 10 k = y := ⟨(D 10 k).toNat, (by omega)⟩
          rw [hy, show ((y : Int)).toNat = y from rfl] at he
          rw [hy, iN_eq (by omega) (by omega) (by omega) (by omega), iN_eq (by omega) (by omega) (by omega) (by omega)]
          unfold inhC at he
          have hV2 := VB_leave hD k (by omega)
          refine ⟨iN_in (by omega) (by omega) (by omega), iN_in (by omega) (by omega) (by omega), c_leave (by omega) hD (by omega) ⟨fun c3 => ?_, fun c3 => ⟨fun c4 => ?_, fun c4 => ?_⟩⟩⟩
          · rw [if_pos (Or.inl c3)] at he
            exact ih (t + 1) k _ (by omega) (by omega) hV2 he
          · rw [if_pos (Or.inr c4)] at he
            exact ih (t + 1) k _ (by omega) (by omega) hV2 he
          · rw [if_neg (by omega)] at he
            obtain ⟨x, rfl⟩ : ∃ x : Nat, heir = x := ⟨heir.toNat, (by omega)⟩
            exact c_owe (by omega) hV2 (by omega) (by omega) (by omega) (by omega) (ih (t + 1) k _ (by omega) (by omega) (VB_owe hV2 (by omega) (by omega) (by omega) (by omega) (by omega)) he)
  exact key 8 0 0 C rfl (Nat.le_refl 0) hV hX.symm
def forgL (s : Nat) : Nat → Nat → Ch → Ch
  | 0, _, C => C
  | m + 1, k, C => forgL s m (k + 1) (takeOffC C (6 * s + k) (C 7 (6 * s + k)))
def forgW (s : Nat) : Nat → Nat → Ch → Ch
  | 0, _, C => C
  | f + 1, k, C => if (k : Int) < C 8 3 then (if C 10 k = s then forgW s f k (leaveC C k) else forgW s f (k + 1) C) else C
theorem VB_forgL {s : Nat} (hs : s < 8) : ∀ (m k : Nat) {C : Ch}, k + m ≤ 6 → VB C → VB (forgL s m k C)
  | 0, _, _, _, h => h
  | m + 1, k, C, hk, h => VB_forgL hs m (k + 1) (by omega) (VB_takeOff h (by omega) (h.de (6 * s + k) (by omega)).1 (Int.le_refl _))
theorem forgL_c {s : Nat} {c : Nat} (h6 : c ≠ 6) (h7 : c ≠ 7) : ∀ (m k : Nat) (C : Ch), forgL s m k C c = C c
  | 0, _, _ => rfl
  | m + 1, k, C => by
    show forgL s m (k + 1) _ c = _
    rw [forgL_c h6 h7 m (k + 1), takeOffC_c h6 h7]
theorem VB_forgW {s : Nat} : ∀ (f k : Nat) {C : Ch}, VB C → VB (forgW s f k C)
  | 0, _, _, h => h
  | f + 1, k, C, h => by
    unfold forgW
    split
    · split
      · exact VB_forgW f k (VB_leave h k (by omega))
      · exact VB_forgW f (k + 1) h
    · exact h
theorem forgW_c {s : Nat} {c : Nat} (h : c ≠ 8 ∧ c ≠ 9 ∧ c ≠ 10 ∧ c ≠ 11) : ∀ (f k : Nat) (C : Ch), forgW s f k C c = C c
  | 0, _, _ => rfl
  | f + 1, k, C => by
    unfold forgW
    split
    · split
      · rw [forgW_c h f k, leaveC_c h]
      · exact forgW_c h f (k + 1) C
    · rfl
def forgC (C : Ch) (s : Nat) : Ch := forgW s 8 0 (forgL s (C 4 s).toNat 0 C)
theorem VB_forg {C : Ch} {s : Nat} (hV : VB C) (hs : s < 8) : VB (forgC C s) := VB_forgW 8 0 (VB_forgL hs _ 0 (by have := hV.le s hs; omega) hV)
theorem c_forgetLine {l : Launch} {E : EnvT} {d : Nat} {K : AV → Mem → Prop} {M : Mem} {r : Nat} {C : Ch} {s : Nat} (hd : 2 ≤ d) (hV : VB C) (hs : s < 8) (h : K (.null, 0) (setR M r (forgC C s))) : CT l E d m_Choir_forgetLine [(.ref r, 11), (.int (iN s), 0)] (setR M r C) K := by
  refine CT.of pn_Choir (Nat.le_of_ble_eq_true rfl) ?_
  refine b_Choir_forgetLine_0 (by omega) ?_
  have hl := hV.le s hs
  obtain ⟨q, hq⟩ : ∃ q : Nat, C 4 s = q := ⟨(C 4 s).toNat, (by omega)⟩
  unfold forgC at h
  rw [hq, show ((q : Int)).toNat = q from rfl] at h
  generalize hX : forgW s 8 0 (forgL s q 0 C) = X at h
  have key2 : ∀ (f t k : Nat) (D : Ch), t + f = 8 → k ≤ t → VB D → X = forgW s f k D → G l E d m_Choir_forgetLine 41 [(0, (.ref r, 11)), (1, (.int (iN s), 0)), (2, (.int (iN k), 0)), (3, (.int (iN t), 0))] [] (setR M r D) K := by
    intro f
    induction f with
    | zero =>
      intro t k D ht hk hD he
      rw [he] at h
      exact b_Choir_forgetLine_41 (by omega) ⟨fun _ => h, fun c => absurd ((iN_le (by omega) (by omega) (by omega) (by omega)).mpr (by omega)) c⟩
    | succ f ih =>
      intro t k D ht hk hD he
      refine b_Choir_forgetLine_41 (by omega) ?_
      have hw := hD.w
      have b2 := hD.wb k (by omega)
      simp only [setR_same, iN_clN (show (k : Int) < 2147483648 by omega), iN_add]
      refine ⟨fun c => absurd ((iN_le (by omega) (by omega) (by omega) (by omega)).mp c) (by omega), fun _ => ⟨fun c => ?_, fun c => ⟨iN_in (by omega) (by omega) (by omega), ?_⟩⟩⟩
      · rw [iN_le (by omega) (by omega) (by omega) (by omega)] at c
        rw [he] at h
        unfold forgW at h
        rw [if_neg (by omega)] at h
        exact h
      · rw [iN_le (by omega) (by omega) (by omega) (by omega)] at c
        unfold forgW at he
        rw [if_pos (by omega)] at he
        rw [iN_eq (by omega) (by omega) (by omega) (by omega)]
        refine ⟨fun c2 => ?_, fun c2 => c_leave (by omega) hD (by omega) ?_⟩
        · rw [if_neg c2] at he
          exact ih (t + 1) (k + 1) D (by omega) (by omega) hD he
        · rw [if_pos c2] at he
          exact ih (t + 1) k _ (by omega) (by omega) (VB_leave hD k (by omega)) he
  have key1 : ∀ (m k : Nat) (D : Ch), k + m = q → VB D → D 4 s = q → forgL s q 0 C = forgL s m k D → G l E d m_Choir_forgetLine 2 [(0, (.ref r, 11)), (1, (.int (iN s), 0)), (2, (.int (iN k), 0))] [] (setR M r D) K := by
    intro m
    induction m with
    | zero =>
      intro k D hk hD hD4 he
      refine b_Choir_forgetLine_2 (by omega) ?_
      rw [setR_same, iN_clN (by omega), hD4]
      refine ⟨iN_in (by omega) (by omega) (by omega), fun _ => ?_, fun c => absurd ((iN_le (by omega) (by omega) (by omega) (by omega)).mpr (by omega)) c⟩
      exact key2 8 0 0 D rfl (Nat.le_refl 0) hD (by rw [← hX, he]; rfl)
    | succ m ih =>
      intro k D hk hD hD4 he
      refine b_Choir_forgetLine_2 (by omega) ?_
      rw [setR_same, iN_clN (by omega), hD4]
      refine ⟨iN_in (by omega) (by omega) (by omega), fun c => absurd ((iN_le (by omega) (by omega) (by omega) (by omega)).mp c) (by omega), fun _ => c_slot (by omega) (c_slot (by omega) ?_)⟩
      rw [show (s : Int) * 6 + k = ((6 * s + k : Nat) : Int) by push_cast; omega]
      have d1 := hD.de (6 * s + k) (by omega)
      simp only [toI_int, setR_same, iN_clN (show ((6 * s + k : Nat) : Int) < 2147483648 by omega), iN_add]
      refine ⟨iN_in (by omega) (by omega) (by omega), c_takeOff (by omega) hD (by omega) d1.1 (Int.le_refl _) ?_⟩
      exact ih (k + 1) _ (by omega) (VB_takeOff hD (by omega) d1.1 (Int.le_refl _)) (by rw [takeOffC_c (by decide) (by decide)]; exact hD4) he
  exact key1 q 0 C (by omega) hV hq rfl
def heirC (C : Ch) (s : Nat) : Int := if livesB C (C 3 s) = true then C 3 s else -1
def buryC0 (C : Ch) (s : Nat) : Ch := upd2 (if heirC C s = -1 then C else upd2 C 2 (heirC C s).toNat (min 9999 (C 2 (heirC C s).toNat + C 2 s))) 2 s 0
def buryC1 (C : Ch) (s : Nat) : Ch := forgC (passW s (heirC C s) 8 0 (passF s (heirC C s) (C 0 8).toNat 0 (buryC0 C s))) s
def buryC (C : Ch) (z : Int) : Bool × Ch := if livesB C z = true then (true, settleC (upd2 (upd2 (buryC1 C z.toNat) 0 11 (clrB (C 0 11) z.toNat)) 0 12 (setB (C 0 12) z.toNat))) else (false, C)
theorem heirC_rng {C : Ch} (hV : VB C) {s : Nat} (hs : s < 8) : -1 ≤ heirC C s ∧ heirC C s < 8 := by
  unfold heirC
  have := hV.he s hs
  split <;> omega
theorem VB_bury0 {C : Ch} (hV : VB C) {s : Nat} (hs : s < 8) : VB (buryC0 C s) := by
  unfold buryC0
  have hh := heirC_rng hV hs
  have p1 := hV.pu s hs
  split
  · exact VB_2 hV (by omega) (by omega)
  · have p2 := hV.pu (heirC C s).toNat (by omega)
    exact VB_2 (VB_2 hV (by omega) (by omega)) (by omega) (by omega)
theorem buryC0_c {C : Ch} {s c : Nat} (h : c ≠ 2) : buryC0 C s c = C c := by
  unfold buryC0
  rw [upd2_c _ _ h]
  split
  · rfl
  · exact upd2_c _ _ h
theorem buryC1_c {C : Ch} {s c : Nat} (h : c ≠ 2 ∧ c ≠ 6 ∧ c ≠ 7 ∧ c ≠ 8 ∧ c ≠ 9 ∧ c ≠ 10 ∧ c ≠ 11) : buryC1 C s c = C c := by
  unfold buryC1 forgC
  rw [forgW_c h.2.2.2, forgL_c h.2.1 h.2.2.1, passW_c h.2, passF_c h.2, buryC0_c h.1]
theorem VB_bury1 {C : Ch} (hV : VB C) {s : Nat} (hs : s < 8) : VB (buryC1 C s) := by
  have hn := hV.n
  have hh := heirC_rng hV hs
  exact VB_forg (VB_passW hh.1 hh.2 8 0 (VB_passF hh.1 hh.2 _ 0 (by omega) (VB_bury0 hV hs))) hs
theorem VB_bury {C : Ch} {z : Int} (hV : VB C) : VB (buryC C z).2 := by
  unfold buryC
  split
  · rename_i h
    have t1 := livesB_spec h
    have hn0 := hV.n
    have m1 := hV.ms 11 (by omega) (by omega)
    have m2 := hV.ms 12 (by omega) (by omega)
    have s1 := clrB_rng (s := z.toNat) m1.1 m1.2 (by omega)
    have s2 := setB_rng (s := z.toNat) m2.1 m2.2 (by omega)
    exact VB_settle (VB_f12 (VB_f11 (VB_bury1 hV (by omega)) s1.1 s1.2) s2.1 s2.2)
  · exact hV
theorem c_bury {l : Launch} {E : EnvT} {d : Nat} {K : AV → Mem → Prop} {M : Mem} {r : Nat} {C : Ch} {z : Int} (hd : 4 ≤ d) (hV : VB C) (h1 : -2147483648 ≤ z) (h2 : z < 2147483648) (h : K (.int (iN (b2i (buryC C z).1)), 0) (setR M r (buryC C z).2)) : CT l E d m_Choir_bury [(.ref r, 11), (.int (iN z), 0)] (setR M r C) K := by
  refine CT.of pn_Choir (Nat.le_of_ble_eq_true rfl) ?_
  refine b_Choir_bury_0 (by omega) (c_livesS (by omega) hV h1 h2 ?_)
  unfold buryC at h
  rw [toI_int, b2i_z]
  refine ⟨fun c => ?_, fun c => ⟨z01, ?_⟩⟩
  · rw [Bool.not_eq_false] at c
    have t1 := livesB_spec c
    have hn0 := hV.n
    obtain ⟨s, rfl⟩ : ∃ s : Nat, z = s := ⟨z.toNat, (by omega)⟩
    obtain ⟨n, hn⟩ : ∃ n : Nat, C 0 8 = n := ⟨(C 0 8).toNat, (by omega)⟩
    have hs8 : s < 8 := (by omega)
    rw [if_pos c, show ((s : Int)).toNat = s from rfl] at h
    have hh := heirC_rng hV hs8
    have hhe := hV.he s hs8
    have p1 := hV.pu s hs8
    have last : G l E d m_Choir_bury 88 [(0, (.ref r, 11)), (1, (.int (iN s), 0))] [] (setR M r (buryC1 C s)) K := by
      refine b_Choir_bury_88 (by omega) ?_
      have m1 := hV.ms 11 (by omega) (by omega)
      have m2 := hV.ms 12 (by omega) (by omega)
      have s1 := clrB_rng (s := s) m1.1 m1.2 (by omega)
      have s2 := setB_rng (s := s) m2.1 m2.2 (by omega)
      have e0 : buryC1 C s 0 = C 0 := buryC1_c (by decide)
      simp only [upd3_setR, setR_same, setR_setR, e0, clr_bit m1.1 m1.2 hs8, upd2_k _ _ (show 12 ≠ 11 by decide), or_bit m2.1 m2.2 hs8, iN_small (show -2147483648 ≤ clrB (C 0 11) s by omega) (show clrB (C 0 11) s < 2147483648 by omega), iN_small (show -2147483648 ≤ setB (C 0 12) s by omega) (show setB (C 0 12) s < 2147483648 by omega)]
      exact c_settle (by omega) (VB_f12 (VB_f11 (VB_bury1 hV hs8) s1.1 s1.2) s2.1 s2.2) ⟨o01, h⟩
    have chain : CT l E (d - 1) m_Choir_passOnHeld [(.ref r, 11), (.int (iN s), 0), (.int (iN (heirC C s)), 0)] (setR M r (buryC0 C s)) (fun _ M14 => CT l E (d - 1) m_Choir_passOnWaiting [(.ref r, 11), (.int (iN s), 0), (.int (iN (heirC C s)), 0)] M14 (fun _ M15 => CT l E (d - 1) m_Choir_forgetLine [(.ref r, 11), (.int (iN s), 0)] M15 (fun _ M16 => G l E d m_Choir_bury 88 [(0, (.ref r, 11)), (1, (.int (iN s), 0))] [] M16 K))) := by
      have hVa := VB_passF (s := s) hh.1 hh.2 n 0 (by omega) (VB_bury0 hV hs8)
      refine c_passOnHeld (n := n) (by omega) (VB_bury0 hV hs8) hs8 (by rw [buryC0_c (by decide)]; exact hn) hh.1 hh.2 (c_passOnWaiting (by omega) hVa hs8 hh.1 hh.2 (c_forgetLine (by omega) (VB_passW hh.1 hh.2 8 0 hVa) hs8 ?_))
      unfold buryC1 at last
      rw [hn, show ((n : Int)).toNat = n from rfl] at last
      exact last
    simp only [setR_same, iN_clN (show (s : Int) < 2147483648 by omega)]
    refine ⟨iN_in (by omega) (by omega) (by omega), c_livesS (by omega) hV (by omega) (by omega) ?_⟩
    rw [toI_int, b2i_z]
    refine ⟨fun c2 => ⟨fun _ => ⟨iN_in (by omega) (by omega) (by omega), ?_⟩, fun c => absurd trivial c⟩, fun c2 => ⟨iN_in (by omega) (by omega) (by omega), fun c3 => ?_, fun c3 => ?_⟩⟩
    · have eh : heirC C s = -1 := by unfold heirC; rw [if_neg (by simp [c2])]
      have e0 : buryC0 C s = upd2 C 2 s 0 := by unfold buryC0; rw [if_pos eh]
      rw [eh, e0] at chain
      rw [upd3_setR, setR_same, setR_setR, iN_small (by omega) (by omega)]
      exact chain
    · rw [Bool.not_eq_false] at c2
      have t2 := livesB_spec c2
      rw [setR_same, iN_eq (by omega) (by omega) (by omega) (by omega)] at c3
      omega
    · rw [Bool.not_eq_false] at c2
      have t2 := livesB_spec c2
      have eh : heirC C s = C 3 s := by unfold heirC; rw [if_pos c2]
      obtain ⟨y, hy⟩ : ∃ y : Nat, C 3 s = y := ⟨(C 3 s).toNat, (by omega)⟩
      have p2 := hV.pu y (by omega)
      have e0 : buryC0 C s = upd2 (upd2 C 2 y (min 9999 (C 2 y + C 2 s))) 2 s 0 := by
        unfold buryC0
        rw [if_neg (by omega), eh, hy]
        rfl
      rw [eh, e0, hy] at chain
      simp only [setR_same, hy, iN_add, iN_clN (show (y : Int) < 2147483648 by omega)]
      refine ⟨iN_in (by omega) (by omega) (by omega), iN_in (by omega) (by omega) (by omega), c_min (by omega) (by omega) (by omega) (by omega) (by omega) ⟨iN_in (by omega) (by omega) (by omega), iN_in (by omega) (by omega) (by omega), ?_⟩⟩
      simp only [toI_int, upd3_setR, setR_same, setR_setR, iN_small (show -2147483648 ≤ min 9999 (C 2 y + C 2 s) by omega) (show min 9999 (C 2 y + C 2 s) < 2147483648 by omega), iN_small (show -2147483648 ≤ (0 : Int) by omega) (show (0 : Int) < 2147483648 by omega)]
      exact chain
  · rw [if_neg (by simp [c])] at h; exact h
end
section
def fillC (C : Ch) (c : Nat) (v : Int) (j : Nat) : Ch := fun c' i => if c' = c ∧ i < j then v else C c' i
theorem fillC_0 (C : Ch) (c : Nat) (v : Int) : fillC C c v 0 = C := by
  funext c' i
  unfold fillC
  rw [if_neg (by omega)]
theorem fillC_step (C : Ch) (c : Nat) (v : Int) (j : Nat) : upd2 (fillC C c v j) c j v = fillC C c v (j + 1) := by
  funext c' i
  unfold upd2 fillC
  by_cases hc : c' = c
  · subst hc
    by_cases hi : i = j
    · subst hi; simp
    · have : i < j ↔ i < j + 1 := (by omega)
      simp [hi, this]
  · simp [hc]
theorem fillC_c (C : Ch) {c c' : Nat} (v : Int) (j : Nat) (h : c' ≠ c) : fillC C c v j c' = C c' := by
  funext i
  unfold fillC
  rw [if_neg (fun q => h q.1)]
theorem c_fill_holders {l : Launch} {E : EnvT} {d : Nat} {K : AV → Mem → Prop} {M : Mem} {r : Nat} {C : Ch} {v : Int} (hd : 1 ≤ d) (v1 : -2147483648 ≤ v) (v2 : v < 2147483648) (h : K (.null, 0) (setR M r (fillC C 6 v 48))) : CT l E d m_Arrays_fill1 [(.ref r, 17), (.int (iN v), 0)] (setR M r C) K := by
  refine CT.of pn_Arrays (Nat.le_of_ble_eq_true rfl) ?_
  refine b_Arrays_fill1_holders_0 hd ?_
  have key : ∀ k : Nat, k ≤ 48 → G l E d m_Arrays_fill1 5 [(0, (.ref r, 17)), (1, (.int (iN v), 0)), (2, (.int (iN k), 0)), (3, (.int (iN 48), 0))] [] (setR M r (fillC C 6 v k)) K := by
    refine dn 48 ?_ (fun k hk ih => ?_)
    · exact b_Arrays_fill1_holders_5 hd ⟨fun _ => h, fun c => absurd ((iN_le (by omega) (by omega) (by omega) (by omega)).mpr (by omega)) c⟩
    · refine b_Arrays_fill1_holders_5 hd ⟨fun c => absurd ((iN_le (by omega) (by omega) (by omega) (by omega)).mp c) (by omega), fun _ => ⟨iN_in (by omega) (by omega) (by omega), ?_⟩⟩
      rw [iN_clN (by omega), iN_small v1 v2, upd3_setR, setR_same, setR_setR, fillC_step, iN_add]
      exact ih
  have := key 0 (by omega)
  rw [fillC_0] at this
  exact this
theorem c_fill_debts {l : Launch} {E : EnvT} {d : Nat} {K : AV → Mem → Prop} {M : Mem} {r : Nat} {C : Ch} {v : Int} (hd : 1 ≤ d) (v1 : -2147483648 ≤ v) (v2 : v < 2147483648) (h : K (.null, 0) (setR M r (fillC C 7 v 48))) : CT l E d m_Arrays_fill1 [(.ref r, 18), (.int (iN v), 0)] (setR M r C) K := by
  refine CT.of pn_Arrays (Nat.le_of_ble_eq_true rfl) ?_
  refine b_Arrays_fill1_debts_0 hd ?_
  have key : ∀ k : Nat, k ≤ 48 → G l E d m_Arrays_fill1 5 [(0, (.ref r, 18)), (1, (.int (iN v), 0)), (2, (.int (iN k), 0)), (3, (.int (iN 48), 0))] [] (setR M r (fillC C 7 v k)) K := by
    refine dn 48 ?_ (fun k hk ih => ?_)
    · exact b_Arrays_fill1_debts_5 hd ⟨fun _ => h, fun c => absurd ((iN_le (by omega) (by omega) (by omega) (by omega)).mpr (by omega)) c⟩
    · refine b_Arrays_fill1_debts_5 hd ⟨fun c => absurd ((iN_le (by omega) (by omega) (by omega) (by omega)).mp c) (by omega), fun _ => ⟨iN_in (by omega) (by omega) (by omega), ?_⟩⟩
      rw [iN_clN (by omega), iN_small v1 v2, upd3_setR, setR_same, setR_setR, fillC_step, iN_add]
      exact ih
  have := key 0 (by omega)
  rw [fillC_0] at this
  exact this
theorem c_fill_bests {l : Launch} {E : EnvT} {d : Nat} {K : AV → Mem → Prop} {M : Mem} {r : Nat} {C : Ch} {v : Int} (hd : 1 ≤ d) (v1 : -2147483648 ≤ v) (v2 : v < 2147483648) (h : K (.null, 0) (setR M r (fillC C 6 v 256))) : CT l E d m_Arrays_fill1 [(.ref r, 36), (.int (iN v), 0)] (setR M r C) K := by
  refine CT.of pn_Arrays (Nat.le_of_ble_eq_true rfl) ?_
  refine b_Arrays_fill1_bests_0 hd ?_
  have key : ∀ k : Nat, k ≤ 256 → G l E d m_Arrays_fill1 5 [(0, (.ref r, 36)), (1, (.int (iN v), 0)), (2, (.int (iN k), 0)), (3, (.int (iN 256), 0))] [] (setR M r (fillC C 6 v k)) K := by
    refine dn 256 ?_ (fun k hk ih => ?_)
    · exact b_Arrays_fill1_bests_5 hd ⟨fun _ => h, fun c => absurd ((iN_le (by omega) (by omega) (by omega) (by omega)).mpr (by omega)) c⟩
    · refine b_Arrays_fill1_bests_5 hd ⟨fun c => absurd ((iN_le (by omega) (by omega) (by omega) (by omega)).mp c) (by omega), fun _ => ⟨iN_in (by omega) (by omega) (by omega), ?_⟩⟩
      rw [iN_clN (by omega), iN_small v1 v2, upd3_setR, setR_same, setR_setR, fillC_step, iN_add]
      exact ih
  have := key 0 (by omega)
  rw [fillC_0] at this
  exact this
theorem c_fill_cells {l : Launch} {E : EnvT} {d : Nat} {K : AV → Mem → Prop} {M : Mem} {r : Nat} {C : Ch} {x : Int64} (hd : 1 ≤ d) (h : K (.null, 0) (setR M r (fillC C 1 x.toInt 60))) : CT l E d m_Arrays_fill0 [(.ref r, 40), (.long x, 0)] (setR M r C) K := by
  refine CT.of pn_Arrays (Nat.le_of_ble_eq_true rfl) ?_
  refine b_Arrays_fill0_cells_0 hd ?_
  have key : ∀ k : Nat, k ≤ 60 → G l E d m_Arrays_fill0 6 [(0, (.ref r, 40)), (1, (.long x, 0)), (3, (.int (iN k), 0)), (4, (.int (iN 60), 0))] [] (setR M r (fillC C 1 x.toInt k)) K := by
    refine dn 60 ?_ (fun k hk ih => ?_)
    · exact b_Arrays_fill0_cells_6 hd ⟨fun _ => h, fun c => absurd ((iN_le (by omega) (by omega) (by omega) (by omega)).mpr (by omega)) c⟩
    · refine b_Arrays_fill0_cells_6 hd ⟨fun c => absurd ((iN_le (by omega) (by omega) (by omega) (by omega)).mp c) (by omega), fun _ => ⟨iN_in (by omega) (by omega) (by omega), ?_⟩⟩
      rw [iN_clN (by omega), upd3_setR, setR_same, setR_setR, fillC_step, iN_add]
      exact ih
  have := key 0 (by omega)
  rw [fillC_0] at this
  exact this
def emptyC (C : Ch) : Ch := upd2 (upd2 (upd2 (upd2 (upd2 (upd2 (upd2 (upd2 (upd2 (fillC (fillC C 6 (-1) 48) 7 0 48) 8 3 0) 0 8 0) 0 9 0) 0 10 0) 0 11 0) 0 12 0) 0 13 0) 0 14 0) 0 15 0
theorem c_makeEmpty {l : Launch} {E : EnvT} {d : Nat} {K : AV → Mem → Prop} {M : Mem} {r : Nat} {C : Ch} (hd : 2 ≤ d) (h : K (.null, 0) (setR M r (emptyC C))) : CT l E d m_Choir_makeEmpty [(.ref r, 11)] (setR M r C) K := by
  refine CT.of pn_Choir (Nat.le_of_ble_eq_true rfl) ?_
  refine b_Choir_makeEmpty_0 (by omega) (c_fill_holders (by omega) (by omega) (by omega) (c_fill_debts (by omega) (by omega) (by omega) (b_Choir_makeEmpty_59 (by omega) ?_)))
  have e0 : (iN 0).toInt = 0 := iN_small (by omega) (by omega)
  simp only [upd3_setR, setR_same, setR_setR, e0]
  exact h
theorem VB_empty {C : Ch} (hV : VB C) : VB (emptyC C) := by
  have e : ∀ c, c ≠ 0 → c ≠ 8 → emptyC C c = fillC (fillC C 6 (-1) 48) 7 0 48 c := by
    intro c h0 h8
    unfold emptyC
    rw [upd2_c _ _ h0, upd2_c _ _ h0, upd2_c _ _ h0, upd2_c _ _ h0, upd2_c _ _ h0, upd2_c _ _ h0, upd2_c _ _ h0, upd2_c _ _ h0, upd2_c _ _ h8]
  obtain ⟨a1, a2, a3, a4, a5, a6, a7, a8, a9, a10, a11, a12, a13, a14, a15⟩ := hV
  have e8 : emptyC C 8 3 = 0 := by
    unfold emptyC
    rw [upd2_c _ _ (show 8 ≠ 0 by decide), upd2_c _ _ (show 8 ≠ 0 by decide), upd2_c _ _ (show 8 ≠ 0 by decide), upd2_c _ _ (show 8 ≠ 0 by decide), upd2_c _ _ (show 8 ≠ 0 by decide), upd2_c _ _ (show 8 ≠ 0 by decide), upd2_c _ _ (show 8 ≠ 0 by decide), upd2_c _ _ (show 8 ≠ 0 by decide), upd2_same]
  have e0 : ∀ j, 8 ≤ j → j ≤ 15 → emptyC C 0 j = 0 := by
    intro j h1 h2
    have : j = 8 ∨ j = 9 ∨ j = 10 ∨ j = 11 ∨ j = 12 ∨ j = 13 ∨ j = 14 ∨ j = 15 := (by omega)
    rcases this with rfl | rfl | rfl | rfl | rfl | rfl | rfl | rfl <;> simp [emptyC, upd2]
  refine ⟨by rw [e0 8 (by omega) (by omega)]; omega, fun j q1 q2 => by rw [e0 j (by omega) (by omega)]; omega, by rw [e0 13 (by omega) (by omega)]; omega, by rw [e0 14 (by omega) (by omega)]; omega, by rw [e0 15 (by omega) (by omega)]; omega, ?_, ?_, ?_, ?_, ?_, ?_, by rw [e8]; omega, ?_, ?_, ?_⟩
  · rw [e 2 (by decide) (by decide), fillC_c _ _ _ (by decide), fillC_c _ _ _ (by decide)]; exact a6
  · rw [e 3 (by decide) (by decide), fillC_c _ _ _ (by decide), fillC_c _ _ _ (by decide)]; exact a7
  · rw [e 4 (by decide) (by decide), fillC_c _ _ _ (by decide), fillC_c _ _ _ (by decide)]; exact a8
  · rw [e 5 (by decide) (by decide), fillC_c _ _ _ (by decide), fillC_c _ _ _ (by decide)]; exact a9
  · intro i hi
    rw [e 6 (by decide) (by decide), fillC_c _ _ _ (by decide)]
    unfold fillC
    rw [if_pos ⟨rfl, hi⟩]; omega
  · intro i hi
    rw [e 7 (by decide) (by decide)]
    unfold fillC
    rw [if_pos ⟨rfl, hi⟩]; omega
  · rw [e 9 (by decide) (by decide), fillC_c _ _ _ (by decide), fillC_c _ _ _ (by decide)]; exact a13
  · rw [e 10 (by decide) (by decide), fillC_c _ _ _ (by decide), fillC_c _ _ _ (by decide)]; exact a14
  · rw [e 11 (by decide) (by decide), fillC_c _ _ _ (by decide), fillC_c _ _ _ (by decide)]; exact a15
def addNoteC (C : Ch) (s : Nat) (v : Int) : Ch := upd2 (upd2 C 5 (6 * s + (C 4 s).toNat) v) 4 s (C 4 s + 1)
theorem VB_addNote {C : Ch} {s : Nat} {v : Int} (hV : VB C) (hs : s < 8) (hl : C 4 s < 6) (v1 : 0 ≤ v) (v2 : v ≤ 24) : VB (addNoteC C s v) := by
  have := hV.le s hs
  exact VB_4 (VB_5 hV v1 v2) (by omega) (by omega)
theorem c_addNote {l : Launch} {E : EnvT} {d : Nat} {K : AV → Mem → Prop} {M : Mem} {r : Nat} {C : Ch} {s : Nat} {v : Int} (hd : 2 ≤ d) (hV : VB C) (hs : s < 8) (hl : C 4 s < 6) (v1 : 0 ≤ v) (v2 : v ≤ 24) (h : K (.null, 0) (setR M r (addNoteC C s v))) : CT l E d m_Choir_addNote [(.ref r, 11), (.int (iN s), 0), (.int (iN v), 0)] (setR M r C) K := by
  refine CT.of pn_Choir (Nat.le_of_ble_eq_true rfl) ?_
  refine b_Choir_addNote_0 (by omega) ?_
  have hle := hV.le s hs
  obtain ⟨q, hq⟩ : ∃ q : Nat, C 4 s = q := ⟨(C 4 s).toNat, (by omega)⟩
  unfold addNoteC at h
  rw [hq, show ((q : Int)).toNat = q from rfl] at h
  rw [setR_same, iN_clN (by omega), hq]
  refine ⟨iN_in (by omega) (by omega) (by omega), c_slot (by omega) ?_⟩
  rw [show (s : Int) * 6 + q = ((6 * s + q : Nat) : Int) by push_cast; omega, toI_int, iN_clN (by omega)]
  refine ⟨iN_in (by omega) (by omega) (by omega), iN_in (by omega) (by omega) (by omega), iN_in (by omega) (by omega) (by omega), ?_⟩
  simp only [upd3_setR, setR_same, setR_setR, upd2_c _ _ (show 4 ≠ 5 by decide), hq, iN_add, iN_small (show -2147483648 ≤ (q : Int) + 1 by omega) (show (q : Int) + 1 < 2147483648 by omega), iN_small (show -2147483648 ≤ v by omega) (show v < 2147483648 by omega)]
  exact h
def addS0 (C : Ch) (s : Nat) (nm : Int) (p : Int) : Ch := upd2 (upd2 (upd2 (upd2 C 1 s nm) 2 s p) 3 s (-1)) 4 s 0
def addSingerC (C : Ch) (nm : Int) (p : Int) : Ch := upd2 (addNoteC (addNoteC (addNoteC (addS0 C (C 0 8).toNat nm p) (C 0 8).toNat 12) (C 0 8).toNat 14) (C 0 8).toNat 16) 0 8 (C 0 8 + 1)
theorem VB_1 {C : Ch} {k : Nat} {v : Int} (h : VB C) : VB (upd2 C 1 k v) := by
  obtain ⟨a1, a2, a3, a4, a5, a6, a7, a8, a9, a10, a11, a12, a13, a14, a15⟩ := h
  have e : ∀ c, c ≠ 1 → upd2 C 1 k v c = C c := fun c hc => upd2_c C v hc
  exact ⟨by rw [e 0 (by omega)]; exact a1, by rw [e 0 (by omega)]; exact a2, by rw [e 0 (by omega)]; exact a3, by rw [e 0 (by omega)]; exact a4, by rw [e 0 (by omega)]; exact a5, by rw [e 2 (by omega)]; exact a6, by rw [e 3 (by omega)]; exact a7, by rw [e 4 (by omega)]; exact a8, by rw [e 5 (by omega)]; exact a9, by rw [e 6 (by omega)]; exact a10, by rw [e 7 (by omega)]; exact a11, by rw [e 8 (by omega)]; exact a12, by rw [e 9 (by omega)]; exact a13, by rw [e 10 (by omega)]; exact a14, by rw [e 11 (by omega)]; exact a15⟩
theorem addNoteC_4 (C : Ch) (s : Nat) (v : Int) : addNoteC C s v 4 s = C 4 s + 1 := by unfold addNoteC; rw [upd2_same]
theorem addNoteC_c {C : Ch} {s : Nat} {v : Int} {c : Nat} (h4 : c ≠ 4) (h5 : c ≠ 5) : addNoteC C s v c = C c := by unfold addNoteC; rw [upd2_c _ _ h4, upd2_c _ _ h5]
theorem VB_addS0 {C : Ch} {s : Nat} {nm p : Int} (hV : VB C) (p1 : 0 ≤ p) (p2 : p ≤ 9999) : VB (addS0 C s nm p) := VB_4 (VB_3 (VB_2 (VB_1 hV) p1 p2) (by omega) (by omega)) (by omega) (by omega)
theorem addS0_4 (C : Ch) (s : Nat) (nm p : Int) : addS0 C s nm p 4 s = 0 := by unfold addS0; rw [upd2_same]
theorem VB_add3 {C : Ch} {s : Nat} {nm p : Int} (hV : VB C) (hs : s < 8) (p1 : 0 ≤ p) (p2 : p ≤ 9999) : VB (addNoteC (addNoteC (addNoteC (addS0 C s nm p) s 12) s 14) s 16) :=
  VB_addNote (VB_addNote (VB_addNote (VB_addS0 hV p1 p2) hs (by rw [addS0_4]; omega) (by omega) (by omega)) hs (by rw [addNoteC_4, addS0_4]; omega) (by omega) (by omega)) hs (by rw [addNoteC_4, addNoteC_4, addS0_4]; omega) (by omega) (by omega)
theorem VB_addSinger {C : Ch} {nm p : Int} (hV : VB C) (hn : C 0 8 < 8) (p1 : 0 ≤ p) (p2 : p ≤ 9999) : VB (addSingerC C nm p) := by
  have := hV.n
  exact VB_f8 (VB_add3 hV (by omega) p1 p2) (by omega) (by omega)
theorem c_addSinger {l : Launch} {E : EnvT} {d : Nat} {K : AV → Mem → Prop} {M : Mem} {r : Nat} {C : Ch} {x : Int64} {p : Int} (hd : 3 ≤ d) (hV : VB C) (hn8 : C 0 8 < 8) (p1 : 0 ≤ p) (p2 : p ≤ 9999) (h : K (.int (iN (C 0 8)), 0) (setR M r (addSingerC C x.toInt p))) : CT l E d m_Choir_addSinger [(.ref r, 11), (.long x, 0), (.int (iN p), 0)] (setR M r C) K := by
  refine CT.of pn_Choir (Nat.le_of_ble_eq_true rfl) ?_
  refine b_Choir_addSinger_0 (by omega) ?_
  have hn0 := hV.n
  obtain ⟨s, hs⟩ : ∃ s : Nat, C 0 8 = s := ⟨(C 0 8).toNat, (by omega)⟩
  unfold addSingerC at h
  rw [hs, show ((s : Int)).toNat = s from rfl] at h
  have hs8 : s < 8 := (by omega)
  have e0 : (iN 0).toInt = 0 := iN_small (by omega) (by omega)
  have e1 : (iN (-1)).toInt = -1 := iN_small (by omega) (by omega)
  simp only [upd3_setR, setR_same, setR_setR, hs, iN_clN (show (s : Int) < 2147483648 by omega), e0, e1, iN_small (show -2147483648 ≤ p by omega) (show p < 2147483648 by omega)]
  have v0 : VB (addS0 C s x.toInt p) := VB_addS0 hV p1 p2
  have v1 := VB_addNote (v := 12) v0 hs8 (by rw [addS0_4]; omega) (by omega) (by omega)
  have v2 := VB_addNote (v := 14) v1 hs8 (by rw [addNoteC_4, addS0_4]; omega) (by omega) (by omega)
  refine ⟨iN_in (by omega) (by omega) (by omega), iN_in (by omega) (by omega) (by omega), iN_in (by omega) (by omega) (by omega), iN_in (by omega) (by omega) (by omega), ?_⟩
  refine c_addNote (C := addS0 C s x.toInt p) (by omega) v0 hs8 (by rw [addS0_4]; omega) (by omega) (by omega) (c_addNote (by omega) v1 hs8 (by rw [addNoteC_4, addS0_4]; omega) (by omega) (by omega) (b_Choir_addSinger_54 (by omega) (c_addNote (by omega) v2 hs8 (by rw [addNoteC_4, addNoteC_4, addS0_4]; omega) (by omega) (by omega) ?_)))
  have e08 : addNoteC (addNoteC (addNoteC (addS0 C s x.toInt p) s 12) s 14) s 16 0 8 = s := by
    rw [addNoteC_c (by decide) (by decide), addNoteC_c (by decide) (by decide), addNoteC_c (by decide) (by decide)]
    unfold addS0
    rw [upd2_c _ _ (show 0 ≠ 4 by decide), upd2_c _ _ (show 0 ≠ 3 by decide), upd2_c _ _ (show 0 ≠ 2 by decide), upd2_c _ _ (show 0 ≠ 1 by decide)]
    exact hs
  rw [upd3_setR, setR_same, setR_setR, e08, iN_add, iN_small (by omega) (by omega)]
  exact h
def findC (C : Ch) (x : Int64) : Int := fnd (fun s => decide (lI (C 1 s) = x)) (C 0 8).toNat
theorem cmp0 (x y : Int64) : lg_cmp x y = 0 ↔ x = y := by
  unfold lg_cmp
  split
  · rename_i h
    constructor
    · intro e; exact absurd e (by decide +kernel)
    · intro e; subst e; exact absurd h (Int64.lt_irrefl)
  · split
    · rename_i h; simp [h]
    · rename_i h
      constructor
      · intro e; exact absurd e (by decide +kernel)
      · intro e; exact absurd e h
theorem c_find {l : Launch} {E : EnvT} {d : Nat} {K : AV → Mem → Prop} {M : Mem} {r : Nat} {x : Int64} (hd : 1 ≤ d) (hV : VB (M r)) (h : K (.int (iN (findC (M r) x)), 0) M) : CT l E d m_Choir_find [(.ref r, 11), (.long x, 0)] M K := by
  refine CT.of pn_Choir (Nat.le_of_ble_eq_true rfl) ?_
  refine b_Choir_find_0 hd ?_
  have hn0 := hV.n
  obtain ⟨n, hn⟩ : ∃ n : Nat, M r 0 8 = n := ⟨(M r 0 8).toNat, (by omega)⟩
  have key : ∀ m i : Nat, i + m = n → findC (M r) x = fndF (fun s => decide (lI (M r 1 s) = x)) i m → G l E d m_Choir_find 2 [(0, (.ref r, 11)), (1, (.long x, 0)), (3, (.int (iN i), 0))] [] M K := by
    intro m
    induction m with
    | zero =>
      intro i hi he
      refine b_Choir_find_2 hd ?_
      rw [hn]
      rw [he] at h
      exact ⟨fun _ => h, fun c => absurd ((iN_le (by omega) (by omega) (by omega) (by omega)).mpr (by omega)) c⟩
    | succ m ih =>
      intro i hi he
      refine b_Choir_find_2 hd ?_
      rw [hn, iN_clN (by omega), cmp0, iN_add]
      refine ⟨fun c => absurd ((iN_le (by omega) (by omega) (by omega) (by omega)).mp c) (by omega), fun _ => ⟨iN_in (by omega) (by omega) (by omega), fun c => ?_, fun c => ?_⟩⟩
      · refine ih (i + 1) (by omega) ?_
        rw [he]
        simp [fndF, c]
      · rw [he] at h
        simpa [fndF, c] using h
  exact key n 0 (by omega) (by unfold findC fnd; rw [hn]; rfl)
end
