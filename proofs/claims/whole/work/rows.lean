section
-- ===== PART A: goes FIRST, ahead of the names: the tables' words, and 'selects' of the private methods out of them =====
/-- a private method of a class that the tables say can be made, by its rows of tables_1 -/
def lw_okq (q : MethodName × Nat) : Prop := (q.1.cls ≠ "java/lang/invoke/MethodHandle" ∧ q.1.cls ≠ "java/lang/invoke/VarHandle") ∧ Cond.instantiable q.1.cls q.2 ∈ tables_1 ∧ Cond.privateMethod q.1 ∈ tables_1 ∧ Cond.instanceMethod q.1 ∈ tables_1
theorem lw_p0 : lw_okq (⟨"FalseNotes", "deny", "(I)Z"⟩, 19) := ⟨⟨by decide +kernel, by decide +kernel⟩, List.mem_of_getElem? (i := 22) (by decide +kernel), List.mem_of_getElem? (i := 467) (by decide +kernel), List.mem_of_getElem? (i := 468) (by decide +kernel)⟩
theorem lw_p1 : lw_okq (⟨"FalseNotes", "agree", "()Z"⟩, 19) := ⟨⟨by decide +kernel, by decide +kernel⟩, List.mem_of_getElem? (i := 22) (by decide +kernel), List.mem_of_getElem? (i := 478) (by decide +kernel), List.mem_of_getElem? (i := 479) (by decide +kernel)⟩
theorem lw_p2 : lw_okq (⟨"FalseNotes", "cellStatus", "(II)I"⟩, 19) := ⟨⟨by decide +kernel, by decide +kernel⟩, List.mem_of_getElem? (i := 22) (by decide +kernel), List.mem_of_getElem? (i := 486) (by decide +kernel), List.mem_of_getElem? (i := 487) (by decide +kernel)⟩
theorem lw_p3 : lw_okq (⟨"FalseNotes", "refuse", "(I)I"⟩, 19) := ⟨⟨by decide +kernel, by decide +kernel⟩, List.mem_of_getElem? (i := 22) (by decide +kernel), List.mem_of_getElem? (i := 506) (by decide +kernel), List.mem_of_getElem? (i := 507) (by decide +kernel)⟩
theorem lw_p4 : lw_okq (⟨"FalseNotes", "spool", "(I)V"⟩, 19) := ⟨⟨by decide +kernel, by decide +kernel⟩, List.mem_of_getElem? (i := 22) (by decide +kernel), List.mem_of_getElem? (i := 525) (by decide +kernel), List.mem_of_getElem? (i := 526) (by decide +kernel)⟩
theorem lw_p5 : lw_okq (⟨"FalseNotes", "noteFault", "(LFalseNotes$Tokens;)V"⟩, 19) := ⟨⟨by decide +kernel, by decide +kernel⟩, List.mem_of_getElem? (i := 22) (by decide +kernel), List.mem_of_getElem? (i := 725) (by decide +kernel), List.mem_of_getElem? (i := 726) (by decide +kernel)⟩
theorem lw_p6 : lw_okq (⟨"FalseNotes", "answer", "(I)I"⟩, 19) := ⟨⟨by decide +kernel, by decide +kernel⟩, List.mem_of_getElem? (i := 22) (by decide +kernel), List.mem_of_getElem? (i := 733) (by decide +kernel), List.mem_of_getElem? (i := 734) (by decide +kernel)⟩
theorem lw_p7 : lw_okq (⟨"FalseNotes", "answerOr", "(II)I"⟩, 19) := ⟨⟨by decide +kernel, by decide +kernel⟩, List.mem_of_getElem? (i := 22) (by decide +kernel), List.mem_of_getElem? (i := 852) (by decide +kernel), List.mem_of_getElem? (i := 853) (by decide +kernel)⟩
theorem lw_p8 : lw_okq (⟨"FalseNotes", "lineTrayStatus", "(II)I"⟩, 19) := ⟨⟨by decide +kernel, by decide +kernel⟩, List.mem_of_getElem? (i := 22) (by decide +kernel), List.mem_of_getElem? (i := 909) (by decide +kernel), List.mem_of_getElem? (i := 910) (by decide +kernel)⟩
theorem lw_p9 : lw_okq (⟨"FalseNotes", "firstWithMost", "(I)I"⟩, 19) := ⟨⟨by decide +kernel, by decide +kernel⟩, List.mem_of_getElem? (i := 22) (by decide +kernel), List.mem_of_getElem? (i := 1094) (by decide +kernel), List.mem_of_getElem? (i := 1095) (by decide +kernel)⟩
theorem lw_p10 : lw_okq (⟨"FalseNotes", "measured", "(II)I"⟩, 19) := ⟨⟨by decide +kernel, by decide +kernel⟩, List.mem_of_getElem? (i := 22) (by decide +kernel), List.mem_of_getElem? (i := 1098) (by decide +kernel), List.mem_of_getElem? (i := 1099) (by decide +kernel)⟩
theorem lw_p11 : lw_okq (⟨"FalseNotes", "tellFraction", "(JJ)V"⟩, 19) := ⟨⟨by decide +kernel, by decide +kernel⟩, List.mem_of_getElem? (i := 22) (by decide +kernel), List.mem_of_getElem? (i := 1114) (by decide +kernel), List.mem_of_getElem? (i := 1115) (by decide +kernel)⟩
theorem lw_p12 : lw_okq (⟨"FalseNotes", "heardStatus", "(II)I"⟩, 19) := ⟨⟨by decide +kernel, by decide +kernel⟩, List.mem_of_getElem? (i := 22) (by decide +kernel), List.mem_of_getElem? (i := 1202) (by decide +kernel), List.mem_of_getElem? (i := 1203) (by decide +kernel)⟩
theorem lw_p13 : lw_okq (⟨"FalseNotes", "offAt", "(III)I"⟩, 19) := ⟨⟨by decide +kernel, by decide +kernel⟩, List.mem_of_getElem? (i := 22) (by decide +kernel), List.mem_of_getElem? (i := 1208) (by decide +kernel), List.mem_of_getElem? (i := 1209) (by decide +kernel)⟩
theorem lw_p14 : lw_okq (⟨"FalseNotesModel", "plain", "(I)V"⟩, 34) := ⟨⟨by decide +kernel, by decide +kernel⟩, List.mem_of_getElem? (i := 1335) (by decide +kernel), List.mem_of_getElem? (i := 1341) (by decide +kernel), List.mem_of_getElem? (i := 1342) (by decide +kernel)⟩
theorem lw_p15 : lw_okq (⟨"FalseNotesModel", "is", "(I)Z"⟩, 34) := ⟨⟨by decide +kernel, by decide +kernel⟩, List.mem_of_getElem? (i := 1335) (by decide +kernel), List.mem_of_getElem? (i := 1467) (by decide +kernel), List.mem_of_getElem? (i := 1468) (by decide +kernel)⟩
def lw_privs_1 : List (MethodName × Nat) := [(⟨"FalseNotes", "deny", "(I)Z"⟩, 19), (⟨"FalseNotes", "agree", "()Z"⟩, 19), (⟨"FalseNotes", "cellStatus", "(II)I"⟩, 19), (⟨"FalseNotes", "refuse", "(I)I"⟩, 19), (⟨"FalseNotes", "spool", "(I)V"⟩, 19), (⟨"FalseNotes", "noteFault", "(LFalseNotes$Tokens;)V"⟩, 19), (⟨"FalseNotes", "answer", "(I)I"⟩, 19), (⟨"FalseNotes", "answerOr", "(II)I"⟩, 19), (⟨"FalseNotes", "lineTrayStatus", "(II)I"⟩, 19), (⟨"FalseNotes", "firstWithMost", "(I)I"⟩, 19), (⟨"FalseNotes", "measured", "(II)I"⟩, 19), (⟨"FalseNotes", "tellFraction", "(JJ)V"⟩, 19), (⟨"FalseNotes", "heardStatus", "(II)I"⟩, 19), (⟨"FalseNotes", "offAt", "(III)I"⟩, 19), (⟨"FalseNotesModel", "plain", "(I)V"⟩, 34), (⟨"FalseNotesModel", "is", "(I)Z"⟩, 34)]
theorem lw_r1 : ∀ q ∈ lw_privs_1, lw_okq q := List.forall_mem_cons.mpr ⟨lw_p0, List.forall_mem_cons.mpr ⟨lw_p1, List.forall_mem_cons.mpr ⟨lw_p2, List.forall_mem_cons.mpr ⟨lw_p3, List.forall_mem_cons.mpr ⟨lw_p4, List.forall_mem_cons.mpr ⟨lw_p5, List.forall_mem_cons.mpr ⟨lw_p6, List.forall_mem_cons.mpr ⟨lw_p7, List.forall_mem_cons.mpr ⟨lw_p8, List.forall_mem_cons.mpr ⟨lw_p9, List.forall_mem_cons.mpr ⟨lw_p10, List.forall_mem_cons.mpr ⟨lw_p11, List.forall_mem_cons.mpr ⟨lw_p12, List.forall_mem_cons.mpr ⟨lw_p13, List.forall_mem_cons.mpr ⟨lw_p14, List.forall_mem_cons.mpr ⟨lw_p15, fun _ h => absurd h List.not_mem_nil⟩⟩⟩⟩⟩⟩⟩⟩⟩⟩⟩⟩⟩⟩⟩⟩
theorem lw_p16 : lw_okq (⟨"FalseNotesModel", "wrongPlace", "(II)I"⟩, 34) := ⟨⟨by decide +kernel, by decide +kernel⟩, List.mem_of_getElem? (i := 1335) (by decide +kernel), List.mem_of_getElem? (i := 1475) (by decide +kernel), List.mem_of_getElem? (i := 1476) (by decide +kernel)⟩
theorem lw_p17 : lw_okq (⟨"FalseNotesModel", "four", "(I)V"⟩, 34) := ⟨⟨by decide +kernel, by decide +kernel⟩, List.mem_of_getElem? (i := 1335) (by decide +kernel), List.mem_of_getElem? (i := 1495) (by decide +kernel), List.mem_of_getElem? (i := 1496) (by decide +kernel)⟩
theorem lw_p18 : lw_okq (⟨"FalseNotesModel", "begins", "(II)Z"⟩, 34) := ⟨⟨by decide +kernel, by decide +kernel⟩, List.mem_of_getElem? (i := 1335) (by decide +kernel), List.mem_of_getElem? (i := 1507) (by decide +kernel), List.mem_of_getElem? (i := 1508) (by decide +kernel)⟩
theorem lw_p19 : lw_okq (⟨"FalseNotesModel", "ahead", "()V"⟩, 34) := ⟨⟨by decide +kernel, by decide +kernel⟩, List.mem_of_getElem? (i := 1335) (by decide +kernel), List.mem_of_getElem? (i := 1511) (by decide +kernel), List.mem_of_getElem? (i := 1512) (by decide +kernel)⟩
theorem lw_p20 : lw_okq (⟨"FalseNotesModel", "byteAt", "(I)I"⟩, 34) := ⟨⟨by decide +kernel, by decide +kernel⟩, List.mem_of_getElem? (i := 1335) (by decide +kernel), List.mem_of_getElem? (i := 1515) (by decide +kernel), List.mem_of_getElem? (i := 1516) (by decide +kernel)⟩
theorem lw_p21 : lw_okq (⟨"FalseNotesModel", "refuse", "(I)I"⟩, 34) := ⟨⟨by decide +kernel, by decide +kernel⟩, List.mem_of_getElem? (i := 1335) (by decide +kernel), List.mem_of_getElem? (i := 1527) (by decide +kernel), List.mem_of_getElem? (i := 1528) (by decide +kernel)⟩
theorem lw_p22 : lw_okq (⟨"FalseNotesModel", "choirPart", "()Z"⟩, 34) := ⟨⟨by decide +kernel, by decide +kernel⟩, List.mem_of_getElem? (i := 1335) (by decide +kernel), List.mem_of_getElem? (i := 1531) (by decide +kernel), List.mem_of_getElem? (i := 1532) (by decide +kernel)⟩
theorem lw_p23 : lw_okq (⟨"FalseNotesModel", "inWords", "(Ljava/lang/String;)I"⟩, 34) := ⟨⟨by decide +kernel, by decide +kernel⟩, List.mem_of_getElem? (i := 1335) (by decide +kernel), List.mem_of_getElem? (i := 1536) (by decide +kernel), List.mem_of_getElem? (i := 1537) (by decide +kernel)⟩
theorem lw_p24 : lw_okq (⟨"FalseNotesModel", "aSinger", "()Z"⟩, 34) := ⟨⟨by decide +kernel, by decide +kernel⟩, List.mem_of_getElem? (i := 1335) (by decide +kernel), List.mem_of_getElem? (i := 1542) (by decide +kernel), List.mem_of_getElem? (i := 1543) (by decide +kernel)⟩
theorem lw_p25 : lw_okq (⟨"FalseNotesModel", "fails", "(I)Z"⟩, 34) := ⟨⟨by decide +kernel, by decide +kernel⟩, List.mem_of_getElem? (i := 1335) (by decide +kernel), List.mem_of_getElem? (i := 1549) (by decide +kernel), List.mem_of_getElem? (i := 1550) (by decide +kernel)⟩
theorem lw_p26 : lw_okq (⟨"FalseNotesModel", "isName", "(Ljava/lang/String;)Z"⟩, 34) := ⟨⟨by decide +kernel, by decide +kernel⟩, List.mem_of_getElem? (i := 1335) (by decide +kernel), List.mem_of_getElem? (i := 1553) (by decide +kernel), List.mem_of_getElem? (i := 1554) (by decide +kernel)⟩
theorem lw_p27 : lw_okq (⟨"FalseNotesModel", "findHere", "(II)I"⟩, 34) := ⟨⟨by decide +kernel, by decide +kernel⟩, List.mem_of_getElem? (i := 1335) (by decide +kernel), List.mem_of_getElem? (i := 1557) (by decide +kernel), List.mem_of_getElem? (i := 1558) (by decide +kernel)⟩
theorem lw_p28 : lw_okq (⟨"FalseNotesModel", "nameHere", "()J"⟩, 34) := ⟨⟨by decide +kernel, by decide +kernel⟩, List.mem_of_getElem? (i := 1335) (by decide +kernel), List.mem_of_getElem? (i := 1561) (by decide +kernel), List.mem_of_getElem? (i := 1562) (by decide +kernel)⟩
theorem lw_p29 : lw_okq (⟨"FalseNotesModel", "wantWord", "(Ljava/lang/String;I)Z"⟩, 34) := ⟨⟨by decide +kernel, by decide +kernel⟩, List.mem_of_getElem? (i := 1335) (by decide +kernel), List.mem_of_getElem? (i := 1565) (by decide +kernel), List.mem_of_getElem? (i := 1566) (by decide +kernel)⟩
theorem lw_p30 : lw_okq (⟨"FalseNotesModel", "number", "(III)Z"⟩, 34) := ⟨⟨by decide +kernel, by decide +kernel⟩, List.mem_of_getElem? (i := 1335) (by decide +kernel), List.mem_of_getElem? (i := 1569) (by decide +kernel), List.mem_of_getElem? (i := 1570) (by decide +kernel)⟩
theorem lw_p31 : lw_okq (⟨"FalseNotesModel", "isThere", "(I)Z"⟩, 34) := ⟨⟨by decide +kernel, by decide +kernel⟩, List.mem_of_getElem? (i := 1335) (by decide +kernel), List.mem_of_getElem? (i := 1573) (by decide +kernel), List.mem_of_getElem? (i := 1574) (by decide +kernel)⟩
def lw_privs_2 : List (MethodName × Nat) := [(⟨"FalseNotesModel", "wrongPlace", "(II)I"⟩, 34), (⟨"FalseNotesModel", "four", "(I)V"⟩, 34), (⟨"FalseNotesModel", "begins", "(II)Z"⟩, 34), (⟨"FalseNotesModel", "ahead", "()V"⟩, 34), (⟨"FalseNotesModel", "byteAt", "(I)I"⟩, 34), (⟨"FalseNotesModel", "refuse", "(I)I"⟩, 34), (⟨"FalseNotesModel", "choirPart", "()Z"⟩, 34), (⟨"FalseNotesModel", "inWords", "(Ljava/lang/String;)I"⟩, 34), (⟨"FalseNotesModel", "aSinger", "()Z"⟩, 34), (⟨"FalseNotesModel", "fails", "(I)Z"⟩, 34), (⟨"FalseNotesModel", "isName", "(Ljava/lang/String;)Z"⟩, 34), (⟨"FalseNotesModel", "findHere", "(II)I"⟩, 34), (⟨"FalseNotesModel", "nameHere", "()J"⟩, 34), (⟨"FalseNotesModel", "wantWord", "(Ljava/lang/String;I)Z"⟩, 34), (⟨"FalseNotesModel", "number", "(III)Z"⟩, 34), (⟨"FalseNotesModel", "isThere", "(I)Z"⟩, 34)]
theorem lw_r2 : ∀ q ∈ lw_privs_2, lw_okq q := List.forall_mem_cons.mpr ⟨lw_p16, List.forall_mem_cons.mpr ⟨lw_p17, List.forall_mem_cons.mpr ⟨lw_p18, List.forall_mem_cons.mpr ⟨lw_p19, List.forall_mem_cons.mpr ⟨lw_p20, List.forall_mem_cons.mpr ⟨lw_p21, List.forall_mem_cons.mpr ⟨lw_p22, List.forall_mem_cons.mpr ⟨lw_p23, List.forall_mem_cons.mpr ⟨lw_p24, List.forall_mem_cons.mpr ⟨lw_p25, List.forall_mem_cons.mpr ⟨lw_p26, List.forall_mem_cons.mpr ⟨lw_p27, List.forall_mem_cons.mpr ⟨lw_p28, List.forall_mem_cons.mpr ⟨lw_p29, List.forall_mem_cons.mpr ⟨lw_p30, List.forall_mem_cons.mpr ⟨lw_p31, fun _ h => absurd h List.not_mem_nil⟩⟩⟩⟩⟩⟩⟩⟩⟩⟩⟩⟩⟩⟩⟩⟩
theorem lw_p32 : lw_okq (⟨"FalseNotesModel", "aLine", "(I)Z"⟩, 34) := ⟨⟨by decide +kernel, by decide +kernel⟩, List.mem_of_getElem? (i := 1335) (by decide +kernel), List.mem_of_getElem? (i := 1577) (by decide +kernel), List.mem_of_getElem? (i := 1578) (by decide +kernel)⟩
theorem lw_p33 : lw_okq (⟨"FalseNotesModel", "aDebt", "()Z"⟩, 34) := ⟨⟨by decide +kernel, by decide +kernel⟩, List.mem_of_getElem? (i := 1335) (by decide +kernel), List.mem_of_getElem? (i := 1585) (by decide +kernel), List.mem_of_getElem? (i := 1586) (by decide +kernel)⟩
theorem lw_p34 : lw_okq (⟨"FalseNotesModel", "twoTo", "()Z"⟩, 34) := ⟨⟨by decide +kernel, by decide +kernel⟩, List.mem_of_getElem? (i := 1335) (by decide +kernel), List.mem_of_getElem? (i := 1589) (by decide +kernel), List.mem_of_getElem? (i := 1590) (by decide +kernel)⟩
theorem lw_p35 : lw_okq (⟨"FalseNotesModel", "oldOne", "(III)Z"⟩, 34) := ⟨⟨by decide +kernel, by decide +kernel⟩, List.mem_of_getElem? (i := 1335) (by decide +kernel), List.mem_of_getElem? (i := 1593) (by decide +kernel), List.mem_of_getElem? (i := 1594) (by decide +kernel)⟩
theorem lw_p36 : lw_okq (⟨"FalseNotesModel", "books", "(III)Z"⟩, 34) := ⟨⟨by decide +kernel, by decide +kernel⟩, List.mem_of_getElem? (i := 1335) (by decide +kernel), List.mem_of_getElem? (i := 1598) (by decide +kernel), List.mem_of_getElem? (i := 1599) (by decide +kernel)⟩
theorem lw_p37 : lw_okq (⟨"FalseNotesModel", "noteOf", "(II)I"⟩, 34) := ⟨⟨by decide +kernel, by decide +kernel⟩, List.mem_of_getElem? (i := 1335) (by decide +kernel), List.mem_of_getElem? (i := 1602) (by decide +kernel), List.mem_of_getElem? (i := 1603) (by decide +kernel)⟩
theorem lw_p38 : lw_okq (⟨"FalseNotesModel", "of", "(II)I"⟩, 34) := ⟨⟨by decide +kernel, by decide +kernel⟩, List.mem_of_getElem? (i := 1335) (by decide +kernel), List.mem_of_getElem? (i := 1606) (by decide +kernel), List.mem_of_getElem? (i := 1607) (by decide +kernel)⟩
theorem lw_p39 : lw_okq (⟨"FalseNotesModel", "holderOf", "(II)I"⟩, 34) := ⟨⟨by decide +kernel, by decide +kernel⟩, List.mem_of_getElem? (i := 1335) (by decide +kernel), List.mem_of_getElem? (i := 1610) (by decide +kernel), List.mem_of_getElem? (i := 1611) (by decide +kernel)⟩
theorem lw_p40 : lw_okq (⟨"FalseNotesModel", "debtAt", "(II)I"⟩, 34) := ⟨⟨by decide +kernel, by decide +kernel⟩, List.mem_of_getElem? (i := 1335) (by decide +kernel), List.mem_of_getElem? (i := 1614) (by decide +kernel), List.mem_of_getElem? (i := 1615) (by decide +kernel)⟩
theorem lw_p41 : lw_okq (⟨"FalseNotesModel", "stands", "(IIII)V"⟩, 34) := ⟨⟨by decide +kernel, by decide +kernel⟩, List.mem_of_getElem? (i := 1335) (by decide +kernel), List.mem_of_getElem? (i := 1618) (by decide +kernel), List.mem_of_getElem? (i := 1619) (by decide +kernel)⟩
theorem lw_p42 : lw_okq (⟨"FalseNotesModel", "waiterOf", "(II)I"⟩, 34) := ⟨⟨by decide +kernel, by decide +kernel⟩, List.mem_of_getElem? (i := 1335) (by decide +kernel), List.mem_of_getElem? (i := 1622) (by decide +kernel), List.mem_of_getElem? (i := 1623) (by decide +kernel)⟩
theorem lw_p43 : lw_okq (⟨"FalseNotesModel", "wantSign", "(I)Z"⟩, 34) := ⟨⟨by decide +kernel, by decide +kernel⟩, List.mem_of_getElem? (i := 1335) (by decide +kernel), List.mem_of_getElem? (i := 1626) (by decide +kernel), List.mem_of_getElem? (i := 1627) (by decide +kernel)⟩
theorem lw_p44 : lw_okq (⟨"FalseNotesModel", "isSign", "(I)Z"⟩, 34) := ⟨⟨by decide +kernel, by decide +kernel⟩, List.mem_of_getElem? (i := 1335) (by decide +kernel), List.mem_of_getElem? (i := 1630) (by decide +kernel), List.mem_of_getElem? (i := 1631) (by decide +kernel)⟩
theorem lw_p45 : lw_okq (⟨"FalseNotesModel", "taken", "(I)I"⟩, 34) := ⟨⟨by decide +kernel, by decide +kernel⟩, List.mem_of_getElem? (i := 1335) (by decide +kernel), List.mem_of_getElem? (i := 1634) (by decide +kernel), List.mem_of_getElem? (i := 1635) (by decide +kernel)⟩
theorem lw_p46 : lw_okq (⟨"FalseNotesModel", "gives", "(I)I"⟩, 34) := ⟨⟨by decide +kernel, by decide +kernel⟩, List.mem_of_getElem? (i := 1335) (by decide +kernel), List.mem_of_getElem? (i := 1638) (by decide +kernel), List.mem_of_getElem? (i := 1639) (by decide +kernel)⟩
theorem lw_p47 : lw_okq (⟨"FalseNotesModel", "yearStep", "()Z"⟩, 34) := ⟨⟨by decide +kernel, by decide +kernel⟩, List.mem_of_getElem? (i := 1335) (by decide +kernel), List.mem_of_getElem? (i := 1646) (by decide +kernel), List.mem_of_getElem? (i := 1647) (by decide +kernel)⟩
def lw_privs_3 : List (MethodName × Nat) := [(⟨"FalseNotesModel", "aLine", "(I)Z"⟩, 34), (⟨"FalseNotesModel", "aDebt", "()Z"⟩, 34), (⟨"FalseNotesModel", "twoTo", "()Z"⟩, 34), (⟨"FalseNotesModel", "oldOne", "(III)Z"⟩, 34), (⟨"FalseNotesModel", "books", "(III)Z"⟩, 34), (⟨"FalseNotesModel", "noteOf", "(II)I"⟩, 34), (⟨"FalseNotesModel", "of", "(II)I"⟩, 34), (⟨"FalseNotesModel", "holderOf", "(II)I"⟩, 34), (⟨"FalseNotesModel", "debtAt", "(II)I"⟩, 34), (⟨"FalseNotesModel", "stands", "(IIII)V"⟩, 34), (⟨"FalseNotesModel", "waiterOf", "(II)I"⟩, 34), (⟨"FalseNotesModel", "wantSign", "(I)Z"⟩, 34), (⟨"FalseNotesModel", "isSign", "(I)Z"⟩, 34), (⟨"FalseNotesModel", "taken", "(I)I"⟩, 34), (⟨"FalseNotesModel", "gives", "(I)I"⟩, 34), (⟨"FalseNotesModel", "yearStep", "()Z"⟩, 34)]
theorem lw_r3 : ∀ q ∈ lw_privs_3, lw_okq q := List.forall_mem_cons.mpr ⟨lw_p32, List.forall_mem_cons.mpr ⟨lw_p33, List.forall_mem_cons.mpr ⟨lw_p34, List.forall_mem_cons.mpr ⟨lw_p35, List.forall_mem_cons.mpr ⟨lw_p36, List.forall_mem_cons.mpr ⟨lw_p37, List.forall_mem_cons.mpr ⟨lw_p38, List.forall_mem_cons.mpr ⟨lw_p39, List.forall_mem_cons.mpr ⟨lw_p40, List.forall_mem_cons.mpr ⟨lw_p41, List.forall_mem_cons.mpr ⟨lw_p42, List.forall_mem_cons.mpr ⟨lw_p43, List.forall_mem_cons.mpr ⟨lw_p44, List.forall_mem_cons.mpr ⟨lw_p45, List.forall_mem_cons.mpr ⟨lw_p46, List.forall_mem_cons.mpr ⟨lw_p47, fun _ h => absurd h List.not_mem_nil⟩⟩⟩⟩⟩⟩⟩⟩⟩⟩⟩⟩⟩⟩⟩⟩
theorem lw_p48 : lw_okq (⟨"FalseNotesModel", "yearOrder", "(II)Z"⟩, 34) := ⟨⟨by decide +kernel, by decide +kernel⟩, List.mem_of_getElem? (i := 1335) (by decide +kernel), List.mem_of_getElem? (i := 1650) (by decide +kernel), List.mem_of_getElem? (i := 1651) (by decide +kernel)⟩
theorem lw_p49 : lw_okq (⟨"FalseNotesModel", "singerTo", "(I)Z"⟩, 34) := ⟨⟨by decide +kernel, by decide +kernel⟩, List.mem_of_getElem? (i := 1335) (by decide +kernel), List.mem_of_getElem? (i := 1654) (by decide +kernel), List.mem_of_getElem? (i := 1655) (by decide +kernel)⟩
theorem lw_p50 : lw_okq (⟨"FalseNotesModel", "test", "(I)Z"⟩, 34) := ⟨⟨by decide +kernel, by decide +kernel⟩, List.mem_of_getElem? (i := 1335) (by decide +kernel), List.mem_of_getElem? (i := 1658) (by decide +kernel), List.mem_of_getElem? (i := 1659) (by decide +kernel)⟩
theorem lw_p51 : lw_okq (⟨"FalseNotesModel", "notesHeld", "()I"⟩, 34) := ⟨⟨by decide +kernel, by decide +kernel⟩, List.mem_of_getElem? (i := 1335) (by decide +kernel), List.mem_of_getElem? (i := 1666) (by decide +kernel), List.mem_of_getElem? (i := 1667) (by decide +kernel)⟩
theorem lw_p52 : lw_okq (⟨"FalseNotesModel", "allOwed", "()I"⟩, 34) := ⟨⟨by decide +kernel, by decide +kernel⟩, List.mem_of_getElem? (i := 1335) (by decide +kernel), List.mem_of_getElem? (i := 1670) (by decide +kernel), List.mem_of_getElem? (i := 1671) (by decide +kernel)⟩
theorem lw_p53 : lw_okq (⟨"FalseNotesModel", "owesAll", "(I)I"⟩, 34) := ⟨⟨by decide +kernel, by decide +kernel⟩, List.mem_of_getElem? (i := 1335) (by decide +kernel), List.mem_of_getElem? (i := 1674) (by decide +kernel), List.mem_of_getElem? (i := 1675) (by decide +kernel)⟩
theorem lw_p54 : lw_okq (⟨"FalseNotesModel", "owes", "(II)I"⟩, 34) := ⟨⟨by decide +kernel, by decide +kernel⟩, List.mem_of_getElem? (i := 1335) (by decide +kernel), List.mem_of_getElem? (i := 1678) (by decide +kernel), List.mem_of_getElem? (i := 1679) (by decide +kernel)⟩
theorem lw_p55 : lw_okq (⟨"FalseNotesModel", "noted", "(II)I"⟩, 34) := ⟨⟨by decide +kernel, by decide +kernel⟩, List.mem_of_getElem? (i := 1335) (by decide +kernel), List.mem_of_getElem? (i := 1682) (by decide +kernel), List.mem_of_getElem? (i := 1683) (by decide +kernel)⟩
theorem lw_p56 : lw_okq (⟨"FalseNotesModel", "sumOf", "(I)I"⟩, 34) := ⟨⟨by decide +kernel, by decide +kernel⟩, List.mem_of_getElem? (i := 1335) (by decide +kernel), List.mem_of_getElem? (i := 1686) (by decide +kernel), List.mem_of_getElem? (i := 1687) (by decide +kernel)⟩
theorem lw_p57 : lw_okq (⟨"FalseNotesModel", "isSinger", "(I)Z"⟩, 34) := ⟨⟨by decide +kernel, by decide +kernel⟩, List.mem_of_getElem? (i := 1335) (by decide +kernel), List.mem_of_getElem? (i := 1694) (by decide +kernel), List.mem_of_getElem? (i := 1695) (by decide +kernel)⟩
theorem lw_p58 : lw_okq (⟨"FalseNotesModel", "orNone", "(I)I"⟩, 34) := ⟨⟨by decide +kernel, by decide +kernel⟩, List.mem_of_getElem? (i := 1335) (by decide +kernel), List.mem_of_getElem? (i := 1698) (by decide +kernel), List.mem_of_getElem? (i := 1699) (by decide +kernel)⟩
theorem lw_p59 : lw_okq (⟨"FalseNotesModel", "owedAll", "(I)I"⟩, 34) := ⟨⟨by decide +kernel, by decide +kernel⟩, List.mem_of_getElem? (i := 1335) (by decide +kernel), List.mem_of_getElem? (i := 1702) (by decide +kernel), List.mem_of_getElem? (i := 1703) (by decide +kernel)⟩
theorem lw_p60 : lw_okq (⟨"FalseNotesModel", "isNote", "(II)Z"⟩, 34) := ⟨⟨by decide +kernel, by decide +kernel⟩, List.mem_of_getElem? (i := 1335) (by decide +kernel), List.mem_of_getElem? (i := 1710) (by decide +kernel), List.mem_of_getElem? (i := 1711) (by decide +kernel)⟩
theorem lw_p61 : lw_okq (⟨"FalseNotesModel", "isLiving", "(I)Z"⟩, 34) := ⟨⟨by decide +kernel, by decide +kernel⟩, List.mem_of_getElem? (i := 1335) (by decide +kernel), List.mem_of_getElem? (i := 1730) (by decide +kernel), List.mem_of_getElem? (i := 1731) (by decide +kernel)⟩
theorem lw_p62 : lw_okq (⟨"FalseNotesModel", "isDead", "(I)Z"⟩, 34) := ⟨⟨by decide +kernel, by decide +kernel⟩, List.mem_of_getElem? (i := 1335) (by decide +kernel), List.mem_of_getElem? (i := 1734) (by decide +kernel), List.mem_of_getElem? (i := 1735) (by decide +kernel)⟩
theorem lw_p63 : lw_okq (⟨"FalseNotesModel", "sungAt", "(II)I"⟩, 34) := ⟨⟨by decide +kernel, by decide +kernel⟩, List.mem_of_getElem? (i := 1335) (by decide +kernel), List.mem_of_getElem? (i := 1738) (by decide +kernel), List.mem_of_getElem? (i := 1739) (by decide +kernel)⟩
def lw_privs_4 : List (MethodName × Nat) := [(⟨"FalseNotesModel", "yearOrder", "(II)Z"⟩, 34), (⟨"FalseNotesModel", "singerTo", "(I)Z"⟩, 34), (⟨"FalseNotesModel", "test", "(I)Z"⟩, 34), (⟨"FalseNotesModel", "notesHeld", "()I"⟩, 34), (⟨"FalseNotesModel", "allOwed", "()I"⟩, 34), (⟨"FalseNotesModel", "owesAll", "(I)I"⟩, 34), (⟨"FalseNotesModel", "owes", "(II)I"⟩, 34), (⟨"FalseNotesModel", "noted", "(II)I"⟩, 34), (⟨"FalseNotesModel", "sumOf", "(I)I"⟩, 34), (⟨"FalseNotesModel", "isSinger", "(I)Z"⟩, 34), (⟨"FalseNotesModel", "orNone", "(I)I"⟩, 34), (⟨"FalseNotesModel", "owedAll", "(I)I"⟩, 34), (⟨"FalseNotesModel", "isNote", "(II)Z"⟩, 34), (⟨"FalseNotesModel", "isLiving", "(I)Z"⟩, 34), (⟨"FalseNotesModel", "isDead", "(I)Z"⟩, 34), (⟨"FalseNotesModel", "sungAt", "(II)I"⟩, 34)]
theorem lw_r4 : ∀ q ∈ lw_privs_4, lw_okq q := List.forall_mem_cons.mpr ⟨lw_p48, List.forall_mem_cons.mpr ⟨lw_p49, List.forall_mem_cons.mpr ⟨lw_p50, List.forall_mem_cons.mpr ⟨lw_p51, List.forall_mem_cons.mpr ⟨lw_p52, List.forall_mem_cons.mpr ⟨lw_p53, List.forall_mem_cons.mpr ⟨lw_p54, List.forall_mem_cons.mpr ⟨lw_p55, List.forall_mem_cons.mpr ⟨lw_p56, List.forall_mem_cons.mpr ⟨lw_p57, List.forall_mem_cons.mpr ⟨lw_p58, List.forall_mem_cons.mpr ⟨lw_p59, List.forall_mem_cons.mpr ⟨lw_p60, List.forall_mem_cons.mpr ⟨lw_p61, List.forall_mem_cons.mpr ⟨lw_p62, List.forall_mem_cons.mpr ⟨lw_p63, fun _ h => absurd h List.not_mem_nil⟩⟩⟩⟩⟩⟩⟩⟩⟩⟩⟩⟩⟩⟩⟩⟩
theorem lw_p64 : lw_okq (⟨"FalseNotesModel", "areTwo", "(II)Z"⟩, 34) := ⟨⟨by decide +kernel, by decide +kernel⟩, List.mem_of_getElem? (i := 1335) (by decide +kernel), List.mem_of_getElem? (i := 1750) (by decide +kernel), List.mem_of_getElem? (i := 1751) (by decide +kernel)⟩
theorem lw_p65 : lw_okq (⟨"FalseNotesModel", "lends", "(III)Z"⟩, 34) := ⟨⟨by decide +kernel, by decide +kernel⟩, List.mem_of_getElem? (i := 1335) (by decide +kernel), List.mem_of_getElem? (i := 1754) (by decide +kernel), List.mem_of_getElem? (i := 1755) (by decide +kernel)⟩
theorem lw_p66 : lw_okq (⟨"FalseNotesModel", "gets", "(III)V"⟩, 34) := ⟨⟨by decide +kernel, by decide +kernel⟩, List.mem_of_getElem? (i := 1335) (by decide +kernel), List.mem_of_getElem? (i := 1758) (by decide +kernel), List.mem_of_getElem? (i := 1759) (by decide +kernel)⟩
theorem lw_p67 : lw_okq (⟨"FalseNotesModel", "pays", "(III)Z"⟩, 34) := ⟨⟨by decide +kernel, by decide +kernel⟩, List.mem_of_getElem? (i := 1335) (by decide +kernel), List.mem_of_getElem? (i := 1767) (by decide +kernel), List.mem_of_getElem? (i := 1768) (by decide +kernel)⟩
theorem lw_p68 : lw_okq (⟨"FalseNotesModel", "paysSome", "(III)V"⟩, 34) := ⟨⟨by decide +kernel, by decide +kernel⟩, List.mem_of_getElem? (i := 1335) (by decide +kernel), List.mem_of_getElem? (i := 1771) (by decide +kernel), List.mem_of_getElem? (i := 1772) (by decide +kernel)⟩
theorem lw_p69 : lw_okq (⟨"FalseNotesModel", "goesOff", "(III)V"⟩, 34) := ⟨⟨by decide +kernel, by decide +kernel⟩, List.mem_of_getElem? (i := 1335) (by decide +kernel), List.mem_of_getElem? (i := 1775) (by decide +kernel), List.mem_of_getElem? (i := 1776) (by decide +kernel)⟩
theorem lw_p70 : lw_okq (⟨"FalseNotesModel", "fills", "()V"⟩, 34) := ⟨⟨by decide +kernel, by decide +kernel⟩, List.mem_of_getElem? (i := 1335) (by decide +kernel), List.mem_of_getElem? (i := 1779) (by decide +kernel), List.mem_of_getElem? (i := 1780) (by decide +kernel)⟩
theorem lw_p71 : lw_okq (⟨"FalseNotesModel", "leaves", "(I)I"⟩, 34) := ⟨⟨by decide +kernel, by decide +kernel⟩, List.mem_of_getElem? (i := 1335) (by decide +kernel), List.mem_of_getElem? (i := 1783) (by decide +kernel), List.mem_of_getElem? (i := 1784) (by decide +kernel)⟩
theorem lw_p72 : lw_okq (⟨"FalseNotesModel", "chordOf", "(II)I"⟩, 34) := ⟨⟨by decide +kernel, by decide +kernel⟩, List.mem_of_getElem? (i := 1335) (by decide +kernel), List.mem_of_getElem? (i := 1791) (by decide +kernel), List.mem_of_getElem? (i := 1792) (by decide +kernel)⟩
theorem lw_p73 : lw_okq (⟨"FalseNotesModel", "sundays", "()Z"⟩, 34) := ⟨⟨by decide +kernel, by decide +kernel⟩, List.mem_of_getElem? (i := 1335) (by decide +kernel), List.mem_of_getElem? (i := 1799) (by decide +kernel), List.mem_of_getElem? (i := 1800) (by decide +kernel)⟩
theorem lw_p74 : lw_okq (⟨"FalseNotesModel", "grown", "(I)I"⟩, 34) := ⟨⟨by decide +kernel, by decide +kernel⟩, List.mem_of_getElem? (i := 1335) (by decide +kernel), List.mem_of_getElem? (i := 1803) (by decide +kernel), List.mem_of_getElem? (i := 1804) (by decide +kernel)⟩
theorem lw_p75 : lw_okq (⟨"FalseNotesModel", "colds", "(I)I"⟩, 34) := ⟨⟨by decide +kernel, by decide +kernel⟩, List.mem_of_getElem? (i := 1335) (by decide +kernel), List.mem_of_getElem? (i := 1812) (by decide +kernel), List.mem_of_getElem? (i := 1813) (by decide +kernel)⟩
theorem lw_p76 : lw_okq (⟨"FalseNotesModel", "dies", "(I)V"⟩, 34) := ⟨⟨by decide +kernel, by decide +kernel⟩, List.mem_of_getElem? (i := 1335) (by decide +kernel), List.mem_of_getElem? (i := 1827) (by decide +kernel), List.mem_of_getElem? (i := 1828) (by decide +kernel)⟩
theorem lw_p77 : lw_okq (⟨"FalseNotesModel", "inherits", "(III)V"⟩, 34) := ⟨⟨by decide +kernel, by decide +kernel⟩, List.mem_of_getElem? (i := 1335) (by decide +kernel), List.mem_of_getElem? (i := 1831) (by decide +kernel), List.mem_of_getElem? (i := 1832) (by decide +kernel)⟩
theorem lw_p78 : lw_okq (⟨"FalseNotesModel", "livingMany", "()I"⟩, 34) := ⟨⟨by decide +kernel, by decide +kernel⟩, List.mem_of_getElem? (i := 1335) (by decide +kernel), List.mem_of_getElem? (i := 1835) (by decide +kernel), List.mem_of_getElem? (i := 1836) (by decide +kernel)⟩
theorem lw_p79 : lw_okq (⟨"FalseNotesModel", "balanceOf", "(I)I"⟩, 34) := ⟨⟨by decide +kernel, by decide +kernel⟩, List.mem_of_getElem? (i := 1335) (by decide +kernel), List.mem_of_getElem? (i := 1860) (by decide +kernel), List.mem_of_getElem? (i := 1861) (by decide +kernel)⟩
def lw_privs_5 : List (MethodName × Nat) := [(⟨"FalseNotesModel", "areTwo", "(II)Z"⟩, 34), (⟨"FalseNotesModel", "lends", "(III)Z"⟩, 34), (⟨"FalseNotesModel", "gets", "(III)V"⟩, 34), (⟨"FalseNotesModel", "pays", "(III)Z"⟩, 34), (⟨"FalseNotesModel", "paysSome", "(III)V"⟩, 34), (⟨"FalseNotesModel", "goesOff", "(III)V"⟩, 34), (⟨"FalseNotesModel", "fills", "()V"⟩, 34), (⟨"FalseNotesModel", "leaves", "(I)I"⟩, 34), (⟨"FalseNotesModel", "chordOf", "(II)I"⟩, 34), (⟨"FalseNotesModel", "sundays", "()Z"⟩, 34), (⟨"FalseNotesModel", "grown", "(I)I"⟩, 34), (⟨"FalseNotesModel", "colds", "(I)I"⟩, 34), (⟨"FalseNotesModel", "dies", "(I)V"⟩, 34), (⟨"FalseNotesModel", "inherits", "(III)V"⟩, 34), (⟨"FalseNotesModel", "livingMany", "()I"⟩, 34), (⟨"FalseNotesModel", "balanceOf", "(I)I"⟩, 34)]
theorem lw_r5 : ∀ q ∈ lw_privs_5, lw_okq q := List.forall_mem_cons.mpr ⟨lw_p64, List.forall_mem_cons.mpr ⟨lw_p65, List.forall_mem_cons.mpr ⟨lw_p66, List.forall_mem_cons.mpr ⟨lw_p67, List.forall_mem_cons.mpr ⟨lw_p68, List.forall_mem_cons.mpr ⟨lw_p69, List.forall_mem_cons.mpr ⟨lw_p70, List.forall_mem_cons.mpr ⟨lw_p71, List.forall_mem_cons.mpr ⟨lw_p72, List.forall_mem_cons.mpr ⟨lw_p73, List.forall_mem_cons.mpr ⟨lw_p74, List.forall_mem_cons.mpr ⟨lw_p75, List.forall_mem_cons.mpr ⟨lw_p76, List.forall_mem_cons.mpr ⟨lw_p77, List.forall_mem_cons.mpr ⟨lw_p78, List.forall_mem_cons.mpr ⟨lw_p79, fun _ h => absurd h List.not_mem_nil⟩⟩⟩⟩⟩⟩⟩⟩⟩⟩⟩⟩⟩⟩⟩⟩
theorem lw_p80 : lw_okq (⟨"FalseNotesModel", "unevenSet", "()I"⟩, 34) := ⟨⟨by decide +kernel, by decide +kernel⟩, List.mem_of_getElem? (i := 1335) (by decide +kernel), List.mem_of_getElem? (i := 1868) (by decide +kernel), List.mem_of_getElem? (i := 1869) (by decide +kernel)⟩
theorem lw_p81 : lw_okq (⟨"FalseNotesModel", "partsOf", "()I"⟩, 34) := ⟨⟨by decide +kernel, by decide +kernel⟩, List.mem_of_getElem? (i := 1335) (by decide +kernel), List.mem_of_getElem? (i := 1872) (by decide +kernel), List.mem_of_getElem? (i := 1873) (by decide +kernel)⟩
theorem lw_p82 : lw_okq (⟨"FalseNotesModel", "isIn", "(II)Z"⟩, 34) := ⟨⟨by decide +kernel, by decide +kernel⟩, List.mem_of_getElem? (i := 1335) (by decide +kernel), List.mem_of_getElem? (i := 1876) (by decide +kernel), List.mem_of_getElem? (i := 1877) (by decide +kernel)⟩
theorem lw_p83 : lw_okq (⟨"FalseNotesModel", "lackOf", "(I)I"⟩, 34) := ⟨⟨by decide +kernel, by decide +kernel⟩, List.mem_of_getElem? (i := 1335) (by decide +kernel), List.mem_of_getElem? (i := 1888) (by decide +kernel), List.mem_of_getElem? (i := 1889) (by decide +kernel)⟩
theorem lw_p84 : lw_okq (⟨"FalseNotesModel", "tellsBy", "(JJ)Z"⟩, 34) := ⟨⟨by decide +kernel, by decide +kernel⟩, List.mem_of_getElem? (i := 1335) (by decide +kernel), List.mem_of_getElem? (i := 1908) (by decide +kernel), List.mem_of_getElem? (i := 1909) (by decide +kernel)⟩
theorem lw_p85 : lw_okq (⟨"FalseNotesModel", "roundOf", "()I"⟩, 34) := ⟨⟨by decide +kernel, by decide +kernel⟩, List.mem_of_getElem? (i := 1335) (by decide +kernel), List.mem_of_getElem? (i := 1916) (by decide +kernel), List.mem_of_getElem? (i := 1917) (by decide +kernel)⟩
theorem lw_p86 : lw_okq (⟨"FalseNotesModel", "laysRound", "(I)Z"⟩, 34) := ⟨⟨by decide +kernel, by decide +kernel⟩, List.mem_of_getElem? (i := 1335) (by decide +kernel), List.mem_of_getElem? (i := 1920) (by decide +kernel), List.mem_of_getElem? (i := 1921) (by decide +kernel)⟩
theorem lw_p87 : lw_okq (⟨"FalseNotesModel", "nextAt", "(I)I"⟩, 34) := ⟨⟨by decide +kernel, by decide +kernel⟩, List.mem_of_getElem? (i := 1335) (by decide +kernel), List.mem_of_getElem? (i := 1924) (by decide +kernel), List.mem_of_getElem? (i := 1925) (by decide +kernel)⟩
theorem lw_p88 : lw_okq (⟨"FalseNotesModel", "askOf", "()I"⟩, 34) := ⟨⟨by decide +kernel, by decide +kernel⟩, List.mem_of_getElem? (i := 1335) (by decide +kernel), List.mem_of_getElem? (i := 1940) (by decide +kernel), List.mem_of_getElem? (i := 1941) (by decide +kernel)⟩
theorem lw_p89 : lw_okq (⟨"FalseNotesModel", "freeOf", "(I)I"⟩, 34) := ⟨⟨by decide +kernel, by decide +kernel⟩, List.mem_of_getElem? (i := 1335) (by decide +kernel), List.mem_of_getElem? (i := 1960) (by decide +kernel), List.mem_of_getElem? (i := 1961) (by decide +kernel)⟩
theorem lw_p90 : lw_okq (⟨"FalseNotesModel", "wrongTray", "(II)I"⟩, 34) := ⟨⟨by decide +kernel, by decide +kernel⟩, List.mem_of_getElem? (i := 1335) (by decide +kernel), List.mem_of_getElem? (i := 1980) (by decide +kernel), List.mem_of_getElem? (i := 1981) (by decide +kernel)⟩
theorem lw_p91 : lw_okq (⟨"FalseNotesModel", "offBy", "(III)I"⟩, 34) := ⟨⟨by decide +kernel, by decide +kernel⟩, List.mem_of_getElem? (i := 1335) (by decide +kernel), List.mem_of_getElem? (i := 1990) (by decide +kernel), List.mem_of_getElem? (i := 1991) (by decide +kernel)⟩
theorem lw_p92 : lw_okq (⟨"FalseNotesModel", "grownBy", "(II)I"⟩, 34) := ⟨⟨by decide +kernel, by decide +kernel⟩, List.mem_of_getElem? (i := 1335) (by decide +kernel), List.mem_of_getElem? (i := 2009) (by decide +kernel), List.mem_of_getElem? (i := 2010) (by decide +kernel)⟩
theorem lw_p93 : lw_okq (⟨"FalseNotesModel", "lives", "(I)V"⟩, 34) := ⟨⟨by decide +kernel, by decide +kernel⟩, List.mem_of_getElem? (i := 1335) (by decide +kernel), List.mem_of_getElem? (i := 2030) (by decide +kernel), List.mem_of_getElem? (i := 2031) (by decide +kernel)⟩
theorem lw_p94 : lw_okq (⟨"FalseNotesModel", "does", "(I)Z"⟩, 34) := ⟨⟨by decide +kernel, by decide +kernel⟩, List.mem_of_getElem? (i := 1335) (by decide +kernel), List.mem_of_getElem? (i := 2034) (by decide +kernel), List.mem_of_getElem? (i := 2035) (by decide +kernel)⟩
theorem lw_p95 : lw_okq (⟨"FalseNotesModel", "lendsBy", "(III)Z"⟩, 34) := ⟨⟨by decide +kernel, by decide +kernel⟩, List.mem_of_getElem? (i := 1335) (by decide +kernel), List.mem_of_getElem? (i := 2038) (by decide +kernel), List.mem_of_getElem? (i := 2039) (by decide +kernel)⟩
def lw_privs_6 : List (MethodName × Nat) := [(⟨"FalseNotesModel", "unevenSet", "()I"⟩, 34), (⟨"FalseNotesModel", "partsOf", "()I"⟩, 34), (⟨"FalseNotesModel", "isIn", "(II)Z"⟩, 34), (⟨"FalseNotesModel", "lackOf", "(I)I"⟩, 34), (⟨"FalseNotesModel", "tellsBy", "(JJ)Z"⟩, 34), (⟨"FalseNotesModel", "roundOf", "()I"⟩, 34), (⟨"FalseNotesModel", "laysRound", "(I)Z"⟩, 34), (⟨"FalseNotesModel", "nextAt", "(I)I"⟩, 34), (⟨"FalseNotesModel", "askOf", "()I"⟩, 34), (⟨"FalseNotesModel", "freeOf", "(I)I"⟩, 34), (⟨"FalseNotesModel", "wrongTray", "(II)I"⟩, 34), (⟨"FalseNotesModel", "offBy", "(III)I"⟩, 34), (⟨"FalseNotesModel", "grownBy", "(II)I"⟩, 34), (⟨"FalseNotesModel", "lives", "(I)V"⟩, 34), (⟨"FalseNotesModel", "does", "(I)Z"⟩, 34), (⟨"FalseNotesModel", "lendsBy", "(III)Z"⟩, 34)]
theorem lw_r6 : ∀ q ∈ lw_privs_6, lw_okq q := List.forall_mem_cons.mpr ⟨lw_p80, List.forall_mem_cons.mpr ⟨lw_p81, List.forall_mem_cons.mpr ⟨lw_p82, List.forall_mem_cons.mpr ⟨lw_p83, List.forall_mem_cons.mpr ⟨lw_p84, List.forall_mem_cons.mpr ⟨lw_p85, List.forall_mem_cons.mpr ⟨lw_p86, List.forall_mem_cons.mpr ⟨lw_p87, List.forall_mem_cons.mpr ⟨lw_p88, List.forall_mem_cons.mpr ⟨lw_p89, List.forall_mem_cons.mpr ⟨lw_p90, List.forall_mem_cons.mpr ⟨lw_p91, List.forall_mem_cons.mpr ⟨lw_p92, List.forall_mem_cons.mpr ⟨lw_p93, List.forall_mem_cons.mpr ⟨lw_p94, List.forall_mem_cons.mpr ⟨lw_p95, fun _ h => absurd h List.not_mem_nil⟩⟩⟩⟩⟩⟩⟩⟩⟩⟩⟩⟩⟩⟩⟩⟩
theorem lw_p96 : lw_okq (⟨"FalseNotesModel", "paysBy", "(ZI)Z"⟩, 34) := ⟨⟨by decide +kernel, by decide +kernel⟩, List.mem_of_getElem? (i := 1335) (by decide +kernel), List.mem_of_getElem? (i := 2042) (by decide +kernel), List.mem_of_getElem? (i := 2043) (by decide +kernel)⟩
theorem lw_p97 : lw_okq (⟨"FalseNotesModel", "lendsAny", "()Z"⟩, 34) := ⟨⟨by decide +kernel, by decide +kernel⟩, List.mem_of_getElem? (i := 1335) (by decide +kernel), List.mem_of_getElem? (i := 2046) (by decide +kernel), List.mem_of_getElem? (i := 2047) (by decide +kernel)⟩
theorem lw_p98 : lw_okq (⟨"FalseNotesModel", "draw", "(I)I"⟩, 34) := ⟨⟨by decide +kernel, by decide +kernel⟩, List.mem_of_getElem? (i := 1335) (by decide +kernel), List.mem_of_getElem? (i := 2050) (by decide +kernel), List.mem_of_getElem? (i := 2051) (by decide +kernel)⟩
theorem lw_p99 : lw_okq (⟨"FalseNotesModel", "livingAt", "(I)I"⟩, 34) := ⟨⟨by decide +kernel, by decide +kernel⟩, List.mem_of_getElem? (i := 1335) (by decide +kernel), List.mem_of_getElem? (i := 2055) (by decide +kernel), List.mem_of_getElem? (i := 2056) (by decide +kernel)⟩
theorem lw_p100 : lw_okq (⟨"FalseNotesModel", "holds", "(I)Z"⟩, 34) := ⟨⟨by decide +kernel, by decide +kernel⟩, List.mem_of_getElem? (i := 1335) (by decide +kernel), List.mem_of_getElem? (i := 2059) (by decide +kernel), List.mem_of_getElem? (i := 2060) (by decide +kernel)⟩
theorem lw_p101 : lw_okq (⟨"FalseNotesModel", "behindEnds", "(I)I"⟩, 34) := ⟨⟨by decide +kernel, by decide +kernel⟩, List.mem_of_getElem? (i := 1335) (by decide +kernel), List.mem_of_getElem? (i := 2063) (by decide +kernel), List.mem_of_getElem? (i := 2064) (by decide +kernel)⟩
theorem lw_p102 : lw_okq (⟨"FalseNotesModel", "copies", "(II)V"⟩, 34) := ⟨⟨by decide +kernel, by decide +kernel⟩, List.mem_of_getElem? (i := 1335) (by decide +kernel), List.mem_of_getElem? (i := 2080) (by decide +kernel), List.mem_of_getElem? (i := 2081) (by decide +kernel)⟩
def lw_privs_7 : List (MethodName × Nat) := [(⟨"FalseNotesModel", "paysBy", "(ZI)Z"⟩, 34), (⟨"FalseNotesModel", "lendsAny", "()Z"⟩, 34), (⟨"FalseNotesModel", "draw", "(I)I"⟩, 34), (⟨"FalseNotesModel", "livingAt", "(I)I"⟩, 34), (⟨"FalseNotesModel", "holds", "(I)Z"⟩, 34), (⟨"FalseNotesModel", "behindEnds", "(I)I"⟩, 34), (⟨"FalseNotesModel", "copies", "(II)V"⟩, 34)]
theorem lw_r7 : ∀ q ∈ lw_privs_7, lw_okq q := List.forall_mem_cons.mpr ⟨lw_p96, List.forall_mem_cons.mpr ⟨lw_p97, List.forall_mem_cons.mpr ⟨lw_p98, List.forall_mem_cons.mpr ⟨lw_p99, List.forall_mem_cons.mpr ⟨lw_p100, List.forall_mem_cons.mpr ⟨lw_p101, List.forall_mem_cons.mpr ⟨lw_p102, fun _ h => absurd h List.not_mem_nil⟩⟩⟩⟩⟩⟩⟩
def lw_privs : List (MethodName × Nat) := lw_privs_1 ++ (lw_privs_2 ++ (lw_privs_3 ++ (lw_privs_4 ++ (lw_privs_5 ++ (lw_privs_6 ++ (lw_privs_7))))))
def lw_tbl : List Cond := k2_sels lw_privs ++ tables_1
theorem lw_privs_ok : ∀ q ∈ lw_privs, lw_okq q := by
  show ∀ q ∈ lw_privs_1 ++ (lw_privs_2 ++ (lw_privs_3 ++ (lw_privs_4 ++ (lw_privs_5 ++ (lw_privs_6 ++ (lw_privs_7)))))), lw_okq q
  exact List.forall_mem_append.mpr ⟨lw_r1, List.forall_mem_append.mpr ⟨lw_r2, List.forall_mem_append.mpr ⟨lw_r3, List.forall_mem_append.mpr ⟨lw_r4, List.forall_mem_append.mpr ⟨lw_r5, List.forall_mem_append.mpr ⟨lw_r6, lw_r7⟩⟩⟩⟩⟩⟩
-- ===== end of PART A; then your names; then what follows =====
/-! THE CLAIM OUT OF ONE WALK OF THE LAW'S BODY. Your part is whole_start (and what it stands on); all else here is the same for every law, but numbers. -/
end
section
abbrev AV : Type := Value × Nat
abbrev Mem : Type := Nat → Nat → Nat → Int
abbrev MI : Type := MethodName × ByteArray × Nat × Option FieldType × Nat × Nat × Nat × List Nat
abbrev OpT : Type := Nat × Instr × Nat × Nat × Int × Nat × MI
abbrev LsT : Type := List (Nat × AV)
abbrev EnvT : Type := va_G × (Nat → Nat → Nat) × (Nat → ClassId) × (Nat → Nat) × (Nat → Nat) × Nat
def iN (z : Int) : Int32 := Int32.ofInt z
def lI (z : Int) : Int64 := Int64.ofInt z
def iR (x y : Int32) : Int32 := x - x / y * y
def lR (x y : Int64) : Int64 := x - x / y * y
def upd3 (M : Mem) (r c k : Nat) (v : Int) : Mem := fun r' c' k' => if r' = r ∧ c' = c ∧ k' = k then v else M r' c' k'
def updC (M : Mem) (r c : Nat) (f : Nat → Int) : Mem := fun r' c' => if r' = r ∧ c' = c then f else M r' c'
def toI (v : AV) : Int32 := match v.1 with
  | .int x => x
  | _ => 0
def toL (v : AV) : Int64 := match v.1 with
  | .long x => x
  | _ => 0
def toR (v : AV) : Nat := match v.1 with
  | .ref x => x
  | _ => 0
def lget : LsT → Nat → Option AV
  | [], _ => none
  | (j, v) :: t, k => if j = k then some v else lget t k
def lset (ls : LsT) (k : Nat) (v : AV) : LsT := (k, v) :: ls.filter (fun q => !(q.1 == k) && !(q.1 + 1 == k && q.2.1.category == 2))
def lset2 (ls : LsT) (k : Nat) (v : AV) : LsT := (k, v) :: ls.filter (fun q => !(q.1 == k) && (!(q.1 == k + 1) && !(q.1 + 1 == k && q.2.1.category == 2)))
def lpick (ls : LsT) : List Nat → Option LsT
  | [] => some []
  | k :: ks => match lget ls k with
    | none => none
    | some v => match lpick ls ks with
      | none => none
      | some r => some ((k, v) :: r)
abbrev StR : Type := Option (LsT × List AV)
def sK (ls : LsT) (st : List AV) (v : Value) : StR := some (ls, (v, 0) :: st)
def sLoadI (ls : LsT) (st : List AV) (k : Nat) : StR := match lget ls k with
  | some (.int x, _) => some (ls, (.int x, 0) :: st)
  | _ => none
def sLoadL (ls : LsT) (st : List AV) (k : Nat) : StR := match lget ls k with
  | some (.long x, _) => some (ls, (.long x, 0) :: st)
  | _ => none
def sLoadA (ls : LsT) (st : List AV) (k : Nat) : StR := match lget ls k with
  | some (.ref x, d) => some (ls, (.ref x, d) :: st)
  | _ => none
def sStoI (ls : LsT) (st : List AV) (k : Nat) : StR := match st with
  | (.int x, _) :: t => some (lset ls k (.int x, 0), t)
  | _ => none
def sStoL (ls : LsT) (st : List AV) (k : Nat) : StR := match st with
  | (.long x, _) :: t => some (lset2 ls k (.long x, 0), t)
  | _ => none
def sStoA (ls : LsT) (st : List AV) (k : Nat) : StR := match st with
  | (.ref x, d) :: t => some (lset ls k (.ref x, d), t)
  | _ => none
def sInc (ls : LsT) (st : List AV) (k : Nat) (n : Int) : StR := match lget ls k with
  | some (.int x, _) => some (lset ls k (.int (x + iN n), 0), st)
  | _ => none
def sBin (f : Int32 → Int32 → Int32) (ls : LsT) (st : List AV) : StR := match st with
  | (.int y, _) :: (.int x, _) :: t => some (ls, (.int (f x y), 0) :: t)
  | _ => none
def sBinL (f : Int64 → Int64 → Int64) (ls : LsT) (st : List AV) : StR := match st with
  | (.long y, _) :: (.long x, _) :: t => some (ls, (.long (f x y), 0) :: t)
  | _ => none
def sShL (f : Int64 → Int32 → Int64) (ls : LsT) (st : List AV) : StR := match st with
  | (.int y, _) :: (.long x, _) :: t => some (ls, (.long (f x y), 0) :: t)
  | _ => none
def sUn (f : Int32 → Int32) (ls : LsT) (st : List AV) : StR := match st with
  | (.int x, _) :: t => some (ls, (.int (f x), 0) :: t)
  | _ => none
def sIL (ls : LsT) (st : List AV) : StR := match st with
  | (.int x, _) :: t => some (ls, (.long x.toInt64, 0) :: t)
  | _ => none
def sLI (ls : LsT) (st : List AV) : StR := match st with
  | (.long x, _) :: t => some (ls, (.int x.toInt32, 0) :: t)
  | _ => none
def sCmp (ls : LsT) (st : List AV) : StR := match st with
  | (.long y, _) :: (.long x, _) :: t => some (ls, (.int (lg_cmp x y), 0) :: t)
  | _ => none
def sDup (ls : LsT) (st : List AV) : StR := match st with
  | (.int x, d) :: t => some (ls, (.int x, d) :: (.int x, d) :: t)
  | (.ref x, d) :: t => some (ls, (.ref x, d) :: (.ref x, d) :: t)
  | _ => none
def sPop (ls : LsT) (st : List AV) : StR := match st with
  | (.int _, _) :: t => some (ls, t)
  | _ => none
def sDup2 (ls : LsT) (st : List AV) : StR := match st with
  | (.int x, d) :: (.ref y, d') :: t => some (ls, (.int x, d) :: (.ref y, d') :: (.int x, d) :: (.ref y, d') :: t)
  | _ => none
/-- what leaves memory alone and asks for nothing -/
def stepS (ins : Instr) (aux : Nat) (z : Int) (ls : LsT) (st : List AV) : StR := match ins with
  | .iconst n => sK ls st (.int (iN n))
  | .bipush n => sK ls st (.int (iN n))
  | .sipush n => sK ls st (.int (iN n))
  | .lconst n => sK ls st (.long (lI (n : Nat)))
  | .ldc _ => if aux = 1 then sK ls st (.int (iN z)) else if aux = 2 then some (ls, (.ref z.toNat, 999) :: st) else none
  | .ldc_w _ => if aux = 1 then sK ls st (.int (iN z)) else none
  | .ldc2_w _ => if aux = 1 then sK ls st (.long (lI z)) else none
  | .iload k => sLoadI ls st k
  | .iload_n k => sLoadI ls st k
  | .lload k => sLoadL ls st k
  | .lload_n k => sLoadL ls st k
  | .aload k => sLoadA ls st k
  | .aload_n k => sLoadA ls st k
  | .istore k => sStoI ls st k
  | .istore_n k => sStoI ls st k
  | .lstore k => sStoL ls st k
  | .lstore_n k => sStoL ls st k
  | .astore k => sStoA ls st k
  | .astore_n k => sStoA ls st k
  | .iinc k n => sInc ls st k n
  | .iadd => sBin (fun x y => x + y) ls st
  | .isub => sBin (fun x y => x - y) ls st
  | .imul => sBin (fun x y => x * y) ls st
  | .iand => sBin (fun x y => x &&& y) ls st
  | .ior => sBin (fun x y => x ||| y) ls st
  | .ixor => sBin (fun x y => x ^^^ y) ls st
  | .ishl => sBin (fun x y => x <<< (y &&& 31)) ls st
  | .ishr => sBin (fun x y => x >>> (y &&& 31)) ls st
  | .iushr => sBin (fun x y => (x.toUInt32 >>> (y.toUInt32 &&& Int32.toUInt32 31)).toInt32) ls st
  | .ineg => sUn (fun x => -x) ls st
  | .i2b => sUn (fun x => x.toInt8.toInt32) ls st
  | .i2s => sUn (fun x => x.toInt16.toInt32) ls st
  | .i2c => sUn (fun x => (x.toUInt32 % 65536).toInt32) ls st
  | .ladd => sBinL (fun x y => x + y) ls st
  | .lsub => sBinL (fun x y => x - y) ls st
  | .lmul => sBinL (fun x y => x * y) ls st
  | .land => sBinL (fun x y => x &&& y) ls st
  | .lor => sBinL (fun x y => x ||| y) ls st
  | .lshl => sShL (fun x y => x <<< (y.toInt64 &&& 63)) ls st
  | .i2l => sIL ls st
  | .l2i => sLI ls st
  | .lcmp => sCmp ls st
  | .dup => sDup ls st
  | .dup2 => sDup2 ls st
  | .pop => sPop ls st
  | _ => none
end
section
def T_Choir : u_T := fun k => match k with
  | 0 => ("FalseNotes$Choir", "names", "[J", true)
  | 1 => ("FalseNotes$Choir", "purses", "[I", true)
  | 2 => ("FalseNotes$Choir", "heirs", "[I", true)
  | 3 => ("FalseNotes$Choir", "lengths", "[I", true)
  | 4 => ("FalseNotes$Choir", "notes", "[I", true)
  | 5 => ("FalseNotes$Choir", "holders", "[I", true)
  | 6 => ("FalseNotes$Choir", "debts", "[I", true)
  | 7 => ("FalseNotes$Choir", "waiting", "LFalseNotes$Waiting;", true)
  | 8 => ("FalseNotes$Choir", "singers", "I", false)
  | 9 => ("FalseNotes$Choir", "basses", "I", false)
  | 10 => ("FalseNotes$Choir", "deaf", "I", false)
  | 11 => ("FalseNotes$Choir", "colds", "I", false)
  | 12 => ("FalseNotes$Choir", "dead", "I", false)
  | 13 => ("FalseNotes$Choir", "hums", "I", false)
  | 14 => ("FalseNotes$Choir", "sunday", "I", false)
  | _ => ("FalseNotes$Choir", "paid", "I", false)
def t_Choir : Nat → FieldType := fun k => match k with
  | 0 => .array .long
  | 1 => .array .int
  | 2 => .array .int
  | 3 => .array .int
  | 4 => .array .int
  | 5 => .array .int
  | 6 => .array .int
  | 7 => .object "FalseNotes$Waiting"
  | 8 => .int
  | 9 => .int
  | 10 => .int
  | 11 => .int
  | 12 => .int
  | 13 => .int
  | 14 => .int
  | _ => .int
def T_CReader : u_T := fun k => match k with
  | 0 => ("FalseNotes$ChoirReader", "tokens", "LFalseNotes$Tokens;", true)
  | _ => ("FalseNotes$ChoirReader", "humsTold", "Z", false)
def t_CReader : Nat → FieldType := fun k => match k with
  | 0 => .object "FalseNotes$Tokens"
  | _ => .boolean
def T_Life : u_T := fun k => match k with
  | 0 => ("FalseNotes$Life", "turnsLeft", "[I", true)
  | 1 => ("FalseNotes$Life", "happened", "Z", false)
  | 2 => ("FalseNotes$Life", "steps", "I", false)
  | 3 => ("FalseNotes$Life", "missed", "I", false)
  | 4 => ("FalseNotes$Life", "lent", "I", false)
  | 5 => ("FalseNotes$Life", "paid", "I", false)
  | 6 => ("FalseNotes$Life", "sundays", "I", false)
  | 7 => ("FalseNotes$Life", "left", "I", false)
  | _ => ("FalseNotes$Life", "drawn", "I", false)
def t_Life : Nat → FieldType := fun k => match k with
  | 0 => .array .int
  | 1 => .boolean
  | 2 => .int
  | 3 => .int
  | 4 => .int
  | 5 => .int
  | 6 => .int
  | 7 => .int
  | _ => .int
def T_Marks : u_T := fun k => match k with
  | 0 => ("FalseNotes$Marks", "choirs", "[LFalseNotes$Choir;", true)
  | 1 => ("FalseNotes$Marks", "yearsOf", "[LFalseNotes$Years;", true)
  | _ => ("FalseNotes$Marks", "count", "I", false)
def t_Marks : Nat → FieldType := fun k => match k with
  | 0 => .array (.object "FalseNotes$Choir")
  | 1 => .array (.object "FalseNotes$Years")
  | _ => .int
def T_Ties : u_T := fun k => match k with
  | 0 => ("FalseNotes$Ties", "balances", "[I", true)
  | 1 => ("FalseNotes$Ties", "owesByNote", "[I", true)
  | 2 => ("FalseNotes$Ties", "owesAtAll", "[I", true)
  | 3 => ("FalseNotes$Ties", "path", "[I", true)
  | 4 => ("FalseNotes$Ties", "sums", "[I", true)
  | 5 => ("FalseNotes$Ties", "bests", "[I", true)
  | 6 => ("FalseNotes$Ties", "singers", "I", false)
  | _ => ("FalseNotes$Ties", "living", "I", false)
def t_Ties : Nat → FieldType := fun k => match k with
  | 0 => .array .int
  | 1 => .array .int
  | 2 => .array .int
  | 3 => .array .int
  | 4 => .array .int
  | 5 => .array .int
  | 6 => .int
  | _ => .int
def T_Tokens : u_T := fun k => match k with
  | 0 => ("FalseNotes$Tokens", "text", "[B", false)
  | 1 => ("FalseNotes$Tokens", "length", "I", false)
  | 2 => ("FalseNotes$Tokens", "at", "I", false)
  | 3 => ("FalseNotes$Tokens", "kind", "I", false)
  | 4 => ("FalseNotes$Tokens", "place", "I", false)
  | 5 => ("FalseNotes$Tokens", "number", "I", false)
  | 6 => ("FalseNotes$Tokens", "sign", "I", false)
  | 7 => ("FalseNotes$Tokens", "letters", "I", false)
  | 8 => ("FalseNotes$Tokens", "keyword", "I", false)
  | 9 => ("FalseNotes$Tokens", "word", "J", false)
  | _ => ("FalseNotes$Tokens", "fault", "I", false)
def t_Tokens : Nat → FieldType := fun k => match k with
  | 0 => .array .byte
  | 1 => .int
  | 2 => .int
  | 3 => .int
  | 4 => .int
  | 5 => .int
  | 6 => .int
  | 7 => .int
  | 8 => .int
  | 9 => .long
  | _ => .int
def T_Tray : u_T := fun k => match k with
  | 0 => ("FalseNotes$Tray", "cells", "[J", true)
  | 1 => ("FalseNotes$Tray", "sort", "I", false)
  | _ => ("FalseNotes$Tray", "size", "I", false)
def t_Tray : Nat → FieldType := fun k => match k with
  | 0 => .array .long
  | 1 => .int
  | _ => .int
def T_Waiting : u_T := fun k => match k with
  | 0 => ("FalseNotes$Waiting", "who", "[I", true)
  | 1 => ("FalseNotes$Waiting", "whom", "[I", true)
  | 2 => ("FalseNotes$Waiting", "much", "[I", true)
  | _ => ("FalseNotes$Waiting", "size", "I", false)
def t_Waiting : Nat → FieldType := fun k => match k with
  | 0 => .array .int
  | 1 => .array .int
  | 2 => .array .int
  | _ => .int
def T_Years : u_T := fun k => match k with
  | 0 => ("FalseNotes$Years", "kinds", "[I", true)
  | 1 => ("FalseNotes$Years", "firsts", "[I", true)
  | 2 => ("FalseNotes$Years", "seconds", "[I", true)
  | 3 => ("FalseNotes$Years", "numbers", "[I", true)
  | 4 => ("FalseNotes$Years", "signs", "[I", true)
  | 5 => ("FalseNotes$Years", "partners", "[I", true)
  | 6 => ("FalseNotes$Years", "size", "I", false)
  | 7 => ("FalseNotes$Years", "steps", "I", false)
  | _ => ("FalseNotes$Years", "told", "Z", false)
def t_Years : Nat → FieldType := fun k => match k with
  | 0 => .array .int
  | 1 => .array .int
  | 2 => .array .int
  | 3 => .array .int
  | 4 => .array .int
  | 5 => .array .int
  | 6 => .int
  | 7 => .int
  | _ => .boolean
def T_YReader : u_T := fun k => match k with
  | 0 => ("FalseNotes$YearsReader", "tokens", "LFalseNotes$Tokens;", true)
  | 1 => ("FalseNotes$YearsReader", "open", "[I", true)
  | _ => ("FalseNotes$YearsReader", "depth", "I", false)
def t_YReader : Nat → FieldType := fun k => match k with
  | 0 => .object "FalseNotes$Tokens"
  | 1 => .array .int
  | _ => .int
def T_FN : u_T := fun k => match k with
  | 0 => ("FalseNotes", "trays", "[LFalseNotes$Tray;", true)
  | 1 => ("FalseNotes", "tape", "[B", true)
  | 2 => ("FalseNotes", "choirReader", "LFalseNotes$ChoirReader;", true)
  | 3 => ("FalseNotes", "yearsReader", "LFalseNotes$YearsReader;", true)
  | 4 => ("FalseNotes", "kept", "LFalseNotes$Marks;", true)
  | 5 => ("FalseNotes", "ties", "LFalseNotes$Ties;", true)
  | 6 => ("FalseNotes", "life", "LFalseNotes$Life;", true)
  | 7 => ("FalseNotes", "trialLife", "LFalseNotes$Life;", true)
  | 8 => ("FalseNotes", "trialChoir", "LFalseNotes$Choir;", true)
  | 9 => ("FalseNotes", "choir", "LFalseNotes$Choir;", false)
  | 10 => ("FalseNotes", "spareChoir", "LFalseNotes$Choir;", false)
  | 11 => ("FalseNotes", "years", "LFalseNotes$Years;", false)
  | 12 => ("FalseNotes", "spareYears", "LFalseNotes$Years;", false)
  | 13 => ("FalseNotes", "status", "I", false)
  | 14 => ("FalseNotes", "top", "J", false)
  | 15 => ("FalseNotes", "bottom", "J", false)
  | 16 => ("FalseNotes", "tapeSize", "I", false)
  | 17 => ("FalseNotes", "faultKind", "I", false)
  | _ => ("FalseNotes", "faultPlace", "I", false)
def t_FN : Nat → FieldType := fun k => match k with
  | 0 => .array (.object "FalseNotes$Tray")
  | 1 => .array .byte
  | 2 => .object "FalseNotes$ChoirReader"
  | 3 => .object "FalseNotes$YearsReader"
  | 4 => .object "FalseNotes$Marks"
  | 5 => .object "FalseNotes$Ties"
  | 6 => .object "FalseNotes$Life"
  | 7 => .object "FalseNotes$Life"
  | 8 => .object "FalseNotes$Choir"
  | 9 => .object "FalseNotes$Choir"
  | 10 => .object "FalseNotes$Choir"
  | 11 => .object "FalseNotes$Years"
  | 12 => .object "FalseNotes$Years"
  | 13 => .int
  | 14 => .long
  | 15 => .long
  | 16 => .int
  | 17 => .int
  | _ => .int
def T_Mod : u_T := fun k => match k with
  | 0 => ("FalseNotesModel", "at", "[I", true)
  | 1 => ("FalseNotesModel", "names", "[J", true)
  | 2 => ("FalseNotesModel", "status", "I", false)
  | 3 => ("FalseNotesModel", "top", "J", false)
  | 4 => ("FalseNotesModel", "bottom", "J", false)
  | 5 => ("FalseNotesModel", "sort", "[I", true)
  | 6 => ("FalseNotesModel", "trayMany", "[I", true)
  | 7 => ("FalseNotesModel", "trays", "[J", true)
  | 8 => ("FalseNotesModel", "tape", "[B", true)
  | 9 => ("FalseNotesModel", "text", "[B", true)
  | 10 => ("FalseNotesModel", "taped", "I", false)
  | 11 => ("FalseNotesModel", "size", "I", false)
  | 12 => ("FalseNotesModel", "token", "I", false)
  | 13 => ("FalseNotesModel", "from", "I", false)
  | 14 => ("FalseNotesModel", "end", "I", false)
  | 15 => ("FalseNotesModel", "value", "I", false)
  | 16 => ("FalseNotesModel", "faultKind", "I", false)
  | 17 => ("FalseNotesModel", "faultPlace", "I", false)
  | 18 => ("FalseNotesModel", "faults", "I", false)
  | 19 => ("FalseNotesModel", "seen", "I", false)
  | 20 => ("FalseNotesModel", "told0", "I", false)
  | 21 => ("FalseNotesModel", "base", "I", false)
  | 22 => ("FalseNotesModel", "opened", "[I", true)
  | 23 => ("FalseNotesModel", "depth", "I", false)
  | 24 => ("FalseNotesModel", "counted", "I", false)
  | 25 => ("FalseNotesModel", "partsBy", "[I", true)
  | 26 => ("FalseNotesModel", "row", "[I", true)
  | 27 => ("FalseNotesModel", "drawn", "I", false)
  | 28 => ("FalseNotesModel", "ranSteps", "I", false)
  | 29 => ("FalseNotesModel", "loops", "[I", true)
  | 30 => ("FalseNotesModel", "ran", "[I", true)
  | 31 => ("FalseNotesModel", "told1", "[I", true)
  | 32 => ("FalseNotesModel", "isTold", "Z", false)
  | _ => ("FalseNotesModel", "marks", "I", false)
def t_Mod : Nat → FieldType := fun k => match k with
  | 0 => .array .int
  | 1 => .array .long
  | 2 => .int
  | 3 => .long
  | 4 => .long
  | 5 => .array .int
  | 6 => .array .int
  | 7 => .array .long
  | 8 => .array .byte
  | 9 => .array .byte
  | 10 => .int
  | 11 => .int
  | 12 => .int
  | 13 => .int
  | 14 => .int
  | 15 => .int
  | 16 => .int
  | 17 => .int
  | 18 => .int
  | 19 => .int
  | 20 => .int
  | 21 => .int
  | 22 => .array .int
  | 23 => .int
  | 24 => .int
  | 25 => .array .int
  | 26 => .array .int
  | 27 => .int
  | 28 => .int
  | 29 => .array .int
  | 30 => .array .int
  | 31 => .array .int
  | 32 => .boolean
  | _ => .int
abbrev vCl : List vw_C := [("FalseNotes$Choir", T_Choir, 16), ("FalseNotes$ChoirReader", T_CReader, 2), ("FalseNotes$Life", T_Life, 9), ("FalseNotes$Marks", T_Marks, 3), ("FalseNotes$Ties", T_Ties, 8), ("FalseNotes$Tokens", T_Tokens, 11), ("FalseNotes$Tray", T_Tray, 3), ("FalseNotes$Waiting", T_Waiting, 4), ("FalseNotes$Years", T_Years, 9), ("FalseNotes$YearsReader", T_YReader, 3), ("FalseNotes", T_FN, 19), ("FalseNotesModel", T_Mod, 34)]
def tyCl : List (Nat → FieldType) := [t_Choir, t_CReader, t_Life, t_Marks, t_Ties, t_Tokens, t_Tray, t_Waiting, t_Years, t_YReader, t_FN, t_Mod]
def DL : List (Nat × Nat × List (Nat × Nat)) := [(0, 10, [(3, 1), (3, 2), (4, 1003), (4, 3006), (4, 5008), (4, 12030), (4, 13037), (4, 14037), (4, 15011), (5, 11), (5, 11), (5, 23), (5, 23), (0, 0), (1, 0), (1, 0), (0, 0), (0, 0), (0, 0)]), (1, 103, [(20, 39), (21, 39), (22, 39), (23, 39)]), (2, 102, [(900, 0)]), (0, 1, [(4, 2004), (2, 0)]), (0, 5, [(5, 2), (0, 0), (0, 0), (0, 0), (0, 0), (0, 0), (0, 0), (0, 0), (0, 0), (1, 0), (0, 0)]), (1, 102, [(0, 0)]), (0, 9, [(4, 4004), (3, 7), (0, 0)]), (1, 100, [(3, 0)]), (0, 3, [(3, 9), (3, 10), (0, 0)]), (1, 104, [(6, 11), (8, 11), (10, 11)]), (2, 105, [(7, 23), (9, 23), (11, 23)]), (0, 0, [(3, 12), (3, 13), (3, 14), (3, 15), (3, 16), (3, 17), (3, 18), (3, 19), (0, 0), (0, 0), (0, 0), (0, 0), (0, 0), (0, 0), (0, 0), (0, 0)]), (1, 101, [(8, 0)]), (2, 100, [(8, 0)]), (3, 100, [(8, 0)]), (4, 100, [(8, 0)]), (5, 100, [(48, 0)]), (6, 100, [(48, 0)]), (7, 100, [(48, 0)]), (8, 7, [(3, 20), (3, 21), (3, 22), (0, 0)]), (9, 100, [(8, 0)]), (10, 100, [(8, 0)]), (11, 100, [(8, 0)]), (0, 8, [(3, 24), (3, 25), (3, 26), (3, 27), (3, 28), (3, 29), (0, 0), (0, 0), (2, 0)]), (1, 100, [(60, 0)]), (2, 100, [(60, 0)]), (3, 100, [(60, 0)]), (4, 100, [(60, 0)]), (5, 100, [(60, 0)]), (6, 100, [(60, 0)]), (0, 4, [(3, 31), (3, 32), (3, 33), (3, 34), (3, 35), (3, 36), (0, 0), (0, 0)]), (1, 100, [(8, 0)]), (2, 100, [(8, 0)]), (3, 100, [(8, 0)]), (4, 100, [(8, 0)]), (5, 100, [(256, 0)]), (6, 100, [(256, 0)]), (0, 2, [(3, 38), (2, 0), (0, 0), (0, 0), (0, 0), (0, 0), (0, 0), (0, 0), (0, 0)]), (1, 100, [(60, 0)]), (0, 6, [(3, 40), (0, 0), (0, 0)]), (1, 101, [(60, 0)]), (0, 11, [(3, 42), (3, 43), (0, 0), (1, 0), (1, 0), (3, 44), (3, 45), (3, 46), (3, 47), (3, 48), (0, 0), (0, 0), (0, 0), (0, 0), (0, 0), (0, 0), (0, 0), (0, 0), (0, 0), (0, 0), (0, 0), (0, 0), (3, 49), (0, 0), (0, 0), (3, 50), (3, 51), (0, 0), (0, 0), (3, 52), (3, 53), (3, 54), (2, 0), (0, 0)]), (1, 100, [(3612, 0)]), (2, 101, [(48, 0)]), (3, 100, [(4, 0)]), (4, 100, [(4, 0)]), (5, 101, [(240, 0)]), (6, 102, [(900, 0)]), (7, 102, [(900, 0)]), (8, 100, [(3, 0)]), (9, 100, [(256, 0)]), (10, 100, [(8, 0)]), (11, 100, [(80, 0)]), (12, 100, [(5, 0)]), (13, 100, [(5, 0)])]
def CL : List (Nat × Nat) := [(0, 0), (0, 1), (0, 2), (1, 3), (2, 4), (2, 5), (3, 6), (3, 7), (4, 4), (4, 5), (5, 8), (5, 9), (5, 10), (6, 11), (6, 12), (6, 13), (6, 14), (6, 15), (6, 16), (6, 17), (6, 18), (6, 19), (6, 20), (6, 21), (6, 22), (7, 23), (7, 24), (7, 25), (7, 26), (7, 27), (7, 28), (7, 29), (8, 11), (8, 12), (8, 13), (8, 14), (8, 15), (8, 16), (8, 17), (8, 18), (8, 19), (8, 20), (8, 21), (8, 22), (9, 23), (9, 24), (9, 25), (9, 26), (9, 27), (9, 28), (9, 29), (10, 11), (10, 12), (10, 13), (10, 14), (10, 15), (10, 16), (10, 17), (10, 18), (10, 19), (10, 20), (10, 21), (10, 22), (11, 23), (11, 24), (11, 25), (11, 26), (11, 27), (11, 28), (11, 29), (12, 30), (12, 31), (12, 32), (12, 33), (12, 34), (12, 35), (12, 36), (13, 37), (13, 38), (14, 37), (14, 38), (15, 11), (15, 12), (15, 13), (15, 14), (15, 15), (15, 16), (15, 17), (15, 18), (15, 19), (15, 20), (15, 21), (15, 22), (16, 11), (16, 12), (16, 13), (16, 14), (16, 15), (16, 16), (16, 17), (16, 18), (16, 19), (16, 20), (16, 21), (16, 22), (17, 11), (17, 12), (17, 13), (17, 14), (17, 15), (17, 16), (17, 17), (17, 18), (17, 19), (17, 20), (17, 21), (17, 22), (18, 23), (18, 24), (18, 25), (18, 26), (18, 27), (18, 28), (18, 29), (19, 23), (19, 24), (19, 25), (19, 26), (19, 27), (19, 28), (19, 29), (20, 39), (20, 40), (21, 39), (21, 40), (22, 39), (22, 40), (23, 39), (23, 40), (24, 41), (24, 42), (24, 43), (24, 44), (24, 45), (24, 46), (24, 47), (24, 48), (24, 49), (24, 50), (24, 51), (24, 52), (24, 53), (24, 54)]
end
section
def eD (E : EnvT) : va_G := E.1
def eA (E : EnvT) : Nat → Nat → Nat := E.2.1
def eC (E : EnvT) : Nat → ClassId := E.2.2.1
def eK (E : EnvT) : Nat → Nat := E.2.2.2.1
def eV (E : EnvT) : Nat → Nat := E.2.2.2.2.1
def eB (E : EnvT) : Nat := E.2.2.2.2.2
def Ab (E : EnvT) : Nat → Prop := fun q => eB E ≤ q
def dsc (dd : Nat) : Nat × Nat × List (Nat × Nat) := DL.getD dd (0, 999, [])
def al (E : EnvT) (r dd : Nat) : Nat := eA E r (dsc dd).1
def fval (E : EnvT) (M : Mem) (r c k : Nat) (q : Nat × Nat) : Value := match q.1 with
  | 0 => .int (iN (M r c k))
  | 1 => .long (lI (M r c k))
  | 2 => .int (iN (M r c k))
  | 3 => .ref (al E r q.2)
  | 4 => .ref (al E (q.2 / 1000) (q.2 % 1000))
  | _ => .ref (al E (M r c k).toNat q.2)
def flds (E : EnvT) (M : Mem) (r c : Nat) : Nat → List (Nat × Nat) → List Value
  | _, [] => []
  | k, q :: t => fval E M r c k q :: flds E M r c (k + 1) t
def cellOf (E : EnvT) (M : Mem) (r dd : Nat) : va_E :=
  if (dsc dd).2.1 < 100 then .inr ((dsc dd).2.1, flds E M r (dsc dd).1 0 (dsc dd).2.2)
  else if (dsc dd).2.1 = 100 then .inl (eC E 0, ((dsc dd).2.2.headD (0, 0)).1, .inl (fun k => iN (M r (dsc dd).1 k)))
  else if (dsc dd).2.1 = 101 then .inl (eC E 1, ((dsc dd).2.2.headD (0, 0)).1, .inr (.inl (fun k => lI (M r (dsc dd).1 k))))
  else if (dsc dd).2.1 = 102 then .inl (eC E 2, ((dsc dd).2.2.headD (0, 0)).1, .inl (fun k => iN (M r (dsc dd).1 k)))
  else .inl (eC E ((dsc dd).2.1 - 100), (dsc dd).2.2.length, .inr (.inr (.inr (.inr (fun k => ((dsc dd).2.2[k]?).map (fun q => al E q.1 q.2))))))
def WL (E : EnvT) (M : Mem) : va_W := CL.map (fun q => (al E q.1 q.2, cellOf E M q.1 q.2))
def tysE (E : EnvT) : List (ClassId × FieldType) := [(eC E 0, .int), (eC E 1, .long), (eC E 2, .byte), (eC E 3, .object "FalseNotes$Tray"), (eC E 4, .object "FalseNotes$Choir"), (eC E 5, .object "FalseNotes$Years")]
def cv (E : EnvT) (v : AV) : Value := match v.1 with
  | .ref r => if v.2 = 999 then .ref (eK E r) else .ref (al E r v.2)
  | x => x
def cvl (E : EnvT) (ls : LsT) : List (Nat × Value) := ls.map (fun q => (q.1, cv E q.2))
def TV (v : AV) : Prop := match v.1 with
  | .ref r => (v.2 = 999 ∧ r < 9) ∨ (v.2 ≠ 999 ∧ (r, v.2) ∈ CL)
  | _ => True
theorem cv_int (E : EnvT) (x : Int32) (d : Nat) : cv E (.int x, d) = .int x := rfl
theorem cv_long (E : EnvT) (x : Int64) (d : Nat) : cv E (.long x, d) = .long x := rfl
theorem cv_cat (E : EnvT) (v : AV) : (cv E v).category = v.1.category := by
  obtain ⟨v, d⟩ := v
  cases v with
  | ref r =>
    show (if d = 999 then Value.ref (eK E r) else Value.ref (al E r d)).category = _
    split <;> rfl
  | _ => rfl
theorem cv_ref (E : EnvT) (r d : Nat) : ∃ a, cv E (.ref r, d) = .ref a := by
  show ∃ a, (if d = 999 then Value.ref (eK E r) else Value.ref (al E r d)) = .ref a
  split
  · exact ⟨_, rfl⟩
  · exact ⟨_, rfl⟩
theorem lget_mem {ls : LsT} {k : Nat} {v : AV} (h : lget ls k = some v) : (k, v) ∈ ls := by
  induction ls with
  | nil => simp [lget] at h
  | cons q t ih =>
    obtain ⟨j, w⟩ := q
    unfold lget at h
    split at h
    · rename_i e
      subst e
      rw [Option.some.inj h]
      exact List.mem_cons_self
    · exact List.mem_cons_of_mem _ (ih h)
theorem cvl_lget {E : EnvT} {la : Array Slot} {n : Nat} {ls : LsT} (hl : lv_has la n (cvl E ls)) {k : Nat} {v : AV} (h : lget ls k = some v) : la[k]? = some (.val (cv E v)) :=
  hl.2.2 (k, cv E v) (List.mem_map.mpr ⟨(k, v), lget_mem h, rfl⟩)
theorem cvl_filter (E : EnvT) (ls : LsT) (f : Nat × AV → Bool) (g : Nat × Value → Bool) (h : ∀ q, g (q.1, cv E q.2) = f q) : (cvl E ls).filter g = cvl E (ls.filter f) := by
  induction ls with
  | nil => rfl
  | cons q t ih =>
    show ((q.1, cv E q.2) :: cvl E t).filter g = _
    rw [List.filter_cons, List.filter_cons, h q, ih]
    split <;> rfl
theorem cvl_lset (E : EnvT) (ls : LsT) (k : Nat) (v : AV) : (k, cv E v) :: (cvl E ls).filter (fun q => !(q.1 == k) && !(q.1 + 1 == k && q.2.category == 2)) = cvl E (lset ls k v) := by
  rw [cvl_filter E ls (fun q => !(q.1 == k) && !(q.1 + 1 == k && q.2.1.category == 2)) _ (fun q => by rw [cv_cat])]
  rfl
theorem cvl_lset2 (E : EnvT) (ls : LsT) (k : Nat) (v : AV) : (k, cv E v) :: (cvl E ls).filter (fun q => !(q.1 == k) && (!(q.1 == k + 1) && !(q.1 + 1 == k && q.2.category == 2))) = cvl E (lset2 ls k v) := by
  rw [cvl_filter E ls (fun q => !(q.1 == k) && (!(q.1 == k + 1) && !(q.1 + 1 == k && q.2.1.category == 2))) _ (fun q => by rw [cv_cat])]
  rfl
theorem lset_TV {ls : LsT} {k : Nat} {v : AV} (h : ∀ q ∈ ls, TV q.2) (hv : TV v) : ∀ q ∈ lset ls k v, TV q.2 := by
  intro q hq
  rcases List.mem_cons.mp hq with rfl | hq
  · exact hv
  · exact h q (List.mem_filter.mp hq).1
theorem lset2_TV {ls : LsT} {k : Nat} {v : AV} (h : ∀ q ∈ ls, TV q.2) (hv : TV v) : ∀ q ∈ lset2 ls k v, TV q.2 := by
  intro q hq
  rcases List.mem_cons.mp hq with rfl | hq
  · exact hv
  · exact h q (List.mem_filter.mp hq).1
theorem cons_TV {st : List AV} {v : AV} (h : ∀ q ∈ st, TV q) (hv : TV v) : ∀ q ∈ v :: st, TV q := by
  intro q hq
  rcases List.mem_cons.mp hq with rfl | hq
  · exact hv
  · exact h q hq
theorem lpick_spec {ls : LsT} : ∀ (ks : List Nat) {r : LsT}, lpick ls ks = some r → ∀ q ∈ r, q ∈ ls
  | [], r, h => by
    cases h
    intro q hq
    cases hq
  | k :: ks, r, h => by
    unfold lpick at h
    split at h
    · cases h
    · rename_i v hv
      split at h
      · cases h
      · rename_i r' hr'
        cases h
        intro q hq
        rcases List.mem_cons.mp hq with rfl | hq
        · exact lget_mem hv
        · exact lpick_spec ks hr' q hq
/-- strings: whose entry, its number there, the text, its number -/
def STRL : List (String × Nat × String × Nat) := [("FalseNotes$Tokens", 74, "singer purse bass cold deaf line owes heir hums lend to pay sunday die chord any when debt still loop end stop ", 0), ("FalseNotes$YearsReader", 88, "atbn", 1), ("FalseNotes$YearsReader", 90, "atbcn", 2), ("FalseNotes$YearsReader", 92, "acn", 3), ("FalseNotes$YearsReader", 94, "ab", 4), ("FalseNotes$YearsReader", 96, "a", 5), ("FalseNotes$YearsReader", 98, "n", 6), ("FalseNotes$YearsReader", 100, "", 7), ("FalseNotesModel", 193, " singer owes heir hums purse bass cold deaf line lend pay sunday die chord any to when loop end stop debt still ", 8)]
def STRN : List Nat := [111, 4, 5, 3, 2, 1, 1, 0, 112]
def STRB : List (List Int32) := [[115, 105, 110, 103, 101, 114, 32, 112, 117, 114, 115, 101, 32, 98, 97, 115, 115, 32, 99, 111, 108, 100, 32, 100, 101, 97, 102, 32, 108, 105, 110, 101, 32, 111, 119, 101, 115, 32, 104, 101, 105, 114, 32, 104, 117, 109, 115, 32, 108, 101, 110, 100, 32, 116, 111, 32, 112, 97, 121, 32, 115, 117, 110, 100, 97, 121, 32, 100, 105, 101, 32, 99, 104, 111, 114, 100, 32, 97, 110, 121, 32, 119, 104, 101, 110, 32, 100, 101, 98, 116, 32, 115, 116, 105, 108, 108, 32, 108, 111, 111, 112, 32, 101, 110, 100, 32, 115, 116, 111, 112, 32], [97, 116, 98, 110], [97, 116, 98, 99, 110], [97, 99, 110], [97, 98], [97], [110], [], [32, 115, 105, 110, 103, 101, 114, 32, 111, 119, 101, 115, 32, 104, 101, 105, 114, 32, 104, 117, 109, 115, 32, 112, 117, 114, 115, 101, 32, 98, 97, 115, 115, 32, 99, 111, 108, 100, 32, 100, 101, 97, 102, 32, 108, 105, 110, 101, 32, 108, 101, 110, 100, 32, 112, 97, 121, 32, 115, 117, 110, 100, 97, 121, 32, 100, 105, 101, 32, 99, 104, 111, 114, 100, 32, 97, 110, 121, 32, 116, 111, 32, 119, 104, 101, 110, 32, 108, 111, 111, 112, 32, 101, 110, 100, 32, 115, 116, 111, 112, 32, 100, 101, 98, 116, 32, 115, 116, 105, 108, 108, 32]]
def KK (E : EnvT) (U : State) : Prop := va_K (eD E) vCl (tysE E) U ∧ vk_S 9 STRN STRB (eK E) (eV E) (Ab E) U U.heap ∧ va_Z "java/lang/String" "COMPACT_STRINGS" "Z" (.int 1) (Ab E) U U.heap ∧ ∀ q ∈ STRL, vk_R q.1 q.2.1 q.2.2.1 (eK E q.2.2.2) U
theorem KK.move {E : EnvT} {s U : State} {H : Heap} {locs : List Loc} (h : KK E s) (hS : va_S (Ab E) s.heap H locs) (hU : U.heap = H) (hW : s.WarmedH U.vm) : KK E U := by
  obtain ⟨h1, h2, h3, h4⟩ := h
  refine ⟨va_K.moved hW.alike h1, ?_, ?_, fun q hq => (h4 q hq).warm hW⟩
  · have := (vk_S.kept h2 hS.2.1).moved hW.alike
    rw [hU]
    exact this
  · have := (va_Z.kept h3 hS.2.1).moved hW.alike
    rw [hU]
    exact this
theorem KK.call {E : EnvT} {U : State} (g : JFrame) (mk : MethodId) (a : Array Value) (h : KK E U) : KK E (U.calling g mk a) := by
  obtain ⟨h1, h2, h3, h4⟩ := h
  exact ⟨va_K.moved (u := U) (U := U.calling g mk a) (Vm.Alike.refl U.vm) h1, vk_S.moved (u := U) (U := U.calling g mk a) (Vm.Alike.refl U.vm) h2, va_Z.moved (u := U) (U := U.calling g mk a) (Vm.Alike.refl U.vm) h3, fun q hq => (h4 q hq).same rfl⟩
def HX (E : EnvT) (M : Mem) (H : Heap) : Prop := va_P (eD E) vCl (WL E M) H
def DX (E : EnvT) : Prop := va_D (Ab E) (WL E (fun _ _ _ => 0))
theorem WL_at (E : EnvT) (M : Mem) (i : Nat) : (WL E M)[i]? = (CL[i]?).map (fun q => (al E q.1 q.2, cellOf E M q.1 q.2)) := List.getElem?_map
theorem DX.all {E : EnvT} (h : DX E) (M : Mem) : va_D (Ab E) (WL E M) := by
  have key : ∀ (i : Nat) (p : Nat × va_E), (WL E M)[i]? = some p → ∃ p', (WL E (fun _ _ _ => 0))[i]? = some p' ∧ p'.1 = p.1 := by
    intro i p hp
    rw [WL_at] at hp ⊢
    cases hc : CL[i]? with
    | none => rw [hc] at hp; cases hp
    | some q =>
      rw [hc] at hp
      cases hp
      exact ⟨_, rfl, rfl⟩
  refine ⟨fun i j p q hp hq e => ?_, fun k q hq => ?_⟩
  · obtain ⟨p', h1, e1⟩ := key i p hp
    obtain ⟨q', h2, e2⟩ := key j q hq
    exact h.1 i j p' q' h1 h2 (by rw [e1, e2, e])
  · obtain ⟨q', h2, e2⟩ := key k q hq
    rw [← e2]
    exact h.2 k q' h2
theorem CL_nd : CL.Nodup := by decide +kernel
def WS (mi : MI) : List Cond := .code mi.1 mi.2.1 mi.2.2.1 mi.2.2.2.1 :: lw_tbl.filter goodWord
def rmD (d : Nat) : Room := { frames := d, cells := 0, slots := 0, locals := 64 * d }
def rk : Option FieldType → Nat
  | none => 0
  | some .long => 2
  | some (.object _) => 3
  | some (.array _) => 3
  | _ => 1
def Qr (mi : MI) (E : EnvT) (r : AV) (o : Outcome) : Prop := match rk mi.2.2.2.1 with
  | 0 => o = .returned none
  | 1 => ∃ x, r = (.int x, 0) ∧ o = .returned (some (.int x))
  | 2 => ∃ x, r = (.long x, 0) ∧ o = .returned (some (.long x))
  | _ => ∃ x, r = (.ref x, 999) ∧ x < 9 ∧ o = .returned (some (.ref (eK E x)))
def QQ (E : EnvT) (mi : MI) (K : AV → Mem → Prop) : Array Value → State → Outcome → State → Prop := fun _ st o t => (∃ r M', K r M' ∧ Qr mi E r o ∧ HX E M' t.heap) ∧ va_F (Ab E) st t
def CT (l : Launch) (E : EnvT) (d : Nat) (mi : MI) (as : List AV) (M : Mem) (K : AV → Mem → Prop) : Prop :=
  (∀ a ∈ as, TV a) → Met l mi.1 (WS mi) (rmD d) (va_Pc (as.map (cv E)) (fun U => HX E M U.heap ∧ KK E U ∧ DX E ∧ eB E ≤ U.heap.size)) (QQ E mi K) 0 0 (Ab E)
def CX (E : EnvT) (mi : MI) (p : Program) (s : State) (m : MethodId) (args : Array Value) (meth : Method) (c : Code) : Prop :=
  p.tables.exec = Jvm.exec ∧ c.code = mi.2.1 ∧ c.maxLocals = mi.2.2.1 ∧ s.vm.findClass mi.1.cls = some m.cls ∧ (∀ w ∈ WS mi, w.before args s = true) ∧ meth.sig.returnType = mi.2.2.2.1 ∧ meth.locks = false ∧ KK E s ∧ DX E ∧ eB E ≤ s.heap.size
def G (l : Launch) (E : EnvT) (d : Nat) (mi : MI) (pc : Nat) (ls : LsT) (st : List AV) (M : Mem) (K : AV → Mem → Prop) : Prop :=
  ∀ (p : Program) (e : Env) (s : State) (m : MethodId) (args : Array Value) (below : List Frame) (meth : Method) (c : Code) (H : Heap) (locs : List Loc) (la : Array Slot), CX E mi p s m args meth c → HX E M H → va_S (Ab E) s.heap H locs → (∀ q ∈ ls, TV q.2) → (∀ v ∈ st, TV v) → lv_has la mi.2.2.1 (cvl E ls) →
    W p l e (rmD d) s m args below meth c H locs 0 0 (MQ below (QQ E mi K) args s 0 0 (Ab E)) (F0 m pc la (st.map (cv E)))
theorem G.pick {l : Launch} {E : EnvT} {d : Nat} {mi : MI} {pc : Nat} {ls ls' : LsT} {st : List AV} {M : Mem} {K : AV → Mem → Prop} (ks : List Nat) (h : lpick ls ks = some ls') (g : G l E d mi pc ls' st M K) : G l E d mi pc ls st M K := by
  intro p e s m args below meth c H locs la hC hH hS hT1 hT2 hl
  refine g p e s m args below meth c H locs la hC hH hS (fun q hq => hT1 q (lpick_spec ks h q hq)) hT2 ⟨hl.1, hl.2.1, fun q hq => ?_⟩
  obtain ⟨q', h1, rfl⟩ := List.mem_map.mp hq
  exact hl.2.2 _ (List.mem_map.mpr ⟨q', lpick_spec ks h q' h1, rfl⟩)
end
section
def aargs : Nat → List AV → LsT
  | _, [] => []
  | i, v :: vs => (i, v) :: aargs (if v.1.category = 2 then i + 2 else i + 1) vs
theorem aargs_cv (E : EnvT) : ∀ (as : List AV) (i : Nat), lv_args i (as.map (cv E)) = cvl E (aargs i as)
  | [], _ => rfl
  | v :: vs, i => by
    show (i, cv E v) :: lv_args (if (cv E v).category = 2 then i + 2 else i + 1) (vs.map (cv E)) = _
    rw [cv_cat, aargs_cv E vs]
    rfl
theorem aargs_TV : ∀ (as : List AV) (i : Nat), (∀ a ∈ as, TV a) → ∀ q ∈ aargs i as, TV q.2
  | [], _, _ => fun q hq => by cases hq
  | v :: vs, i, h => fun q hq => by
    rcases List.mem_cons.mp hq with rfl | hq
    · exact h v List.mem_cons_self
    · exact aargs_TV vs _ (fun a ha => h a (List.mem_cons_of_mem _ ha)) q hq
def asz : List AV → Nat
  | [] => 0
  | v :: vs => (if v.1.category = 2 then 2 else 1) + asz vs
theorem asz_cv (E : EnvT) : ∀ as : List AV, (lg_sl (as.map (cv E))).length = asz as
  | [] => rfl
  | v :: vs => by
    have h := asz_cv E vs
    have hc := cv_cat E v
    have e : lg_sl ((v :: vs).map (cv E)) = (if (cv E v).category = 2 then [.val (cv E v), .second] else [.val (cv E v)]) ++ lg_sl (vs.map (cv E)) := rfl
    rw [e, hc, List.length_append, h]
    show _ = (if v.1.category = 2 then 2 else 1) + asz vs
    split <;> rfl
theorem CT.of {l : Launch} {E : EnvT} {d : Nat} {mi : MI} {as : List AV} {M : Mem} {K : AV → Mem → Prop} (hy : plainName mi.1.cls = true) (hn : asz as ≤ mi.2.2.1) (g : G l E d mi 0 (aargs 0 as) [] M K) : CT l E d mi as M K := by
  intro hT
  refine Met.ofW (cc := mi.2.1) (maxL := mi.2.2.1) (ret := mi.2.2.2.1) hy rfl ?_
  intro p e s m args below meth c s₁ B hml hv
  obtain ⟨rfl, hH, hK, hD, hb⟩ := hv
  have he := lv_entry (as.map (cv E)) (n := mi.2.2.1) (by rw [asz_cv]; exact hn)
  rw [aargs_cv] at he
  rw [lg_entry_eq]
  exact g p e s m _ below meth c s.heap [] _ ⟨B.exec, B.bytes, hml, findClass_of_methodNamed B.named, atoms_spec (ws := WS mi) B.pre, B.returns, B.notSynchronized, hK, hD, hb⟩ hH va_S.rf (aargs_TV as 0 hT) (fun v hv => by cases hv) he
def ilen : Instr → Nat
  | .bipush _ => 2
  | .sipush _ => 3
  | .ldc _ => 2
  | .ldc_w _ => 3
  | .ldc2_w _ => 3
  | .iload _ => 2
  | .lload _ => 2
  | .aload _ => 2
  | .istore _ => 2
  | .lstore _ => 2
  | .astore _ => 2
  | .iinc _ _ => 3
  | .getfield _ => 3
  | .putfield _ => 3
  | .invokevirtual _ => 3
  | .invokestatic _ => 3
  | .goto _ => 3
  | .if_icmp _ _ => 3
  | .ifCond _ _ => 3
  | _ => 1

theorem sK_inv {ls ls' : LsT} {st st' : List AV} {v : Value} (h : sK ls st v = some (ls', st')) : ls' = ls ∧ st' = (v, 0) :: st := by
  cases h
  exact ⟨rfl, rfl⟩
theorem sBin_inv {f : Int32 → Int32 → Int32} {ls ls' : LsT} {st st' : List AV} (h : sBin f ls st = some (ls', st')) : ∃ x y dx dy t, st = (.int y, dy) :: (.int x, dx) :: t ∧ ls' = ls ∧ st' = (.int (f x y), 0) :: t := by
  unfold sBin at h
  split at h
  · cases h
    exact ⟨_, _, _, _, _, rfl, rfl, rfl⟩
  · cases h
theorem sBinL_inv {f : Int64 → Int64 → Int64} {ls ls' : LsT} {st st' : List AV} (h : sBinL f ls st = some (ls', st')) : ∃ x y dx dy t, st = (.long y, dy) :: (.long x, dx) :: t ∧ ls' = ls ∧ st' = (.long (f x y), 0) :: t := by
  unfold sBinL at h
  split at h
  · cases h
    exact ⟨_, _, _, _, _, rfl, rfl, rfl⟩
  · cases h
theorem sShL_inv {f : Int64 → Int32 → Int64} {ls ls' : LsT} {st st' : List AV} (h : sShL f ls st = some (ls', st')) : ∃ x y dx dy t, st = (.int y, dy) :: (.long x, dx) :: t ∧ ls' = ls ∧ st' = (.long (f x y), 0) :: t := by
  unfold sShL at h
  split at h
  · cases h
    exact ⟨_, _, _, _, _, rfl, rfl, rfl⟩
  · cases h
theorem sCmp_inv {ls ls' : LsT} {st st' : List AV} (h : sCmp ls st = some (ls', st')) : ∃ x y dx dy t, st = (.long y, dy) :: (.long x, dx) :: t ∧ ls' = ls ∧ st' = (.int (lg_cmp x y), 0) :: t := by
  unfold sCmp at h
  split at h
  · cases h
    exact ⟨_, _, _, _, _, rfl, rfl, rfl⟩
  · cases h
theorem sUn_inv {f : Int32 → Int32} {ls ls' : LsT} {st st' : List AV} (h : sUn f ls st = some (ls', st')) : ∃ x dx t, st = (.int x, dx) :: t ∧ ls' = ls ∧ st' = (.int (f x), 0) :: t := by
  unfold sUn at h
  split at h
  · cases h
    exact ⟨_, _, _, rfl, rfl, rfl⟩
  · cases h
theorem sIL_inv {ls ls' : LsT} {st st' : List AV} (h : sIL ls st = some (ls', st')) : ∃ x dx t, st = (.int x, dx) :: t ∧ ls' = ls ∧ st' = (.long x.toInt64, 0) :: t := by
  unfold sIL at h
  split at h
  · cases h
    exact ⟨_, _, _, rfl, rfl, rfl⟩
  · cases h
theorem sLI_inv {ls ls' : LsT} {st st' : List AV} (h : sLI ls st = some (ls', st')) : ∃ x dx t, st = (.long x, dx) :: t ∧ ls' = ls ∧ st' = (.int x.toInt32, 0) :: t := by
  unfold sLI at h
  split at h
  · cases h
    exact ⟨_, _, _, rfl, rfl, rfl⟩
  · cases h
theorem sLoadI_inv {ls ls' : LsT} {st st' : List AV} {k : Nat} (h : sLoadI ls st k = some (ls', st')) : ∃ x d, lget ls k = some (.int x, d) ∧ ls' = ls ∧ st' = (.int x, 0) :: st := by
  unfold sLoadI at h
  split at h
  · rename_i x d e
    cases h
    exact ⟨x, d, e, rfl, rfl⟩
  · cases h
theorem sLoadL_inv {ls ls' : LsT} {st st' : List AV} {k : Nat} (h : sLoadL ls st k = some (ls', st')) : ∃ x d, lget ls k = some (.long x, d) ∧ ls' = ls ∧ st' = (.long x, 0) :: st := by
  unfold sLoadL at h
  split at h
  · rename_i x d e
    cases h
    exact ⟨x, d, e, rfl, rfl⟩
  · cases h
theorem sLoadA_inv {ls ls' : LsT} {st st' : List AV} {k : Nat} (h : sLoadA ls st k = some (ls', st')) : ∃ x d, lget ls k = some (.ref x, d) ∧ ls' = ls ∧ st' = (.ref x, d) :: st := by
  unfold sLoadA at h
  split at h
  · rename_i x d e
    cases h
    exact ⟨x, d, e, rfl, rfl⟩
  · cases h
theorem sInc_inv {ls ls' : LsT} {st st' : List AV} {k : Nat} {n : Int} (h : sInc ls st k n = some (ls', st')) : ∃ x d, lget ls k = some (.int x, d) ∧ ls' = lset ls k (.int (x + iN n), 0) ∧ st' = st := by
  unfold sInc at h
  split at h
  · rename_i x d e
    cases h
    exact ⟨x, d, e, rfl, rfl⟩
  · cases h
theorem sStoI_inv {ls ls' : LsT} {st st' : List AV} {k : Nat} (h : sStoI ls st k = some (ls', st')) : ∃ x d, st = (.int x, d) :: st' ∧ ls' = lset ls k (.int x, 0) := by
  unfold sStoI at h
  split at h
  · cases h
    exact ⟨_, _, rfl, rfl⟩
  · cases h
theorem sStoL_inv {ls ls' : LsT} {st st' : List AV} {k : Nat} (h : sStoL ls st k = some (ls', st')) : ∃ x d, st = (.long x, d) :: st' ∧ ls' = lset2 ls k (.long x, 0) := by
  unfold sStoL at h
  split at h
  · cases h
    exact ⟨_, _, rfl, rfl⟩
  · cases h
theorem sStoA_inv {ls ls' : LsT} {st st' : List AV} {k : Nat} (h : sStoA ls st k = some (ls', st')) : ∃ x d, st = (.ref x, d) :: st' ∧ ls' = lset ls k (.ref x, d) := by
  unfold sStoA at h
  split at h
  · cases h
    exact ⟨_, _, rfl, rfl⟩
  · cases h
theorem sPop_inv {ls ls' : LsT} {st st' : List AV} (h : sPop ls st = some (ls', st')) : ∃ x d, st = (.int x, d) :: st' ∧ ls' = ls := by
  unfold sPop at h
  split at h
  · cases h
    exact ⟨_, _, rfl, rfl⟩
  · cases h
theorem sDup_inv {ls ls' : LsT} {st st' : List AV} (h : sDup ls st = some (ls', st')) : ∃ v t, st = v :: t ∧ v.1.category = 1 ∧ ls' = ls ∧ st' = v :: v :: t := by
  unfold sDup at h
  split at h
  · cases h
    exact ⟨_, _, rfl, rfl, rfl, rfl⟩
  · cases h
    exact ⟨_, _, rfl, rfl, rfl, rfl⟩
  · cases h
theorem sDup2_inv {ls ls' : LsT} {st st' : List AV} (h : sDup2 ls st = some (ls', st')) : ∃ v u t, st = v :: u :: t ∧ v.1.category = 1 ∧ u.1.category = 1 ∧ ls' = ls ∧ st' = v :: u :: v :: u :: t := by
  unfold sDup2 at h
  split at h
  · cases h
    exact ⟨_, _, _, rfl, rfl, rfl, rfl, rfl⟩
  · cases h
theorem i8_eq {n : Int} (h : n = (Int8.ofInt n).toInt) : (Int8.ofInt n).toInt32 = iN n := by
  unfold iN
  rw [← Int32.toInt_inj]
  have h1 : ((Int8.ofInt n).toInt32).toInt = (Int8.ofInt n).toInt := by simp
  rw [h1, ← h, Int32.toInt_ofInt]
  have h2 := Int8.le_toInt (Int8.ofInt n)
  have h3 := Int8.toInt_lt (Int8.ofInt n)
  rw [← h] at h2 h3
  have h4 : (Int32.size : Int) = 4294967296 := rfl
  exact (Int.bmod_eq_of_le (by omega) (by omega)).symm
theorem i16_eq {n : Int} (h : n = (Int16.ofInt n).toInt) : (Int16.ofInt n).toInt32 = iN n := by
  unfold iN
  rw [← Int32.toInt_inj]
  have h1 : ((Int16.ofInt n).toInt32).toInt = (Int16.ofInt n).toInt := by simp
  rw [h1, ← h, Int32.toInt_ofInt]
  have h2 := Int16.le_toInt (Int16.ofInt n)
  have h3 := Int16.toInt_lt (Int16.ofInt n)
  rw [← h] at h2 h3
  have h4 : (Int32.size : Int) = 4294967296 := rfl
  exact (Int.bmod_eq_of_le (by omega) (by omega)).symm
/-- what a program asks of an instruction that leaves memory alone -/
def okS (mi : MI) (ins : Instr) (aux : Nat) (z : Int) (h : Nat) : Bool := match ins with
  | .bipush n => decide (n = (Int8.ofInt n).toInt)
  | .sipush n => decide (n = (Int16.ofInt n).toInt)
  | .istore k => decide (k < mi.2.2.1)
  | .istore_n k => decide ((k : Nat) < mi.2.2.1)
  | .astore k => decide (k < mi.2.2.1)
  | .astore_n k => decide ((k : Nat) < mi.2.2.1)
  | .lstore k => decide (k + 1 < mi.2.2.1)
  | .lstore_n k => decide ((k : Nat) + 1 < mi.2.2.1)
  | .iinc k _ => decide (k < mi.2.2.1)
  | .ldc i => if aux = 1 then decide (lw_tbl[h]? = some (.constant mi.1.cls i (iN z))) else decide (z.toNat < 9 ∧ ∃ q ∈ STRL, q.1 = mi.1.cls ∧ q.2.1 = i ∧ q.2.2.2 = z.toNat)
  | .ldc_w i => decide (lw_tbl[h]? = some (.constant mi.1.cls i (iN z)))
  | .ldc2_w i => decide (lw_tbl[h]? = some (.constantLong mi.1.cls i (lI z)))
  | _ => true
theorem in_WS {mi : MI} {w : Cond} {h : Nat} (hw : lw_tbl[h]? = some w) (hg : goodWord w = true) : w ∈ WS mi := List.mem_cons_of_mem _ (List.mem_filter.mpr ⟨List.mem_of_getElem? hw, hg⟩)

set_option maxHeartbeats 4000000 in
theorem stepS_ok {l : Launch} {E : EnvT} {d : Nat} {mi : MI} {ins : Instr} {len aux h pc : Nat} {z : Int} {ls ls' : LsT} {st st' : List AV} {Q : State → Prop} {p : Program} {e : Env} {s : State} {m : MethodId} {args : Array Value} {below : List Frame} {meth : Method} {c : Code} {H : Heap} {locs : List Loc} {la : Array Slot}
    (hC : CX E mi p s m args meth c) (hdec : decode mi.2.1 pc = .ok (ins, len)) (hlen : len = ilen ins) (hok : okS mi ins aux z h = true) (hs : stepS ins aux z ls st = some (ls', st')) (hT1 : ∀ q ∈ ls, TV q.2) (hT2 : ∀ v ∈ st, TV v) (hl : lv_has la mi.2.2.1 (cvl E ls))
    (k : ∀ la' : Array Slot, (∀ q ∈ ls', TV q.2) → (∀ v ∈ st', TV v) → lv_has la' mi.2.2.1 (cvl E ls') → W p l e (rmD d) s m args below meth c H locs 0 0 Q (F0 m (pc + len) la' (st'.map (cv E)))) :
    W p l e (rmD d) s m args below meth c H locs 0 0 Q (F0 m pc la (st.map (cv E))) := by
  obtain ⟨hx, hb, hml, hown, hts, hr, hlocks, hKK, hDX, hbs⟩ := hC
  subst hlen
  cases ins with
  | iconst n =>
    obtain ⟨rfl, rfl⟩ := sK_inv hs
    exact lv_iconst hx hb hdec rfl (k la hT1 (cons_TV hT2 trivial) hl)
  | bipush n =>
    obtain ⟨rfl, rfl⟩ := sK_inv hs
    exact lv_bipush hx hb hdec (i8_eq (of_decide_eq_true hok)) (k la hT1 (cons_TV hT2 trivial) hl)
  | sipush n =>
    obtain ⟨rfl, rfl⟩ := sK_inv hs
    exact lv_sipush hx hb hdec (i16_eq (of_decide_eq_true hok)) (k la hT1 (cons_TV hT2 trivial) hl)
  | lconst n =>
    obtain ⟨rfl, rfl⟩ := sK_inv hs
    exact lv_lconst hx hb hdec (by unfold lI; obtain ⟨n, hn⟩ := n; match n, hn with | 0, _ => rfl | 1, _ => rfl) (k la hT1 (cons_TV hT2 trivial) hl)
  | ldc i =>
    simp only [stepS] at hs
    split at hs
    · rename_i ha
      obtain ⟨rfl, rfl⟩ := sK_inv hs
      simp only [okS, ha, if_true] at hok
      exact lv_ldc hx hb hown (hts _ (in_WS (of_decide_eq_true hok) rfl)) hdec (k la hT1 (cons_TV hT2 trivial) hl)
    · rename_i ha
      split at hs
      · cases hs
        simp only [okS, if_neg ha] at hok
        obtain ⟨hz, q, hq, e1, e2, e3⟩ := of_decide_eq_true hok
        have hR := hKK.2.2.2 q hq
        rw [e1, e2, e3] at hR
        have hk := k la hT1 (cons_TV hT2 (Or.inl ⟨rfl, hz⟩)) hl
        exact va_ldcS hx hb hown hR hdec hk
      · cases hs
  | ldc_w i =>
    simp only [stepS] at hs
    split at hs
    · obtain ⟨rfl, rfl⟩ := sK_inv hs
      exact lv_ldcw hx hb hown (hts _ (in_WS (of_decide_eq_true hok) rfl)) hdec (k la hT1 (cons_TV hT2 trivial) hl)
    · cases hs
  | ldc2_w i =>
    simp only [stepS] at hs
    split at hs
    · obtain ⟨rfl, rfl⟩ := sK_inv hs
      exact lv_ldc2 hx hb hown (hts _ (in_WS (of_decide_eq_true hok) rfl)) hdec (k la hT1 (cons_TV hT2 trivial) hl)
    · cases hs
  | iload j =>
    obtain ⟨x, dx, e, rfl, rfl⟩ := sLoadI_inv hs
    exact lv_iload hx hb hdec (cvl_lget hl e) (k la hT1 (cons_TV hT2 trivial) hl)
  | iload_n j =>
    obtain ⟨x, dx, e, rfl, rfl⟩ := sLoadI_inv hs
    exact lv_iload_n hx hb hdec rfl (cvl_lget hl e) (k la hT1 (cons_TV hT2 trivial) hl)
  | lload j =>
    obtain ⟨x, dx, e, rfl, rfl⟩ := sLoadL_inv hs
    exact lv_lload hx hb hdec (cvl_lget hl e) (k la hT1 (cons_TV hT2 trivial) hl)
  | lload_n j =>
    obtain ⟨x, dx, e, rfl, rfl⟩ := sLoadL_inv hs
    exact lv_lload_n hx hb hdec rfl (cvl_lget hl e) (k la hT1 (cons_TV hT2 trivial) hl)
  | aload j =>
    obtain ⟨x, dx, e, rfl, rfl⟩ := sLoadA_inv hs
    obtain ⟨a, ha⟩ := cv_ref E x dx
    have hk := k la hT1 (cons_TV hT2 (hT1 _ (lget_mem e))) hl
    have hg := cvl_lget hl e
    rw [ha] at hg
    simp only [List.map_cons, ha] at hk
    exact lv_aload hx hb hdec hg hk
  | aload_n j =>
    obtain ⟨x, dx, e, rfl, rfl⟩ := sLoadA_inv hs
    obtain ⟨a, ha⟩ := cv_ref E x dx
    have hk := k la hT1 (cons_TV hT2 (hT1 _ (lget_mem e))) hl
    have hg := cvl_lget hl e
    rw [ha] at hg
    simp only [List.map_cons, ha] at hk
    exact lv_aload_n hx hb hdec rfl hg hk
  | istore j =>
    obtain ⟨x, dx, rfl, rfl⟩ := sStoI_inv hs
    exact lv_istore hx hb hdec hl (of_decide_eq_true hok) (cvl_lset E ls _ (.int x, 0)) (fun la2 hl2 => k la2 (lset_TV hT1 trivial) (fun v hv => hT2 v (List.mem_cons_of_mem _ hv)) hl2)
  | lstore j =>
    obtain ⟨x, dx, rfl, rfl⟩ := sStoL_inv hs
    exact lv_lstore hx hb hdec hl (of_decide_eq_true hok) (cvl_lset2 E ls _ (.long x, 0)) (fun la2 hl2 => k la2 (lset2_TV hT1 trivial) (fun v hv => hT2 v (List.mem_cons_of_mem _ hv)) hl2)
  | astore j =>
    obtain ⟨x, dx, rfl, rfl⟩ := sStoA_inv hs
    obtain ⟨a, ha⟩ := cv_ref E x dx
    have hset := cvl_lset E ls (j : Nat) (.ref x, dx)
    rw [ha] at hset
    simp only [List.map_cons, ha]
    exact lv_astore hx hb hdec hl (of_decide_eq_true hok) hset (fun la2 hl2 => k la2 (lset_TV hT1 (hT2 _ List.mem_cons_self)) (fun v hv => hT2 v (List.mem_cons_of_mem _ hv)) hl2)
  | istore_n j =>
    obtain ⟨x, dx, rfl, rfl⟩ := sStoI_inv hs
    exact lv_istore_n hx hb hdec rfl hl (of_decide_eq_true hok) (cvl_lset E ls _ (.int x, 0)) (fun la2 hl2 => k la2 (lset_TV hT1 trivial) (fun v hv => hT2 v (List.mem_cons_of_mem _ hv)) hl2)
  | lstore_n j =>
    obtain ⟨x, dx, rfl, rfl⟩ := sStoL_inv hs
    exact lv_lstore_n hx hb hdec rfl hl (of_decide_eq_true hok) (cvl_lset2 E ls _ (.long x, 0)) (fun la2 hl2 => k la2 (lset2_TV hT1 trivial) (fun v hv => hT2 v (List.mem_cons_of_mem _ hv)) hl2)
  | astore_n j =>
    obtain ⟨x, dx, rfl, rfl⟩ := sStoA_inv hs
    obtain ⟨a, ha⟩ := cv_ref E x dx
    have hset := cvl_lset E ls (j : Nat) (.ref x, dx)
    rw [ha] at hset
    simp only [List.map_cons, ha]
    exact lv_astore_n hx hb hdec rfl hl (of_decide_eq_true hok) hset (fun la2 hl2 => k la2 (lset_TV hT1 (hT2 _ List.mem_cons_self)) (fun v hv => hT2 v (List.mem_cons_of_mem _ hv)) hl2)
  | iinc j n =>
    obtain ⟨x, dx, e, rfl, rfl⟩ := sInc_inv hs
    have hm : (j, cv E (.int x, dx)) ∈ cvl E ls := List.mem_map.mpr ⟨(j, (.int x, dx)), lget_mem e, rfl⟩
    obtain ⟨i, hi⟩ := List.getElem?_of_mem hm
    exact lv_iinc (v := x + iN n) hx hb hdec hl hi rfl (of_decide_eq_true hok) (cvl_lset E ls _ (.int (x + iN n), 0)) (fun la2 hl2 => k la2 (lset_TV hT1 trivial) hT2 hl2)
  | iadd =>
    obtain ⟨x, y, dx, dy, t, rfl, rfl, rfl⟩ := sBin_inv hs
    exact lv_iadd hx hb hdec (k la hT1 (cons_TV (fun v hv => hT2 v (List.mem_cons_of_mem _ (List.mem_cons_of_mem _ hv))) trivial) hl)
  | isub =>
    obtain ⟨x, y, dx, dy, t, rfl, rfl, rfl⟩ := sBin_inv hs
    exact lv_isub hx hb hdec (k la hT1 (cons_TV (fun v hv => hT2 v (List.mem_cons_of_mem _ (List.mem_cons_of_mem _ hv))) trivial) hl)
  | imul =>
    obtain ⟨x, y, dx, dy, t, rfl, rfl, rfl⟩ := sBin_inv hs
    exact lv_imul hx hb hdec (k la hT1 (cons_TV (fun v hv => hT2 v (List.mem_cons_of_mem _ (List.mem_cons_of_mem _ hv))) trivial) hl)
  | iand =>
    obtain ⟨x, y, dx, dy, t, rfl, rfl, rfl⟩ := sBin_inv hs
    exact lv_iand hx hb hdec (k la hT1 (cons_TV (fun v hv => hT2 v (List.mem_cons_of_mem _ (List.mem_cons_of_mem _ hv))) trivial) hl)
  | ior =>
    obtain ⟨x, y, dx, dy, t, rfl, rfl, rfl⟩ := sBin_inv hs
    exact lv_ior hx hb hdec (k la hT1 (cons_TV (fun v hv => hT2 v (List.mem_cons_of_mem _ (List.mem_cons_of_mem _ hv))) trivial) hl)
  | ixor =>
    obtain ⟨x, y, dx, dy, t, rfl, rfl, rfl⟩ := sBin_inv hs
    exact lv_ixor hx hb hdec (k la hT1 (cons_TV (fun v hv => hT2 v (List.mem_cons_of_mem _ (List.mem_cons_of_mem _ hv))) trivial) hl)
  | ishl =>
    obtain ⟨x, y, dx, dy, t, rfl, rfl, rfl⟩ := sBin_inv hs
    exact lv_ishl hx hb hdec (k la hT1 (cons_TV (fun v hv => hT2 v (List.mem_cons_of_mem _ (List.mem_cons_of_mem _ hv))) trivial) hl)
  | ishr =>
    obtain ⟨x, y, dx, dy, t, rfl, rfl, rfl⟩ := sBin_inv hs
    exact lv_ishr hx hb hdec (k la hT1 (cons_TV (fun v hv => hT2 v (List.mem_cons_of_mem _ (List.mem_cons_of_mem _ hv))) trivial) hl)
  | iushr =>
    obtain ⟨x, y, dx, dy, t, rfl, rfl, rfl⟩ := sBin_inv hs
    exact lv_iushr hx hb hdec rfl (k la hT1 (cons_TV (fun v hv => hT2 v (List.mem_cons_of_mem _ (List.mem_cons_of_mem _ hv))) trivial) hl)
  | ineg =>
    obtain ⟨x, dx, t, rfl, rfl, rfl⟩ := sUn_inv hs
    exact lv_ineg hx hb hdec (k la hT1 (cons_TV (fun v hv => hT2 v (List.mem_cons_of_mem _ hv)) trivial) hl)
  | i2b =>
    obtain ⟨x, dx, t, rfl, rfl, rfl⟩ := sUn_inv hs
    exact lv_i2b hx hb hdec rfl (k la hT1 (cons_TV (fun v hv => hT2 v (List.mem_cons_of_mem _ hv)) trivial) hl)
  | i2s =>
    obtain ⟨x, dx, t, rfl, rfl, rfl⟩ := sUn_inv hs
    exact lv_i2s hx hb hdec rfl (k la hT1 (cons_TV (fun v hv => hT2 v (List.mem_cons_of_mem _ hv)) trivial) hl)
  | i2c =>
    obtain ⟨x, dx, t, rfl, rfl, rfl⟩ := sUn_inv hs
    exact lv_i2c hx hb hdec rfl (k la hT1 (cons_TV (fun v hv => hT2 v (List.mem_cons_of_mem _ hv)) trivial) hl)
  | ladd =>
    obtain ⟨x, y, dx, dy, t, rfl, rfl, rfl⟩ := sBinL_inv hs
    exact lv_ladd hx hb hdec (k la hT1 (cons_TV (fun v hv => hT2 v (List.mem_cons_of_mem _ (List.mem_cons_of_mem _ hv))) trivial) hl)
  | lsub =>
    obtain ⟨x, y, dx, dy, t, rfl, rfl, rfl⟩ := sBinL_inv hs
    exact lv_lsub hx hb hdec (k la hT1 (cons_TV (fun v hv => hT2 v (List.mem_cons_of_mem _ (List.mem_cons_of_mem _ hv))) trivial) hl)
  | lmul =>
    obtain ⟨x, y, dx, dy, t, rfl, rfl, rfl⟩ := sBinL_inv hs
    exact lv_lmul hx hb hdec (k la hT1 (cons_TV (fun v hv => hT2 v (List.mem_cons_of_mem _ (List.mem_cons_of_mem _ hv))) trivial) hl)
  | land =>
    obtain ⟨x, y, dx, dy, t, rfl, rfl, rfl⟩ := sBinL_inv hs
    exact lv_land hx hb hdec (k la hT1 (cons_TV (fun v hv => hT2 v (List.mem_cons_of_mem _ (List.mem_cons_of_mem _ hv))) trivial) hl)
  | lor =>
    obtain ⟨x, y, dx, dy, t, rfl, rfl, rfl⟩ := sBinL_inv hs
    exact lv_lor hx hb hdec (k la hT1 (cons_TV (fun v hv => hT2 v (List.mem_cons_of_mem _ (List.mem_cons_of_mem _ hv))) trivial) hl)
  | lshl =>
    obtain ⟨x, y, dx, dy, t, rfl, rfl, rfl⟩ := sShL_inv hs
    exact lv_lshl hx hb hdec rfl (k la hT1 (cons_TV (fun v hv => hT2 v (List.mem_cons_of_mem _ (List.mem_cons_of_mem _ hv))) trivial) hl)
  | i2l =>
    obtain ⟨x, dx, t, rfl, rfl, rfl⟩ := sIL_inv hs
    exact lv_i2l hx hb hdec rfl (k la hT1 (cons_TV (fun v hv => hT2 v (List.mem_cons_of_mem _ hv)) trivial) hl)
  | l2i =>
    obtain ⟨x, dx, t, rfl, rfl, rfl⟩ := sLI_inv hs
    exact lv_l2i hx hb hdec rfl (k la hT1 (cons_TV (fun v hv => hT2 v (List.mem_cons_of_mem _ hv)) trivial) hl)
  | lcmp =>
    obtain ⟨x, y, dx, dy, t, rfl, rfl, rfl⟩ := sCmp_inv hs
    exact W.lcmp hx hb hdec (k la hT1 (cons_TV (fun v hv => hT2 v (List.mem_cons_of_mem _ (List.mem_cons_of_mem _ hv))) trivial) hl)
  | dup =>
    obtain ⟨v, t, rfl, hc, rfl, rfl⟩ := sDup_inv hs
    exact lv_dup hx hb hdec (by rw [cv_cat]; exact hc) (k la hT1 (cons_TV hT2 (hT2 _ List.mem_cons_self)) hl)
  | dup2 =>
    obtain ⟨v, u, t, rfl, hc, hd, rfl, rfl⟩ := sDup2_inv hs
    exact lv_dup2_11 hx hb hdec (by rw [cv_cat]; exact hc) (by rw [cv_cat]; exact hd) (k la hT1 (cons_TV (cons_TV hT2 (hT2 _ (List.mem_cons_of_mem _ List.mem_cons_self))) (hT2 _ List.mem_cons_self)) hl)
  | pop =>
    obtain ⟨x, dx, rfl, rfl⟩ := sPop_inv hs
    exact lv_pop hx hb hdec rfl (k la hT1 (fun v hv => hT2 v (List.mem_cons_of_mem _ hv)) hl)
  | _ => cases hs
end
section
theorem iN_toInt (x : Int32) : iN x.toInt = x := Int32.ofInt_toInt x
theorem lI_toInt (x : Int64) : lI x.toInt = x := Int64.ofInt_toInt x
theorem flds_get (E : EnvT) (M : Mem) (r c : Nat) : ∀ (pl : List (Nat × Nat)) (j k : Nat), (flds E M r c j pl)[k]? = (pl[k]?).map (fval E M r c (j + k))
  | [], j, k => by simp [flds]
  | q :: t, j, 0 => by simp [flds]
  | q :: t, j, k + 1 => by
    show (flds E M r c (j + 1) t)[k]? = (t[k]?).map _
    rw [flds_get E M r c t (j + 1) k]
    congr 2
    omega
theorem fval_congr (E : EnvT) {M M' : Mem} {r c k : Nat} (q : Nat × Nat) (h : M' r c k = M r c k) : fval E M' r c k q = fval E M r c k q := by
  unfold fval
  rw [h]
theorem flds_congr (E : EnvT) {M M' : Mem} {r c : Nat} (pl : List (Nat × Nat)) (j : Nat) (h : M' r c = M r c) : flds E M' r c j pl = flds E M r c j pl := by
  apply List.ext_getElem?
  intro k
  rw [flds_get, flds_get]
  congr 1
  funext q
  exact fval_congr E q (by rw [h])
theorem cellOf_congr (E : EnvT) {M M' : Mem} {r dd : Nat} (h : M' r (dsc dd).1 = M r (dsc dd).1) : cellOf E M' r dd = cellOf E M r dd := by
  unfold cellOf
  rw [h, flds_congr E _ _ h]
theorem flds_len (E : EnvT) (M : Mem) (r c : Nat) : ∀ (pl : List (Nat × Nat)) (j : Nat), (flds E M r c j pl).length = pl.length
  | [], _ => rfl
  | _ :: t, j => by simp [flds, flds_len E M r c t (j + 1)]
theorem flds_set (E : EnvT) {M M' : Mem} {r c k : Nat} {pl : List (Nat × Nat)} {q : Nat × Nat} {v : Value} (hq : pl[k]? = some q) (hv : fval E M' r c k q = v) (h : ∀ j, j ≠ k → M' r c j = M r c j) : (flds E M r c 0 pl).set k v = flds E M' r c 0 pl := by
  apply List.ext_getElem?
  intro j
  rw [List.getElem?_set, flds_get, flds_get, flds_len]
  simp only [Nat.zero_add]
  split
  · rename_i e
    subst e
    rw [hq, if_pos (List.getElem?_eq_some_iff.mp hq).1]
    simp [hv]
  · rename_i e
    congr 1
    funext q
    exact (fval_congr E q (h j (fun z => e z.symm))).symm
theorem CL_apart : ∀ p ∈ CL, ∀ q ∈ CL, p.1 = q.1 → (dsc p.2).1 = (dsc q.2).1 → p.2 = q.2 := by decide +kernel
theorem CL_not999 : ∀ p ∈ CL, p.2 ≠ 999 := by decide +kernel
theorem WL_set {E : EnvT} {M M' : Mem} {r dd q0 : Nat} {ce : va_E} (hq : CL[q0]? = some (r, dd)) (h1 : cellOf E M' r dd = ce) (h2 : ∀ r' c', ¬ (r' = r ∧ c' = (dsc dd).1) → M' r' c' = M r' c') : (WL E M).set q0 (al E r dd, ce) = WL E M' := by
  apply List.ext_getElem?
  intro j
  rw [List.getElem?_set, WL_at, WL_at]
  split
  · rename_i e
    subst e
    rw [hq]
    have hlt : q0 < (WL E M).length := by
      unfold WL
      rw [List.length_map]
      exact (List.getElem?_eq_some_iff.mp hq).1
    simp [hlt, h1]
  · rename_i e
    cases hj : CL[j]? with
    | none => rfl
    | some q =>
      obtain ⟨r', dd'⟩ := q
      simp only [Option.map_some]
      rw [cellOf_congr E (h2 r' (dsc dd').1 ?_)]
      rintro ⟨rfl, ec⟩
      have e1 := CL_apart (r', dd') (List.mem_of_getElem? hj) (r', dd) (List.mem_of_getElem? hq) rfl ec
      subst e1
      have hj' := (List.getElem?_eq_some_iff.mp hj)
      have hq' := (List.getElem?_eq_some_iff.mp hq)
      exact e ((List.getElem_inj (h₀ := hq'.1) (h₁ := hj'.1) CL_nd).mp (hq'.2.trans hj'.2.symm))
theorem TV_CL {r dd : Nat} (h : TV (.ref r, dd)) (hd : dd ≠ 999) : ∃ q0 : Nat, CL[q0]? = some (r, dd) := by
  rcases h with ⟨h, -⟩ | ⟨-, h⟩
  · exact absurd h hd
  · exact List.getElem?_of_mem h
theorem cv_al (E : EnvT) {r dd : Nat} (hd : dd ≠ 999) : cv E (.ref r, dd) = .ref (al E r dd) := by
  show (if dd = 999 then Value.ref (eK E r) else Value.ref (al E r dd)) = _
  rw [if_neg hd]
theorem tag_ne {dd n : Nat} (h : (dsc dd).2.1 = n) (hn : n ≠ 999) : dd ≠ 999 := by
  intro e
  rw [e] at h
  exact hn (h.symm.trans (by decide +kernel))
abbrev CtR : Type := Option (List Prop × List AV × Mem)
def cDivI (st : List AV) (M : Mem) : CtR := match st with
  | (.int y, _) :: (.int x, _) :: t => some ([¬ y = 0], (.int (x / y), 0) :: t, M)
  | _ => none
def cRemI (st : List AV) (M : Mem) : CtR := match st with
  | (.int y, _) :: (.int x, _) :: t => some ([¬ y = 0], (.int (iR x y), 0) :: t, M)
  | _ => none
def cDivL (st : List AV) (M : Mem) : CtR := match st with
  | (.long y, _) :: (.long x, _) :: t => some ([¬ y = 0], (.long (x / y), 0) :: t, M)
  | _ => none
def cRemL (st : List AV) (M : Mem) : CtR := match st with
  | (.long y, _) :: (.long x, _) :: t => some ([¬ y = 0], (.long (lR x y), 0) :: t, M)
  | _ => none
def fget (M : Mem) (r c k : Nat) (q : Nat × Nat) : List Prop × AV := match q.1 with
  | 0 => ([], (.int (iN (M r c k)), 0))
  | 1 => ([], (.long (lI (M r c k)), 0))
  | 2 => ([], (.int (iN (M r c k)), 0))
  | 3 => ([], (.ref r, q.2))
  | 4 => ([], (.ref (q.2 / 1000), q.2 % 1000))
  | _ => ([((M r c k).toNat, q.2) ∈ CL], (.ref (M r c k).toNat, q.2))
def cGet (k ci : Nat) (st : List AV) (M : Mem) : CtR := match st with
  | (.ref r, dd) :: t => if (dsc dd).2.1 = ci then (match (dsc dd).2.2[k]? with
    | some q => some ((fget M r (dsc dd).1 k q).1, (fget M r (dsc dd).1 k q).2 :: t, M)
    | none => none) else none
  | _ => none
def fput (M : Mem) (r c k : Nat) (q : Nat × Nat) (v : AV) : Option (List Prop × Mem) := match q.1 with
  | 0 => (match v.1 with
    | .int x => some ([], upd3 M r c k x.toInt)
    | _ => none)
  | 1 => (match v.1 with
    | .long x => some ([], upd3 M r c k x.toInt)
    | _ => none)
  | 2 => (match v.1 with
    | .int x => some ([x = 0 ∨ x = 1], upd3 M r c k x.toInt)
    | _ => none)
  | 5 => (match v.1 with
    | .ref x => if v.2 = q.2 then some ([], upd3 M r c k (x : Int)) else none
    | _ => none)
  | _ => none
def cPut (k ci : Nat) (st : List AV) (M : Mem) : CtR := match st with
  | v :: (.ref r, dd) :: t => if (dsc dd).2.1 = ci then (match (dsc dd).2.2[k]? with
    | some q => (match fput M r (dsc dd).1 k q v with
      | some (P, M') => some (P, t, M')
      | none => none)
    | none => none) else none
  | _ => none
def dlen (dd : Nat) : Nat := ((dsc dd).2.2.headD (0, 0)).1
def cAldI (tag : Nat) (st : List AV) (M : Mem) : CtR := match st with
  | (.int i, _) :: (.ref r, dd) :: t => if (dsc dd).2.1 = tag then some ([vp_in i (dlen dd)], (.int (iN (M r (dsc dd).1 i.toNatClampNeg)), 0) :: t, M) else none
  | _ => none
def cAldL (st : List AV) (M : Mem) : CtR := match st with
  | (.int i, _) :: (.ref r, dd) :: t => if (dsc dd).2.1 = 101 then some ([vp_in i (dlen dd)], (.long (lI (M r (dsc dd).1 i.toNatClampNeg)), 0) :: t, M) else none
  | _ => none
def cAldQ (st : List AV) (M : Mem) : CtR := match st with
  | (.int i, _) :: (.ref _, dd) :: t => if 103 ≤ (dsc dd).2.1 ∧ (dsc dd).2.1 ≤ 105 then some ([vp_in i (dsc dd).2.2.length], (.ref ((dsc dd).2.2.getD i.toNatClampNeg (0, 0)).1, ((dsc dd).2.2.headD (0, 0)).2) :: t, M) else none
  | _ => none
def cAstI (st : List AV) (M : Mem) : CtR := match st with
  | (.int x, _) :: (.int i, _) :: (.ref r, dd) :: t => if (dsc dd).2.1 = 100 then some ([vp_in i (dlen dd)], t, upd3 M r (dsc dd).1 i.toNatClampNeg x.toInt) else none
  | _ => none
def cAstB (st : List AV) (M : Mem) : CtR := match st with
  | (.int x, _) :: (.int i, _) :: (.ref r, dd) :: t => if (dsc dd).2.1 = 102 then some ([vp_in i (dlen dd)], t, upd3 M r (dsc dd).1 i.toNatClampNeg (x.toInt8.toInt32).toInt) else none
  | _ => none
def cAstL (st : List AV) (M : Mem) : CtR := match st with
  | (.long x, _) :: (.int i, _) :: (.ref r, dd) :: t => if (dsc dd).2.1 = 101 then some ([vp_in i (dlen dd)], t, upd3 M r (dsc dd).1 i.toNatClampNeg x.toInt) else none
  | _ => none
def cLen (st : List AV) (M : Mem) : CtR := match st with
  | (.ref _, dd) :: t => if (dsc dd).2.1 = 100 ∨ (dsc dd).2.1 = 101 ∨ (dsc dd).2.1 = 102 then some ([], (.int (iN (dlen dd)), 0) :: t, M) else none
  | _ => none
def stepC (ins : Instr) (aux : Nat) (z : Int) (st : List AV) (M : Mem) : CtR := match ins with
  | .idiv => cDivI st M
  | .irem => cRemI st M
  | .ldiv => cDivL st M
  | .lrem => cRemL st M
  | .getfield _ => cGet aux z.toNat st M
  | .putfield _ => cPut aux z.toNat st M
  | .iaload => cAldI 100 st M
  | .baload => cAldI 102 st M
  | .laload => cAldL st M
  | .aaload => cAldQ st M
  | .iastore => cAstI st M
  | .bastore => cAstB st M
  | .lastore => cAstL st M
  | .arraylength => cLen st M
  | _ => none
def okC (mi : MI) (ins : Instr) (aux : Nat) (z : Int) (h : Nat) : Bool := match ins with
  | .getfield i => (match vCl[z.toNat]? with
    | some q => decide (aux < q.2.2) && decide (lw_tbl[h]? = some (.fieldLink mi.1.cls i (q.2.1 aux).1 (q.2.1 aux).2.1 (q.2.1 aux).2.2.1))
    | none => false)
  | .putfield i => (match vCl[z.toNat]? with
    | some q => decide (aux < q.2.2) && (decide ((q.2.1 aux).2.2.2 = false) && decide (lw_tbl[h]? = some (.fieldLink mi.1.cls i (q.2.1 aux).1 (q.2.1 aux).2.1 (q.2.1 aux).2.2.1)))
    | none => false)
  | _ => true
def kTy (k : Nat) (t : FieldType) : Bool := match k, t with
  | 0, .int => true
  | 1, .long => true
  | 2, .boolean => true
  | 3, .object _ => true
  | 3, .array _ => true
  | 4, .object _ => true
  | 4, .array _ => true
  | 5, .object _ => true
  | 5, .array _ => true
  | _, _ => false
def clTy (ci k : Nat) : FieldType := (tyCl.getD ci (fun _ => .int)) k
theorem cl_words : ∀ q ∈ vCl, ∀ w ∈ u_ws q.1 q.2.1 q.2.2, w ∈ lw_tbl.filter goodWord := by decide +kernel
theorem cl_nm : ∀ q ∈ vCl, ∀ a, a < q.2.2 → ∀ b, b < q.2.2 → a ≠ b → (q.2.1 a).2.1 ≠ (q.2.1 b).2.1 := by decide +kernel
theorem cl_ty : ∀ ci, ci < 12 → ∀ q ∈ vCl[ci]?, ∀ k, k < q.2.2 → parseFieldDescriptor (q.2.1 k).2.2.1 = some (clTy ci k) := by decide +kernel
theorem dl_ty : ∀ dd, dd < 55 → (dsc dd).2.1 < 12 → ∀ k, k < (dsc dd).2.2.length → kTy ((dsc dd).2.2.getD k (0, 0)).1 (clTy (dsc dd).2.1 k) = true := by decide +kernel
theorem dl_same : ∀ p ∈ CL, ∀ q ∈ (dsc p.2).2.2, (dsc p.2).2.1 < 100 → (q.1 = 3 → (p.1, q.2) ∈ CL ∧ q.2 ≠ 999) ∧ (q.1 = 4 → (q.2 / 1000, q.2 % 1000) ∈ CL ∧ q.2 % 1000 ≠ 999) := by decide +kernel
theorem dl_arr : ∀ p ∈ CL, ∀ q ∈ (dsc p.2).2.2, 103 ≤ (dsc p.2).2.1 → q.2 = ((dsc p.2).2.2.headD (0, 0)).2 ∧ q ∈ CL ∧ q.2 ≠ 999 := by decide +kernel
theorem dl_lt : ∀ p ∈ CL, p.2 < 55 := by decide +kernel
end
section
def andL : List Prop → Prop → Prop
  | [], q => q
  | p :: t, q => p ∧ andL t q
theorem andL_app : ∀ (l : List Prop) {q : Prop}, andL l q → q
  | [], _, h => h
  | _ :: t, _, h => andL_app t h.2
theorem upd3_same (M : Mem) (r c k : Nat) (v : Int) : upd3 M r c k v r c k = v := by simp [upd3]
theorem upd3_k (M : Mem) (r c k : Nat) (v : Int) (j : Nat) (h : j ≠ k) : upd3 M r c k v r c j = M r c j := by simp [upd3, h]
theorem upd3_off (M : Mem) (r c k : Nat) (v : Int) (r' c' : Nat) (h : ¬ (r' = r ∧ c' = c)) : upd3 M r c k v r' c' = M r' c' := by
  funext j
  unfold upd3
  rw [if_neg]
  rintro ⟨h1, h2, -⟩
  exact h ⟨h1, h2⟩
theorem cell_obj (E : EnvT) (M : Mem) {r dd : Nat} (h : (dsc dd).2.1 < 100) : cellOf E M r dd = .inr ((dsc dd).2.1, flds E M r (dsc dd).1 0 (dsc dd).2.2) := by
  unfold cellOf
  rw [if_pos h]
theorem cell_int (E : EnvT) (M : Mem) {r dd : Nat} (h : (dsc dd).2.1 = 100) : cellOf E M r dd = .inl (eC E 0, dlen dd, .inl (fun k => iN (M r (dsc dd).1 k))) := by
  unfold cellOf
  rw [h]
  rfl
theorem cell_long (E : EnvT) (M : Mem) {r dd : Nat} (h : (dsc dd).2.1 = 101) : cellOf E M r dd = .inl (eC E 1, dlen dd, .inr (.inl (fun k => lI (M r (dsc dd).1 k)))) := by
  unfold cellOf
  rw [h]
  rfl
theorem cell_byte (E : EnvT) (M : Mem) {r dd : Nat} (h : (dsc dd).2.1 = 102) : cellOf E M r dd = .inl (eC E 2, dlen dd, .inl (fun k => iN (M r (dsc dd).1 k))) := by
  unfold cellOf
  rw [h]
  rfl
theorem cell_ref (E : EnvT) (M : Mem) {r dd : Nat} (h : 103 ≤ (dsc dd).2.1) : cellOf E M r dd = .inl (eC E ((dsc dd).2.1 - 100), (dsc dd).2.2.length, .inr (.inr (.inr (.inr (fun k => ((dsc dd).2.2[k]?).map (fun q => al E q.1 q.2)))))) := by
  unfold cellOf
  rw [if_neg (by omega), if_neg (by omega), if_neg (by omega), if_neg (by omega)]
theorem WL_cell {E : EnvT} {M : Mem} {r dd q0 : Nat} (hq : CL[q0]? = some (r, dd)) : (WL E M)[q0]? = some (al E r dd, cellOf E M r dd) := by
  rw [WL_at, hq]
  rfl
theorem arr_upd {M : Mem} {r c : Nat} {i : Int32} {v : Int} {x : Int32} (hv : iN v = x) : upd (fun k => iN (M r c k)) i.toNatClampNeg x = fun k => iN (upd3 M r c i.toNatClampNeg v r c k) := by
  funext k
  unfold upd upd3
  by_cases h : k = i.toNatClampNeg
  · simp [h, hv]
  · simp [h]
theorem arr_updL {M : Mem} {r c : Nat} {i : Int32} {v : Int} {x : Int64} (hv : lI v = x) : vp_updL (fun k => lI (M r c k)) i.toNatClampNeg x = fun k => lI (upd3 M r c i.toNatClampNeg v r c k) := by
  funext k
  unfold vp_updL upd3
  by_cases h : k = i.toNatClampNeg
  · simp [h, hv]
  · simp [h]
theorem cGet_inv {k ci : Nat} {st st' : List AV} {M M' : Mem} {P : List Prop} (h : cGet k ci st M = some (P, st', M')) : ∃ r dd t q, st = (.ref r, dd) :: t ∧ (dsc dd).2.1 = ci ∧ (dsc dd).2.2[k]? = some q ∧ P = (fget M r (dsc dd).1 k q).1 ∧ st' = (fget M r (dsc dd).1 k q).2 :: t ∧ M' = M := by
  unfold cGet at h
  split at h
  · rename_i r dd t
    split at h
    · rename_i h1
      split at h
      · rename_i q hq
        cases h
        exact ⟨r, dd, t, q, rfl, h1, hq, rfl, rfl, rfl⟩
      · cases h
    · cases h
  · cases h
theorem cPut_inv {k ci : Nat} {st st' : List AV} {M M' : Mem} {P : List Prop} (h : cPut k ci st M = some (P, st', M')) : ∃ v r dd q, st = v :: (.ref r, dd) :: st' ∧ (dsc dd).2.1 = ci ∧ (dsc dd).2.2[k]? = some q ∧ fput M r (dsc dd).1 k q v = some (P, M') := by
  unfold cPut at h
  split at h
  · rename_i v r dd t
    split at h
    · rename_i h1
      split at h
      · rename_i q hq
        split at h
        · rename_i P' M'' hp
          cases h
          exact ⟨v, r, dd, q, rfl, h1, hq, hp⟩
        · cases h
      · cases h
    · cases h
  · cases h
theorem cAldI_inv {tag : Nat} {st st' : List AV} {M M' : Mem} {P : List Prop} (h : cAldI tag st M = some (P, st', M')) : ∃ i di r dd t, st = (.int i, di) :: (.ref r, dd) :: t ∧ (dsc dd).2.1 = tag ∧ P = [vp_in i (dlen dd)] ∧ st' = (.int (iN (M r (dsc dd).1 i.toNatClampNeg)), 0) :: t ∧ M' = M := by
  unfold cAldI at h
  split at h
  · split at h
    · rename_i h1
      cases h
      exact ⟨_, _, _, _, _, rfl, h1, rfl, rfl, rfl⟩
    · cases h
  · cases h
theorem cAldL_inv {st st' : List AV} {M M' : Mem} {P : List Prop} (h : cAldL st M = some (P, st', M')) : ∃ i di r dd t, st = (.int i, di) :: (.ref r, dd) :: t ∧ (dsc dd).2.1 = 101 ∧ P = [vp_in i (dlen dd)] ∧ st' = (.long (lI (M r (dsc dd).1 i.toNatClampNeg)), 0) :: t ∧ M' = M := by
  unfold cAldL at h
  split at h
  · split at h
    · rename_i h1
      cases h
      exact ⟨_, _, _, _, _, rfl, h1, rfl, rfl, rfl⟩
    · cases h
  · cases h
theorem cAldQ_inv {st st' : List AV} {M M' : Mem} {P : List Prop} (h : cAldQ st M = some (P, st', M')) : ∃ i di r dd t, st = (.int i, di) :: (.ref r, dd) :: t ∧ (103 ≤ (dsc dd).2.1 ∧ (dsc dd).2.1 ≤ 105) ∧ P = [vp_in i (dsc dd).2.2.length] ∧ st' = (.ref ((dsc dd).2.2.getD i.toNatClampNeg (0, 0)).1, ((dsc dd).2.2.headD (0, 0)).2) :: t ∧ M' = M := by
  unfold cAldQ at h
  split at h
  · split at h
    · rename_i h1
      cases h
      exact ⟨_, _, _, _, _, rfl, h1, rfl, rfl, rfl⟩
    · cases h
  · cases h
theorem cAstI_inv {st st' : List AV} {M M' : Mem} {P : List Prop} (h : cAstI st M = some (P, st', M')) : ∃ x dx i di r dd, st = (.int x, dx) :: (.int i, di) :: (.ref r, dd) :: st' ∧ (dsc dd).2.1 = 100 ∧ P = [vp_in i (dlen dd)] ∧ M' = upd3 M r (dsc dd).1 i.toNatClampNeg x.toInt := by
  unfold cAstI at h
  split at h
  · split at h
    · rename_i h1
      cases h
      exact ⟨_, _, _, _, _, _, rfl, h1, rfl, rfl⟩
    · cases h
  · cases h
theorem cAstB_inv {st st' : List AV} {M M' : Mem} {P : List Prop} (h : cAstB st M = some (P, st', M')) : ∃ x dx i di r dd, st = (.int x, dx) :: (.int i, di) :: (.ref r, dd) :: st' ∧ (dsc dd).2.1 = 102 ∧ P = [vp_in i (dlen dd)] ∧ M' = upd3 M r (dsc dd).1 i.toNatClampNeg (x.toInt8.toInt32).toInt := by
  unfold cAstB at h
  split at h
  · split at h
    · rename_i h1
      cases h
      exact ⟨_, _, _, _, _, _, rfl, h1, rfl, rfl⟩
    · cases h
  · cases h
theorem cAstL_inv {st st' : List AV} {M M' : Mem} {P : List Prop} (h : cAstL st M = some (P, st', M')) : ∃ x dx i di r dd, st = (.long x, dx) :: (.int i, di) :: (.ref r, dd) :: st' ∧ (dsc dd).2.1 = 101 ∧ P = [vp_in i (dlen dd)] ∧ M' = upd3 M r (dsc dd).1 i.toNatClampNeg x.toInt := by
  unfold cAstL at h
  split at h
  · split at h
    · rename_i h1
      cases h
      exact ⟨_, _, _, _, _, _, rfl, h1, rfl, rfl⟩
    · cases h
  · cases h
theorem cLen_inv {st st' : List AV} {M M' : Mem} {P : List Prop} (h : cLen st M = some (P, st', M')) : ∃ r dd t, st = (.ref r, dd) :: t ∧ ((dsc dd).2.1 = 100 ∨ (dsc dd).2.1 = 101 ∨ (dsc dd).2.1 = 102) ∧ P = [] ∧ st' = (.int (iN (dlen dd)), 0) :: t ∧ M' = M := by
  unfold cLen at h
  split at h
  · split at h
    · rename_i h1
      cases h
      exact ⟨_, _, _, rfl, h1, rfl, rfl, rfl⟩
    · cases h
  · cases h
theorem cDivI_inv {st st' : List AV} {M M' : Mem} {P : List Prop} (h : cDivI st M = some (P, st', M')) : ∃ x y dx dy t, st = (.int y, dy) :: (.int x, dx) :: t ∧ P = [¬ y = 0] ∧ st' = (.int (x / y), 0) :: t ∧ M' = M := by
  unfold cDivI at h
  split at h
  · cases h
    exact ⟨_, _, _, _, _, rfl, rfl, rfl, rfl⟩
  · cases h
theorem cRemI_inv {st st' : List AV} {M M' : Mem} {P : List Prop} (h : cRemI st M = some (P, st', M')) : ∃ x y dx dy t, st = (.int y, dy) :: (.int x, dx) :: t ∧ P = [¬ y = 0] ∧ st' = (.int (iR x y), 0) :: t ∧ M' = M := by
  unfold cRemI at h
  split at h
  · cases h
    exact ⟨_, _, _, _, _, rfl, rfl, rfl, rfl⟩
  · cases h
theorem cDivL_inv {st st' : List AV} {M M' : Mem} {P : List Prop} (h : cDivL st M = some (P, st', M')) : ∃ x y dx dy t, st = (.long y, dy) :: (.long x, dx) :: t ∧ P = [¬ y = 0] ∧ st' = (.long (x / y), 0) :: t ∧ M' = M := by
  unfold cDivL at h
  split at h
  · cases h
    exact ⟨_, _, _, _, _, rfl, rfl, rfl, rfl⟩
  · cases h
theorem cRemL_inv {st st' : List AV} {M M' : Mem} {P : List Prop} (h : cRemL st M = some (P, st', M')) : ∃ x y dx dy t, st = (.long y, dy) :: (.long x, dx) :: t ∧ P = [¬ y = 0] ∧ st' = (.long (lR x y), 0) :: t ∧ M' = M := by
  unfold cRemL at h
  split at h
  · cases h
    exact ⟨_, _, _, _, _, rfl, rfl, rfl, rfl⟩
  · cases h
theorem fput_kind {E : EnvT} {M M' : Mem} {r c k : Nat} {q : Nat × Nat} {v : AV} {P : List Prop} {ty : FieldType} (h : fput M r c k q v = some (P, M')) (hk : kTy q.1 ty = true) (hP : andL P True) : narrow ty (cv E v) = cv E v ∧ fits ty (cv E v) = true ∧ fval E M' r c k q = (if q.1 = 5 then (if v.2 = 999 then .ref (al E (toR v) q.2) else cv E v) else cv E v) ∧ (∀ j, j ≠ k → M' r c j = M r c j) ∧ (∀ r' c', ¬ (r' = r ∧ c' = c) → M' r' c' = M r' c') ∧ (q.1 = 5 → v.2 = q.2) := by
  obtain ⟨v, dv⟩ := v
  obtain ⟨a, b⟩ := q
  unfold fput at h
  split at h
  · rename_i e
    simp only at e
    subst e
    split at h
    · rename_i x e2
      simp only at e2
      subst e2
      cases h
      cases ty <;> first | (simp [kTy] at hk; done) | skip
      refine ⟨rfl, rfl, ?_, upd3_k M r c k _, upd3_off M r c k _, fun z => by cases z⟩
      show Value.int (iN (upd3 M r c k x.toInt r c k)) = _
      rw [upd3_same, iN_toInt]
      rfl
    · cases h
  · rename_i e
    simp only at e
    subst e
    split at h
    · rename_i x e2
      simp only at e2
      subst e2
      cases h
      cases ty <;> first | (simp [kTy] at hk; done) | skip
      refine ⟨rfl, rfl, ?_, upd3_k M r c k _, upd3_off M r c k _, fun z => by cases z⟩
      show Value.long (lI (upd3 M r c k x.toInt r c k)) = _
      rw [upd3_same, lI_toInt]
      rfl
    · cases h
  · rename_i e
    simp only at e
    subst e
    split at h
    · rename_i x e2
      simp only at e2
      subst e2
      cases h
      cases ty <;> first | (simp [kTy] at hk; done) | skip
      refine ⟨?_, ?_, ?_, upd3_k M r c k _, upd3_off M r c k _, fun z => by cases z⟩
      · rcases hP.1 with h0 | h0 <;> (rw [h0, cv_int]; decide +kernel)
      · rcases hP.1 with h0 | h0 <;> (rw [h0, cv_int]; decide +kernel)
      · show Value.int (iN (upd3 M r c k x.toInt r c k)) = _
        rw [upd3_same, iN_toInt]
        rfl
    · cases h
  · rename_i e
    simp only at e
    subst e
    split at h
    · rename_i x e2
      simp only at e2
      subst e2
      split at h
      · rename_i e3
        simp only at e3
        cases h
        obtain ⟨a2, ha2⟩ := cv_ref E x dv
        rw [ha2]
        refine ⟨?_, ?_, ?_, upd3_k M r c k _, upd3_off M r c k _, fun _ => e3⟩
        · cases ty <;> first | (simp [kTy] at hk; done) | rfl
        · cases ty <;> first | (simp [kTy] at hk; done) | rfl
        · show Value.ref (al E (upd3 M r c k (x : Int) r c k).toNat b) = _
          rw [upd3_same, if_pos rfl]
          simp only [toR, Int.toNat_natCast]
          split
          · rfl
          · rename_i h9
            rw [← ha2, cv_al E h9, ← e3]
      · cases h
    · cases h
  · cases h
end
section
set_option maxHeartbeats 4000000 in
theorem stepC_ok {l : Launch} {E : EnvT} {d : Nat} {mi : MI} {ins : Instr} {len aux h pc : Nat} {z : Int} {st st' : List AV} {M M' : Mem} {P : List Prop} {Q : State → Prop} {p : Program} {e : Env} {s : State} {m : MethodId} {args : Array Value} {below : List Frame} {meth : Method} {c : Code} {H : Heap} {locs : List Loc} {la : Array Slot}
    (hC : CX E mi p s m args meth c) (hdec : decode mi.2.1 pc = .ok (ins, len)) (hlen : len = ilen ins) (hok : okC mi ins aux z h = true) (hs : stepC ins aux z st M = some (P, st', M')) (hH : HX E M H) (hS : va_S (Ab E) s.heap H locs) (hT2 : ∀ v ∈ st, TV v) (hP : andL P True)
    (k : ∀ (H' : Heap) (locs' : List Loc), HX E M' H' → va_S (Ab E) s.heap H' locs' → (∀ v ∈ st', TV v) → W p l e (rmD d) s m args below meth c H' locs' 0 0 Q (F0 m (pc + len) la (st'.map (cv E)))) :
    W p l e (rmD d) s m args below meth c H locs 0 0 Q (F0 m pc la (st.map (cv E))) := by
  obtain ⟨hx, hb, hml, hown, hts, hr, hlocks, hKK, hDX, hbs⟩ := hC
  have hD := hDX.all M
  have hK := hKK.1
  subst hlen
  have tl1 : ∀ {a : AV} {t : List AV}, (∀ v ∈ a :: t, TV v) → ∀ v ∈ t, TV v := fun h v hv => h v (List.mem_cons_of_mem _ hv)
  have hwords : ∀ {q : vw_C}, q ∈ vCl → ∀ w ∈ u_ws q.1 q.2.1 q.2.2, w ∈ WS mi := fun hq w hw => List.mem_cons_of_mem _ (cl_words _ hq w hw)
  cases ins with
  | idiv =>
    obtain ⟨x, y, dx, dy, t, rfl, rfl, rfl, rfl⟩ := cDivI_inv hs
    exact lv_idiv hx hb hdec hP.1 (k H locs hH hS (cons_TV (tl1 (tl1 hT2)) trivial))
  | irem =>
    obtain ⟨x, y, dx, dy, t, rfl, rfl, rfl, rfl⟩ := cRemI_inv hs
    exact lv_irem hx hb hdec hP.1 (k H locs hH hS (cons_TV (tl1 (tl1 hT2)) trivial))
  | ldiv =>
    obtain ⟨x, y, dx, dy, t, rfl, rfl, rfl, rfl⟩ := cDivL_inv hs
    exact lv_ldiv hx hb hdec hP.1 (k H locs hH hS (cons_TV (tl1 (tl1 hT2)) trivial))
  | lrem =>
    obtain ⟨x, y, dx, dy, t, rfl, rfl, rfl, rfl⟩ := cRemL_inv hs
    exact lv_lrem hx hb hdec hP.1 (k H locs hH hS (cons_TV (tl1 (tl1 hT2)) trivial))
  | getfield i =>
    obtain ⟨r, dd, t, q, rfl, htag, hq, rfl, rfl, rfl⟩ := cGet_inv hs
    simp only [okC] at hok
    split at hok
    · rename_i cq hcq
      simp only [Bool.and_eq_true, decide_eq_true_eq] at hok
      have hci : z.toNat < 12 := by
        have := (List.getElem?_eq_some_iff.mp hcq).1
        exact this
      have hdd : dd ≠ 999 := tag_ne htag (by omega)
      obtain ⟨q0, hq0⟩ := TV_CL (hT2 _ List.mem_cons_self) hdd
      have hmem := List.mem_of_getElem? hq0
      have he := WL_cell (E := E) (M := M') hq0
      rw [cell_obj E M' (by omega), htag] at he
      have hv : (flds E M' r (dsc dd).1 0 (dsc dd).2.2)[aux]? = some (fval E M' r (dsc dd).1 aux q) := by
        rw [flds_get, hq]
        simp
      rw [List.map_cons, cv_al E hdd]
      have hfv : cv E (fget M' r (dsc dd).1 aux q).2 = fval E M' r (dsc dd).1 aux q ∧ TV (fget M' r (dsc dd).1 aux q).2 := by
        have hs2 := dl_same (r, dd) hmem q (List.mem_of_getElem? hq) (by show (dsc dd).2.1 < 100; omega)
        obtain ⟨qa, qb⟩ := q
        match qa, hs2, hP with
        | 0, _, _ => exact ⟨rfl, trivial⟩
        | 1, _, _ => exact ⟨rfl, trivial⟩
        | 2, _, _ => exact ⟨rfl, trivial⟩
        | 3, hs2, _ => exact ⟨cv_al E (hs2.1 rfl).2, Or.inr ⟨(hs2.1 rfl).2, (hs2.1 rfl).1⟩⟩
        | 4, hs2, _ => exact ⟨cv_al E (hs2.2 rfl).2, Or.inr ⟨(hs2.2 rfl).2, (hs2.2 rfl).1⟩⟩
        | n + 5, _, hP =>
          have h9 := CL_not999 _ hP.1
          exact ⟨cv_al E h9, Or.inr ⟨h9, hP.1⟩⟩
      refine va_get (D := eD E) (ci := z.toNat) (C := cq.1) (T := cq.2.1) (N := cq.2.2) hx hb hts (hwords (List.mem_of_getElem? hcq)) hown hK hH q0 he hcq aux hok.1 (hts _ (in_WS hok.2 rfl)) (fun _ h9 => h9) hv hdec ?_
      have hk := k H locs hH hS (cons_TV (tl1 hT2) hfv.2)
      rw [List.map_cons, hfv.1] at hk
      exact hk
    · cases hok
  | putfield i =>
    obtain ⟨v, r, dd, q, rfl, htag, hq, hf⟩ := cPut_inv hs
    simp only [okC] at hok
    split at hok
    · rename_i cq hcq
      simp only [Bool.and_eq_true, decide_eq_true_eq] at hok
      have hci : z.toNat < 12 := (List.getElem?_eq_some_iff.mp hcq).1
      have hdd : dd ≠ 999 := tag_ne htag (by omega)
      obtain ⟨q0, hq0⟩ := TV_CL (hT2 _ (List.mem_cons_of_mem _ List.mem_cons_self)) hdd
      have hmem := List.mem_of_getElem? hq0
      have he := WL_cell (E := E) (M := M) hq0
      rw [cell_obj E M (by omega), htag] at he
      have hkl : aux < (dsc dd).2.2.length := (List.getElem?_eq_some_iff.mp hq).1
      have hkt : kTy q.1 (clTy z.toNat aux) = true := by
        have := dl_ty dd (dl_lt _ hmem) (by omega) aux hkl
        rw [List.getD_eq_getElem?_getD, hq, htag] at this
        exact this
      obtain ⟨f1, f2, f3, f4, f5, f6⟩ := fput_kind (E := E) hf hkt hP
      have hfv : fval E M' r (dsc dd).1 aux q = cv E v := by
        rw [f3]
        split
        · rename_i h5
          split
          · rename_i h9
            have h6 := f6 h5
            have hs2 := dl_same (r, dd) hmem q (List.mem_of_getElem? hq) (by show (dsc dd).2.1 < 100; omega)
            have hb5 : ∀ p ∈ CL, ∀ q ∈ (dsc p.2).2.2, (dsc p.2).2.1 < 100 → q.1 = 5 → q.2 ≠ 999 := by decide +kernel
            exact absurd (h6.symm.trans h9) (hb5 (r, dd) hmem q (List.mem_of_getElem? hq) (by show (dsc dd).2.1 < 100; omega) h5)
          · rfl
        · rfl
      rw [List.map_cons, List.map_cons, cv_al E hdd]
      refine va_put (D := eD E) (ci := z.toNat) (C := cq.1) (T := cq.2.1) (N := cq.2.2) hx hb hts (hwords (List.mem_of_getElem? hcq)) (clTy z.toNat) (cl_ty z.toNat hci cq hcq) (cl_nm cq (List.mem_of_getElem? hcq)) hown hK hH hD hS q0 he hcq aux hok.1 (hts _ (in_WS hok.2.2 rfl)) (fun _ h9 => h9) hok.2.1 (cl_ty z.toNat hci cq hcq aux hok.1) f1 f2 (by rw [flds_len]; exact hkl) hdec (fun H1 locs1 hP1 hD1 hS1 => ?_)
      rw [WL_set (M' := M') hq0 (by rw [cell_obj E M' (by omega), htag, ← flds_set E hq hfv f4]) f5] at hP1
      exact k H1 locs1 hP1 hS1 (tl1 (tl1 hT2))
    · cases hok
  | iaload =>
    obtain ⟨i, di, r, dd, t, rfl, htag, rfl, rfl, rfl⟩ := cAldI_inv hs
    have hdd : dd ≠ 999 := tag_ne htag (by omega)
    obtain ⟨q0, hq0⟩ := TV_CL (hT2 _ (List.mem_cons_of_mem _ List.mem_cons_self)) hdd
    have he := WL_cell (E := E) (M := M') hq0
    rw [cell_int E M' htag] at he
    rw [List.map_cons, List.map_cons, cv_al E hdd]
    exact va_iald hx hb hK hH q0 0 he rfl hP.1 hdec (k H locs hH hS (cons_TV (tl1 (tl1 hT2)) trivial))
  | baload =>
    obtain ⟨i, di, r, dd, t, rfl, htag, rfl, rfl, rfl⟩ := cAldI_inv hs
    have hdd : dd ≠ 999 := tag_ne htag (by omega)
    obtain ⟨q0, hq0⟩ := TV_CL (hT2 _ (List.mem_cons_of_mem _ List.mem_cons_self)) hdd
    have he := WL_cell (E := E) (M := M') hq0
    rw [cell_byte E M' htag] at he
    rw [List.map_cons, List.map_cons, cv_al E hdd]
    exact va_bald hx hb hK hH q0 2 he rfl hP.1 hdec (k H locs hH hS (cons_TV (tl1 (tl1 hT2)) trivial))
  | laload =>
    obtain ⟨i, di, r, dd, t, rfl, htag, rfl, rfl, rfl⟩ := cAldL_inv hs
    have hdd : dd ≠ 999 := tag_ne htag (by omega)
    obtain ⟨q0, hq0⟩ := TV_CL (hT2 _ (List.mem_cons_of_mem _ List.mem_cons_self)) hdd
    have he := WL_cell (E := E) (M := M') hq0
    rw [cell_long E M' htag] at he
    rw [List.map_cons, List.map_cons, cv_al E hdd]
    exact va_lald hx hb hK hH q0 1 he rfl hP.1 hdec (k H locs hH hS (cons_TV (tl1 (tl1 hT2)) trivial))
  | aaload =>
    obtain ⟨i, di, r, dd, t, rfl, htag, rfl, rfl, rfl⟩ := cAldQ_inv hs
    have hdd : dd ≠ 999 := by
      intro e
      rw [e] at htag
      exact absurd htag (by decide +kernel)
    obtain ⟨q0, hq0⟩ := TV_CL (hT2 _ (List.mem_cons_of_mem _ List.mem_cons_self)) hdd
    have hmem := List.mem_of_getElem? hq0
    have he := WL_cell (E := E) (M := M') hq0
    rw [cell_ref E M' htag.1] at he
    have hin : vp_in i (dsc dd).2.2.length := hP.1
    have hlt : i.toNatClampNeg < (dsc dd).2.2.length := Nat.not_le.mp fun q => hin (Or.inr q)
    have hg : (dsc dd).2.2[i.toNatClampNeg]? = some ((dsc dd).2.2.getD i.toNatClampNeg (0, 0)) := by
      rw [List.getD_eq_getElem?_getD, List.getElem?_eq_getElem hlt]
      rfl
    generalize hqq : (dsc dd).2.2.getD i.toNatClampNeg (0, 0) = qq at hg
    have ha := dl_arr (r, dd) hmem qq (List.mem_of_getElem? hg) htag.1
    have hty : ∃ C, (tysE E)[(dsc dd).2.1 - 100]? = some (eC E ((dsc dd).2.1 - 100), .object C) := by
      have h3 : (dsc dd).2.1 = 103 ∨ (dsc dd).2.1 = 104 ∨ (dsc dd).2.1 = 105 := by omega
      rcases h3 with h3 | h3 | h3 <;> rw [h3] <;> exact ⟨_, rfl⟩
    obtain ⟨Cn, hty⟩ := hty
    rw [List.map_cons, List.map_cons, cv_al E hdd]
    refine va_aldq hx hb hK hH q0 _ he hty hin hdec ?_
    rw [hg]
    have hk := k H locs hH hS (cons_TV (tl1 (tl1 hT2)) (by rw [hqq]; exact Or.inr ⟨by rw [← ha.1]; exact ha.2.2, by rw [← ha.1]; exact ha.2.1⟩))
    rw [List.map_cons, cv_al E (by rw [← ha.1]; exact ha.2.2), hqq, ← ha.1] at hk
    exact hk
  | iastore =>
    obtain ⟨x, dx, i, di, r, dd, rfl, htag, rfl, rfl⟩ := cAstI_inv hs
    have hdd : dd ≠ 999 := tag_ne htag (by omega)
    obtain ⟨q0, hq0⟩ := TV_CL (hT2 _ (List.mem_cons_of_mem _ (List.mem_cons_of_mem _ List.mem_cons_self))) hdd
    have he := WL_cell (E := E) (M := M) hq0
    rw [cell_int E M htag] at he
    rw [List.map_cons, List.map_cons, List.map_cons, cv_al E hdd]
    refine va_iast hx hb hK hH hD hS q0 0 he rfl hP.1 hdec (fun H1 locs1 hP1 hD1 hS1 => ?_)
    rw [WL_set (M' := upd3 M r (dsc dd).1 i.toNatClampNeg x.toInt) hq0 (by rw [cell_int E _ htag, arr_upd (iN_toInt x)]) (upd3_off M r (dsc dd).1 _ _)] at hP1
    exact k H1 locs1 hP1 hS1 (tl1 (tl1 (tl1 hT2)))
  | bastore =>
    obtain ⟨x, dx, i, di, r, dd, rfl, htag, rfl, rfl⟩ := cAstB_inv hs
    have hdd : dd ≠ 999 := tag_ne htag (by omega)
    obtain ⟨q0, hq0⟩ := TV_CL (hT2 _ (List.mem_cons_of_mem _ (List.mem_cons_of_mem _ List.mem_cons_self))) hdd
    have he := WL_cell (E := E) (M := M) hq0
    rw [cell_byte E M htag] at he
    rw [List.map_cons, List.map_cons, List.map_cons, cv_al E hdd]
    refine va_bast hx hb hK hH hD hS q0 2 he rfl hP.1 hdec (fun H1 locs1 hP1 hD1 hS1 => ?_)
    rw [vp_nar_byte] at hP1
    rw [WL_set (M' := upd3 M r (dsc dd).1 i.toNatClampNeg (x.toInt8.toInt32).toInt) hq0 (by rw [cell_byte E _ htag, arr_upd (iN_toInt _)]) (upd3_off M r (dsc dd).1 _ _)] at hP1
    exact k H1 locs1 hP1 hS1 (tl1 (tl1 (tl1 hT2)))
  | lastore =>
    obtain ⟨x, dx, i, di, r, dd, rfl, htag, rfl, rfl⟩ := cAstL_inv hs
    have hdd : dd ≠ 999 := tag_ne htag (by omega)
    obtain ⟨q0, hq0⟩ := TV_CL (hT2 _ (List.mem_cons_of_mem _ (List.mem_cons_of_mem _ List.mem_cons_self))) hdd
    have he := WL_cell (E := E) (M := M) hq0
    rw [cell_long E M htag] at he
    rw [List.map_cons, List.map_cons, List.map_cons, cv_al E hdd]
    refine va_last hx hb hK hH hD hS q0 1 he rfl hP.1 hdec (fun H1 locs1 hP1 hD1 hS1 => ?_)
    rw [WL_set (M' := upd3 M r (dsc dd).1 i.toNatClampNeg x.toInt) hq0 (by rw [cell_long E _ htag, arr_updL (lI_toInt x)]) (upd3_off M r (dsc dd).1 _ _)] at hP1
    exact k H1 locs1 hP1 hS1 (tl1 (tl1 (tl1 hT2)))
  | arraylength =>
    obtain ⟨r, dd, t, rfl, htag, rfl, rfl, rfl⟩ := cLen_inv hs
    have hdd : dd ≠ 999 := by
      rcases htag with h1 | h1 | h1 <;> exact tag_ne h1 (by omega)
    obtain ⟨q0, hq0⟩ := TV_CL (hT2 _ List.mem_cons_self) hdd
    have he := WL_cell (E := E) (M := M') hq0
    rw [List.map_cons, cv_al E hdd]
    have hk := k H locs hH hS (cons_TV (tl1 hT2) trivial)
    have hv : Int32.ofNat (dlen dd) = iN (dlen dd) := (Int32.ofInt_eq_ofNat).symm
    rcases htag with h1 | h1 | h1
    · rw [cell_int E M' h1] at he
      exact va_alen hx hb hK hH q0 0 he rfl hv hdec hk
    · rw [cell_long E M' h1] at he
      exact va_alen hx hb hK hH q0 1 he rfl hv hdec hk
    · rw [cell_byte E M' h1] at he
      exact va_alen hx hb hK hH q0 2 he rfl hv hdec hk
  | _ => cases hs
end
section
def csum (st : List AV) : Nat := (st.map (fun v => v.1.category)).sum
theorem csum_cv (E : EnvT) (st : List AV) : ((st.map (cv E)).map fun v => v.category).sum = csum st := by
  unfold csum
  rw [List.map_map]
  congr 1
  apply List.map_congr_left
  intro v _
  exact cv_cat E v
def pushR (cal : MI) (r : AV) (st : List AV) : List AV := match rk cal.2.2.2.1 with
  | 0 => st
  | 1 => (.int (toI r), 0) :: st
  | 2 => (.long (toL r), 0) :: st
  | _ => (.ref (toR r), 999) :: st
theorem pushR_cv {E : EnvT} {cal : MI} {r : AV} {v : Option Value} (st : List AV) (h : Qr cal E r (.returned v)) : v.toList ++ st.map (cv E) = (pushR cal r st).map (cv E) := by
  unfold Qr at h
  unfold pushR
  split at h
  · rename_i e
    rw [e]
    cases h
    rfl
  · rename_i e
    rw [e]
    obtain ⟨x, rfl, h2⟩ := h
    cases h2
    rfl
  · rename_i e
    rw [e]
    obtain ⟨x, rfl, h2⟩ := h
    cases h2
    rfl
  · rename_i n h0 h1 h2
    obtain ⟨x, rfl, -, h3⟩ := h
    cases h3
    split
    · rename_i e; exact absurd e h0
    · rename_i e; exact absurd e h1
    · rename_i e; exact absurd e h2
    · rfl
theorem pushR_TV {E : EnvT} {cal : MI} {r : AV} {v : Option Value} {st : List AV} (h : Qr cal E r (.returned v)) (hT : ∀ v ∈ st, TV v) : ∀ v ∈ pushR cal r st, TV v := by
  unfold Qr at h
  unfold pushR
  split at h
  · rename_i e
    rw [e]
    exact hT
  · rename_i e
    rw [e]
    exact cons_TV hT trivial
  · rename_i e
    rw [e]
    exact cons_TV hT trivial
  · rename_i n h0 h1 h2
    obtain ⟨x, rfl, hx, h3⟩ := h
    split
    · exact hT
    · exact cons_TV hT trivial
    · exact cons_TV hT trivial
    · exact cons_TV hT (Or.inl ⟨rfl, hx⟩)
theorem call_go {l : Launch} {E : EnvT} {cal : MI} {K : AV → Mem → Prop} {rest : List AV} {st0 : List Value} {a : Array Value} {pc : Nat} {Q : State → Prop} {p : Program} {e : Env} {R : Room} {s : State} {m : MethodId} {args : Array Value} {below : List Frame} {meth : Method} {c : Code} {H : Heap} {locs : List Loc} {la : Array Slot} {cells slots : Nat}
    (hr : va_Run p l e R s m args below meth c H locs cells slots 0 0 (F0 m pc la st0) (rest.map (cv E)) (QQ E cal K a) (Ab E)) (hS : va_S (Ab E) s.heap H locs) (hT : ∀ v ∈ rest, TV v)
    (kk : ∀ (r : AV) (M' : Mem), K r M' → ∀ (H' : Heap) (locs' : List Loc), HX E M' H' → va_S (Ab E) s.heap H' locs' → (∀ v ∈ pushR cal r rest, TV v) → W p l e R s m args below meth c H' locs' cells slots Q (F0 m (pc + 3) la ((pushR cal r rest).map (cv E)))) :
    W p l e R s m args below meth c H locs cells slots Q (F0 m pc la st0) := by
  intro T hT0 X
  obtain ⟨v, st₀, t, T', L, h0, X', hL, e1, e2, ⟨⟨r, M', hK, hQ, hH⟩, hz, hk⟩, stp⟩ := hr T hT0 X
  rw [h0] at hz hk
  have hS' : va_S (Ab E) s.heap T'.heap (locs ++ L) := ⟨Nat.le_trans hS.1 (by rw [e1]; exact hz), fun q h1 h2 => by rw [e1, hk q (Nat.lt_of_lt_of_le h1 hS.1) h2]; exact hS.2.1 q h1 h2, fun q hq => by
      rcases List.mem_append.mp hq with h | h
      · exact hS.2.2 q h
      · exact hL q h⟩
  obtain ⟨t2, a1, b1⟩ := kk r M' hK T'.heap (locs ++ L) (by rw [e1]; exact hH) hS' (pushR_TV hQ hT) T' rfl X'
  rw [← pushR_cv rest hQ] at a1
  exact ⟨t2, stp t2 a1, b1⟩
/-- what a program asks of a method that is called -/
def okM (cal : MI) : Bool :=
  decide (lw_tbl[cal.2.2.2.2.2.2.2.getD 0 0]? = some (.code cal.1 cal.2.1 cal.2.2.1 cal.2.2.2.1)) && (decide (lw_tbl[cal.2.2.2.2.2.2.2.getD 1 0]? = some (.initialized cal.1.cls)) && (decide (cal.2.2.1 ≤ 40) &&
  (decide (cal.1.cls ≠ "java/lang/invoke/MethodHandle" ∧ cal.1.cls ≠ "java/lang/invoke/VarHandle" ∧ (parseMethodDescriptor cal.1.desc).map (fun d => d.parameters.length) = some cal.2.2.2.2.1) &&
  (if cal.2.2.2.2.2.1 = 0 then decide (lw_tbl[cal.2.2.2.2.2.2.2.getD 2 0]? = some (.static cal.1))
   else decide (lw_tbl[cal.2.2.2.2.2.2.2.getD 2 0]? = some (.instanceMethod cal.1)) && (decide (lw_tbl[cal.2.2.2.2.2.2.2.getD 3 0]? = some (.selects cal.1.cls cal.1 cal.1)) &&
     (if cal.2.2.2.2.2.1 = 1 then decide ((vCl[cal.2.2.2.2.2.2.1]?).map (fun q => q.1) = some cal.1.cls) else decide (cal.1.cls = "java/lang/String")))))))
theorem GoodIn_WS {mi cal : MI} {extra : List Cond} (h : ∀ w ∈ extra, ∃ i : Nat, lw_tbl[i]? = some w) (hg : ∀ w ∈ extra, goodWord w = true) {i : Nat} (hc : lw_tbl[i]? = some (.code cal.1 cal.2.1 cal.2.2.1 cal.2.2.2.1)) : GoodIn (WS mi) (extra ++ WS cal) := by
  intro w hw
  rcases List.mem_append.mp hw with hw | hw
  · obtain ⟨j, hj⟩ := h w hw
    exact ⟨in_WS hj (hg w hw), good_of_word (hg w hw)⟩
  · rcases List.mem_cons.mp hw with rfl | hw
    · exact ⟨in_WS hc rfl, Or.inl rfl⟩
    · exact ⟨List.mem_cons_of_mem _ hw, good_of_word (List.mem_filter.mp hw).2⟩
theorem CT.blind {E : EnvT} {as : List AV} {M : Mem} : FrameBlind (va_Pc (as.map (cv E)) (fun U => HX E M U.heap ∧ KK E U ∧ DX E ∧ eB E ≤ U.heap.size)) := by
  intro a U g mk h
  obtain ⟨h1, h2, h3, h4, h5⟩ := h
  exact ⟨h1, h2, h3.call g mk a, h4, h5⟩
theorem CT.pre {E : EnvT} {as : List AV} {M : Mem} {s : State} {H : Heap} {locs : List Loc} (hKK : KK E s) (hDX : DX E) (hbs : eB E ≤ s.heap.size) (hH : HX E M H) (hS : va_S (Ab E) s.heap H locs) : ∀ U : State, U.heap = H → s.WarmedH U.vm → va_Pc (as.map (cv E)) (fun U => HX E M U.heap ∧ KK E U ∧ DX E ∧ eB E ≤ U.heap.size) (as.map (cv E)).toArray U := by
  intro U hU hW
  exact ⟨rfl, by rw [hU]; exact hH, hKK.move hS hU hW, hDX, by rw [hU]; exact Nat.le_trans hbs hS.1⟩
theorem callS_ok {l : Launch} {E : EnvT} {dc : Nat} {cal : MI} {K : AV → Mem → Prop} {as rest : List AV} {M : Mem} {pc idx i : Nat} {Q : State → Prop} {p : Program} {e : Env} {R : Room} {s : State} {m : MethodId} {args : Array Value} {below : List Frame} {meth : Method} {c : Code} {H : Heap} {locs : List Loc} {la : Array Slot} {cells slots nL : Nat} {cc : ByteArray} {own : String} {mi : MI}
    (S : CallFix p m c cc nL s args (WS mi) own) (hKK : KK E s) (hDX : DX E) (hbs : eB E ≤ s.heap.size) (hM : CT l E dc cal as M K) (hok : okM cal = true) (hkd : cal.2.2.2.2.2.1 = 0) (hlk : lw_tbl[i]? = some (.methodLink own idx cal.1)) (hR : dc + 1 ≤ R.frames ∧ 64 * (dc + 1) ≤ R.locals) (hn : as.length = cal.2.2.2.2.1) (hT1 : ∀ v ∈ as, TV v) (hT : ∀ v ∈ rest, TV v)
    (hH : HX E M H) (hS : va_S (Ab E) s.heap H locs) (hsz : la.size = nL) (hcs : csum rest ≤ 8) (hdg : decode cc pc = .ok (.invokestatic idx, 3)) (hf : cells ≤ R.cells ∧ slots ≤ R.slots)
    (kk : ∀ (r : AV) (M' : Mem), K r M' → ∀ (H' : Heap) (locs' : List Loc), HX E M' H' → va_S (Ab E) s.heap H' locs' → (∀ v ∈ pushR cal r rest, TV v) → W p l e R s m args below meth c H' locs' cells slots Q (F0 m (pc + 3) la ((pushR cal r rest).map (cv E)))) :
    W p l e R s m args below meth c H locs cells slots Q (F0 m pc la ((as.reverse ++ rest).map (cv E))) := by
  simp only [okM, Bool.and_eq_true, decide_eq_true_eq, hkd, if_true] at hok
  obtain ⟨h1, h2, h3, h4, h5⟩ := hok
  refine call_go (va_runS (As := as.map (cv E)) S (hM hT1) (va_cwS (mc := 0) (ms := 0) (ws' := lw_tbl.filter goodWord) cal.2.2.2.2.1 S.2.2.2.2 (GoodIn_WS (extra := [.methodLink own idx cal.1, .static cal.1, .initialized cal.1.cls]) ?_ ?_ h1) rfl rfl rfl h4 ⟨?_, ?_⟩) ⟨CT.blind, CT.pre hKK hDX hbs hH hS⟩ rfl ?_ hsz ?_ (lv_room ?_) hdg hf) hS hT kk
  · intro w hw
    simp only [List.mem_cons, List.not_mem_nil, or_false] at hw
    rcases hw with rfl | rfl | rfl
    · exact ⟨_, hlk⟩
    · exact ⟨_, h5⟩
    · exact ⟨_, h2⟩
  · intro w hw
    simp only [List.mem_cons, List.not_mem_nil, or_false] at hw
    rcases hw with rfl | rfl | rfl <;> rfl
  · exact hR.1
  · show 8 + (cal.2.2.1 + 11) + 64 * dc ≤ R.locals
    omega
  · rw [List.length_map]; exact hn
  · simp
  · rw [csum_cv]; exact hcs
theorem callV_ok {l : Launch} {E : EnvT} {dc : Nat} {cal : MI} {K : AV → Mem → Prop} {as rest : List AV} {M : Mem} {pc idx i r0 dd0 : Nat} {Q : State → Prop} {p : Program} {e : Env} {R : Room} {s : State} {m : MethodId} {args : Array Value} {below : List Frame} {meth : Method} {c : Code} {H : Heap} {locs : List Loc} {la : Array Slot} {cells slots nL : Nat} {cc : ByteArray} {own : String} {mi : MI}
    (S : CallFix p m c cc nL s args (WS mi) own) (hKK : KK E s) (hDX : DX E) (hbs : eB E ≤ s.heap.size) (hM : CT l E dc cal ((.ref r0, dd0) :: as) M K) (hok : okM cal = true) (hkd : cal.2.2.2.2.2.1 = 1 ∧ (dsc dd0).2.1 = cal.2.2.2.2.2.2.1 ∨ cal.2.2.2.2.2.1 = 2 ∧ dd0 = 999) (hlk : lw_tbl[i]? = some (.methodLink own idx cal.1)) (hR : dc + 1 ≤ R.frames ∧ 64 * (dc + 1) ≤ R.locals) (hn : as.length = cal.2.2.2.2.1) (hT1 : ∀ v ∈ (.ref r0, dd0) :: as, TV v) (hT : ∀ v ∈ rest, TV v)
    (hH : HX E M H) (hS : va_S (Ab E) s.heap H locs) (hsz : la.size = nL) (hcs : csum rest ≤ 8) (hdg : decode cc pc = .ok (.invokevirtual idx, 3)) (hf : cells ≤ R.cells ∧ slots ≤ R.slots)
    (kk : ∀ (r : AV) (M' : Mem), K r M' → ∀ (H' : Heap) (locs' : List Loc), HX E M' H' → va_S (Ab E) s.heap H' locs' → (∀ v ∈ pushR cal r rest, TV v) → W p l e R s m args below meth c H' locs' cells slots Q (F0 m (pc + 3) la ((pushR cal r rest).map (cv E)))) :
    W p l e R s m args below meth c H locs cells slots Q (F0 m pc la ((as.reverse ++ (.ref r0, dd0) :: rest).map (cv E))) := by
  have hk0 : ¬ cal.2.2.2.2.2.1 = 0 := by omega
  simp only [okM, Bool.and_eq_true, decide_eq_true_eq, hk0, if_false] at hok
  obtain ⟨h1, h2, h3, h4, h5, h6, h7⟩ := hok
  have hrecv : ∃ b, cv E (.ref r0, dd0) = .ref b ∧ ∃ cellB : Cell, H[b]? = some cellB ∧ cellB.vm.isStatics = false ∧ s.vm.findClass cal.1.cls = some cellB.cls := by
    rcases hkd with ⟨ka, kb⟩ | ⟨ka, kb⟩
    · rw [if_pos ka] at h7
      have h8 := of_decide_eq_true h7
      cases hcq : vCl[cal.2.2.2.2.2.2.1]? with
      | none => rw [hcq] at h8; cases h8
      | some q =>
        rw [hcq] at h8
        have hlt : cal.2.2.2.2.2.2.1 < 12 := (List.getElem?_eq_some_iff.mp hcq).1
        have hdd : dd0 ≠ 999 := tag_ne kb (by omega)
        obtain ⟨q0, hq0⟩ := TV_CL (hT1 _ List.mem_cons_self) hdd
        have he := WL_cell (E := E) (M := M) hq0
        rw [cell_obj E M (by omega), kb] at he
        refine ⟨_, cv_al E hdd, ?_⟩
        have hv := va_recv hKK.1 hH hcq he
        rw [← Option.some.inj h8]
        exact hv
    · subst kb
      rw [if_neg (by omega)] at h7
      have hc := of_decide_eq_true h7
      refine ⟨eK E r0, rfl, ?_⟩
      rw [hc]
      have hx : r0 < 9 := by
        rcases hT1 _ List.mem_cons_self with h | h
        · exact h.2
        · exact absurd rfl h.1
      exact vk_recv hKK.2.1 hx hS
  obtain ⟨b, hb, hcell⟩ := hrecv
  have hpre := CT.pre (as := (.ref r0, dd0) :: as) hKK hDX hbs hH hS
  have hMM := hM hT1
  simp only [List.map_cons, hb] at hpre hMM
  simp only [List.map_append, List.map_cons, hb, List.map_reverse]
  refine call_go (va_runV (C := cal.1.cls) (b := b) (As := as.map (cv E)) S hMM (cwV (mc := 0) (ms := 0) (ws' := lw_tbl.filter goodWord) cal.2.2.2.2.1 S.2.2.2.2 (GoodIn_WS (extra := [.methodLink own idx cal.1, .instanceMethod cal.1, .selects cal.1.cls cal.1 cal.1, .initialized cal.1.cls]) ?_ ?_ h1) rfl rfl rfl ⟨rfl, h4⟩ ⟨?_, ?_⟩) ⟨?_, hcell, hpre⟩ rfl ?_ hsz rfl (lv_room ?_) hdg hf) hS hT kk
  · intro w hw
    simp only [List.mem_cons, List.not_mem_nil, or_false] at hw
    rcases hw with rfl | rfl | rfl | rfl
    · exact ⟨_, hlk⟩
    · exact ⟨_, h5⟩
    · exact ⟨_, h6⟩
    · exact ⟨_, h2⟩
  · intro w hw
    simp only [List.mem_cons, List.not_mem_nil, or_false] at hw
    rcases hw with rfl | rfl | rfl | rfl <;> rfl
  · exact hR.1
  · show 8 + (cal.2.2.1 + 11) + 64 * dc ≤ R.locals
    omega
  · have := CT.blind (E := E) (as := (.ref r0, dd0) :: as) (M := M)
    simp only [List.map_cons, hb] at this
    exact this
  · rw [List.length_map]; exact hn
  · rw [csum_cv]; exact hcs
end
section
abbrev JT : Type := Nat → LsT → List AV → Mem → Prop
def swP (x : Int32) (J : Nat → Prop) : List (Int × Nat) → Nat → Prop
  | [], d => J d
  | (k, t) :: l, d => (x = iN k → J t) ∧ (¬ x = iN k → swP x J l d)
def tpairs (pc : Nat) : Int → List Int → List (Int × Nat)
  | _, [] => []
  | k, o :: t => (k, ((pc : Int) + o).toNat) :: tpairs pc (k + 1) t
def lpairs (pc : Nat) : List (Int × Int) → List (Int × Nat)
  | [] => []
  | (k, o) :: t => (k, ((pc : Int) + o).toNat) :: lpairs pc t
def wCmp (c : ClassFile.Cond) (x y : Int32) (a b : Prop) : Prop := match c with
  | .eq => (x = y → a) ∧ (¬ x = y → b)
  | .ne => (¬ x = y → a) ∧ (x = y → b)
  | .lt => (x < y → a) ∧ (¬ x < y → b)
  | .ge => (y ≤ x → a) ∧ (¬ y ≤ x → b)
  | .gt => (y < x → a) ∧ (¬ y < x → b)
  | .le => (x ≤ y → a) ∧ (¬ x ≤ y → b)
def wRetI (mi : MI) (K : AV → Mem → Prop) (x : Int32) (M : Mem) : Prop := match mi.2.2.2.1 with
  | some .int => K (.int x, 0) M
  | some .boolean => (x = 0 ∨ x = 1) ∧ K (.int x, 0) M
  | _ => False
def cpyM (M : Mem) (r0 c0 r1 c1 sp dp n : Nat) : Mem := updC M r1 c1 (va_cpy (M r0 c0) (M r1 c1) sp dp n)
def wCpy (st : List AV) (M : Mem) : CtR := match st with
  | (.int n, _) :: (.int dp, _) :: (.ref r1, d1) :: (.int sp, _) :: (.ref r0, d0) :: t =>
    if csum t ≤ 8 ∧ (((dsc d0).2.1 = 100 ∧ (dsc d1).2.1 = 100) ∨ ((dsc d0).2.1 = 101 ∧ (dsc d1).2.1 = 101)) then
      some ([¬ sp < 0, ¬ dp < 0, ¬ n < 0, sp.toNatClampNeg + n.toNatClampNeg ≤ dlen d0, dp.toNatClampNeg + n.toNatClampNeg ≤ dlen d1], t, cpyM M r0 (dsc d0).1 r1 (dsc d1).1 sp.toNatClampNeg dp.toNatClampNeg n.toNatClampNeg)
    else none
  | _ => none
def wCall (l : Launch) (E : EnvT) (d : Nat) (cal : MI) (ar : Nat) (nx : List AV → Mem → Prop) (st : List AV) (M : Mem) : Prop :=
  if ar ≤ st.length ∧ csum (st.drop ar) ≤ 8 then CT l E (d - 1) cal (st.take ar).reverse M (fun r M' => nx (pushR cal r (st.drop ar)) M') else False
def recvOK (cal : MI) (v : Option AV) : Bool := match v with
  | some (.ref _, dd) => decide (cal.2.2.2.2.2.1 = 1 ∧ (dsc dd).2.1 = cal.2.2.2.2.2.2.1 ∨ cal.2.2.2.2.2.1 = 2 ∧ dd = 999)
  | _ => false
def wpX (l : Launch) (E : EnvT) (d : Nat) (mi : MI) (K : AV → Mem → Prop) (J : JT) (op : OpT) (nx : LsT → List AV → Mem → Prop) (ls : LsT) (st : List AV) (M : Mem) : Prop := match op.2.1 with
  | .goto _ => J op.2.2.2.1 ls st M
  | .if_icmp c _ => (match st with
    | (.int y, _) :: (.int x, _) :: t => wCmp c x y (J op.2.2.2.1 ls t M) (nx ls t M)
    | _ => False)
  | .ifCond c _ => (match st with
    | (.int x, _) :: t => wCmp c x 0 (J op.2.2.2.1 ls t M) (nx ls t M)
    | _ => False)
  | .tableswitch df lo _ offs => (match st with
    | (.int x, _) :: t => swP x (fun tg => J tg ls t M) (tpairs op.1 lo offs.toList) ((op.1 : Int) + df).toNat
    | _ => False)
  | .lookupswitch df ps => (match st with
    | (.int x, _) :: t => swP x (fun tg => J tg ls t M) (lpairs op.1 ps.toList) ((op.1 : Int) + df).toNat
    | _ => False)
  | .ireturn => (match st with
    | [(.int x, _)] => wRetI mi K x M
    | _ => False)
  | .lreturn => (match st with
    | [(.long x, _)] => (if rk mi.2.2.2.1 = 2 then K (.long x, 0) M else False)
    | _ => False)
  | .areturn => (match st with
    | [(.ref x, 999)] => (if rk mi.2.2.2.1 = 3 then K (.ref x, 999) M else False)
    | _ => False)
  | .return_ => (match st with
    | [] => (if rk mi.2.2.2.1 = 0 then K (.null, 0) M else False)
    | _ => False)
  | .invokestatic _ => if op.2.2.2.2.2.2.2.2.2.2.2.1 = 3 then (match wCpy st M with
      | some (P, t, M') => andL P (nx ls t M')
      | none => False)
    else if op.2.2.2.2.2.2.2.2.2.2.2.1 = 0 then wCall l E d op.2.2.2.2.2.2 op.2.2.2.2.2.2.2.2.2.2.1 (nx ls) st M else False
  | .invokevirtual _ => if recvOK op.2.2.2.2.2.2 (st[op.2.2.2.2.2.2.2.2.2.2.1]?) then wCall l E d op.2.2.2.2.2.2 (op.2.2.2.2.2.2.2.2.2.2.1 + 1) (nx ls) st M else False
  | _ => False
def wpGo (l : Launch) (E : EnvT) (d : Nat) (mi : MI) (K : AV → Mem → Prop) (J : JT) : List OpT → LsT → List AV → Mem → Prop
  | [], _, _, _ => False
  | op :: rest, ls, st, M => if op.2.2.1 = 0 then J op.1 ls st M else match stepS op.2.1 op.2.2.2.1 op.2.2.2.2.1 ls st with
    | some q => wpGo l E d mi K J rest q.1 q.2 M
    | none => match stepC op.2.1 op.2.2.2.1 op.2.2.2.2.1 st M with
      | some q => andL q.1 (wpGo l E d mi K J rest ls q.2.1 q.2.2)
      | none => wpX l E d mi K J op (wpGo l E d mi K J rest) ls st M
abbrev BtT : Type := List (Nat × List Nat × Bool × List OpT)
def bfind : BtT → Nat → Option (List Nat × Bool × List OpT)
  | [], _ => none
  | b :: t, pc => if b.1 = pc then some b.2 else bfind t pc
def wpCut (l : Launch) (E : EnvT) (d : Nat) (mi : MI) (K : AV → Mem → Prop) (pc : Nat) (keys : List Nat) (ls : LsT) (st : List AV) (M : Mem) : Prop := match lpick ls keys with
  | some ls' => G l E d mi pc ls' st M K
  | none => False
def wp (l : Launch) (E : EnvT) (d : Nat) (mi : MI) (K : AV → Mem → Prop) (Bt : BtT) : Nat → JT
  | 0, _, _, _, _ => False
  | f + 1, pc, ls, st, M => match bfind Bt pc with
    | none => False
    | some b => if b.2.1 then wpCut l E d mi K pc b.1 ls st M else wpGo l E d mi K (wp l E d mi K Bt f) b.2.2 ls st M
def okCpy (mi : MI) (i h : Nat) (cal : MI) : Bool := decide (lw_tbl[h]? = some (.methodLink mi.1.cls i arraycopyName)) && (decide (lw_tbl[cal.2.2.2.2.2.2.2.getD 0 0]? = some (.native arraycopyName)) && (decide (lw_tbl[cal.2.2.2.2.2.2.2.getD 1 0]? = some (.static arraycopyName)) && decide (lw_tbl[cal.2.2.2.2.2.2.2.getD 2 0]? = some (.initialized "java/lang/System"))))
def okX (mi : MI) (op : OpT) : Bool := match op.2.1 with
  | .goto o => decide ((op.1 : Int) + o = (op.2.2.2.1 : Int))
  | .if_icmp _ o => decide ((op.1 : Int) + o = (op.2.2.2.1 : Int))
  | .ifCond _ o => decide ((op.1 : Int) + o = (op.2.2.2.1 : Int))
  | .tableswitch df lo hi offs => decide (0 ≤ (op.1 : Int) + df) && (offs.toList.all (fun o => decide (0 ≤ (op.1 : Int) + o)) && (decide (-1000 ≤ lo ∧ hi ≤ 1000) && decide (hi + 1 = lo + offs.toList.length)))
  | .lookupswitch df ps => decide (0 ≤ (op.1 : Int) + df) && (ps.toList.all (fun q => decide (0 ≤ (op.1 : Int) + q.2 ∧ -1000 ≤ q.1 ∧ q.1 ≤ 1000)) && (ps.toList.zip (ps.toList.drop 1)).all (fun (a, next) => a.1 < next.1))
  | .invokestatic i => if op.2.2.2.2.2.2.2.2.2.2.2.1 = 3 then okCpy mi i op.2.2.2.2.2.1 op.2.2.2.2.2.2 else okM op.2.2.2.2.2.2 && decide (lw_tbl[op.2.2.2.2.2.1]? = some (.methodLink mi.1.cls i op.2.2.2.2.2.2.1))
  | .invokevirtual i => okM op.2.2.2.2.2.2 && decide (lw_tbl[op.2.2.2.2.2.1]? = some (.methodLink mi.1.cls i op.2.2.2.2.2.2.1))
  | _ => true
def okLen (ins : Instr) (len : Nat) : Bool := match ins with
  | .tableswitch _ _ _ _ => true
  | .lookupswitch _ _ => true
  | _ => decide (len = ilen ins)
def okB (mi : MI) (op : OpT) : Bool := decide (decode mi.2.1 op.1 = .ok (op.2.1, op.2.2.1)) && (okLen op.2.1 op.2.2.1 && (okS mi op.2.1 op.2.2.2.1 op.2.2.2.2.1 op.2.2.2.2.2.1 && (okC mi op.2.1 op.2.2.2.1 op.2.2.2.2.1 op.2.2.2.2.2.1 && okX mi op)))
def okBlk (mi : MI) : Nat → List OpT → Bool
  | _, [] => true
  | pc, op :: t => decide (op.1 = pc) && (decide (op.2.2.1 = 0) || (okB mi op && okBlk mi (pc + op.2.2.1) t))
end
section
theorem swP_spec {x : Int32} {J : Nat → Prop} : ∀ (l : List (Int × Nat)) (d : Nat), swP x J l d → (∃ q ∈ l, x = iN q.1 ∧ J q.2) ∨ ((∀ q ∈ l, ¬ x = iN q.1) ∧ J d)
  | [], d, h => Or.inr ⟨fun q hq => (by cases hq), h⟩
  | (k, t) :: l, d, h => by
    by_cases e : x = iN k
    · exact Or.inl ⟨(k, t), List.mem_cons_self, e, h.1 e⟩
    · rcases swP_spec l d (h.2 e) with ⟨q, hq, h1⟩ | ⟨h1, h2⟩
      · exact Or.inl ⟨q, List.mem_cons_of_mem _ hq, h1⟩
      · refine Or.inr ⟨fun q hq => ?_, h2⟩
        rcases List.mem_cons.mp hq with rfl | hq
        · exact e
        · exact h1 q hq
theorem iN_small {z : Int} (h1 : -2147483648 ≤ z) (h2 : z < 2147483648) : (iN z).toInt = z := by
  unfold iN
  rw [Int32.toInt_ofInt]
  have h4 : (Int32.size : Int) = 4294967296 := rfl
  exact Int.bmod_eq_of_le (by omega) (by omega)
theorem tpairs_mem {pc : Nat} : ∀ (offs : List Int) (k : Int) (q : Int × Nat), q ∈ tpairs pc k offs → ∃ (i : Nat) (o : Int), offs[i]? = some o ∧ q.1 = k + i ∧ q.2 = ((pc : Int) + o).toNat
  | [], _, q, h => by cases h
  | o :: t, k, q, h => by
    rcases List.mem_cons.mp h with rfl | h
    · exact ⟨0, o, rfl, by simp, rfl⟩
    · obtain ⟨i, o', h1, h2, h3⟩ := tpairs_mem t (k + 1) q h
      exact ⟨i + 1, o', h1, by rw [h2]; push_cast; omega, h3⟩
theorem tpairs_all {pc : Nat} : ∀ (offs : List Int) (k : Int) (i : Nat), i < offs.length → ∃ t, (k + i, t) ∈ tpairs pc k offs
  | [], _, i, h => by simp at h
  | o :: t, k, 0, _ => ⟨((pc : Int) + o).toNat, by simp only [tpairs]; exact List.mem_cons.mpr (Or.inl (by simp))⟩
  | o :: t, k, i + 1, h => by
    obtain ⟨t', h'⟩ := tpairs_all (pc := pc) t (k + 1) i (by simpa using h)
    refine ⟨t', List.mem_cons_of_mem _ ?_⟩
    have e : k + ((i + 1 : Nat) : Int) = k + 1 + (i : Int) := by push_cast; omega
    rw [e]
    exact h'
theorem lpairs_off {pc : Nat} {x : Int32} {df : Int} : ∀ (ps : List (Int × Int)), (∀ q ∈ ps, -1000 ≤ q.1 ∧ q.1 ≤ 1000) → (∀ q ∈ lpairs pc ps, ¬ x = iN q.1) → Op.lookupswitch.offset ps df x.toInt = df
  | [], _, _ => rfl
  | (a, o) :: t, h, h2 => by
    rw [Op.lookupswitch.offset_cons, if_neg]
    · exact lpairs_off t (fun q hq => h q (List.mem_cons_of_mem _ hq)) (fun q hq => h2 q (List.mem_cons_of_mem _ hq))
    · intro e
      have := h (a, o) List.mem_cons_self
      apply h2 (a, ((pc : Int) + o).toNat) List.mem_cons_self
      rw [e, iN_toInt]
theorem lpairs_mem {pc : Nat} : ∀ (l : List (Int × Int)) (q : Int × Nat), q ∈ lpairs pc l → ∃ o', (q.1, o') ∈ l
  | [], q, h => by cases h
  | (a, o) :: l, q, h => by
    rcases List.mem_cons.mp h with rfl | h
    · exact ⟨o, List.mem_cons_self⟩
    · obtain ⟨o', h'⟩ := lpairs_mem l q h
      exact ⟨o', List.mem_cons_of_mem _ h'⟩
theorem lpairs_hit {pc : Nat} {x : Int32} {df : Int} : ∀ (ps : List (Int × Int)), (∀ q ∈ ps, -1000 ≤ q.1 ∧ q.1 ≤ 1000) → (ps.zip (ps.drop 1)).all (fun (a, next) => a.1 < next.1) = true → ∀ q ∈ lpairs pc ps, x = iN q.1 → ∃ o, Op.lookupswitch.offset ps df x.toInt = o ∧ q.2 = ((pc : Int) + o).toNat ∧ ∃ a, (a, o) ∈ ps
  | [], _, _, q, hq, _ => by cases hq
  | (a, o) :: t, h, hs, q, hq, e => by
    have ha := h (a, o) List.mem_cons_self
    by_cases hae : a = x.toInt
    · refine ⟨o, by rw [Op.lookupswitch.offset_cons, if_pos hae], ?_, a, List.mem_cons_self⟩
      rcases List.mem_cons.mp hq with rfl | hq
      · rfl
      · exfalso
        have hlt : ∀ (l : List (Int × Int)) (b : Int × Int), ((b :: l).zip ((b :: l).drop 1)).all (fun (a, next) => a.1 < next.1) = true → ∀ c ∈ l, b.1 < c.1 := by
          intro l
          induction l with
          | nil => intro b _ c hc; cases hc
          | cons d l ih =>
            intro b hb c hc
            have hb' : (decide (b.1 < d.1) && ((d :: l).zip ((d :: l).drop 1)).all (fun (a, next) => a.1 < next.1)) = true := hb
            rw [Bool.and_eq_true, decide_eq_true_eq] at hb'
            rcases List.mem_cons.mp hc with rfl | hc
            · exact hb'.1
            · exact Int.lt_trans hb'.1 (ih d hb'.2 c hc)
        have hm : ∃ o', (q.1, o') ∈ t := lpairs_mem t q hq
        obtain ⟨o', ho'⟩ := hm
        have h1 := hlt t (a, o) hs (q.1, o') ho'
        have h2 := h (q.1, o') (List.mem_cons_of_mem _ ho')
        have h3 : x.toInt = q.1 := by rw [e]; exact iN_small (by omega) (by omega)
        simp only at h1
        omega
    · rcases List.mem_cons.mp hq with rfl | hq
      · exfalso
        apply hae
        rw [e]
        exact (iN_small (by omega) (by omega)).symm
      · have hs' : (t.zip (t.drop 1)).all (fun (a, next) => a.1 < next.1) = true := by
          cases t with
          | nil => rfl
          | cons b t =>
            have hb' : (decide (a < b.1) && ((b :: t).zip ((b :: t).drop 1)).all (fun (a, next) => a.1 < next.1)) = true := hs
            rw [Bool.and_eq_true] at hb'
            exact hb'.2
        obtain ⟨o', h1, h2, b, h3⟩ := lpairs_hit (df := df) t (fun q hq => h q (List.mem_cons_of_mem _ hq)) hs' q hq e
        exact ⟨o', by rw [Op.lookupswitch.offset_cons, if_neg hae]; exact h1, h2, b, List.mem_cons_of_mem _ h3⟩
theorem wCpy_inv {st st' : List AV} {M M' : Mem} {P : List Prop} (h : wCpy st M = some (P, st', M')) : ∃ n dn dp ddp r1 d1 sp dsp r0 d0, st = (.int n, dn) :: (.int dp, ddp) :: (.ref r1, d1) :: (.int sp, dsp) :: (.ref r0, d0) :: st' ∧ (((dsc d0).2.1 = 100 ∧ (dsc d1).2.1 = 100) ∨ ((dsc d0).2.1 = 101 ∧ (dsc d1).2.1 = 101)) ∧ P = [¬ sp < 0, ¬ dp < 0, ¬ n < 0, sp.toNatClampNeg + n.toNatClampNeg ≤ dlen d0, dp.toNatClampNeg + n.toNatClampNeg ≤ dlen d1] ∧ M' = updC M r1 (dsc d1).1 (va_cpy (M r0 (dsc d0).1) (M r1 (dsc d1).1) sp.toNatClampNeg dp.toNatClampNeg n.toNatClampNeg) := by
  unfold wCpy at h
  split at h
  · split at h
    · rename_i h1
      cases h
      exact ⟨_, _, _, _, _, _, _, _, _, _, rfl, h1.2, rfl, rfl⟩
    · cases h
  · cases h
theorem wCpy_cs {st st' : List AV} {M M' : Mem} {P : List Prop} (h : wCpy st M = some (P, st', M')) : csum st' ≤ 8 := by
  unfold wCpy at h
  split at h
  · split at h
    · rename_i h1
      cases h
      exact h1.1
    · cases h
  · cases h
theorem updC_off (M : Mem) (r c : Nat) (f : Nat → Int) (r' c' : Nat) (h : ¬ (r' = r ∧ c' = c)) : updC M r c f r' c' = M r' c' := by
  unfold updC
  rw [if_neg h]
theorem updC_same (M : Mem) (r c : Nat) (f : Nat → Int) : updC M r c f r c = f := by simp [updC]
theorem cpy_map {α β : Type} (g : α → β) (f h : Nat → α) (a b n : Nat) : va_cpy (fun k => g (f k)) (fun k => g (h k)) a b n = fun k => g (va_cpy f h a b n k) := by
  funext k
  unfold va_cpy
  split <;> rfl
set_option maxHeartbeats 4000000 in
theorem cpy_ok {l : Launch} {E : EnvT} {d : Nat} {mi cal : MI} {i h pc : Nat} {st st' : List AV} {M M' : Mem} {P : List Prop} {Q : State → Prop} {p : Program} {e : Env} {s : State} {m : MethodId} {args : Array Value} {below : List Frame} {meth : Method} {c : Code} {H : Heap} {locs : List Loc} {la : Array Slot}
    (hC : CX E mi p s m args meth c) (hd : 1 ≤ d) (hdec : decode mi.2.1 pc = .ok (.invokestatic i, 3)) (hok : okCpy mi i h cal = true) (hs : wCpy st M = some (P, st', M')) (hcs : csum st' ≤ 8) (hH : HX E M H) (hS : va_S (Ab E) s.heap H locs) (hT2 : ∀ v ∈ st, TV v) (hP : andL P True) (hl : la.size = mi.2.2.1)
    (k : ∀ (H' : Heap) (locs' : List Loc), HX E M' H' → va_S (Ab E) s.heap H' locs' → (∀ v ∈ st', TV v) → W p l e (rmD d) s m args below meth c H' locs' 0 0 Q (F0 m (pc + 3) la (st'.map (cv E)))) :
    W p l e (rmD d) s m args below meth c H locs 0 0 Q (F0 m pc la (st.map (cv E))) := by
  obtain ⟨hx, hb, hml, hown, hts, hr, hlocks, hKK, hDX, hbs⟩ := hC
  have hD := hDX.all M
  have hK := hKK.1
  simp only [okCpy, Bool.and_eq_true, decide_eq_true_eq] at hok
  obtain ⟨w1, w2, w3, w4⟩ := hok
  obtain ⟨n, dn, dp, ddp, r1, d1, sp, dsp, r0, d0, rfl, htag, rfl, rfl⟩ := wCpy_inv hs
  obtain ⟨p1, p2, p3, p4, p5, -⟩ := hP
  have hT9 : ∀ v ∈ st', TV v := fun v hv => hT2 v (List.mem_cons_of_mem _ (List.mem_cons_of_mem _ (List.mem_cons_of_mem _ (List.mem_cons_of_mem _ (List.mem_cons_of_mem _ hv)))))
  have ht0 : TV (.ref r0, d0) := hT2 _ (List.mem_cons_of_mem _ (List.mem_cons_of_mem _ (List.mem_cons_of_mem _ (List.mem_cons_of_mem _ List.mem_cons_self))))
  have ht1 : TV (.ref r1, d1) := hT2 _ (List.mem_cons_of_mem _ (List.mem_cons_of_mem _ List.mem_cons_self))
  have hfr : 1 ≤ (rmD d).frames := hd
  have hlo : ((st'.map (cv E)).map fun v => v.category).sum + (nativeFrameWords "java/lang/System" "arraycopy" 5 + 11) ≤ (rmD d).locals := by
    rw [csum_cv]
    have : nativeFrameWords "java/lang/System" "arraycopy" 5 + 11 ≤ 50 := by decide +kernel
    show _ ≤ 64 * d
    omega
  rcases htag with ⟨hg0, hg1⟩ | ⟨hg0, hg1⟩
  · have hd0 : d0 ≠ 999 := tag_ne hg0 (by omega)
    have hd1 : d1 ≠ 999 := tag_ne hg1 (by omega)
    obtain ⟨q0, hq0⟩ := TV_CL ht0 hd0
    obtain ⟨q1, hq1⟩ := TV_CL ht1 hd1
    have he0 := WL_cell (E := E) (M := M) hq0
    have he1 := WL_cell (E := E) (M := M) hq1
    rw [cell_int E M hg0] at he0
    rw [cell_int E M hg1] at he1
    simp only [List.map_cons, cv_al E hd0, cv_al E hd1, cv_int]
    refine va_copyi (ty := .int) hx hb (hml.trans hl.symm) hown (hts _ (in_WS w1 rfl)) (hts _ (in_WS w2 rfl)) (hts _ (in_WS w3 rfl)) (hts _ (in_WS w4 rfl)) hK hH hD hS q0 q1 0 0 he0 he1 rfl rfl rfl p1 p2 p3 p4 p5 (fun i _ => rfl) hfr hlo hdec (fun H1 locs1 hP1 hD1 hS1 => ?_)
    rw [WL_set (M' := updC M r1 (dsc d1).1 (va_cpy (M r0 (dsc d0).1) (M r1 (dsc d1).1) sp.toNatClampNeg dp.toNatClampNeg n.toNatClampNeg)) hq1 (by rw [cell_int E _ hg1, updC_same, cpy_map iN]) (updC_off M r1 (dsc d1).1 _)] at hP1
    exact k H1 locs1 hP1 hS1 hT9
  · have hd0 : d0 ≠ 999 := tag_ne hg0 (by omega)
    have hd1 : d1 ≠ 999 := tag_ne hg1 (by omega)
    obtain ⟨q0, hq0⟩ := TV_CL ht0 hd0
    obtain ⟨q1, hq1⟩ := TV_CL ht1 hd1
    have he0 := WL_cell (E := E) (M := M) hq0
    have he1 := WL_cell (E := E) (M := M) hq1
    rw [cell_long E M hg0] at he0
    rw [cell_long E M hg1] at he1
    simp only [List.map_cons, cv_al E hd0, cv_al E hd1, cv_int]
    refine va_copyl (ty := .long) hx hb (hml.trans hl.symm) hown (hts _ (in_WS w1 rfl)) (hts _ (in_WS w2 rfl)) (hts _ (in_WS w3 rfl)) (hts _ (in_WS w4 rfl)) hK hH hD hS q0 q1 1 1 he0 he1 rfl rfl rfl p1 p2 p3 p4 p5 (fun i _ => rfl) hfr hlo hdec (fun H1 locs1 hP1 hD1 hS1 => ?_)
    rw [WL_set (M' := updC M r1 (dsc d1).1 (va_cpy (M r0 (dsc d0).1) (M r1 (dsc d1).1) sp.toNatClampNeg dp.toNatClampNeg n.toNatClampNeg)) hq1 (by rw [cell_long E _ hg1, updC_same, cpy_map lI]) (updC_off M r1 (dsc d1).1 _)] at hP1
    exact k H1 locs1 hP1 hS1 hT9
end
section
theorem andL_True : ∀ {P : List Prop} {q : Prop}, andL P q → andL P True
  | [], _, _ => trivial
  | _ :: _, _, h => ⟨h.1, andL_True h.2⟩
theorem okLen_S {ins : Instr} {len aux : Nat} {z : Int} {ls : LsT} {st : List AV} {q : LsT × List AV} (h : okLen ins len = true) (hs : stepS ins aux z ls st = some q) : len = ilen ins := by
  unfold okLen at h
  split at h
  · cases hs
  · cases hs
  · exact of_decide_eq_true h
theorem okLen_C {ins : Instr} {len aux : Nat} {z : Int} {st : List AV} {M : Mem} {q : List Prop × List AV × Mem} (h : okLen ins len = true) (hs : stepC ins aux z st M = some q) : len = ilen ins := by
  unfold okLen at h
  split at h
  · cases hs
  · cases hs
  · exact of_decide_eq_true h
set_option maxHeartbeats 4000000 in
theorem wpX_ok {l : Launch} {E : EnvT} {d : Nat} {mi : MI} {K : AV → Mem → Prop} {J : JT} {op : OpT} {nx : LsT → List AV → Mem → Prop} {ls : LsT} {st : List AV} {M : Mem} (hd : 1 ≤ d) (hJ : ∀ pc ls st M, J pc ls st M → G l E d mi pc ls st M K) (hnx : ∀ ls st M, nx ls st M → G l E d mi (op.1 + op.2.2.1) ls st M K) (hok : okB mi op = true) (h : wpX l E d mi K J op nx ls st M) : G l E d mi op.1 ls st M K := by
  obtain ⟨pc, ins, len, aux, z, hh, cal⟩ := op
  simp only [okB, Bool.and_eq_true, decide_eq_true_eq] at hok
  obtain ⟨hdec, hlen, -, -, hX⟩ := hok
  intro p e s m args below meth c H locs la hC hH hS hT1 hT2 hl
  have hC0 := hC
  obtain ⟨hx, hb, hml, hown, hts, hr, hlocks, hKK, hDX, hbs⟩ := hC
  have tl1 : ∀ {a : AV} {t : List AV}, (∀ v ∈ a :: t, TV v) → ∀ v ∈ t, TV v := fun h v hv => h v (List.mem_cons_of_mem _ hv)
  cases ins with
  | goto o =>
    have hl3 : len = 3 := of_decide_eq_true hlen
    subst hl3
    exact lv_goto hx hb hdec (of_decide_eq_true hX) (hJ _ _ _ _ h p e s m args below meth c H locs la hC0 hH hS hT1 hT2 hl)
  | if_icmp cc o =>
    have hl3 : len = 3 := of_decide_eq_true hlen
    subst hl3
    simp only [wpX] at h
    split at h
    · rename_i y dy x dx t
      have gJ : ∀ (hj : J aux ls t M), W p l e (rmD d) s m args below meth c H locs 0 0 (MQ below (QQ E mi K) args s 0 0 (Ab E)) (F0 m aux la (t.map (cv E))) := fun hj => hJ _ _ _ _ hj p e s m args below meth c H locs la hC0 hH hS hT1 (tl1 (tl1 hT2)) hl
      have gN : ∀ (hj : nx ls t M), W p l e (rmD d) s m args below meth c H locs 0 0 (MQ below (QQ E mi K) args s 0 0 (Ab E)) (F0 m (pc + 3) la (t.map (cv E))) := fun hj => hnx _ _ _ hj p e s m args below meth c H locs la hC0 hH hS hT1 (tl1 (tl1 hT2)) hl
      cases cc with
      | eq => exact lv_icmp_eq hx hb hdec (of_decide_eq_true hX) (fun q => gJ (h.1 q)) (fun q => gN (h.2 q))
      | ne => exact lv_icmp_ne hx hb hdec (of_decide_eq_true hX) (fun q => gJ (h.1 q)) (fun q => gN (h.2 q))
      | lt => exact lv_icmp_lt hx hb hdec (of_decide_eq_true hX) (fun q => gJ (h.1 q)) (fun q => gN (h.2 q))
      | ge => exact lv_icmp_ge hx hb hdec (of_decide_eq_true hX) (fun q => gJ (h.1 q)) (fun q => gN (h.2 q))
      | gt => exact lv_icmp_gt hx hb hdec (of_decide_eq_true hX) (fun q => gJ (h.1 q)) (fun q => gN (h.2 q))
      | le => exact lv_icmp_le hx hb hdec (of_decide_eq_true hX) (fun q => gJ (h.1 q)) (fun q => gN (h.2 q))
    · exact h.elim
  | ifCond cc o =>
    have hl3 : len = 3 := of_decide_eq_true hlen
    subst hl3
    simp only [wpX] at h
    split at h
    · rename_i x dx t
      have gJ : ∀ (hj : J aux ls t M), W p l e (rmD d) s m args below meth c H locs 0 0 (MQ below (QQ E mi K) args s 0 0 (Ab E)) (F0 m aux la (t.map (cv E))) := fun hj => hJ _ _ _ _ hj p e s m args below meth c H locs la hC0 hH hS hT1 (tl1 hT2) hl
      have gN : ∀ (hj : nx ls t M), W p l e (rmD d) s m args below meth c H locs 0 0 (MQ below (QQ E mi K) args s 0 0 (Ab E)) (F0 m (pc + 3) la (t.map (cv E))) := fun hj => hnx _ _ _ hj p e s m args below meth c H locs la hC0 hH hS hT1 (tl1 hT2) hl
      cases cc with
      | eq => exact lv_if_eq hx hb hdec (of_decide_eq_true hX) (fun q => gJ (h.1 q)) (fun q => gN (h.2 q))
      | ne => exact lv_if_ne hx hb hdec (of_decide_eq_true hX) (fun q => gJ (h.1 q)) (fun q => gN (h.2 q))
      | lt => exact lv_if_lt hx hb hdec (of_decide_eq_true hX) (fun q => gJ (h.1 q)) (fun q => gN (h.2 q))
      | ge => exact lv_if_ge hx hb hdec (of_decide_eq_true hX) (fun q => gJ (h.1 q)) (fun q => gN (h.2 q))
      | gt => exact lv_if_gt hx hb hdec (of_decide_eq_true hX) (fun q => gJ (h.1 q)) (fun q => gN (h.2 q))
      | le => exact lv_if_le hx hb hdec (of_decide_eq_true hX) (fun q => gJ (h.1 q)) (fun q => gN (h.2 q))
    · exact h.elim
  | tableswitch df lo hi offs =>
    simp only [wpX] at h
    simp only [okX, Bool.and_eq_true, decide_eq_true_eq, List.all_eq_true] at hX
    obtain ⟨b1, b2, b3, b4⟩ := hX
    split at h
    · rename_i x dx t
      rcases swP_spec _ _ h with ⟨q, hq, hxq, hj⟩ | ⟨hn, hj⟩
      · obtain ⟨i, o, ho, e1, e2⟩ := tpairs_mem _ _ _ hq
        have hi : i < offs.toList.length := (List.getElem?_eq_some_iff.mp ho).1
        have hxi : x.toInt = lo + i := by
          rw [hxq, e1]
          exact iN_small (by omega) (by omega)
        have h0 := b2 o (List.mem_of_getElem? ho)
        refine lv_tableIn (off := o) (tgt := q.2) hx hb hdec (by omega) (by omega) ?_ (by rw [e2]; omega) (hJ _ _ _ _ hj p e s m args below meth c H locs la hC0 hH hS hT1 (tl1 hT2) hl)
        rw [hxi, show (lo + (i : Int) - lo).toNat = i by omega, ← Array.getElem?_toList]
        exact ho
      · refine lv_tableOut hx hb hdec ?_ (by omega) (hJ _ _ _ _ hj p e s m args below meth c H locs la hC0 hH hS hT1 (tl1 hT2) hl)
        by_cases h1 : x.toInt < lo
        · exact Or.inl h1
        · by_cases h2 : hi < x.toInt
          · exact Or.inr h2
          · exfalso
            obtain ⟨tg, ht⟩ := tpairs_all (pc := pc) offs.toList lo (x.toInt - lo).toNat (by omega)
            refine hn _ ht ?_
            simp only
            rw [show lo + (((x.toInt - lo).toNat : Nat) : Int) = x.toInt by omega, iN_toInt]
    · exact h.elim
  | lookupswitch df ps =>
    simp only [wpX] at h
    simp only [okX, Bool.and_eq_true, decide_eq_true_eq, List.all_eq_true] at hX
    obtain ⟨b1, b2, b3⟩ := hX
    have b3' : (ps.toList.zip (ps.toList.drop 1)).all (fun (a, next) => a.1 < next.1) = true := List.all_eq_true.mpr (fun x hx => decide_eq_true (b3 x hx))
    split at h
    · rename_i x dx t
      have hrg : ∀ q ∈ ps.toList, -1000 ≤ q.1 ∧ q.1 ≤ 1000 := fun q hq => ⟨(b2 q hq).2.1, (b2 q hq).2.2⟩
      rcases swP_spec _ _ h with ⟨q, hq, hxq, hj⟩ | ⟨hn, hj⟩
      · obtain ⟨o, h1, h2, a, h3⟩ := lpairs_hit (df := df) ps.toList hrg b3' q hq hxq
        have h0 := (b2 _ h3).1
        exact lv_lookup (tgt := q.2) hx hb hdec b3' h1 (by rw [h2]; simp only at h0; omega) (hJ _ _ _ _ hj p e s m args below meth c H locs la hC0 hH hS hT1 (tl1 hT2) hl)
      · exact lv_lookup hx hb hdec b3' (lpairs_off ps.toList hrg hn) (by omega) (hJ _ _ _ _ hj p e s m args below meth c H locs la hC0 hH hS hT1 (tl1 hT2) hl)
    · exact h.elim
  | ireturn =>
    have hl3 : len = 1 := of_decide_eq_true hlen
    subst hl3
    simp only [wpX] at h
    split at h
    · rename_i x dx
      simp only [wRetI] at h
      split at h
      · rename_i hret
        rw [hret] at hr
        exact W.iret hx hb hr (fun t ht hW => ⟨⟨(.int x, 0), M, h, by simp only [Qr, hret, rk]; exact ⟨x, rfl, rfl⟩, by rw [ht]; exact hH⟩, hS.F ht⟩) hS.2.2 hdec
      · rename_i hret
        rw [hret] at hr
        refine W.zret (ty := .boolean) hx hb hr ?_ (fun t ht hW => ⟨⟨(.int x, 0), M, h.2, by simp only [Qr, hret, rk]; exact ⟨x, rfl, rfl⟩, by rw [ht]; exact hH⟩, hS.F ht⟩) hS.2.2 hdec
        rcases h.1 with h0 | h0 <;> (rw [h0]; decide +kernel)
      · exact h.elim
    · exact h.elim
  | lreturn =>
    have hl3 : len = 1 := of_decide_eq_true hlen
    subst hl3
    simp only [wpX] at h
    split at h
    · rename_i x dx
      split at h
      · rename_i hret
        have hret2 : mi.2.2.2.1 = some .long := by
          revert hret
          generalize mi.2.2.2.1 = rr
          intro hret
          match rr, hret with
          | some .long, _ => rfl
        exact W.lret hx hb (by rw [hr, hret2]) (fun t ht hW => ⟨⟨(.long x, 0), M, h, by simp only [Qr, hret]; exact ⟨x, rfl, rfl⟩, by rw [ht]; exact hH⟩, hS.F ht⟩) hS.2.2 hdec
      · exact h.elim
    · exact h.elim
  | areturn =>
    have hl3 : len = 1 := of_decide_eq_true hlen
    subst hl3
    simp only [wpX] at h
    split at h
    · rename_i x
      split at h
      · rename_i hret
        have hret2 : ∃ rt, mi.2.2.2.1 = some rt ∧ ((∃ n, rt = .object n) ∨ ∃ t, rt = .array t) := by
          revert hret
          generalize mi.2.2.2.1 = rr
          intro hret
          match rr, hret with
          | some (.object n), _ => exact ⟨_, rfl, Or.inl ⟨n, rfl⟩⟩
          | some (.array t), _ => exact ⟨_, rfl, Or.inr ⟨t, rfl⟩⟩
        obtain ⟨rt, h1, h2⟩ := hret2
        have hx9 : x < 9 := by
          rcases hT2 _ List.mem_cons_self with h9 | h9
          · exact h9.2
          · exact absurd rfl h9.1
        exact W.aret (v := .ref (eK E x)) hx hb (by rw [hr, h1]) h2 (Or.inr ⟨_, rfl⟩) (fun t ht hW => ⟨⟨(.ref x, 999), M, h, by simp only [Qr, hret]; exact ⟨x, rfl, hx9, rfl⟩, by rw [ht]; exact hH⟩, hS.F ht⟩) hS.2.2 hdec
      · exact h.elim
    · exact h.elim
  | return_ =>
    have hl3 : len = 1 := of_decide_eq_true hlen
    subst hl3
    simp only [wpX] at h
    split at h
    · split at h
      · rename_i hret
        have hret2 : mi.2.2.2.1 = none := by
          revert hret
          generalize mi.2.2.2.1 = rr
          intro hret
          cases rr with
          | none => rfl
          | some t => cases t <;> cases hret
        exact W.vret hx hb (by rw [hr, hret2]) (fun t ht hW => ⟨⟨(.null, 0), M, h, by simp only [Qr, hret], by rw [ht]; exact hH⟩, hS.F ht⟩) hS.2.2 hdec
      · exact h.elim
    · exact h.elim
  | invokestatic i =>
    have hl3 : len = 3 := of_decide_eq_true hlen
    subst hl3
    simp only [wpX] at h
    simp only [okX] at hX
    split at h
    · rename_i hk3
      rw [if_pos hk3] at hX
      split at h
      · rename_i P t M' hw
        exact cpy_ok hC0 hd hdec hX hw (wCpy_cs hw) hH hS hT2 (andL_True h) hl.1 (fun H' locs' hH' hS' hT' => hnx _ _ _ (andL_app _ h) p e s m args below meth c H' locs' la hC0 hH' hS' hT1 hT' hl)
      · exact h.elim
    · rename_i hk3
      rw [if_neg hk3] at hX
      simp only [Bool.and_eq_true, decide_eq_true_eq] at hX
      split at h
      · rename_i hk0
        unfold wCall at h
        split at h
        · rename_i hc
          have hst : st = ((st.take cal.2.2.2.2.1).reverse).reverse ++ st.drop cal.2.2.2.2.1 := by rw [List.reverse_reverse, List.take_append_drop]
          rw [hst]
          exact callS_ok (dc := d - 1) ⟨hx, hb, hml, hown, hts⟩ hKK hDX hbs h hX.1 hk0 hX.2 ⟨by show d - 1 + 1 ≤ d; omega, by show 64 * (d - 1 + 1) ≤ 64 * d; omega⟩ (by rw [List.length_reverse, List.length_take]; omega) (fun v hv => hT2 v (List.mem_of_mem_take (List.mem_reverse.mp hv))) (fun v hv => hT2 v (List.mem_of_mem_drop hv)) hH hS hl.1 hc.2 hdec ⟨Nat.zero_le _, Nat.zero_le _⟩
            (fun r M' hK' H' locs' hH' hS' hT' => hnx _ _ _ hK' p e s m args below meth c H' locs' la hC0 hH' hS' hT1 hT' hl)
        · exact h.elim
      · exact h.elim
  | invokevirtual i =>
    have hl3 : len = 3 := of_decide_eq_true hlen
    subst hl3
    simp only [wpX] at h
    simp only [okX, Bool.and_eq_true, decide_eq_true_eq] at hX
    split at h
    · rename_i hrec
      unfold wCall at h
      split at h
      · rename_i hc
        unfold recvOK at hrec
        split at hrec
        · rename_i r0 dd0 hget
          have hlt : cal.2.2.2.2.1 < st.length := by omega
          have hdrop : st.drop cal.2.2.2.2.1 = (.ref r0, dd0) :: st.drop (cal.2.2.2.2.1 + 1) := by
            rw [List.drop_eq_getElem_cons hlt]
            congr 1
            rw [List.getElem?_eq_getElem hlt] at hget
            exact Option.some.inj hget
          have htake : (st.take (cal.2.2.2.2.1 + 1)).reverse = (.ref r0, dd0) :: (st.take cal.2.2.2.2.1).reverse := by
            rw [List.take_add_one, hget]
            simp
          have hst : st = ((st.take cal.2.2.2.2.1).reverse).reverse ++ (.ref r0, dd0) :: st.drop (cal.2.2.2.2.1 + 1) := by rw [List.reverse_reverse, ← hdrop, List.take_append_drop]
          rw [htake] at h
          rw [hst]
          exact callV_ok (dc := d - 1) ⟨hx, hb, hml, hown, hts⟩ hKK hDX hbs h hX.1 (of_decide_eq_true hrec) hX.2 ⟨by show d - 1 + 1 ≤ d; omega, by show 64 * (d - 1 + 1) ≤ 64 * d; omega⟩ (by rw [List.length_reverse, List.length_take]; omega) (fun v hv => hT2 v (List.mem_of_mem_take (by rw [← htake] at hv; exact List.mem_reverse.mp hv))) (fun v hv => hT2 v (List.mem_of_mem_drop hv)) hH hS hl.1 hc.2 hdec ⟨Nat.zero_le _, Nat.zero_le _⟩
            (fun r M' hK' H' locs' hH' hS' hT' => hnx _ _ _ hK' p e s m args below meth c H' locs' la hC0 hH' hS' hT1 hT' hl)
        · cases hrec
      · exact h.elim
    · exact h.elim
  | _ => exact h.elim

theorem wpGo_sound {l : Launch} {E : EnvT} {d : Nat} {mi : MI} {K : AV → Mem → Prop} {J : JT} (hd : 1 ≤ d) (hJ : ∀ pc ls st M, J pc ls st M → G l E d mi pc ls st M K) : ∀ (blk : List OpT) (pc : Nat) (ls : LsT) (st : List AV) (M : Mem), okBlk mi pc blk = true → wpGo l E d mi K J blk ls st M → G l E d mi pc ls st M K
  | [], _, _, _, _, _, h => h.elim
  | op :: rest, pc, ls, st, M, hok, h => by
    simp only [okBlk, Bool.and_eq_true, decide_eq_true_eq, Bool.or_eq_true] at hok
    obtain ⟨hpc, hok⟩ := hok
    subst hpc
    unfold wpGo at h
    split at h
    · exact hJ _ _ _ _ h
    · rename_i hz
      rcases hok with hok | ⟨hok, hrest⟩
      · exact absurd hok hz
      · have ih := wpGo_sound hd hJ rest (op.1 + op.2.2.1)
        split at h
        · rename_i q hs
          intro p e s m args below meth c H locs la hC hH hS hT1 hT2 hl
          have hok2 := hok
          simp only [okB, Bool.and_eq_true, decide_eq_true_eq] at hok2
          have hnl : op.2.2.1 = ilen op.2.1 := okLen_S hok2.2.1 hs
          exact stepS_ok (ls' := q.1) (st' := q.2) hC hok2.1 hnl hok2.2.2.1 hs hT1 hT2 hl (fun la' hT1' hT2' hl' => ih _ _ _ hrest h p e s m args below meth c H locs la' hC hH hS hT1' hT2' hl')
        · rename_i hs
          split at h
          · rename_i q hc
            intro p e s m args below meth c H locs la hC hH hS hT1 hT2 hl
            have hok2 := hok
            simp only [okB, Bool.and_eq_true, decide_eq_true_eq] at hok2
            have hnl : op.2.2.1 = ilen op.2.1 := okLen_C hok2.2.1 hc
            exact stepC_ok (P := q.1) (st' := q.2.1) (M' := q.2.2) hC hok2.1 hnl hok2.2.2.2.1 hc hH hS hT2 (andL_True h) (fun H' locs' hH' hS' hT2' => ih _ _ _ hrest (andL_app _ h) p e s m args below meth c H' locs' la hC hH' hS' hT1 hT2' hl)
          · exact wpX_ok hd hJ (fun ls st M hn => ih ls st M hrest hn) hok h
def okBt (mi : MI) (Bt : BtT) : Bool := Bt.all (fun b => okBlk mi b.1 b.2.2.2)
theorem bfind_mem {pc : Nat} {r : List Nat × Bool × List OpT} : ∀ {Bt : BtT}, bfind Bt pc = some r → (pc, r) ∈ Bt
  | [], h => by cases h
  | b :: t, h => by
    unfold bfind at h
    split at h
    · rename_i e
      subst e
      cases h
      exact List.mem_cons_self
    · exact List.mem_cons_of_mem _ (bfind_mem h)
theorem wp_sound {l : Launch} {E : EnvT} {d : Nat} {mi : MI} {K : AV → Mem → Prop} {Bt : BtT} (hd : 1 ≤ d) (hok : okBt mi Bt = true) : ∀ (f : Nat) (pc : Nat) (ls : LsT) (st : List AV) (M : Mem), wp l E d mi K Bt f pc ls st M → G l E d mi pc ls st M K
  | 0, _, _, _, _, h => h.elim
  | f + 1, pc, ls, st, M, h => by
    unfold wp at h
    split at h
    · exact h.elim
    · rename_i b hb
      split at h
      · unfold wpCut at h
        split at h
        · rename_i ls' hp
          exact G.pick _ hp h
        · exact h.elim
      · exact wpGo_sound hd (wp_sound hd hok f) b.2.2 pc ls st M (List.all_eq_true.mp hok _ (bfind_mem hb)) h
/-- from the head of a block that is cut -/
theorem G.blk {l : Launch} {E : EnvT} {d : Nat} {mi : MI} {K : AV → Mem → Prop} {Bt : BtT} (f : Nat) {pc : Nat} {ls : LsT} {st : List AV} {M : Mem} (b : List Nat × Bool × List OpT) (hd : 1 ≤ d) (hok : okBt mi Bt = true) (hb : bfind Bt pc = some b) (h : wpGo l E d mi K (wp l E d mi K Bt f) b.2.2 ls st M) : G l E d mi pc ls st M K :=
  wpGo_sound hd (wp_sound hd hok f) b.2.2 pc ls st M (List.all_eq_true.mp hok _ (bfind_mem hb)) h
end
section
def m0 : MI := (⟨"", "", ""⟩, ⟨#[]⟩, 0, none, 0, 9, 99, [])
def m_copy : MI := (arraycopyName, ⟨#[]⟩, 0, none, 5, 3, 99, [622, 621, 117])
def m_FN_status : MI := (⟨"FalseNotes", "status", "()I"⟩, prog_1_method_2_code, 1, (some .int), 0, 1, 10, [553, 104, 551, 552])
def m_Mod_status : MI := (⟨"FalseNotesModel", "status", "()I"⟩, prog_13_method_3_code, 1, (some .int), 0, 1, 11, [1553, 115, 1551, 1552])
def m_FN_top : MI := (⟨"FalseNotes", "top", "()J"⟩, prog_1_method_3_code, 1, (some .long), 0, 1, 10, [557, 104, 555, 556])
def m_Mod_top : MI := (⟨"FalseNotesModel", "top", "()J"⟩, prog_13_method_4_code, 1, (some .long), 0, 1, 11, [1557, 115, 1555, 1556])
def m_FN_bottom : MI := (⟨"FalseNotes", "bottom", "()J"⟩, prog_1_method_4_code, 1, (some .long), 0, 1, 10, [561, 104, 559, 560])
def m_Mod_bottom : MI := (⟨"FalseNotesModel", "bottom", "()J"⟩, prog_13_method_5_code, 1, (some .long), 0, 1, 11, [1561, 115, 1559, 1560])
def m_FN_isTray : MI := (⟨"FalseNotes", "isTray", "(I)Z"⟩, prog_1_method_71_code, 1, (some .boolean), 1, 0, 10, [568, 104, 567])
def m_FN_deny : MI := (⟨"FalseNotes", "deny", "(I)Z"⟩, prog_1_method_68_code, 2, (some .boolean), 1, 1, 10, [572, 104, 571, 0])
def m_Arrays_fill0 : MI := (⟨"java/util/Arrays", "fill", "([JJ)V"⟩, prog_20_method_101_code, 5, none, 2, 0, 99, [579, 116, 578])
def m_Tray_make : MI := (⟨"FalseNotes$Tray", "make", "(II)V"⟩, prog_8_method_3_code, 3, none, 2, 1, 6, [576, 114, 574, 575])
def m_FN_agree : MI := (⟨"FalseNotes", "agree", "()Z"⟩, prog_1_method_67_code, 1, (some .boolean), 0, 1, 10, [583, 104, 582, 1])
def m_FN_tray : MI := (⟨"FalseNotes", "tray", "(III)Z"⟩, prog_1_method_5_code, 4, (some .boolean), 3, 1, 10, [565, 104, 563, 564])
def m_Mod_isTray : MI := (⟨"FalseNotesModel", "isTray", "(I)Z"⟩, prog_13_method_11_code, 1, (some .boolean), 1, 0, 11, [1568, 115, 1567])
def m_Mod_is : MI := (⟨"FalseNotesModel", "is", "(I)Z"⟩, prog_13_method_6_code, 2, (some .boolean), 1, 1, 11, [1572, 115, 1571, 15])
def m_Mod_tray : MI := (⟨"FalseNotesModel", "tray", "(III)Z"⟩, prog_13_method_13_code, 5, (some .boolean), 3, 1, 11, [1565, 115, 1563, 1564])
def m_Tray_isMissing : MI := (⟨"FalseNotes$Tray", "isMissing", "()Z"⟩, prog_8_method_2_code, 1, (some .boolean), 0, 1, 6, [595, 114, 593, 594])
def m_FN_cellStatus : MI := (⟨"FalseNotes", "cellStatus", "(II)I"⟩, prog_1_method_74_code, 3, (some .int), 2, 1, 10, [591, 104, 590, 2])
def m_Tray_cut : MI := (⟨"FalseNotes$Tray", "cut", "(J)J"⟩, prog_8_method_6_code, 3, (some .long), 1, 1, 6, [603, 114, 601, 602])
def m_Tray_put : MI := (⟨"FalseNotes$Tray", "put", "(IJ)V"⟩, prog_8_method_4_code, 4, none, 2, 1, 6, [599, 114, 597, 598])
def m_FN_write : MI := (⟨"FalseNotes", "write", "(IIJ)Z"⟩, prog_1_method_6_code, 6, (some .boolean), 3, 1, 10, [587, 104, 585, 586])
def m_Mod_wrongPlace : MI := (⟨"FalseNotesModel", "wrongPlace", "(II)I"⟩, prog_13_method_14_code, 3, (some .int), 2, 1, 11, [1580, 115, 1579, 16])
def m_Mod_cut : MI := (⟨"FalseNotesModel", "cut", "(JI)J"⟩, prog_13_method_12_code, 3, (some .long), 2, 0, 11, [1583, 115, 1582])
def m_Mod_write : MI := (⟨"FalseNotesModel", "write", "(IIJ)Z"⟩, prog_13_method_15_code, 6, (some .boolean), 3, 1, 11, [1576, 115, 1574, 1575])
def m_FN_refuse : MI := (⟨"FalseNotes", "refuse", "(I)I"⟩, prog_1_method_66_code, 2, (some .int), 1, 1, 10, [611, 104, 610, 3])
def m_FN_read : MI := (⟨"FalseNotes", "read", "(II)J"⟩, prog_1_method_7_code, 4, (some .long), 2, 1, 10, [607, 104, 605, 606])
def m_Mod_read : MI := (⟨"FalseNotesModel", "read", "(II)J"⟩, prog_13_method_16_code, 3, (some .long), 2, 1, 11, [1587, 115, 1585, 1586])
def m_Tray_hasRow : MI := (⟨"FalseNotes$Tray", "hasRow", "(II)Z"⟩, prog_8_method_5_code, 3, (some .boolean), 2, 1, 6, [619, 114, 617, 618])
def m_FN_pour : MI := (⟨"FalseNotes", "pour", "(IIIII)Z"⟩, prog_1_method_8_code, 8, (some .boolean), 5, 1, 10, [615, 104, 613, 614])
def m_Mod_pour : MI := (⟨"FalseNotesModel", "pour", "(IIIII)Z"⟩, prog_13_method_17_code, 8, (some .boolean), 5, 1, 11, [1592, 115, 1590, 1591])
def m_FN_spool : MI := (⟨"FalseNotes", "spool", "(I)V"⟩, prog_1_method_78_code, 2, none, 1, 1, 10, [630, 104, 629, 4])
def m_FN_feed : MI := (⟨"FalseNotes", "feed", "(IIIII)I"⟩, prog_1_method_9_code, 6, (some .int), 5, 1, 10, [626, 104, 624, 625])
def m_Mod_four : MI := (⟨"FalseNotesModel", "four", "(I)V"⟩, prog_13_method_20_code, 3, none, 1, 1, 11, [1600, 115, 1599, 17])
def m_Mod_feed : MI := (⟨"FalseNotesModel", "feed", "(IIIII)I"⟩, prog_13_method_19_code, 6, (some .int), 5, 1, 11, [1596, 115, 1594, 1595])
def m_Arrays_fill1 : MI := (⟨"java/util/Arrays", "fill", "([II)V"⟩, prog_20_method_103_code, 4, none, 2, 0, 99, [645, 116, 644])
def m_Choir_makeEmpty : MI := (⟨"FalseNotes$Choir", "makeEmpty", "()V"⟩, prog_2_method_5_code, 1, none, 0, 1, 0, [642, 109, 640, 641])
def m_Math_min : MI := (⟨"java/lang/Math", "min", "(II)I"⟩, prog_15_method_69_code, 2, (some .int), 2, 0, 99, [652, 118, 651])
def m_Tokens_kindOf : MI := (⟨"FalseNotes$Tokens", "kindOf", "(I)I"⟩, prog_7_method_4_code, 1, (some .int), 1, 0, 5, [659, 106, 658])
def m_Tokens_readWord : MI := (⟨"FalseNotes$Tokens", "readWord", "()V"⟩, prog_7_method_5_code, 1, none, 0, 1, 5, [663, 106, 661, 662])
def m_Str_coder : MI := (⟨"java/lang/String", "coder", "()B"⟩, prog_16_method_152_code, 1, (some .byte), 0, 2, 99, [677, 119, 675, 676])
def m_Str_length : MI := (⟨"java/lang/String", "length", "()I"⟩, prog_16_method_54_code, 1, (some .int), 0, 2, 99, [673, 119, 671, 672])
def m_Str_isLatin1 : MI := (⟨"java/lang/String", "isLatin1", "()Z"⟩, prog_16_method_154_code, 1, (some .boolean), 0, 2, 99, [687, 119, 685, 686])
def m_Precond_checkIndex : MI := (⟨"jdk/internal/util/Preconditions", "checkIndex", "(IILjava/util/function/BiFunction;)I"⟩, prog_21_method_11_code, 3, (some .int), 3, 0, 99, [698, 121, 697])
def m_Str_checkIndex : MI := (⟨"java/lang/String", "checkIndex", "(II)V"⟩, prog_16_method_155_code, 2, none, 2, 0, 99, [693, 119, 692])
def m_Latin1_charAt : MI := (⟨"java/lang/StringLatin1", "charAt", "([BI)C"⟩, prog_17_method_2_code, 2, (some .char), 2, 0, 99, [690, 120, 689])
def m_Str_charAt : MI := (⟨"java/lang/String", "charAt", "(I)C"⟩, prog_16_method_56_code, 2, (some .char), 1, 2, 99, [683, 119, 681, 682])
def m_Tokens_keywordOf : MI := (⟨"FalseNotes$Tokens", "keywordOf", "(J)I"⟩, prog_7_method_7_code, 7, (some .int), 1, 0, 5, [668, 106, 667])
def m_Tokens_readNumber : MI := (⟨"FalseNotes$Tokens", "readNumber", "()V"⟩, prog_7_method_6_code, 2, none, 0, 1, 5, [721, 106, 719, 720])
def m_Tokens_advance : MI := (⟨"FalseNotes$Tokens", "advance", "()V"⟩, prog_7_method_3_code, 1, none, 0, 1, 5, [656, 106, 654, 655])
def m_Tokens_start : MI := (⟨"FalseNotes$Tokens", "start", "([BI)V"⟩, prog_7_method_2_code, 3, none, 2, 1, 5, [649, 106, 647, 648])
def m_Tokens_refuse : MI := (⟨"FalseNotes$Tokens", "refuse", "(I)Z"⟩, prog_7_method_8_code, 2, (some .boolean), 1, 1, 5, [729, 106, 727, 728])
def m_Tokens_standsName : MI := (⟨"FalseNotes$Tokens", "standsName", "()Z"⟩, prog_7_method_15_code, 1, (some .boolean), 0, 1, 5, [734, 106, 732, 733])
def m_Choir_find : MI := (⟨"FalseNotes$Choir", "find", "(J)I"⟩, prog_2_method_9_code, 4, (some .int), 1, 1, 0, [739, 109, 737, 738])
def m_Tokens_takeKeyword : MI := (⟨"FalseNotes$Tokens", "takeKeyword", "(I)Z"⟩, prog_7_method_12_code, 2, (some .boolean), 1, 1, 5, [743, 106, 741, 742])
def m_Tokens_standsNumber : MI := (⟨"FalseNotes$Tokens", "standsNumber", "(II)Z"⟩, prog_7_method_13_code, 3, (some .boolean), 2, 1, 5, [751, 106, 749, 750])
def m_Tokens_takeNumber : MI := (⟨"FalseNotes$Tokens", "takeNumber", "(II)Z"⟩, prog_7_method_14_code, 3, (some .boolean), 2, 1, 5, [747, 106, 745, 746])
def m_Choir_slot : MI := (⟨"FalseNotes$Choir", "slot", "(II)I"⟩, prog_2_method_2_code, 2, (some .int), 2, 0, 0, [762, 109, 761])
def m_Choir_addNote : MI := (⟨"FalseNotes$Choir", "addNote", "(II)V"⟩, prog_2_method_8_code, 3, none, 2, 1, 0, [759, 109, 757, 758])
def m_Choir_addSinger : MI := (⟨"FalseNotes$Choir", "addSinger", "(JI)I"⟩, prog_2_method_7_code, 5, (some .int), 2, 1, 0, [755, 109, 753, 754])
def m_CReader_isVoice : MI := (⟨"FalseNotes$ChoirReader", "isVoice", "(I)Z"⟩, prog_3_method_5_code, 1, (some .boolean), 1, 0, 1, [769, 105, 768])
def m_CReader_addVoice : MI := (⟨"FalseNotes$ChoirReader", "addVoice", "(LFalseNotes$Choir;I)Z"⟩, prog_3_method_6_code, 5, (some .boolean), 2, 1, 1, [773, 105, 771, 772])
def m_CReader_readVoices : MI := (⟨"FalseNotes$ChoirReader", "readVoices", "(LFalseNotes$Choir;I)Z"⟩, prog_3_method_4_code, 4, (some .boolean), 2, 1, 1, [766, 105, 764, 765])
def m_CReader_readLine : MI := (⟨"FalseNotes$ChoirReader", "readLine", "(LFalseNotes$Choir;I)Z"⟩, prog_3_method_7_code, 4, (some .boolean), 2, 1, 1, [777, 105, 775, 776])
def m_Tokens_standsSign : MI := (⟨"FalseNotes$Tokens", "standsSign", "(I)Z"⟩, prog_7_method_9_code, 2, (some .boolean), 1, 1, 5, [783, 106, 781, 782])
def m_CReader_readSinger : MI := (⟨"FalseNotes$ChoirReader", "readSinger", "(LFalseNotes$Choir;)Z"⟩, prog_3_method_3_code, 5, (some .boolean), 1, 1, 1, [725, 105, 723, 724])
def m_Tokens_takeSinger : MI := (⟨"FalseNotes$Tokens", "takeSinger", "(LFalseNotes$Choir;I)I"⟩, prog_7_method_16_code, 4, (some .int), 2, 1, 5, [791, 106, 789, 790])
def m_Choir_slotOf : MI := (⟨"FalseNotes$Choir", "slotOf", "(II)I"⟩, prog_2_method_16_code, 6, (some .int), 2, 1, 0, [801, 109, 799, 800])
def m_Waiting_placeOf : MI := (⟨"FalseNotes$Waiting", "placeOf", "(II)I"⟩, prog_9_method_3_code, 4, (some .int), 2, 1, 7, [805, 110, 803, 804])
def m_Waiting_raise : MI := (⟨"FalseNotes$Waiting", "raise", "(II)Z"⟩, prog_9_method_4_code, 3, (some .boolean), 2, 1, 7, [809, 110, 807, 808])
def m_Waiting_join : MI := (⟨"FalseNotes$Waiting", "join", "(III)Z"⟩, prog_9_method_5_code, 4, (some .boolean), 3, 1, 7, [813, 110, 811, 812])
def m_Choir_owe : MI := (⟨"FalseNotes$Choir", "owe", "(III)Z"⟩, prog_2_method_31_code, 6, (some .boolean), 3, 1, 0, [797, 109, 795, 796])
def m_Tokens_takeSign : MI := (⟨"FalseNotes$Tokens", "takeSign", "(I)Z"⟩, prog_7_method_10_code, 2, (some .boolean), 1, 1, 5, [817, 106, 815, 816])
def m_CReader_readOwes : MI := (⟨"FalseNotes$ChoirReader", "readOwes", "(LFalseNotes$Choir;)Z"⟩, prog_3_method_8_code, 4, (some .boolean), 1, 1, 1, [787, 105, 785, 786])
def m_CReader_readHeir : MI := (⟨"FalseNotes$ChoirReader", "readHeir", "(LFalseNotes$Choir;)Z"⟩, prog_3_method_9_code, 4, (some .boolean), 1, 1, 1, [822, 105, 820, 821])
def m_CReader_readHums : MI := (⟨"FalseNotes$ChoirReader", "readHums", "(LFalseNotes$Choir;)Z"⟩, prog_3_method_10_code, 2, (some .boolean), 1, 1, 1, [826, 105, 824, 825])
def m_CReader_readAll : MI := (⟨"FalseNotes$ChoirReader", "readAll", "([BILFalseNotes$Choir;)Z"⟩, prog_3_method_2_code, 6, (some .boolean), 3, 1, 1, [638, 105, 636, 637])
def m_FN_noteFault : MI := (⟨"FalseNotes", "noteFault", "(LFalseNotes$Tokens;)V"⟩, prog_1_method_79_code, 2, none, 1, 1, 10, [830, 104, 829, 5])
def m_Years_forget : MI := (⟨"FalseNotes$Years", "forget", "()V"⟩, prog_10_method_2_code, 1, none, 0, 1, 8, [834, 111, 832, 833])
def m_FN_answer : MI := (⟨"FalseNotes", "answer", "(I)I"⟩, prog_1_method_64_code, 2, (some .int), 1, 1, 10, [838, 104, 837, 6])
def m_FN_choir : MI := (⟨"FalseNotes", "choir", "(I)I"⟩, prog_1_method_10_code, 4, (some .int), 1, 1, 10, [634, 104, 632, 633])
def m_Mod_byteAt : MI := (⟨"FalseNotesModel", "byteAt", "(I)I"⟩, prog_13_method_21_code, 2, (some .int), 1, 1, 11, [1620, 115, 1619, 20])
def m_Mod_isSmall : MI := (⟨"FalseNotesModel", "isSmall", "(I)Z"⟩, prog_13_method_22_code, 1, (some .boolean), 1, 0, 11, [1623, 115, 1622])
def m_Mod_isDigit : MI := (⟨"FalseNotesModel", "isDigit", "(I)Z"⟩, prog_13_method_23_code, 1, (some .boolean), 1, 0, 11, [1626, 115, 1625])
def m_Mod_ahead : MI := (⟨"FalseNotesModel", "ahead", "()V"⟩, prog_13_method_24_code, 2, none, 0, 1, 11, [1616, 115, 1615, 19])
def m_Mod_begins : MI := (⟨"FalseNotesModel", "begins", "(II)Z"⟩, prog_13_method_28_code, 4, (some .boolean), 2, 1, 11, [1612, 115, 1611, 18])
def m_Mod_refuse : MI := (⟨"FalseNotesModel", "refuse", "(I)I"⟩, prog_13_method_7_code, 2, (some .int), 1, 1, 11, [1632, 115, 1631, 21])
def m_Mod_plain : MI := (⟨"FalseNotesModel", "plain", "(I)V"⟩, prog_13_method_2_code, 3, none, 1, 1, 11, [1446, 115, 1445, 14])
def m_Mod_inWords : MI := (⟨"FalseNotesModel", "inWords", "(Ljava/lang/String;)I"⟩, prog_13_method_26_code, 7, (some .int), 1, 1, 11, [1641, 115, 1640, 23])
def m_Mod_singerRow : MI := (⟨"FalseNotesModel", "singerRow", "(I)I"⟩, prog_13_method_37_code, 1, (some .int), 1, 0, 11, [1650, 115, 1649])
def m_Mod_fails : MI := (⟨"FalseNotesModel", "fails", "(I)Z"⟩, prog_13_method_27_code, 2, (some .boolean), 1, 1, 11, [1654, 115, 1653, 25])
def m_Mod_isName : MI := (⟨"FalseNotesModel", "isName", "(Ljava/lang/String;)Z"⟩, prog_13_method_32_code, 2, (some .boolean), 1, 1, 11, [1658, 115, 1657, 26])
def m_Mod_nameHere : MI := (⟨"FalseNotesModel", "nameHere", "()J"⟩, prog_13_method_33_code, 4, (some .long), 0, 1, 11, [1666, 115, 1665, 28])
def m_Mod_findHere : MI := (⟨"FalseNotesModel", "findHere", "(II)I"⟩, prog_13_method_34_code, 4, (some .int), 2, 1, 11, [1662, 115, 1661, 27])
def m_Mod_wantWord : MI := (⟨"FalseNotesModel", "wantWord", "(Ljava/lang/String;I)Z"⟩, prog_13_method_30_code, 3, (some .boolean), 2, 1, 11, [1670, 115, 1669, 29])
def m_Mod_number : MI := (⟨"FalseNotesModel", "number", "(III)Z"⟩, prog_13_method_31_code, 4, (some .boolean), 3, 1, 11, [1674, 115, 1673, 30])
def m_Mod_isThere : MI := (⟨"FalseNotesModel", "isThere", "(I)Z"⟩, prog_13_method_47_code, 2, (some .boolean), 1, 1, 11, [1678, 115, 1677, 31])
def m_Mod_isFrom : MI := (⟨"FalseNotesModel", "isFrom", "(JJJ)Z"⟩, prog_13_method_18_code, 6, (some .boolean), 3, 0, 11, [1686, 115, 1685])
def m_Mod_aLine : MI := (⟨"FalseNotesModel", "aLine", "(I)Z"⟩, prog_13_method_50_code, 3, (some .boolean), 1, 1, 11, [1682, 115, 1681, 32])
def m_Mod_aSinger : MI := (⟨"FalseNotesModel", "aSinger", "()Z"⟩, prog_13_method_49_code, 4, (some .boolean), 0, 1, 11, [1647, 115, 1646, 24])
def m_Mod_oldOne : MI := (⟨"FalseNotesModel", "oldOne", "(III)Z"⟩, prog_13_method_48_code, 4, (some .boolean), 3, 1, 11, [1698, 115, 1697, 35])
def m_Mod_twoTo : MI := (⟨"FalseNotesModel", "twoTo", "()Z"⟩, prog_13_method_51_code, 2, (some .boolean), 0, 1, 11, [1694, 115, 1693, 34])
def m_Mod_of : MI := (⟨"FalseNotesModel", "of", "(II)I"⟩, prog_13_method_38_code, 3, (some .int), 2, 1, 11, [1711, 115, 1710, 38])
def m_Mod_holderOf : MI := (⟨"FalseNotesModel", "holderOf", "(II)I"⟩, prog_13_method_39_code, 3, (some .int), 2, 1, 11, [1715, 115, 1714, 39])
def m_Mod_noteOf : MI := (⟨"FalseNotesModel", "noteOf", "(II)I"⟩, prog_13_method_42_code, 4, (some .int), 2, 1, 11, [1707, 115, 1706, 37])
def m_Mod_debtAt : MI := (⟨"FalseNotesModel", "debtAt", "(II)I"⟩, prog_13_method_40_code, 3, (some .int), 2, 1, 11, [1719, 115, 1718, 40])
def m_Mod_stands : MI := (⟨"FalseNotesModel", "stands", "(IIII)V"⟩, prog_13_method_41_code, 5, none, 4, 1, 11, [1723, 115, 1722, 41])
def m_Mod_waiterOf : MI := (⟨"FalseNotesModel", "waiterOf", "(II)I"⟩, prog_13_method_43_code, 4, (some .int), 2, 1, 11, [1727, 115, 1726, 42])
def m_Mod_books : MI := (⟨"FalseNotesModel", "books", "(III)Z"⟩, prog_13_method_44_code, 6, (some .boolean), 3, 1, 11, [1703, 115, 1702, 36])
def m_Mod_aDebt : MI := (⟨"FalseNotesModel", "aDebt", "()Z"⟩, prog_13_method_52_code, 1, (some .boolean), 0, 1, 11, [1690, 115, 1689, 33])
def m_Mod_isSign : MI := (⟨"FalseNotesModel", "isSign", "(I)Z"⟩, prog_13_method_25_code, 2, (some .boolean), 1, 1, 11, [1735, 115, 1734, 44])
def m_Mod_wantSign : MI := (⟨"FalseNotesModel", "wantSign", "(I)Z"⟩, prog_13_method_29_code, 2, (some .boolean), 1, 1, 11, [1731, 115, 1730, 43])
def m_Mod_choirPart : MI := (⟨"FalseNotesModel", "choirPart", "()Z"⟩, prog_13_method_53_code, 2, (some .boolean), 0, 1, 11, [1636, 115, 1635, 22])
def m_Mod_gives : MI := (⟨"FalseNotesModel", "gives", "(I)I"⟩, prog_13_method_8_code, 2, (some .int), 1, 1, 11, [1743, 115, 1742, 46])
def m_Mod_taken : MI := (⟨"FalseNotesModel", "taken", "(I)I"⟩, prog_13_method_36_code, 2, (some .int), 1, 1, 11, [1739, 115, 1738, 45])
def m_Mod_choir : MI := (⟨"FalseNotesModel", "choir", "(I)I"⟩, prog_13_method_54_code, 4, (some .int), 1, 1, 11, [1608, 115, 1606, 1607])
def m_Years_addEnd : MI := (⟨"FalseNotes$Years", "addEnd", "(I)V"⟩, prog_10_method_5_code, 2, none, 1, 1, 8, [857, 111, 855, 856])
def m_YReader_readEnd : MI := (⟨"FalseNotes$YearsReader", "readEnd", "(LFalseNotes$Years;)Z"⟩, prog_11_method_3_code, 2, (some .boolean), 1, 1, 9, [852, 107, 850, 851])
def m_YReader_beginsStep : MI := (⟨"FalseNotes$YearsReader", "beginsStep", "(I)Z"⟩, prog_11_method_5_code, 1, (some .boolean), 1, 0, 9, [865, 107, 864])
def m_Years_addStep : MI := (⟨"FalseNotes$Years", "addStep", "(I)I"⟩, prog_10_method_4_code, 2, (some .int), 1, 1, 8, [869, 111, 867, 868])
def m_YReader_readTestWord : MI := (⟨"FalseNotes$YearsReader", "readTestWord", "(LFalseNotes$Years;I)Z"⟩, prog_11_method_6_code, 5, (some .boolean), 2, 1, 9, [873, 107, 871, 872])
def m_YReader_tailOf : MI := (⟨"FalseNotes$YearsReader", "tailOf", "(I)Ljava/lang/String;"⟩, prog_11_method_7_code, 1, (some (.object "java/lang/String")), 1, 0, 9, [881, 107, 880])
def m_Tokens_takeCompares : MI := (⟨"FalseNotes$Tokens", "takeCompares", "()Z"⟩, prog_7_method_11_code, 1, (some .boolean), 0, 1, 5, [896, 106, 894, 895])
def m_YReader_leastOf : MI := (⟨"FalseNotes$YearsReader", "leastOf", "(I)I"⟩, prog_11_method_9_code, 1, (some .int), 1, 0, 9, [899, 107, 898])
def m_YReader_mostOf : MI := (⟨"FalseNotes$YearsReader", "mostOf", "(I)I"⟩, prog_11_method_10_code, 1, (some .int), 1, 0, 9, [902, 107, 901])
def m_YReader_readTail : MI := (⟨"FalseNotes$YearsReader", "readTail", "(LFalseNotes$Choir;LFalseNotes$Years;I)Z"⟩, prog_11_method_8_code, 8, (some .boolean), 3, 1, 9, [878, 107, 876, 877])
def m_YReader_readStep : MI := (⟨"FalseNotes$YearsReader", "readStep", "(LFalseNotes$Choir;LFalseNotes$Years;)Z"⟩, prog_11_method_4_code, 6, (some .boolean), 2, 1, 9, [862, 107, 860, 861])
def m_YReader_readAll : MI := (⟨"FalseNotes$YearsReader", "readAll", "([BILFalseNotes$Choir;LFalseNotes$Years;)Z"⟩, prog_11_method_2_code, 7, (some .boolean), 4, 1, 9, [846, 107, 844, 845])
def m_FN_years : MI := (⟨"FalseNotes", "years", "(I)I"⟩, prog_1_method_11_code, 4, (some .int), 1, 1, 10, [842, 104, 840, 841])
def m_Mod_singerTo : MI := (⟨"FalseNotesModel", "singerTo", "(I)Z"⟩, prog_13_method_55_code, 2, (some .boolean), 1, 1, 11, [1759, 115, 1758, 49])
def m_Mod_test : MI := (⟨"FalseNotesModel", "test", "(I)Z"⟩, prog_13_method_56_code, 3, (some .boolean), 1, 1, 11, [1763, 115, 1762, 50])
def m_Mod_yearOrder : MI := (⟨"FalseNotesModel", "yearOrder", "(II)Z"⟩, prog_13_method_57_code, 3, (some .boolean), 2, 1, 11, [1755, 115, 1754, 48])
def m_Mod_yearStep : MI := (⟨"FalseNotesModel", "yearStep", "()Z"⟩, prog_13_method_58_code, 6, (some .boolean), 0, 1, 11, [1751, 115, 1750, 47])
def m_Mod_years : MI := (⟨"FalseNotesModel", "years", "(I)I"⟩, prog_13_method_59_code, 4, (some .int), 1, 1, 11, [1747, 115, 1745, 1746])
def m_FN_fault : MI := (⟨"FalseNotes", "fault", "(I)I"⟩, prog_1_method_12_code, 2, (some .int), 1, 1, 10, [907, 104, 905, 906])
def m_Mod_fault : MI := (⟨"FalseNotesModel", "fault", "(I)I"⟩, prog_13_method_35_code, 2, (some .int), 1, 1, 11, [1604, 115, 1602, 1603])
def m_Choir_debtsAtNotes : MI := (⟨"FalseNotes$Choir", "debtsAtNotes", "()I"⟩, prog_2_method_25_code, 3, (some .int), 0, 1, 0, [915, 109, 913, 914])
def m_Choir_isIn : MI := (⟨"FalseNotes$Choir", "isIn", "(II)Z"⟩, prog_2_method_3_code, 2, (some .boolean), 2, 0, 0, [926, 109, 925])
def m_Math_max : MI := (⟨"java/lang/Math", "max", "(II)I"⟩, prog_15_method_65_code, 2, (some .int), 2, 0, 99, [937, 118, 936])
def m_Choir_grown : MI := (⟨"FalseNotes$Choir", "grown", "(I)I"⟩, prog_2_method_29_code, 2, (some .int), 1, 1, 0, [934, 109, 932, 933])
def m_Choir_grownIn : MI := (⟨"FalseNotes$Choir", "grownIn", "(II)I"⟩, prog_2_method_30_code, 6, (some .int), 2, 1, 0, [930, 109, 928, 929])
def m_Choir_allOwedIn : MI := (⟨"FalseNotes$Choir", "allOwedIn", "(I)I"⟩, prog_2_method_27_code, 6, (some .int), 1, 1, 0, [923, 109, 921, 922])
def m_Choir_allOwed : MI := (⟨"FalseNotes$Choir", "allOwed", "()I"⟩, prog_2_method_26_code, 1, (some .int), 0, 1, 0, [919, 109, 917, 918])
def m_Choir_allCoins : MI := (⟨"FalseNotes$Choir", "allCoins", "()I"⟩, prog_2_method_28_code, 3, (some .int), 0, 1, 0, [942, 109, 940, 941])
def m_FN_told : MI := (⟨"FalseNotes", "told", "(I)I"⟩, prog_1_method_13_code, 2, (some .int), 1, 1, 10, [911, 104, 909, 910])
def m_Mod_notesHeld : MI := (⟨"FalseNotesModel", "notesHeld", "()I"⟩, prog_13_method_74_code, 4, (some .int), 0, 1, 11, [1771, 115, 1770, 51])
def m_Mod_noted : MI := (⟨"FalseNotesModel", "noted", "(II)I"⟩, prog_13_method_68_code, 4, (some .int), 2, 1, 11, [1787, 115, 1786, 55])
def m_Mod_owes : MI := (⟨"FalseNotesModel", "owes", "(II)I"⟩, prog_13_method_69_code, 4, (some .int), 2, 1, 11, [1783, 115, 1782, 54])
def m_Mod_owesAll : MI := (⟨"FalseNotesModel", "owesAll", "(I)I"⟩, prog_13_method_70_code, 4, (some .int), 1, 1, 11, [1779, 115, 1778, 53])
def m_Mod_allOwed : MI := (⟨"FalseNotesModel", "allOwed", "()I"⟩, prog_13_method_72_code, 3, (some .int), 0, 1, 11, [1775, 115, 1774, 52])
def m_Mod_sumOf : MI := (⟨"FalseNotesModel", "sumOf", "(I)I"⟩, prog_13_method_73_code, 4, (some .int), 1, 1, 11, [1791, 115, 1790, 56])
def m_Mod_told : MI := (⟨"FalseNotesModel", "told", "(I)I"⟩, prog_13_method_76_code, 2, (some .int), 1, 1, 11, [1767, 115, 1765, 1766])
def m_Choir_knows : MI := (⟨"FalseNotes$Choir", "knows", "(I)Z"⟩, prog_2_method_10_code, 2, (some .boolean), 1, 1, 0, [950, 109, 948, 949])
def m_Choir_oneIfIn : MI := (⟨"FalseNotes$Choir", "oneIfIn", "(II)I"⟩, prog_2_method_4_code, 2, (some .int), 2, 0, 0, [953, 109, 952])
def m_FN_answerOr : MI := (⟨"FalseNotes", "answerOr", "(II)I"⟩, prog_1_method_65_code, 3, (some .int), 2, 1, 10, [957, 104, 956, 7])
def m_Choir_owesInAll : MI := (⟨"FalseNotes$Choir", "owesInAll", "(I)I"⟩, prog_2_method_21_code, 4, (some .int), 1, 1, 0, [961, 109, 959, 960])
def m_Choir_isOwedInAll : MI := (⟨"FalseNotes$Choir", "isOwedInAll", "(I)I"⟩, prog_2_method_22_code, 4, (some .int), 1, 1, 0, [965, 109, 963, 964])
def m_FN_singer : MI := (⟨"FalseNotes", "singer", "(II)I"⟩, prog_1_method_14_code, 3, (some .int), 2, 1, 10, [946, 104, 944, 945])
def m_Mod_isSinger : MI := (⟨"FalseNotesModel", "isSinger", "(I)Z"⟩, prog_13_method_60_code, 2, (some .boolean), 1, 1, 11, [1799, 115, 1798, 57])
def m_Mod_orNone : MI := (⟨"FalseNotesModel", "orNone", "(I)I"⟩, prog_13_method_9_code, 2, (some .int), 1, 1, 11, [1803, 115, 1802, 58])
def m_Mod_owedAll : MI := (⟨"FalseNotesModel", "owedAll", "(I)I"⟩, prog_13_method_71_code, 4, (some .int), 1, 1, 11, [1807, 115, 1806, 59])
def m_Mod_singer : MI := (⟨"FalseNotesModel", "singer", "(II)I"⟩, prog_13_method_77_code, 3, (some .int), 2, 1, 11, [1795, 115, 1793, 1794])
def m_Choir_hasNote : MI := (⟨"FalseNotes$Choir", "hasNote", "(II)Z"⟩, prog_2_method_13_code, 3, (some .boolean), 2, 1, 0, [973, 109, 971, 972])
def m_FN_line : MI := (⟨"FalseNotes", "line", "(II)I"⟩, prog_1_method_15_code, 3, (some .int), 2, 1, 10, [969, 104, 967, 968])
def m_Mod_isNote : MI := (⟨"FalseNotesModel", "isNote", "(II)Z"⟩, prog_13_method_64_code, 3, (some .boolean), 2, 1, 11, [1815, 115, 1814, 60])
def m_Mod_line : MI := (⟨"FalseNotesModel", "line", "(II)I"⟩, prog_13_method_78_code, 3, (some .int), 2, 1, 11, [1811, 115, 1809, 1810])
def m_FN_held : MI := (⟨"FalseNotes", "held", "(III)I"⟩, prog_1_method_16_code, 5, (some .int), 3, 1, 10, [978, 104, 976, 977])
def m_Mod_held : MI := (⟨"FalseNotesModel", "held", "(III)I"⟩, prog_13_method_79_code, 4, (some .int), 3, 1, 11, [1819, 115, 1817, 1818])
def m_Choir_debtAtNote : MI := (⟨"FalseNotes$Choir", "debtAtNote", "(II)I"⟩, prog_2_method_19_code, 4, (some .int), 2, 1, 0, [990, 109, 988, 989])
def m_Choir_owedBetween : MI := (⟨"FalseNotes$Choir", "owedBetween", "(II)I"⟩, prog_2_method_20_code, 4, (some .int), 2, 1, 0, [986, 109, 984, 985])
def m_FN_owed : MI := (⟨"FalseNotes", "owed", "(II)I"⟩, prog_1_method_17_code, 3, (some .int), 2, 1, 10, [982, 104, 980, 981])
def m_Mod_owed : MI := (⟨"FalseNotesModel", "owed", "(II)I"⟩, prog_13_method_80_code, 3, (some .int), 2, 1, 11, [1823, 115, 1821, 1822])
def m_FN_waiting : MI := (⟨"FalseNotes", "waiting", "(II)I"⟩, prog_1_method_18_code, 4, (some .int), 2, 1, 10, [994, 104, 992, 993])
def m_Mod_waiting : MI := (⟨"FalseNotesModel", "waiting", "(II)I"⟩, prog_13_method_81_code, 3, (some .int), 2, 1, 11, [1827, 115, 1825, 1826])
def m_Choir_lives : MI := (⟨"FalseNotes$Choir", "lives", "(I)Z"⟩, prog_2_method_11_code, 2, (some .boolean), 1, 1, 0, [1002, 109, 1000, 1001])
def m_Choir_sungAt : MI := (⟨"FalseNotes$Choir", "sungAt", "(II)I"⟩, prog_2_method_18_code, 4, (some .int), 2, 1, 0, [1006, 109, 1004, 1005])
def m_FN_sung : MI := (⟨"FalseNotes", "sung", "(II)I"⟩, prog_1_method_19_code, 3, (some .int), 2, 1, 10, [998, 104, 996, 997])
def m_Mod_isDead : MI := (⟨"FalseNotesModel", "isDead", "(I)Z"⟩, prog_13_method_61_code, 2, (some .boolean), 1, 1, 11, [1839, 115, 1838, 62])
def m_Mod_isLiving : MI := (⟨"FalseNotesModel", "isLiving", "(I)Z"⟩, prog_13_method_62_code, 2, (some .boolean), 1, 1, 11, [1835, 115, 1834, 61])
def m_Mod_sungAt : MI := (⟨"FalseNotesModel", "sungAt", "(II)I"⟩, prog_13_method_82_code, 3, (some .int), 2, 1, 11, [1843, 115, 1842, 63])
def m_Mod_sung : MI := (⟨"FalseNotesModel", "sung", "(II)I"⟩, prog_13_method_83_code, 3, (some .int), 2, 1, 11, [1831, 115, 1829, 1830])
def m_FN_lineTrayStatus : MI := (⟨"FalseNotes", "lineTrayStatus", "(II)I"⟩, prog_1_method_75_code, 3, (some .int), 2, 1, 10, [1014, 104, 1013, 8])
def m_FN_copySung : MI := (⟨"FalseNotes", "copySung", "(II)I"⟩, prog_1_method_20_code, 6, (some .int), 2, 1, 10, [1010, 104, 1008, 1009])
def m_Mod_copySung : MI := (⟨"FalseNotesModel", "copySung", "(II)I"⟩, prog_13_method_84_code, 4, (some .int), 2, 1, 11, [1847, 115, 1845, 1846])
def m_Choir_areTwo : MI := (⟨"FalseNotes$Choir", "areTwo", "(II)Z"⟩, prog_2_method_12_code, 3, (some .boolean), 2, 1, 0, [1022, 109, 1020, 1021])
def m_Choir_lendCoins : MI := (⟨"FalseNotes$Choir", "lendCoins", "(III)Z"⟩, prog_2_method_32_code, 4, (some .boolean), 3, 1, 0, [1027, 109, 1025, 1026])
def m_FN_lend : MI := (⟨"FalseNotes", "lend", "(III)I"⟩, prog_1_method_21_code, 4, (some .int), 3, 1, 10, [1018, 104, 1016, 1017])
def m_Mod_areTwo : MI := (⟨"FalseNotesModel", "areTwo", "(II)Z"⟩, prog_13_method_63_code, 3, (some .boolean), 2, 1, 11, [1855, 115, 1854, 64])
def m_Mod_gets : MI := (⟨"FalseNotesModel", "gets", "(III)V"⟩, prog_13_method_67_code, 4, none, 3, 1, 11, [1863, 115, 1862, 66])
def m_Mod_lends : MI := (⟨"FalseNotesModel", "lends", "(III)Z"⟩, prog_13_method_85_code, 4, (some .boolean), 3, 1, 11, [1859, 115, 1858, 65])
def m_Mod_lend : MI := (⟨"FalseNotesModel", "lend", "(III)I"⟩, prog_13_method_86_code, 4, (some .int), 3, 1, 11, [1851, 115, 1849, 1850])
def m_Choir_handOver : MI := (⟨"FalseNotes$Choir", "handOver", "(III)V"⟩, prog_2_method_34_code, 4, none, 3, 1, 0, [1041, 109, 1039, 1040])
def m_Choir_takeOff : MI := (⟨"FalseNotes$Choir", "takeOff", "(II)V"⟩, prog_2_method_35_code, 3, none, 2, 1, 0, [1045, 109, 1043, 1044])
def m_Waiting_leave : MI := (⟨"FalseNotes$Waiting", "leave", "(I)V"⟩, prog_9_method_6_code, 3, none, 1, 1, 7, [1053, 110, 1051, 1052])
def m_Choir_settle : MI := (⟨"FalseNotes$Choir", "settle", "()V"⟩, prog_2_method_36_code, 4, none, 0, 1, 0, [1049, 109, 1047, 1048])
def m_Choir_payCoins : MI := (⟨"FalseNotes$Choir", "payCoins", "(III)Z"⟩, prog_2_method_33_code, 5, (some .boolean), 3, 1, 0, [1037, 109, 1035, 1036])
def m_FN_pay : MI := (⟨"FalseNotes", "pay", "(III)I"⟩, prog_1_method_22_code, 4, (some .int), 3, 1, 10, [1033, 104, 1031, 1032])
def m_Mod_goesOff : MI := (⟨"FalseNotesModel", "goesOff", "(III)V"⟩, prog_13_method_87_code, 5, none, 3, 1, 11, [1880, 115, 1879, 69])
def m_Mod_paysSome : MI := (⟨"FalseNotesModel", "paysSome", "(III)V"⟩, prog_13_method_88_code, 4, none, 3, 1, 11, [1876, 115, 1875, 68])
def m_Mod_leaves : MI := (⟨"FalseNotesModel", "leaves", "(I)I"⟩, prog_13_method_45_code, 4, (some .int), 1, 1, 11, [1888, 115, 1887, 71])
def m_Mod_fills : MI := (⟨"FalseNotesModel", "fills", "()V"⟩, prog_13_method_46_code, 5, none, 0, 1, 11, [1884, 115, 1883, 70])
def m_Mod_pays : MI := (⟨"FalseNotesModel", "pays", "(III)Z"⟩, prog_13_method_89_code, 4, (some .boolean), 3, 1, 11, [1872, 115, 1871, 67])
def m_Mod_pay : MI := (⟨"FalseNotesModel", "pay", "(III)I"⟩, prog_13_method_90_code, 4, (some .int), 3, 1, 11, [1867, 115, 1865, 1866])
def m_Choir_netTwo : MI := (⟨"FalseNotes$Choir", "netTwo", "(II)I"⟩, prog_2_method_37_code, 6, (some .int), 2, 1, 0, [1061, 109, 1059, 1060])
def m_FN_chord : MI := (⟨"FalseNotes", "chord", "(II)I"⟩, prog_1_method_23_code, 4, (some .int), 2, 1, 10, [1057, 104, 1055, 1056])
def m_Mod_chordOf : MI := (⟨"FalseNotesModel", "chordOf", "(II)I"⟩, prog_13_method_91_code, 4, (some .int), 2, 1, 11, [1896, 115, 1895, 72])
def m_Mod_chord : MI := (⟨"FalseNotesModel", "chord", "(II)I"⟩, prog_13_method_92_code, 4, (some .int), 2, 1, 11, [1892, 115, 1890, 1891])
def m_Choir_keepSunday : MI := (⟨"FalseNotes$Choir", "keepSunday", "()Z"⟩, prog_2_method_40_code, 4, (some .boolean), 0, 1, 0, [1069, 109, 1067, 1068])
def m_FN_sunday : MI := (⟨"FalseNotes", "sunday", "()I"⟩, prog_1_method_24_code, 1, (some .int), 0, 1, 10, [1065, 104, 1063, 1064])
def m_Mod_grown : MI := (⟨"FalseNotesModel", "grown", "(I)I"⟩, prog_13_method_93_code, 2, (some .int), 1, 1, 11, [1908, 115, 1907, 74])
def m_Mod_sundays : MI := (⟨"FalseNotesModel", "sundays", "()Z"⟩, prog_13_method_95_code, 3, (some .boolean), 0, 1, 11, [1904, 115, 1903, 73])
def m_Mod_sunday : MI := (⟨"FalseNotesModel", "sunday", "()I"⟩, prog_13_method_96_code, 1, (some .int), 0, 1, 11, [1900, 115, 1898, 1899])
def m_Choir_catchCold : MI := (⟨"FalseNotes$Choir", "catchCold", "(I)I"⟩, prog_2_method_41_code, 6, (some .int), 1, 1, 0, [1077, 109, 1075, 1076])
def m_FN_cold : MI := (⟨"FalseNotes", "cold", "(I)I"⟩, prog_1_method_25_code, 2, (some .int), 1, 1, 10, [1073, 104, 1071, 1072])
def m_Mod_colds : MI := (⟨"FalseNotesModel", "colds", "(I)I"⟩, prog_13_method_97_code, 5, (some .int), 1, 1, 11, [1917, 115, 1916, 75])
def m_Mod_cold : MI := (⟨"FalseNotesModel", "cold", "(I)I"⟩, prog_13_method_98_code, 2, (some .int), 1, 1, 11, [1913, 115, 1911, 1912])
def m_Integer_bitCount : MI := (⟨"java/lang/Integer", "bitCount", "(I)I"⟩, prog_14_method_49_code, 1, (some .int), 1, 0, 99, [1085, 123, 1084])
def m_FN_well : MI := (⟨"FalseNotes", "well", "(I)I"⟩, prog_1_method_26_code, 2, (some .int), 1, 1, 10, [1081, 104, 1079, 1080])
def m_Mod_bits : MI := (⟨"FalseNotesModel", "bits", "(I)I"⟩, prog_13_method_66_code, 3, (some .int), 1, 0, 11, [1924, 115, 1923])
def m_Mod_well : MI := (⟨"FalseNotesModel", "well", "(I)I"⟩, prog_13_method_99_code, 2, (some .int), 1, 1, 11, [1921, 115, 1919, 1920])
def m_Choir_passOnHeld : MI := (⟨"FalseNotes$Choir", "passOnHeld", "(II)V"⟩, prog_2_method_43_code, 6, none, 2, 1, 0, [1100, 109, 1098, 1099])
def m_Choir_passOnWaiting : MI := (⟨"FalseNotes$Choir", "passOnWaiting", "(II)V"⟩, prog_2_method_44_code, 7, none, 2, 1, 0, [1104, 109, 1102, 1103])
def m_Choir_forgetLine : MI := (⟨"FalseNotes$Choir", "forgetLine", "(I)V"⟩, prog_2_method_45_code, 4, none, 1, 1, 0, [1108, 109, 1106, 1107])
def m_Choir_bury : MI := (⟨"FalseNotes$Choir", "bury", "(I)Z"⟩, prog_2_method_42_code, 3, (some .boolean), 1, 1, 0, [1096, 109, 1094, 1095])
def m_Choir_livingCount : MI := (⟨"FalseNotes$Choir", "livingCount", "()I"⟩, prog_2_method_14_code, 1, (some .int), 0, 1, 0, [1112, 109, 1110, 1111])
def m_FN_die : MI := (⟨"FalseNotes", "die", "(I)I"⟩, prog_1_method_27_code, 2, (some .int), 1, 1, 10, [1092, 104, 1090, 1091])
def m_Mod_inherits : MI := (⟨"FalseNotesModel", "inherits", "(III)V"⟩, prog_13_method_100_code, 4, none, 3, 1, 11, [1936, 115, 1935, 77])
def m_Mod_dies : MI := (⟨"FalseNotesModel", "dies", "(I)V"⟩, prog_13_method_101_code, 6, none, 1, 1, 11, [1932, 115, 1931, 76])
def m_Mod_livingMany : MI := (⟨"FalseNotesModel", "livingMany", "()I"⟩, prog_13_method_75_code, 1, (some .int), 0, 1, 11, [1940, 115, 1939, 78])
def m_Mod_die : MI := (⟨"FalseNotesModel", "die", "(I)I"⟩, prog_13_method_102_code, 2, (some .int), 1, 1, 11, [1928, 115, 1926, 1927])
def m_FN_earn : MI := (⟨"FalseNotes", "earn", "(II)I"⟩, prog_1_method_28_code, 3, (some .int), 2, 1, 10, [1117, 104, 1115, 1116])
def m_Mod_earn : MI := (⟨"FalseNotesModel", "earn", "(II)I"⟩, prog_13_method_103_code, 3, (some .int), 2, 1, 11, [1944, 115, 1942, 1943])
def m_FN_name : MI := (⟨"FalseNotes", "name", "(II)Z"⟩, prog_1_method_29_code, 3, (some .boolean), 2, 1, 10, [1121, 104, 1119, 1120])
def m_Mod_name : MI := (⟨"FalseNotesModel", "name", "(II)Z"⟩, prog_13_method_104_code, 3, (some .boolean), 2, 1, 11, [1948, 115, 1946, 1947])
def m_FN_hum : MI := (⟨"FalseNotes", "hum", "(I)Z"⟩, prog_1_method_30_code, 2, (some .boolean), 1, 1, 10, [1125, 104, 1123, 1124])
def m_Mod_hum : MI := (⟨"FalseNotesModel", "hum", "(I)Z"⟩, prog_13_method_105_code, 2, (some .boolean), 1, 1, 11, [1952, 115, 1950, 1951])
def m_Choir_netAll : MI := (⟨"FalseNotes$Choir", "netAll", "()I"⟩, prog_2_method_38_code, 4, (some .int), 0, 1, 0, [1133, 109, 1131, 1132])
def m_FN_chords : MI := (⟨"FalseNotes", "chords", "()I"⟩, prog_1_method_31_code, 1, (some .int), 0, 1, 10, [1129, 104, 1127, 1128])
def m_Mod_chords : MI := (⟨"FalseNotesModel", "chords", "()I"⟩, prog_13_method_106_code, 4, (some .int), 0, 1, 11, [1957, 115, 1955, 1956])
def m_Choir_balanceOf : MI := (⟨"FalseNotes$Choir", "balanceOf", "(I)I"⟩, prog_2_method_23_code, 2, (some .int), 1, 1, 0, [1142, 109, 1140, 1141])
def m_FN_balance : MI := (⟨"FalseNotes", "balance", "(I)I"⟩, prog_1_method_32_code, 2, (some .int), 1, 1, 10, [1138, 104, 1136, 1137])
def m_Mod_balanceOf : MI := (⟨"FalseNotesModel", "balanceOf", "(I)I"⟩, prog_13_method_107_code, 2, (some .int), 1, 1, 11, [1965, 115, 1964, 79])
def m_Mod_balance : MI := (⟨"FalseNotesModel", "balance", "(I)I"⟩, prog_13_method_108_code, 2, (some .int), 1, 1, 11, [1961, 115, 1959, 1960])
def m_Ties_look : MI := (⟨"FalseNotes$Ties", "look", "(LFalseNotes$Choir;)V"⟩, prog_6_method_2_code, 4, none, 1, 1, 4, [1152, 112, 1150, 1151])
def m_Ties_uneven : MI := (⟨"FalseNotes$Ties", "uneven", "()I"⟩, prog_6_method_3_code, 3, (some .int), 0, 1, 4, [1163, 112, 1161, 1162])
def m_Ties_unevenCount : MI := (⟨"FalseNotes$Ties", "unevenCount", "()I"⟩, prog_6_method_4_code, 1, (some .int), 0, 1, 4, [1159, 112, 1157, 1158])
def m_Ties_addUp : MI := (⟨"FalseNotes$Ties", "addUp", "(I)V"⟩, prog_6_method_6_code, 6, none, 1, 1, 4, [1172, 112, 1170, 1171])
def m_Ties_mostParts : MI := (⟨"FalseNotes$Ties", "mostParts", "()I"⟩, prog_6_method_5_code, 3, (some .int), 0, 1, 4, [1168, 112, 1166, 1167])
def m_FN_payings : MI := (⟨"FalseNotes", "payings", "()I"⟩, prog_1_method_33_code, 1, (some .int), 0, 1, 10, [1148, 104, 1146, 1147])
def m_Mod_unevenSet : MI := (⟨"FalseNotesModel", "unevenSet", "()I"⟩, prog_13_method_109_code, 3, (some .int), 0, 1, 11, [1973, 115, 1972, 80])
def m_Mod_isIn : MI := (⟨"FalseNotesModel", "isIn", "(II)Z"⟩, prog_13_method_65_code, 3, (some .boolean), 2, 1, 11, [1981, 115, 1980, 82])
def m_Mod_partsOf : MI := (⟨"FalseNotesModel", "partsOf", "()I"⟩, prog_13_method_110_code, 5, (some .int), 0, 1, 11, [1977, 115, 1976, 81])
def m_Mod_payings : MI := (⟨"FalseNotesModel", "payings", "()I"⟩, prog_13_method_111_code, 1, (some .int), 0, 1, 11, [1969, 115, 1967, 1968])
def m_FN_parts : MI := (⟨"FalseNotes", "parts", "()I"⟩, prog_1_method_34_code, 1, (some .int), 0, 1, 10, [1178, 104, 1176, 1177])
def m_Mod_parts : MI := (⟨"FalseNotesModel", "parts", "()I"⟩, prog_13_method_112_code, 1, (some .int), 0, 1, 11, [1985, 115, 1983, 1984])
def m_Choir_lacks : MI := (⟨"FalseNotes$Choir", "lacks", "(I)I"⟩, prog_2_method_24_code, 2, (some .int), 1, 1, 0, [1186, 109, 1184, 1185])
def m_FN_shorts : MI := (⟨"FalseNotes", "shorts", "()I"⟩, prog_1_method_35_code, 3, (some .int), 0, 1, 10, [1182, 104, 1180, 1181])
def m_Mod_lackOf : MI := (⟨"FalseNotesModel", "lackOf", "(I)I"⟩, prog_13_method_113_code, 2, (some .int), 1, 1, 11, [1993, 115, 1992, 83])
def m_Mod_shorts : MI := (⟨"FalseNotesModel", "shorts", "()I"⟩, prog_13_method_114_code, 3, (some .int), 0, 1, 11, [1989, 115, 1987, 1988])
def m_FN_lacking : MI := (⟨"FalseNotes", "lacking", "()I"⟩, prog_1_method_36_code, 3, (some .int), 0, 1, 10, [1191, 104, 1189, 1190])
def m_Mod_lacking : MI := (⟨"FalseNotesModel", "lacking", "()I"⟩, prog_13_method_115_code, 3, (some .int), 0, 1, 11, [1997, 115, 1995, 1996])
def m_Choir_freeNotes : MI := (⟨"FalseNotes$Choir", "freeNotes", "(I)I"⟩, prog_2_method_17_code, 4, (some .int), 1, 1, 0, [1207, 109, 1205, 1206])
def m_FN_measured : MI := (⟨"FalseNotes", "measured", "(II)I"⟩, prog_1_method_70_code, 3, (some .int), 2, 1, 10, [1203, 104, 1202, 10])
def m_FN_firstWithMost : MI := (⟨"FalseNotes", "firstWithMost", "(I)I"⟩, prog_1_method_69_code, 6, (some .int), 1, 1, 10, [1199, 104, 1198, 9])
def m_FN_richest : MI := (⟨"FalseNotes", "richest", "()I"⟩, prog_1_method_37_code, 1, (some .int), 0, 1, 10, [1195, 104, 1193, 1194])
def m_Mod_richest : MI := (⟨"FalseNotesModel", "richest", "()I"⟩, prog_13_method_116_code, 3, (some .int), 0, 1, 11, [2001, 115, 1999, 2000])
def m_FN_deepest : MI := (⟨"FalseNotes", "deepest", "()I"⟩, prog_1_method_38_code, 1, (some .int), 0, 1, 10, [1211, 104, 1209, 1210])
def m_Mod_deepest : MI := (⟨"FalseNotesModel", "deepest", "()I"⟩, prog_13_method_117_code, 3, (some .int), 0, 1, 11, [2005, 115, 2003, 2004])
def m_FN_tellFraction : MI := (⟨"FalseNotes", "tellFraction", "(JJ)V"⟩, prog_1_method_80_code, 12, none, 2, 1, 10, [1219, 104, 1218, 11])
def m_FN_bass : MI := (⟨"FalseNotes", "bass", "()Z"⟩, prog_1_method_39_code, 4, (some .boolean), 0, 1, 10, [1215, 104, 1213, 1214])
def m_Mod_tellsBy : MI := (⟨"FalseNotesModel", "tellsBy", "(JJ)Z"⟩, prog_13_method_10_code, 11, (some .boolean), 2, 1, 11, [2013, 115, 2012, 84])
def m_Mod_bass : MI := (⟨"FalseNotesModel", "bass", "()Z"⟩, prog_13_method_118_code, 3, (some .boolean), 0, 1, 11, [2009, 115, 2007, 2008])
def m_Ties_closes : MI := (⟨"FalseNotes$Ties", "closes", "(LFalseNotes$Ties;III)Z"⟩, prog_6_method_8_code, 6, (some .boolean), 4, 0, 4, [1230, 112, 1229])
def m_Ties_findRound : MI := (⟨"FalseNotes$Ties", "findRound", "()I"⟩, prog_6_method_7_code, 3, (some .int), 0, 1, 4, [1227, 112, 1225, 1226])
def m_FN_round : MI := (⟨"FalseNotes", "round", "()I"⟩, prog_1_method_40_code, 2, (some .int), 0, 1, 10, [1223, 104, 1221, 1222])
def m_Mod_nextAt : MI := (⟨"FalseNotesModel", "nextAt", "(I)I"⟩, prog_13_method_119_code, 5, (some .int), 1, 1, 11, [2029, 115, 2028, 87])
def m_Mod_laysRound : MI := (⟨"FalseNotesModel", "laysRound", "(I)Z"⟩, prog_13_method_120_code, 4, (some .boolean), 1, 1, 11, [2025, 115, 2024, 86])
def m_Mod_roundOf : MI := (⟨"FalseNotesModel", "roundOf", "()I"⟩, prog_13_method_121_code, 2, (some .int), 0, 1, 11, [2021, 115, 2020, 85])
def m_Mod_round : MI := (⟨"FalseNotesModel", "round", "()I"⟩, prog_13_method_122_code, 1, (some .int), 0, 1, 11, [2017, 115, 2015, 2016])
def m_FN_roundAt : MI := (⟨"FalseNotes", "roundAt", "(I)I"⟩, prog_1_method_41_code, 2, (some .int), 1, 1, 10, [1234, 104, 1232, 1233])
def m_Mod_roundAt : MI := (⟨"FalseNotesModel", "roundAt", "(I)I"⟩, prog_13_method_123_code, 3, (some .int), 1, 1, 11, [2033, 115, 2031, 2032])
def m_Choir_clearRing : MI := (⟨"FalseNotes$Choir", "clearRing", "([II)I"⟩, prog_2_method_39_code, 6, (some .int), 2, 1, 0, [1242, 109, 1240, 1241])
def m_FN_clear : MI := (⟨"FalseNotes", "clear", "()I"⟩, prog_1_method_42_code, 2, (some .int), 0, 1, 10, [1238, 104, 1236, 1237])
def m_Mod_clear : MI := (⟨"FalseNotesModel", "clear", "()I"⟩, prog_13_method_124_code, 4, (some .int), 0, 1, 11, [2037, 115, 2035, 2036])
def m_Ties_isInEach : MI := (⟨"FalseNotes$Ties", "isInEach", "(I)Z"⟩, prog_6_method_10_code, 3, (some .boolean), 1, 1, 4, [1254, 112, 1252, 1253])
def m_Ties_leastAsked : MI := (⟨"FalseNotes$Ties", "leastAsked", "()I"⟩, prog_6_method_9_code, 3, (some .int), 0, 1, 4, [1250, 112, 1248, 1249])
def m_FN_ask : MI := (⟨"FalseNotes", "ask", "()I"⟩, prog_1_method_43_code, 1, (some .int), 0, 1, 10, [1246, 104, 1244, 1245])
def m_Mod_askOf : MI := (⟨"FalseNotesModel", "askOf", "()I"⟩, prog_13_method_125_code, 6, (some .int), 0, 1, 11, [2045, 115, 2044, 88])
def m_Mod_ask : MI := (⟨"FalseNotesModel", "ask", "()I"⟩, prog_13_method_126_code, 1, (some .int), 0, 1, 11, [2041, 115, 2039, 2040])
def m_FN_askSet : MI := (⟨"FalseNotes", "askSet", "()I"⟩, prog_1_method_44_code, 1, (some .int), 0, 1, 10, [1258, 104, 1256, 1257])
def m_Mod_askSet : MI := (⟨"FalseNotesModel", "askSet", "()I"⟩, prog_13_method_127_code, 1, (some .int), 0, 1, 11, [2049, 115, 2047, 2048])
def m_Ties_lengthen : MI := (⟨"FalseNotes$Ties", "lengthen", "(I)V"⟩, prog_6_method_12_code, 5, none, 1, 1, 4, [1271, 112, 1269, 1270])
def m_Ties_longestRow : MI := (⟨"FalseNotes$Ties", "longestRow", "()I"⟩, prog_6_method_11_code, 3, (some .int), 0, 1, 4, [1266, 112, 1264, 1265])
def m_FN_chain : MI := (⟨"FalseNotes", "chain", "()I"⟩, prog_1_method_45_code, 1, (some .int), 0, 1, 10, [1262, 104, 1260, 1261])
def m_Mod_chain : MI := (⟨"FalseNotesModel", "chain", "()I"⟩, prog_13_method_128_code, 4, (some .int), 0, 1, 11, [2053, 115, 2051, 2052])
def m_Ties_reachedFrom : MI := (⟨"FalseNotes$Ties", "reachedFrom", "(I)I"⟩, prog_6_method_13_code, 5, (some .int), 1, 1, 4, [1279, 112, 1277, 1278])
def m_FN_behind : MI := (⟨"FalseNotes", "behind", "(I)I"⟩, prog_1_method_46_code, 2, (some .int), 1, 1, 10, [1275, 104, 1273, 1274])
def m_Mod_behind : MI := (⟨"FalseNotesModel", "behind", "(I)I"⟩, prog_13_method_129_code, 6, (some .int), 1, 1, 11, [2057, 115, 2055, 2056])
def m_FN_free : MI := (⟨"FalseNotes", "free", "(I)I"⟩, prog_1_method_47_code, 2, (some .int), 1, 1, 10, [1283, 104, 1281, 1282])
def m_Mod_freeOf : MI := (⟨"FalseNotesModel", "freeOf", "(I)I"⟩, prog_13_method_130_code, 4, (some .int), 1, 1, 11, [2065, 115, 2064, 89])
def m_Mod_free : MI := (⟨"FalseNotesModel", "free", "(I)I"⟩, prog_13_method_131_code, 2, (some .int), 1, 1, 11, [2061, 115, 2059, 2060])
def m_Waiting_countFor : MI := (⟨"FalseNotes$Waiting", "countFor", "(I)I"⟩, prog_9_method_7_code, 4, (some .int), 1, 1, 7, [1291, 110, 1289, 1290])
def m_FN_queue : MI := (⟨"FalseNotes", "queue", "(I)I"⟩, prog_1_method_48_code, 2, (some .int), 1, 1, 10, [1287, 104, 1285, 1286])
def m_Mod_queue : MI := (⟨"FalseNotesModel", "queue", "(I)I"⟩, prog_13_method_132_code, 4, (some .int), 1, 1, 11, [2069, 115, 2067, 2068])
def m_FN_roomiest : MI := (⟨"FalseNotes", "roomiest", "()I"⟩, prog_1_method_49_code, 1, (some .int), 0, 1, 10, [1295, 104, 1293, 1294])
def m_Mod_roomiest : MI := (⟨"FalseNotesModel", "roomiest", "()I"⟩, prog_13_method_133_code, 3, (some .int), 0, 1, 11, [2073, 115, 2071, 2072])
def m_FN_falsest : MI := (⟨"FalseNotes", "falsest", "(I)I"⟩, prog_1_method_50_code, 6, (some .int), 1, 1, 10, [1299, 104, 1297, 1298])
def m_Mod_falsest : MI := (⟨"FalseNotesModel", "falsest", "(I)I"⟩, prog_13_method_134_code, 4, (some .int), 1, 1, 11, [2077, 115, 2075, 2076])
def m_FN_heardStatus : MI := (⟨"FalseNotes", "heardStatus", "(II)I"⟩, prog_1_method_76_code, 7, (some .int), 2, 1, 10, [1307, 104, 1306, 12])
def m_FN_offAt : MI := (⟨"FalseNotes", "offAt", "(III)I"⟩, prog_1_method_77_code, 4, (some .int), 3, 1, 10, [1313, 104, 1312, 13])
def m_FN_heard : MI := (⟨"FalseNotes", "heard", "(II)I"⟩, prog_1_method_51_code, 7, (some .int), 2, 1, 10, [1303, 104, 1301, 1302])
def m_Mod_wrongTray : MI := (⟨"FalseNotesModel", "wrongTray", "(II)I"⟩, prog_13_method_135_code, 4, (some .int), 2, 1, 11, [2085, 115, 2084, 90])
def m_Mod_heard : MI := (⟨"FalseNotesModel", "heard", "(II)I"⟩, prog_13_method_136_code, 6, (some .int), 2, 1, 11, [2081, 115, 2079, 2080])
def m_FN_transposed : MI := (⟨"FalseNotes", "transposed", "(II)I"⟩, prog_1_method_52_code, 6, (some .int), 2, 1, 10, [1317, 104, 1315, 1316])
def m_Mod_offBy : MI := (⟨"FalseNotesModel", "offBy", "(III)I"⟩, prog_13_method_137_code, 4, (some .int), 3, 1, 11, [2095, 115, 2094, 91])
def m_Mod_transposed : MI := (⟨"FalseNotesModel", "transposed", "(II)I"⟩, prog_13_method_138_code, 5, (some .int), 2, 1, 11, [2091, 115, 2089, 2090])
def m_FN_forged : MI := (⟨"FalseNotes", "forged", "(II)I"⟩, prog_1_method_53_code, 6, (some .int), 2, 1, 10, [1321, 104, 1319, 1320])
def m_Mod_forged : MI := (⟨"FalseNotesModel", "forged", "(II)I"⟩, prog_13_method_139_code, 6, (some .int), 2, 1, 11, [2099, 115, 2097, 2098])
def m_FN_whose : MI := (⟨"FalseNotes", "whose", "(II)I"⟩, prog_1_method_54_code, 5, (some .int), 2, 1, 10, [1325, 104, 1323, 1324])
def m_Mod_whose : MI := (⟨"FalseNotesModel", "whose", "(II)I"⟩, prog_13_method_140_code, 4, (some .int), 2, 1, 11, [2103, 115, 2101, 2102])
def m_FN_isDebtOrNone : MI := (⟨"FalseNotes", "isDebtOrNone", "(I)Z"⟩, prog_1_method_72_code, 1, (some .boolean), 1, 0, 10, [1332, 104, 1331])
def m_FN_isSpan : MI := (⟨"FalseNotes", "isSpan", "(I)Z"⟩, prog_1_method_73_code, 1, (some .boolean), 1, 0, 10, [1335, 104, 1334])
def m_FN_grows : MI := (⟨"FalseNotes", "grows", "(II)I"⟩, prog_1_method_55_code, 3, (some .int), 2, 1, 10, [1329, 104, 1327, 1328])
def m_Mod_isOwed : MI := (⟨"FalseNotesModel", "isOwed", "(I)Z"⟩, prog_13_method_141_code, 1, (some .boolean), 1, 0, 11, [2110, 115, 2109])
def m_Mod_grownBy : MI := (⟨"FalseNotesModel", "grownBy", "(II)I"⟩, prog_13_method_94_code, 5, (some .int), 2, 1, 11, [2114, 115, 2113, 92])
def m_Mod_grows : MI := (⟨"FalseNotesModel", "grows", "(II)I"⟩, prog_13_method_142_code, 3, (some .int), 2, 1, 11, [2107, 115, 2105, 2106])
def m_FN_before : MI := (⟨"FalseNotes", "before", "(II)I"⟩, prog_1_method_56_code, 7, (some .int), 2, 1, 10, [1340, 104, 1338, 1339])
def m_Mod_before : MI := (⟨"FalseNotesModel", "before", "(II)I"⟩, prog_13_method_143_code, 4, (some .int), 2, 1, 11, [2118, 115, 2116, 2117])
def m_FN_when : MI := (⟨"FalseNotes", "when", "(II)I"⟩, prog_1_method_57_code, 5, (some .int), 2, 1, 10, [1344, 104, 1342, 1343])
def m_Mod_when : MI := (⟨"FalseNotesModel", "when", "(II)I"⟩, prog_13_method_144_code, 5, (some .int), 2, 1, 11, [2122, 115, 2120, 2121])
def m_FN_owedIn : MI := (⟨"FalseNotes", "owedIn", "(I)I"⟩, prog_1_method_58_code, 2, (some .int), 1, 1, 10, [1349, 104, 1347, 1348])
def m_Mod_owedIn : MI := (⟨"FalseNotesModel", "owedIn", "(I)I"⟩, prog_13_method_145_code, 5, (some .int), 1, 1, 11, [2126, 115, 2124, 2125])
def m_Life_behindEnd : MI := (⟨"FalseNotes$Life", "behindEnd", "(LFalseNotes$Years;I)I"⟩, prog_4_method_3_code, 4, (some .int), 2, 1, 2, [1363, 113, 1361, 1362])
def m_Life_compares : MI := (⟨"FalseNotes$Life", "compares", "(III)Z"⟩, prog_4_method_6_code, 3, (some .boolean), 3, 0, 2, [1374, 113, 1373])
def m_Life_holds : MI := (⟨"FalseNotes$Life", "holds", "(LFalseNotes$Choir;LFalseNotes$Years;I)Z"⟩, prog_4_method_5_code, 6, (some .boolean), 3, 0, 2, [1370, 113, 1369])
def m_Life_draw : MI := (⟨"FalseNotes$Life", "draw", "(I)I"⟩, prog_4_method_8_code, 2, (some .int), 1, 1, 2, [1391, 113, 1389, 1390])
def m_Choir_livingAt : MI := (⟨"FalseNotes$Choir", "livingAt", "(I)I"⟩, prog_2_method_15_code, 4, (some .int), 1, 1, 0, [1396, 109, 1394, 1395])
def m_Life_lendAny : MI := (⟨"FalseNotes$Life", "lendAny", "(LFalseNotes$Choir;)Z"⟩, prog_4_method_7_code, 7, (some .boolean), 1, 1, 2, [1386, 113, 1384, 1385])
def m_Life_behindStep : MI := (⟨"FalseNotes$Life", "behindStep", "(LFalseNotes$Choir;LFalseNotes$Years;I)I"⟩, prog_4_method_4_code, 8, (some .int), 3, 1, 2, [1367, 113, 1365, 1366])
def m_Life_run : MI := (⟨"FalseNotes$Life", "run", "(LFalseNotes$Years;LFalseNotes$Choir;I)V"⟩, prog_4_method_2_code, 7, none, 3, 1, 2, [1358, 113, 1356, 1357])
def m_FN_live : MI := (⟨"FalseNotes", "live", "(I)I"⟩, prog_1_method_59_code, 2, (some .int), 1, 1, 10, [1354, 104, 1352, 1353])
def m_Mod_lendsBy : MI := (⟨"FalseNotesModel", "lendsBy", "(III)Z"⟩, prog_13_method_147_code, 4, (some .boolean), 3, 1, 11, [2143, 115, 2142, 95])
def m_Mod_paysBy : MI := (⟨"FalseNotesModel", "paysBy", "(ZI)Z"⟩, prog_13_method_150_code, 3, (some .boolean), 2, 1, 11, [2147, 115, 2146, 96])
def m_Mod_draw : MI := (⟨"FalseNotesModel", "draw", "(I)I"⟩, prog_13_method_146_code, 2, (some .int), 1, 1, 11, [2155, 115, 2154, 98])
def m_Mod_livingAt : MI := (⟨"FalseNotesModel", "livingAt", "(I)I"⟩, prog_13_method_148_code, 4, (some .int), 1, 1, 11, [2160, 115, 2159, 99])
def m_Mod_lendsAny : MI := (⟨"FalseNotesModel", "lendsAny", "()Z"⟩, prog_13_method_149_code, 3, (some .boolean), 0, 1, 11, [2151, 115, 2150, 97])
def m_Mod_does : MI := (⟨"FalseNotesModel", "does", "(I)Z"⟩, prog_13_method_151_code, 5, (some .boolean), 1, 1, 11, [2139, 115, 2138, 94])
def m_Mod_holds : MI := (⟨"FalseNotesModel", "holds", "(I)Z"⟩, prog_13_method_152_code, 5, (some .boolean), 1, 1, 11, [2164, 115, 2163, 100])
def m_Mod_behindEnds : MI := (⟨"FalseNotesModel", "behindEnds", "(I)I"⟩, prog_13_method_153_code, 5, (some .int), 1, 1, 11, [2168, 115, 2167, 101])
def m_Mod_lives : MI := (⟨"FalseNotesModel", "lives", "(I)V"⟩, prog_13_method_154_code, 4, none, 1, 1, 11, [2135, 115, 2134, 93])
def m_Mod_live : MI := (⟨"FalseNotesModel", "live", "(I)I"⟩, prog_13_method_155_code, 3, (some .int), 1, 1, 11, [2130, 115, 2128, 2129])
def m_FN_lived : MI := (⟨"FalseNotes", "lived", "(I)I"⟩, prog_1_method_60_code, 2, (some .int), 1, 1, 10, [1400, 104, 1398, 1399])
def m_Mod_lived : MI := (⟨"FalseNotesModel", "lived", "(I)I"⟩, prog_13_method_156_code, 2, (some .int), 1, 1, 11, [2172, 115, 2170, 2171])
def m_Waiting_takeFrom : MI := (⟨"FalseNotes$Waiting", "takeFrom", "(LFalseNotes$Waiting;)V"⟩, prog_9_method_2_code, 2, none, 1, 1, 7, [1413, 110, 1411, 1412])
def m_Choir_takeFrom : MI := (⟨"FalseNotes$Choir", "takeFrom", "(LFalseNotes$Choir;)V"⟩, prog_2_method_6_code, 2, none, 1, 1, 0, [1408, 109, 1406, 1407])
def m_FN_mean : MI := (⟨"FalseNotes", "mean", "(II)Z"⟩, prog_1_method_61_code, 6, (some .boolean), 2, 1, 10, [1404, 104, 1402, 1403])
def m_Mod_mean : MI := (⟨"FalseNotesModel", "mean", "(II)Z"⟩, prog_13_method_157_code, 7, (some .boolean), 2, 1, 11, [2176, 115, 2174, 2175])
def m_Years_takeFrom : MI := (⟨"FalseNotes$Years", "takeFrom", "(LFalseNotes$Years;)V"⟩, prog_10_method_3_code, 2, none, 1, 1, 8, [1427, 111, 1425, 1426])
def m_Marks_keep : MI := (⟨"FalseNotes$Marks", "keep", "(LFalseNotes$Choir;LFalseNotes$Years;)V"⟩, prog_5_method_2_code, 3, none, 2, 1, 3, [1422, 108, 1420, 1421])
def m_FN_mark : MI := (⟨"FalseNotes", "mark", "()I"⟩, prog_1_method_62_code, 1, (some .int), 0, 1, 10, [1418, 104, 1416, 1417])
def m_Mod_copies : MI := (⟨"FalseNotesModel", "copies", "(II)V"⟩, prog_13_method_158_code, 4, none, 2, 1, 11, [2185, 115, 2184, 102])
def m_Mod_mark : MI := (⟨"FalseNotesModel", "mark", "()I"⟩, prog_13_method_159_code, 1, (some .int), 0, 1, 11, [2181, 115, 2179, 2180])
def m_Marks_giveBack : MI := (⟨"FalseNotes$Marks", "giveBack", "(LFalseNotes$Choir;LFalseNotes$Years;)V"⟩, prog_5_method_3_code, 3, none, 2, 1, 3, [1436, 108, 1434, 1435])
def m_FN_undo : MI := (⟨"FalseNotes", "undo", "()I"⟩, prog_1_method_63_code, 1, (some .int), 0, 1, 10, [1432, 104, 1430, 1431])
def m_Mod_undo : MI := (⟨"FalseNotesModel", "undo", "()I"⟩, prog_13_method_160_code, 1, (some .int), 0, 1, 11, [2189, 115, 2187, 2188])
end
section
def bt_Waiting_placeOf : BtT := [(0, [0, 1, 2], true, [(0, .iconst 0, 1, 0, 0, 0, m0),
   (1, .istore_n 3, 1, 0, 0, 0, m0),
   (2, .nop, 0, 0, 0, 0, m0)]),
  (2, [0, 1, 2, 3], true, [(2, .iload_n 3, 1, 0, 0, 0, m0),
   (3, .aload_n 0, 1, 0, 0, 0, m0),
   (4, .getfield 21, 3, 3, 7, 249, m0),
   (7, .if_icmp .ge 31, 3, 38, 0, 0, m0),
   (10, .nop, 0, 0, 0, 0, m0)]),
  (10, [], false, [(10, .aload_n 0, 1, 0, 0, 0, m0),
   (11, .getfield 11, 3, 0, 7, 240, m0),
   (14, .iload_n 3, 1, 0, 0, 0, m0),
   (15, .iaload, 1, 0, 0, 0, m0),
   (16, .iload_n 1, 1, 0, 0, 0, m0),
   (17, .if_icmp .ne 15, 3, 32, 0, 0, m0),
   (20, .nop, 0, 0, 0, 0, m0)]),
  (20, [], false, [(20, .aload_n 0, 1, 0, 0, 0, m0),
   (21, .getfield 15, 3, 1, 7, 243, m0),
   (24, .iload_n 3, 1, 0, 0, 0, m0),
   (25, .iaload, 1, 0, 0, 0, m0),
   (26, .iload_n 2, 1, 0, 0, 0, m0),
   (27, .if_icmp .ne 5, 3, 32, 0, 0, m0),
   (30, .nop, 0, 0, 0, 0, m0)]),
  (30, [], false, [(30, .iload_n 3, 1, 0, 0, 0, m0),
   (31, .ireturn, 1, 0, 0, 0, m0)]),
  (32, [], false, [(32, .iinc 3 1, 3, 0, 0, 0, m0),
   (35, .goto (-33), 3, 2, 0, 0, m0)]),
  (38, [], false, [(38, .iconst (-1), 1, 0, 0, 0, m0),
   (39, .ireturn, 1, 0, 0, 0, m0)])]
theorem ok_Waiting_placeOf : okBt m_Waiting_placeOf bt_Waiting_placeOf = true := by decide +kernel
theorem b_Waiting_placeOf_0 {l : Launch} {E : EnvT} {d : Nat} {K : AV → Mem → Prop} {M : Mem} {r : Nat} {x1 : Int32} {x2 : Int32} (hd : 1 ≤ d)
  (h : G l E d m_Waiting_placeOf 2 [(0, (.ref r, 19)), (1, (.int x1, 0)), (2, (.int x2, 0)), (3, (.int (iN 0), 0))] [] M K) :
  G l E d m_Waiting_placeOf 0 [(0, (.ref r, 19)), (1, (.int x1, 0)), (2, (.int x2, 0))] [] M K := G.blk 60 _ hd ok_Waiting_placeOf rfl h
theorem b_Waiting_placeOf_2 {l : Launch} {E : EnvT} {d : Nat} {K : AV → Mem → Prop} {M : Mem} {r : Nat} {x1 : Int32} {x2 : Int32} {x3 : Int32} (hd : 1 ≤ d)
  (h : (((iN (M r 8 3)) ≤ x3 →
   K (.int (iN (-1)), 0) M) ∧
  (¬ (iN (M r 8 3)) ≤ x3 →
   (vp_in x3 8 ∧ ((¬ (iN (M r 9 (x3).toNatClampNeg)) = x1 →
    G l E d m_Waiting_placeOf 2 [(0, (.ref r, 19)), (1, (.int x1, 0)), (2, (.int x2, 0)), (3, (.int (x3 + iN 1), 0))] [] M K) ∧
   ((iN (M r 9 (x3).toNatClampNeg)) = x1 →
    (vp_in x3 8 ∧ ((¬ (iN (M r 10 (x3).toNatClampNeg)) = x2 →
     G l E d m_Waiting_placeOf 2 [(0, (.ref r, 19)), (1, (.int x1, 0)), (2, (.int x2, 0)), (3, (.int (x3 + iN 1), 0))] [] M K) ∧
    ((iN (M r 10 (x3).toNatClampNeg)) = x2 →
     K (.int x3, 0) M))))))))) :
  G l E d m_Waiting_placeOf 2 [(0, (.ref r, 19)), (1, (.int x1, 0)), (2, (.int x2, 0)), (3, (.int x3, 0))] [] M K := G.blk 60 _ hd ok_Waiting_placeOf rfl h
def bt_Waiting_raise : BtT := [(0, [0, 1, 2], true, [(0, .aload_n 0, 1, 0, 0, 0, m0),
   (1, .getfield 18, 3, 2, 7, 246, m0),
   (4, .iload_n 1, 1, 0, 0, 0, m0),
   (5, .iaload, 1, 0, 0, 0, m0),
   (6, .iload_n 2, 1, 0, 0, 0, m0),
   (7, .iadd, 1, 0, 0, 0, m0),
   (8, .sipush 999, 3, 0, 0, 0, m0),
   (11, .if_icmp .le 5, 3, 16, 0, 0, m0),
   (14, .nop, 0, 0, 0, 0, m0)]),
  (14, [], false, [(14, .iconst 0, 1, 0, 0, 0, m0),
   (15, .ireturn, 1, 0, 0, 0, m0)]),
  (16, [], false, [(16, .aload_n 0, 1, 0, 0, 0, m0),
   (17, .getfield 18, 3, 2, 7, 246, m0),
   (20, .iload_n 1, 1, 0, 0, 0, m0),
   (21, .dup2, 1, 0, 0, 0, m0),
   (22, .iaload, 1, 0, 0, 0, m0),
   (23, .iload_n 2, 1, 0, 0, 0, m0),
   (24, .iadd, 1, 0, 0, 0, m0),
   (25, .iastore, 1, 0, 0, 0, m0),
   (26, .iconst 1, 1, 0, 0, 0, m0),
   (27, .ireturn, 1, 0, 0, 0, m0)])]
theorem ok_Waiting_raise : okBt m_Waiting_raise bt_Waiting_raise = true := by decide +kernel
theorem b_Waiting_raise_0 {l : Launch} {E : EnvT} {d : Nat} {K : AV → Mem → Prop} {M : Mem} {r : Nat} {x1 : Int32} {x2 : Int32} (hd : 1 ≤ d)
  (h : (vp_in x1 8 ∧ ((((iN (M r 11 (x1).toNatClampNeg)) + x2) ≤ (iN 999) →
   (vp_in x1 8 ∧ vp_in x1 8 ∧ (((iN 1) = 0 ∨ (iN 1) = 1)) ∧ K (.int (iN 1), 0) (upd3 M r 11 (x1).toNatClampNeg (((iN (M r 11 (x1).toNatClampNeg)) + x2)).toInt))) ∧
  (¬ ((iN (M r 11 (x1).toNatClampNeg)) + x2) ≤ (iN 999) →
   ((((iN 0) = 0 ∨ (iN 0) = 1)) ∧ K (.int (iN 0), 0) M))))) :
  G l E d m_Waiting_raise 0 [(0, (.ref r, 19)), (1, (.int x1, 0)), (2, (.int x2, 0))] [] M K := G.blk 60 _ hd ok_Waiting_raise rfl h
def bt_Waiting_join : BtT := [(0, [0, 1, 2, 3], true, [(0, .aload_n 0, 1, 0, 0, 0, m0),
   (1, .getfield 21, 3, 3, 7, 249, m0),
   (4, .bipush 8, 2, 0, 0, 0, m0),
   (6, .if_icmp .lt 5, 3, 11, 0, 0, m0),
   (9, .nop, 0, 0, 0, 0, m0)]),
  (9, [], false, [(9, .iconst 0, 1, 0, 0, 0, m0),
   (10, .ireturn, 1, 0, 0, 0, m0)]),
  (11, [], false, [(11, .aload_n 0, 1, 0, 0, 0, m0),
   (12, .getfield 11, 3, 0, 7, 240, m0),
   (15, .aload_n 0, 1, 0, 0, 0, m0),
   (16, .getfield 21, 3, 3, 7, 249, m0),
   (19, .iload_n 1, 1, 0, 0, 0, m0),
   (20, .iastore, 1, 0, 0, 0, m0),
   (21, .aload_n 0, 1, 0, 0, 0, m0),
   (22, .getfield 15, 3, 1, 7, 243, m0),
   (25, .aload_n 0, 1, 0, 0, 0, m0),
   (26, .getfield 21, 3, 3, 7, 249, m0),
   (29, .iload_n 2, 1, 0, 0, 0, m0),
   (30, .iastore, 1, 0, 0, 0, m0),
   (31, .aload_n 0, 1, 0, 0, 0, m0),
   (32, .getfield 18, 3, 2, 7, 246, m0),
   (35, .aload_n 0, 1, 0, 0, 0, m0),
   (36, .getfield 21, 3, 3, 7, 249, m0),
   (39, .iload_n 3, 1, 0, 0, 0, m0),
   (40, .iastore, 1, 0, 0, 0, m0),
   (41, .aload_n 0, 1, 0, 0, 0, m0),
   (42, .dup, 1, 0, 0, 0, m0),
   (43, .getfield 21, 3, 3, 7, 249, m0),
   (46, .iconst 1, 1, 0, 0, 0, m0),
   (47, .iadd, 1, 0, 0, 0, m0),
   (48, .putfield 21, 3, 3, 7, 249, m0),
   (51, .iconst 1, 1, 0, 0, 0, m0),
   (52, .ireturn, 1, 0, 0, 0, m0)])]
theorem ok_Waiting_join : okBt m_Waiting_join bt_Waiting_join = true := by decide +kernel
theorem b_Waiting_join_0 {l : Launch} {E : EnvT} {d : Nat} {K : AV → Mem → Prop} {M : Mem} {r : Nat} {x1 : Int32} {x2 : Int32} {x3 : Int32} (hd : 1 ≤ d)
  (h : (((iN (M r 8 3)) < (iN 8) →
   (vp_in (iN (M r 8 3)) 8 ∧ vp_in (iN ((upd3 M r 9 ((iN (M r 8 3))).toNatClampNeg (x1).toInt) r 8 3)) 8 ∧ vp_in (iN ((upd3 (upd3 M r 9 ((iN (M r 8 3))).toNatClampNeg (x1).toInt) r 10 ((iN ((upd3 M r 9 ((iN (M r 8 3))).toNatClampNeg (x1).toInt) r 8 3))).toNatClampNeg (x2).toInt) r 8 3)) 8 ∧ (((iN 1) = 0 ∨ (iN 1) = 1)) ∧ K (.int (iN 1), 0) (upd3 (upd3 (upd3 (upd3 M r 9 ((iN (M r 8 3))).toNatClampNeg (x1).toInt) r 10 ((iN ((upd3 M r 9 ((iN (M r 8 3))).toNatClampNeg (x1).toInt) r 8 3))).toNatClampNeg (x2).toInt) r 11 ((iN ((upd3 (upd3 M r 9 ((iN (M r 8 3))).toNatClampNeg (x1).toInt) r 10 ((iN ((upd3 M r 9 ((iN (M r 8 3))).toNatClampNeg (x1).toInt) r 8 3))).toNatClampNeg (x2).toInt) r 8 3))).toNatClampNeg (x3).toInt) r 8 3 (((iN ((upd3 (upd3 (upd3 M r 9 ((iN (M r 8 3))).toNatClampNeg (x1).toInt) r 10 ((iN ((upd3 M r 9 ((iN (M r 8 3))).toNatClampNeg (x1).toInt) r 8 3))).toNatClampNeg (x2).toInt) r 11 ((iN ((upd3 (upd3 M r 9 ((iN (M r 8 3))).toNatClampNeg (x1).toInt) r 10 ((iN ((upd3 M r 9 ((iN (M r 8 3))).toNatClampNeg (x1).toInt) r 8 3))).toNatClampNeg (x2).toInt) r 8 3))).toNatClampNeg (x3).toInt) r 8 3)) + (iN 1))).toInt))) ∧
  (¬ (iN (M r 8 3)) < (iN 8) →
   ((((iN 0) = 0 ∨ (iN 0) = 1)) ∧ K (.int (iN 0), 0) M)))) :
  G l E d m_Waiting_join 0 [(0, (.ref r, 19)), (1, (.int x1, 0)), (2, (.int x2, 0)), (3, (.int x3, 0))] [] M K := G.blk 60 _ hd ok_Waiting_join rfl h
def bt_Waiting_leave : BtT := [(0, [0, 1], true, [(0, .iload_n 1, 1, 0, 0, 0, m0),
   (1, .istore_n 2, 1, 0, 0, 0, m0),
   (2, .nop, 0, 0, 0, 0, m0)]),
  (2, [0, 2], true, [(2, .iload_n 2, 1, 0, 0, 0, m0),
   (3, .iconst 1, 1, 0, 0, 0, m0),
   (4, .iadd, 1, 0, 0, 0, m0),
   (5, .aload_n 0, 1, 0, 0, 0, m0),
   (6, .getfield 21, 3, 3, 7, 249, m0),
   (9, .if_icmp .ge 51, 3, 60, 0, 0, m0),
   (12, .nop, 0, 0, 0, 0, m0)]),
  (12, [], false, [(12, .aload_n 0, 1, 0, 0, 0, m0),
   (13, .getfield 11, 3, 0, 7, 240, m0),
   (16, .iload_n 2, 1, 0, 0, 0, m0),
   (17, .aload_n 0, 1, 0, 0, 0, m0),
   (18, .getfield 11, 3, 0, 7, 240, m0),
   (21, .iload_n 2, 1, 0, 0, 0, m0),
   (22, .iconst 1, 1, 0, 0, 0, m0),
   (23, .iadd, 1, 0, 0, 0, m0),
   (24, .iaload, 1, 0, 0, 0, m0),
   (25, .iastore, 1, 0, 0, 0, m0),
   (26, .aload_n 0, 1, 0, 0, 0, m0),
   (27, .getfield 15, 3, 1, 7, 243, m0),
   (30, .iload_n 2, 1, 0, 0, 0, m0),
   (31, .aload_n 0, 1, 0, 0, 0, m0),
   (32, .getfield 15, 3, 1, 7, 243, m0),
   (35, .iload_n 2, 1, 0, 0, 0, m0),
   (36, .iconst 1, 1, 0, 0, 0, m0),
   (37, .iadd, 1, 0, 0, 0, m0),
   (38, .iaload, 1, 0, 0, 0, m0),
   (39, .iastore, 1, 0, 0, 0, m0),
   (40, .aload_n 0, 1, 0, 0, 0, m0),
   (41, .getfield 18, 3, 2, 7, 246, m0),
   (44, .iload_n 2, 1, 0, 0, 0, m0),
   (45, .aload_n 0, 1, 0, 0, 0, m0),
   (46, .getfield 18, 3, 2, 7, 246, m0),
   (49, .iload_n 2, 1, 0, 0, 0, m0),
   (50, .iconst 1, 1, 0, 0, 0, m0),
   (51, .iadd, 1, 0, 0, 0, m0),
   (52, .iaload, 1, 0, 0, 0, m0),
   (53, .iastore, 1, 0, 0, 0, m0),
   (54, .iinc 2 1, 3, 0, 0, 0, m0),
   (57, .goto (-55), 3, 2, 0, 0, m0)]),
  (60, [], false, [(60, .aload_n 0, 1, 0, 0, 0, m0),
   (61, .dup, 1, 0, 0, 0, m0),
   (62, .getfield 21, 3, 3, 7, 249, m0),
   (65, .iconst 1, 1, 0, 0, 0, m0),
   (66, .isub, 1, 0, 0, 0, m0),
   (67, .putfield 21, 3, 3, 7, 249, m0),
   (70, .return_, 1, 0, 0, 0, m0)])]
theorem ok_Waiting_leave : okBt m_Waiting_leave bt_Waiting_leave = true := by decide +kernel
theorem b_Waiting_leave_0 {l : Launch} {E : EnvT} {d : Nat} {K : AV → Mem → Prop} {M : Mem} {r : Nat} {x1 : Int32} (hd : 1 ≤ d)
  (h : G l E d m_Waiting_leave 2 [(0, (.ref r, 19)), (2, (.int x1, 0))] [] M K) :
  G l E d m_Waiting_leave 0 [(0, (.ref r, 19)), (1, (.int x1, 0))] [] M K := G.blk 60 _ hd ok_Waiting_leave rfl h
theorem b_Waiting_leave_2 {l : Launch} {E : EnvT} {d : Nat} {K : AV → Mem → Prop} {M : Mem} {r : Nat} {x2 : Int32} (hd : 1 ≤ d)
  (h : (((iN (M r 8 3)) ≤ (x2 + (iN 1)) →
   K (.null, 0) (upd3 M r 8 3 (((iN (M r 8 3)) - (iN 1))).toInt)) ∧
  (¬ (iN (M r 8 3)) ≤ (x2 + (iN 1)) →
   (vp_in (x2 + (iN 1)) 8 ∧ vp_in x2 8 ∧ vp_in (x2 + (iN 1)) 8 ∧ vp_in x2 8 ∧ vp_in (x2 + (iN 1)) 8 ∧ vp_in x2 8 ∧ G l E d m_Waiting_leave 2 [(0, (.ref r, 19)), (2, (.int (x2 + iN 1), 0))] [] (upd3 (upd3 (upd3 M r 9 (x2).toNatClampNeg ((iN (M r 9 ((x2 + (iN 1))).toNatClampNeg))).toInt) r 10 (x2).toNatClampNeg ((iN ((upd3 M r 9 (x2).toNatClampNeg ((iN (M r 9 ((x2 + (iN 1))).toNatClampNeg))).toInt) r 10 ((x2 + (iN 1))).toNatClampNeg))).toInt) r 11 (x2).toNatClampNeg ((iN ((upd3 (upd3 M r 9 (x2).toNatClampNeg ((iN (M r 9 ((x2 + (iN 1))).toNatClampNeg))).toInt) r 10 (x2).toNatClampNeg ((iN ((upd3 M r 9 (x2).toNatClampNeg ((iN (M r 9 ((x2 + (iN 1))).toNatClampNeg))).toInt) r 10 ((x2 + (iN 1))).toNatClampNeg))).toInt) r 11 ((x2 + (iN 1))).toNatClampNeg))).toInt) K)))) :
  G l E d m_Waiting_leave 2 [(0, (.ref r, 19)), (2, (.int x2, 0))] [] M K := G.blk 60 _ hd ok_Waiting_leave rfl h
def bt_Waiting_countFor : BtT := [(0, [0, 1], true, [(0, .iconst 0, 1, 0, 0, 0, m0),
   (1, .istore_n 2, 1, 0, 0, 0, m0),
   (2, .iconst 0, 1, 0, 0, 0, m0),
   (3, .istore_n 3, 1, 0, 0, 0, m0),
   (4, .nop, 0, 0, 0, 0, m0)]),
  (4, [0, 1, 2, 3], true, [(4, .iload_n 3, 1, 0, 0, 0, m0),
   (5, .aload_n 0, 1, 0, 0, 0, m0),
   (6, .getfield 21, 3, 3, 7, 249, m0),
   (9, .if_icmp .ge 22, 3, 31, 0, 0, m0),
   (12, .nop, 0, 0, 0, 0, m0)]),
  (12, [], false, [(12, .aload_n 0, 1, 0, 0, 0, m0),
   (13, .getfield 15, 3, 1, 7, 243, m0),
   (16, .iload_n 3, 1, 0, 0, 0, m0),
   (17, .iaload, 1, 0, 0, 0, m0),
   (18, .iload_n 1, 1, 0, 0, 0, m0),
   (19, .if_icmp .ne 6, 3, 25, 0, 0, m0),
   (22, .nop, 0, 0, 0, 0, m0)]),
  (22, [], false, [(22, .iinc 2 1, 3, 0, 0, 0, m0),
   (25, .nop, 0, 0, 0, 0, m0)]),
  (25, [], false, [(25, .iinc 3 1, 3, 0, 0, 0, m0),
   (28, .goto (-24), 3, 4, 0, 0, m0)]),
  (31, [], false, [(31, .iload_n 2, 1, 0, 0, 0, m0),
   (32, .ireturn, 1, 0, 0, 0, m0)])]
theorem ok_Waiting_countFor : okBt m_Waiting_countFor bt_Waiting_countFor = true := by decide +kernel
theorem b_Waiting_countFor_0 {l : Launch} {E : EnvT} {d : Nat} {K : AV → Mem → Prop} {M : Mem} {r : Nat} {x1 : Int32} (hd : 1 ≤ d)
  (h : G l E d m_Waiting_countFor 4 [(0, (.ref r, 19)), (1, (.int x1, 0)), (2, (.int (iN 0), 0)), (3, (.int (iN 0), 0))] [] M K) :
  G l E d m_Waiting_countFor 0 [(0, (.ref r, 19)), (1, (.int x1, 0))] [] M K := G.blk 60 _ hd ok_Waiting_countFor rfl h
theorem b_Waiting_countFor_4 {l : Launch} {E : EnvT} {d : Nat} {K : AV → Mem → Prop} {M : Mem} {r : Nat} {x1 : Int32} {x2 : Int32} {x3 : Int32} (hd : 1 ≤ d)
  (h : (((iN (M r 8 3)) ≤ x3 →
   K (.int x2, 0) M) ∧
  (¬ (iN (M r 8 3)) ≤ x3 →
   (vp_in x3 8 ∧ ((¬ (iN (M r 10 (x3).toNatClampNeg)) = x1 →
    G l E d m_Waiting_countFor 4 [(0, (.ref r, 19)), (1, (.int x1, 0)), (2, (.int x2, 0)), (3, (.int (x3 + iN 1), 0))] [] M K) ∧
   ((iN (M r 10 (x3).toNatClampNeg)) = x1 →
    G l E d m_Waiting_countFor 4 [(0, (.ref r, 19)), (1, (.int x1, 0)), (2, (.int (x2 + iN 1), 0)), (3, (.int (x3 + iN 1), 0))] [] M K)))))) :
  G l E d m_Waiting_countFor 4 [(0, (.ref r, 19)), (1, (.int x1, 0)), (2, (.int x2, 0)), (3, (.int x3, 0))] [] M K := G.blk 60 _ hd ok_Waiting_countFor rfl h
def bt_Waiting_takeFrom : BtT := [(0, [0, 1], true, [(0, .aload_n 1, 1, 0, 0, 0, m0),
   (1, .getfield 11, 3, 0, 7, 240, m0),
   (4, .iconst 0, 1, 0, 0, 0, m0),
   (5, .aload_n 0, 1, 0, 0, 0, m0),
   (6, .getfield 11, 3, 0, 7, 240, m0),
   (9, .iconst 0, 1, 0, 0, 0, m0),
   (10, .bipush 8, 2, 0, 0, 0, m0),
   (12, .invokestatic 25, 3, 0, 0, 1414, m_copy),
   (15, .aload_n 1, 1, 0, 0, 0, m0),
   (16, .getfield 15, 3, 1, 7, 243, m0),
   (19, .iconst 0, 1, 0, 0, 0, m0),
   (20, .aload_n 0, 1, 0, 0, 0, m0),
   (21, .getfield 15, 3, 1, 7, 243, m0),
   (24, .iconst 0, 1, 0, 0, 0, m0),
   (25, .bipush 8, 2, 0, 0, 0, m0),
   (27, .invokestatic 25, 3, 0, 0, 1414, m_copy),
   (30, .aload_n 1, 1, 0, 0, 0, m0),
   (31, .getfield 18, 3, 2, 7, 246, m0),
   (34, .iconst 0, 1, 0, 0, 0, m0),
   (35, .aload_n 0, 1, 0, 0, 0, m0),
   (36, .getfield 18, 3, 2, 7, 246, m0),
   (39, .iconst 0, 1, 0, 0, 0, m0),
   (40, .bipush 8, 2, 0, 0, 0, m0),
   (42, .invokestatic 25, 3, 0, 0, 1414, m_copy),
   (45, .aload_n 0, 1, 0, 0, 0, m0),
   (46, .aload_n 1, 1, 0, 0, 0, m0),
   (47, .getfield 21, 3, 3, 7, 249, m0),
   (50, .putfield 21, 3, 3, 7, 249, m0),
   (53, .return_, 1, 0, 0, 0, m0)])]
theorem ok_Waiting_takeFrom : okBt m_Waiting_takeFrom bt_Waiting_takeFrom = true := by decide +kernel
theorem b_Waiting_takeFrom_0 {l : Launch} {E : EnvT} {d : Nat} {K : AV → Mem → Prop} {M : Mem} {r r2 : Nat}  (hd : 1 ≤ d)
  (h : (¬ (iN 0) < 0 ∧ ¬ (iN 0) < 0 ∧ ¬ (iN 8) < 0 ∧ ((iN 0)).toNatClampNeg + ((iN 8)).toNatClampNeg ≤ 8 ∧ ((iN 0)).toNatClampNeg + ((iN 8)).toNatClampNeg ≤ 8 ∧ ¬ (iN 0) < 0 ∧ ¬ (iN 0) < 0 ∧ ¬ (iN 8) < 0 ∧ ((iN 0)).toNatClampNeg + ((iN 8)).toNatClampNeg ≤ 8 ∧ ((iN 0)).toNatClampNeg + ((iN 8)).toNatClampNeg ≤ 8 ∧ ¬ (iN 0) < 0 ∧ ¬ (iN 0) < 0 ∧ ¬ (iN 8) < 0 ∧ ((iN 0)).toNatClampNeg + ((iN 8)).toNatClampNeg ≤ 8 ∧ ((iN 0)).toNatClampNeg + ((iN 8)).toNatClampNeg ≤ 8 ∧ K (.null, 0) (upd3 (cpyM (cpyM (cpyM M r2 9 r 9 ((iN 0)).toNatClampNeg ((iN 0)).toNatClampNeg ((iN 8)).toNatClampNeg) r2 10 r 10 ((iN 0)).toNatClampNeg ((iN 0)).toNatClampNeg ((iN 8)).toNatClampNeg) r2 11 r 11 ((iN 0)).toNatClampNeg ((iN 0)).toNatClampNeg ((iN 8)).toNatClampNeg) r 8 3 ((iN ((cpyM (cpyM (cpyM M r2 9 r 9 ((iN 0)).toNatClampNeg ((iN 0)).toNatClampNeg ((iN 8)).toNatClampNeg) r2 10 r 10 ((iN 0)).toNatClampNeg ((iN 0)).toNatClampNeg ((iN 8)).toNatClampNeg) r2 11 r 11 ((iN 0)).toNatClampNeg ((iN 0)).toNatClampNeg ((iN 8)).toNatClampNeg) r2 8 3))).toInt))) :
  G l E d m_Waiting_takeFrom 0 [(0, (.ref r, 19)), (1, (.ref r2, 19))] [] M K := G.blk 60 _ hd ok_Waiting_takeFrom rfl h
end
