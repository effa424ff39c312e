section
-- ===== PART A: goes FIRST, ahead of the names: the tables' words, and 'selects' of the private methods out of them =====
/-- a private method of a class that the tables say can be made, by its rows of tables_1 -/
def lw_okq (q : MethodName × Nat) : Prop := (q.1.cls ≠ "java/lang/invoke/MethodHandle" ∧ q.1.cls ≠ "java/lang/invoke/VarHandle") ∧ Cond.instantiable q.1.cls q.2 ∈ tables_1 ∧ Cond.privateMethod q.1 ∈ tables_1 ∧ Cond.instanceMethod q.1 ∈ tables_1
theorem lw_p0 : lw_okq (⟨"NounFast$Text", "behindBlanks", "(I)I"⟩, 11) := ⟨⟨by decide +kernel, by decide +kernel⟩, List.mem_of_getElem? (i := 51) (by decide +kernel), List.mem_of_getElem? (i := 368) (by decide +kernel), List.mem_of_getElem? (i := 369) (by decide +kernel)⟩
theorem lw_p1 : lw_okq (⟨"NounFast$Text", "readToken", "(I)I"⟩, 11) := ⟨⟨by decide +kernel, by decide +kernel⟩, List.mem_of_getElem? (i := 51) (by decide +kernel), List.mem_of_getElem? (i := 379) (by decide +kernel), List.mem_of_getElem? (i := 380) (by decide +kernel)⟩
theorem lw_p2 : lw_okq (⟨"NounFast$Text", "readRun", "(I)I"⟩, 11) := ⟨⟨by decide +kernel, by decide +kernel⟩, List.mem_of_getElem? (i := 51) (by decide +kernel), List.mem_of_getElem? (i := 389) (by decide +kernel), List.mem_of_getElem? (i := 390) (by decide +kernel)⟩
theorem lw_p3 : lw_okq (⟨"NounFast$Text", "wordNumber", "(II)I"⟩, 11) := ⟨⟨by decide +kernel, by decide +kernel⟩, List.mem_of_getElem? (i := 51) (by decide +kernel), List.mem_of_getElem? (i := 393) (by decide +kernel), List.mem_of_getElem? (i := 394) (by decide +kernel)⟩
theorem lw_p4 : lw_okq (⟨"NounFast$Text", "wordIn", "(Ljava/lang/String;II)I"⟩, 11) := ⟨⟨by decide +kernel, by decide +kernel⟩, List.mem_of_getElem? (i := 51) (by decide +kernel), List.mem_of_getElem? (i := 398) (by decide +kernel), List.mem_of_getElem? (i := 399) (by decide +kernel)⟩
theorem lw_p5 : lw_okq (⟨"NounFast$Text", "isSpelled", "(Ljava/lang/String;III)Z"⟩, 11) := ⟨⟨by decide +kernel, by decide +kernel⟩, List.mem_of_getElem? (i := 51) (by decide +kernel), List.mem_of_getElem? (i := 412) (by decide +kernel), List.mem_of_getElem? (i := 413) (by decide +kernel)⟩
theorem lw_p6 : lw_okq (⟨"NounFast$City", "readLine", "(LNounFast$Text;)V"⟩, 9) := ⟨⟨by decide +kernel, by decide +kernel⟩, List.mem_of_getElem? (i := 101) (by decide +kernel), List.mem_of_getElem? (i := 464) (by decide +kernel), List.mem_of_getElem? (i := 465) (by decide +kernel)⟩
theorem lw_p7 : lw_okq (⟨"NounFast$City", "readNew", "(LNounFast$Text;I)V"⟩, 9) := ⟨⟨by decide +kernel, by decide +kernel⟩, List.mem_of_getElem? (i := 101) (by decide +kernel), List.mem_of_getElem? (i := 472) (by decide +kernel), List.mem_of_getElem? (i := 473) (by decide +kernel)⟩
theorem lw_p8 : lw_okq (⟨"NounFast$City", "find", "(J)I"⟩, 9) := ⟨⟨by decide +kernel, by decide +kernel⟩, List.mem_of_getElem? (i := 101) (by decide +kernel), List.mem_of_getElem? (i := 483) (by decide +kernel), List.mem_of_getElem? (i := 484) (by decide +kernel)⟩
theorem lw_p9 : lw_okq (⟨"NounFast$City", "readPerson", "(LNounFast$Text;I)V"⟩, 9) := ⟨⟨by decide +kernel, by decide +kernel⟩, List.mem_of_getElem? (i := 101) (by decide +kernel), List.mem_of_getElem? (i := 491) (by decide +kernel), List.mem_of_getElem? (i := 492) (by decide +kernel)⟩
theorem lw_p10 : lw_okq (⟨"NounFast$City", "readPair", "(LNounFast$Text;I[I)V"⟩, 9) := ⟨⟨by decide +kernel, by decide +kernel⟩, List.mem_of_getElem? (i := 101) (by decide +kernel), List.mem_of_getElem? (i := 504) (by decide +kernel), List.mem_of_getElem? (i := 505) (by decide +kernel)⟩
theorem lw_p11 : lw_okq (⟨"NounFast$City", "readSetting", "(LNounFast$Text;I)V"⟩, 9) := ⟨⟨by decide +kernel, by decide +kernel⟩, List.mem_of_getElem? (i := 101) (by decide +kernel), List.mem_of_getElem? (i := 508) (by decide +kernel), List.mem_of_getElem? (i := 509) (by decide +kernel)⟩
theorem lw_p12 : lw_okq (⟨"NounFast", "closeText", "()V"⟩, 18) := ⟨⟨by decide +kernel, by decide +kernel⟩, List.mem_of_getElem? (i := 26) (by decide +kernel), List.mem_of_getElem? (i := 520) (by decide +kernel), List.mem_of_getElem? (i := 521) (by decide +kernel)⟩
theorem lw_p13 : lw_okq (⟨"NounFast$History", "slot", "(I)I"⟩, 3) := ⟨⟨by decide +kernel, by decide +kernel⟩, List.mem_of_getElem? (i := 205) (by decide +kernel), List.mem_of_getElem? (i := 582) (by decide +kernel), List.mem_of_getElem? (i := 583) (by decide +kernel)⟩
theorem lw_p14 : lw_okq (⟨"NounFast", "kept", "(I)I"⟩, 18) := ⟨⟨by decide +kernel, by decide +kernel⟩, List.mem_of_getElem? (i := 26) (by decide +kernel), List.mem_of_getElem? (i := 596) (by decide +kernel), List.mem_of_getElem? (i := 597) (by decide +kernel)⟩
theorem lw_p15 : lw_okq (⟨"NounFast$Scene", "areTogether", "(II)Z"⟩, 10) := ⟨⟨by decide +kernel, by decide +kernel⟩, List.mem_of_getElem? (i := 99) (by decide +kernel), List.mem_of_getElem? (i := 616) (by decide +kernel), List.mem_of_getElem? (i := 617) (by decide +kernel)⟩
def lw_privs_1 : List (MethodName × Nat) := [(⟨"NounFast$Text", "behindBlanks", "(I)I"⟩, 11), (⟨"NounFast$Text", "readToken", "(I)I"⟩, 11), (⟨"NounFast$Text", "readRun", "(I)I"⟩, 11), (⟨"NounFast$Text", "wordNumber", "(II)I"⟩, 11), (⟨"NounFast$Text", "wordIn", "(Ljava/lang/String;II)I"⟩, 11), (⟨"NounFast$Text", "isSpelled", "(Ljava/lang/String;III)Z"⟩, 11), (⟨"NounFast$City", "readLine", "(LNounFast$Text;)V"⟩, 9), (⟨"NounFast$City", "readNew", "(LNounFast$Text;I)V"⟩, 9), (⟨"NounFast$City", "find", "(J)I"⟩, 9), (⟨"NounFast$City", "readPerson", "(LNounFast$Text;I)V"⟩, 9), (⟨"NounFast$City", "readPair", "(LNounFast$Text;I[I)V"⟩, 9), (⟨"NounFast$City", "readSetting", "(LNounFast$Text;I)V"⟩, 9), (⟨"NounFast", "closeText", "()V"⟩, 18), (⟨"NounFast$History", "slot", "(I)I"⟩, 3), (⟨"NounFast", "kept", "(I)I"⟩, 18), (⟨"NounFast$Scene", "areTogether", "(II)Z"⟩, 10)]
theorem lw_r1 : ∀ q ∈ lw_privs_1, lw_okq q := List.forall_mem_cons.mpr ⟨lw_p0, List.forall_mem_cons.mpr ⟨lw_p1, List.forall_mem_cons.mpr ⟨lw_p2, List.forall_mem_cons.mpr ⟨lw_p3, List.forall_mem_cons.mpr ⟨lw_p4, List.forall_mem_cons.mpr ⟨lw_p5, List.forall_mem_cons.mpr ⟨lw_p6, List.forall_mem_cons.mpr ⟨lw_p7, List.forall_mem_cons.mpr ⟨lw_p8, List.forall_mem_cons.mpr ⟨lw_p9, List.forall_mem_cons.mpr ⟨lw_p10, List.forall_mem_cons.mpr ⟨lw_p11, List.forall_mem_cons.mpr ⟨lw_p12, List.forall_mem_cons.mpr ⟨lw_p13, List.forall_mem_cons.mpr ⟨lw_p14, List.forall_mem_cons.mpr ⟨lw_p15, fun _ h => absurd h List.not_mem_nil⟩⟩⟩⟩⟩⟩⟩⟩⟩⟩⟩⟩⟩⟩⟩⟩
theorem lw_p16 : lw_okq (⟨"NounFast$Scene", "liesBefore", "(II)Z"⟩, 10) := ⟨⟨by decide +kernel, by decide +kernel⟩, List.mem_of_getElem? (i := 99) (by decide +kernel), List.mem_of_getElem? (i := 650) (by decide +kernel), List.mem_of_getElem? (i := 651) (by decide +kernel)⟩
theorem lw_p17 : lw_okq (⟨"NounFast", "keptDays", "(I)I"⟩, 18) := ⟨⟨by decide +kernel, by decide +kernel⟩, List.mem_of_getElem? (i := 26) (by decide +kernel), List.mem_of_getElem? (i := 699) (by decide +kernel), List.mem_of_getElem? (i := 700) (by decide +kernel)⟩
theorem lw_p18 : lw_okq (⟨"NounFast$Clue", "countFitting", "(LNounFast$Scene;II)V"⟩, 3) := ⟨⟨by decide +kernel, by decide +kernel⟩, List.mem_of_getElem? (i := 262) (by decide +kernel), List.mem_of_getElem? (i := 783) (by decide +kernel), List.mem_of_getElem? (i := 784) (by decide +kernel)⟩
theorem lw_p19 : lw_okq (⟨"NounFast$Clue", "mostTelling", "(LNounFast$Scene;I)I"⟩, 3) := ⟨⟨by decide +kernel, by decide +kernel⟩, List.mem_of_getElem? (i := 262) (by decide +kernel), List.mem_of_getElem? (i := 787) (by decide +kernel), List.mem_of_getElem? (i := 788) (by decide +kernel)⟩
theorem lw_p20 : lw_okq (⟨"NounFast$Rest", "sayThings", "(LNounFast$Scene;I)Z"⟩, 2) := ⟨⟨by decide +kernel, by decide +kernel⟩, List.mem_of_getElem? (i := 248) (by decide +kernel), List.mem_of_getElem? (i := 826) (by decide +kernel), List.mem_of_getElem? (i := 827) (by decide +kernel)⟩
theorem lw_p21 : lw_okq (⟨"NounFast$Rest", "leastOwning", "(II)I"⟩, 2) := ⟨⟨by decide +kernel, by decide +kernel⟩, List.mem_of_getElem? (i := 248) (by decide +kernel), List.mem_of_getElem? (i := 830) (by decide +kernel), List.mem_of_getElem? (i := 831) (by decide +kernel)⟩
theorem lw_p22 : lw_okq (⟨"NounFast$Rest", "giveMarks", "(LNounFast$Scene;I)Z"⟩, 2) := ⟨⟨by decide +kernel, by decide +kernel⟩, List.mem_of_getElem? (i := 248) (by decide +kernel), List.mem_of_getElem? (i := 834) (by decide +kernel), List.mem_of_getElem? (i := 835) (by decide +kernel)⟩
theorem lw_p23 : lw_okq (⟨"NounFast$Rest", "firstSaid", "(II)I"⟩, 2) := ⟨⟨by decide +kernel, by decide +kernel⟩, List.mem_of_getElem? (i := 248) (by decide +kernel), List.mem_of_getElem? (i := 838) (by decide +kernel), List.mem_of_getElem? (i := 839) (by decide +kernel)⟩
theorem lw_p24 : lw_okq (⟨"NounFast", "spellRoundabout", "(I)V"⟩, 18) := ⟨⟨by decide +kernel, by decide +kernel⟩, List.mem_of_getElem? (i := 26) (by decide +kernel), List.mem_of_getElem? (i := 863) (by decide +kernel), List.mem_of_getElem? (i := 864) (by decide +kernel)⟩
theorem lw_p25 : lw_okq (⟨"NounFast", "spellByte", "(I)V"⟩, 18) := ⟨⟨by decide +kernel, by decide +kernel⟩, List.mem_of_getElem? (i := 26) (by decide +kernel), List.mem_of_getElem? (i := 867) (by decide +kernel), List.mem_of_getElem? (i := 868) (by decide +kernel)⟩
theorem lw_p26 : lw_okq (⟨"NounFast", "spellName", "(J)V"⟩, 18) := ⟨⟨by decide +kernel, by decide +kernel⟩, List.mem_of_getElem? (i := 26) (by decide +kernel), List.mem_of_getElem? (i := 876) (by decide +kernel), List.mem_of_getElem? (i := 877) (by decide +kernel)⟩
theorem lw_p27 : lw_okq (⟨"NounFast$Dice", "takeTurn", "(LNounFast$Scene;I)V"⟩, 1) := ⟨⟨by decide +kernel, by decide +kernel⟩, List.mem_of_getElem? (i := 280) (by decide +kernel), List.mem_of_getElem? (i := 896) (by decide +kernel), List.mem_of_getElem? (i := 897) (by decide +kernel)⟩
theorem lw_p28 : lw_okq (⟨"NounFast$Dice", "draw", "(I)I"⟩, 1) := ⟨⟨by decide +kernel, by decide +kernel⟩, List.mem_of_getElem? (i := 280) (by decide +kernel), List.mem_of_getElem? (i := 900) (by decide +kernel), List.mem_of_getElem? (i := 901) (by decide +kernel)⟩
theorem lw_p29 : lw_okq (⟨"NounFast$Book", "readLine", "(LNounFast$Text;LNounFast$City;)V"⟩, 6) := ⟨⟨by decide +kernel, by decide +kernel⟩, List.mem_of_getElem? (i := 223) (by decide +kernel), List.mem_of_getElem? (i := 932) (by decide +kernel), List.mem_of_getElem? (i := 933) (by decide +kernel)⟩
theorem lw_p30 : lw_okq (⟨"NounFast$Book", "readAct", "(LNounFast$Text;LNounFast$City;)V"⟩, 6) := ⟨⟨by decide +kernel, by decide +kernel⟩, List.mem_of_getElem? (i := 223) (by decide +kernel), List.mem_of_getElem? (i := 941) (by decide +kernel), List.mem_of_getElem? (i := 942) (by decide +kernel)⟩
theorem lw_p31 : lw_okq (⟨"NounFast$Book", "liveLine", "(LNounFast$Scene;I)I"⟩, 6) := ⟨⟨by decide +kernel, by decide +kernel⟩, List.mem_of_getElem? (i := 223) (by decide +kernel), List.mem_of_getElem? (i := 957) (by decide +kernel), List.mem_of_getElem? (i := 958) (by decide +kernel)⟩
def lw_privs_2 : List (MethodName × Nat) := [(⟨"NounFast$Scene", "liesBefore", "(II)Z"⟩, 10), (⟨"NounFast", "keptDays", "(I)I"⟩, 18), (⟨"NounFast$Clue", "countFitting", "(LNounFast$Scene;II)V"⟩, 3), (⟨"NounFast$Clue", "mostTelling", "(LNounFast$Scene;I)I"⟩, 3), (⟨"NounFast$Rest", "sayThings", "(LNounFast$Scene;I)Z"⟩, 2), (⟨"NounFast$Rest", "leastOwning", "(II)I"⟩, 2), (⟨"NounFast$Rest", "giveMarks", "(LNounFast$Scene;I)Z"⟩, 2), (⟨"NounFast$Rest", "firstSaid", "(II)I"⟩, 2), (⟨"NounFast", "spellRoundabout", "(I)V"⟩, 18), (⟨"NounFast", "spellByte", "(I)V"⟩, 18), (⟨"NounFast", "spellName", "(J)V"⟩, 18), (⟨"NounFast$Dice", "takeTurn", "(LNounFast$Scene;I)V"⟩, 1), (⟨"NounFast$Dice", "draw", "(I)I"⟩, 1), (⟨"NounFast$Book", "readLine", "(LNounFast$Text;LNounFast$City;)V"⟩, 6), (⟨"NounFast$Book", "readAct", "(LNounFast$Text;LNounFast$City;)V"⟩, 6), (⟨"NounFast$Book", "liveLine", "(LNounFast$Scene;I)I"⟩, 6)]
theorem lw_r2 : ∀ q ∈ lw_privs_2, lw_okq q := List.forall_mem_cons.mpr ⟨lw_p16, List.forall_mem_cons.mpr ⟨lw_p17, List.forall_mem_cons.mpr ⟨lw_p18, List.forall_mem_cons.mpr ⟨lw_p19, List.forall_mem_cons.mpr ⟨lw_p20, List.forall_mem_cons.mpr ⟨lw_p21, List.forall_mem_cons.mpr ⟨lw_p22, List.forall_mem_cons.mpr ⟨lw_p23, List.forall_mem_cons.mpr ⟨lw_p24, List.forall_mem_cons.mpr ⟨lw_p25, List.forall_mem_cons.mpr ⟨lw_p26, List.forall_mem_cons.mpr ⟨lw_p27, List.forall_mem_cons.mpr ⟨lw_p28, List.forall_mem_cons.mpr ⟨lw_p29, List.forall_mem_cons.mpr ⟨lw_p30, List.forall_mem_cons.mpr ⟨lw_p31, fun _ h => absurd h List.not_mem_nil⟩⟩⟩⟩⟩⟩⟩⟩⟩⟩⟩⟩⟩⟩⟩⟩
theorem lw_p32 : lw_okq (⟨"NounFast$Sentence", "readAll", "(LNounFast$Text;LNounFast$City;I)V"⟩, 6) := ⟨⟨by decide +kernel, by decide +kernel⟩, List.mem_of_getElem? (i := 987) (by decide +kernel), List.mem_of_getElem? (i := 1017) (by decide +kernel), List.mem_of_getElem? (i := 1018) (by decide +kernel)⟩
theorem lw_p33 : lw_okq (⟨"NounFast$Sentence", "readOne", "(LNounFast$Text;LNounFast$City;I)V"⟩, 6) := ⟨⟨by decide +kernel, by decide +kernel⟩, List.mem_of_getElem? (i := 987) (by decide +kernel), List.mem_of_getElem? (i := 1021) (by decide +kernel), List.mem_of_getElem? (i := 1022) (by decide +kernel)⟩
theorem lw_p34 : lw_okq (⟨"NounFast$Sentence", "add", "(III)V"⟩, 6) := ⟨⟨by decide +kernel, by decide +kernel⟩, List.mem_of_getElem? (i := 987) (by decide +kernel), List.mem_of_getElem? (i := 1030) (by decide +kernel), List.mem_of_getElem? (i := 1031) (by decide +kernel)⟩
theorem lw_p35 : lw_okq (⟨"NounFast$Sentence", "readPlain", "(LNounFast$Text;LNounFast$City;I)V"⟩, 6) := ⟨⟨by decide +kernel, by decide +kernel⟩, List.mem_of_getElem? (i := 987) (by decide +kernel), List.mem_of_getElem? (i := 1034) (by decide +kernel), List.mem_of_getElem? (i := 1035) (by decide +kernel)⟩
theorem lw_p36 : lw_okq (⟨"NounFast$Sentence", "thingsOfPart", "(LNounFast$Scene;I)I"⟩, 6) := ⟨⟨by decide +kernel, by decide +kernel⟩, List.mem_of_getElem? (i := 987) (by decide +kernel), List.mem_of_getElem? (i := 1056) (by decide +kernel), List.mem_of_getElem? (i := 1057) (by decide +kernel)⟩
theorem lw_p37 : lw_okq (⟨"NounFast$Sentence", "holds", "(LNounFast$Scene;II)Z"⟩, 6) := ⟨⟨by decide +kernel, by decide +kernel⟩, List.mem_of_getElem? (i := 987) (by decide +kernel), List.mem_of_getElem? (i := 1060) (by decide +kernel), List.mem_of_getElem? (i := 1061) (by decide +kernel)⟩
theorem lw_p38 : lw_okq (⟨"java/lang/Throwable", "fillInStackTrace", "(I)Ljava/lang/Throwable;"⟩, 6) := ⟨⟨by decide +kernel, by decide +kernel⟩, List.mem_of_getElem? (i := 1131) (by decide +kernel), List.mem_of_getElem? (i := 1129) (by decide +kernel), List.mem_of_getElem? (i := 1130) (by decide +kernel)⟩
theorem lw_p39 : lw_okq (⟨"NounFastModel", "four", "(I)V"⟩, 53) := ⟨⟨by decide +kernel, by decide +kernel⟩, List.mem_of_getElem? (i := 1198) (by decide +kernel), List.mem_of_getElem? (i := 1196) (by decide +kernel), List.mem_of_getElem? (i := 1197) (by decide +kernel)⟩
theorem lw_p40 : lw_okq (⟨"NounFastModel", "clears", "()V"⟩, 53) := ⟨⟨by decide +kernel, by decide +kernel⟩, List.mem_of_getElem? (i := 1198) (by decide +kernel), List.mem_of_getElem? (i := 1239) (by decide +kernel), List.mem_of_getElem? (i := 1240) (by decide +kernel)⟩
theorem lw_p41 : lw_okq (⟨"NounFastModel", "taken", "(I)V"⟩, 53) := ⟨⟨by decide +kernel, by decide +kernel⟩, List.mem_of_getElem? (i := 1198) (by decide +kernel), List.mem_of_getElem? (i := 1408) (by decide +kernel), List.mem_of_getElem? (i := 1409) (by decide +kernel)⟩
theorem lw_p42 : lw_okq (⟨"NounFastModel", "next", "()V"⟩, 53) := ⟨⟨by decide +kernel, by decide +kernel⟩, List.mem_of_getElem? (i := 1198) (by decide +kernel), List.mem_of_getElem? (i := 1412) (by decide +kernel), List.mem_of_getElem? (i := 1413) (by decide +kernel)⟩
theorem lw_p43 : lw_okq (⟨"NounFastModel", "peek", "()I"⟩, 53) := ⟨⟨by decide +kernel, by decide +kernel⟩, List.mem_of_getElem? (i := 1198) (by decide +kernel), List.mem_of_getElem? (i := 1416) (by decide +kernel), List.mem_of_getElem? (i := 1417) (by decide +kernel)⟩
theorem lw_p44 : lw_okq (⟨"NounFastModel", "line", "()Z"⟩, 53) := ⟨⟨by decide +kernel, by decide +kernel⟩, List.mem_of_getElem? (i := 1198) (by decide +kernel), List.mem_of_getElem? (i := 1426) (by decide +kernel), List.mem_of_getElem? (i := 1427) (by decide +kernel)⟩
theorem lw_p45 : lw_okq (⟨"NounFastModel", "isWord", "(J)Z"⟩, 53) := ⟨⟨by decide +kernel, by decide +kernel⟩, List.mem_of_getElem? (i := 1198) (by decide +kernel), List.mem_of_getElem? (i := 1430) (by decide +kernel), List.mem_of_getElem? (i := 1431) (by decide +kernel)⟩
theorem lw_p46 : lw_okq (⟨"NounFastModel", "readNew", "(III)Z"⟩, 53) := ⟨⟨by decide +kernel, by decide +kernel⟩, List.mem_of_getElem? (i := 1198) (by decide +kernel), List.mem_of_getElem? (i := 1434) (by decide +kernel), List.mem_of_getElem? (i := 1435) (by decide +kernel)⟩
theorem lw_p47 : lw_okq (⟨"NounFastModel", "bad", "(I)Z"⟩, 53) := ⟨⟨by decide +kernel, by decide +kernel⟩, List.mem_of_getElem? (i := 1198) (by decide +kernel), List.mem_of_getElem? (i := 1438) (by decide +kernel), List.mem_of_getElem? (i := 1439) (by decide +kernel)⟩
def lw_privs_3 : List (MethodName × Nat) := [(⟨"NounFast$Sentence", "readAll", "(LNounFast$Text;LNounFast$City;I)V"⟩, 6), (⟨"NounFast$Sentence", "readOne", "(LNounFast$Text;LNounFast$City;I)V"⟩, 6), (⟨"NounFast$Sentence", "add", "(III)V"⟩, 6), (⟨"NounFast$Sentence", "readPlain", "(LNounFast$Text;LNounFast$City;I)V"⟩, 6), (⟨"NounFast$Sentence", "thingsOfPart", "(LNounFast$Scene;I)I"⟩, 6), (⟨"NounFast$Sentence", "holds", "(LNounFast$Scene;II)Z"⟩, 6), (⟨"java/lang/Throwable", "fillInStackTrace", "(I)Ljava/lang/Throwable;"⟩, 6), (⟨"NounFastModel", "four", "(I)V"⟩, 53), (⟨"NounFastModel", "clears", "()V"⟩, 53), (⟨"NounFastModel", "taken", "(I)V"⟩, 53), (⟨"NounFastModel", "next", "()V"⟩, 53), (⟨"NounFastModel", "peek", "()I"⟩, 53), (⟨"NounFastModel", "line", "()Z"⟩, 53), (⟨"NounFastModel", "isWord", "(J)Z"⟩, 53), (⟨"NounFastModel", "readNew", "(III)Z"⟩, 53), (⟨"NounFastModel", "bad", "(I)Z"⟩, 53)]
theorem lw_r3 : ∀ q ∈ lw_privs_3, lw_okq q := List.forall_mem_cons.mpr ⟨lw_p32, List.forall_mem_cons.mpr ⟨lw_p33, List.forall_mem_cons.mpr ⟨lw_p34, List.forall_mem_cons.mpr ⟨lw_p35, List.forall_mem_cons.mpr ⟨lw_p36, List.forall_mem_cons.mpr ⟨lw_p37, List.forall_mem_cons.mpr ⟨lw_p38, List.forall_mem_cons.mpr ⟨lw_p39, List.forall_mem_cons.mpr ⟨lw_p40, List.forall_mem_cons.mpr ⟨lw_p41, List.forall_mem_cons.mpr ⟨lw_p42, List.forall_mem_cons.mpr ⟨lw_p43, List.forall_mem_cons.mpr ⟨lw_p44, List.forall_mem_cons.mpr ⟨lw_p45, List.forall_mem_cons.mpr ⟨lw_p46, List.forall_mem_cons.mpr ⟨lw_p47, fun _ h => absurd h List.not_mem_nil⟩⟩⟩⟩⟩⟩⟩⟩⟩⟩⟩⟩⟩⟩⟩⟩
theorem lw_p48 : lw_okq (⟨"NounFastModel", "fresh", "(I)Z"⟩, 53) := ⟨⟨by decide +kernel, by decide +kernel⟩, List.mem_of_getElem? (i := 1198) (by decide +kernel), List.mem_of_getElem? (i := 1442) (by decide +kernel), List.mem_of_getElem? (i := 1443) (by decide +kernel)⟩
theorem lw_p49 : lw_okq (⟨"NounFastModel", "isName", "()Z"⟩, 53) := ⟨⟨by decide +kernel, by decide +kernel⟩, List.mem_of_getElem? (i := 1198) (by decide +kernel), List.mem_of_getElem? (i := 1446) (by decide +kernel), List.mem_of_getElem? (i := 1447) (by decide +kernel)⟩
theorem lw_p50 : lw_okq (⟨"NounFastModel", "find", "(II)I"⟩, 53) := ⟨⟨by decide +kernel, by decide +kernel⟩, List.mem_of_getElem? (i := 1198) (by decide +kernel), List.mem_of_getElem? (i := 1450) (by decide +kernel), List.mem_of_getElem? (i := 1451) (by decide +kernel)⟩
theorem lw_p51 : lw_okq (⟨"NounFastModel", "readThing", "()Z"⟩, 53) := ⟨⟨by decide +kernel, by decide +kernel⟩, List.mem_of_getElem? (i := 1198) (by decide +kernel), List.mem_of_getElem? (i := 1454) (by decide +kernel), List.mem_of_getElem? (i := 1455) (by decide +kernel)⟩
theorem lw_p52 : lw_okq (⟨"NounFastModel", "takesName", "(II)Z"⟩, 53) := ⟨⟨by decide +kernel, by decide +kernel⟩, List.mem_of_getElem? (i := 1198) (by decide +kernel), List.mem_of_getElem? (i := 1458) (by decide +kernel), List.mem_of_getElem? (i := 1459) (by decide +kernel)⟩
theorem lw_p53 : lw_okq (⟨"NounFastModel", "looksAt", "(II)Z"⟩, 53) := ⟨⟨by decide +kernel, by decide +kernel⟩, List.mem_of_getElem? (i := 1198) (by decide +kernel), List.mem_of_getElem? (i := 1462) (by decide +kernel), List.mem_of_getElem? (i := 1463) (by decide +kernel)⟩
theorem lw_p54 : lw_okq (⟨"NounFastModel", "readTie", "(III)Z"⟩, 53) := ⟨⟨by decide +kernel, by decide +kernel⟩, List.mem_of_getElem? (i := 1198) (by decide +kernel), List.mem_of_getElem? (i := 1466) (by decide +kernel), List.mem_of_getElem? (i := 1467) (by decide +kernel)⟩
theorem lw_p55 : lw_okq (⟨"NounFastModel", "readPerson", "()Z"⟩, 53) := ⟨⟨by decide +kernel, by decide +kernel⟩, List.mem_of_getElem? (i := 1198) (by decide +kernel), List.mem_of_getElem? (i := 1473) (by decide +kernel), List.mem_of_getElem? (i := 1474) (by decide +kernel)⟩
theorem lw_p56 : lw_okq (⟨"NounFastModel", "puts", "(III)Z"⟩, 53) := ⟨⟨by decide +kernel, by decide +kernel⟩, List.mem_of_getElem? (i := 1198) (by decide +kernel), List.mem_of_getElem? (i := 1477) (by decide +kernel), List.mem_of_getElem? (i := 1478) (by decide +kernel)⟩
theorem lw_p57 : lw_okq (⟨"NounFastModel", "takes", "(II)Z"⟩, 53) := ⟨⟨by decide +kernel, by decide +kernel⟩, List.mem_of_getElem? (i := 1198) (by decide +kernel), List.mem_of_getElem? (i := 1481) (by decide +kernel), List.mem_of_getElem? (i := 1482) (by decide +kernel)⟩
theorem lw_p58 : lw_okq (⟨"NounFastModel", "once", "(IIII)Z"⟩, 53) := ⟨⟨by decide +kernel, by decide +kernel⟩, List.mem_of_getElem? (i := 1198) (by decide +kernel), List.mem_of_getElem? (i := 1488) (by decide +kernel), List.mem_of_getElem? (i := 1489) (by decide +kernel)⟩
theorem lw_p59 : lw_okq (⟨"NounFastModel", "sign", "(I)Z"⟩, 53) := ⟨⟨by decide +kernel, by decide +kernel⟩, List.mem_of_getElem? (i := 1198) (by decide +kernel), List.mem_of_getElem? (i := 1492) (by decide +kernel), List.mem_of_getElem? (i := 1493) (by decide +kernel)⟩
theorem lw_p60 : lw_okq (⟨"NounFastModel", "isSign", "(I)Z"⟩, 53) := ⟨⟨by decide +kernel, by decide +kernel⟩, List.mem_of_getElem? (i := 1198) (by decide +kernel), List.mem_of_getElem? (i := 1496) (by decide +kernel), List.mem_of_getElem? (i := 1497) (by decide +kernel)⟩
theorem lw_p61 : lw_okq (⟨"NounFastModel", "isThing", "(I)Z"⟩, 53) := ⟨⟨by decide +kernel, by decide +kernel⟩, List.mem_of_getElem? (i := 1198) (by decide +kernel), List.mem_of_getElem? (i := 1508) (by decide +kernel), List.mem_of_getElem? (i := 1509) (by decide +kernel)⟩
theorem lw_p62 : lw_okq (⟨"NounFastModel", "throwsIf", "(Z)Z"⟩, 53) := ⟨⟨by decide +kernel, by decide +kernel⟩, List.mem_of_getElem? (i := 1198) (by decide +kernel), List.mem_of_getElem? (i := 1512) (by decide +kernel), List.mem_of_getElem? (i := 1513) (by decide +kernel)⟩
theorem lw_p63 : lw_okq (⟨"NounFastModel", "placeOf", "(I)I"⟩, 53) := ⟨⟨by decide +kernel, by decide +kernel⟩, List.mem_of_getElem? (i := 1198) (by decide +kernel), List.mem_of_getElem? (i := 1516) (by decide +kernel), List.mem_of_getElem? (i := 1517) (by decide +kernel)⟩
def lw_privs_4 : List (MethodName × Nat) := [(⟨"NounFastModel", "fresh", "(I)Z"⟩, 53), (⟨"NounFastModel", "isName", "()Z"⟩, 53), (⟨"NounFastModel", "find", "(II)I"⟩, 53), (⟨"NounFastModel", "readThing", "()Z"⟩, 53), (⟨"NounFastModel", "takesName", "(II)Z"⟩, 53), (⟨"NounFastModel", "looksAt", "(II)Z"⟩, 53), (⟨"NounFastModel", "readTie", "(III)Z"⟩, 53), (⟨"NounFastModel", "readPerson", "()Z"⟩, 53), (⟨"NounFastModel", "puts", "(III)Z"⟩, 53), (⟨"NounFastModel", "takes", "(II)Z"⟩, 53), (⟨"NounFastModel", "once", "(IIII)Z"⟩, 53), (⟨"NounFastModel", "sign", "(I)Z"⟩, 53), (⟨"NounFastModel", "isSign", "(I)Z"⟩, 53), (⟨"NounFastModel", "isThing", "(I)Z"⟩, 53), (⟨"NounFastModel", "throwsIf", "(Z)Z"⟩, 53), (⟨"NounFastModel", "placeOf", "(I)I"⟩, 53)]
theorem lw_r4 : ∀ q ∈ lw_privs_4, lw_okq q := List.forall_mem_cons.mpr ⟨lw_p48, List.forall_mem_cons.mpr ⟨lw_p49, List.forall_mem_cons.mpr ⟨lw_p50, List.forall_mem_cons.mpr ⟨lw_p51, List.forall_mem_cons.mpr ⟨lw_p52, List.forall_mem_cons.mpr ⟨lw_p53, List.forall_mem_cons.mpr ⟨lw_p54, List.forall_mem_cons.mpr ⟨lw_p55, List.forall_mem_cons.mpr ⟨lw_p56, List.forall_mem_cons.mpr ⟨lw_p57, List.forall_mem_cons.mpr ⟨lw_p58, List.forall_mem_cons.mpr ⟨lw_p59, List.forall_mem_cons.mpr ⟨lw_p60, List.forall_mem_cons.mpr ⟨lw_p61, List.forall_mem_cons.mpr ⟨lw_p62, List.forall_mem_cons.mpr ⟨lw_p63, fun _ h => absurd h List.not_mem_nil⟩⟩⟩⟩⟩⟩⟩⟩⟩⟩⟩⟩⟩⟩⟩⟩
theorem lw_p64 : lw_okq (⟨"NounFastModel", "isCarried", "(I)Z"⟩, 53) := ⟨⟨by decide +kernel, by decide +kernel⟩, List.mem_of_getElem? (i := 1198) (by decide +kernel), List.mem_of_getElem? (i := 1520) (by decide +kernel), List.mem_of_getElem? (i := 1521) (by decide +kernel)⟩
theorem lw_p65 : lw_okq (⟨"NounFastModel", "isPerson", "(I)Z"⟩, 53) := ⟨⟨by decide +kernel, by decide +kernel⟩, List.mem_of_getElem? (i := 1198) (by decide +kernel), List.mem_of_getElem? (i := 1528) (by decide +kernel), List.mem_of_getElem? (i := 1529) (by decide +kernel)⟩
theorem lw_p66 : lw_okq (⟨"NounFastModel", "carriedBy", "(I)I"⟩, 53) := ⟨⟨by decide +kernel, by decide +kernel⟩, List.mem_of_getElem? (i := 1198) (by decide +kernel), List.mem_of_getElem? (i := 1532) (by decide +kernel), List.mem_of_getElem? (i := 1533) (by decide +kernel)⟩
theorem lw_p67 : lw_okq (⟨"NounFastModel", "isPlace", "(I)Z"⟩, 53) := ⟨⟨by decide +kernel, by decide +kernel⟩, List.mem_of_getElem? (i := 1198) (by decide +kernel), List.mem_of_getElem? (i := 1540) (by decide +kernel), List.mem_of_getElem? (i := 1541) (by decide +kernel)⟩
theorem lw_p68 : lw_okq (⟨"NounFastModel", "lyingAt", "(I)I"⟩, 53) := ⟨⟨by decide +kernel, by decide +kernel⟩, List.mem_of_getElem? (i := 1198) (by decide +kernel), List.mem_of_getElem? (i := 1544) (by decide +kernel), List.mem_of_getElem? (i := 1545) (by decide +kernel)⟩
theorem lw_p69 : lw_okq (⟨"NounFastModel", "isFast", "()Z"⟩, 53) := ⟨⟨by decide +kernel, by decide +kernel⟩, List.mem_of_getElem? (i := 1198) (by decide +kernel), List.mem_of_getElem? (i := 1552) (by decide +kernel), List.mem_of_getElem? (i := 1553) (by decide +kernel)⟩
theorem lw_p70 : lw_okq (⟨"NounFastModel", "carriedSet", "()I"⟩, 53) := ⟨⟨by decide +kernel, by decide +kernel⟩, List.mem_of_getElem? (i := 1198) (by decide +kernel), List.mem_of_getElem? (i := 1556) (by decide +kernel), List.mem_of_getElem? (i := 1557) (by decide +kernel)⟩
theorem lw_p71 : lw_okq (⟨"NounFastModel", "keep", "()V"⟩, 53) := ⟨⟨by decide +kernel, by decide +kernel⟩, List.mem_of_getElem? (i := 1198) (by decide +kernel), List.mem_of_getElem? (i := 1564) (by decide +kernel), List.mem_of_getElem? (i := 1565) (by decide +kernel)⟩
theorem lw_p72 : lw_okq (⟨"NounFastModel", "isSaying", "(I)Z"⟩, 53) := ⟨⟨by decide +kernel, by decide +kernel⟩, List.mem_of_getElem? (i := 1198) (by decide +kernel), List.mem_of_getElem? (i := 1572) (by decide +kernel), List.mem_of_getElem? (i := 1573) (by decide +kernel)⟩
theorem lw_p73 : lw_okq (⟨"NounFastModel", "whyAsk", "(III)I"⟩, 53) := ⟨⟨by decide +kernel, by decide +kernel⟩, List.mem_of_getElem? (i := 1198) (by decide +kernel), List.mem_of_getElem? (i := 1576) (by decide +kernel), List.mem_of_getElem? (i := 1577) (by decide +kernel)⟩
theorem lw_p74 : lw_okq (⟨"NounFastModel", "areApart", "(II)Z"⟩, 53) := ⟨⟨by decide +kernel, by decide +kernel⟩, List.mem_of_getElem? (i := 1198) (by decide +kernel), List.mem_of_getElem? (i := 1580) (by decide +kernel), List.mem_of_getElem? (i := 1581) (by decide +kernel)⟩
theorem lw_p75 : lw_okq (⟨"NounFastModel", "fitting", "(II)I"⟩, 53) := ⟨⟨by decide +kernel, by decide +kernel⟩, List.mem_of_getElem? (i := 1198) (by decide +kernel), List.mem_of_getElem? (i := 1584) (by decide +kernel), List.mem_of_getElem? (i := 1585) (by decide +kernel)⟩
theorem lw_p76 : lw_okq (⟨"NounFastModel", "hasAll", "(II)Z"⟩, 53) := ⟨⟨by decide +kernel, by decide +kernel⟩, List.mem_of_getElem? (i := 1198) (by decide +kernel), List.mem_of_getElem? (i := 1588) (by decide +kernel), List.mem_of_getElem? (i := 1589) (by decide +kernel)⟩
theorem lw_p77 : lw_okq (⟨"NounFastModel", "asks", "(III)V"⟩, 53) := ⟨⟨by decide +kernel, by decide +kernel⟩, List.mem_of_getElem? (i := 1198) (by decide +kernel), List.mem_of_getElem? (i := 1592) (by decide +kernel), List.mem_of_getElem? (i := 1593) (by decide +kernel)⟩
theorem lw_p78 : lw_okq (⟨"NounFastModel", "whyName", "(II)I"⟩, 53) := ⟨⟨by decide +kernel, by decide +kernel⟩, List.mem_of_getElem? (i := 1198) (by decide +kernel), List.mem_of_getElem? (i := 1606) (by decide +kernel), List.mem_of_getElem? (i := 1607) (by decide +kernel)⟩
theorem lw_p79 : lw_okq (⟨"NounFastModel", "isNear", "(II)Z"⟩, 53) := ⟨⟨by decide +kernel, by decide +kernel⟩, List.mem_of_getElem? (i := 1198) (by decide +kernel), List.mem_of_getElem? (i := 1610) (by decide +kernel), List.mem_of_getElem? (i := 1611) (by decide +kernel)⟩
def lw_privs_5 : List (MethodName × Nat) := [(⟨"NounFastModel", "isCarried", "(I)Z"⟩, 53), (⟨"NounFastModel", "isPerson", "(I)Z"⟩, 53), (⟨"NounFastModel", "carriedBy", "(I)I"⟩, 53), (⟨"NounFastModel", "isPlace", "(I)Z"⟩, 53), (⟨"NounFastModel", "lyingAt", "(I)I"⟩, 53), (⟨"NounFastModel", "isFast", "()Z"⟩, 53), (⟨"NounFastModel", "carriedSet", "()I"⟩, 53), (⟨"NounFastModel", "keep", "()V"⟩, 53), (⟨"NounFastModel", "isSaying", "(I)Z"⟩, 53), (⟨"NounFastModel", "whyAsk", "(III)I"⟩, 53), (⟨"NounFastModel", "areApart", "(II)Z"⟩, 53), (⟨"NounFastModel", "fitting", "(II)I"⟩, 53), (⟨"NounFastModel", "hasAll", "(II)Z"⟩, 53), (⟨"NounFastModel", "asks", "(III)V"⟩, 53), (⟨"NounFastModel", "whyName", "(II)I"⟩, 53), (⟨"NounFastModel", "isNear", "(II)Z"⟩, 53)]
theorem lw_r5 : ∀ q ∈ lw_privs_5, lw_okq q := List.forall_mem_cons.mpr ⟨lw_p64, List.forall_mem_cons.mpr ⟨lw_p65, List.forall_mem_cons.mpr ⟨lw_p66, List.forall_mem_cons.mpr ⟨lw_p67, List.forall_mem_cons.mpr ⟨lw_p68, List.forall_mem_cons.mpr ⟨lw_p69, List.forall_mem_cons.mpr ⟨lw_p70, List.forall_mem_cons.mpr ⟨lw_p71, List.forall_mem_cons.mpr ⟨lw_p72, List.forall_mem_cons.mpr ⟨lw_p73, List.forall_mem_cons.mpr ⟨lw_p74, List.forall_mem_cons.mpr ⟨lw_p75, List.forall_mem_cons.mpr ⟨lw_p76, List.forall_mem_cons.mpr ⟨lw_p77, List.forall_mem_cons.mpr ⟨lw_p78, List.forall_mem_cons.mpr ⟨lw_p79, fun _ h => absurd h List.not_mem_nil⟩⟩⟩⟩⟩⟩⟩⟩⟩⟩⟩⟩⟩⟩⟩⟩
theorem lw_p80 : lw_okq (⟨"NounFastModel", "isFined", "(I)Z"⟩, 53) := ⟨⟨by decide +kernel, by decide +kernel⟩, List.mem_of_getElem? (i := 1198) (by decide +kernel), List.mem_of_getElem? (i := 1614) (by decide +kernel), List.mem_of_getElem? (i := 1615) (by decide +kernel)⟩
theorem lw_p81 : lw_okq (⟨"NounFastModel", "namesOne", "(II)V"⟩, 53) := ⟨⟨by decide +kernel, by decide +kernel⟩, List.mem_of_getElem? (i := 1198) (by decide +kernel), List.mem_of_getElem? (i := 1618) (by decide +kernel), List.mem_of_getElem? (i := 1619) (by decide +kernel)⟩
theorem lw_p82 : lw_okq (⟨"NounFastModel", "whyPoint", "(II)I"⟩, 53) := ⟨⟨by decide +kernel, by decide +kernel⟩, List.mem_of_getElem? (i := 1198) (by decide +kernel), List.mem_of_getElem? (i := 1626) (by decide +kernel), List.mem_of_getElem? (i := 1627) (by decide +kernel)⟩
theorem lw_p83 : lw_okq (⟨"NounFastModel", "pointsAt", "(II)V"⟩, 53) := ⟨⟨by decide +kernel, by decide +kernel⟩, List.mem_of_getElem? (i := 1198) (by decide +kernel), List.mem_of_getElem? (i := 1630) (by decide +kernel), List.mem_of_getElem? (i := 1631) (by decide +kernel)⟩
theorem lw_p84 : lw_okq (⟨"NounFastModel", "putsDown", "(II)V"⟩, 53) := ⟨⟨by decide +kernel, by decide +kernel⟩, List.mem_of_getElem? (i := 1198) (by decide +kernel), List.mem_of_getElem? (i := 1638) (by decide +kernel), List.mem_of_getElem? (i := 1639) (by decide +kernel)⟩
theorem lw_p85 : lw_okq (⟨"NounFastModel", "whyLearn", "(II)I"⟩, 53) := ⟨⟨by decide +kernel, by decide +kernel⟩, List.mem_of_getElem? (i := 1198) (by decide +kernel), List.mem_of_getElem? (i := 1646) (by decide +kernel), List.mem_of_getElem? (i := 1647) (by decide +kernel)⟩
theorem lw_p86 : lw_okq (⟨"NounFastModel", "learnsOne", "(II)V"⟩, 53) := ⟨⟨by decide +kernel, by decide +kernel⟩, List.mem_of_getElem? (i := 1198) (by decide +kernel), List.mem_of_getElem? (i := 1650) (by decide +kernel), List.mem_of_getElem? (i := 1651) (by decide +kernel)⟩
theorem lw_p87 : lw_okq (⟨"NounFastModel", "goesOn", "(I)I"⟩, 53) := ⟨⟨by decide +kernel, by decide +kernel⟩, List.mem_of_getElem? (i := 1198) (by decide +kernel), List.mem_of_getElem? (i := 1658) (by decide +kernel), List.mem_of_getElem? (i := 1659) (by decide +kernel)⟩
theorem lw_p88 : lw_okq (⟨"NounFastModel", "day", "()V"⟩, 53) := ⟨⟨by decide +kernel, by decide +kernel⟩, List.mem_of_getElem? (i := 1198) (by decide +kernel), List.mem_of_getElem? (i := 1662) (by decide +kernel), List.mem_of_getElem? (i := 1663) (by decide +kernel)⟩
theorem lw_p89 : lw_okq (⟨"NounFastModel", "twinsOf", "(II)I"⟩, 53) := ⟨⟨by decide +kernel, by decide +kernel⟩, List.mem_of_getElem? (i := 1198) (by decide +kernel), List.mem_of_getElem? (i := 1689) (by decide +kernel), List.mem_of_getElem? (i := 1690) (by decide +kernel)⟩
theorem lw_p90 : lw_okq (⟨"NounFastModel", "isCover", "(II)Z"⟩, 53) := ⟨⟨by decide +kernel, by decide +kernel⟩, List.mem_of_getElem? (i := 1198) (by decide +kernel), List.mem_of_getElem? (i := 1701) (by decide +kernel), List.mem_of_getElem? (i := 1702) (by decide +kernel)⟩
theorem lw_p91 : lw_okq (⟨"NounFastModel", "octet", "(I)I"⟩, 53) := ⟨⟨by decide +kernel, by decide +kernel⟩, List.mem_of_getElem? (i := 1198) (by decide +kernel), List.mem_of_getElem? (i := 1713) (by decide +kernel), List.mem_of_getElem? (i := 1714) (by decide +kernel)⟩
theorem lw_p92 : lw_okq (⟨"NounFastModel", "isSpoken", "(I)Z"⟩, 53) := ⟨⟨by decide +kernel, by decide +kernel⟩, List.mem_of_getElem? (i := 1198) (by decide +kernel), List.mem_of_getElem? (i := 1717) (by decide +kernel), List.mem_of_getElem? (i := 1718) (by decide +kernel)⟩
theorem lw_p93 : lw_okq (⟨"NounFastModel", "isFit", "(II)Z"⟩, 53) := ⟨⟨by decide +kernel, by decide +kernel⟩, List.mem_of_getElem? (i := 1198) (by decide +kernel), List.mem_of_getElem? (i := 1721) (by decide +kernel), List.mem_of_getElem? (i := 1722) (by decide +kernel)⟩
theorem lw_p94 : lw_okq (⟨"NounFastModel", "saysAnew", "(I)Z"⟩, 53) := ⟨⟨by decide +kernel, by decide +kernel⟩, List.mem_of_getElem? (i := 1198) (by decide +kernel), List.mem_of_getElem? (i := 1749) (by decide +kernel), List.mem_of_getElem? (i := 1750) (by decide +kernel)⟩
theorem lw_p95 : lw_okq (⟨"NounFastModel", "meansAnew", "(I)Z"⟩, 53) := ⟨⟨by decide +kernel, by decide +kernel⟩, List.mem_of_getElem? (i := 1198) (by decide +kernel), List.mem_of_getElem? (i := 1753) (by decide +kernel), List.mem_of_getElem? (i := 1754) (by decide +kernel)⟩
def lw_privs_6 : List (MethodName × Nat) := [(⟨"NounFastModel", "isFined", "(I)Z"⟩, 53), (⟨"NounFastModel", "namesOne", "(II)V"⟩, 53), (⟨"NounFastModel", "whyPoint", "(II)I"⟩, 53), (⟨"NounFastModel", "pointsAt", "(II)V"⟩, 53), (⟨"NounFastModel", "putsDown", "(II)V"⟩, 53), (⟨"NounFastModel", "whyLearn", "(II)I"⟩, 53), (⟨"NounFastModel", "learnsOne", "(II)V"⟩, 53), (⟨"NounFastModel", "goesOn", "(I)I"⟩, 53), (⟨"NounFastModel", "day", "()V"⟩, 53), (⟨"NounFastModel", "twinsOf", "(II)I"⟩, 53), (⟨"NounFastModel", "isCover", "(II)Z"⟩, 53), (⟨"NounFastModel", "octet", "(I)I"⟩, 53), (⟨"NounFastModel", "isSpoken", "(I)Z"⟩, 53), (⟨"NounFastModel", "isFit", "(II)Z"⟩, 53), (⟨"NounFastModel", "saysAnew", "(I)Z"⟩, 53), (⟨"NounFastModel", "meansAnew", "(I)Z"⟩, 53)]
theorem lw_r6 : ∀ q ∈ lw_privs_6, lw_okq q := List.forall_mem_cons.mpr ⟨lw_p80, List.forall_mem_cons.mpr ⟨lw_p81, List.forall_mem_cons.mpr ⟨lw_p82, List.forall_mem_cons.mpr ⟨lw_p83, List.forall_mem_cons.mpr ⟨lw_p84, List.forall_mem_cons.mpr ⟨lw_p85, List.forall_mem_cons.mpr ⟨lw_p86, List.forall_mem_cons.mpr ⟨lw_p87, List.forall_mem_cons.mpr ⟨lw_p88, List.forall_mem_cons.mpr ⟨lw_p89, List.forall_mem_cons.mpr ⟨lw_p90, List.forall_mem_cons.mpr ⟨lw_p91, List.forall_mem_cons.mpr ⟨lw_p92, List.forall_mem_cons.mpr ⟨lw_p93, List.forall_mem_cons.mpr ⟨lw_p94, List.forall_mem_cons.mpr ⟨lw_p95, fun _ h => absurd h List.not_mem_nil⟩⟩⟩⟩⟩⟩⟩⟩⟩⟩⟩⟩⟩⟩⟩⟩
theorem lw_p96 : lw_okq (⟨"NounFastModel", "meantBy", "(II)I"⟩, 53) := ⟨⟨by decide +kernel, by decide +kernel⟩, List.mem_of_getElem? (i := 1198) (by decide +kernel), List.mem_of_getElem? (i := 1757) (by decide +kernel), List.mem_of_getElem? (i := 1758) (by decide +kernel)⟩
theorem lw_p97 : lw_okq (⟨"NounFastModel", "spells", "(J)V"⟩, 53) := ⟨⟨by decide +kernel, by decide +kernel⟩, List.mem_of_getElem? (i := 1198) (by decide +kernel), List.mem_of_getElem? (i := 1773) (by decide +kernel), List.mem_of_getElem? (i := 1774) (by decide +kernel)⟩
theorem lw_p98 : lw_okq (⟨"NounFastModel", "lays", "(I)V"⟩, 53) := ⟨⟨by decide +kernel, by decide +kernel⟩, List.mem_of_getElem? (i := 1198) (by decide +kernel), List.mem_of_getElem? (i := 1778) (by decide +kernel), List.mem_of_getElem? (i := 1779) (by decide +kernel)⟩
theorem lw_p99 : lw_okq (⟨"NounFastModel", "says", "(J)V"⟩, 53) := ⟨⟨by decide +kernel, by decide +kernel⟩, List.mem_of_getElem? (i := 1198) (by decide +kernel), List.mem_of_getElem? (i := 1783) (by decide +kernel), List.mem_of_getElem? (i := 1784) (by decide +kernel)⟩
theorem lw_p100 : lw_okq (⟨"NounFastModel", "draws", "(II)I"⟩, 53) := ⟨⟨by decide +kernel, by decide +kernel⟩, List.mem_of_getElem? (i := 1198) (by decide +kernel), List.mem_of_getElem? (i := 1796) (by decide +kernel), List.mem_of_getElem? (i := 1797) (by decide +kernel)⟩
theorem lw_p101 : lw_okq (⟨"NounFastModel", "drawPerson", "(I)V"⟩, 53) := ⟨⟨by decide +kernel, by decide +kernel⟩, List.mem_of_getElem? (i := 1198) (by decide +kernel), List.mem_of_getElem? (i := 1800) (by decide +kernel), List.mem_of_getElem? (i := 1801) (by decide +kernel)⟩
theorem lw_p102 : lw_okq (⟨"NounFastModel", "draw", "(I)I"⟩, 53) := ⟨⟨by decide +kernel, by decide +kernel⟩, List.mem_of_getElem? (i := 1198) (by decide +kernel), List.mem_of_getElem? (i := 1804) (by decide +kernel), List.mem_of_getElem? (i := 1805) (by decide +kernel)⟩
theorem lw_p103 : lw_okq (⟨"NounFastModel", "tries", "()V"⟩, 53) := ⟨⟨by decide +kernel, by decide +kernel⟩, List.mem_of_getElem? (i := 1198) (by decide +kernel), List.mem_of_getElem? (i := 1813) (by decide +kernel), List.mem_of_getElem? (i := 1814) (by decide +kernel)⟩
theorem lw_p104 : lw_okq (⟨"NounFastModel", "back", "()V"⟩, 53) := ⟨⟨by decide +kernel, by decide +kernel⟩, List.mem_of_getElem? (i := 1198) (by decide +kernel), List.mem_of_getElem? (i := 1817) (by decide +kernel), List.mem_of_getElem? (i := 1818) (by decide +kernel)⟩
theorem lw_p105 : lw_okq (⟨"NounFastModel", "bookLine", "()Z"⟩, 53) := ⟨⟨by decide +kernel, by decide +kernel⟩, List.mem_of_getElem? (i := 1198) (by decide +kernel), List.mem_of_getElem? (i := 1825) (by decide +kernel), List.mem_of_getElem? (i := 1826) (by decide +kernel)⟩
theorem lw_p106 : lw_okq (⟨"NounFastModel", "takesMarks", "(I)Z"⟩, 53) := ⟨⟨by decide +kernel, by decide +kernel⟩, List.mem_of_getElem? (i := 1198) (by decide +kernel), List.mem_of_getElem? (i := 1829) (by decide +kernel), List.mem_of_getElem? (i := 1830) (by decide +kernel)⟩
theorem lw_p107 : lw_okq (⟨"NounFastModel", "does", "(IIII)I"⟩, 53) := ⟨⟨by decide +kernel, by decide +kernel⟩, List.mem_of_getElem? (i := 1198) (by decide +kernel), List.mem_of_getElem? (i := 1833) (by decide +kernel), List.mem_of_getElem? (i := 1834) (by decide +kernel)⟩
theorem lw_p108 : lw_okq (⟨"NounFastModel", "nots", "()V"⟩, 53) := ⟨⟨by decide +kernel, by decide +kernel⟩, List.mem_of_getElem? (i := 1198) (by decide +kernel), List.mem_of_getElem? (i := 1845) (by decide +kernel), List.mem_of_getElem? (i := 1846) (by decide +kernel)⟩
theorem lw_p109 : lw_okq (⟨"NounFastModel", "code", "(III)V"⟩, 53) := ⟨⟨by decide +kernel, by decide +kernel⟩, List.mem_of_getElem? (i := 1198) (by decide +kernel), List.mem_of_getElem? (i := 1849) (by decide +kernel), List.mem_of_getElem? (i := 1850) (by decide +kernel)⟩
theorem lw_p110 : lw_okq (⟨"NounFastModel", "joins", "(I)V"⟩, 53) := ⟨⟨by decide +kernel, by decide +kernel⟩, List.mem_of_getElem? (i := 1198) (by decide +kernel), List.mem_of_getElem? (i := 1853) (by decide +kernel), List.mem_of_getElem? (i := 1854) (by decide +kernel)⟩
theorem lw_p111 : lw_okq (⟨"NounFastModel", "behind", "()Z"⟩, 53) := ⟨⟨by decide +kernel, by decide +kernel⟩, List.mem_of_getElem? (i := 1198) (by decide +kernel), List.mem_of_getElem? (i := 1857) (by decide +kernel), List.mem_of_getElem? (i := 1858) (by decide +kernel)⟩
def lw_privs_7 : List (MethodName × Nat) := [(⟨"NounFastModel", "meantBy", "(II)I"⟩, 53), (⟨"NounFastModel", "spells", "(J)V"⟩, 53), (⟨"NounFastModel", "lays", "(I)V"⟩, 53), (⟨"NounFastModel", "says", "(J)V"⟩, 53), (⟨"NounFastModel", "draws", "(II)I"⟩, 53), (⟨"NounFastModel", "drawPerson", "(I)V"⟩, 53), (⟨"NounFastModel", "draw", "(I)I"⟩, 53), (⟨"NounFastModel", "tries", "()V"⟩, 53), (⟨"NounFastModel", "back", "()V"⟩, 53), (⟨"NounFastModel", "bookLine", "()Z"⟩, 53), (⟨"NounFastModel", "takesMarks", "(I)Z"⟩, 53), (⟨"NounFastModel", "does", "(IIII)I"⟩, 53), (⟨"NounFastModel", "nots", "()V"⟩, 53), (⟨"NounFastModel", "code", "(III)V"⟩, 53), (⟨"NounFastModel", "joins", "(I)V"⟩, 53), (⟨"NounFastModel", "behind", "()Z"⟩, 53)]
theorem lw_r7 : ∀ q ∈ lw_privs_7, lw_okq q := List.forall_mem_cons.mpr ⟨lw_p96, List.forall_mem_cons.mpr ⟨lw_p97, List.forall_mem_cons.mpr ⟨lw_p98, List.forall_mem_cons.mpr ⟨lw_p99, List.forall_mem_cons.mpr ⟨lw_p100, List.forall_mem_cons.mpr ⟨lw_p101, List.forall_mem_cons.mpr ⟨lw_p102, List.forall_mem_cons.mpr ⟨lw_p103, List.forall_mem_cons.mpr ⟨lw_p104, List.forall_mem_cons.mpr ⟨lw_p105, List.forall_mem_cons.mpr ⟨lw_p106, List.forall_mem_cons.mpr ⟨lw_p107, List.forall_mem_cons.mpr ⟨lw_p108, List.forall_mem_cons.mpr ⟨lw_p109, List.forall_mem_cons.mpr ⟨lw_p110, List.forall_mem_cons.mpr ⟨lw_p111, fun _ h => absurd h List.not_mem_nil⟩⟩⟩⟩⟩⟩⟩⟩⟩⟩⟩⟩⟩⟩⟩⟩
theorem lw_p112 : lw_okq (⟨"NounFastModel", "operand", "()Z"⟩, 53) := ⟨⟨by decide +kernel, by decide +kernel⟩, List.mem_of_getElem? (i := 1198) (by decide +kernel), List.mem_of_getElem? (i := 1861) (by decide +kernel), List.mem_of_getElem? (i := 1862) (by decide +kernel)⟩
theorem lw_p113 : lw_okq (⟨"NounFastModel", "leafOf", "()I"⟩, 53) := ⟨⟨by decide +kernel, by decide +kernel⟩, List.mem_of_getElem? (i := 1198) (by decide +kernel), List.mem_of_getElem? (i := 1865) (by decide +kernel), List.mem_of_getElem? (i := 1866) (by decide +kernel)⟩
theorem lw_p114 : lw_okq (⟨"NounFastModel", "isSaid", "(I)Z"⟩, 53) := ⟨⟨by decide +kernel, by decide +kernel⟩, List.mem_of_getElem? (i := 1198) (by decide +kernel), List.mem_of_getElem? (i := 1873) (by decide +kernel), List.mem_of_getElem? (i := 1874) (by decide +kernel)⟩
theorem lw_p115 : lw_okq (⟨"NounFastModel", "isLeaf", "(IIII)Z"⟩, 53) := ⟨⟨by decide +kernel, by decide +kernel⟩, List.mem_of_getElem? (i := 1198) (by decide +kernel), List.mem_of_getElem? (i := 1877) (by decide +kernel), List.mem_of_getElem? (i := 1878) (by decide +kernel)⟩
def lw_privs_8 : List (MethodName × Nat) := [(⟨"NounFastModel", "operand", "()Z"⟩, 53), (⟨"NounFastModel", "leafOf", "()I"⟩, 53), (⟨"NounFastModel", "isSaid", "(I)Z"⟩, 53), (⟨"NounFastModel", "isLeaf", "(IIII)Z"⟩, 53)]
theorem lw_r8 : ∀ q ∈ lw_privs_8, lw_okq q := List.forall_mem_cons.mpr ⟨lw_p112, List.forall_mem_cons.mpr ⟨lw_p113, List.forall_mem_cons.mpr ⟨lw_p114, List.forall_mem_cons.mpr ⟨lw_p115, fun _ h => absurd h List.not_mem_nil⟩⟩⟩⟩
def lw_privs : List (MethodName × Nat) := lw_privs_1 ++ (lw_privs_2 ++ (lw_privs_3 ++ (lw_privs_4 ++ (lw_privs_5 ++ (lw_privs_6 ++ (lw_privs_7 ++ (lw_privs_8)))))))
def lw_tbl : List Cond := k2_sels lw_privs ++ tables_1
theorem lw_privs_ok : ∀ q ∈ lw_privs, lw_okq q := by
  show ∀ q ∈ lw_privs_1 ++ (lw_privs_2 ++ (lw_privs_3 ++ (lw_privs_4 ++ (lw_privs_5 ++ (lw_privs_6 ++ (lw_privs_7 ++ (lw_privs_8))))))), lw_okq q
  exact List.forall_mem_append.mpr ⟨lw_r1, List.forall_mem_append.mpr ⟨lw_r2, List.forall_mem_append.mpr ⟨lw_r3, List.forall_mem_append.mpr ⟨lw_r4, List.forall_mem_append.mpr ⟨lw_r5, List.forall_mem_append.mpr ⟨lw_r6, List.forall_mem_append.mpr ⟨lw_r7, lw_r8⟩⟩⟩⟩⟩⟩⟩
end
section
def RX0 : String := "NounFast$Book"
def TX0 : u_T := fun k => match k with
  | 0 => ("NounFast$Book", "verbs", "[I", true)
  | 1 => ("NounFast$Book", "actors", "[I", true)
  | 2 => ("NounFast$Book", "objects", "[I", true)
  | 3 => ("NounFast$Book", "sayings", "[I", true)
  | 4 => ("NounFast$Book", "lines", "I", false)
  | _ => ("NounFast$Book", "report", "[I", true)
def tyX0 : Nat → FieldType := fun k => match k with
  | 0 => .array .int
  | 1 => .array .int
  | 2 => .array .int
  | 3 => .array .int
  | 4 => .int
  | _ => .array .int
theorem nmX0 : ∀ a, a < 6 → ∀ b, b < 6 → a ≠ b → (TX0 a).2.1 ≠ (TX0 b).2.1 := by decide +kernel
theorem tyX0_ok : ∀ k, k < 6 → parseFieldDescriptor (TX0 k).2.2.1 = some (tyX0 k) := by decide +kernel
abbrev cX0_init : ByteArray := prog_2_method_1_code
def yX0_init : MethodName := ⟨RX0, "<init>", "()V"⟩
abbrev cX0_read : ByteArray := prog_2_method_2_code
def yX0_read : MethodName := ⟨RX0, "read", "(LNounFast$Text;LNounFast$City;)V"⟩
abbrev cX0_readLine : ByteArray := prog_2_method_3_code
def yX0_readLine : MethodName := ⟨RX0, "readLine", "(LNounFast$Text;LNounFast$City;)V"⟩
abbrev cX0_readAct : ByteArray := prog_2_method_4_code
def yX0_readAct : MethodName := ⟨RX0, "readAct", "(LNounFast$Text;LNounFast$City;)V"⟩
abbrev cX0_sortBehind : ByteArray := prog_2_method_5_code
def yX0_sortBehind : MethodName := ⟨RX0, "sortBehind", "(I)I"⟩
abbrev cX0_readSaying : ByteArray := prog_2_method_6_code
def yX0_readSaying : MethodName := ⟨RX0, "readSaying", "(LNounFast$Text;LNounFast$City;)I"⟩
abbrev cX0_judge : ByteArray := prog_2_method_7_code
def yX0_judge : MethodName := ⟨RX0, "judge", "(LNounFast$Scene;)I"⟩
abbrev cX0_liveLine : ByteArray := prog_2_method_8_code
def yX0_liveLine : MethodName := ⟨RX0, "liveLine", "(LNounFast$Scene;I)I"⟩
abbrev cX0_because : ByteArray := prog_2_method_9_code
def yX0_because : MethodName := ⟨RX0, "because", "(II)I"⟩
abbrev cX0_liveDays : ByteArray := prog_2_method_10_code
def yX0_liveDays : MethodName := ⟨RX0, "liveDays", "(LNounFast$Scene;I)I"⟩
abbrev cX0_tell : ByteArray := prog_2_method_11_code
def yX0_tell : MethodName := ⟨RX0, "tell", "(I)I"⟩
def RX1 : String := "NounFast$City"
def TX1 : u_T := fun k => match k with
  | 0 => ("NounFast$City", "counts", "[I", true)
  | 1 => ("NounFast$City", "names", "[J", true)
  | 2 => ("NounFast$City", "marks", "[I", true)
  | 3 => ("NounFast$City", "thingPlace", "[I", true)
  | 4 => ("NounFast$City", "personPlace", "[I", true)
  | 5 => ("NounFast$City", "coins", "[I", true)
  | 6 => ("NounFast$City", "knows", "[I", true)
  | 7 => ("NounFast$City", "foreigners", "I", false)
  | _ => ("NounFast$City", "settled", "I", false)
def tyX1 : Nat → FieldType := fun k => match k with
  | 0 => .array .int
  | 1 => .array .long
  | 2 => .array .int
  | 3 => .array .int
  | 4 => .array .int
  | 5 => .array .int
  | 6 => .array .int
  | 7 => .int
  | _ => .int
theorem nmX1 : ∀ a, a < 9 → ∀ b, b < 9 → a ≠ b → (TX1 a).2.1 ≠ (TX1 b).2.1 := by decide +kernel
theorem tyX1_ok : ∀ k, k < 9 → parseFieldDescriptor (TX1 k).2.2.1 = some (tyX1 k) := by decide +kernel
abbrev cX1_init : ByteArray := prog_3_method_1_code
def yX1_init : MethodName := ⟨RX1, "<init>", "()V"⟩
abbrev cX1_has : ByteArray := prog_3_method_2_code
def yX1_has : MethodName := ⟨RX1, "has", "(II)Z"⟩
abbrev cX1_hasMarks : ByteArray := prog_3_method_3_code
def yX1_hasMarks : MethodName := ⟨RX1, "hasMarks", "(I)Z"⟩
abbrev cX1_isForeign : ByteArray := prog_3_method_4_code
def yX1_isForeign : MethodName := ⟨RX1, "isForeign", "(I)Z"⟩
abbrev cX1_nameOf : ByteArray := prog_3_method_5_code
def yX1_nameOf : MethodName := ⟨RX1, "nameOf", "(II)J"⟩
abbrev cX1_find : ByteArray := prog_3_method_6_code
def yX1_find : MethodName := ⟨RX1, "find", "(J)I"⟩
abbrev cX1_toldHere : ByteArray := prog_3_method_7_code
def yX1_toldHere : MethodName := ⟨RX1, "toldHere", "(LNounFast$Text;I)I"⟩
abbrev cX1_read : ByteArray := prog_3_method_8_code
def yX1_read : MethodName := ⟨RX1, "read", "(LNounFast$Text;)I"⟩
abbrev cX1_readLine : ByteArray := prog_3_method_9_code
def yX1_readLine : MethodName := ⟨RX1, "readLine", "(LNounFast$Text;)V"⟩
abbrev cX1_readNew : ByteArray := prog_3_method_10_code
def yX1_readNew : MethodName := ⟨RX1, "readNew", "(LNounFast$Text;I)V"⟩
abbrev cX1_readPerson : ByteArray := prog_3_method_11_code
def yX1_readPerson : MethodName := ⟨RX1, "readPerson", "(LNounFast$Text;I)V"⟩
abbrev cX1_readPair : ByteArray := prog_3_method_12_code
def yX1_readPair : MethodName := ⟨RX1, "readPair", "(LNounFast$Text;I[I)V"⟩
abbrev cX1_readSetting : ByteArray := prog_3_method_13_code
def yX1_readSetting : MethodName := ⟨RX1, "readSetting", "(LNounFast$Text;I)V"⟩
def RX2 : String := "NounFast$Clue"
def TX2 : u_T := fun k => match k with
  | 0 => ("NounFast$Clue", "fitted", "[I", true)
  | 1 => ("NounFast$Clue", "sure", "I", false)
  | _ => ("NounFast$Clue", "next", "I", false)
def tyX2 : Nat → FieldType := fun k => match k with
  | 0 => .array .int
  | 1 => .int
  | _ => .int
theorem nmX2 : ∀ a, a < 3 → ∀ b, b < 3 → a ≠ b → (TX2 a).2.1 ≠ (TX2 b).2.1 := by decide +kernel
theorem tyX2_ok : ∀ k, k < 3 → parseFieldDescriptor (TX2 k).2.2.1 = some (tyX2 k) := by decide +kernel
abbrev cX2_init : ByteArray := prog_4_method_1_code
def yX2_init : MethodName := ⟨RX2, "<init>", "()V"⟩
abbrev cX2_hear : ByteArray := prog_4_method_2_code
def yX2_hear : MethodName := ⟨RX2, "hear", "(LNounFast$Tape;LNounFast$Scene;)I"⟩
abbrev cX2_isTold : ByteArray := prog_4_method_3_code
def yX2_isTold : MethodName := ⟨RX2, "isTold", "(LNounFast$Tape;LNounFast$Scene;)Z"⟩
abbrev cX2_isJustSo : ByteArray := prog_4_method_4_code
def yX2_isJustSo : MethodName := ⟨RX2, "isJustSo", "(LNounFast$Tape;LNounFast$Scene;II)Z"⟩
abbrev cX2_countFitting : ByteArray := prog_4_method_5_code
def yX2_countFitting : MethodName := ⟨RX2, "countFitting", "(LNounFast$Scene;II)V"⟩
abbrev cX2_mostTelling : ByteArray := prog_4_method_6_code
def yX2_mostTelling : MethodName := ⟨RX2, "mostTelling", "(LNounFast$Scene;I)I"⟩
def RX3 : String := "NounFast$Dice"
def TX3 : u_T := fun k => match k with
  | _ => ("NounFast$Dice", "x", "I", false)
def tyX3 : Nat → FieldType := fun k => match k with
  | _ => .int
theorem nmX3 : ∀ a, a < 1 → ∀ b, b < 1 → a ≠ b → (TX3 a).2.1 ≠ (TX3 b).2.1 := by decide +kernel
theorem tyX3_ok : ∀ k, k < 1 → parseFieldDescriptor (TX3 k).2.2.1 = some (tyX3 k) := by decide +kernel
abbrev cX3_init : ByteArray := prog_5_method_1_code
def yX3_init : MethodName := ⟨RX3, "<init>", "()V"⟩
abbrev cX3_draw : ByteArray := prog_5_method_2_code
def yX3_draw : MethodName := ⟨RX3, "draw", "(I)I"⟩
abbrev cX3_live : ByteArray := prog_5_method_3_code
def yX3_live : MethodName := ⟨RX3, "live", "(LNounFast$Scene;I)I"⟩
abbrev cX3_takeTurn : ByteArray := prog_5_method_4_code
def yX3_takeTurn : MethodName := ⟨RX3, "takeTurn", "(LNounFast$Scene;I)V"⟩
abbrev cX3_dropFirst : ByteArray := prog_5_method_5_code
def yX3_dropFirst : MethodName := ⟨RX3, "dropFirst", "(LNounFast$Scene;I)V"⟩
def RX4 : String := "NounFast$History"
def TX4 : u_T := fun k => match k with
  | 0 => ("NounFast$History", "scenes", "[LNounFast$Scene;", true)
  | 1 => ("NounFast$History", "first", "I", false)
  | _ => ("NounFast$History", "size", "I", false)
def tyX4 : Nat → FieldType := fun k => match k with
  | 0 => .array (.object "NounFast$Scene")
  | 1 => .int
  | _ => .int
theorem nmX4 : ∀ a, a < 3 → ∀ b, b < 3 → a ≠ b → (TX4 a).2.1 ≠ (TX4 b).2.1 := by decide +kernel
theorem tyX4_ok : ∀ k, k < 3 → parseFieldDescriptor (TX4 k).2.2.1 = some (tyX4 k) := by decide +kernel
abbrev cX4_init : ByteArray := prog_6_method_1_code
def yX4_init : MethodName := ⟨RX4, "<init>", "()V"⟩
abbrev cX4_slot : ByteArray := prog_6_method_2_code
def yX4_slot : MethodName := ⟨RX4, "slot", "(I)I"⟩
abbrev cX4_clear : ByteArray := prog_6_method_3_code
def yX4_clear : MethodName := ⟨RX4, "clear", "()V"⟩
abbrev cX4_prepare : ByteArray := prog_6_method_4_code
def yX4_prepare : MethodName := ⟨RX4, "prepare", "(LNounFast$Scene;)V"⟩
abbrev cX4_keep : ByteArray := prog_6_method_5_code
def yX4_keep : MethodName := ⟨RX4, "keep", "()V"⟩
abbrev cX4_takeBack : ByteArray := prog_6_method_6_code
def yX4_takeBack : MethodName := ⟨RX4, "takeBack", "(LNounFast$Scene;)I"⟩
def RX5 : String := "NounFast$Minds"
def TX5 : u_T := fun k => match k with
  | _ => ("", "", "", false)
def tyX5 : Nat → FieldType := fun k => match k with
  | _ => .int
theorem nmX5 : ∀ a, a < 0 → ∀ b, b < 0 → a ≠ b → (TX5 a).2.1 ≠ (TX5 b).2.1 := by decide +kernel
theorem tyX5_ok : ∀ k, k < 0 → parseFieldDescriptor (TX5 k).2.2.1 = some (tyX5 k) := by decide +kernel
abbrev cX5_leastSaying : ByteArray := prog_7_method_2_code
def yX5_leastSaying : MethodName := ⟨RX5, "leastSaying", "(LNounFast$Scene;II)I"⟩
abbrev cX5_isShorter : ByteArray := prog_7_method_3_code
def yX5_isShorter : MethodName := ⟨RX5, "isShorter", "(II)Z"⟩
abbrev cX5_twinOf : ByteArray := prog_7_method_4_code
def yX5_twinOf : MethodName := ⟨RX5, "twinOf", "(LNounFast$Scene;III)I"⟩
abbrev cX5_slips : ByteArray := prog_7_method_5_code
def yX5_slips : MethodName := ⟨RX5, "slips", "(LNounFast$Scene;II)I"⟩
abbrev cX5_leastCover : ByteArray := prog_7_method_6_code
def yX5_leastCover : MethodName := ⟨RX5, "leastCover", "(LNounFast$Scene;I)I"⟩
abbrev cX5_hasTwins : ByteArray := prog_7_method_7_code
def yX5_hasTwins : MethodName := ⟨RX5, "hasTwins", "(LNounFast$Scene;II)Z"⟩
abbrev cX5_leastCant : ByteArray := prog_7_method_8_code
def yX5_leastCant : MethodName := ⟨RX5, "leastCant", "(LNounFast$Scene;IIII)I"⟩
abbrev cX5_hoursOfNews : ByteArray := prog_7_method_9_code
def yX5_hoursOfNews : MethodName := ⟨RX5, "hoursOfNews", "(LNounFast$Scene;I)I"⟩
abbrev cX5_toldBy : ByteArray := prog_7_method_10_code
def yX5_toldBy : MethodName := ⟨RX5, "toldBy", "(LNounFast$Scene;I)I"⟩
abbrev cX5_hearersOf : ByteArray := prog_7_method_11_code
def yX5_hearersOf : MethodName := ⟨RX5, "hearersOf", "(LNounFast$Scene;I)I"⟩
def RX6 : String := "NounFast$Rest"
def TX6 : u_T := fun k => match k with
  | 0 => ("NounFast$Rest", "saidBy", "[I", true)
  | _ => ("NounFast$Rest", "owner", "[I", true)
def tyX6 : Nat → FieldType := fun k => match k with
  | 0 => .array .int
  | _ => .array .int
theorem nmX6 : ∀ a, a < 2 → ∀ b, b < 2 → a ≠ b → (TX6 a).2.1 ≠ (TX6 b).2.1 := by decide +kernel
theorem tyX6_ok : ∀ k, k < 2 → parseFieldDescriptor (TX6 k).2.2.1 = some (tyX6 k) := by decide +kernel
abbrev cX6_init : ByteArray := prog_8_method_1_code
def yX6_init : MethodName := ⟨RX6, "<init>", "()V"⟩
abbrev cX6_settle : ByteArray := prog_8_method_2_code
def yX6_settle : MethodName := ⟨RX6, "settle", "(LNounFast$Scene;I)I"⟩
abbrev cX6_havingMark : ByteArray := prog_8_method_3_code
def yX6_havingMark : MethodName := ⟨RX6, "havingMark", "(LNounFast$Scene;II)I"⟩
abbrev cX6_sayThings : ByteArray := prog_8_method_4_code
def yX6_sayThings : MethodName := ⟨RX6, "sayThings", "(LNounFast$Scene;I)Z"⟩
abbrev cX6_leastOwning : ByteArray := prog_8_method_5_code
def yX6_leastOwning : MethodName := ⟨RX6, "leastOwning", "(II)I"⟩
abbrev cX6_giveMarks : ByteArray := prog_8_method_6_code
def yX6_giveMarks : MethodName := ⟨RX6, "giveMarks", "(LNounFast$Scene;I)Z"⟩
abbrev cX6_firstSaid : ByteArray := prog_8_method_7_code
def yX6_firstSaid : MethodName := ⟨RX6, "firstSaid", "(II)I"⟩
def RX7 : String := "NounFast$Scene"
def TX7 : u_T := fun k => match k with
  | 0 => ("NounFast$Scene", "city", "LNounFast$City;", false)
  | 1 => ("NounFast$Scene", "thingPlace", "[I", true)
  | 2 => ("NounFast$Scene", "carrier", "[I", true)
  | 3 => ("NounFast$Scene", "named", "[I", true)
  | 4 => ("NounFast$Scene", "personPlace", "[I", true)
  | 5 => ("NounFast$Scene", "coins", "[I", true)
  | 6 => ("NounFast$Scene", "knows", "[I", true)
  | 7 => ("NounFast$Scene", "day", "I", false)
  | 8 => ("NounFast$Scene", "guesses", "I", false)
  | _ => ("NounFast$Scene", "fines", "I", false)
def tyX7 : Nat → FieldType := fun k => match k with
  | 0 => .object "NounFast$City"
  | 1 => .array .int
  | 2 => .array .int
  | 3 => .array .int
  | 4 => .array .int
  | 5 => .array .int
  | 6 => .array .int
  | 7 => .int
  | 8 => .int
  | _ => .int
theorem nmX7 : ∀ a, a < 10 → ∀ b, b < 10 → a ≠ b → (TX7 a).2.1 ≠ (TX7 b).2.1 := by decide +kernel
theorem tyX7_ok : ∀ k, k < 10 → parseFieldDescriptor (TX7 k).2.2.1 = some (tyX7 k) := by decide +kernel
abbrev cX7_init : ByteArray := prog_9_method_1_code
def yX7_init : MethodName := ⟨RX7, "<init>", "(LNounFast$City;)V"⟩
abbrev cX7_begin : ByteArray := prog_9_method_2_code
def yX7_begin : MethodName := ⟨RX7, "begin", "(LNounFast$City;)V"⟩
abbrev cX7_copyFrom : ByteArray := prog_9_method_3_code
def yX7_copyFrom : MethodName := ⟨RX7, "copyFrom", "(LNounFast$Scene;)V"⟩
abbrev cX7_has : ByteArray := prog_9_method_4_code
def yX7_has : MethodName := ⟨RX7, "has", "(II)Z"⟩
abbrev cX7_isFast : ByteArray := prog_9_method_5_code
def yX7_isFast : MethodName := ⟨RX7, "isFast", "()Z"⟩
abbrev cX7_isLying : ByteArray := prog_9_method_6_code
def yX7_isLying : MethodName := ⟨RX7, "isLying", "(I)Z"⟩
abbrev cX7_placeOf : ByteArray := prog_9_method_7_code
def yX7_placeOf : MethodName := ⟨RX7, "placeOf", "(I)I"⟩
abbrev cX7_lyingAt : ByteArray := prog_9_method_8_code
def yX7_lyingAt : MethodName := ⟨RX7, "lyingAt", "(I)I"⟩
abbrev cX7_carriedBy : ByteArray := prog_9_method_9_code
def yX7_carriedBy : MethodName := ⟨RX7, "carriedBy", "(I)I"⟩
abbrev cX7_allCarried : ByteArray := prog_9_method_10_code
def yX7_allCarried : MethodName := ⟨RX7, "allCarried", "()I"⟩
abbrev cX7_allCoins : ByteArray := prog_9_method_11_code
def yX7_allCoins : MethodName := ⟨RX7, "allCoins", "()I"⟩
abbrev cX7_isFitting : ByteArray := prog_9_method_12_code
def yX7_isFitting : MethodName := ⟨RX7, "isFitting", "(III)Z"⟩
abbrev cX7_fitting : ByteArray := prog_9_method_13_code
def yX7_fitting : MethodName := ⟨RX7, "fitting", "(III)I"⟩
abbrev cX7_areTogether : ByteArray := prog_9_method_14_code
def yX7_areTogether : MethodName := ⟨RX7, "areTogether", "(II)Z"⟩
abbrev cX7_liesBefore : ByteArray := prog_9_method_15_code
def yX7_liesBefore : MethodName := ⟨RX7, "liesBefore", "(II)Z"⟩
abbrev cX7_walk : ByteArray := prog_9_method_16_code
def yX7_walk : MethodName := ⟨RX7, "walk", "(II)I"⟩
abbrev cX7_request : ByteArray := prog_9_method_17_code
def yX7_request : MethodName := ⟨RX7, "request", "(III)I"⟩
abbrev cX7_callByName : ByteArray := prog_9_method_18_code
def yX7_callByName : MethodName := ⟨RX7, "callByName", "(II)I"⟩
abbrev cX7_pointAt : ByteArray := prog_9_method_19_code
def yX7_pointAt : MethodName := ⟨RX7, "pointAt", "(II)I"⟩
abbrev cX7_drop : ByteArray := prog_9_method_20_code
def yX7_drop : MethodName := ⟨RX7, "drop", "(II)I"⟩
abbrev cX7_study : ByteArray := prog_9_method_21_code
def yX7_study : MethodName := ⟨RX7, "study", "(II)I"⟩
abbrev cX7_daysLeft : ByteArray := prog_9_method_22_code
def yX7_daysLeft : MethodName := ⟨RX7, "daysLeft", "()I"⟩
abbrev cX7_passDays : ByteArray := prog_9_method_23_code
def yX7_passDays : MethodName := ⟨RX7, "passDays", "(I)I"⟩
abbrev cX7_passDay : ByteArray := prog_9_method_24_code
def yX7_passDay : MethodName := ⟨RX7, "passDay", "()V"⟩
def RX8 : String := "NounFast$Sentence"
def TX8 : u_T := fun k => match k with
  | 0 => ("NounFast$Sentence", "parts", "[I", true)
  | 1 => ("NounFast$Sentence", "objects", "[I", true)
  | 2 => ("NounFast$Sentence", "signs", "[I", true)
  | 3 => ("NounFast$Sentence", "stack", "[I", true)
  | 4 => ("NounFast$Sentence", "size", "I", false)
  | _ => ("NounFast$Sentence", "ones", "I", false)
def tyX8 : Nat → FieldType := fun k => match k with
  | 0 => .array .int
  | 1 => .array .int
  | 2 => .array .int
  | 3 => .array .int
  | 4 => .int
  | _ => .int
theorem nmX8 : ∀ a, a < 6 → ∀ b, b < 6 → a ≠ b → (TX8 a).2.1 ≠ (TX8 b).2.1 := by decide +kernel
theorem tyX8_ok : ∀ k, k < 6 → parseFieldDescriptor (TX8 k).2.2.1 = some (tyX8 k) := by decide +kernel
abbrev cX8_init : ByteArray := prog_10_method_1_code
def yX8_init : MethodName := ⟨RX8, "<init>", "()V"⟩
abbrev cX8_readCondition : ByteArray := prog_10_method_2_code
def yX8_readCondition : MethodName := ⟨RX8, "readCondition", "(LNounFast$Text;LNounFast$City;I)V"⟩
abbrev cX8_readAll : ByteArray := prog_10_method_3_code
def yX8_readAll : MethodName := ⟨RX8, "readAll", "(LNounFast$Text;LNounFast$City;I)V"⟩
abbrev cX8_readOne : ByteArray := prog_10_method_4_code
def yX8_readOne : MethodName := ⟨RX8, "readOne", "(LNounFast$Text;LNounFast$City;I)V"⟩
abbrev cX8_readPlain : ByteArray := prog_10_method_5_code
def yX8_readPlain : MethodName := ⟨RX8, "readPlain", "(LNounFast$Text;LNounFast$City;I)V"⟩
abbrev cX8_sortBehind : ByteArray := prog_10_method_6_code
def yX8_sortBehind : MethodName := ⟨RX8, "sortBehind", "(I)I"⟩
abbrev cX8_add : ByteArray := prog_10_method_7_code
def yX8_add : MethodName := ⟨RX8, "add", "(III)V"⟩
abbrev cX8_thingsIn : ByteArray := prog_10_method_8_code
def yX8_thingsIn : MethodName := ⟨RX8, "thingsIn", "(LNounFast$Scene;)I"⟩
abbrev cX8_thingsOfPart : ByteArray := prog_10_method_9_code
def yX8_thingsOfPart : MethodName := ⟨RX8, "thingsOfPart", "(LNounFast$Scene;I)I"⟩
abbrev cX8_holds : ByteArray := prog_10_method_10_code
def yX8_holds : MethodName := ⟨RX8, "holds", "(LNounFast$Scene;II)Z"⟩
abbrev cX8_isSo : ByteArray := prog_10_method_11_code
def yX8_isSo : MethodName := ⟨RX8, "isSo", "(III)Z"⟩
def RX9 : String := "NounFast$Tape"
def TX9 : u_T := fun k => match k with
  | 0 => ("NounFast$Tape", "bytes", "[B", true)
  | _ => ("NounFast$Tape", "length", "I", false)
def tyX9 : Nat → FieldType := fun k => match k with
  | 0 => .array .byte
  | _ => .int
theorem nmX9 : ∀ a, a < 2 → ∀ b, b < 2 → a ≠ b → (TX9 a).2.1 ≠ (TX9 b).2.1 := by decide +kernel
theorem tyX9_ok : ∀ k, k < 2 → parseFieldDescriptor (TX9 k).2.2.1 = some (tyX9 k) := by decide +kernel
abbrev cX9_init : ByteArray := prog_11_method_1_code
def yX9_init : MethodName := ⟨RX9, "<init>", "()V"⟩
abbrev cX9_append : ByteArray := prog_11_method_2_code
def yX9_append : MethodName := ⟨RX9, "append", "(I)V"⟩
abbrev cX9_at : ByteArray := prog_11_method_3_code
def yX9_at : MethodName := ⟨RX9, "at", "(I)I"⟩
def RX10 : String := "NounFast$Text"
def TX10 : u_T := fun k => match k with
  | 0 => ("NounFast$Text", "tape", "LNounFast$Tape;", true)
  | 1 => ("NounFast$Text", "kinds", "[I", true)
  | 2 => ("NounFast$Text", "starts", "[I", true)
  | 3 => ("NounFast$Text", "values", "[J", true)
  | 4 => ("NounFast$Text", "size", "I", false)
  | 5 => ("NounFast$Text", "index", "I", false)
  | 6 => ("NounFast$Text", "kind", "I", false)
  | 7 => ("NounFast$Text", "start", "I", false)
  | 8 => ("NounFast$Text", "value", "J", false)
  | 9 => ("NounFast$Text", "fault", "I", false)
  | _ => ("NounFast$Text", "faultPlace", "I", false)
def tyX10 : Nat → FieldType := fun k => match k with
  | 0 => .object "NounFast$Tape"
  | 1 => .array .int
  | 2 => .array .int
  | 3 => .array .long
  | 4 => .int
  | 5 => .int
  | 6 => .int
  | 7 => .int
  | 8 => .long
  | 9 => .int
  | _ => .int
theorem nmX10 : ∀ a, a < 11 → ∀ b, b < 11 → a ≠ b → (TX10 a).2.1 ≠ (TX10 b).2.1 := by decide +kernel
theorem tyX10_ok : ∀ k, k < 11 → parseFieldDescriptor (TX10 k).2.2.1 = some (tyX10 k) := by decide +kernel
abbrev cX10_init : ByteArray := prog_12_method_1_code
def yX10_init : MethodName := ⟨RX10, "<init>", "(LNounFast$Tape;)V"⟩
abbrev cX10_open : ByteArray := prog_12_method_2_code
def yX10_open : MethodName := ⟨RX10, "open", "(I)V"⟩
abbrev cX10_behindBlanks : ByteArray := prog_12_method_3_code
def yX10_behindBlanks : MethodName := ⟨RX10, "behindBlanks", "(I)I"⟩
abbrev cX10_readToken : ByteArray := prog_12_method_4_code
def yX10_readToken : MethodName := ⟨RX10, "readToken", "(I)I"⟩
abbrev cX10_readRun : ByteArray := prog_12_method_5_code
def yX10_readRun : MethodName := ⟨RX10, "readRun", "(I)I"⟩
abbrev cX10_wordNumber : ByteArray := prog_12_method_6_code
def yX10_wordNumber : MethodName := ⟨RX10, "wordNumber", "(II)I"⟩
abbrev cX10_wordIn : ByteArray := prog_12_method_7_code
def yX10_wordIn : MethodName := ⟨RX10, "wordIn", "(Ljava/lang/String;II)I"⟩
abbrev cX10_isSpelled : ByteArray := prog_12_method_8_code
def yX10_isSpelled : MethodName := ⟨RX10, "isSpelled", "(Ljava/lang/String;III)Z"⟩
abbrev cX10_isLetter : ByteArray := prog_12_method_9_code
def yX10_isLetter : MethodName := ⟨RX10, "isLetter", "(I)Z"⟩
abbrev cX10_isDigit : ByteArray := prog_12_method_10_code
def yX10_isDigit : MethodName := ⟨RX10, "isDigit", "(I)Z"⟩
abbrev cX10_step : ByteArray := prog_12_method_11_code
def yX10_step : MethodName := ⟨RX10, "step", "()V"⟩
abbrev cX10_fail : ByteArray := prog_12_method_12_code
def yX10_fail : MethodName := ⟨RX10, "fail", "(I)V"⟩
abbrev cX10_isWord : ByteArray := prog_12_method_13_code
def yX10_isWord : MethodName := ⟨RX10, "isWord", "(I)Z"⟩
abbrev cX10_plainWord : ByteArray := prog_12_method_14_code
def yX10_plainWord : MethodName := ⟨RX10, "plainWord", "()I"⟩
abbrev cX10_takeEnd : ByteArray := prog_12_method_15_code
def yX10_takeEnd : MethodName := ⟨RX10, "takeEnd", "()V"⟩
abbrev cX10_takeSign : ByteArray := prog_12_method_16_code
def yX10_takeSign : MethodName := ⟨RX10, "takeSign", "(I)V"⟩
abbrev cX10_takeNumber : ByteArray := prog_12_method_17_code
def yX10_takeNumber : MethodName := ⟨RX10, "takeNumber", "(II)I"⟩
def RX11 : String := "NounFast"
def TX11 : u_T := fun k => match k with
  | 0 => ("NounFast", "tape", "LNounFast$Tape;", true)
  | 1 => ("NounFast", "text", "LNounFast$Text;", true)
  | 2 => ("NounFast", "scene", "LNounFast$Scene;", true)
  | 3 => ("NounFast", "trial", "LNounFast$Scene;", true)
  | 4 => ("NounFast", "history", "LNounFast$History;", true)
  | 5 => ("NounFast", "reader", "LNounFast$Book;", true)
  | 6 => ("NounFast", "calm", "LNounFast$Rest;", true)
  | 7 => ("NounFast", "clue", "LNounFast$Clue;", true)
  | 8 => ("NounFast", "dice", "LNounFast$Dice;", true)
  | 9 => ("NounFast", "imageScenes", "[LNounFast$Scene;", true)
  | 10 => ("NounFast", "imageSentences", "[LNounFast$Sentence;", true)
  | 11 => ("NounFast", "phraseBytes", "[B", true)
  | 12 => ("NounFast", "phraseLength", "I", false)
  | 13 => ("NounFast", "judgement", "LNounFast$Sentence;", false)
  | 14 => ("NounFast", "latestFault", "I", false)
  | 15 => ("NounFast", "latestSaying", "I", false)
  | 16 => ("NounFast", "latestCovering", "I", false)
  | _ => ("NounFast", "latestCanting", "I", false)
def tyX11 : Nat → FieldType := fun k => match k with
  | 0 => .object "NounFast$Tape"
  | 1 => .object "NounFast$Text"
  | 2 => .object "NounFast$Scene"
  | 3 => .object "NounFast$Scene"
  | 4 => .object "NounFast$History"
  | 5 => .object "NounFast$Book"
  | 6 => .object "NounFast$Rest"
  | 7 => .object "NounFast$Clue"
  | 8 => .object "NounFast$Dice"
  | 9 => .array (.object "NounFast$Scene")
  | 10 => .array (.object "NounFast$Sentence")
  | 11 => .array .byte
  | 12 => .int
  | 13 => .object "NounFast$Sentence"
  | 14 => .int
  | 15 => .int
  | 16 => .int
  | _ => .int
theorem nmX11 : ∀ a, a < 18 → ∀ b, b < 18 → a ≠ b → (TX11 a).2.1 ≠ (TX11 b).2.1 := by decide +kernel
theorem tyX11_ok : ∀ k, k < 18 → parseFieldDescriptor (TX11 k).2.2.1 = some (tyX11 k) := by decide +kernel
abbrev cX11_init : ByteArray := prog_1_method_1_code
def yX11_init : MethodName := ⟨RX11, "<init>", "()V"⟩
abbrev cX11_feed : ByteArray := prog_1_method_2_code
def yX11_feed : MethodName := ⟨RX11, "feed", "(IIIII)I"⟩
abbrev cX11_end : ByteArray := prog_1_method_3_code
def yX11_end : MethodName := ⟨RX11, "end", "(I)Z"⟩
abbrev cX11_city : ByteArray := prog_1_method_4_code
def yX11_city : MethodName := ⟨RX11, "city", "()I"⟩
abbrev cX11_fault : ByteArray := prog_1_method_5_code
def yX11_fault : MethodName := ⟨RX11, "fault", "()I"⟩
abbrev cX11_thing : ByteArray := prog_1_method_6_code
def yX11_thing : MethodName := ⟨RX11, "thing", "(II)I"⟩
abbrev cX11_person : ByteArray := prog_1_method_7_code
def yX11_person : MethodName := ⟨RX11, "person", "(II)I"⟩
abbrev cX11_lies : ByteArray := prog_1_method_8_code
def yX11_lies : MethodName := ⟨RX11, "lies", "(I)I"⟩
abbrev cX11_now : ByteArray := prog_1_method_9_code
def yX11_now : MethodName := ⟨RX11, "now", "(I)I"⟩
abbrev cX11_go : ByteArray := prog_1_method_10_code
def yX11_go : MethodName := ⟨RX11, "go", "(II)I"⟩
abbrev cX11_ask : ByteArray := prog_1_method_11_code
def yX11_ask : MethodName := ⟨RX11, "ask", "(III)I"⟩
abbrev cX11_name : ByteArray := prog_1_method_12_code
def yX11_name : MethodName := ⟨RX11, "name", "(II)I"⟩
abbrev cX11_point : ByteArray := prog_1_method_13_code
def yX11_point : MethodName := ⟨RX11, "point", "(II)I"⟩
abbrev cX11_put : ByteArray := prog_1_method_14_code
def yX11_put : MethodName := ⟨RX11, "put", "(II)I"⟩
abbrev cX11_learn : ByteArray := prog_1_method_15_code
def yX11_learn : MethodName := ⟨RX11, "learn", "(II)I"⟩
abbrev cX11_days : ByteArray := prog_1_method_16_code
def yX11_days : MethodName := ⟨RX11, "days", "(I)I"⟩
abbrev cX11_undo : ByteArray := prog_1_method_17_code
def yX11_undo : MethodName := ⟨RX11, "undo", "()I"⟩
abbrev cX11_fits : ByteArray := prog_1_method_18_code
def yX11_fits : MethodName := ⟨RX11, "fits", "(III)I"⟩
abbrev cX11_say : ByteArray := prog_1_method_19_code
def yX11_say : MethodName := ⟨RX11, "say", "(II)I"⟩
abbrev cX11_saying : ByteArray := prog_1_method_20_code
def yX11_saying : MethodName := ⟨RX11, "saying", "()I"⟩
abbrev cX11_twin : ByteArray := prog_1_method_21_code
def yX11_twin : MethodName := ⟨RX11, "twin", "(II)I"⟩
abbrev cX11_slip : ByteArray := prog_1_method_22_code
def yX11_slip : MethodName := ⟨RX11, "slip", "(III)I"⟩
abbrev cX11_cover : ByteArray := prog_1_method_23_code
def yX11_cover : MethodName := ⟨RX11, "cover", "(I)I"⟩
abbrev cX11_covering : ByteArray := prog_1_method_24_code
def yX11_covering : MethodName := ⟨RX11, "covering", "()I"⟩
abbrev cX11_spoken : ByteArray := prog_1_method_25_code
def yX11_spoken : MethodName := ⟨RX11, "spoken", "()I"⟩
abbrev cX11_surely : ByteArray := prog_1_method_26_code
def yX11_surely : MethodName := ⟨RX11, "surely", "()I"⟩
abbrev cX11_show : ByteArray := prog_1_method_27_code
def yX11_show : MethodName := ⟨RX11, "show", "()I"⟩
abbrev cX11_cant : ByteArray := prog_1_method_28_code
def yX11_cant : MethodName := ⟨RX11, "cant", "(IIII)I"⟩
abbrev cX11_canting : ByteArray := prog_1_method_29_code
def yX11_canting : MethodName := ⟨RX11, "canting", "()I"⟩
abbrev cX11_rest : ByteArray := prog_1_method_30_code
def yX11_rest : MethodName := ⟨RX11, "rest", "(I)I"⟩
abbrev cX11_rested : ByteArray := prog_1_method_31_code
def yX11_rested : MethodName := ⟨RX11, "rested", "(I)I"⟩
abbrev cX11_news : ByteArray := prog_1_method_32_code
def yX11_news : MethodName := ⟨RX11, "news", "(I)I"⟩
abbrev cX11_phrase : ByteArray := prog_1_method_33_code
def yX11_phrase : MethodName := ⟨RX11, "phrase", "(I)I"⟩
abbrev cX11_byteAt : ByteArray := prog_1_method_34_code
def yX11_byteAt : MethodName := ⟨RX11, "byteAt", "(I)I"⟩
abbrev cX11_drawn : ByteArray := prog_1_method_35_code
def yX11_drawn : MethodName := ⟨RX11, "drawn", "(II)I"⟩
abbrev cX11_odds : ByteArray := prog_1_method_36_code
def yX11_odds : MethodName := ⟨RX11, "odds", "(III)I"⟩
abbrev cX11_book : ByteArray := prog_1_method_37_code
def yX11_book : MethodName := ⟨RX11, "book", "(I)I"⟩
abbrev cX11_told : ByteArray := prog_1_method_38_code
def yX11_told : MethodName := ⟨RX11, "told", "(I)I"⟩
abbrev cX11_sentence : ByteArray := prog_1_method_39_code
def yX11_sentence : MethodName := ⟨RX11, "sentence", "()I"⟩
abbrev cX11_said : ByteArray := prog_1_method_40_code
def yX11_said : MethodName := ⟨RX11, "said", "(I)I"⟩
abbrev cX11_image : ByteArray := prog_1_method_41_code
def yX11_image : MethodName := ⟨RX11, "image", "(I)Z"⟩
abbrev cX11_restore : ByteArray := prog_1_method_42_code
def yX11_restore : MethodName := ⟨RX11, "restore", "(I)Z"⟩
abbrev cX11_count : ByteArray := prog_1_method_43_code
def yX11_count : MethodName := ⟨RX11, "count", "(I)I"⟩
abbrev cX11_closeText : ByteArray := prog_1_method_44_code
def yX11_closeText : MethodName := ⟨RX11, "closeText", "()V"⟩
abbrev cX11_kept : ByteArray := prog_1_method_45_code
def yX11_kept : MethodName := ⟨RX11, "kept", "(I)I"⟩
abbrev cX11_keptDays : ByteArray := prog_1_method_46_code
def yX11_keptDays : MethodName := ⟨RX11, "keptDays", "(I)I"⟩
abbrev cX11_spellRoundabout : ByteArray := prog_1_method_47_code
def yX11_spellRoundabout : MethodName := ⟨RX11, "spellRoundabout", "(I)V"⟩
abbrev cX11_spellName : ByteArray := prog_1_method_48_code
def yX11_spellName : MethodName := ⟨RX11, "spellName", "(J)V"⟩
abbrev cX11_spellByte : ByteArray := prog_1_method_49_code
def yX11_spellByte : MethodName := ⟨RX11, "spellByte", "(I)V"⟩
abbrev cX11_greatestShared : ByteArray := prog_1_method_50_code
def yX11_greatestShared : MethodName := ⟨RX11, "greatestShared", "(II)I"⟩
abbrev cX11_bitAt : ByteArray := prog_1_method_51_code
def yX11_bitAt : MethodName := ⟨RX11, "bitAt", "(II)I"⟩
abbrev cX11_firstBit : ByteArray := prog_1_method_52_code
def yX11_firstBit : MethodName := ⟨RX11, "firstBit", "(I)I"⟩
def RX12 : String := "NounFastModel"
def TX12 : u_T := fun k => match k with
  | 0 => ("NounFastModel", "thrown", "I", false)
  | 1 => ("NounFastModel", "tape", "[B", true)
  | 2 => ("NounFastModel", "length", "I", false)
  | 3 => ("NounFastModel", "size", "I", false)
  | 4 => ("NounFastModel", "p", "I", false)
  | 5 => ("NounFastModel", "limit", "I", false)
  | 6 => ("NounFastModel", "s", "[I", true)
  | 7 => ("NounFastModel", "h", "[I", true)
  | 8 => ("NounFastModel", "read", "[I", true)
  | 9 => ("NounFastModel", "names", "[J", true)
  | 10 => ("NounFastModel", "reserved", "[J", true)
  | 11 => ("NounFastModel", "token", "I", false)
  | 12 => ("NounFastModel", "at", "I", false)
  | 13 => ("NounFastModel", "span", "I", false)
  | 14 => ("NounFastModel", "number", "I", false)
  | 15 => ("NounFastModel", "fault", "I", false)
  | 16 => ("NounFastModel", "faultAt", "I", false)
  | 17 => ("NounFastModel", "word", "J", false)
  | 18 => ("NounFastModel", "got", "I", false)
  | 19 => ("NounFastModel", "lines", "I", false)
  | 20 => ("NounFastModel", "onces", "I", false)
  | 21 => ("NounFastModel", "undone", "[I", true)
  | 22 => ("NounFastModel", "before", "[I", true)
  | 23 => ("NounFastModel", "undoMany", "I", false)
  | 24 => ("NounFastModel", "sayingSet", "I", false)
  | 25 => ("NounFastModel", "coverSet", "I", false)
  | 26 => ("NounFastModel", "cantSet", "I", false)
  | 27 => ("NounFastModel", "hasSaying", "Z", false)
  | 28 => ("NounFastModel", "hasCover", "Z", false)
  | 29 => ("NounFastModel", "hasCant", "Z", false)
  | 30 => ("NounFastModel", "surelySet", "I", false)
  | 31 => ("NounFastModel", "showThing", "I", false)
  | 32 => ("NounFastModel", "hasSpoken", "Z", false)
  | 33 => ("NounFastModel", "means", "[I", true)
  | 34 => ("NounFastModel", "said0", "[I", true)
  | 35 => ("NounFastModel", "restedRow", "[I", true)
  | 36 => ("NounFastModel", "hasRest", "Z", false)
  | 37 => ("NounFastModel", "text", "[B", true)
  | 38 => ("NounFastModel", "textMany", "I", false)
  | 39 => ("NounFastModel", "seed", "I", false)
  | 40 => ("NounFastModel", "toldMany", "I", false)
  | 41 => ("NounFastModel", "toldAt", "[I", true)
  | 42 => ("NounFastModel", "hasTold", "Z", false)
  | 43 => ("NounFastModel", "stack", "[I", true)
  | 44 => ("NounFastModel", "codes", "I", false)
  | 45 => ("NounFastModel", "ones", "I", false)
  | 46 => ("NounFastModel", "top", "I", false)
  | 47 => ("NounFastModel", "deep", "I", false)
  | 48 => ("NounFastModel", "isWhole", "Z", false)
  | 49 => ("NounFastModel", "truths", "[Z", true)
  | 50 => ("NounFastModel", "imaged", "[I", true)
  | 51 => ("NounFastModel", "namesKept", "[J", true)
  | _ => ("NounFastModel", "areKept", "[Z", true)
def tyX12 : Nat → FieldType := fun k => match k with
  | 0 => .int
  | 1 => .array .byte
  | 2 => .int
  | 3 => .int
  | 4 => .int
  | 5 => .int
  | 6 => .array .int
  | 7 => .array .int
  | 8 => .array .int
  | 9 => .array .long
  | 10 => .array .long
  | 11 => .int
  | 12 => .int
  | 13 => .int
  | 14 => .int
  | 15 => .int
  | 16 => .int
  | 17 => .long
  | 18 => .int
  | 19 => .int
  | 20 => .int
  | 21 => .array .int
  | 22 => .array .int
  | 23 => .int
  | 24 => .int
  | 25 => .int
  | 26 => .int
  | 27 => .boolean
  | 28 => .boolean
  | 29 => .boolean
  | 30 => .int
  | 31 => .int
  | 32 => .boolean
  | 33 => .array .int
  | 34 => .array .int
  | 35 => .array .int
  | 36 => .boolean
  | 37 => .array .byte
  | 38 => .int
  | 39 => .int
  | 40 => .int
  | 41 => .array .int
  | 42 => .boolean
  | 43 => .array .int
  | 44 => .int
  | 45 => .int
  | 46 => .int
  | 47 => .int
  | 48 => .boolean
  | 49 => .array .boolean
  | 50 => .array .int
  | 51 => .array .long
  | _ => .array .boolean
theorem nmX12 : ∀ a, a < 53 → ∀ b, b < 53 → a ≠ b → (TX12 a).2.1 ≠ (TX12 b).2.1 := by decide +kernel
theorem tyX12_ok : ∀ k, k < 53 → parseFieldDescriptor (TX12 k).2.2.1 = some (tyX12 k) := by decide +kernel
abbrev cX12_thrown : ByteArray := prog_14_method_1_code
def yX12_thrown : MethodName := ⟨RX12, "thrown", "()I"⟩
abbrev cX12_throwsIf : ByteArray := prog_14_method_2_code
def yX12_throwsIf : MethodName := ⟨RX12, "throwsIf", "(Z)Z"⟩
abbrev cX12_feed : ByteArray := prog_14_method_3_code
def yX12_feed : MethodName := ⟨RX12, "feed", "(IIIII)I"⟩
abbrev cX12_four : ByteArray := prog_14_method_4_code
def yX12_four : MethodName := ⟨RX12, "four", "(I)V"⟩
abbrev cX12_end : ByteArray := prog_14_method_5_code
def yX12_end : MethodName := ⟨RX12, "end", "(I)Z"⟩
abbrev cX12_taken : ByteArray := prog_14_method_6_code
def yX12_taken : MethodName := ⟨RX12, "taken", "(I)V"⟩
abbrev cX12_isIn : ByteArray := prog_14_method_7_code
def yX12_isIn : MethodName := ⟨RX12, "isIn", "(III)Z"⟩
abbrev cX12_bitOf : ByteArray := prog_14_method_8_code
def yX12_bitOf : MethodName := ⟨RX12, "bitOf", "(II)Z"⟩
abbrev cX12_lesser : ByteArray := prog_14_method_9_code
def yX12_lesser : MethodName := ⟨RX12, "lesser", "(II)I"⟩
abbrev cX12_greater : ByteArray := prog_14_method_10_code
def yX12_greater : MethodName := ⟨RX12, "greater", "(II)I"⟩
abbrev cX12_bits : ByteArray := prog_14_method_11_code
def yX12_bits : MethodName := ⟨RX12, "bits", "(I)I"⟩
abbrev cX12_firstOf : ByteArray := prog_14_method_12_code
def yX12_firstOf : MethodName := ⟨RX12, "firstOf", "(I)I"⟩
abbrev cX12_octet : ByteArray := prog_14_method_13_code
def yX12_octet : MethodName := ⟨RX12, "octet", "(I)I"⟩
abbrev cX12_init : ByteArray := prog_14_method_14_code
def yX12_init : MethodName := ⟨RX12, "<init>", "()V"⟩
abbrev cX12_clears : ByteArray := prog_14_method_15_code
def yX12_clears : MethodName := ⟨RX12, "clears", "()V"⟩
abbrev cX12_peek : ByteArray := prog_14_method_16_code
def yX12_peek : MethodName := ⟨RX12, "peek", "()I"⟩
abbrev cX12_isSmall : ByteArray := prog_14_method_17_code
def yX12_isSmall : MethodName := ⟨RX12, "isSmall", "(I)Z"⟩
abbrev cX12_isDigit : ByteArray := prog_14_method_18_code
def yX12_isDigit : MethodName := ⟨RX12, "isDigit", "(I)Z"⟩
abbrev cX12_next : ByteArray := prog_14_method_19_code
def yX12_next : MethodName := ⟨RX12, "next", "()V"⟩
abbrev cX12_bad : ByteArray := prog_14_method_20_code
def yX12_bad : MethodName := ⟨RX12, "bad", "(I)Z"⟩
abbrev cX12_isWord : ByteArray := prog_14_method_21_code
def yX12_isWord : MethodName := ⟨RX12, "isWord", "(J)Z"⟩
abbrev cX12_isSign : ByteArray := prog_14_method_22_code
def yX12_isSign : MethodName := ⟨RX12, "isSign", "(I)Z"⟩
abbrev cX12_sign : ByteArray := prog_14_method_23_code
def yX12_sign : MethodName := ⟨RX12, "sign", "(I)Z"⟩
abbrev cX12_isName : ByteArray := prog_14_method_24_code
def yX12_isName : MethodName := ⟨RX12, "isName", "()Z"⟩
abbrev cX12_takes : ByteArray := prog_14_method_25_code
def yX12_takes : MethodName := ⟨RX12, "takes", "(II)Z"⟩
abbrev cX12_puts : ByteArray := prog_14_method_26_code
def yX12_puts : MethodName := ⟨RX12, "puts", "(III)Z"⟩
abbrev cX12_find : ByteArray := prog_14_method_27_code
def yX12_find : MethodName := ⟨RX12, "find", "(II)I"⟩
abbrev cX12_fresh : ByteArray := prog_14_method_28_code
def yX12_fresh : MethodName := ⟨RX12, "fresh", "(I)Z"⟩
abbrev cX12_looksAt : ByteArray := prog_14_method_29_code
def yX12_looksAt : MethodName := ⟨RX12, "looksAt", "(II)Z"⟩
abbrev cX12_takesName : ByteArray := prog_14_method_30_code
def yX12_takesName : MethodName := ⟨RX12, "takesName", "(II)Z"⟩
abbrev cX12_once : ByteArray := prog_14_method_31_code
def yX12_once : MethodName := ⟨RX12, "once", "(IIII)Z"⟩
abbrev cX12_line : ByteArray := prog_14_method_32_code
def yX12_line : MethodName := ⟨RX12, "line", "()Z"⟩
abbrev cX12_readNew : ByteArray := prog_14_method_33_code
def yX12_readNew : MethodName := ⟨RX12, "readNew", "(III)Z"⟩
abbrev cX12_readThing : ByteArray := prog_14_method_34_code
def yX12_readThing : MethodName := ⟨RX12, "readThing", "()Z"⟩
abbrev cX12_readPerson : ByteArray := prog_14_method_35_code
def yX12_readPerson : MethodName := ⟨RX12, "readPerson", "()Z"⟩
abbrev cX12_readTie : ByteArray := prog_14_method_36_code
def yX12_readTie : MethodName := ⟨RX12, "readTie", "(III)Z"⟩
abbrev cX12_city : ByteArray := prog_14_method_37_code
def yX12_city : MethodName := ⟨RX12, "city", "()I"⟩
abbrev cX12_fault : ByteArray := prog_14_method_38_code
def yX12_fault : MethodName := ⟨RX12, "fault", "()I"⟩
abbrev cX12_isThing : ByteArray := prog_14_method_39_code
def yX12_isThing : MethodName := ⟨RX12, "isThing", "(I)Z"⟩
abbrev cX12_isPerson : ByteArray := prog_14_method_40_code
def yX12_isPerson : MethodName := ⟨RX12, "isPerson", "(I)Z"⟩
abbrev cX12_isPlace : ByteArray := prog_14_method_41_code
def yX12_isPlace : MethodName := ⟨RX12, "isPlace", "(I)Z"⟩
abbrev cX12_isSaying : ByteArray := prog_14_method_42_code
def yX12_isSaying : MethodName := ⟨RX12, "isSaying", "(I)Z"⟩
abbrev cX12_isCarried : ByteArray := prog_14_method_43_code
def yX12_isCarried : MethodName := ⟨RX12, "isCarried", "(I)Z"⟩
abbrev cX12_placeOf : ByteArray := prog_14_method_44_code
def yX12_placeOf : MethodName := ⟨RX12, "placeOf", "(I)I"⟩
abbrev cX12_lyingAt : ByteArray := prog_14_method_45_code
def yX12_lyingAt : MethodName := ⟨RX12, "lyingAt", "(I)I"⟩
abbrev cX12_hasAll : ByteArray := prog_14_method_46_code
def yX12_hasAll : MethodName := ⟨RX12, "hasAll", "(II)Z"⟩
abbrev cX12_fitting : ByteArray := prog_14_method_47_code
def yX12_fitting : MethodName := ⟨RX12, "fitting", "(II)I"⟩
abbrev cX12_carriedBy : ByteArray := prog_14_method_48_code
def yX12_carriedBy : MethodName := ⟨RX12, "carriedBy", "(I)I"⟩
abbrev cX12_isFast : ByteArray := prog_14_method_49_code
def yX12_isFast : MethodName := ⟨RX12, "isFast", "()Z"⟩
abbrev cX12_carriedSet : ByteArray := prog_14_method_50_code
def yX12_carriedSet : MethodName := ⟨RX12, "carriedSet", "()I"⟩
abbrev cX12_thing : ByteArray := prog_14_method_51_code
def yX12_thing : MethodName := ⟨RX12, "thing", "(II)I"⟩
abbrev cX12_person : ByteArray := prog_14_method_52_code
def yX12_person : MethodName := ⟨RX12, "person", "(II)I"⟩
abbrev cX12_lies : ByteArray := prog_14_method_53_code
def yX12_lies : MethodName := ⟨RX12, "lies", "(I)I"⟩
abbrev cX12_now : ByteArray := prog_14_method_54_code
def yX12_now : MethodName := ⟨RX12, "now", "(I)I"⟩
abbrev cX12_areApart : ByteArray := prog_14_method_55_code
def yX12_areApart : MethodName := ⟨RX12, "areApart", "(II)Z"⟩
abbrev cX12_whyAsk : ByteArray := prog_14_method_56_code
def yX12_whyAsk : MethodName := ⟨RX12, "whyAsk", "(III)I"⟩
abbrev cX12_asks : ByteArray := prog_14_method_57_code
def yX12_asks : MethodName := ⟨RX12, "asks", "(III)V"⟩
abbrev cX12_isNear : ByteArray := prog_14_method_58_code
def yX12_isNear : MethodName := ⟨RX12, "isNear", "(II)Z"⟩
abbrev cX12_isFined : ByteArray := prog_14_method_59_code
def yX12_isFined : MethodName := ⟨RX12, "isFined", "(I)Z"⟩
abbrev cX12_whyName : ByteArray := prog_14_method_60_code
def yX12_whyName : MethodName := ⟨RX12, "whyName", "(II)I"⟩
abbrev cX12_namesOne : ByteArray := prog_14_method_61_code
def yX12_namesOne : MethodName := ⟨RX12, "namesOne", "(II)V"⟩
abbrev cX12_whyPoint : ByteArray := prog_14_method_62_code
def yX12_whyPoint : MethodName := ⟨RX12, "whyPoint", "(II)I"⟩
abbrev cX12_pointsAt : ByteArray := prog_14_method_63_code
def yX12_pointsAt : MethodName := ⟨RX12, "pointsAt", "(II)V"⟩
abbrev cX12_putsDown : ByteArray := prog_14_method_64_code
def yX12_putsDown : MethodName := ⟨RX12, "putsDown", "(II)V"⟩
abbrev cX12_whyLearn : ByteArray := prog_14_method_65_code
def yX12_whyLearn : MethodName := ⟨RX12, "whyLearn", "(II)I"⟩
abbrev cX12_learnsOne : ByteArray := prog_14_method_66_code
def yX12_learnsOne : MethodName := ⟨RX12, "learnsOne", "(II)V"⟩
abbrev cX12_day : ByteArray := prog_14_method_67_code
def yX12_day : MethodName := ⟨RX12, "day", "()V"⟩
abbrev cX12_goesOn : ByteArray := prog_14_method_68_code
def yX12_goesOn : MethodName := ⟨RX12, "goesOn", "(I)I"⟩
abbrev cX12_go : ByteArray := prog_14_method_69_code
def yX12_go : MethodName := ⟨RX12, "go", "(II)I"⟩
abbrev cX12_ask : ByteArray := prog_14_method_70_code
def yX12_ask : MethodName := ⟨RX12, "ask", "(III)I"⟩
abbrev cX12_name : ByteArray := prog_14_method_71_code
def yX12_name : MethodName := ⟨RX12, "name", "(II)I"⟩
abbrev cX12_point : ByteArray := prog_14_method_72_code
def yX12_point : MethodName := ⟨RX12, "point", "(II)I"⟩
abbrev cX12_put : ByteArray := prog_14_method_73_code
def yX12_put : MethodName := ⟨RX12, "put", "(II)I"⟩
abbrev cX12_learn : ByteArray := prog_14_method_74_code
def yX12_learn : MethodName := ⟨RX12, "learn", "(II)I"⟩
abbrev cX12_days : ByteArray := prog_14_method_75_code
def yX12_days : MethodName := ⟨RX12, "days", "(I)I"⟩
abbrev cX12_keep : ByteArray := prog_14_method_76_code
def yX12_keep : MethodName := ⟨RX12, "keep", "()V"⟩
abbrev cX12_undo : ByteArray := prog_14_method_77_code
def yX12_undo : MethodName := ⟨RX12, "undo", "()I"⟩
abbrev cX12_tries : ByteArray := prog_14_method_78_code
def yX12_tries : MethodName := ⟨RX12, "tries", "()V"⟩
abbrev cX12_back : ByteArray := prog_14_method_79_code
def yX12_back : MethodName := ⟨RX12, "back", "()V"⟩
abbrev cX12_fits : ByteArray := prog_14_method_80_code
def yX12_fits : MethodName := ⟨RX12, "fits", "(III)I"⟩
abbrev cX12_say : ByteArray := prog_14_method_81_code
def yX12_say : MethodName := ⟨RX12, "say", "(II)I"⟩
abbrev cX12_saying : ByteArray := prog_14_method_82_code
def yX12_saying : MethodName := ⟨RX12, "saying", "()I"⟩
abbrev cX12_twinsOf : ByteArray := prog_14_method_83_code
def yX12_twinsOf : MethodName := ⟨RX12, "twinsOf", "(II)I"⟩
abbrev cX12_twin : ByteArray := prog_14_method_84_code
def yX12_twin : MethodName := ⟨RX12, "twin", "(II)I"⟩
abbrev cX12_slip : ByteArray := prog_14_method_85_code
def yX12_slip : MethodName := ⟨RX12, "slip", "(III)I"⟩
abbrev cX12_isCover : ByteArray := prog_14_method_86_code
def yX12_isCover : MethodName := ⟨RX12, "isCover", "(II)Z"⟩
abbrev cX12_cover : ByteArray := prog_14_method_87_code
def yX12_cover : MethodName := ⟨RX12, "cover", "(I)I"⟩
abbrev cX12_covering : ByteArray := prog_14_method_88_code
def yX12_covering : MethodName := ⟨RX12, "covering", "()I"⟩
abbrev cX12_isFit : ByteArray := prog_14_method_89_code
def yX12_isFit : MethodName := ⟨RX12, "isFit", "(II)Z"⟩
abbrev cX12_isSpoken : ByteArray := prog_14_method_90_code
def yX12_isSpoken : MethodName := ⟨RX12, "isSpoken", "(I)Z"⟩
abbrev cX12_spoken : ByteArray := prog_14_method_91_code
def yX12_spoken : MethodName := ⟨RX12, "spoken", "()I"⟩
abbrev cX12_surely : ByteArray := prog_14_method_92_code
def yX12_surely : MethodName := ⟨RX12, "surely", "()I"⟩
abbrev cX12_show : ByteArray := prog_14_method_93_code
def yX12_show : MethodName := ⟨RX12, "show", "()I"⟩
abbrev cX12_cant : ByteArray := prog_14_method_94_code
def yX12_cant : MethodName := ⟨RX12, "cant", "(IIII)I"⟩
abbrev cX12_canting : ByteArray := prog_14_method_95_code
def yX12_canting : MethodName := ⟨RX12, "canting", "()I"⟩
abbrev cX12_saysAnew : ByteArray := prog_14_method_96_code
def yX12_saysAnew : MethodName := ⟨RX12, "saysAnew", "(I)Z"⟩
abbrev cX12_meantBy : ByteArray := prog_14_method_97_code
def yX12_meantBy : MethodName := ⟨RX12, "meantBy", "(II)I"⟩
abbrev cX12_meansAnew : ByteArray := prog_14_method_98_code
def yX12_meansAnew : MethodName := ⟨RX12, "meansAnew", "(I)Z"⟩
abbrev cX12_rest : ByteArray := prog_14_method_99_code
def yX12_rest : MethodName := ⟨RX12, "rest", "(I)I"⟩
abbrev cX12_rested : ByteArray := prog_14_method_100_code
def yX12_rested : MethodName := ⟨RX12, "rested", "(I)I"⟩
abbrev cX12_news : ByteArray := prog_14_method_101_code
def yX12_news : MethodName := ⟨RX12, "news", "(I)I"⟩
abbrev cX12_lays : ByteArray := prog_14_method_102_code
def yX12_lays : MethodName := ⟨RX12, "lays", "(I)V"⟩
abbrev cX12_spells : ByteArray := prog_14_method_103_code
def yX12_spells : MethodName := ⟨RX12, "spells", "(J)V"⟩
abbrev cX12_says : ByteArray := prog_14_method_104_code
def yX12_says : MethodName := ⟨RX12, "says", "(J)V"⟩
abbrev cX12_phrase : ByteArray := prog_14_method_105_code
def yX12_phrase : MethodName := ⟨RX12, "phrase", "(I)I"⟩
abbrev cX12_byteAt : ByteArray := prog_14_method_106_code
def yX12_byteAt : MethodName := ⟨RX12, "byteAt", "(I)I"⟩
abbrev cX12_draw : ByteArray := prog_14_method_107_code
def yX12_draw : MethodName := ⟨RX12, "draw", "(I)I"⟩
abbrev cX12_drawPerson : ByteArray := prog_14_method_108_code
def yX12_drawPerson : MethodName := ⟨RX12, "drawPerson", "(I)V"⟩
abbrev cX12_draws : ByteArray := prog_14_method_109_code
def yX12_draws : MethodName := ⟨RX12, "draws", "(II)I"⟩
abbrev cX12_drawn : ByteArray := prog_14_method_110_code
def yX12_drawn : MethodName := ⟨RX12, "drawn", "(II)I"⟩
abbrev cX12_odds : ByteArray := prog_14_method_111_code
def yX12_odds : MethodName := ⟨RX12, "odds", "(III)I"⟩
abbrev cX12_bookLine : ByteArray := prog_14_method_112_code
def yX12_bookLine : MethodName := ⟨RX12, "bookLine", "()Z"⟩
abbrev cX12_takesMarks : ByteArray := prog_14_method_113_code
def yX12_takesMarks : MethodName := ⟨RX12, "takesMarks", "(I)Z"⟩
abbrev cX12_does : ByteArray := prog_14_method_114_code
def yX12_does : MethodName := ⟨RX12, "does", "(IIII)I"⟩
abbrev cX12_book : ByteArray := prog_14_method_115_code
def yX12_book : MethodName := ⟨RX12, "book", "(I)I"⟩
abbrev cX12_told : ByteArray := prog_14_method_116_code
def yX12_told : MethodName := ⟨RX12, "told", "(I)I"⟩
abbrev cX12_code : ByteArray := prog_14_method_117_code
def yX12_code : MethodName := ⟨RX12, "code", "(III)V"⟩
abbrev cX12_joins : ByteArray := prog_14_method_118_code
def yX12_joins : MethodName := ⟨RX12, "joins", "(I)V"⟩
abbrev cX12_nots : ByteArray := prog_14_method_119_code
def yX12_nots : MethodName := ⟨RX12, "nots", "()V"⟩
abbrev cX12_leafOf : ByteArray := prog_14_method_120_code
def yX12_leafOf : MethodName := ⟨RX12, "leafOf", "()I"⟩
abbrev cX12_operand : ByteArray := prog_14_method_121_code
def yX12_operand : MethodName := ⟨RX12, "operand", "()Z"⟩
abbrev cX12_behind : ByteArray := prog_14_method_122_code
def yX12_behind : MethodName := ⟨RX12, "behind", "()Z"⟩
abbrev cX12_sentence : ByteArray := prog_14_method_123_code
def yX12_sentence : MethodName := ⟨RX12, "sentence", "()I"⟩
abbrev cX12_isLeaf : ByteArray := prog_14_method_124_code
def yX12_isLeaf : MethodName := ⟨RX12, "isLeaf", "(IIII)Z"⟩
abbrev cX12_isSaid : ByteArray := prog_14_method_125_code
def yX12_isSaid : MethodName := ⟨RX12, "isSaid", "(I)Z"⟩
abbrev cX12_said : ByteArray := prog_14_method_126_code
def yX12_said : MethodName := ⟨RX12, "said", "(I)I"⟩
abbrev cX12_image : ByteArray := prog_14_method_127_code
def yX12_image : MethodName := ⟨RX12, "image", "(I)Z"⟩
abbrev cX12_restore : ByteArray := prog_14_method_128_code
def yX12_restore : MethodName := ⟨RX12, "restore", "(I)Z"⟩
abbrev cX12_count : ByteArray := prog_14_method_129_code
def yX12_count : MethodName := ⟨RX12, "count", "(I)I"⟩
def RJx145de : String := "java/io/Serializable"
def TJx145de : u_T := fun k => match k with
  | _ => ("", "", "", false)
def tyJx145de : Nat → FieldType := fun k => match k with
  | _ => .int
theorem nmJx145de : ∀ a, a < 0 → ∀ b, b < 0 → a ≠ b → (TJx145de a).2.1 ≠ (TJx145de b).2.1 := by decide +kernel
theorem tyJx145de_ok : ∀ k, k < 0 → parseFieldDescriptor (TJx145de k).2.2.1 = some (tyJx145de k) := by decide +kernel
def RJx9f9b0 : String := "java/lang/CharSequence"
def TJx9f9b0 : u_T := fun k => match k with
  | _ => ("", "", "", false)
def tyJx9f9b0 : Nat → FieldType := fun k => match k with
  | _ => .int
theorem nmJx9f9b0 : ∀ a, a < 0 → ∀ b, b < 0 → a ≠ b → (TJx9f9b0 a).2.1 ≠ (TJx9f9b0 b).2.1 := by decide +kernel
theorem tyJx9f9b0_ok : ∀ k, k < 0 → parseFieldDescriptor (TJx9f9b0 k).2.2.1 = some (tyJx9f9b0 k) := by decide +kernel
def RJxb160c : String := "java/lang/Comparable"
def TJxb160c : u_T := fun k => match k with
  | _ => ("", "", "", false)
def tyJxb160c : Nat → FieldType := fun k => match k with
  | _ => .int
theorem nmJxb160c : ∀ a, a < 0 → ∀ b, b < 0 → a ≠ b → (TJxb160c a).2.1 ≠ (TJxb160c b).2.1 := by decide +kernel
theorem tyJxb160c_ok : ∀ k, k < 0 → parseFieldDescriptor (TJxb160c k).2.2.1 = some (tyJxb160c k) := by decide +kernel
def RJ6 : String := "java/lang/Integer"
def TJ6 : u_T := fun k => match k with
  | _ => ("", "", "", false)
def tyJ6 : Nat → FieldType := fun k => match k with
  | _ => .int
theorem nmJ6 : ∀ a, a < 0 → ∀ b, b < 0 → a ≠ b → (TJ6 a).2.1 ≠ (TJ6 b).2.1 := by decide +kernel
theorem tyJ6_ok : ∀ k, k < 0 → parseFieldDescriptor (TJ6 k).2.2.1 = some (tyJ6 k) := by decide +kernel
abbrev cJ6_lowestOneBit_0f7a4 : ByteArray := prog_19_method_46_code
def yJ6_lowestOneBit_0f7a4 : MethodName := ⟨RJ6, "lowestOneBit", "(I)I"⟩
abbrev cJ6_numberOfTrailingZeros_0f7a4 : ByteArray := prog_19_method_48_code
def yJ6_numberOfTrailingZeros_0f7a4 : MethodName := ⟨RJ6, "numberOfTrailingZeros", "(I)I"⟩
abbrev cJ6_bitCount_0f7a4 : ByteArray := prog_19_method_49_code
def yJ6_bitCount_0f7a4 : MethodName := ⟨RJ6, "bitCount", "(I)I"⟩
def RJ9 : String := "java/lang/Math"
def TJ9 : u_T := fun k => match k with
  | _ => ("", "", "", false)
def tyJ9 : Nat → FieldType := fun k => match k with
  | _ => .int
theorem nmJ9 : ∀ a, a < 0 → ∀ b, b < 0 → a ≠ b → (TJ9 a).2.1 ≠ (TJ9 b).2.1 := by decide +kernel
theorem tyJ9_ok : ∀ k, k < 0 → parseFieldDescriptor (TJ9 k).2.2.1 = some (tyJ9 k) := by decide +kernel
abbrev cJ9_floorMod_7cf53 : ByteArray := prog_20_method_50_code
def yJ9_floorMod_7cf53 : MethodName := ⟨RJ9, "floorMod", "(II)I"⟩
abbrev cJ9_max_7cf53 : ByteArray := prog_20_method_65_code
def yJ9_max_7cf53 : MethodName := ⟨RJ9, "max", "(II)I"⟩
abbrev cJ9_min_7cf53 : ByteArray := prog_20_method_69_code
def yJ9_min_7cf53 : MethodName := ⟨RJ9, "min", "(II)I"⟩
def RJ0 : String := "java/lang/String"
def TJ0 : u_T := fun k => match k with
  | _ => ("", "", "", false)
def tyJ0 : Nat → FieldType := fun k => match k with
  | _ => .int
theorem nmJ0 : ∀ a, a < 0 → ∀ b, b < 0 → a ≠ b → (TJ0 a).2.1 ≠ (TJ0 b).2.1 := by decide +kernel
theorem tyJ0_ok : ∀ k, k < 0 → parseFieldDescriptor (TJ0 k).2.2.1 = some (tyJ0 k) := by decide +kernel
abbrev cJ0_length_8abf5 : ByteArray := prog_22_method_54_code
def yJ0_length_8abf5 : MethodName := ⟨RJ0, "length", "()I"⟩
abbrev cJ0_charAt_5068e : ByteArray := prog_22_method_56_code
def yJ0_charAt_5068e : MethodName := ⟨RJ0, "charAt", "(I)C"⟩
abbrev cJ0_coder_7d493 : ByteArray := prog_22_method_152_code
def yJ0_coder_7d493 : MethodName := ⟨RJ0, "coder", "()B"⟩
abbrev cJ0_isLatin1_aae02 : ByteArray := prog_22_method_154_code
def yJ0_isLatin1_aae02 : MethodName := ⟨RJ0, "isLatin1", "()Z"⟩
abbrev cJ0_checkIndex_df160 : ByteArray := prog_22_method_155_code
def yJ0_checkIndex_df160 : MethodName := ⟨RJ0, "checkIndex", "(II)V"⟩
def RJ1 : String := "java/lang/StringLatin1"
def TJ1 : u_T := fun k => match k with
  | _ => ("", "", "", false)
def tyJ1 : Nat → FieldType := fun k => match k with
  | _ => .int
theorem nmJ1 : ∀ a, a < 0 → ∀ b, b < 0 → a ≠ b → (TJ1 a).2.1 ≠ (TJ1 b).2.1 := by decide +kernel
theorem tyJ1_ok : ∀ k, k < 0 → parseFieldDescriptor (TJ1 k).2.2.1 = some (tyJ1 k) := by decide +kernel
abbrev cJ1_charAt_3b067 : ByteArray := prog_23_method_2_code
def yJ1_charAt_3b067 : MethodName := ⟨RJ1, "charAt", "([BI)C"⟩
def RJ2 : String := "java/lang/StringUTF16"
def TJ2 : u_T := fun k => match k with
  | _ => ("", "", "", false)
def tyJ2 : Nat → FieldType := fun k => match k with
  | _ => .int
theorem nmJ2 : ∀ a, a < 0 → ∀ b, b < 0 → a ≠ b → (TJ2 a).2.1 ≠ (TJ2 b).2.1 := by decide +kernel
theorem tyJ2_ok : ∀ k, k < 0 → parseFieldDescriptor (TJ2 k).2.2.1 = some (tyJ2 k) := by decide +kernel
abbrev cJ2_getChar_3b067 : ByteArray := prog_24_method_5_code
def yJ2_getChar_3b067 : MethodName := ⟨RJ2, "getChar", "([BI)C"⟩
abbrev cJ2_length_9d52b : ByteArray := prog_24_method_6_code
def yJ2_length_9d52b : MethodName := ⟨RJ2, "length", "([B)I"⟩
abbrev cJ2_charAt_3b067 : ByteArray := prog_24_method_83_code
def yJ2_charAt_3b067 : MethodName := ⟨RJ2, "charAt", "([BI)C"⟩
abbrev cJ2_checkIndex_2214a : ByteArray := prog_24_method_91_code
def yJ2_checkIndex_2214a : MethodName := ⟨RJ2, "checkIndex", "(I[B)V"⟩
def RJ10 : String := "java/lang/System"
def TJ10 : u_T := fun k => match k with
  | _ => ("", "", "", false)
def tyJ10 : Nat → FieldType := fun k => match k with
  | _ => .int
theorem nmJ10 : ∀ a, a < 0 → ∀ b, b < 0 → a ≠ b → (TJ10 a).2.1 ≠ (TJ10 b).2.1 := by decide +kernel
theorem tyJ10_ok : ∀ k, k < 0 → parseFieldDescriptor (TJ10 k).2.2.1 = some (tyJ10 k) := by decide +kernel
def RJxfd54e : String := "java/lang/constant/Constable"
def TJxfd54e : u_T := fun k => match k with
  | _ => ("", "", "", false)
def tyJxfd54e : Nat → FieldType := fun k => match k with
  | _ => .int
theorem nmJxfd54e : ∀ a, a < 0 → ∀ b, b < 0 → a ≠ b → (TJxfd54e a).2.1 ≠ (TJxfd54e b).2.1 := by decide +kernel
theorem tyJxfd54e_ok : ∀ k, k < 0 → parseFieldDescriptor (TJxfd54e k).2.2.1 = some (tyJxfd54e k) := by decide +kernel
def RJx3cf43 : String := "java/lang/constant/ConstantDesc"
def TJx3cf43 : u_T := fun k => match k with
  | _ => ("", "", "", false)
def tyJx3cf43 : Nat → FieldType := fun k => match k with
  | _ => .int
theorem nmJx3cf43 : ∀ a, a < 0 → ∀ b, b < 0 → a ≠ b → (TJx3cf43 a).2.1 ≠ (TJx3cf43 b).2.1 := by decide +kernel
theorem tyJx3cf43_ok : ∀ k, k < 0 → parseFieldDescriptor (TJx3cf43 k).2.2.1 = some (tyJx3cf43 k) := by decide +kernel
def RJ3 : String := "jdk/internal/util/Preconditions"
def TJ3 : u_T := fun k => match k with
  | _ => ("", "", "", false)
def tyJ3 : Nat → FieldType := fun k => match k with
  | _ => .int
theorem nmJ3 : ∀ a, a < 0 → ∀ b, b < 0 → a ≠ b → (TJ3 a).2.1 ≠ (TJ3 b).2.1 := by decide +kernel
theorem tyJ3_ok : ∀ k, k < 0 → parseFieldDescriptor (TJ3 k).2.2.1 = some (tyJ3 k) := by decide +kernel
abbrev cJ3_checkIndex_8e157 : ByteArray := prog_30_method_11_code
def yJ3_checkIndex_8e157 : MethodName := ⟨RJ3, "checkIndex", "(IILjava/util/function/BiFunction;)I"⟩
def RL : String := "NounFastLaw"
abbrev cL_thing : ByteArray := method_3_code
def yL_thing : MethodName := ⟨RL, "thing", "(LNounFast;II[J)I"⟩
abbrev cL_person : ByteArray := method_4_code
def yL_person : MethodName := ⟨RL, "person", "(LNounFast;II[J)I"⟩
abbrev cL_slip : ByteArray := method_5_code
def yL_slip : MethodName := ⟨RL, "slip", "(LNounFast;III[J)I"⟩
abbrev cL_law : ByteArray := code
def yL_law : MethodName := ⟨RL, "law", "([I)Z"⟩
abbrev vwCl : List vw_C := [(RX0, TX0, 6), (RX1, TX1, 9), (RX2, TX2, 3), (RX3, TX3, 1), (RX4, TX4, 3), (RX6, TX6, 2), (RX7, TX7, 10), (RX8, TX8, 6), (RX9, TX9, 2), (RX10, TX10, 11), (RX11, TX11, 18), (RX12, TX12, 53)]
theorem inX0 : ∀ w ∈ u_ws RX0 TX0 6, w ∈ lw_tbl := by decide +kernel
theorem inX1 : ∀ w ∈ u_ws RX1 TX1 9, w ∈ lw_tbl := by decide +kernel
theorem inX2 : ∀ w ∈ u_ws RX2 TX2 3, w ∈ lw_tbl := by decide +kernel
theorem inX3 : ∀ w ∈ u_ws RX3 TX3 1, w ∈ lw_tbl := by decide +kernel
theorem inX4 : ∀ w ∈ u_ws RX4 TX4 3, w ∈ lw_tbl := by decide +kernel
theorem inX6 : ∀ w ∈ u_ws RX6 TX6 2, w ∈ lw_tbl := by decide +kernel
theorem inX7 : ∀ w ∈ u_ws RX7 TX7 10, w ∈ lw_tbl := by decide +kernel
theorem inX8 : ∀ w ∈ u_ws RX8 TX8 6, w ∈ lw_tbl := by decide +kernel
theorem inX9 : ∀ w ∈ u_ws RX9 TX9 2, w ∈ lw_tbl := by decide +kernel
theorem inX10 : ∀ w ∈ u_ws RX10 TX10 11, w ∈ lw_tbl := by decide +kernel
theorem inX11 : ∀ w ∈ u_ws RX11 TX11 18, w ∈ lw_tbl := by decide +kernel
theorem inX12 : ∀ w ∈ u_ws RX12 TX12 53, w ∈ lw_tbl := by decide +kernel
end
section
/-! the law's instructions, decoded -/
/-- pc, sort of step, instruction, its length -/
abbrev INS : Type := Nat × Nat × Instr × Nat
def d_chkL (cc : ByteArray) (x : List INS) : Bool := x.all (fun q => match decode cc q.1 with | .ok r => decide (r = (q.2.2.1, q.2.2.2)) | .error _ => false)
theorem d_app {cc : ByteArray} {x y : List INS} (h1 : d_chkL cc x = true) (h2 : d_chkL cc y = true) : d_chkL cc (x ++ y) = true := by
  unfold d_chkL at h1 h2 ⊢
  rw [List.all_append, h1, h2]; rfl

def tc_L_law_0 : List INS := [(0, 2, .new 8, 3), (3, 0, .dup, 1), (4, 4, .invokespecial 22, 3), (7, 0, .astore_n 1, 1), (8, 2, .new 23, 3), (11, 0, .dup, 1), (12, 4, .invokespecial 25, 3), (15, 0, .astore_n 2, 1), (16, 0, .iconst 1, 1), (17, 2, .newarray .long, 2), (19, 0, .astore_n 3, 1), (20, 0, .iconst 0, 1), (21, 0, .istore 4, 2), (23, 0, .iload 4, 2), (25, 0, .aload_n 0, 1), (26, 2, .arraylength, 1), (27, 0, .bipush 6, 2), (29, 0, .isub, 1), (30, 1, .if_icmp .gt 1523, 3), (33, 0, .aload_n 0, 1), (34, 0, .iload 4, 2), (36, 3, .iaload, 1), (37, 0, .bipush 63, 2), (39, 0, .iand, 1), (40, 1, .tableswitch 1507 0 41 #[184, 257, 282, 295, 308, 376, 444, 469, 494, 531, 580, 617, 654, 691, 728, 753, 766, 815, 852, 865, 902, 982, 1007, 1020, 1033, 1046, 1059, 1120, 1133, 1158, 1183, 1208, 1233, 1258, 1295, 1344, 1369, 1394, 1407, 1432, 1457, 1482], 184)]
def tc_L_law_1 : List INS := [(224, 0, .aload_n 1, 1), (225, 0, .aload_n 0, 1), (226, 0, .iload 4, 2), (228, 0, .iconst 1, 1), (229, 0, .iadd, 1), (230, 3, .iaload, 1), (231, 0, .aload_n 0, 1), (232, 0, .iload 4, 2), (234, 0, .iconst 2, 1), (235, 0, .iadd, 1), (236, 3, .iaload, 1), (237, 0, .aload_n 0, 1), (238, 0, .iload 4, 2), (240, 0, .iconst 3, 1), (241, 0, .iadd, 1), (242, 3, .iaload, 1), (243, 0, .aload_n 0, 1), (244, 0, .iload 4, 2), (246, 0, .iconst 4, 1), (247, 0, .iadd, 1), (248, 3, .iaload, 1), (249, 0, .aload_n 0, 1), (250, 0, .iload 4, 2), (252, 0, .iconst 5, 1), (253, 0, .iadd, 1)]
def tc_L_law_2 : List INS := [(254, 3, .iaload, 1), (255, 4, .invokevirtual 26, 3), (258, 0, .aload_n 2, 1), (259, 0, .aload_n 0, 1), (260, 0, .iload 4, 2), (262, 0, .iconst 1, 1), (263, 0, .iadd, 1), (264, 3, .iaload, 1), (265, 0, .aload_n 0, 1), (266, 0, .iload 4, 2), (268, 0, .iconst 2, 1), (269, 0, .iadd, 1), (270, 3, .iaload, 1), (271, 0, .aload_n 0, 1), (272, 0, .iload 4, 2), (274, 0, .iconst 3, 1), (275, 0, .iadd, 1), (276, 3, .iaload, 1), (277, 0, .aload_n 0, 1), (278, 0, .iload 4, 2), (280, 0, .iconst 4, 1), (281, 0, .iadd, 1), (282, 3, .iaload, 1), (283, 0, .aload_n 0, 1), (284, 0, .iload 4, 2)]
def tc_L_law_3 : List INS := [(286, 0, .iconst 5, 1), (287, 0, .iadd, 1), (288, 3, .iaload, 1), (289, 4, .invokevirtual 30, 3), (292, 1, .if_icmp .eq 1255, 3), (297, 0, .aload_n 1, 1), (298, 0, .aload_n 0, 1), (299, 0, .iload 4, 2), (301, 0, .iconst 1, 1), (302, 0, .iadd, 1), (303, 3, .iaload, 1), (304, 4, .invokevirtual 31, 3), (307, 0, .aload_n 2, 1), (308, 0, .aload_n 0, 1), (309, 0, .iload 4, 2), (311, 0, .iconst 1, 1), (312, 0, .iadd, 1), (313, 3, .iaload, 1), (314, 4, .invokevirtual 35, 3), (317, 1, .if_icmp .eq 1230, 3), (322, 0, .aload_n 1, 1), (323, 4, .invokevirtual 36, 3), (326, 0, .aload_n 2, 1), (327, 4, .invokevirtual 40, 3), (330, 1, .if_icmp .eq 1217, 3)]
def tc_L_law_4 : List INS := [(335, 0, .aload_n 1, 1), (336, 4, .invokevirtual 41, 3), (339, 0, .aload_n 2, 1), (340, 4, .invokevirtual 44, 3), (343, 1, .if_icmp .eq 1204, 3), (348, 0, .aload_n 1, 1), (349, 0, .aload_n 0, 1), (350, 0, .iload 4, 2), (352, 0, .iconst 1, 1), (353, 0, .iadd, 1), (354, 3, .iaload, 1), (355, 0, .aload_n 0, 1), (356, 0, .iload 4, 2), (358, 0, .iconst 2, 1), (359, 0, .iadd, 1), (360, 3, .iaload, 1), (361, 0, .aload_n 3, 1), (362, 16, .invokestatic 45, 3), (365, 0, .istore 5, 2), (367, 0, .aload_n 2, 1), (368, 0, .aload_n 0, 1), (369, 0, .iload 4, 2), (371, 0, .iconst 1, 1), (372, 0, .iadd, 1), (373, 3, .iaload, 1)]
def tc_L_law_5 : List INS := [(374, 0, .aload_n 0, 1), (375, 0, .iload 4, 2), (377, 0, .iconst 2, 1), (378, 0, .iadd, 1), (379, 3, .iaload, 1), (380, 4, .invokevirtual 50, 3), (383, 0, .istore 6, 2), (385, 0, .aload_n 2, 1), (386, 4, .invokevirtual 51, 3), (389, 0, .iload 5, 2), (391, 1, .if_icmp .eq 5, 3), (396, 0, .iload 5, 2), (398, 1, .ifCond .ne 15, 3), (413, 1, .goto 1134, 3), (416, 0, .aload_n 1, 1), (417, 0, .aload_n 0, 1), (418, 0, .iload 4, 2), (420, 0, .iconst 1, 1), (421, 0, .iadd, 1), (422, 3, .iaload, 1), (423, 0, .aload_n 0, 1), (424, 0, .iload 4, 2), (426, 0, .iconst 2, 1), (427, 0, .iadd, 1), (428, 3, .iaload, 1)]
def tc_L_law_6 : List INS := [(429, 0, .aload_n 3, 1), (430, 16, .invokestatic 54, 3), (433, 0, .istore 5, 2), (435, 0, .aload_n 2, 1), (436, 0, .aload_n 0, 1), (437, 0, .iload 4, 2), (439, 0, .iconst 1, 1), (440, 0, .iadd, 1), (441, 3, .iaload, 1), (442, 0, .aload_n 0, 1), (443, 0, .iload 4, 2), (445, 0, .iconst 2, 1), (446, 0, .iadd, 1), (447, 3, .iaload, 1), (448, 4, .invokevirtual 56, 3), (451, 0, .istore 6, 2), (453, 0, .aload_n 2, 1), (454, 4, .invokevirtual 51, 3), (457, 0, .iload 5, 2), (459, 1, .if_icmp .eq 5, 3), (464, 0, .iload 5, 2), (466, 1, .ifCond .ne 15, 3), (481, 1, .goto 1066, 3), (484, 0, .aload_n 1, 1), (485, 0, .aload_n 0, 1)]
def tc_L_law_7 : List INS := [(486, 0, .iload 4, 2), (488, 0, .iconst 1, 1), (489, 0, .iadd, 1), (490, 3, .iaload, 1), (491, 4, .invokevirtual 57, 3), (494, 0, .aload_n 2, 1), (495, 0, .aload_n 0, 1), (496, 0, .iload 4, 2), (498, 0, .iconst 1, 1), (499, 0, .iadd, 1), (500, 3, .iaload, 1), (501, 4, .invokevirtual 61, 3), (504, 1, .if_icmp .eq 1043, 3), (509, 0, .aload_n 1, 1), (510, 0, .aload_n 0, 1), (511, 0, .iload 4, 2), (513, 0, .iconst 1, 1), (514, 0, .iadd, 1), (515, 3, .iaload, 1), (516, 4, .invokevirtual 62, 3), (519, 0, .aload_n 2, 1), (520, 0, .aload_n 0, 1), (521, 0, .iload 4, 2), (523, 0, .iconst 1, 1), (524, 0, .iadd, 1)]
def tc_L_law_8 : List INS := [(525, 3, .iaload, 1), (526, 4, .invokevirtual 65, 3), (529, 1, .if_icmp .eq 1018, 3), (534, 0, .aload_n 1, 1), (535, 0, .aload_n 0, 1), (536, 0, .iload 4, 2), (538, 0, .iconst 1, 1), (539, 0, .iadd, 1), (540, 3, .iaload, 1), (541, 0, .aload_n 0, 1), (542, 0, .iload 4, 2), (544, 0, .iconst 2, 1), (545, 0, .iadd, 1), (546, 3, .iaload, 1), (547, 4, .invokevirtual 66, 3), (550, 0, .aload_n 2, 1), (551, 0, .aload_n 0, 1), (552, 0, .iload 4, 2), (554, 0, .iconst 1, 1), (555, 0, .iadd, 1), (556, 3, .iaload, 1), (557, 0, .aload_n 0, 1), (558, 0, .iload 4, 2), (560, 0, .iconst 2, 1), (561, 0, .iadd, 1)]
def tc_L_law_9 : List INS := [(562, 3, .iaload, 1), (563, 4, .invokevirtual 69, 3), (566, 1, .if_icmp .eq 981, 3), (571, 0, .aload_n 1, 1), (572, 0, .aload_n 0, 1), (573, 0, .iload 4, 2), (575, 0, .iconst 1, 1), (576, 0, .iadd, 1), (577, 3, .iaload, 1), (578, 0, .aload_n 0, 1), (579, 0, .iload 4, 2), (581, 0, .iconst 2, 1), (582, 0, .iadd, 1), (583, 3, .iaload, 1), (584, 0, .aload_n 0, 1), (585, 0, .iload 4, 2), (587, 0, .iconst 3, 1), (588, 0, .iadd, 1), (589, 3, .iaload, 1), (590, 4, .invokevirtual 70, 3), (593, 0, .aload_n 2, 1), (594, 0, .aload_n 0, 1), (595, 0, .iload 4, 2), (597, 0, .iconst 1, 1), (598, 0, .iadd, 1)]
def tc_L_law_10 : List INS := [(599, 3, .iaload, 1), (600, 0, .aload_n 0, 1), (601, 0, .iload 4, 2), (603, 0, .iconst 2, 1), (604, 0, .iadd, 1), (605, 3, .iaload, 1), (606, 0, .aload_n 0, 1), (607, 0, .iload 4, 2), (609, 0, .iconst 3, 1), (610, 0, .iadd, 1), (611, 3, .iaload, 1), (612, 4, .invokevirtual 73, 3), (615, 1, .if_icmp .eq 932, 3), (620, 0, .aload_n 1, 1), (621, 0, .aload_n 0, 1), (622, 0, .iload 4, 2), (624, 0, .iconst 1, 1), (625, 0, .iadd, 1), (626, 3, .iaload, 1), (627, 0, .aload_n 0, 1), (628, 0, .iload 4, 2), (630, 0, .iconst 2, 1), (631, 0, .iadd, 1), (632, 3, .iaload, 1), (633, 4, .invokevirtual 74, 3)]
def tc_L_law_11 : List INS := [(636, 0, .aload_n 2, 1), (637, 0, .aload_n 0, 1), (638, 0, .iload 4, 2), (640, 0, .iconst 1, 1), (641, 0, .iadd, 1), (642, 3, .iaload, 1), (643, 0, .aload_n 0, 1), (644, 0, .iload 4, 2), (646, 0, .iconst 2, 1), (647, 0, .iadd, 1), (648, 3, .iaload, 1), (649, 4, .invokevirtual 77, 3), (652, 1, .if_icmp .eq 895, 3), (657, 0, .aload_n 1, 1), (658, 0, .aload_n 0, 1), (659, 0, .iload 4, 2), (661, 0, .iconst 1, 1), (662, 0, .iadd, 1), (663, 3, .iaload, 1), (664, 0, .aload_n 0, 1), (665, 0, .iload 4, 2), (667, 0, .iconst 2, 1), (668, 0, .iadd, 1), (669, 3, .iaload, 1), (670, 4, .invokevirtual 78, 3)]
def tc_L_law_12 : List INS := [(673, 0, .aload_n 2, 1), (674, 0, .aload_n 0, 1), (675, 0, .iload 4, 2), (677, 0, .iconst 1, 1), (678, 0, .iadd, 1), (679, 3, .iaload, 1), (680, 0, .aload_n 0, 1), (681, 0, .iload 4, 2), (683, 0, .iconst 2, 1), (684, 0, .iadd, 1), (685, 3, .iaload, 1), (686, 4, .invokevirtual 81, 3), (689, 1, .if_icmp .eq 858, 3), (694, 0, .aload_n 1, 1), (695, 0, .aload_n 0, 1), (696, 0, .iload 4, 2), (698, 0, .iconst 1, 1), (699, 0, .iadd, 1), (700, 3, .iaload, 1), (701, 0, .aload_n 0, 1), (702, 0, .iload 4, 2), (704, 0, .iconst 2, 1), (705, 0, .iadd, 1), (706, 3, .iaload, 1), (707, 4, .invokevirtual 82, 3)]
def tc_L_law_13 : List INS := [(710, 0, .aload_n 2, 1), (711, 0, .aload_n 0, 1), (712, 0, .iload 4, 2), (714, 0, .iconst 1, 1), (715, 0, .iadd, 1), (716, 3, .iaload, 1), (717, 0, .aload_n 0, 1), (718, 0, .iload 4, 2), (720, 0, .iconst 2, 1), (721, 0, .iadd, 1), (722, 3, .iaload, 1), (723, 4, .invokevirtual 85, 3), (726, 1, .if_icmp .eq 821, 3), (731, 0, .aload_n 1, 1), (732, 0, .aload_n 0, 1), (733, 0, .iload 4, 2), (735, 0, .iconst 1, 1), (736, 0, .iadd, 1), (737, 3, .iaload, 1), (738, 0, .aload_n 0, 1), (739, 0, .iload 4, 2), (741, 0, .iconst 2, 1), (742, 0, .iadd, 1), (743, 3, .iaload, 1), (744, 4, .invokevirtual 86, 3)]
def tc_L_law_14 : List INS := [(747, 0, .aload_n 2, 1), (748, 0, .aload_n 0, 1), (749, 0, .iload 4, 2), (751, 0, .iconst 1, 1), (752, 0, .iadd, 1), (753, 3, .iaload, 1), (754, 0, .aload_n 0, 1), (755, 0, .iload 4, 2), (757, 0, .iconst 2, 1), (758, 0, .iadd, 1), (759, 3, .iaload, 1), (760, 4, .invokevirtual 89, 3), (763, 1, .if_icmp .eq 784, 3), (768, 0, .aload_n 1, 1), (769, 0, .aload_n 0, 1), (770, 0, .iload 4, 2), (772, 0, .iconst 1, 1), (773, 0, .iadd, 1), (774, 3, .iaload, 1), (775, 4, .invokevirtual 90, 3), (778, 16, .aload_n 2, 1), (779, 0, .aload_n 0, 1), (780, 0, .iload 4, 2), (782, 0, .iconst 1, 1), (783, 0, .iadd, 1)]
def tc_L_law_15 : List INS := [(784, 3, .iaload, 1), (785, 4, .invokevirtual 93, 3), (788, 1, .if_icmp .eq 759, 3), (793, 0, .aload_n 1, 1), (794, 4, .invokevirtual 94, 3), (797, 0, .aload_n 2, 1), (798, 4, .invokevirtual 97, 3), (801, 1, .if_icmp .eq 746, 3), (806, 0, .aload_n 1, 1), (807, 0, .aload_n 0, 1), (808, 0, .iload 4, 2), (810, 0, .iconst 1, 1), (811, 0, .iadd, 1), (812, 3, .iaload, 1), (813, 0, .aload_n 0, 1), (814, 0, .iload 4, 2), (816, 0, .iconst 2, 1), (817, 0, .iadd, 1), (818, 3, .iaload, 1), (819, 0, .aload_n 0, 1), (820, 0, .iload 4, 2), (822, 0, .iconst 3, 1), (823, 0, .iadd, 1), (824, 3, .iaload, 1), (825, 4, .invokevirtual 98, 3)]
def tc_L_law_16 : List INS := [(828, 0, .aload_n 2, 1), (829, 0, .aload_n 0, 1), (830, 0, .iload 4, 2), (832, 0, .iconst 1, 1), (833, 0, .iadd, 1), (834, 3, .iaload, 1), (835, 0, .aload_n 0, 1), (836, 0, .iload 4, 2), (838, 0, .iconst 2, 1), (839, 0, .iadd, 1), (840, 3, .iaload, 1), (841, 0, .aload_n 0, 1), (842, 0, .iload 4, 2), (844, 0, .iconst 3, 1), (845, 0, .iadd, 1), (846, 3, .iaload, 1), (847, 4, .invokevirtual 101, 3), (850, 1, .if_icmp .eq 697, 3), (855, 0, .aload_n 1, 1), (856, 0, .aload_n 0, 1), (857, 0, .iload 4, 2), (859, 0, .iconst 1, 1), (860, 0, .iadd, 1), (861, 3, .iaload, 1), (862, 0, .aload_n 0, 1)]
def tc_L_law_17 : List INS := [(863, 0, .iload 4, 2), (865, 0, .iconst 2, 1), (866, 0, .iadd, 1), (867, 3, .iaload, 1), (868, 4, .invokevirtual 102, 3), (871, 0, .aload_n 2, 1), (872, 0, .aload_n 0, 1), (873, 0, .iload 4, 2), (875, 0, .iconst 1, 1), (876, 0, .iadd, 1), (877, 3, .iaload, 1), (878, 0, .aload_n 0, 1), (879, 0, .iload 4, 2), (881, 0, .iconst 2, 1), (882, 0, .iadd, 1), (883, 3, .iaload, 1), (884, 4, .invokevirtual 105, 3), (887, 1, .if_icmp .eq 660, 3), (892, 0, .aload_n 1, 1), (893, 4, .invokevirtual 106, 3), (896, 0, .aload_n 2, 1), (897, 4, .invokevirtual 109, 3), (900, 1, .if_icmp .eq 647, 3), (905, 0, .aload_n 1, 1), (906, 0, .aload_n 0, 1)]
def tc_L_law_18 : List INS := [(907, 0, .iload 4, 2), (909, 0, .iconst 1, 1), (910, 0, .iadd, 1), (911, 3, .iaload, 1), (912, 0, .aload_n 0, 1), (913, 0, .iload 4, 2), (915, 0, .iconst 2, 1), (916, 0, .iadd, 1), (917, 3, .iaload, 1), (918, 4, .invokevirtual 110, 3), (921, 0, .aload_n 2, 1), (922, 0, .aload_n 0, 1), (923, 0, .iload 4, 2), (925, 0, .iconst 1, 1), (926, 0, .iadd, 1), (927, 3, .iaload, 1), (928, 0, .aload_n 0, 1), (929, 0, .iload 4, 2), (931, 0, .iconst 2, 1), (932, 0, .iadd, 1), (933, 3, .iaload, 1), (934, 4, .invokevirtual 113, 3), (937, 1, .if_icmp .eq 610, 3), (942, 0, .aload_n 1, 1), (943, 0, .aload_n 0, 1)]
def tc_L_law_19 : List INS := [(944, 0, .iload 4, 2), (946, 0, .iconst 1, 1), (947, 0, .iadd, 1), (948, 3, .iaload, 1), (949, 0, .aload_n 0, 1), (950, 0, .iload 4, 2), (952, 0, .iconst 2, 1), (953, 0, .iadd, 1), (954, 3, .iaload, 1), (955, 0, .aload_n 0, 1), (956, 0, .iload 4, 2), (958, 0, .iconst 3, 1), (959, 0, .iadd, 1), (960, 3, .iaload, 1), (961, 0, .aload_n 3, 1), (962, 16, .invokestatic 114, 3), (965, 0, .istore 5, 2), (967, 0, .aload_n 2, 1), (968, 0, .aload_n 0, 1), (969, 0, .iload 4, 2), (971, 0, .iconst 1, 1), (972, 0, .iadd, 1), (973, 3, .iaload, 1), (974, 0, .aload_n 0, 1), (975, 0, .iload 4, 2)]
def tc_L_law_20 : List INS := [(977, 0, .iconst 2, 1), (978, 0, .iadd, 1), (979, 3, .iaload, 1), (980, 0, .aload_n 0, 1), (981, 0, .iload 4, 2), (983, 0, .iconst 3, 1), (984, 0, .iadd, 1), (985, 3, .iaload, 1), (986, 4, .invokevirtual 117, 3), (989, 0, .istore 6, 2), (991, 0, .aload_n 2, 1), (992, 4, .invokevirtual 51, 3), (995, 0, .iload 5, 2), (997, 1, .if_icmp .eq 5, 3), (1002, 0, .iload 5, 2), (1004, 1, .ifCond .ne 15, 3), (1019, 1, .goto 528, 3), (1022, 0, .aload_n 1, 1), (1023, 0, .aload_n 0, 1), (1024, 0, .iload 4, 2), (1026, 0, .iconst 1, 1), (1027, 0, .iadd, 1), (1028, 3, .iaload, 1), (1029, 4, .invokevirtual 118, 3), (1032, 0, .aload_n 2, 1)]
def tc_L_law_21 : List INS := [(1033, 0, .aload_n 0, 1), (1034, 0, .iload 4, 2), (1036, 0, .iconst 1, 1), (1037, 0, .iadd, 1), (1038, 3, .iaload, 1), (1039, 4, .invokevirtual 121, 3), (1042, 1, .if_icmp .eq 505, 3), (1047, 0, .aload_n 1, 1), (1048, 4, .invokevirtual 122, 3), (1051, 0, .aload_n 2, 1), (1052, 4, .invokevirtual 125, 3), (1055, 1, .if_icmp .eq 492, 3), (1060, 0, .aload_n 1, 1), (1061, 4, .invokevirtual 126, 3), (1064, 0, .aload_n 2, 1), (1065, 4, .invokevirtual 129, 3), (1068, 1, .if_icmp .eq 479, 3), (1073, 0, .aload_n 1, 1), (1074, 4, .invokevirtual 130, 3), (1077, 0, .aload_n 2, 1), (1078, 4, .invokevirtual 133, 3), (1081, 1, .if_icmp .eq 466, 3), (1086, 0, .aload_n 1, 1), (1087, 4, .invokevirtual 134, 3), (1090, 0, .aload_n 2, 1)]
def tc_L_law_22 : List INS := [(1091, 4, .invokevirtual 137, 3), (1094, 1, .if_icmp .eq 453, 3), (1099, 0, .aload_n 1, 1), (1100, 0, .aload_n 0, 1), (1101, 0, .iload 4, 2), (1103, 0, .iconst 1, 1), (1104, 0, .iadd, 1), (1105, 3, .iaload, 1), (1106, 0, .aload_n 0, 1), (1107, 0, .iload 4, 2), (1109, 0, .iconst 2, 1), (1110, 0, .iadd, 1), (1111, 3, .iaload, 1), (1112, 0, .aload_n 0, 1), (1113, 0, .iload 4, 2), (1115, 0, .iconst 3, 1), (1116, 0, .iadd, 1), (1117, 3, .iaload, 1), (1118, 0, .aload_n 0, 1), (1119, 0, .iload 4, 2), (1121, 0, .iconst 4, 1), (1122, 0, .iadd, 1), (1123, 3, .iaload, 1), (1124, 4, .invokevirtual 138, 3), (1127, 0, .aload_n 2, 1)]
def tc_L_law_23 : List INS := [(1128, 0, .aload_n 0, 1), (1129, 0, .iload 4, 2), (1131, 0, .iconst 1, 1), (1132, 0, .iadd, 1), (1133, 3, .iaload, 1), (1134, 0, .aload_n 0, 1), (1135, 0, .iload 4, 2), (1137, 0, .iconst 2, 1), (1138, 0, .iadd, 1), (1139, 3, .iaload, 1), (1140, 0, .aload_n 0, 1), (1141, 0, .iload 4, 2), (1143, 0, .iconst 3, 1), (1144, 0, .iadd, 1), (1145, 3, .iaload, 1), (1146, 0, .aload_n 0, 1), (1147, 0, .iload 4, 2), (1149, 0, .iconst 4, 1), (1150, 0, .iadd, 1), (1151, 3, .iaload, 1), (1152, 4, .invokevirtual 142, 3), (1155, 1, .if_icmp .eq 392, 3), (1160, 0, .aload_n 1, 1), (1161, 4, .invokevirtual 143, 3), (1164, 0, .aload_n 2, 1)]
def tc_L_law_24 : List INS := [(1165, 4, .invokevirtual 146, 3), (1168, 1, .if_icmp .eq 379, 3), (1173, 0, .aload_n 1, 1), (1174, 0, .aload_n 0, 1), (1175, 0, .iload 4, 2), (1177, 0, .iconst 1, 1), (1178, 0, .iadd, 1), (1179, 3, .iaload, 1), (1180, 4, .invokevirtual 147, 3), (1183, 0, .aload_n 2, 1), (1184, 0, .aload_n 0, 1), (1185, 0, .iload 4, 2), (1187, 0, .iconst 1, 1), (1188, 0, .iadd, 1), (1189, 3, .iaload, 1), (1190, 4, .invokevirtual 150, 3), (1193, 1, .if_icmp .eq 354, 3), (1198, 0, .aload_n 1, 1), (1199, 0, .aload_n 0, 1), (1200, 0, .iload 4, 2), (1202, 0, .iconst 1, 1), (1203, 0, .iadd, 1), (1204, 3, .iaload, 1), (1205, 4, .invokevirtual 151, 3), (1208, 0, .aload_n 2, 1)]
def tc_L_law_25 : List INS := [(1209, 0, .aload_n 0, 1), (1210, 0, .iload 4, 2), (1212, 0, .iconst 1, 1), (1213, 0, .iadd, 1), (1214, 3, .iaload, 1), (1215, 4, .invokevirtual 154, 3), (1218, 1, .if_icmp .eq 329, 3), (1223, 0, .aload_n 1, 1), (1224, 0, .aload_n 0, 1), (1225, 0, .iload 4, 2), (1227, 0, .iconst 1, 1), (1228, 0, .iadd, 1), (1229, 3, .iaload, 1), (1230, 4, .invokevirtual 155, 3), (1233, 0, .aload_n 2, 1), (1234, 0, .aload_n 0, 1), (1235, 0, .iload 4, 2), (1237, 0, .iconst 1, 1), (1238, 0, .iadd, 1), (1239, 3, .iaload, 1), (1240, 4, .invokevirtual 158, 3), (1243, 1, .if_icmp .eq 304, 3), (1248, 0, .aload_n 1, 1), (1249, 0, .aload_n 0, 1), (1250, 0, .iload 4, 2)]
def tc_L_law_26 : List INS := [(1252, 0, .iconst 1, 1), (1253, 0, .iadd, 1), (1254, 3, .iaload, 1), (1255, 4, .invokevirtual 159, 3), (1258, 0, .aload_n 2, 1), (1259, 0, .aload_n 0, 1), (1260, 0, .iload 4, 2), (1262, 0, .iconst 1, 1), (1263, 0, .iadd, 1), (1264, 3, .iaload, 1), (1265, 4, .invokevirtual 162, 3), (1268, 1, .if_icmp .eq 279, 3), (1273, 0, .aload_n 1, 1), (1274, 0, .aload_n 0, 1), (1275, 0, .iload 4, 2), (1277, 0, .iconst 1, 1), (1278, 0, .iadd, 1), (1279, 3, .iaload, 1), (1280, 4, .invokevirtual 163, 3), (1283, 0, .aload_n 2, 1), (1284, 0, .aload_n 0, 1), (1285, 0, .iload 4, 2), (1287, 0, .iconst 1, 1), (1288, 0, .iadd, 1), (1289, 3, .iaload, 1)]
def tc_L_law_27 : List INS := [(1290, 4, .invokevirtual 166, 3), (1293, 1, .if_icmp .eq 254, 3), (1298, 0, .aload_n 1, 1), (1299, 0, .aload_n 0, 1), (1300, 0, .iload 4, 2), (1302, 0, .iconst 1, 1), (1303, 0, .iadd, 1), (1304, 3, .iaload, 1), (1305, 0, .aload_n 0, 1), (1306, 0, .iload 4, 2), (1308, 0, .iconst 2, 1), (1309, 0, .iadd, 1), (1310, 3, .iaload, 1), (1311, 4, .invokevirtual 167, 3), (1314, 0, .aload_n 2, 1), (1315, 0, .aload_n 0, 1), (1316, 0, .iload 4, 2), (1318, 0, .iconst 1, 1), (1319, 0, .iadd, 1), (1320, 3, .iaload, 1), (1321, 0, .aload_n 0, 1), (1322, 0, .iload 4, 2), (1324, 0, .iconst 2, 1), (1325, 0, .iadd, 1), (1326, 3, .iaload, 1)]
def tc_L_law_28 : List INS := [(1327, 4, .invokevirtual 170, 3), (1330, 1, .if_icmp .eq 217, 3), (1335, 0, .aload_n 1, 1), (1336, 0, .aload_n 0, 1), (1337, 0, .iload 4, 2), (1339, 0, .iconst 1, 1), (1340, 0, .iadd, 1), (1341, 3, .iaload, 1), (1342, 0, .aload_n 0, 1), (1343, 0, .iload 4, 2), (1345, 0, .iconst 2, 1), (1346, 0, .iadd, 1), (1347, 3, .iaload, 1), (1348, 0, .aload_n 0, 1), (1349, 0, .iload 4, 2), (1351, 0, .iconst 3, 1), (1352, 0, .iadd, 1), (1353, 3, .iaload, 1), (1354, 4, .invokevirtual 171, 3), (1357, 0, .aload_n 2, 1), (1358, 0, .aload_n 0, 1), (1359, 0, .iload 4, 2), (1361, 0, .iconst 1, 1), (1362, 0, .iadd, 1), (1363, 3, .iaload, 1)]
def tc_L_law_29 : List INS := [(1364, 0, .aload_n 0, 1), (1365, 0, .iload 4, 2), (1367, 0, .iconst 2, 1), (1368, 0, .iadd, 1), (1369, 3, .iaload, 1), (1370, 0, .aload_n 0, 1), (1371, 0, .iload 4, 2), (1373, 0, .iconst 3, 1), (1374, 0, .iadd, 1), (1375, 3, .iaload, 1), (1376, 4, .invokevirtual 174, 3), (1379, 1, .if_icmp .eq 168, 3), (1384, 0, .aload_n 1, 1), (1385, 0, .aload_n 0, 1), (1386, 0, .iload 4, 2), (1388, 0, .iconst 1, 1), (1389, 0, .iadd, 1), (1390, 3, .iaload, 1), (1391, 4, .invokevirtual 175, 3), (1394, 0, .aload_n 2, 1), (1395, 0, .aload_n 0, 1), (1396, 0, .iload 4, 2), (1398, 0, .iconst 1, 1), (1399, 0, .iadd, 1), (1400, 3, .iaload, 1)]
def tc_L_law_30 : List INS := [(1401, 4, .invokevirtual 178, 3), (1404, 1, .if_icmp .eq 143, 3), (1409, 0, .aload_n 1, 1), (1410, 0, .aload_n 0, 1), (1411, 0, .iload 4, 2), (1413, 0, .iconst 1, 1), (1414, 0, .iadd, 1), (1415, 3, .iaload, 1), (1416, 4, .invokevirtual 179, 3), (1419, 0, .aload_n 2, 1), (1420, 0, .aload_n 0, 1), (1421, 0, .iload 4, 2), (1423, 0, .iconst 1, 1), (1424, 0, .iadd, 1), (1425, 3, .iaload, 1), (1426, 4, .invokevirtual 182, 3), (1429, 1, .if_icmp .eq 118, 3), (1434, 0, .aload_n 1, 1), (1435, 4, .invokevirtual 183, 3), (1438, 0, .aload_n 2, 1), (1439, 4, .invokevirtual 186, 3), (1442, 1, .if_icmp .eq 105, 3), (1447, 0, .aload_n 1, 1), (1448, 0, .aload_n 0, 1), (1449, 0, .iload 4, 2)]
def tc_L_law_31 : List INS := [(1451, 0, .iconst 1, 1), (1452, 0, .iadd, 1), (1453, 3, .iaload, 1), (1454, 4, .invokevirtual 187, 3), (1457, 0, .aload_n 2, 1), (1458, 0, .aload_n 0, 1), (1459, 0, .iload 4, 2), (1461, 0, .iconst 1, 1), (1462, 0, .iadd, 1), (1463, 3, .iaload, 1), (1464, 4, .invokevirtual 190, 3), (1467, 1, .if_icmp .eq 80, 3), (1472, 0, .aload_n 1, 1), (1473, 0, .aload_n 0, 1), (1474, 0, .iload 4, 2), (1476, 0, .iconst 1, 1), (1477, 0, .iadd, 1), (1478, 3, .iaload, 1), (1479, 4, .invokevirtual 191, 3), (1482, 0, .aload_n 2, 1), (1483, 0, .aload_n 0, 1), (1484, 0, .iload 4, 2), (1486, 0, .iconst 1, 1), (1487, 0, .iadd, 1), (1488, 3, .iaload, 1)]
def tc_L_law_32 : List INS := [(1489, 4, .invokevirtual 194, 3), (1492, 1, .if_icmp .eq 55, 3), (1497, 0, .aload_n 1, 1), (1498, 0, .aload_n 0, 1), (1499, 0, .iload 4, 2), (1501, 0, .iconst 1, 1), (1502, 0, .iadd, 1), (1503, 3, .iaload, 1), (1504, 4, .invokevirtual 195, 3), (1507, 0, .aload_n 2, 1), (1508, 0, .aload_n 0, 1), (1509, 0, .iload 4, 2), (1511, 0, .iconst 1, 1), (1512, 0, .iadd, 1), (1513, 3, .iaload, 1), (1514, 4, .invokevirtual 198, 3), (1517, 1, .if_icmp .eq 30, 3), (1522, 0, .aload_n 1, 1), (1523, 0, .aload_n 0, 1), (1524, 0, .iload 4, 2), (1526, 0, .iconst 1, 1), (1527, 0, .iadd, 1), (1528, 3, .iaload, 1), (1529, 4, .invokevirtual 199, 3), (1532, 0, .aload_n 2, 1)]
def tc_L_law_33 : List INS := [(1533, 0, .aload_n 0, 1), (1534, 0, .iload 4, 2), (1536, 0, .iconst 1, 1), (1537, 0, .iadd, 1), (1538, 3, .iaload, 1), (1539, 4, .invokevirtual 202, 3), (1542, 1, .if_icmp .eq 5, 3), (1547, 0, .iinc 4 6, 3), (1550, 1, .goto (-1527), 3), (1553, 0, .iconst 1, 1), (1554, 5, .ireturn, 1)]
def tb_L_law : List INS := tc_L_law_0 ++ (tc_L_law_1 ++ (tc_L_law_2 ++ (tc_L_law_3 ++ (tc_L_law_4 ++ (tc_L_law_5 ++ (tc_L_law_6 ++ (tc_L_law_7 ++ (tc_L_law_8 ++ (tc_L_law_9 ++ (tc_L_law_10 ++ (tc_L_law_11 ++ (tc_L_law_12 ++ (tc_L_law_13 ++ (tc_L_law_14 ++ (tc_L_law_15 ++ (tc_L_law_16 ++ (tc_L_law_17 ++ (tc_L_law_18 ++ (tc_L_law_19 ++ (tc_L_law_20 ++ (tc_L_law_21 ++ (tc_L_law_22 ++ (tc_L_law_23 ++ (tc_L_law_24 ++ (tc_L_law_25 ++ (tc_L_law_26 ++ (tc_L_law_27 ++ (tc_L_law_28 ++ (tc_L_law_29 ++ (tc_L_law_30 ++ (tc_L_law_31 ++ (tc_L_law_32 ++ (tc_L_law_33)))))))))))))))))))))))))))))))))
theorem td_L_law_0 : d_chkL code tc_L_law_0 = true := by decide +kernel
theorem td_L_law_1 : d_chkL code tc_L_law_1 = true := by decide +kernel
theorem td_L_law_2 : d_chkL code tc_L_law_2 = true := by decide +kernel
theorem td_L_law_3 : d_chkL code tc_L_law_3 = true := by decide +kernel
theorem td_L_law_4 : d_chkL code tc_L_law_4 = true := by decide +kernel
theorem td_L_law_5 : d_chkL code tc_L_law_5 = true := by decide +kernel
theorem td_L_law_6 : d_chkL code tc_L_law_6 = true := by decide +kernel
theorem td_L_law_7 : d_chkL code tc_L_law_7 = true := by decide +kernel
theorem td_L_law_8 : d_chkL code tc_L_law_8 = true := by decide +kernel
theorem td_L_law_9 : d_chkL code tc_L_law_9 = true := by decide +kernel
theorem td_L_law_10 : d_chkL code tc_L_law_10 = true := by decide +kernel
theorem td_L_law_11 : d_chkL code tc_L_law_11 = true := by decide +kernel
theorem td_L_law_12 : d_chkL code tc_L_law_12 = true := by decide +kernel
theorem td_L_law_13 : d_chkL code tc_L_law_13 = true := by decide +kernel
theorem td_L_law_14 : d_chkL code tc_L_law_14 = true := by decide +kernel
theorem td_L_law_15 : d_chkL code tc_L_law_15 = true := by decide +kernel
theorem td_L_law_16 : d_chkL code tc_L_law_16 = true := by decide +kernel
theorem td_L_law_17 : d_chkL code tc_L_law_17 = true := by decide +kernel
theorem td_L_law_18 : d_chkL code tc_L_law_18 = true := by decide +kernel
theorem td_L_law_19 : d_chkL code tc_L_law_19 = true := by decide +kernel
theorem td_L_law_20 : d_chkL code tc_L_law_20 = true := by decide +kernel
theorem td_L_law_21 : d_chkL code tc_L_law_21 = true := by decide +kernel
theorem td_L_law_22 : d_chkL code tc_L_law_22 = true := by decide +kernel
theorem td_L_law_23 : d_chkL code tc_L_law_23 = true := by decide +kernel
theorem td_L_law_24 : d_chkL code tc_L_law_24 = true := by decide +kernel
theorem td_L_law_25 : d_chkL code tc_L_law_25 = true := by decide +kernel
theorem td_L_law_26 : d_chkL code tc_L_law_26 = true := by decide +kernel
theorem td_L_law_27 : d_chkL code tc_L_law_27 = true := by decide +kernel
theorem td_L_law_28 : d_chkL code tc_L_law_28 = true := by decide +kernel
theorem td_L_law_29 : d_chkL code tc_L_law_29 = true := by decide +kernel
theorem td_L_law_30 : d_chkL code tc_L_law_30 = true := by decide +kernel
theorem td_L_law_31 : d_chkL code tc_L_law_31 = true := by decide +kernel
theorem td_L_law_32 : d_chkL code tc_L_law_32 = true := by decide +kernel
theorem td_L_law_33 : d_chkL code tc_L_law_33 = true := by decide +kernel
theorem td_L_law : d_chkL code tb_L_law = true := d_app td_L_law_0 (d_app td_L_law_1 (d_app td_L_law_2 (d_app td_L_law_3 (d_app td_L_law_4 (d_app td_L_law_5 (d_app td_L_law_6 (d_app td_L_law_7 (d_app td_L_law_8 (d_app td_L_law_9 (d_app td_L_law_10 (d_app td_L_law_11 (d_app td_L_law_12 (d_app td_L_law_13 (d_app td_L_law_14 (d_app td_L_law_15 (d_app td_L_law_16 (d_app td_L_law_17 (d_app td_L_law_18 (d_app td_L_law_19 (d_app td_L_law_20 (d_app td_L_law_21 (d_app td_L_law_22 (d_app td_L_law_23 (d_app td_L_law_24 (d_app td_L_law_25 (d_app td_L_law_26 (d_app td_L_law_27 (d_app td_L_law_28 (d_app td_L_law_29 (d_app td_L_law_30 (d_app td_L_law_31 (d_app td_L_law_32 (td_L_law_33)))))))))))))))))))))))))))))))))
end
section
/-! plain facts on numbers and arrays, to paste: each family by itself; over the kit's rows on nI and upd -/
/-! ===== order of ints, in all its forms, and through longs ===== -/
theorem fa_lt (a b : Int32) : a < b ↔ a.toInt < b.toInt := Int32.lt_iff_toInt_lt
theorem fa_le (a b : Int32) : a ≤ b ↔ a.toInt ≤ b.toInt := Int32.le_iff_toInt_le
theorem fa_eq (a b : Int32) : a = b ↔ a.toInt = b.toInt := Int32.toInt_inj.symm
theorem fa_lt64 (a b : Int64) : a < b ↔ a.toInt < b.toInt := Int64.lt_iff_toInt_lt
theorem fa_le64 (a b : Int64) : a ≤ b ↔ a.toInt ≤ b.toInt := Int64.le_iff_toInt_le
theorem fa_eq64 (a b : Int64) : a = b ↔ a.toInt = b.toInt := Int64.toInt_inj.symm
/-- a comparison of two ints taken as longs -/
theorem fa_wide_lt (a b : Int32) : a.toInt64 < b.toInt64 ↔ a < b := by rw [fa_lt64, fa_lt, Int32.toInt_toInt64, Int32.toInt_toInt64]
theorem fa_wide_le (a b : Int32) : a.toInt64 ≤ b.toInt64 ↔ a ≤ b := by rw [fa_le64, fa_le, Int32.toInt_toInt64, Int32.toInt_toInt64]
theorem fa_wide_eq (a b : Int32) : a.toInt64 = b.toInt64 ↔ a = b := by rw [fa_eq64, fa_eq, Int32.toInt_toInt64, Int32.toInt_toInt64]
/-- one strict comparison gives all the others -/
theorem fa_of_lt {a b : Int32} (h : a < b) : a ≤ b ∧ ¬ b ≤ a ∧ ¬ b < a ∧ a ≠ b ∧ b ≠ a := by
  rw [fa_lt] at h
  refine ⟨?_, ?_, ?_, ?_, ?_⟩
  · rw [fa_le]; omega
  · rw [fa_le]; omega
  · rw [fa_lt]; omega
  · intro e; rw [fa_eq] at e; omega
  · intro e; rw [fa_eq] at e; omega
theorem fa_of_nlt {a b : Int32} (h : ¬ a < b) : b ≤ a := by
  rw [fa_lt] at h
  rw [fa_le]
  omega
theorem fa_of_nle {a b : Int32} (h : ¬ a ≤ b) : b < a := by
  rw [fa_le] at h
  rw [fa_lt]
  omega
theorem fa_le_ne {a b : Int32} (h : a ≤ b) (h2 : a ≠ b) : a < b := by
  rw [fa_le] at h
  rw [fa_lt]
  have h3 : a.toInt ≠ b.toInt := fun e => h2 ((fa_eq a b).mpr e)
  omega
theorem fa_three (a b : Int32) : a < b ∨ a = b ∨ b < a := by
  rw [fa_lt, fa_lt, fa_eq]
  omega
theorem fa_trans {a b c : Int32} (h : a < b) (h2 : b ≤ c) : a < c := by
  rw [fa_lt] at *
  rw [fa_le] at h2
  omega
/-! ===== small literals as numbers ===== -/
theorem fa_lit (n : Nat) : (OfNat.ofNat n : Int32) = nI n := rfl
theorem fa_litL (n : Nat) : (OfNat.ofNat n : Int64) = lN n := rfl
/-! ===== bits of a number: 'or', masks, one bit ===== -/
theorem fa_and (a b : Nat) : nI a &&& nI b = nI (a &&& b) := by
  apply Int32.toBitVec_inj.1
  show BitVec.ofNat 32 a &&& BitVec.ofNat 32 b = BitVec.ofNat 32 (a &&& b)
  apply BitVec.eq_of_getLsbD_eq
  intro i hi
  simp [hi]
theorem fa_or (a b : Nat) : nI a ||| nI b = nI (a ||| b) := by
  apply Int32.toBitVec_inj.1
  show BitVec.ofNat 32 a ||| BitVec.ofNat 32 b = BitVec.ofNat 32 (a ||| b)
  apply BitVec.eq_of_getLsbD_eq
  intro i hi
  simp [hi]
/-- a remainder by a power of two, as a mask -/
theorem fa_mask (n k : Nat) : nI n &&& nI (2 ^ k - 1) = nI (n % 2 ^ k) := by rw [fa_and, Nat.and_two_pow_sub_one_eq_mod]
/-- 'or' of a high part and a low one that don't meet is their sum -/
theorem fa_or_sum {a k : Nat} (b : Nat) (h : a < 2 ^ k) : nI (2 ^ k * b) ||| nI a = nI (2 ^ k * b + a) := by rw [fa_or, Nat.two_pow_add_eq_or_of_lt h]
/-- one bit, by 'and' with a power of two -/
theorem fa_bit {n j : Nat} (hj : j < 31) : nI n &&& nI (2 ^ j) = 0 ↔ n.testBit j = false := by
  have h2 : (2 : Nat) ^ j < 2 ^ 31 := Nat.pow_lt_pow_right (by decide) hj
  have hle : n &&& 2 ^ j ≤ 2 ^ j := Nat.and_le_right
  have e : n &&& 2 ^ j = 0 ↔ n.testBit j = false := by
    constructor
    · intro h
      have h1 : (n &&& 2 ^ j).testBit j = false := by rw [h]; simp
      rw [Nat.testBit_and] at h1
      first | simpa using h1 | simpa [Nat.testBit_two_pow_self] using h1 | simpa [Nat.testBit_two_pow] using h1
    · intro h
      apply Nat.eq_of_testBit_eq
      intro i
      rw [Nat.testBit_and]
      by_cases hi : j = i
      · subst hi; simp [h]
      · first | (simp [Nat.testBit_two_pow, hi]; done) | (simp [Nat.testBit_two_pow_of_ne hi]; done)
  rw [fa_and]
  constructor
  · intro h
    apply e.mp
    rcases Nat.eq_zero_or_pos (n &&& 2 ^ j) with z | z
    · exact z
    · exact absurd h (nI_ne0 z (Nat.lt_of_le_of_lt hle h2))
  · intro h
    rw [e.mpr h]; exact nI_0
/-- a remainder by a power of two of a number that isn't negative, as Java divides -/
theorem fa_rem {a k : Nat} (ha : a < 2 ^ 31) (hk : k < 31) : nI a - nI a / nI (2 ^ k) * nI (2 ^ k) = nI (a % 2 ^ k) := pk_rem ha (Nat.two_pow_pos k) (Nat.pow_lt_pow_right (by decide) hk)
/-! ===== cuts to a byte, a short ===== -/
theorem fa_byte_xor (x y : Int32) : (x ^^^ y).toInt8 = x.toInt8 ^^^ y.toInt8 := by
  apply Int8.toBitVec_inj.1
  apply BitVec.eq_of_getLsbD_eq
  intro i hi
  first | (simp [hi]; done) | (simp [hi, BitVec.getLsbD_setWidth, BitVec.getLsbD_signExtend]; done)
theorem fa_short_xor (x y : Int32) : (x ^^^ y).toInt16 = x.toInt16 ^^^ y.toInt16 := by
  apply Int16.toBitVec_inj.1
  apply BitVec.eq_of_getLsbD_eq
  intro i hi
  first | (simp [hi]; done) | (simp [hi, BitVec.getLsbD_setWidth, BitVec.getLsbD_signExtend]; done)
/-- the cut to a byte sees the low byte alone -/
theorem fa_byte_low (x : Int32) : (x &&& 255).toInt8 = x.toInt8 := by
  apply Int8.toBitVec_inj.1
  apply BitVec.eq_of_getLsbD_eq
  intro i hi
  have h2 : (255 : Int32).toBitVec.getLsbD i = true := by
    have : ∀ j : Fin 8, (255 : Int32).toBitVec.getLsbD j.val = true := by decide +kernel
    exact this ⟨i, hi⟩
  have h4 : (x &&& 255).toBitVec.getLsbD i = x.toBitVec.getLsbD i := by
    show (x.toBitVec &&& (255 : Int32).toBitVec).getLsbD i = _
    rw [BitVec.getLsbD_and, h2, Bool.and_true]
  have h3 : i < 32 := by omega
  first
    | (show (((x &&& 255).toBitVec).signExtend 8).getLsbD i = (x.toBitVec.signExtend 8).getLsbD i; rw [BitVec.getLsbD_signExtend, BitVec.getLsbD_signExtend, if_pos h3, if_pos h3, h4])
    | (show (((x &&& 255).toBitVec).setWidth 8).getLsbD i = (x.toBitVec.setWidth 8).getLsbD i; rw [BitVec.getLsbD_setWidth, BitVec.getLsbD_setWidth, h4])
    | (simp [hi, h3, h4]; done)
theorem fa_short_low (x : Int32) : (x &&& 65535).toInt16 = x.toInt16 := by
  apply Int16.toBitVec_inj.1
  apply BitVec.eq_of_getLsbD_eq
  intro i hi
  have h2 : (65535 : Int32).toBitVec.getLsbD i = true := by
    have : ∀ j : Fin 16, (65535 : Int32).toBitVec.getLsbD j.val = true := by decide +kernel
    exact this ⟨i, hi⟩
  have h4 : (x &&& 65535).toBitVec.getLsbD i = x.toBitVec.getLsbD i := by
    show (x.toBitVec &&& (65535 : Int32).toBitVec).getLsbD i = _
    rw [BitVec.getLsbD_and, h2, Bool.and_true]
  have h3 : i < 32 := by omega
  first
    | (show (((x &&& 65535).toBitVec).signExtend 16).getLsbD i = (x.toBitVec.signExtend 16).getLsbD i; rw [BitVec.getLsbD_signExtend, BitVec.getLsbD_signExtend, if_pos h3, if_pos h3, h4])
    | (show (((x &&& 65535).toBitVec).setWidth 16).getLsbD i = (x.toBitVec.setWidth 16).getLsbD i; rw [BitVec.getLsbD_setWidth, BitVec.getLsbD_setWidth, h4])
    | (simp [hi, h3, h4]; done)
/-- a small number is its own byte, its own short -/
theorem fa_byte_small {n : Nat} (h : n < 128) : (nI n).toInt8.toInt32 = nI n := by
  have : ∀ j : Fin 128, (nI j.val).toInt8.toInt32 = nI j.val := by decide +kernel
  exact this ⟨n, h⟩
/-! ===== absolute difference ===== -/
theorem fa_absdiff {a b : Nat} (ha : a < 2 ^ 31) (hb : b < 2 ^ 31) : (if nI a < nI b then nI b - nI a else nI a - nI b) = nI (if a < b then b - a else a - b) := by
  by_cases h : a < b
  · rw [if_pos (nI_lt h hb), if_pos h]
    exact pk_sub (Nat.le_of_lt h)
  · rw [if_neg (nI_nlt (Nat.le_of_not_lt h) ha), if_neg h]
    exact pk_sub (Nat.le_of_not_lt h)
/-! ===== an array behind i stores, a conditional store, a row copied ===== -/
/-- f where k < i, what stood there else -/
def fa_fill {α : Type} (f g : Nat → α) (i : Nat) : Nat → α := fun k => if k < i then f k else g k
theorem fa_fill_0 {α : Type} (f g : Nat → α) : fa_fill f g 0 = g := funext fun k => if_neg (Nat.not_lt_zero k)
theorem fa_fill_in {α : Type} {f g : Nat → α} {i k : Nat} (h : k < i) : fa_fill f g i k = f k := if_pos h
theorem fa_fill_out {α : Type} {f g : Nat → α} {i k : Nat} (h : i ≤ k) : fa_fill f g i k = g k := if_neg (Nat.not_lt.mpr h)
theorem fa_fill_succ (f g : Nat → Int32) (i : Nat) : upd (fa_fill f g i) i (f i) = fa_fill f g (i + 1) := by
  funext k
  by_cases e : k = i
  · subst e
    rw [pk_us]
    exact (if_pos (Nat.lt_succ_self k)).symm
  · rw [pk_un e]
    by_cases h : k < i
    · rw [fa_fill_in h, fa_fill_in (Nat.lt_succ_of_lt h)]
    · rw [fa_fill_out (Nat.le_of_not_lt h), fa_fill_out (by omega)]
/-- a store that changes nothing -/
theorem fa_upd_same {f : Nat → Int32} {i : Nat} {x : Int32} (h : f i = x) : upd f i x = f := by
  funext k
  by_cases e : k = i
  · subst e
    rw [pk_us, h]
  · rw [pk_un e]
/-- a store under a condition, told as one -/
theorem fa_upd_if (c : Prop) [Decidable c] (f : Nat → Int32) (i : Nat) (x : Int32) : (if c then upd f i x else f) = upd f i (if c then x else f i) := by
  by_cases h : c
  · rw [if_pos h, if_pos h]
  · rw [if_neg h, if_neg h, fa_upd_same rfl]
/-- two stores at one place, at two -/
theorem fa_upd_twice (f : Nat → Int32) (i : Nat) (x y : Int32) : upd (upd f i x) i y = upd f i y := by
  funext k
  by_cases e : k = i
  · subst e
    rw [pk_us, pk_us]
  · rw [pk_un e, pk_un e, pk_un e]
theorem fa_upd_swap (f : Nat → Int32) {i j : Nat} (h : i ≠ j) (x y : Int32) : upd (upd f i x) j y = upd (upd f j y) i x := by
  funext k
  by_cases e : k = i
  · subst e
    rw [pk_un h, pk_us, pk_us]
  · by_cases e2 : k = j
    · subst e2
      rw [pk_us, pk_un e, pk_us]
    · rw [pk_un e2, pk_un e, pk_un e, pk_un e2]
/-! ===== the first index with a property; a count ===== -/
/-- the first k < n with p k, n if there is none -/
def fa_first (p : Nat → Bool) : Nat → Nat
  | 0 => 0
  | n + 1 => if fa_first p n < n then fa_first p n else if p n then n else n + 1
theorem fa_first_le (p : Nat → Bool) : ∀ n, fa_first p n ≤ n
  | 0 => Nat.le_refl 0
  | n + 1 => by
    have ih := fa_first_le p n
    unfold fa_first
    split
    · omega
    · split
      · omega
      · omega
theorem fa_first_no (p : Nat → Bool) : ∀ n k, k < fa_first p n → p k = false
  | 0, k, h => absurd h (Nat.not_lt_zero k)
  | n + 1, k, h => by
    have ih := fa_first_no p n
    have hl := fa_first_le p n
    unfold fa_first at h
    split at h
    · exact ih k h
    · rename_i h1
      split at h
      · exact ih k (by omega)
      · rename_i h2
        by_cases e : k = n
        · subst e
          exact Bool.eq_false_iff.mpr h2
        · exact ih k (by omega)
theorem fa_first_yes (p : Nat → Bool) : ∀ n, fa_first p n < n → p (fa_first p n) = true
  | 0, h => absurd h (Nat.not_lt_zero _)
  | n + 1, h => by
    have ih := fa_first_yes p n
    have hl := fa_first_le p n
    unfold fa_first at h ⊢
    split at h
    · rename_i h1
      rw [if_pos h1]
      exact ih h1
    · rename_i h1
      rw [if_neg h1]
      split at h
      · rename_i h2
        rw [if_pos h2]
        exact h2
      · omega
/-- how many k < n have p k -/
def fa_cnt (p : Nat → Bool) : Nat → Nat
  | 0 => 0
  | n + 1 => fa_cnt p n + if p n then 1 else 0
theorem fa_cnt_le (p : Nat → Bool) : ∀ n, fa_cnt p n ≤ n
  | 0 => Nat.le_refl 0
  | n + 1 => by
    have ih := fa_cnt_le p n
    unfold fa_cnt
    split
    · omega
    · omega
theorem fa_cnt_yes {p : Nat → Bool} {n : Nat} (h : p n = true) : fa_cnt p (n + 1) = fa_cnt p n + 1 := by rw [fa_cnt, if_pos h]
theorem fa_cnt_no {p : Nat → Bool} {n : Nat} (h : p n = false) : fa_cnt p (n + 1) = fa_cnt p n := by rw [fa_cnt, if_neg (by rw [h]; decide)]; rfl
theorem fa_cnt_cong {p q : Nat → Bool} : ∀ {n : Nat}, (∀ k, k < n → p k = q k) → fa_cnt p n = fa_cnt q n
  | 0, _ => rfl
  | n + 1, h => by rw [fa_cnt, fa_cnt, fa_cnt_cong (fun k hk => h k (Nat.lt_succ_of_lt hk)), h n (Nat.lt_succ_self n)]
/-! ===== an answer carried into a post; a branch on a boolean answer ===== -/
theorem fa_post {α : Type} {P : α → Prop} {x y : α} (h : x = y) (hp : P y) : P x := h ▸ hp
theorem fa_post2 {α β : Type} {P : α → β → Prop} {x y : α} {u v : β} (h : x = y) (h2 : u = v) (hp : P y v) : P x u := h ▸ h2 ▸ hp
theorem fa_bool {r : Int32} {b : Bool} (h : r = if b then 1 else 0) : (r = 0 ↔ b = false) ∧ (¬ r = 0 ↔ b = true) := by
  subst h
  cases b
  · exact ⟨⟨fun _ => rfl, fun _ => rfl⟩, ⟨fun h => absurd rfl h, fun h => absurd h (by decide)⟩⟩
  · exact ⟨⟨fun h => absurd h (by decide), fun h => absurd h (by decide)⟩, ⟨fun _ => rfl, fun _ => by decide⟩⟩
/-- a boolean's narrowing changes nothing -/
theorem fa_bool_and {r : Int32} (h : r = 0 ∨ r = 1) : r &&& 1 = r := by
  rcases h with rfl | rfl
  · decide
  · decide
theorem fa_bool_prop {c : Prop} [Decidable c] {r : Int32} (h : r = if c then 1 else 0) : (r = 0 ↔ ¬ c) ∧ (¬ r = 0 ↔ c) := by
  subst h
  by_cases hc : c
  · rw [if_pos hc]
    exact ⟨⟨fun h => absurd h (by decide), fun h => absurd hc h⟩, ⟨fun _ => hc, fun _ => by decide⟩⟩
  · rw [if_neg hc]
    exact ⟨⟨fun _ => hc, fun _ => rfl⟩, ⟨fun h => absurd rfl h, fun h => absurd h hc⟩⟩
/-! plain facts to paste, each family by itself; over the kit's nI, lN and upd -/
/-! ===== drawers: more things than places ===== -/
theorem fb_holes : ∀ (m n : Nat) (f : Nat → Nat), (∀ i, i < n → f i < m) → (∀ i j, i < j → j < n → f i ≠ f j) → n ≤ m := by
  intro m
  induction m with
  | zero =>
    intro n f h1 _
    rcases Nat.eq_zero_or_pos n with h | h
    · omega
    · exact absurd (h1 0 h) (Nat.not_lt_zero _)
  | succ m ih =>
    intro n f h1 h2
    by_cases hx : ∃ i, i < n ∧ f i = m
    · obtain ⟨a, ha, hfa⟩ := hx
      have hg := ih (n - 1) (fun i => if i < a then f i else f (i + 1)) (by
        intro i hi
        by_cases q : i < a
        · simp only [if_pos q]
          have b1 := h1 i (by omega)
          have b2 := h2 i a q ha
          omega
        · simp only [if_neg q]
          have b1 := h1 (i + 1) (by omega)
          have b2 := h2 a (i + 1) (by omega) (by omega)
          omega) (by
        intro i j hij hj
        by_cases q : i < a
        · by_cases r : j < a
          · simp only [if_pos q, if_pos r]
            exact h2 i j hij (by omega)
          · simp only [if_pos q, if_neg r]
            exact h2 i (j + 1) (by omega) (by omega)
        · have r : ¬ j < a := by omega
          simp only [if_neg q, if_neg r]
          exact h2 (i + 1) (j + 1) (by omega) (by omega))
      omega
    · have hg := ih n f (fun i hi => by
        have b1 := h1 i hi
        have b2 : f i ≠ m := fun e => hx ⟨i, hi, e⟩
        omega) h2
      omega
/-- two of them in one place -/
theorem fb_twice {m n : Nat} {f : Nat → Nat} (h : ∀ i, i < n → f i < m) (hm : m < n) : ∃ i j, i < j ∧ j < n ∧ f i = f j := by
  refine Classical.byContradiction fun hx => ?_
  have := fb_holes m n f h (fun i j hij hj e => hx ⟨i, j, hij, hj, e⟩)
  omega
/-- as many as places, none twice: each place is taken -/
theorem fb_onto {n : Nat} {f : Nat → Nat} (h : ∀ i, i < n → f i < n) (h2 : ∀ i j, i < j → j < n → f i ≠ f j) {y : Nat} (hy : y < n) : ∃ i, i < n ∧ f i = y := by
  refine Classical.byContradiction fun hx => ?_
  have hne : ∀ i, i < n → f i ≠ y := fun i hi e => hx ⟨i, hi, e⟩
  have := fb_holes (n - 1) n (fun i => if f i < y then f i else f i - 1) (by
    intro i hi
    have b1 := h i hi
    have b2 := hne i hi
    by_cases q : f i < y
    · simp only [if_pos q]; omega
    · simp only [if_neg q]; omega) (by
    intro i j hij hj
    have b1 := hne i (by omega)
    have b2 := hne j hj
    have b3 := h2 i j hij hj
    by_cases q : f i < y
    · by_cases r : f j < y
      · simp only [if_pos q, if_pos r]; exact b3
      · simp only [if_pos q, if_neg r]; omega
    · by_cases r : f j < y
      · simp only [if_neg q, if_pos r]; omega
      · simp only [if_neg q, if_neg r]; omega)
  omega
/-! ===== how many places have a property ===== -/
def fb_ct (p : Nat → Bool) : Nat → Nat
  | 0 => 0
  | n + 1 => fb_ct p n + (if p n then 1 else 0)
theorem fb_ct_succ (p : Nat → Bool) (n : Nat) : fb_ct p (n + 1) = fb_ct p n + (if p n then 1 else 0) := rfl
theorem fb_ct_le (p : Nat → Bool) : ∀ n, fb_ct p n ≤ n
  | 0 => Nat.le_refl _
  | n + 1 => by
    have h := fb_ct_le p n
    rw [fb_ct_succ]
    split <;> omega
theorem fb_ct_step (p : Nat → Bool) (m : Nat) : ∀ n, fb_ct p m ≤ fb_ct p (m + n)
  | 0 => Nat.le_refl _
  | n + 1 => by
    have h := fb_ct_step p m n
    show fb_ct p m ≤ fb_ct p (m + n + 1)
    rw [fb_ct_succ]
    omega
theorem fb_ct_mono (p : Nat → Bool) {m n : Nat} (h : m ≤ n) : fb_ct p m ≤ fb_ct p n := by
  have := fb_ct_step p m (n - m)
  rwa [Nat.add_sub_cancel' h] at this
theorem fb_ct_cong {p q : Nat → Bool} : ∀ {n : Nat}, (∀ k, k < n → p k = q k) → fb_ct p n = fb_ct q n
  | 0, _ => rfl
  | n + 1, h => by
    rw [fb_ct_succ, fb_ct_succ, fb_ct_cong (fun k hk => h k (by omega)), h n (by omega)]
/-- one place changed -/
theorem fb_ct_out (p : Nat → Bool) (b : Bool) {i n : Nat} (h : n ≤ i) : fb_ct (fun k => if k = i then b else p k) n = fb_ct p n :=
  fb_ct_cong fun k hk => if_neg (by omega)
theorem fb_ct_upd (p : Nat → Bool) (b : Bool) {i : Nat} : ∀ {n : Nat}, i < n → fb_ct (fun k => if k = i then b else p k) n + (if p i then 1 else 0) = fb_ct p n + (if b then 1 else 0)
  | 0, h => absurd h (Nat.not_lt_zero i)
  | n + 1, h => by
    rw [fb_ct_succ, fb_ct_succ]
    rcases Nat.lt_or_ge i n with q | q
    · have := fb_ct_upd p b q
      have e : (if n = i then b else p n) = p n := if_neg (by omega)
      rw [e]
      omega
    · have e : i = n := by omega
      subst e
      rw [fb_ct_out p b (Nat.le_refl _)]
      simp only [if_true]
      omega
theorem fb_ct_sub {p q : Nat → Bool} : ∀ {n : Nat}, (∀ k, k < n → p k = true → q k = true) → fb_ct p n ≤ fb_ct q n
  | 0, _ => Nat.le_refl _
  | n + 1, h => by
    have h1 := fb_ct_sub (n := n) (p := p) (q := q) (fun k hk => h k (by omega))
    have h2 := h n (by omega)
    rw [fb_ct_succ, fb_ct_succ]
    cases hp : p n <;> cases hq : q n <;> simp_all <;> omega
theorem fb_ct_or {p q : Nat → Bool} : ∀ {n : Nat}, (∀ k, k < n → ¬ (p k = true ∧ q k = true)) → fb_ct (fun k => p k || q k) n = fb_ct p n + fb_ct q n
  | 0, _ => rfl
  | n + 1, h => by
    have h1 := fb_ct_or (n := n) (p := p) (q := q) (fun k hk => h k (by omega))
    have h2 := h n (by omega)
    rw [fb_ct_succ, fb_ct_succ, fb_ct_succ, h1]
    cases hp : p n <;> cases hq : q n <;> simp_all <;> omega
theorem fb_ct_not (p : Nat → Bool) : ∀ n, fb_ct p n + fb_ct (fun k => !p k) n = n
  | 0 => rfl
  | n + 1 => by
    have h := fb_ct_not p n
    rw [fb_ct_succ, fb_ct_succ]
    cases p n <;> simp <;> omega
theorem fb_ct_split (p : Nat → Bool) (m : Nat) : ∀ n, fb_ct p (m + n) = fb_ct p m + fb_ct (fun k => p (m + k)) n
  | 0 => rfl
  | n + 1 => by
    have h := fb_ct_split p m n
    show fb_ct p (m + n + 1) = _
    rw [fb_ct_succ, fb_ct_succ, h, Nat.add_assoc]
theorem fb_ct_zero {p : Nat → Bool} : ∀ {n : Nat}, fb_ct p n = 0 ↔ ∀ k, k < n → p k = false
  | 0 => ⟨fun _ k hk => absurd hk (Nat.not_lt_zero k), fun _ => rfl⟩
  | n + 1 => by
    have h := fb_ct_zero (p := p) (n := n)
    rw [fb_ct_succ]
    constructor
    · intro e k hk
      have e1 : fb_ct p n = 0 := by omega
      rcases Nat.lt_or_ge k n with q | q
      · exact h.mp e1 k q
      · have ek : k = n := by omega
        subst ek
        cases hp : p k
        · rfl
        · simp [hp] at e
    · intro a
      rw [h.mpr (fun k hk => a k (by omega)), a n (by omega)]
      rfl
theorem fb_ct_pos {p : Nat → Bool} {n : Nat} : 0 < fb_ct p n ↔ ∃ k, k < n ∧ p k = true := by
  constructor
  · intro h
    refine Classical.byContradiction fun hx => ?_
    have := fb_ct_zero.mpr (fun k hk => by
      cases hp : p k
      · rfl
      · exact absurd ⟨k, hk, hp⟩ hx : ∀ k, k < n → p k = false)
    omega
  · rintro ⟨k, hk, hp⟩
    rcases Nat.eq_zero_or_pos (fb_ct p n) with e | e
    · have := fb_ct_zero.mp e k hk
      rw [this] at hp
      cases hp
    · exact e
theorem fb_ct_all {p : Nat → Bool} {n : Nat} : fb_ct p n = n ↔ ∀ k, k < n → p k = true := by
  have h := fb_ct_not p n
  constructor
  · intro e k hk
    have z : fb_ct (fun k => !p k) n = 0 := by omega
    have := fb_ct_zero.mp z k hk
    cases hp : p k
    · simp [hp] at this
    · rfl
  · intro a
    have z : fb_ct (fun k => !p k) n = 0 := fb_ct_zero.mpr (fun k hk => by simp [a k hk])
    omega
/-- the k-th place with the property -/
theorem fb_ct_kth {p : Nat → Bool} {k : Nat} : ∀ {n : Nat}, k < fb_ct p n → ∃ i, i < n ∧ p i = true ∧ fb_ct p i = k
  | 0, h => absurd h (Nat.not_lt_zero k)
  | n + 1, h => by
    rcases Nat.lt_or_ge k (fb_ct p n) with q | q
    · obtain ⟨i, h1, h2⟩ := fb_ct_kth q
      exact ⟨i, by omega, h2⟩
    · rw [fb_ct_succ] at h
      cases hp : p n
      · simp [hp] at h; omega
      · simp [hp] at h
        exact ⟨n, by omega, hp, by omega⟩
theorem fb_ct_kth_one {p : Nat → Bool} {i j : Nat} (hi : p i = true) (hj : p j = true) (e : fb_ct p i = fb_ct p j) : i = j := by
  have key : ∀ a b : Nat, a < b → p a = true → fb_ct p a < fb_ct p b := by
    intro a b hab ha
    have h := fb_ct_mono p (show a + 1 ≤ b from hab)
    rw [fb_ct_succ, ha] at h
    simp at h
    omega
  rcases Nat.lt_trichotomy i j with q | q | q
  · have := key i j q hi; omega
  · exact q
  · have := key j i q hj; omega
/-! ===== sums over a range: one place changed, parts, bounds ===== -/
def fb_sm (f : Nat → Nat) : Nat → Nat
  | 0 => 0
  | n + 1 => fb_sm f n + f n
theorem fb_sm_succ (f : Nat → Nat) (n : Nat) : fb_sm f (n + 1) = fb_sm f n + f n := rfl
theorem fb_sm_cong {f g : Nat → Nat} : ∀ {n : Nat}, (∀ k, k < n → f k = g k) → fb_sm f n = fb_sm g n
  | 0, _ => rfl
  | n + 1, h => by rw [fb_sm_succ, fb_sm_succ, fb_sm_cong (fun k hk => h k (by omega)), h n (by omega)]
theorem fb_sm_out (f : Nat → Nat) (v : Nat) {i n : Nat} (h : n ≤ i) : fb_sm (fun k => if k = i then v else f k) n = fb_sm f n :=
  fb_sm_cong fun k hk => if_neg (by omega)
theorem fb_sm_upd (f : Nat → Nat) (v : Nat) {i : Nat} : ∀ {n : Nat}, i < n → fb_sm (fun k => if k = i then v else f k) n + f i = fb_sm f n + v
  | 0, h => absurd h (Nat.not_lt_zero i)
  | n + 1, h => by
    rw [fb_sm_succ, fb_sm_succ]
    rcases Nat.lt_or_ge i n with q | q
    · have := fb_sm_upd f v q
      have e : (if n = i then v else f n) = f n := if_neg (by omega)
      rw [e]
      omega
    · have e : i = n := by omega
      subst e
      rw [fb_sm_out f v (Nat.le_refl _)]
      simp only [if_true]
      omega
theorem fb_sm_add (f g : Nat → Nat) : ∀ n, fb_sm (fun k => f k + g k) n = fb_sm f n + fb_sm g n
  | 0 => rfl
  | n + 1 => by
    have h := fb_sm_add f g n
    rw [fb_sm_succ, fb_sm_succ, fb_sm_succ, h]
    omega
theorem fb_sm_le {f g : Nat → Nat} : ∀ {n : Nat}, (∀ k, k < n → f k ≤ g k) → fb_sm f n ≤ fb_sm g n
  | 0, _ => Nat.le_refl _
  | n + 1, h => by
    have h1 := fb_sm_le (n := n) (f := f) (g := g) (fun k hk => h k (by omega))
    have h2 := h n (by omega)
    rw [fb_sm_succ, fb_sm_succ]
    omega
theorem fb_sm_const (c : Nat) : ∀ n, fb_sm (fun _ => c) n = n * c
  | 0 => by rw [Nat.zero_mul]; rfl
  | n + 1 => by rw [fb_sm_succ, fb_sm_const c n, Nat.succ_mul]
theorem fb_sm_bound {f : Nat → Nat} {c n : Nat} (h : ∀ k, k < n → f k ≤ c) : fb_sm f n ≤ n * c := by
  rw [← fb_sm_const c n]
  exact fb_sm_le h
theorem fb_sm_mono (f : Nat → Nat) (m : Nat) : ∀ n, fb_sm f m ≤ fb_sm f (m + n)
  | 0 => Nat.le_refl _
  | n + 1 => by
    have h := fb_sm_mono f m n
    show fb_sm f m ≤ fb_sm f (m + n + 1)
    rw [fb_sm_succ]
    omega
theorem fb_sm_part (f : Nat → Nat) {i n : Nat} (h : i < n) : fb_sm f i + f i ≤ fb_sm f n := by
  have := fb_sm_mono f (i + 1) (n - (i + 1))
  rw [fb_sm_succ, show i + 1 + (n - (i + 1)) = n by omega] at this
  exact this
theorem fb_sm_split (f : Nat → Nat) (m : Nat) : ∀ n, fb_sm f (m + n) = fb_sm f m + fb_sm (fun k => f (m + k)) n
  | 0 => rfl
  | n + 1 => by
    have h := fb_sm_split f m n
    show fb_sm f (m + n + 1) = _
    rw [fb_sm_succ, fb_sm_succ, h, Nat.add_assoc]
theorem fb_sm_zero {f : Nat → Nat} {n : Nat} (h : fb_sm f n = 0) : ∀ k, k < n → f k = 0 := fun k hk => by
  have := fb_sm_part f hk
  omega
/-- the same over whole numbers -/
def fb_si (f : Nat → Int) : Nat → Int
  | 0 => 0
  | n + 1 => fb_si f n + f n
theorem fb_si_succ (f : Nat → Int) (n : Nat) : fb_si f (n + 1) = fb_si f n + f n := rfl
theorem fb_si_cong {f g : Nat → Int} : ∀ {n : Nat}, (∀ k, k < n → f k = g k) → fb_si f n = fb_si g n
  | 0, _ => rfl
  | n + 1, h => by rw [fb_si_succ, fb_si_succ, fb_si_cong (fun k hk => h k (by omega)), h n (by omega)]
theorem fb_si_out (f : Nat → Int) (v : Int) {i n : Nat} (h : n ≤ i) : fb_si (fun k => if k = i then v else f k) n = fb_si f n :=
  fb_si_cong fun k hk => if_neg (by omega)
theorem fb_si_upd (f : Nat → Int) (v : Int) {i : Nat} : ∀ {n : Nat}, i < n → fb_si (fun k => if k = i then v else f k) n = fb_si f n - f i + v
  | 0, h => absurd h (Nat.not_lt_zero i)
  | n + 1, h => by
    rw [fb_si_succ, fb_si_succ]
    rcases Nat.lt_or_ge i n with q | q
    · have := fb_si_upd f v q
      have e : (if n = i then v else f n) = f n := if_neg (by omega)
      rw [e]
      omega
    · have e : i = n := by omega
      subst e
      rw [fb_si_out f v (Nat.le_refl _)]
      simp only [if_true]
      omega
theorem fb_si_add (f g : Nat → Int) : ∀ n, fb_si (fun k => f k + g k) n = fb_si f n + fb_si g n
  | 0 => rfl
  | n + 1 => by
    have h := fb_si_add f g n
    rw [fb_si_succ, fb_si_succ, fb_si_succ, h]
    omega
theorem fb_si_sub (f g : Nat → Int) : ∀ n, fb_si (fun k => f k - g k) n = fb_si f n - fb_si g n
  | 0 => rfl
  | n + 1 => by
    have h := fb_si_sub f g n
    rw [fb_si_succ, fb_si_succ, fb_si_succ, h]
    omega
theorem fb_si_mul (c : Int) (f : Nat → Int) : ∀ n, fb_si (fun k => c * f k) n = c * fb_si f n
  | 0 => (Int.mul_zero c).symm
  | n + 1 => by
    have h := fb_si_mul c f n
    rw [fb_si_succ, fb_si_succ, h, Int.mul_add]
theorem fb_si_split (f : Nat → Int) (m : Nat) : ∀ n, fb_si f (m + n) = fb_si f m + fb_si (fun k => f (m + k)) n
  | 0 => (Int.add_zero _).symm
  | n + 1 => by
    have h := fb_si_split f m n
    show fb_si f (m + n + 1) = _
    rw [fb_si_succ, fb_si_succ, h, Int.add_assoc]
theorem fb_si_nat (f : Nat → Nat) : ∀ n, fb_si (fun k => (f k : Int)) n = (fb_sm f n : Int)
  | 0 => rfl
  | n + 1 => by
    have h := fb_si_nat f n
    rw [fb_si_succ, fb_sm_succ, h]
    omega
theorem fb_si_bound {f : Nat → Int} {c : Int} (hc : 0 ≤ c) : ∀ {n : Nat}, (∀ k, k < n → -c ≤ f k ∧ f k ≤ c) → -(n * c) ≤ fb_si f n ∧ fb_si f n ≤ n * c
  | 0, _ => by simp [fb_si]
  | n + 1, h => by
    have h1 := fb_si_bound (n := n) (f := f) hc (fun k hk => h k (by omega))
    have h2 := h n (by omega)
    have e : ((n + 1 : Nat) : Int) * c = n * c + c := by rw [Int.natCast_add, Int.add_mul]; simp
    rw [fb_si_succ, e]
    omega
/-! ===== bits of a long that isn't negative ===== -/
theorem fb_andL (a b : Nat) : lN a &&& lN b = lN (a &&& b) := by
  apply Int64.toBitVec_inj.1
  show BitVec.ofNat 64 a &&& BitVec.ofNat 64 b = BitVec.ofNat 64 (a &&& b)
  apply BitVec.eq_of_getLsbD_eq
  intro i hi
  simp [hi]
theorem fb_orL (a b : Nat) : lN a ||| lN b = lN (a ||| b) := by
  apply Int64.toBitVec_inj.1
  show BitVec.ofNat 64 a ||| BitVec.ofNat 64 b = BitVec.ofNat 64 (a ||| b)
  apply BitVec.eq_of_getLsbD_eq
  intro i hi
  simp [hi]
theorem fb_xorL (a b : Nat) : lN a ^^^ lN b = lN (a ^^^ b) := by
  apply Int64.toBitVec_inj.1
  show BitVec.ofNat 64 a ^^^ BitVec.ofNat 64 b = BitVec.ofNat 64 (a ^^^ b)
  apply BitVec.eq_of_getLsbD_eq
  intro i hi
  simp [hi]
theorem fb_xorI (a b : Nat) : nI a ^^^ nI b = nI (a ^^^ b) := by
  apply Int32.toBitVec_inj.1
  show BitVec.ofNat 32 a ^^^ BitVec.ofNat 32 b = BitVec.ofNat 32 (a ^^^ b)
  apply BitVec.eq_of_getLsbD_eq
  intro i hi
  simp [hi]
theorem fb_maskL (n k : Nat) : lN n &&& lN (2 ^ k - 1) = lN (n % 2 ^ k) := by rw [fb_andL, Nat.and_two_pow_sub_one_eq_mod]
theorem fb_or_sumL {a k : Nat} (b : Nat) (h : a < 2 ^ k) : lN (2 ^ k * b) ||| lN a = lN (2 ^ k * b + a) := by rw [fb_orL, Nat.two_pow_add_eq_or_of_lt h]
theorem fb_lN_inj {a b : Nat} (ha : a < 2 ^ 63) (hb : b < 2 ^ 63) : lN a = lN b ↔ a = b := by
  constructor
  · intro h
    have h1 : (BitVec.ofNat 64 a).toNat = (BitVec.ofNat 64 b).toNat := congrArg (fun x : Int64 => x.toBitVec.toNat) h
    rw [BitVec.toNat_ofNat, BitVec.toNat_ofNat, Nat.mod_eq_of_lt (by omega), Nat.mod_eq_of_lt (by omega)] at h1
    exact h1
  · rintro rfl; rfl
theorem fb_bit_nat (n j : Nat) : n &&& 2 ^ j = 0 ↔ n.testBit j = false := by
  constructor
  · intro h
    have h1 : (n &&& 2 ^ j).testBit j = false := by rw [h]; simp
    rw [Nat.testBit_and] at h1
    simpa using h1
  · intro h
    apply Nat.eq_of_testBit_eq
    intro i
    rw [Nat.testBit_and]
    by_cases hi : j = i
    · subst hi; simp [h]
    · first | (simp [Nat.testBit_two_pow, hi]; done) | (simp [Nat.testBit_two_pow_of_ne hi]; done)
/-- one bit of a long -/
theorem fb_bitL {n j : Nat} (hj : j < 63) : lN n &&& lN (2 ^ j) = 0 ↔ n.testBit j = false := by
  have h2 : (2 : Nat) ^ j < 2 ^ 63 := Nat.pow_lt_pow_right (by decide) hj
  have hle : n &&& 2 ^ j ≤ 2 ^ j := Nat.and_le_right
  rw [fb_andL, ← fb_bit_nat, show (0 : Int64) = lN 0 from rfl]
  exact fb_lN_inj (by omega) (by decide)
/-- a bit set, a bit taken off -/
theorem fb_bit_set (n j i : Nat) : (n ||| 2 ^ j).testBit i = (n.testBit i || decide (i = j)) := by
  rw [Nat.testBit_or]
  by_cases h : j = i
  · subst h; simp
  · have h2 : ¬ i = j := fun e => h e.symm
    first | (simp [Nat.testBit_two_pow, h, h2]; done) | (simp [Nat.testBit_two_pow_of_ne h, h2]; done)
theorem fb_bit_flip (n j i : Nat) : (n ^^^ 2 ^ j).testBit i = (n.testBit i ^^ decide (i = j)) := by
  rw [Nat.testBit_xor]
  by_cases h : j = i
  · subst h; simp
  · have h2 : ¬ i = j := fun e => h e.symm
    first | (simp [Nat.testBit_two_pow, h, h2]; done) | (simp [Nat.testBit_two_pow_of_ne h, h2]; done)
/-! ===== a stretch of an array written over by a function ===== -/
def fb_put {α : Type} (f g : Nat → α) (a n : Nat) : Nat → α := fun k => if a ≤ k ∧ k < a + n then g (k - a) else f k
theorem fb_put_0 {α : Type} (f g : Nat → α) (a : Nat) : fb_put f g a 0 = f := funext fun k => if_neg (by omega)
theorem fb_put_in {α : Type} {f g : Nat → α} {a n k : Nat} (h1 : a ≤ k) (h2 : k < a + n) : fb_put f g a n k = g (k - a) := if_pos ⟨h1, h2⟩
theorem fb_put_out {α : Type} {f g : Nat → α} {a n k : Nat} (h : k < a ∨ a + n ≤ k) : fb_put f g a n k = f k := if_neg (by omega)
theorem fb_put_succ (f g : Nat → Int32) (a n : Nat) : upd (fb_put f g a n) (a + n) (g n) = fb_put f g a (n + 1) := by
  funext k
  by_cases h : k = a + n
  · subst h
    simp [upd, fb_put]
  · by_cases h1 : a ≤ k ∧ k < a + n
    · have h2 : a ≤ k ∧ k < a + (n + 1) := by omega
      simp only [upd, fb_put, if_neg h, if_pos h1, if_pos h2]
    · have h2 : ¬ (a ≤ k ∧ k < a + (n + 1)) := by omega
      simp only [upd, fb_put, if_neg h, if_neg h1, if_neg h2]
/-- .. from the far end down -/
theorem fb_put_down (f g : Nat → Int32) {a n m : Nat} (h : m < n) : upd (fb_put f (fun k => g (k + (m + 1))) (a + (m + 1)) (n - (m + 1))) (a + m) (g m) = fb_put f (fun k => g (k + m)) (a + m) (n - m) := by
  funext k
  by_cases h0 : k = a + m
  · subst h0
    simp only [upd, if_true]
    rw [fb_put_in (by omega) (by omega)]
    exact congrArg g (by omega)
  · simp only [upd, if_neg h0]
    by_cases h1 : a + (m + 1) ≤ k ∧ k < a + (m + 1) + (n - (m + 1))
    · rw [fb_put_in h1.1 h1.2, fb_put_in (by omega) (by omega)]
      exact congrArg g (by omega)
    · rw [fb_put_out (by omega), fb_put_out (by omega)]
theorem fb_put_cong {α : Type} {f f2 g g2 : Nat → α} {a n : Nat} (hf : ∀ k, (k < a ∨ a + n ≤ k) → f k = f2 k) (hg : ∀ k, k < n → g k = g2 k) : fb_put f g a n = fb_put f2 g2 a n := by
  funext k
  by_cases h : a ≤ k ∧ k < a + n
  · rw [fb_put_in h.1 h.2, fb_put_in h.1 h.2, hg _ (by omega)]
  · rw [fb_put_out (by omega), fb_put_out (by omega), hf _ (by omega)]
/-! ===== the least, the first, the best so far; that there is one alone ===== -/
theorem fb_first {p : Nat → Prop} [DecidablePred p] : ∀ {n : Nat}, (∃ i, i < n ∧ p i) → ∃ i, i < n ∧ p i ∧ ∀ j, j < i → ¬ p j
  | 0, h => by obtain ⟨i, hi, -⟩ := h; exact absurd hi (Nat.not_lt_zero i)
  | n + 1, h => by
    by_cases q : ∃ i, i < n ∧ p i
    · obtain ⟨i, h1, h2⟩ := fb_first q
      exact ⟨i, by omega, h2⟩
    · obtain ⟨i, h1, h2⟩ := h
      have e : i = n := by
        rcases Nat.lt_or_ge i n with r | r
        · exact absurd ⟨i, r, h2⟩ q
        · omega
      subst e
      exact ⟨i, by omega, h2, fun j hj hp => q ⟨j, hj, hp⟩⟩
theorem fb_first_one {p : Nat → Prop} {i j : Nat} (hi : p i) (hi2 : ∀ k, k < i → ¬ p k) (hj : p j) (hj2 : ∀ k, k < j → ¬ p k) : i = j := by
  rcases Nat.lt_trichotomy i j with q | q | q
  · exact absurd hi (hj2 i q)
  · exact q
  · exact absurd hj (hi2 j q)
theorem fb_last {p : Nat → Prop} [DecidablePred p] : ∀ {n : Nat}, (∃ i, i < n ∧ p i) → ∃ i, i < n ∧ p i ∧ ∀ j, i < j → j < n → ¬ p j
  | 0, h => by obtain ⟨i, hi, -⟩ := h; exact absurd hi (Nat.not_lt_zero i)
  | n + 1, h => by
    by_cases q : p n
    · exact ⟨n, by omega, q, fun j h1 h2 => by omega⟩
    · obtain ⟨i, h1, h2⟩ := h
      have hi : i < n := by
        rcases Nat.lt_or_ge i n with r | r
        · exact r
        · have e : i = n := by omega
          subst e
          exact absurd h2 q
      obtain ⟨i2, a1, a2, a3⟩ := fb_last (n := n) ⟨i, hi, h2⟩
      refine ⟨i2, by omega, a2, fun j b1 b2 => ?_⟩
      rcases Nat.lt_or_ge j n with r | r
      · exact a3 j b1 r
      · have e : j = n := by omega
        subst e
        exact q
/-- the first greatest -/
theorem fb_best (f : Nat → Int) : ∀ {n : Nat}, 0 < n → ∃ i, i < n ∧ (∀ j, j < n → f j ≤ f i) ∧ ∀ j, j < i → f j < f i
  | 0, h => absurd h (Nat.lt_irrefl 0)
  | 1, _ => ⟨0, by omega, fun j hj => by have e : j = 0 := by omega
                                         subst e; exact Int.le_refl _, fun j hj => absurd hj (Nat.not_lt_zero j)⟩
  | n + 2, _ => by
    obtain ⟨i, h1, h2, h3⟩ := fb_best f (n := n + 1) (by omega)
    by_cases q : f i < f (n + 1)
    · refine ⟨n + 1, by omega, fun j hj => ?_, fun j hj => ?_⟩
      · rcases Nat.lt_or_ge j (n + 1) with r | r
        · have := h2 j r; omega
        · have e : j = n + 1 := by omega
          subst e; exact Int.le_refl _
      · have := h2 j hj; omega
    · refine ⟨i, by omega, fun j hj => ?_, h3⟩
      rcases Nat.lt_or_ge j (n + 1) with r | r
      · exact h2 j r
      · have e : j = n + 1 := by omega
        subst e; omega
theorem fb_best_one {f : Nat → Int} {n i j : Nat} (hi : i < n) (hi2 : ∀ k, k < n → f k ≤ f i) (hi3 : ∀ k, k < i → f k < f i) (hj : j < n) (hj2 : ∀ k, k < n → f k ≤ f j) (hj3 : ∀ k, k < j → f k < f j) : i = j := by
  rcases Nat.lt_trichotomy i j with q | q | q
  · have a := hj3 i q
    have b := hi2 j hj
    omega
  · exact q
  · have a := hi3 j q
    have b := hj2 i hi
    omega
/-- the first least -/
theorem fb_low (f : Nat → Int) {n : Nat} (h : 0 < n) : ∃ i, i < n ∧ (∀ j, j < n → f i ≤ f j) ∧ ∀ j, j < i → f i < f j := by
  obtain ⟨i, h1, h2, h3⟩ := fb_best (fun k => -f k) h
  exact ⟨i, h1, fun j hj => by have := h2 j hj; omega, fun j hj => by have := h3 j hj; omega⟩
/-! ===== signed ints as whole numbers, within bounds ===== -/
theorem fb_rng (x : Int32) : -2147483648 ≤ x.toInt ∧ x.toInt < 2147483648 := by
  have h1 := Int32.le_toInt x
  have h2 := Int32.toInt_lt x
  omega
theorem fb_bmod {z : Int} (h1 : -2147483648 ≤ z) (h2 : z < 2147483648) : z.bmod (2 ^ 32) = z := by
  rw [Int.bmod_eq_of_le (by omega) (by omega)]
theorem fb_addI {x y : Int32} (h1 : -2147483648 ≤ x.toInt + y.toInt) (h2 : x.toInt + y.toInt < 2147483648) : (x + y).toInt = x.toInt + y.toInt := by
  rw [Int32.toInt_add, fb_bmod h1 h2]
theorem fb_subI {x y : Int32} (h1 : -2147483648 ≤ x.toInt - y.toInt) (h2 : x.toInt - y.toInt < 2147483648) : (x - y).toInt = x.toInt - y.toInt := by
  rw [Int32.toInt_sub, fb_bmod h1 h2]
theorem fb_mulI {x y : Int32} (h1 : -2147483648 ≤ x.toInt * y.toInt) (h2 : x.toInt * y.toInt < 2147483648) : (x * y).toInt = x.toInt * y.toInt := by
  rw [Int32.toInt_mul, fb_bmod h1 h2]
theorem fb_negI {x : Int32} (h : x.toInt ≠ -2147483648) : (-x).toInt = -x.toInt := by
  have := fb_rng x
  rw [Int32.toInt_neg, fb_bmod (by omega) (by omega)]
theorem fb_ofI {z : Int} (h1 : -2147483648 ≤ z) (h2 : z < 2147483648) : (Int32.ofInt z).toInt = z := by
  rw [Int32.toInt_ofInt, fb_bmod h1 h2]
theorem fb_asI (x : Int32) : Int32.ofInt x.toInt = x := Int32.ofInt_toInt x
theorem fb_rngL (x : Int64) : -9223372036854775808 ≤ x.toInt ∧ x.toInt < 9223372036854775808 := by
  have h1 := Int64.le_toInt x
  have h2 := Int64.toInt_lt x
  omega
theorem fb_bmodL {z : Int} (h1 : -9223372036854775808 ≤ z) (h2 : z < 9223372036854775808) : z.bmod (2 ^ 64) = z := by
  rw [Int.bmod_eq_of_le (by omega) (by omega)]
theorem fb_addL {x y : Int64} (h1 : -9223372036854775808 ≤ x.toInt + y.toInt) (h2 : x.toInt + y.toInt < 9223372036854775808) : (x + y).toInt = x.toInt + y.toInt := by
  rw [Int64.toInt_add, fb_bmodL h1 h2]
theorem fb_subL {x y : Int64} (h1 : -9223372036854775808 ≤ x.toInt - y.toInt) (h2 : x.toInt - y.toInt < 9223372036854775808) : (x - y).toInt = x.toInt - y.toInt := by
  rw [Int64.toInt_sub, fb_bmodL h1 h2]
theorem fb_mulL {x y : Int64} (h1 : -9223372036854775808 ≤ x.toInt * y.toInt) (h2 : x.toInt * y.toInt < 9223372036854775808) : (x * y).toInt = x.toInt * y.toInt := by
  rw [Int64.toInt_mul, fb_bmodL h1 h2]
/-! ===== cuts of what is narrow already ===== -/
theorem fb_byte {x : Int32} (h1 : -128 ≤ x.toInt) (h2 : x.toInt < 128) : x.toInt8.toInt32 = x := by
  apply Int32.toInt_inj.1
  rw [Int8.toInt_toInt32, Int32.toInt_toInt8, Int.bmod_eq_of_le (by omega) (by omega)]
theorem fb_short {x : Int32} (h1 : -32768 ≤ x.toInt) (h2 : x.toInt < 32768) : x.toInt16.toInt32 = x := by
  apply Int32.toInt_inj.1
  rw [Int16.toInt_toInt32, Int32.toInt_toInt16, Int.bmod_eq_of_le (by omega) (by omega)]
theorem fb_byte_rng (x : Int32) : -128 ≤ x.toInt8.toInt32.toInt ∧ x.toInt8.toInt32.toInt < 128 := by
  rw [Int8.toInt_toInt32]
  have h1 := Int8.le_toInt x.toInt8
  have h2 := Int8.toInt_lt x.toInt8
  omega
theorem fb_short_rng (x : Int32) : -32768 ≤ x.toInt16.toInt32.toInt ∧ x.toInt16.toInt32.toInt < 32768 := by
  rw [Int16.toInt_toInt32]
  have h1 := Int16.le_toInt x.toInt16
  have h2 := Int16.toInt_lt x.toInt16
  omega
theorem fb_byte_twice (x : Int32) : x.toInt8.toInt32.toInt8.toInt32 = x.toInt8.toInt32 := fb_byte (fb_byte_rng x).1 (fb_byte_rng x).2
theorem fb_short_twice (x : Int32) : x.toInt16.toInt32.toInt16.toInt32 = x.toInt16.toInt32 := fb_short (fb_short_rng x).1 (fb_short_rng x).2
theorem fb_char {n : Nat} (h : n < 65536) : (nI n).toUInt32.toUInt16.toUInt32.toInt32 = nI n := by
  apply Int32.toBitVec_inj.1
  apply BitVec.eq_of_toNat_eq
  have e1 : (nI n).toBitVec.toNat = n := by
    show (BitVec.ofNat 32 n).toNat = n
    rw [BitVec.toNat_ofNat, Nat.mod_eq_of_lt (by omega)]
  have e2 : ((nI n).toUInt32.toUInt16.toUInt32).toNat = n := by
    rw [UInt16.toNat_toUInt32, UInt32.toNat_toUInt16]
    show (nI n).toBitVec.toNat % 2 ^ 16 = n
    rw [e1, Nat.mod_eq_of_lt (by omega)]
  rw [e1]
  exact e2
end
section
/-! ===== BEGIN exceptions that leave a method, and their catching by the caller (launches without stack traces) ===== -/
section VXA
/-! The laws vx_back, vx_callV, vx_callS, vx_callSW, vx_throw0, vx_throwS follow proofs of the library, with one case more: JvmDerived/Free/Laws.lean (Back.of_free), Shelf42/LK1.lean (callV, callS), Shelf/KitTraced.lean (throwNew0V, throwNewS). -/
/-- where a method has thrown q: the class by its name, the cell, what was written, the world -/
def vx_T (XC : String → State → State → Prop) (st : State) (q : Addr) (t : State) (mc ms : Nat) (free : Addr → Prop) : Prop :=
  ∃ (E : String) (ce : Cell) (L : List Loc), XC E st t ∧ t.heap[q]? = some ce ∧ ce.vm = .none ∧ st.vm.findClass E = some ce.cls ∧ st.WarmedH t.vm ∧ st.sameButNew ({ t with vm := st.vm } : State) L mc ms ∧ ∀ z ∈ L, free z.base
def vx_Q (Qc : Array Value → State → Outcome → State → Prop) (XC : String → State → State → Prop) (mc ms : Nat) (free : Addr → Prop) : Array Value → State → Outcome → State → Prop := fun a st o t =>
  (Qc a st o t ∧ ∃ L, FrameEnd st o t L mc ms ∧ ∀ q ∈ L, free q.base) ∨ ∃ q, o = .threw q ∧ vx_T XC st q t mc ms free
/-- a callee that returns or throws -/
def vx_Met (l : Launch) (y : MethodName) (ws : List Cond) (rm : Room) (Pc : Array Value → State → Prop) (Qc : Array Value → State → Outcome → State → Prop) (XC : String → State → State → Prop) (mc ms : Nat) (free : Addr → Prop) : Prop :=
  MetFree l y (headSpec ws rm) Pc (fun _ _ _ _ _ => True) (vx_Q Qc XC mc ms free)
def vx_Post (XC : String → State → State → Prop) (mc ms : Nat) (free : Addr → Prop) : Pt → Array Value → Addr → Pt → Prop := fun A a q B =>
  ∃ (g : JFrame) (mk : MethodId) (t : State) (L : List Loc) (E : String) (ce : Cell), B.U.heap = t.heap ∧ B.U.vm = t.vm ∧ XC E (A.U.calling g mk a) t ∧ t.heap[q]? = some ce ∧ ce.vm = .none ∧ A.U.vm.findClass E = some ce.cls ∧ B.locs = A.locs ++ L ∧ (∀ z ∈ L, free z.base) ∧ B.cells = A.cells + mc ∧ B.slots = A.slots + ms
def vx_Back (l : Launch) (R : Room) (p : Program) (e : Env) (below : List Frame) (s : State) (sargs : Array Value) (y : MethodName) (len W9 : Nat)
    (Pre : Pt → Array Value → Prop) (Post : Pt → Array Value → Option Value → Pt → Prop) (PostX : Pt → Array Value → Addr → Pt → Prop) : Prop :=
  ∀ (m : MethodId) (meth : Method) (c : Code) (A : Pt) (g : JFrame) (ig : Instr) (mk : MethodId) (a : Array Value),
    Stand p l e R s m sargs below meth c A.U A.locs A.cells A.slots → g.method = m → g.locals.size = c.maxLocals → decode c.code g.pc = .ok (ig, len) →
    2 * g.monitorRoom + (g.stack.map fun v => v.category).sum ≤ W9 → A.U.methodNamed? y = some mk → Pre A a →
    (∃ (v : Option Value) (B : Pt), Stand p l e R s m sargs below meth c B.U B.locs B.cells B.slots ∧ Post A a v B ∧
      Steps p.tables e below (doInvoke e (A.U.setTop g) [] mk a).1 (B.U.setTop { g with pc := g.pc + len, stack := v.toList ++ g.stack })) ∨
    (∃ (q : Addr) (B : Pt), Stand p l e R s m sargs below meth c B.U B.locs B.cells B.slots ∧ PostX A a q B ∧
      Steps p.tables e below (doInvoke e (A.U.setTop g) [] mk a).1 ((B.U.setTop g).pushFrame (.throwing q)))
section Payer
variable {l : Launch} {R : Room} {p : Program} {e : Env} {below : List Frame} {s : State} {sargs : Array Value} {y : MethodName} {len W9 : Nat}
theorem vx_back {ws : List Cond} {rm : Room} {Pc : Array Value → State → Prop} {Qc : Array Value → State → Outcome → State → Prop} {XC : String → State → State → Prop} {mc ms : Nat} {free : Addr → Prop} {bytes : ByteArray} {maxL : Nat} {ret : Option FieldType}
    (hM : vx_Met l y ws rm Pc Qc XC mc ms free) (hblind : FrameBlind Pc) (hrc : rm.cells = mc) (hrs : rm.slots = ms)
    (hframes : rm.frames + 1 ≤ R.frames) (hlocals : W9 + (maxL + 11) + rm.locals ≤ R.locals)
    (hws : ∀ w ∈ ws, ∀ a' U, s.WarmedH U.vm → w.before a' U = true) (hcode : Cond.code y bytes maxL ret ∈ ws) (hinit : ∀ a' U, s.WarmedH U.vm → (Cond.initialized y.cls).before a' U = true) :
    vx_Back l R p e below s sargs y len W9 (PreOf R mc ms Pc) (PostOf Qc mc ms free) (vx_Post XC mc ms free) := by
  intro m meth c A g ig mk a X hg hsize hdg hW hn hp
  have h1 : (headSpec ws rm).pre.before a A.U = true := atoms_intro fun w hw => hws w hw _ _ X.warmed
  have h2 : (Cond.code y bytes maxL ret).before a A.U = true := hws _ hcode _ _ X.warmed
  have h3 : (Cond.initialized y.cls).before a A.U = true := hinit _ _ X.warmed
  have h4 : A.cells + (headSpec ws rm).room.cells ≤ R.cells := by rw [show (headSpec ws rm).room.cells = mc from hrc]; exact hp.1
  have h5 : A.slots + (headSpec ws rm).room.slots ≤ R.slots := by rw [show (headSpec ws rm).room.slots = ms from hrs]; exact hp.2.1
  have hPc : Pc a (A.U.calling g mk a) := hblind _ _ _ _ hp.2.2
  obtain ⟨U, Ls, c0, s0⟩ := A
  dsimp only [Pt.U, Pt.locs, Pt.cells, Pt.slots] at h1 h2 h3 h4 h5 X hn hPc ⊢
  obtain ⟨methY, cY, hmY, hcY, -, hlY, -, -, -, -⟩ := Cond.code_spec hn h2
  obtain ⟨kY, hkY, -⟩ := className_of_methodNamed hn
  have hinitY : kY.init = .initialized := Cond.initialized_spec (findClass_of_methodNamed hn) hkY h3
  have h : At U g.method c below := by rw [hg]; exact X.here
  have hlocals9 : W9 + (maxL + 11) + (headSpec ws rm).room.locals ≤ R.locals := hlocals
  have happ : (headSpec ws rm).appliesLoose y e.platform (U.calling g mk a) = true :=
    Spec.appliesLoose_calling (g := g) h hdg hn hkY hinitY
      (X.room_calling (g := g) (R' := (headSpec ws rm).room) hsize hmY hcY hframes (by rw [hlY]; omega) h4 h5) h1
  obtain ⟨mid, hmid⟩ := h.above
  have hfr : (U.setTop g).frames = (.java g :: mid) ++ below := by rw [State.frames_setTop' g h.top, hmid]; rfl
  obtain ⟨o, s₂, hsteps, -, hend, hq⟩ := Steps.callFree hM p X.admits X.cas X.clock (acts := []) hfr happ hPc trivial
  have hq' : vx_Q Qc XC mc ms free a (U.calling g mk a) o s₂ := hq
  rw [State.frames_setTop' g h.top] at hend
  obtain ⟨g₀, hg0⟩ := Option.isSome_iff_exists.mp h.top
  obtain ⟨r, hr⟩ := State.topJava?_eq_some.mp hg0
  have hr' : (({ U with heap := s₂.heap, slotsUsed := s₂.slotsUsed } : State).setVm s₂.vm).frames = .java g₀ :: r := hr
  rcases hq' with ⟨hqc, L, hfe, hL⟩ | ⟨q, rfl, E, ce, L, hx, hce, hcv, hcl, hW₂, hsm, hL⟩
  · obtain ⟨⟨v, rfl⟩, hW₂, e2, q2, q3, q4, q5, q6⟩ := id hfe
    have e3 : s₂ = ({ (U.calling g mk a).setFrames s₂.frames with heap := s₂.heap, slotsUsed := s₂.slotsUsed } : State).setVm s₂.vm := by
      have : s₂ = ({ s₂ with vm := (U.calling g mk a).vm } : State).setVm s₂.vm := rfl
      rw [e2] at this
      exact this
    obtain ⟨c₂, i₂, len₂, hc₂, hd₂, hf₂⟩ := hend
    have hW' : U.WarmedH s₂.vm := hW₂
    have hcc : c₂ = c := by
      have h1 : s₂.code? g.method = U.code? g.method := by
        rw [State.code?_eq, State.code?_eq, hW'.alike.method?]
      exact Option.some.inj (hc₂.symm.trans (h1.trans h.code))
    subst hcc
    have hlen : len₂ = len := by rw [hdg] at hd₂; cases hd₂; rfl
    subst hlen
    have hs₂ : s₂ = (({ U with heap := s₂.heap, slotsUsed := s₂.slotsUsed } : State).setVm s₂.vm).setTop { g with pc := g.pc + len₂, stack := v.toList ++ g.stack } := by
      refine e3.trans ?_
      rw [hf₂, State.calling_eq h.top, State.setFrames_setFrames, State.setTop_of_frames _ hr', hr]
      rfl
    have hsame : U.sameButNew ({ U with heap := s₂.heap, slotsUsed := s₂.slotsUsed } : State) L mc ms := by
      refine ⟨?_, q2, q3, q4, q5, q6⟩
      obtain ⟨t, ht, -⟩ := State.frames_cons hr
      show ({ U with heap := s₂.heap, slotsUsed := s₂.slotsUsed } : State) = { U.setFrames U.frames with heap := s₂.heap, slotsUsed := s₂.slotsUsed }
      rw [State.setFrames_self ht]
    subst hg
    refine Or.inl ⟨v, ⟨(({ U with heap := s₂.heap, slotsUsed := s₂.slotsUsed } : State).setVm s₂.vm), Ls ++ L, c0 + mc, s0 + ms⟩,
      ⟨X.admits, X.cas, X.clock, X.frames, X.room, X.hears, X.method, X.code, (X.here.setHeapUsed s₂.heap s₂.slotsUsed).setVm hW'.alike, X.tail, State.WarmedH.trans X.warmed hW', X.limits, X.bytes, X.same.trans (hsame.setVm s.vm)⟩,
      ⟨g, mk, s₂, L, rfl, rfl, hqc, rfl, hL, rfl, rfl⟩, ?_⟩
    show Steps p.tables e below _ ((({ U with heap := s₂.heap, slotsUsed := s₂.slotsUsed } : State).setVm s₂.vm).setTop { g with pc := g.pc + len₂, stack := v.toList ++ g.stack })
    rw [← hs₂]
    exact hsteps
  · obtain ⟨e2, q2, q3, q4, q5, q6⟩ := id hsm
    have e3 : s₂ = ({ (U.calling g mk a).setFrames s₂.frames with heap := s₂.heap, slotsUsed := s₂.slotsUsed } : State).setVm s₂.vm := by
      have : s₂ = ({ s₂ with vm := (U.calling g mk a).vm } : State).setVm s₂.vm := rfl
      rw [e2] at this
      exact this
    have hf₂ : s₂.frames = .throwing q :: .java g :: U.frames.tail := hend
    have hW' : U.WarmedH s₂.vm := hW₂
    have hs₂ : s₂ = ((({ U with heap := s₂.heap, slotsUsed := s₂.slotsUsed } : State).setVm s₂.vm).setTop g).pushFrame (.throwing q) := by
      refine e3.trans ?_
      rw [hf₂, State.calling_eq h.top, State.setFrames_setFrames, State.pushFrame, State.frames_setTop _ hr', State.setTop_of_frames _ hr', State.setFrames_setFrames, hr]
      rfl
    have hsame : U.sameButNew ({ U with heap := s₂.heap, slotsUsed := s₂.slotsUsed } : State) L mc ms := by
      refine ⟨?_, q2, q3, q4, q5, q6⟩
      obtain ⟨t, ht, -⟩ := State.frames_cons hr
      show ({ U with heap := s₂.heap, slotsUsed := s₂.slotsUsed } : State) = { U.setFrames U.frames with heap := s₂.heap, slotsUsed := s₂.slotsUsed }
      rw [State.setFrames_self ht]
    subst hg
    refine Or.inr ⟨q, ⟨(({ U with heap := s₂.heap, slotsUsed := s₂.slotsUsed } : State).setVm s₂.vm), Ls ++ L, c0 + mc, s0 + ms⟩,
      ⟨X.admits, X.cas, X.clock, X.frames, X.room, X.hears, X.method, X.code, (X.here.setHeapUsed s₂.heap s₂.slotsUsed).setVm hW'.alike, X.tail, State.WarmedH.trans X.warmed hW', X.limits, X.bytes, X.same.trans (hsame.setVm s.vm)⟩,
      ⟨g, mk, s₂, L, E, ce, rfl, rfl, hx, hce, hcv, hcl, rfl, hL, rfl, rfl⟩, ?_⟩
    show Steps p.tables e below _ (((({ U with heap := s₂.heap, slotsUsed := s₂.slotsUsed } : State).setVm s₂.vm).setTop g).pushFrame (.throwing q))
    rw [← hs₂]
    exact hsteps
end Payer
section Calls
variable {p : Program} {l : Launch} {e : Env} {R : Room} {s : State} {m : MethodId} {args : Array Value} {below : List Frame} {meth : Method} {c : Code} {T : State} {locs : List Loc} {cells slots : Nat}
theorem vx_callV (X : Stand p l e R s m args below meth c T locs cells slots) (hexec : p.tables.exec = Jvm.exec) {own C : String} {index : Nat} {y : MethodName} {bytes : ByteArray} {maxL : Nat} {ret : Option FieldType}
    (hown : s.vm.findClass own = some m.cls) (hlink : (Cond.methodLink own index y).before args s = true) (hinst : (Cond.instanceMethod y).before args s = true) (hsel : (Cond.selects C y y).before args s = true)
    (hcode : (Cond.code y bytes maxL ret).before args s = true) (hy : y.cls ≠ "java/lang/invoke/MethodHandle" ∧ y.cls ≠ "java/lang/invoke/VarHandle")
    {W9 : Nat} {Pre : Pt → Array Value → Prop} {Post : Pt → Array Value → Option Value → Pt → Prop} {PostX : Pt → Array Value → Addr → Pt → Prop} (hK : vx_Back l R p e below s args y 3 W9 Pre Post PostX)
    {b : Addr} {cellB : Cell} (hcell : T.heap[b]? = some cellB) (hobj : cellB.vm.isStatics = false) (hcls : s.vm.findClass C = some cellB.cls)
    {g : JFrame} (hg : g.method = m) (hsize : g.locals.size = c.maxLocals) {argsL rest : List Value} (hlen : ∀ sig, parseMethodDescriptor y.desc = some sig → argsL.length = sig.parameters.length)
    (hstack : g.stack = argsL.reverse ++ .ref b :: rest) (hW : 2 * g.monitorRoom + (rest.map fun v => v.category).sum ≤ W9) (hdg : decode c.code g.pc = .ok (.invokevirtual index, 3))
    (hpre : ∀ vm₁, s.WarmedH vm₁ → Pre ⟨T.setVm vm₁, locs, cells, slots⟩ (Value.ref b :: argsL).toArray) :
    (∃ (v : Option Value) (vm₁ : Vm) (B : Pt), s.WarmedH vm₁ ∧ Stand p l e R s m args below meth c B.U B.locs B.cells B.slots ∧ Post ⟨T.setVm vm₁, locs, cells, slots⟩ (Value.ref b :: argsL).toArray v B ∧
      ∀ target, Steps p.tables e below (B.U.setTop { g with pc := g.pc + 3, stack := v.toList ++ rest }) target → Steps p.tables e below (T.setTop g) target) ∨
    (∃ (q : Addr) (vm₁ : Vm) (B : Pt), s.WarmedH vm₁ ∧ Stand p l e R s m args below meth c B.U B.locs B.cells B.slots ∧ PostX ⟨T.setVm vm₁, locs, cells, slots⟩ (Value.ref b :: argsL).toArray q B ∧
      Steps p.tables e below (T.setTop g) ((B.U.setTop { g with stack := rest }).pushFrame (.throwing q))) := by
  obtain ⟨mk, methM, hnamed, hmethM, hstM, habM⟩ := Cond.instanceMethod_spec hinst
  obtain ⟨methM', cM, hmethM', -, -, -, -, -, -, hsigM⟩ := Cond.code_spec hnamed hcode
  cases hmethM.symm.trans hmethM'
  obtain ⟨c2, r2, m2, q1, q2, q3, q4, kP, hkP, hkPi⟩ := Cond.selects_spec hsel
  cases hcls.symm.trans q1
  cases (State.methodFound?_of_named hnamed hy).symm.trans q2
  cases hnamed.symm.trans q3
  have hselP : selectMethod e.platform s.vm cellB.cls mk = .method mk := by rw [Launch.admits_selectMethod X.admits]; exact q4
  obtain ⟨vm₁, X₁, hstep₁⟩ := X.invokevirtual hexec hown hlink hnamed hmethM hstM hkP hkPi hy (a := b) (cell := cellB) hcell
    (fun z h => by rw [h] at hobj; cases hobj) hselP hmethM habM hkP hkPi (g := g) hg (argsL := argsL) (rest := rest) (hlen _ hsigM) hstack hdg
  rcases hK m meth c ⟨T.setVm vm₁, locs, cells, slots⟩ { g with stack := rest } (.invokevirtual index) mk (Value.ref b :: argsL).toArray X₁ hg hsize hdg hW (X₁.named hnamed) (hpre vm₁ X₁.warmed) with ⟨v, B, X', hpost, hsteps⟩ | ⟨q, B, X', hpost, hsteps⟩
  · exact Or.inl ⟨v, vm₁, B, X₁.warmed, X', hpost, fun target h => hstep₁ _ fun acts => by rw [doInvoke_state]; exact hsteps.trans h⟩
  · exact Or.inr ⟨q, vm₁, B, X₁.warmed, X', hpost, hstep₁ _ fun acts => by rw [doInvoke_state]; exact hsteps⟩
theorem vx_callS (X : Stand p l e R s m args below meth c T locs cells slots) (hexec : p.tables.exec = Jvm.exec) {own : String} {index : Nat} {y : MethodName} {bytes : ByteArray} {maxL : Nat} {ret : Option FieldType}
    (hown : s.vm.findClass own = some m.cls) (hlink : (Cond.methodLink own index y).before args s = true) (hstat : (Cond.static y).before args s = true) (hinit : (Cond.initialized y.cls).before args s = true)
    (hcode : (Cond.code y bytes maxL ret).before args s = true) (hy : y.cls ≠ "java/lang/invoke/MethodHandle" ∧ y.cls ≠ "java/lang/invoke/VarHandle")
    {W9 : Nat} {Pre : Pt → Array Value → Prop} {Post : Pt → Array Value → Option Value → Pt → Prop} {PostX : Pt → Array Value → Addr → Pt → Prop} (hK : vx_Back l R p e below s args y 3 W9 Pre Post PostX)
    {g : JFrame} (hg : g.method = m) (hsize : g.locals.size = c.maxLocals) {argsL rest : List Value} (hlen : ∀ sig, parseMethodDescriptor y.desc = some sig → argsL.length = sig.parameters.length)
    (hstack : g.stack = argsL.reverse ++ rest) (hW : 2 * g.monitorRoom + (rest.map fun v => v.category).sum ≤ W9) (hdg : decode c.code g.pc = .ok (.invokestatic index, 3))
    (hpre : ∀ vm₁, s.WarmedH vm₁ → Pre ⟨T.setVm vm₁, locs, cells, slots⟩ argsL.toArray) :
    (∃ (v : Option Value) (vm₁ : Vm) (B : Pt), s.WarmedH vm₁ ∧ Stand p l e R s m args below meth c B.U B.locs B.cells B.slots ∧ Post ⟨T.setVm vm₁, locs, cells, slots⟩ argsL.toArray v B ∧
      ∀ target, Steps p.tables e below (B.U.setTop { g with pc := g.pc + 3, stack := v.toList ++ rest }) target → Steps p.tables e below (T.setTop g) target) ∨
    (∃ (q : Addr) (vm₁ : Vm) (B : Pt), s.WarmedH vm₁ ∧ Stand p l e R s m args below meth c B.U B.locs B.cells B.slots ∧ PostX ⟨T.setVm vm₁, locs, cells, slots⟩ argsL.toArray q B ∧
      Steps p.tables e below (T.setTop g) ((B.U.setTop { g with stack := rest }).pushFrame (.throwing q))) := by
  obtain ⟨mk, hnamed⟩ := Cond.code_named hcode
  obtain ⟨methM, cM, hmethM, -, -, -, -, -, -, hsigM⟩ := Cond.code_spec hnamed hcode
  have hstatic : methM.isStatic = true := Cond.static_spec hnamed hmethM hstat
  obtain ⟨kP, hkP, -⟩ := className_of_methodNamed hnamed
  have hinitP : kP.init = .initialized := Cond.initialized_spec (findClass_of_methodNamed hnamed) hkP hinit
  obtain ⟨vm₁, X₁, hstep₁⟩ := X.invokestatic hexec hown hlink hnamed hmethM hstatic hkP hinitP hy (g := g) hg (argsL := argsL) (rest := rest) (hlen _ hsigM) hstack hdg
  rcases hK m meth c ⟨T.setVm vm₁, locs, cells, slots⟩ { g with stack := rest } (.invokestatic index) mk argsL.toArray X₁ hg hsize hdg hW (X₁.named hnamed) (hpre vm₁ X₁.warmed) with ⟨v, B, X', hpost, hsteps⟩ | ⟨q, B, X', hpost, hsteps⟩
  · exact Or.inl ⟨v, vm₁, B, X₁.warmed, X', hpost, fun target h => hstep₁ _ fun acts => by rw [doInvoke_state]; exact hsteps.trans h⟩
  · exact Or.inr ⟨q, vm₁, B, X₁.warmed, X', hpost, hstep₁ _ fun acts => by rw [doInvoke_state]; exact hsteps⟩
end Calls
theorem vx_cls {s : State} {T : State} {vm₁ : Vm} {E : String} {k : ClassId} (hW : s.WarmedH vm₁) (h : (T.setVm vm₁).vm.findClass E = some k) : s.vm.findClass E = some k := by
  have h1 : vm₁.findClass E = some k := h
  rw [hW.alike.findClass] at h1
  exact h1
/-- the method's frame g, with q thrown over it -/
def vx_W (p : Program) (l : Launch) (e : Env) (R : Room) (s : State) (m : MethodId) (args : Array Value) (below : List Frame) (meth : Method) (c : Code) (H : Heap) (locs : List Loc) (cells slots : Nat) (Q : State → Prop) (g : JFrame) (q : Addr) : Prop :=
  ∀ T : State, T.heap = H → Stand p l e R s m args below meth c T locs cells slots → ∃ t, Steps p.tables e below ((T.setTop g).pushFrame (.throwing q)) t ∧ Q t
def vx_Run (p : Program) (l : Launch) (e : Env) (R : Room) (s : State) (m : MethodId) (args : Array Value) (below : List Frame) (meth : Method) (c : Code) (H : Heap) (locs : List Loc) (cells slots mc ms : Nat) (g : JFrame) (rest : List Value) (Qa : State → Outcome → State → Prop) (XC : String → State → State → Prop) (free : Addr → Prop) : Prop :=
  ∀ T : State, T.heap = H → Stand p l e R s m args below meth c T locs cells slots →
    (∃ (v : Option Value) (st₀ t T' : State) (L : List Loc), st₀.heap = H ∧ Stand p l e R s m args below meth c T' (locs ++ L) (cells + mc) (slots + ms) ∧ (∀ q ∈ L, free q.base) ∧ T'.heap = t.heap ∧ T'.vm = t.vm ∧ Qa st₀ (.returned v) t ∧
      Goes p e below T g T' { g with pc := g.pc + 3, stack := v.toList ++ rest }) ∨
    (∃ (q : Addr) (st₀ t T' : State) (L : List Loc) (E : String) (ce : Cell), st₀.heap = H ∧ Stand p l e R s m args below meth c T' (locs ++ L) (cells + mc) (slots + ms) ∧ (∀ z ∈ L, free z.base) ∧ T'.heap = t.heap ∧ T'.vm = t.vm ∧ XC E st₀ t ∧ t.heap[q]? = some ce ∧ ce.vm = .none ∧ s.vm.findClass E = some ce.cls ∧
      Steps p.tables e below (T.setTop g) ((T'.setTop { g with stack := rest }).pushFrame (.throwing q)))
def vx_X {S : Type} (px : S → Prop) (B : String → S → State → Prop) (A : Nat → Prop) : String → State → State → Prop := fun E st t => ∃ u : S, px u ∧ B E u t ∧ va_F A st t
section Runs
variable {p : Program} {l : Launch} {e : Env} {R : Room} {s : State} {m : MethodId} {args : Array Value} {below : List Frame} {meth : Method} {c : Code} {H : Heap} {locs : List Loc} {cells slots : Nat}
variable {y : MethodName} {bytes cc : ByteArray} {maxL nL mc ms n index : Nat} {ret : Option FieldType} {ws : List Cond} {rm : Room} {Pc : Array Value → State → Prop} {Qc : Array Value → State → Outcome → State → Prop} {XC : String → State → State → Prop} {free : Addr → Prop} {Ts : List Cond} {own C : String} {b : Addr} {As rest : List Value} {g : JFrame}
theorem vx_callBack (cb : CallB R s args own index y bytes maxL ret ws rm mc ms n) (hM : vx_Met l y ws rm Pc Qc XC mc ms free) (hbl : FrameBlind Pc) : vx_Back l R p e below s args y 3 8 (PreOf R mc ms Pc) (PostOf Qc mc ms free) (vx_Post XC mc ms free) := by
  obtain ⟨hrc, hrs, hfr, hlo, hws, hcw, -, hini, -⟩ := cb
  exact vx_back (bytes := bytes) (maxL := maxL) (ret := ret) hM hbl hrc hrs hfr hlo hws hcw (fun a' U hW => word_at hW (Or.inl (by first | rfl | simp [Cond.onTables, Cond.keeps, Cond.steady])) hini)
theorem vx_runV (S : CallFix p m c cc nL s args Ts own) (hM : vx_Met l y ws rm Pc Qc XC mc ms free) (cw : CallW R s args own C index y bytes maxL ret ws rm mc ms n) (hp : PreV s H C b Pc As)
    (hg : g.method = m) (hn : As.length = n) (hsize : g.locals.size = nL) (hstack : g.stack = As.reverse ++ .ref b :: rest) (hW : 2 * g.monitorRoom + (rest.map fun v => v.category).sum ≤ 8) (hdg : decode cc g.pc = .ok (.invokevirtual index, 3)) (hf : cells + mc ≤ R.cells ∧ slots + ms ≤ R.slots) :
    vx_Run p l e R s m args below meth c H locs cells slots mc ms g rest (Qc (Value.ref b :: As).toArray) XC free := by
  have hK : vx_Back l R p e below s args y 3 8 (PreOf R mc ms Pc) (PostOf Qc mc ms free) (vx_Post XC mc ms free) := vx_callBack cw.1 hM hp.1
  obtain ⟨⟨-, -, -, -, -, -, hcode, -, hy, hlen, hl⟩, hin, hse⟩ := cw
  obtain ⟨hx, hb, hml, ho, -⟩ := S
  obtain ⟨-, ⟨cellB, hcB, hoB, hclB⟩, hPc⟩ := hp
  intro T hT X
  rcases vx_callV X hx (C := C) (bytes := bytes) (maxL := maxL) (ret := ret) ho hl hin hse hcode hy hK (by rw [hT]; exact hcB) hoB hclB hg (hsize.trans hml.symm) (argsL := As) (rest := rest) (fun sig h => hn.trans (hlen sig h)) hstack hW (by rw [hb]; exact hdg)
    (fun vm₁ hW₁ => ⟨hf.1, hf.2, hPc (T.setVm vm₁) hT hW₁⟩) with ⟨v, vm₁, ⟨U', l2, c2, s2⟩, hW₁, X', ⟨g', mk, t, L, e1, e2, hq, h1, hL, h2, h3⟩, st⟩ | ⟨q, vm₁, ⟨U', l2, c2, s2⟩, hW₁, X', ⟨g', mk, t, L, E, ce, e1, e2, hq, hce, hcv, hcl, h1, hL, h2, h3⟩, st⟩
  · dsimp only [Pt.U, Pt.locs, Pt.cells, Pt.slots] at X' e1 e2 h1 h2 h3 st
    subst h1; subst h2; subst h3
    exact Or.inl ⟨v, (T.setVm vm₁).calling g' mk (Value.ref b :: As).toArray, t, U', L, hT, X', hL, e1, e2, hq, st⟩
  · dsimp only [Pt.U, Pt.locs, Pt.cells, Pt.slots] at X' e1 e2 h1 h2 h3 st hcl
    subst h1; subst h2; subst h3
    exact Or.inr ⟨q, (T.setVm vm₁).calling g' mk (Value.ref b :: As).toArray, t, U', L, E, ce, hT, X', hL, e1, e2, hq, hce, hcv, vx_cls hW₁ hcl, st⟩
theorem vx_runS (S : CallFix p m c cc nL s args Ts own) (hM : vx_Met l y ws rm Pc Qc XC mc ms free) (cw : CallB R s args own index y bytes maxL ret ws rm mc ms n ∧ (Cond.static y).before args s = true) (hp : PreS s H Pc As)
    (hg : g.method = m) (hn : As.length = n) (hsize : g.locals.size = nL) (hstack : g.stack = As.reverse ++ rest) (hW : 2 * g.monitorRoom + (rest.map fun v => v.category).sum ≤ 8) (hdg : decode cc g.pc = .ok (.invokestatic index, 3)) (hf : cells + mc ≤ R.cells ∧ slots + ms ≤ R.slots) :
    vx_Run p l e R s m args below meth c H locs cells slots mc ms g rest (Qc As.toArray) XC free := by
  have hK : vx_Back l R p e below s args y 3 8 (PreOf R mc ms Pc) (PostOf Qc mc ms free) (vx_Post XC mc ms free) := vx_callBack cw.1 hM hp.1
  obtain ⟨⟨-, -, -, -, -, -, hcode, hini, hy, hlen, hl⟩, hstt⟩ := cw
  obtain ⟨hx, hb, hml, ho, -⟩ := S
  intro T hT X
  rcases vx_callS X hx (bytes := bytes) (maxL := maxL) (ret := ret) ho hl hstt hini hcode hy hK hg (hsize.trans hml.symm) (argsL := As) (rest := rest) (fun sig h => hn.trans (hlen sig h)) hstack hW (by rw [hb]; exact hdg)
    (fun vm₁ hW₁ => ⟨hf.1, hf.2, hp.2 (T.setVm vm₁) hT hW₁⟩) with ⟨v, vm₁, ⟨U', l2, c2, s2⟩, hW₁, X', ⟨g', mk, t, L, e1, e2, hq, h1, hL, h2, h3⟩, st⟩ | ⟨q, vm₁, ⟨U', l2, c2, s2⟩, hW₁, X', ⟨g', mk, t, L, E, ce, e1, e2, hq, hce, hcv, hcl, h1, hL, h2, h3⟩, st⟩
  · dsimp only [Pt.U, Pt.locs, Pt.cells, Pt.slots] at X' e1 e2 h1 h2 h3 st
    subst h1; subst h2; subst h3
    exact Or.inl ⟨v, (T.setVm vm₁).calling g' mk As.toArray, t, U', L, hT, X', hL, e1, e2, hq, st⟩
  · dsimp only [Pt.U, Pt.locs, Pt.cells, Pt.slots] at X' e1 e2 h1 h2 h3 st hcl
    subst h1; subst h2; subst h3
    exact Or.inr ⟨q, (T.setVm vm₁).calling g' mk As.toArray, t, U', L, E, ce, hT, X', hL, e1, e2, hq, hce, hcv, vx_cls hW₁ hcl, st⟩
end Runs
section Rows
variable {p : Program} {l : Launch} {e : Env} {R : Room} {s : State} {m : MethodId} {args : Array Value} {below : List Frame} {meth : Method} {c : Code} {H : Heap} {locs : List Loc} {cells slots : Nat} {Q : State → Prop}
variable {mc ms : Nat} {free : Addr → Prop} {A0 A1 : Nat → Prop} {H0 : Heap} {a : Array Value} {pc : Nat} {ls : Array Slot} {st0 rest : List Value}
theorem vx_keep {st₀ t T' : State} {L : List Loc} (h0 : st₀.heap = H) (e1 : T'.heap = t.heap) (hS : va_S A0 H0 H locs) (hA : ∀ q, q < H.size → A1 q → A0 q) (hf : ∀ q, free q → A0 q) (hL : ∀ q ∈ L, free q.base) (hF : va_F A1 st₀ t) :
    H.size ≤ T'.heap.size ∧ (∀ q : Nat, q < H.size → ¬ A1 q → T'.heap[q]? = H[q]?) ∧ va_S A0 H0 T'.heap (locs ++ L) := by
  obtain ⟨hz, hk⟩ := hF
  rw [h0] at hz hk
  exact ⟨by rw [e1]; exact hz, fun q h1 h2 => by rw [e1]; exact hk q h1 h2,
    ⟨Nat.le_trans hS.1 (by rw [e1]; exact hz), fun q h1 h2 => by rw [e1, hk q (Nat.lt_of_lt_of_le h1 hS.1) (fun z => h2 (hA q (Nat.lt_of_lt_of_le h1 hS.1) z))]; exact hS.2.1 q h1 h2, fun q hq => by
      rcases List.mem_append.mp hq with h | h
      · exact hS.2.2 q h
      · exact hf _ (hL q h)⟩⟩
theorem vx_calli {S SX : Type} {post : Int32 → S → Prop} {px : SX → Prop} {B : S → State → Prop} {BX : String → SX → State → Prop} {AX : Nat → Prop} (hr : vx_Run p l e R s m args below meth c H locs cells slots mc ms (F0 m pc ls st0) rest (va_Qi post B A1 a) (vx_X px BX AX) free) (hS : va_S A0 H0 H locs) (hA : ∀ q, q < H.size → A1 q → A0 q) (hf : ∀ q, free q → A0 q) (hAX : ∀ q, q < H.size → AX q → A0 q)
    (kx : ∀ (E : String) (ce : Cell) (q9 : Addr) (u : SX) (t : State) (H1 : Heap) (locs1 : List Loc), t.heap = H1 → s.vm.Alike t.vm → px u → BX E u t → H.size ≤ H1.size → (∀ q : Nat, q < H.size → ¬ AX q → H1[q]? = H[q]?) → va_S A0 H0 H1 locs1 → H1[q9]? = some ce → ce.vm = .none → s.vm.findClass E = some ce.cls → vx_W p l e R s m args below meth c H1 locs1 (cells + mc) (slots + ms) Q (F0 m pc ls rest) q9)
    (kk : ∀ (r : Int32) (u : S) (t : State) (H1 : Heap) (locs1 : List Loc), t.heap = H1 → s.vm.Alike t.vm → post r u → B u t → H.size ≤ H1.size → (∀ q : Nat, q < H.size → ¬ A1 q → H1[q]? = H[q]?) → va_S A0 H0 H1 locs1 → W p l e R s m args below meth c H1 locs1 (cells + mc) (slots + ms) Q (F0 m (pc + 3) ls (.int r :: rest))) : W p l e R s m args below meth c H locs cells slots Q (F0 m pc ls st0) := by
  intro T hT X
  rcases hr T hT X with ⟨v, st₀, t, T', L, h0, X', hL, e1, e2, ⟨⟨r, u, hv, hp, hb⟩, hF⟩, st⟩ | ⟨q, st₀, t, T', L, E, ce, h0, X', hL, e1, e2, ⟨u, hp, hb, hF⟩, hce, hcv, hcl, st⟩
  · cases hv
    obtain ⟨k1, k2, k3⟩ := vx_keep h0 e1 hS hA hf hL hF
    obtain ⟨t2, a1, b1⟩ := kk r u t T'.heap (locs ++ L) e1.symm (by rw [← e2]; exact X'.warmed.alike) hp hb k1 k2 k3 T' rfl X'
    exact ⟨t2, st t2 a1, b1⟩
  · obtain ⟨k1, k2, k3⟩ := vx_keep h0 e1 hS hAX hf hL hF
    obtain ⟨t2, a1, b1⟩ := kx E ce q u t T'.heap (locs ++ L) e1.symm (by rw [← e2]; exact X'.warmed.alike) hp hb k1 k2 k3 (by rw [e1]; exact hce) hcv hcl T' rfl X'
    exact ⟨t2, st.trans a1, b1⟩
theorem vx_calll {S SX : Type} {post : Int64 → S → Prop} {px : SX → Prop} {B : S → State → Prop} {BX : String → SX → State → Prop} {AX : Nat → Prop} (hr : vx_Run p l e R s m args below meth c H locs cells slots mc ms (F0 m pc ls st0) rest (va_Ql post B A1 a) (vx_X px BX AX) free) (hS : va_S A0 H0 H locs) (hA : ∀ q, q < H.size → A1 q → A0 q) (hf : ∀ q, free q → A0 q) (hAX : ∀ q, q < H.size → AX q → A0 q)
    (kx : ∀ (E : String) (ce : Cell) (q9 : Addr) (u : SX) (t : State) (H1 : Heap) (locs1 : List Loc), t.heap = H1 → s.vm.Alike t.vm → px u → BX E u t → H.size ≤ H1.size → (∀ q : Nat, q < H.size → ¬ AX q → H1[q]? = H[q]?) → va_S A0 H0 H1 locs1 → H1[q9]? = some ce → ce.vm = .none → s.vm.findClass E = some ce.cls → vx_W p l e R s m args below meth c H1 locs1 (cells + mc) (slots + ms) Q (F0 m pc ls rest) q9)
    (kk : ∀ (r : Int64) (u : S) (t : State) (H1 : Heap) (locs1 : List Loc), t.heap = H1 → s.vm.Alike t.vm → post r u → B u t → H.size ≤ H1.size → (∀ q : Nat, q < H.size → ¬ A1 q → H1[q]? = H[q]?) → va_S A0 H0 H1 locs1 → W p l e R s m args below meth c H1 locs1 (cells + mc) (slots + ms) Q (F0 m (pc + 3) ls (.long r :: rest))) : W p l e R s m args below meth c H locs cells slots Q (F0 m pc ls st0) := by
  intro T hT X
  rcases hr T hT X with ⟨v, st₀, t, T', L, h0, X', hL, e1, e2, ⟨⟨r, u, hv, hp, hb⟩, hF⟩, st⟩ | ⟨q, st₀, t, T', L, E, ce, h0, X', hL, e1, e2, ⟨u, hp, hb, hF⟩, hce, hcv, hcl, st⟩
  · cases hv
    obtain ⟨k1, k2, k3⟩ := vx_keep h0 e1 hS hA hf hL hF
    obtain ⟨t2, a1, b1⟩ := kk r u t T'.heap (locs ++ L) e1.symm (by rw [← e2]; exact X'.warmed.alike) hp hb k1 k2 k3 T' rfl X'
    exact ⟨t2, st t2 a1, b1⟩
  · obtain ⟨k1, k2, k3⟩ := vx_keep h0 e1 hS hAX hf hL hF
    obtain ⟨t2, a1, b1⟩ := kx E ce q u t T'.heap (locs ++ L) e1.symm (by rw [← e2]; exact X'.warmed.alike) hp hb k1 k2 k3 (by rw [e1]; exact hce) hcv hcl T' rfl X'
    exact ⟨t2, st.trans a1, b1⟩
theorem vx_callf {S SX : Type} {post : UInt32 → S → Prop} {px : SX → Prop} {B : S → State → Prop} {BX : String → SX → State → Prop} {AX : Nat → Prop} (hr : vx_Run p l e R s m args below meth c H locs cells slots mc ms (F0 m pc ls st0) rest (va_Qf post B A1 a) (vx_X px BX AX) free) (hS : va_S A0 H0 H locs) (hA : ∀ q, q < H.size → A1 q → A0 q) (hf : ∀ q, free q → A0 q) (hAX : ∀ q, q < H.size → AX q → A0 q)
    (kx : ∀ (E : String) (ce : Cell) (q9 : Addr) (u : SX) (t : State) (H1 : Heap) (locs1 : List Loc), t.heap = H1 → s.vm.Alike t.vm → px u → BX E u t → H.size ≤ H1.size → (∀ q : Nat, q < H.size → ¬ AX q → H1[q]? = H[q]?) → va_S A0 H0 H1 locs1 → H1[q9]? = some ce → ce.vm = .none → s.vm.findClass E = some ce.cls → vx_W p l e R s m args below meth c H1 locs1 (cells + mc) (slots + ms) Q (F0 m pc ls rest) q9)
    (kk : ∀ (r : UInt32) (u : S) (t : State) (H1 : Heap) (locs1 : List Loc), t.heap = H1 → s.vm.Alike t.vm → post r u → B u t → H.size ≤ H1.size → (∀ q : Nat, q < H.size → ¬ A1 q → H1[q]? = H[q]?) → va_S A0 H0 H1 locs1 → W p l e R s m args below meth c H1 locs1 (cells + mc) (slots + ms) Q (F0 m (pc + 3) ls (.float r :: rest))) : W p l e R s m args below meth c H locs cells slots Q (F0 m pc ls st0) := by
  intro T hT X
  rcases hr T hT X with ⟨v, st₀, t, T', L, h0, X', hL, e1, e2, ⟨⟨r, u, hv, hp, hb⟩, hF⟩, st⟩ | ⟨q, st₀, t, T', L, E, ce, h0, X', hL, e1, e2, ⟨u, hp, hb, hF⟩, hce, hcv, hcl, st⟩
  · cases hv
    obtain ⟨k1, k2, k3⟩ := vx_keep h0 e1 hS hA hf hL hF
    obtain ⟨t2, a1, b1⟩ := kk r u t T'.heap (locs ++ L) e1.symm (by rw [← e2]; exact X'.warmed.alike) hp hb k1 k2 k3 T' rfl X'
    exact ⟨t2, st t2 a1, b1⟩
  · obtain ⟨k1, k2, k3⟩ := vx_keep h0 e1 hS hAX hf hL hF
    obtain ⟨t2, a1, b1⟩ := kx E ce q u t T'.heap (locs ++ L) e1.symm (by rw [← e2]; exact X'.warmed.alike) hp hb k1 k2 k3 (by rw [e1]; exact hce) hcv hcl T' rfl X'
    exact ⟨t2, st.trans a1, b1⟩
theorem vx_calld {S SX : Type} {post : UInt64 → S → Prop} {px : SX → Prop} {B : S → State → Prop} {BX : String → SX → State → Prop} {AX : Nat → Prop} (hr : vx_Run p l e R s m args below meth c H locs cells slots mc ms (F0 m pc ls st0) rest (va_Qd post B A1 a) (vx_X px BX AX) free) (hS : va_S A0 H0 H locs) (hA : ∀ q, q < H.size → A1 q → A0 q) (hf : ∀ q, free q → A0 q) (hAX : ∀ q, q < H.size → AX q → A0 q)
    (kx : ∀ (E : String) (ce : Cell) (q9 : Addr) (u : SX) (t : State) (H1 : Heap) (locs1 : List Loc), t.heap = H1 → s.vm.Alike t.vm → px u → BX E u t → H.size ≤ H1.size → (∀ q : Nat, q < H.size → ¬ AX q → H1[q]? = H[q]?) → va_S A0 H0 H1 locs1 → H1[q9]? = some ce → ce.vm = .none → s.vm.findClass E = some ce.cls → vx_W p l e R s m args below meth c H1 locs1 (cells + mc) (slots + ms) Q (F0 m pc ls rest) q9)
    (kk : ∀ (r : UInt64) (u : S) (t : State) (H1 : Heap) (locs1 : List Loc), t.heap = H1 → s.vm.Alike t.vm → post r u → B u t → H.size ≤ H1.size → (∀ q : Nat, q < H.size → ¬ A1 q → H1[q]? = H[q]?) → va_S A0 H0 H1 locs1 → W p l e R s m args below meth c H1 locs1 (cells + mc) (slots + ms) Q (F0 m (pc + 3) ls (.double r :: rest))) : W p l e R s m args below meth c H locs cells slots Q (F0 m pc ls st0) := by
  intro T hT X
  rcases hr T hT X with ⟨v, st₀, t, T', L, h0, X', hL, e1, e2, ⟨⟨r, u, hv, hp, hb⟩, hF⟩, st⟩ | ⟨q, st₀, t, T', L, E, ce, h0, X', hL, e1, e2, ⟨u, hp, hb, hF⟩, hce, hcv, hcl, st⟩
  · cases hv
    obtain ⟨k1, k2, k3⟩ := vx_keep h0 e1 hS hA hf hL hF
    obtain ⟨t2, a1, b1⟩ := kk r u t T'.heap (locs ++ L) e1.symm (by rw [← e2]; exact X'.warmed.alike) hp hb k1 k2 k3 T' rfl X'
    exact ⟨t2, st t2 a1, b1⟩
  · obtain ⟨k1, k2, k3⟩ := vx_keep h0 e1 hS hAX hf hL hF
    obtain ⟨t2, a1, b1⟩ := kx E ce q u t T'.heap (locs ++ L) e1.symm (by rw [← e2]; exact X'.warmed.alike) hp hb k1 k2 k3 (by rw [e1]; exact hce) hcv hcl T' rfl X'
    exact ⟨t2, st.trans a1, b1⟩
theorem vx_callv {S SX : Type} {post : S → Prop} {px : SX → Prop} {B : S → State → Prop} {BX : String → SX → State → Prop} {AX : Nat → Prop} (hr : vx_Run p l e R s m args below meth c H locs cells slots mc ms (F0 m pc ls st0) rest (va_Qv post B A1 a) (vx_X px BX AX) free) (hS : va_S A0 H0 H locs) (hA : ∀ q, q < H.size → A1 q → A0 q) (hf : ∀ q, free q → A0 q) (hAX : ∀ q, q < H.size → AX q → A0 q)
    (kx : ∀ (E : String) (ce : Cell) (q9 : Addr) (u : SX) (t : State) (H1 : Heap) (locs1 : List Loc), t.heap = H1 → s.vm.Alike t.vm → px u → BX E u t → H.size ≤ H1.size → (∀ q : Nat, q < H.size → ¬ AX q → H1[q]? = H[q]?) → va_S A0 H0 H1 locs1 → H1[q9]? = some ce → ce.vm = .none → s.vm.findClass E = some ce.cls → vx_W p l e R s m args below meth c H1 locs1 (cells + mc) (slots + ms) Q (F0 m pc ls rest) q9)
    (kk : ∀ (u : S) (t : State) (H1 : Heap) (locs1 : List Loc), t.heap = H1 → s.vm.Alike t.vm → post u → B u t → H.size ≤ H1.size → (∀ q : Nat, q < H.size → ¬ A1 q → H1[q]? = H[q]?) → va_S A0 H0 H1 locs1 → W p l e R s m args below meth c H1 locs1 (cells + mc) (slots + ms) Q (F0 m (pc + 3) ls (rest))) : W p l e R s m args below meth c H locs cells slots Q (F0 m pc ls st0) := by
  intro T hT X
  rcases hr T hT X with ⟨v, st₀, t, T', L, h0, X', hL, e1, e2, ⟨⟨u, hv, hp, hb⟩, hF⟩, st⟩ | ⟨q, st₀, t, T', L, E, ce, h0, X', hL, e1, e2, ⟨u, hp, hb, hF⟩, hce, hcv, hcl, st⟩
  · cases hv
    obtain ⟨k1, k2, k3⟩ := vx_keep h0 e1 hS hA hf hL hF
    obtain ⟨t2, a1, b1⟩ := kk u t T'.heap (locs ++ L) e1.symm (by rw [← e2]; exact X'.warmed.alike) hp hb k1 k2 k3 T' rfl X'
    exact ⟨t2, st t2 a1, b1⟩
  · obtain ⟨k1, k2, k3⟩ := vx_keep h0 e1 hS hAX hf hL hF
    obtain ⟨t2, a1, b1⟩ := kx E ce q u t T'.heap (locs ++ L) e1.symm (by rw [← e2]; exact X'.warmed.alike) hp hb k1 k2 k3 (by rw [e1]; exact hce) hcv hcl T' rfl X'
    exact ⟨t2, st.trans a1, b1⟩
/-- caught by the row x of this method's table; the rows ahead don't take it -/
theorem vx_catch {own name : String} {E : String} {ce : Cell} {q : Addr} (hown : s.vm.findClass own = some m.cls) (pre : List ExceptionTableEntry) (x : ExceptionTableEntry) (suf : List ExceptionTableEntry) (hsplit : c.exceptionTable.toList = pre ++ x :: suf)
    (hpass : ∀ z ∈ pre, covers z pc = false ∨ (z.catchType ≠ 0 ∧ ∃ nm : String, (Cond.classLink own z.catchType nm).before args s = true ∧ va_Nc E nm s)) (hx : covers x pc = true) (h0 : x.catchType ≠ 0)
    (hlink : (Cond.classLink own x.catchType name).before args s = true) (hcast : (Cond.castable E name).before args s = true) (hcell : H[q]? = some ce) (hv : ce.vm = .none) (hcl : s.vm.findClass E = some ce.cls)
    (kk : W p l e R s m args below meth c H locs cells slots Q (F0 m x.handlerPc ls [.ref q])) : vx_W p l e R s m args below meth c H locs cells slots Q (F0 m pc ls rest) q := by
  intro T hT X
  have hpl : e.platform.magicAccessors = ({} : Platform).magicAccessors := by rw [X.admits.platform]
  obtain ⟨c3, c4, hc3, hc4, hasg⟩ := Cond.castable_spec hcast
  cases Option.some.inj (hc3.symm.trans hcl)
  obtain ⟨c5, hc5, hcl5⟩ := Cond.classLink_spec hown hlink e.platform hpl
  cases Option.some.inj (hc4.symm.trans hc5)
  obtain ⟨vm', X', st⟩ := Stand.thenCaughtThrough X q (g := F0 m pc ls rest) rfl (Steps.refl _) (by rw [hT]; exact hcell) (by rw [hv]; rfl) (by obtain ⟨k9, h9, -⟩ := Vm.findClass_spec hcl; exact ⟨k9, h9⟩) pre x suf hsplit
    (fun z hz => by
      rcases hpass z hz with h | ⟨hz0, nm, hl1, hn1⟩
      · exact Or.inl h
      · obtain ⟨c6, hc6, hcl6⟩ := Cond.classLink_spec hown hl1 e.platform hpl
        obtain ⟨a8, b8, h1, h2, h3⟩ := hn1
        cases Option.some.inj (h1.symm.trans hcl)
        cases Option.some.inj (h2.symm.trans hc6)
        exact Or.inr ⟨hz0, _, hcl6, h3⟩) hx (Or.inr ⟨h0, c4, hcl5, hasg⟩)
  obtain ⟨t, a1, b1⟩ := kk (T.setVm vm') hT X'
  exact ⟨t, st.trans a1, b1⟩
end Rows
section Ends
variable {p : Program} {l : Launch} {e : Env} {R : Room} {s : State} {m : MethodId} {args : Array Value} {below : List Frame} {meth : Method} {c : Code} {H : Heap} {locs : List Loc} {cells slots : Nat} {Q : State → Prop}
variable {mc ms : Nat} {free : Addr → Prop} {A0 A1 : Nat → Prop} {H0 : Heap} {a : Array Value} {ls : Array Slot} {st0 rest : List Value}
variable {Qc : Array Value → State → Outcome → State → Prop} {XC : String → State → State → Prop}
/-- what a body that may throw owes at its end -/
def vx_MQ (below : List Frame) (Qc : Array Value → State → Outcome → State → Prop) (XC : String → State → State → Prop) (a : Array Value) (s : State) (mc ms : Nat) (free : Addr → Prop) : State → Prop := fun t =>
  ∃ o, t.status = .running ∧ Ended t below o ∧ vx_Q Qc XC mc ms free a s o t
theorem vx_ret {g : JFrame} {mc ms : Nat} (k : W p l e R s m args below meth c H locs cells slots (MQ below Qc args s mc ms free) g) : W p l e R s m args below meth c H locs cells slots (vx_MQ below Qc XC args s mc ms free) g := by
  intro T hT X
  obtain ⟨t, a1, o, b1, b2, b3, b4⟩ := k T hT X
  exact ⟨t, a1, o, b1, b2, Or.inl ⟨b3, b4⟩⟩
/-- not caught here: it goes on to the caller -/
theorem vx_widen {g : JFrame} {q : Addr} {k n : Nat} (h1 : cells ≤ k) (h2 : slots ≤ n) (kk : vx_W p l e R s m args below meth c H locs k n Q g q) : vx_W p l e R s m args below meth c H locs cells slots Q g q := fun T hT X => kk T hT (stand_widen X h1 h2)
theorem vx_out {pc : Nat} {E : String} {ce : Cell} {q : Addr} {mc ms : Nat} (hout : ∀ x ∈ c.exceptionTable.toList, covers x pc = false) (hlocks : meth.locks = false) (hcell : H[q]? = some ce) (hv : ce.vm = .none) (hcl : s.vm.findClass E = some ce.cls)
    (hx : ∀ t : State, t.heap = H → s.vm.Alike t.vm → XC E s t) (hf : ∀ z ∈ locs, free z.base) (hc : cells ≤ mc) (hs : slots ≤ ms) :
    vx_W p l e R s m args below meth c H locs cells slots (vx_MQ below Qc XC args s mc ms free) (F0 m pc ls rest) q := by
  intro T hT X
  obtain ⟨st1, hrun, hend, hW, hsm⟩ := X.leaveThrown q (g := F0 m pc ls rest) rfl rfl rfl hout hlocks
  have hcell9 : (T.setFrames (.throwing q :: below)).heap[q]? = some ce := by
    show T.heap[q]? = some ce
    rw [hT]; exact hcell
  exact ⟨_, st1, .threw q, hrun, hend, Or.inr ⟨q, rfl, E, ce, locs, hx _ hT hW.alike, hcell9, hv, hcl, hW, hsm.mono hc hs, hf⟩⟩
theorem vx_frame {U : State} {k n : Nat} (h : s.sameButNew ({ U with vm := s.vm } : State) locs k n) : s.heap.size ≤ U.heap.size ∧ ∀ q : Nat, q < s.heap.size → (∀ z ∈ locs, z.base ≠ q) → U.heap[q]? = s.heap[q]? := by
  obtain ⟨-, h2, -, -, -, h6⟩ := h
  refine ⟨h2, fun q hq hz => ?_⟩
  obtain ⟨c9, e1, e2, e3, e4⟩ := h6 q _ (Array.getElem?_eq_getElem hq)
  have hs : c9.slots = (s.heap[q]).slots := Array.ext_getElem? fun i => e4 i fun hm => hz _ hm rfl
  have h9 : c9 = s.heap[q] := by
    rw [hs] at e2
    exact e2
  have e5 : U.heap[q]? = some c9 := e1
  rw [e5, h9, Array.getElem?_eq_getElem hq]
/-- the words of a throw but the four that speak of the heap -/
def vx_no (w : Cond) : Bool := decide (w ≠ .isRef (.static Bundle.tN "UNASSIGNED_STACK" Bundle.steD)) && decide (w ≠ .isRef (.static Bundle.tN "SUPPRESSED_SENTINEL" Bundle.listD)) && decide (w ≠ .laysStatic Bundle.tN "UNASSIGNED_STACK" Bundle.steD) && decide (w ≠ .laysStatic Bundle.tN "SUPPRESSED_SENTINEL" Bundle.listD)
def vx_at0 (own : String) (ic : Nat) (X : String) (names : List String) : List Cond := (Bundle.ownAtoms0 own ic X names).filter vx_no
def vx_atS (own : String) (ic : Nat) (X : String) (names : List String) : List Cond := (Bundle.ownAtoms own ic X names).filter vx_no
/-- a word that the tables alone decide, or a good one -/
def vx_ot (w : Cond) : Bool := w.onTables || goodWord w
theorem vx_ot_at {args a' : Array Value} {s U : State} {w : Cond} (hW : s.WarmedH U.vm) (hvm : s.vm = U.vm) (hg : vx_ot w = true) (h : w.before args s = true) : w.before a' U = true := by
  simp only [vx_ot, Bool.or_eq_true] at hg
  rcases hg with hg | hg
  · exact va_tabs hg hvm h
  · exact word_at hW (good_of_word hg) h
/-- a list's words: the good ones out of the method's own list, the others by premises of their own -/
theorem vx_hat {args : Array Value} {s : State} {L B : List Cond} (h1 : ∀ w ∈ L.filter goodWord, w.before args s = true) (h2 : ∀ w ∈ L.filter (fun w => !goodWord w), w ∈ B) (h3 : ∀ w ∈ B, w.before args s = true) : ∀ w ∈ L, w.before args s = true := by
  intro w hw
  by_cases g : goodWord w = true
  · exact h1 w (List.mem_filter.mpr ⟨hw, g⟩)
  · refine h3 w (h2 w (List.mem_filter.mpr ⟨hw, ?_⟩))
    show (!goodWord w) = true
    cases hgw : goodWord w
    · rfl
    · exact absurd hgw g
theorem vx_c {args : Array Value} {s : State} {w : Cond} {B : List Cond} (h : w.before args s = true) (t : ∀ w ∈ B, w.before args s = true) : ∀ w' ∈ w :: B, w'.before args s = true := fun w' h' => (List.mem_cons.mp h').elim (fun e => by rw [e]; exact h) (t w')
theorem vx_n {args : Array Value} {s : State} : ∀ w ∈ ([] : List Cond), w.before args s = true := fun _ h => nomatch h
theorem vx_own {args : Array Value} {s : State} {L : List Cond} (h1 : ∀ w ∈ L.filter vx_no, w.before args s = true)
    (hU : (Cond.isRef (.static Bundle.tN "UNASSIGNED_STACK" Bundle.steD)).before args s = true) (hN : (Cond.isRef (.static Bundle.tN "SUPPRESSED_SENTINEL" Bundle.listD)).before args s = true)
    (lU : (Cond.laysStatic Bundle.tN "UNASSIGNED_STACK" Bundle.steD).before args s = true) (lN : (Cond.laysStatic Bundle.tN "SUPPRESSED_SENTINEL" Bundle.listD).before args s = true) : ∀ w ∈ L, w.before args s = true := by
  intro w hw
  by_cases e1 : w = .isRef (.static Bundle.tN "UNASSIGNED_STACK" Bundle.steD)
  · rw [e1]; exact hU
  · by_cases e2 : w = .isRef (.static Bundle.tN "SUPPRESSED_SENTINEL" Bundle.listD)
    · rw [e2]; exact hN
    · by_cases e3 : w = .laysStatic Bundle.tN "UNASSIGNED_STACK" Bundle.steD
      · rw [e3]; exact lU
      · by_cases e4 : w = .laysStatic Bundle.tN "SUPPRESSED_SENTINEL" Bundle.listD
        · rw [e4]; exact lN
        · exact h1 w (List.mem_filter.mpr ⟨hw, by unfold vx_no; rw [decide_eq_true e1, decide_eq_true e2, decide_eq_true e3, decide_eq_true e4]; rfl⟩)
/-- where a static field lies, its class's statics cell in H -/
def vx_L (C n d : String) (A : Nat → Prop) (U : State) (H : Heap) : Prop := ∃ (c : ClassId) (k : Class) (i : Nat) (f : Field) (a : Nat) (cell : Cell), U.vm.findClass C = some c ∧ U.fieldFound? C n d = some (c, k, i, f) ∧ f.isStatic = true ∧ k.statics = some a ∧ H[a]? = some cell ∧ cell.vm.isStatics = true ∧ cell.cls = c ∧ f.slot < cell.slots.size ∧ k.staticTypes[f.slot]? = some f.type ∧ ¬ A a
theorem vx_L.moved {C n d : String} {A : Nat → Prop} {u U : State} {H : Heap} (hvm : u.vm.Alike U.vm) (h : vx_L C n d A u H) : vx_L C n d A U H := by
  obtain ⟨c, k, i, f, a, cell, h1, h2, h3, h4, h5, h6, h7, h8, h9, h10⟩ := h
  obtain ⟨k', hi', he⟩ := State.fieldFound?_setVm hvm h2
  exact ⟨c, k', i, f, a, cell, by rw [hvm.findClass]; exact h1, hi', h3, by rw [he]; exact h4, h5, h6, h7, h8, by rw [he]; exact h9, h10⟩
theorem vx_L.kept {C n d : String} {A : Nat → Prop} {U : State} {H H1 : Heap} (h : vx_L C n d A U H) (hq : ∀ a : Nat, a < H.size → ¬ A a → H1[a]? = H[a]?) : vx_L C n d A U H1 := by
  obtain ⟨c, k, i, f, a, cell, h1, h2, h3, h4, h5, h6, h7, h8, h9, h10⟩ := h
  exact ⟨c, k, i, f, a, cell, h1, h2, h3, h4, by rw [hq a (Array.getElem?_eq_some_iff.mp h5).1 h10]; exact h5, h6, h7, h8, h9, h10⟩
theorem vx_L.narrow {C n d : String} {A B : Nat → Prop} {U : State} {H : Heap} (h : vx_L C n d A U H) (hAB : ∀ q, B q → A q) : vx_L C n d B U H := by
  obtain ⟨c, k, i, f, a, cell, h1, h2, h3, h4, h5, h6, h7, h8, h9, h10⟩ := h
  exact ⟨c, k, i, f, a, cell, h1, h2, h3, h4, h5, h6, h7, h8, h9, fun z => h10 (hAB _ z)⟩
theorem vx_L.word {C n d : String} {A : Nat → Prop} {s : State} {args : Array Value} (h : vx_L C n d A s s.heap) : (Cond.laysStatic C n d).before args s = true := by
  obtain ⟨c, k, i, f, a, cell, h1, h2, h3, h4, h5, h6, h7, h8, h9, -⟩ := h
  show (Cond.laysStatic C n d).holds args s none s [] = true
  exact Cond.laysStatic_of h1 h2 h3 h4 h5 h6 h7 h8 h9
/-- .. and what it holds: null or some reference -/
def vx_Zq (C n d : String) (A : Nat → Prop) (U : State) (H : Heap) : Prop := va_Zq C n d A U H ∧ vx_L C n d A U H
theorem vx_Zq.moved {C n d : String} {A : Nat → Prop} {u U : State} {H : Heap} (hvm : u.vm.Alike U.vm) (h : vx_Zq C n d A u H) : vx_Zq C n d A U H := ⟨va_Zq.moved hvm h.1, vx_L.moved hvm h.2⟩
theorem vx_Zq.kept {C n d : String} {A : Nat → Prop} {U : State} {H H1 : Heap} (h : vx_Zq C n d A U H) (hq : ∀ a : Nat, a < H.size → ¬ A a → H1[a]? = H[a]?) : vx_Zq C n d A U H1 := ⟨va_Zq.kept h.1 hq, vx_L.kept h.2 hq⟩
theorem vx_Zq.narrow {C n d : String} {A B : Nat → Prop} {U : State} {H : Heap} (h : vx_Zq C n d A U H) (hAB : ∀ q, B q → A q) : vx_Zq C n d B U H := ⟨va_Zq.narrow h.1 hAB, vx_L.narrow h.2 hAB⟩
theorem vx_Zqof {args : Array Value} {s : State} {C n d : String} {A : Nat → Prop} (hl : (Cond.laysStatic C n d).before args s = true) (hini : (Cond.initialized C).before args s = true) (h : (Cond.isRef (.static C n d)).before args s = true) (hA : ∀ a : Nat, a < s.heap.size → ¬ A a) : vx_Zq C n d A s s.heap := by
  refine ⟨va_Zqof hl hini h hA, ?_⟩
  obtain ⟨c, k, i, f, a, cell, h1, h2, h3, h4, h5, h6, h7, h8, h9⟩ := Cond.laysStatic_spec hl
  exact ⟨c, k, i, f, a, cell, h1, h2, h3, h4, h5, h6, h7, h8, h9, hA a (Array.getElem?_eq_some_iff.mp h5).1⟩
theorem vx_isRef {C n d : String} {v : Value} {A : Nat → Prop} {s : State} {args : Array Value} (h : va_Z C n d v A s s.heap) (hv : v.isRef = true) : (Cond.isRef (.static C n d)).before args s = true := by
  obtain ⟨cf, kf, fi, f, a, cell, h1, h2, h3, h4, h5, h6, h7, -⟩ := h
  have he : (Term.static C n d).eval args s none [] s = some v := by
    simp [Term.eval, State.fieldNamed?, h1, h2, h4, h5, h6, h7]
  simp only [Cond.before, Cond.holds, Cond.value, he]
  cases v <;> simp_all [Value.isRef]
theorem vx_isRefq {C n d : String} {A : Nat → Prop} {s : State} {args : Array Value} (h : va_Zq C n d A s s.heap) : (Cond.isRef (.static C n d)).before args s = true := by
  rcases h with h | ⟨t, h⟩
  · exact vx_isRef h rfl
  · exact vx_isRef h rfl
/-- the same frame, seen from here: as if the method were called anew in this heap -/
theorem vx_rebase {T : State} (X : Stand p l e R s m args below meth c T locs cells slots) {R' : Room} (hf : R'.frames ≤ R.frames) (hl : R'.locals ≤ R.locals) (hc : cells + R'.cells ≤ R.cells) (hs : slots + R'.slots ≤ R.slots) :
    Stand p l e R' ((T.setVm s.vm).setFrames (.invoking m args :: below)) m args below meth c T [] 0 0 := by
  have htop : (T.setVm s.vm).topJava?.isSome := X.here.top
  have hF : ((T.setVm s.vm).setFrames (.invoking m args :: below)).frames = .invoking m args :: below := State.frames_setFrames _ (State.cur_lt_of_top htop)
  obtain ⟨g₀, hg0⟩ := Option.isSome_iff_exists.mp htop
  obtain ⟨r, hr⟩ := State.topJava?_eq_some.mp hg0
  have hl9 : e.platform.stackLimits (T.setVm s.vm).me = e.platform.stackLimits s.me := X.limits
  have hb9 : (T.setVm s.vm).me.stackBytes = s.me.stackBytes := X.bytes
  refine ⟨X.admits, X.cas, X.clock, hF, ?_, X.hears, X.method, X.code, X.here, X.tail, X.warmed, ?_, ?_, ?_⟩
  · have h := X.room
    have hU : ((T.setVm s.vm).setFrames (.invoking m args :: below)).localsInUse = s.localsInUse := by
      rw [State.localsInUse_invoking hF (meth := meth) (c := c) X.method X.code, State.localsInUse_invoking X.frames X.method X.code]
    simp only [State.hasRoom, Bool.and_eq_true, decide_eq_true_eq] at h ⊢
    obtain ⟨⟨⟨⟨h1, h2, h3, h4, h5, h6⟩, h7⟩, h8⟩, h9⟩ := h
    rw [X.frames, List.length_cons] at h2 h3
    have q1 := X.heapSize
    have q2 := X.used
    simp only [hF, hU, List.length_cons, State.stackLimits_setFrames, State.stackBytes_setFrames, hl9, hb9]
    refine ⟨⟨⟨⟨by omega, by omega, by omega, by omega, by omega, h6⟩, ?_⟩, ?_⟩, X.book⟩
    · show T.heap.size + R'.cells ≤ e.platform.maxCells
      omega
    · show T.slotsUsed + R'.slots ≤ e.platform.maxSlots
      omega
  · rw [State.stackLimits_setFrames]; rfl
  · rw [State.stackBytes_setFrames]; rfl
  · refine ⟨?_, Nat.le_refl _, Nat.le_refl _, ?_, ?_, fun a c9 h9 => ⟨c9, h9, rfl, rfl, fun _ _ => rfl⟩⟩
    · obtain ⟨t, ht, -⟩ := State.frames_cons hr
      show T.setVm s.vm = { ((T.setVm s.vm).setFrames (.invoking m args :: below)).setFrames (T.setVm s.vm).frames with heap := T.heap, slotsUsed := T.slotsUsed }
      rw [State.setFrames_setFrames, State.setFrames_self ht]
      rfl
    · show T.slotsUsed = T.slotsUsed + ((T.heap.toList.drop T.heap.size).map (·.slots.size)).sum
      rw [List.drop_eq_nil_of_le (Nat.le_of_eq Array.length_toList)]
      rfl
    · show ((T.heap.toList.drop T.heap.size).map (·.slots.size)).sum ≤ 0
      rw [List.drop_eq_nil_of_le (Nat.le_of_eq Array.length_toList)]
      exact Nat.le_refl _
/-- 'throw new E()': new; dup; invokespecial; athrow -/
theorem vx_throw0 {cc : ByteArray} {pc : Nat} (hexec : p.tables.exec = Jvm.exec) (hb : c.code = cc) (hl : l.stackTraces = false) {own cls : String} {names : List String} {ik ic mc ms : Nat} {A : Nat → Prop}
    (hown : s.vm.findClass own = some m.cls) (hcls : Bundle.fit cls = true) (hnames : ∀ n ∈ names, Bundle.fit n = true)
    (hk : (Cond.classLink own ik cls).before args s = true) (hini : (Cond.initialized cls).before args s = true) (hat : ∀ w ∈ vx_at0 own ic cls names, w.before args s = true)
    (hgood : ∀ w ∈ Cond.classLink own ik cls :: Cond.initialized cls :: vx_at0 own ic cls names, vx_ot w = true)
    (hU : vx_Zq Bundle.tN "UNASSIGNED_STACK" Bundle.steD A s s.heap) (hN : vx_Zq Bundle.tN "SUPPRESSED_SENTINEL" Bundle.listD A s s.heap) (hS : va_S A s.heap H locs) (hsize : ls.size = c.maxLocals)
    (d0 : decode cc pc = .ok (.new ik, 3)) (d3 : decode cc (pc + 3) = .ok (.dup, 1)) (d4 : decode cc (pc + 4) = .ok (.invokespecial ic, 3)) (d7 : decode cc (pc + 7) = .ok (.athrow, 1))
    (hout : ∀ x ∈ c.exceptionTable.toList, covers x (pc + 7) = false)
    (hRframes : names.length + 3 < R.frames) (hRlocals : (rest.map fun v => v.category).sum + (13 * (names.length + 1) + 42) ≤ R.locals) (hRcells : cells + 1 ≤ R.cells) (hRslots : slots + 6 ≤ R.slots) (hlocks : meth.locks = false)
    (hx : ∀ t : State, s.vm.Alike t.vm → H.size ≤ t.heap.size → (∀ q : Nat, q < H.size → t.heap[q]? = H[q]?) → XC cls s t)
    (hf : ∀ z ∈ locs, free z.base) (hc : cells + 1 ≤ mc) (hs : slots + 6 ≤ ms) :
    W p l e R s m args below meth c H locs cells slots (vx_MQ below Qc XC args s mc ms free) (F0 m pc ls rest) := by
  intro T hT X
  have htr : e.platform.stackTraces = false := (show e.platform.stackTraces = l.stackTraces by rw [X.admits.platform]).trans hl
  have Y := vx_rebase X (R' := { frames := R.frames, locals := R.locals, cells := 1, slots := 6 }) (Nat.le_refl _) (Nat.le_refl _) hRcells hRslots
  obtain ⟨s', hA⟩ : ∃ z, z = (T.setVm s.vm).setFrames (.invoking m args :: below) := ⟨_, rfl⟩
  rw [← hA] at Y
  have hvm : s'.vm = s.vm := by rw [hA]; rfl
  have hhp : s'.heap = H := by rw [hA]; exact hT
  have hW0 : s.WarmedH s'.vm := by rw [hvm]; exact State.WarmedH.refl s
  have hat' : ∀ w ∈ vx_at0 own ic cls names, w.before args s' = true := fun w hw => vx_ot_at hW0 hvm.symm (hgood w (List.mem_cons_of_mem _ (List.mem_cons_of_mem _ hw))) (hat w hw)
  have hk' : (Cond.classLink own ik cls).before args s' = true := vx_ot_at hW0 hvm.symm (hgood _ List.mem_cons_self) hk
  have hini' : (Cond.initialized cls).before args s' = true := vx_ot_at hW0 hvm.symm (hgood _ (List.mem_cons_of_mem _ List.mem_cons_self)) hini
  have hU' : vx_Zq Bundle.tN "UNASSIGNED_STACK" Bundle.steD A s' s'.heap := by rw [hhp]; exact vx_Zq.moved hW0.alike (hU.kept hS.2.1)
  have hN' : vx_Zq Bundle.tN "SUPPRESSED_SENTINEL" Bundle.listD A s' s'.heap := by rw [hhp]; exact vx_Zq.moved hW0.alike (hN.kept hS.2.1)
  have h : ∀ w ∈ Bundle.ownAtoms0 own ic cls names, w.before args s' = true := vx_own hat' (vx_isRefq hU'.1) (vx_isRefq hN'.1) hU'.2.word hN'.2.word
  have hown' : s'.vm.findClass own = some m.cls := by rw [hvm]; exact hown
  have hins : (Cond.instantiable cls 6).before args s' = true := h _ (by simp [Bundle.ownAtoms0])
  obtain ⟨vm₁, cX, kX, hfX, hkX, -, -, X₁, st1⟩ := Y.newCold hexec (own := own) (C := cls) (index := ik) (n := 6) hown' hk' hins hini'
    (g := F0 m pc ls rest) rfl (by rw [hb]; exact d0) (Nat.le_refl _) (Nat.le_refl _)
  generalize hT1 : (T.setVm vm₁).pushCell { cls := cX, slots := kX.instanceTypes.map defaultValue, vm := .none } = T1 at X₁ st1
  have hcat : (Value.ref T.heap.size).category = 1 := rfl
  have hcellA : T1.heap[T.heap.size]? = some (freshCell cX kX) := by rw [← hT1]; exact State.heap_pushCell_size _ _
  have d3' : decode c.code (pc + 3) = .ok (.dup, 1) := by rw [hb]; exact d3
  obtain ⟨U, hsteps, hrun, hend, hW, hsame, ce, hce, hO⟩ := X₁.ctorThrow0 hexec htr (own := own) (cls := cls) (names := names) (ic := ic) hown' hcls hnames h (fun x hx => nomatch hx) hfX hkX hcellA (by rw [hhp, hT]; exact Nat.le_refl _)
    (g := { method := m, pc := pc + 4, locals := ls, stack := .ref T.heap.size :: .ref T.heap.size :: rest, locked := none }) rfl hsize rfl rfl (rest := rest) rfl
    (by rw [hb]; exact d4) (by rw [hb]; exact d7) hout hRframes (by simp only [List.map_cons, List.sum_cons, hcat]; omega) hlocks
  obtain ⟨f1, f2⟩ := vx_frame hsame
  rw [hhp] at f1 f2
  have hWs : s.WarmedH U.vm := State.WarmedH.trans hW0 hW
  have hcl : s.vm.findClass cls = some ce.cls := by
    have h9 := hO.cls
    rw [hvm] at h9
    exact h9
  have hall : s.sameButNew ({ U with vm := s.vm } : State) locs mc ms := by
    subst hA
    obtain ⟨e1, e2⟩ := hsame
    rw [State.setFrames_setFrames] at e1
    have h2 : (T.setVm s.vm).sameButNew ({ U with vm := s.vm } : State) [] (0 + 1) (0 + 6) := ⟨e1, e2⟩
    have h3 := X.same.trans h2
    rw [List.append_nil] at h3
    exact h3.mono hc hs
  refine ⟨U, ?_, .threw T.heap.size, hrun, hend, Or.inr ⟨T.heap.size, rfl, cls, ce, locs, hx U hWs.alike f1 (fun q hq => f2 q hq (fun z hz => nomatch hz)), hce, hO.vm, hcl, hWs, hall, hf⟩⟩
  refine st1 _ ?_
  show Steps p.tables e below (T1.setTop { method := m, pc := pc + 3, locals := ls, stack := .ref T.heap.size :: rest, locked := none }) _
  jvm_step X₁.here [X₁.here.top, hexec, d3', Value.category]
  exact hsteps
/-- 'throw new E("text")': new; dup; ldc; invokespecial; athrow -/
theorem vx_throwS {cc : ByteArray} {pc : Nat} (hexec : p.tables.exec = Jvm.exec) (hb : c.code = cc) (hl : l.stackTraces = false) {own cls text : String} {names : List String} {ik is ic mc ms sa : Nat} {A : Nat → Prop}
    (hown : s.vm.findClass own = some m.cls) (hcls : Bundle.fit cls = true) (hnames : ∀ n ∈ names, Bundle.fit n = true)
    (hk : (Cond.classLink own ik cls).before args s = true) (hini : (Cond.initialized cls).before args s = true) (hstr : vk_R own is text sa s) (hat : ∀ w ∈ vx_atS own ic cls names, w.before args s = true)
    (hgood : ∀ w ∈ Cond.classLink own ik cls :: Cond.initialized cls :: vx_atS own ic cls names, vx_ot w = true)
    (hU : vx_Zq Bundle.tN "UNASSIGNED_STACK" Bundle.steD A s s.heap) (hN : vx_Zq Bundle.tN "SUPPRESSED_SENTINEL" Bundle.listD A s s.heap) (hS : va_S A s.heap H locs) (hsize : ls.size = c.maxLocals)
    (d0 : decode cc pc = .ok (.new ik, 3)) (d3 : decode cc (pc + 3) = .ok (.dup, 1)) (d4 : decode cc (pc + 4) = .ok (.ldc is, 2)) (d6 : decode cc (pc + 6) = .ok (.invokespecial ic, 3)) (d9 : decode cc (pc + 9) = .ok (.athrow, 1))
    (hout : ∀ x ∈ c.exceptionTable.toList, covers x (pc + 9) = false)
    (hRframes : names.length + 3 < R.frames) (hRlocals : (rest.map fun v => v.category).sum + (13 * (names.length + 1) + 43) ≤ R.locals) (hRcells : cells + 1 ≤ R.cells) (hRslots : slots + 6 ≤ R.slots) (hlocks : meth.locks = false)
    (hx : ∀ t : State, s.vm.Alike t.vm → H.size ≤ t.heap.size → (∀ q : Nat, q < H.size → t.heap[q]? = H[q]?) → XC cls s t)
    (hf : ∀ z ∈ locs, free z.base) (hc : cells + 1 ≤ mc) (hs : slots + 6 ≤ ms) :
    W p l e R s m args below meth c H locs cells slots (vx_MQ below Qc XC args s mc ms free) (F0 m pc ls rest) := by
  intro T hT X
  have htr : e.platform.stackTraces = false := (show e.platform.stackTraces = l.stackTraces by rw [X.admits.platform]).trans hl
  have Y := vx_rebase X (R' := { frames := R.frames, locals := R.locals, cells := 1, slots := 6 }) (Nat.le_refl _) (Nat.le_refl _) hRcells hRslots
  obtain ⟨s', hA⟩ : ∃ z, z = (T.setVm s.vm).setFrames (.invoking m args :: below) := ⟨_, rfl⟩
  rw [← hA] at Y
  have hvm : s'.vm = s.vm := by rw [hA]; rfl
  have hhp : s'.heap = H := by rw [hA]; exact hT
  have hW0 : s.WarmedH s'.vm := by rw [hvm]; exact State.WarmedH.refl s
  have hat' : ∀ w ∈ vx_atS own ic cls names, w.before args s' = true := fun w hw => vx_ot_at hW0 hvm.symm (hgood w (List.mem_cons_of_mem _ (List.mem_cons_of_mem _ hw))) (hat w hw)
  have hk' : (Cond.classLink own ik cls).before args s' = true := vx_ot_at hW0 hvm.symm (hgood _ List.mem_cons_self) hk
  have hini' : (Cond.initialized cls).before args s' = true := vx_ot_at hW0 hvm.symm (hgood _ (List.mem_cons_of_mem _ List.mem_cons_self)) hini
  have hU' : vx_Zq Bundle.tN "UNASSIGNED_STACK" Bundle.steD A s' s'.heap := by rw [hhp]; exact vx_Zq.moved hW0.alike (hU.kept hS.2.1)
  have hN' : vx_Zq Bundle.tN "SUPPRESSED_SENTINEL" Bundle.listD A s' s'.heap := by rw [hhp]; exact vx_Zq.moved hW0.alike (hN.kept hS.2.1)
  have h : ∀ w ∈ Bundle.ownAtoms own ic cls names, w.before args s' = true := vx_own hat' (vx_isRefq hU'.1) (vx_isRefq hN'.1) hU'.2.word hN'.2.word
  have hown' : s'.vm.findClass own = some m.cls := by rw [hvm]; exact hown
  have hins : (Cond.instantiable cls 6).before args s' = true := h _ (by simp [Bundle.ownAtoms])
  obtain ⟨vm₁, cX, kX, hfX, hkX, -, -, X₁, st1⟩ := Y.newCold hexec (own := own) (C := cls) (index := ik) (n := 6) hown' hk' hins hini'
    (g := F0 m pc ls rest) rfl (by rw [hb]; exact d0) (Nat.le_refl _) (Nat.le_refl _)
  generalize hT1 : (T.setVm vm₁).pushCell { cls := cX, slots := kX.instanceTypes.map defaultValue, vm := .none } = T1 at X₁ st1
  have hcat : (Value.ref T.heap.size).category = 1 := rfl
  have hcellA : T1.heap[T.heap.size]? = some (freshCell cX kX) := by rw [← hT1]; exact State.heap_pushCell_size _ _
  have d3' : decode c.code (pc + 3) = .ok (.dup, 1) := by rw [hb]; exact d3
  have d4' : decode c.code (pc + 4) = .ok (.ldc is, 2) := by rw [hb]; exact d4
  have hstr' : vk_R own is text sa s' := vk_R.warm hW0 hstr
  obtain ⟨U, hsteps, hrun, hend, hW, hsame, ce, hce, hO⟩ := X₁.ctorThrowS hexec htr (own := own) (cls := cls) (names := names) (ic := ic) hown' hcls hnames h (fun x hx => nomatch hx) hfX hkX hcellA (by rw [hhp, hT]; exact Nat.le_refl _) (msg := .ref sa) rfl
    (g := { method := m, pc := pc + 6, locals := ls, stack := .ref sa :: .ref T.heap.size :: .ref T.heap.size :: rest, locked := none }) rfl hsize rfl rfl (rest := rest) rfl
    (by rw [hb]; exact d6) (by rw [hb]; exact d9) hout hRframes (by simp only [List.map_cons, List.sum_cons, hcat]; omega) hlocks
  obtain ⟨f1, f2⟩ := vx_frame hsame
  rw [hhp] at f1 f2
  have hWs : s.WarmedH U.vm := State.WarmedH.trans hW0 hW
  have hcl : s.vm.findClass cls = some ce.cls := by
    have h9 := hO.cls
    rw [hvm] at h9
    exact h9
  have hall : s.sameButNew ({ U with vm := s.vm } : State) locs mc ms := by
    subst hA
    obtain ⟨e1, e2⟩ := hsame
    rw [State.setFrames_setFrames] at e1
    have h2 : (T.setVm s.vm).sameButNew ({ U with vm := s.vm } : State) [] (0 + 1) (0 + 6) := ⟨e1, e2⟩
    have h3 := X.same.trans h2
    rw [List.append_nil] at h3
    exact h3.mono hc hs
  refine ⟨U, ?_, .threw T.heap.size, hrun, hend, Or.inr ⟨T.heap.size, rfl, cls, ce, locs, hx U hWs.alike f1 (fun q hq => f2 q hq (fun z hz => nomatch hz)), hce, hO.vm, hcl, hWs, hall, hf⟩⟩
  refine st1 _ ?_
  show Steps p.tables e below (T1.setTop { method := m, pc := pc + 3, locals := ls, stack := .ref T.heap.size :: rest, locked := none }) _
  jvm_step X₁.here [X₁.here.top, hexec, d3', Value.category]
  exact X₁.ldcString hexec (own := own) (text := text) (index := is) (a := sa) hown' hstr'.1 hstr'.2
    (g := { method := m, pc := pc + 4, locals := ls, stack := .ref T.heap.size :: .ref T.heap.size :: rest, locked := none }) rfl d4' _ hsteps
/-- 'throw new E("text")', the text by a wide index -/
theorem vx_throwSW {cc : ByteArray} {pc : Nat} (hexec : p.tables.exec = Jvm.exec) (hb : c.code = cc) (hl : l.stackTraces = false) {own cls text : String} {names : List String} {ik is ic mc ms sa : Nat} {A : Nat → Prop}
    (hown : s.vm.findClass own = some m.cls) (hcls : Bundle.fit cls = true) (hnames : ∀ n ∈ names, Bundle.fit n = true)
    (hk : (Cond.classLink own ik cls).before args s = true) (hini : (Cond.initialized cls).before args s = true) (hstr : vk_R own is text sa s) (hat : ∀ w ∈ vx_atS own ic cls names, w.before args s = true)
    (hgood : ∀ w ∈ Cond.classLink own ik cls :: Cond.initialized cls :: vx_atS own ic cls names, vx_ot w = true)
    (hU : vx_Zq Bundle.tN "UNASSIGNED_STACK" Bundle.steD A s s.heap) (hN : vx_Zq Bundle.tN "SUPPRESSED_SENTINEL" Bundle.listD A s s.heap) (hS : va_S A s.heap H locs) (hsize : ls.size = c.maxLocals)
    (d0 : decode cc pc = .ok (.new ik, 3)) (d3 : decode cc (pc + 3) = .ok (.dup, 1)) (d4 : decode cc (pc + 4) = .ok (.ldc_w is, 3)) (d7 : decode cc (pc + 7) = .ok (.invokespecial ic, 3)) (d10 : decode cc (pc + 10) = .ok (.athrow, 1))
    (hout : ∀ x ∈ c.exceptionTable.toList, covers x (pc + 10) = false)
    (hRframes : names.length + 3 < R.frames) (hRlocals : (rest.map fun v => v.category).sum + (13 * (names.length + 1) + 43) ≤ R.locals) (hRcells : cells + 1 ≤ R.cells) (hRslots : slots + 6 ≤ R.slots) (hlocks : meth.locks = false)
    (hx : ∀ t : State, s.vm.Alike t.vm → H.size ≤ t.heap.size → (∀ q : Nat, q < H.size → t.heap[q]? = H[q]?) → XC cls s t)
    (hf : ∀ z ∈ locs, free z.base) (hc : cells + 1 ≤ mc) (hs : slots + 6 ≤ ms) :
    W p l e R s m args below meth c H locs cells slots (vx_MQ below Qc XC args s mc ms free) (F0 m pc ls rest) := by
  intro T hT X
  have htr : e.platform.stackTraces = false := (show e.platform.stackTraces = l.stackTraces by rw [X.admits.platform]).trans hl
  have Y := vx_rebase X (R' := { frames := R.frames, locals := R.locals, cells := 1, slots := 6 }) (Nat.le_refl _) (Nat.le_refl _) hRcells hRslots
  obtain ⟨s', hA⟩ : ∃ z, z = (T.setVm s.vm).setFrames (.invoking m args :: below) := ⟨_, rfl⟩
  rw [← hA] at Y
  have hvm : s'.vm = s.vm := by rw [hA]; rfl
  have hhp : s'.heap = H := by rw [hA]; exact hT
  have hW0 : s.WarmedH s'.vm := by rw [hvm]; exact State.WarmedH.refl s
  have hat' : ∀ w ∈ vx_atS own ic cls names, w.before args s' = true := fun w hw => vx_ot_at hW0 hvm.symm (hgood w (List.mem_cons_of_mem _ (List.mem_cons_of_mem _ hw))) (hat w hw)
  have hk' : (Cond.classLink own ik cls).before args s' = true := vx_ot_at hW0 hvm.symm (hgood _ List.mem_cons_self) hk
  have hini' : (Cond.initialized cls).before args s' = true := vx_ot_at hW0 hvm.symm (hgood _ (List.mem_cons_of_mem _ List.mem_cons_self)) hini
  have hU' : vx_Zq Bundle.tN "UNASSIGNED_STACK" Bundle.steD A s' s'.heap := by rw [hhp]; exact vx_Zq.moved hW0.alike (hU.kept hS.2.1)
  have hN' : vx_Zq Bundle.tN "SUPPRESSED_SENTINEL" Bundle.listD A s' s'.heap := by rw [hhp]; exact vx_Zq.moved hW0.alike (hN.kept hS.2.1)
  have h : ∀ w ∈ Bundle.ownAtoms own ic cls names, w.before args s' = true := vx_own hat' (vx_isRefq hU'.1) (vx_isRefq hN'.1) hU'.2.word hN'.2.word
  have hown' : s'.vm.findClass own = some m.cls := by rw [hvm]; exact hown
  have hins : (Cond.instantiable cls 6).before args s' = true := h _ (by simp [Bundle.ownAtoms])
  obtain ⟨vm₁, cX, kX, hfX, hkX, -, -, X₁, st1⟩ := Y.newCold hexec (own := own) (C := cls) (index := ik) (n := 6) hown' hk' hins hini'
    (g := F0 m pc ls rest) rfl (by rw [hb]; exact d0) (Nat.le_refl _) (Nat.le_refl _)
  generalize hT1 : (T.setVm vm₁).pushCell { cls := cX, slots := kX.instanceTypes.map defaultValue, vm := .none } = T1 at X₁ st1
  have hcat : (Value.ref T.heap.size).category = 1 := rfl
  have hcellA : T1.heap[T.heap.size]? = some (freshCell cX kX) := by rw [← hT1]; exact State.heap_pushCell_size _ _
  have d3' : decode c.code (pc + 3) = .ok (.dup, 1) := by rw [hb]; exact d3
  have d4' : decode c.code (pc + 4) = .ok (.ldc_w is, 3) := by rw [hb]; exact d4
  have hstr' : vk_R own is text sa s' := vk_R.warm hW0 hstr
  obtain ⟨U, hsteps, hrun, hend, hW, hsame, ce, hce, hO⟩ := X₁.ctorThrowS hexec htr (own := own) (cls := cls) (names := names) (ic := ic) hown' hcls hnames h (fun x hx => nomatch hx) hfX hkX hcellA (by rw [hhp, hT]; exact Nat.le_refl _) (msg := .ref sa) rfl
    (g := { method := m, pc := pc + 7, locals := ls, stack := .ref sa :: .ref T.heap.size :: .ref T.heap.size :: rest, locked := none }) rfl hsize rfl rfl (rest := rest) rfl
    (by rw [hb]; exact d7) (by rw [hb]; exact d10) hout hRframes (by simp only [List.map_cons, List.sum_cons, hcat]; omega) hlocks
  obtain ⟨f1, f2⟩ := vx_frame hsame
  rw [hhp] at f1 f2
  have hWs : s.WarmedH U.vm := State.WarmedH.trans hW0 hW
  have hcl : s.vm.findClass cls = some ce.cls := by
    have h9 := hO.cls
    rw [hvm] at h9
    exact h9
  have hall : s.sameButNew ({ U with vm := s.vm } : State) locs mc ms := by
    subst hA
    obtain ⟨e1, e2⟩ := hsame
    rw [State.setFrames_setFrames] at e1
    have h2 : (T.setVm s.vm).sameButNew ({ U with vm := s.vm } : State) [] (0 + 1) (0 + 6) := ⟨e1, e2⟩
    have h3 := X.same.trans h2
    rw [List.append_nil] at h3
    exact h3.mono hc hs
  refine ⟨U, ?_, .threw T.heap.size, hrun, hend, Or.inr ⟨T.heap.size, rfl, cls, ce, locs, hx U hWs.alike f1 (fun q hq => f2 q hq (fun z hz => nomatch hz)), hce, hO.vm, hcl, hWs, hall, hf⟩⟩
  refine st1 _ ?_
  show Steps p.tables e below (T1.setTop { method := m, pc := pc + 3, locals := ls, stack := .ref T.heap.size :: rest, locked := none }) _
  jvm_step X₁.here [X₁.here.top, hexec, d3', Value.category]
  exact X₁.ldcStringW hexec (own := own) (text := text) (index := is) (a := sa) hown' hstr'.1 hstr'.2
    (g := { method := m, pc := pc + 4, locals := ls, stack := .ref T.heap.size :: .ref T.heap.size :: rest, locked := none }) rfl d4' _ hsteps
end Ends
section Bodies
variable {l : Launch}
theorem vx_ofW {y : MethodName} {ws ws' : List Cond} {rm : Room} {Pc : Array Value → State → Prop} {Qc : Array Value → State → Outcome → State → Prop} {XC : String → State → State → Prop} {mc ms : Nat} {free : Addr → Prop} {cc : ByteArray} {maxL : Nat} {ret : Option FieldType}
    (hy : plainName y.cls = true) (hw : ws = Cond.code y cc maxL ret :: ws')
    (body : ∀ p e s m args below meth c s₁, BodyLoose p l y (headSpec ws rm) cc maxL ret e s m args below meth c s₁ → c.maxLocals = maxL → (∀ x ∈ c.exceptionTable.toList, False) → Pc args s →
      W p l e (headSpec ws rm).room s m args below meth c s.heap [] 0 0 (vx_MQ below Qc XC args s mc ms free) (entryFrame m args maxL)) : vx_Met l y ws rm Pc Qc XC mc ms free := by
  refine MetFree.of_bodyS (code := cc) (maxLocals := maxL) (ret := ret) hy ?_ ?_
  · intro args s m h hn
    obtain ⟨meth, c, h1, h2, h3, h4, h5, h6, -, -⟩ := Cond.code_spec hn (atoms_spec (ws := ws) h _ (by rw [hw]; exact List.mem_cons_self))
    exact ⟨meth, c, h1, h2, h3, h4, h5, h6⟩
  · intro p e s m args below meth c s₁ B hml hP _
    have hh0 : s₁.heap = s.heap := by rw [B.state]; rfl
    have ht : ∀ x ∈ c.exceptionTable.toList, False := by
      obtain ⟨meth9, c9, h1, h2, -, -, -, -, h7, -⟩ := Cond.code_spec B.named (atoms_spec (ws := ws) B.pre _ (by rw [hw]; exact List.mem_cons_self))
      cases Option.some.inj (h1.symm.trans B.method)
      cases Option.some.inj (h2.symm.trans (Stand.of_body B).code)
      intro x hx
      rw [Array.isEmpty_iff.mp h7] at hx
      cases hx
    obtain ⟨t, a1, o, b1, b2, b3⟩ := body p e s m args below meth c s₁ B hml ht hP s₁ hh0 (Stand.of_body B)
    exact ⟨t, o, a1, b1, b2, b3⟩
/-- the table of a body with handlers -/
theorem vx_table {p : Program} {x y : MethodName} {S : Spec} {cc bytes : ByteArray} {maxL maxL' : Nat} {ret ret' : Option FieldType} {e : Env} {s s₁ : State} {m : MethodId} {args : Array Value} {below : List Frame} {meth : Method} {c : Code} {hh : List (Nat × Nat × Nat × Nat)}
    (B : BodyLoose p l y S cc maxL ret e s m args below meth c s₁) (h : (Cond.codeWith y bytes maxL' ret' hh).before args s = true) : c.exceptionTable.toList = tableOf hh := by
  obtain ⟨m9, meth9, c9, hn9, h1, h2, -, -, h6, -⟩ := Cond.codeWith_spec h
  cases Option.some.inj (hn9.symm.trans B.named)
  cases Option.some.inj (h1.symm.trans B.method)
  cases Option.some.inj (h2.symm.trans (Stand.of_body B).code)
  rw [← h6, table_eq]
end Bodies
end VXA
/-! ===== END ===== -/
/-! ===== BEGIN a static call of a method with an exception table ===== -/
section VXS
variable {p : Program} {l : Launch} {e : Env} {R : Room} {s : State} {m : MethodId} {args : Array Value} {below : List Frame} {meth : Method} {c : Code} {T : State} {H : Heap} {locs : List Loc} {cells slots : Nat}
abbrev vx_CSW (R : Room) (s : State) (args : Array Value) (own : String) (index : Nat) (y : MethodName) (bytes : ByteArray) (maxL : Nat) (ret : Option FieldType) (hh : List (Nat × Nat × Nat × Nat)) (ws : List Cond) (rm : Room) (mc ms n : Nat) : Prop :=
  (rm.cells = mc ∧ rm.slots = ms ∧ rm.frames + 1 ≤ R.frames ∧ 8 + (maxL + 11) + rm.locals ≤ R.locals ∧ (∀ w ∈ ws, ∀ (a' : Array Value) (U : State), s.WarmedH U.vm → w.before a' U = true) ∧ Cond.codeWith y bytes maxL ret hh ∈ ws) ∧
  (Cond.codeWith y bytes maxL ret hh).before args s = true ∧ (Cond.initialized y.cls).before args s = true ∧ (y.cls ≠ "java/lang/invoke/MethodHandle" ∧ y.cls ≠ "java/lang/invoke/VarHandle") ∧
  (∀ sig, parseMethodDescriptor y.desc = some sig → n = sig.parameters.length) ∧ (Cond.methodLink own index y).before args s = true ∧ (Cond.static y).before args s = true
theorem vx_cwSW {own : String} {index maxL mc ms : Nat} {y : MethodName} {bytes : ByteArray} {ret : Option FieldType} {hh : List (Nat × Nat × Nat × Nat)} {Ts ws ws' : List Cond} {rm : Room} (n : Nat) (ht : ∀ w ∈ Ts, w.before args s = true) (hT : GoodIn Ts (va_wsS own index y ws)) (hw : ws = Cond.codeWith y bytes maxL ret hh :: ws') (hrc : rm.cells = mc) (hrs : rm.slots = ms)
    (hd : y.cls ≠ "java/lang/invoke/MethodHandle" ∧ y.cls ≠ "java/lang/invoke/VarHandle" ∧ (parseMethodDescriptor y.desc).map (fun d => d.parameters.length) = some n) (hR : rm.frames + 1 ≤ R.frames ∧ 8 + (maxL + 11) + rm.locals ≤ R.locals) :
    vx_CSW R s args own index y bytes maxL ret hh ws rm mc ms n := by
  have ok : ∀ w ∈ va_wsS own index y ws, w.before args s = true := fun w h => ht w (hT w h).1
  have hG : GoodIn Ts ws := fun w h => hT w (by unfold va_wsS; exact List.mem_append_right _ h)
  have hc : Cond.codeWith y bytes maxL ret hh ∈ ws := by rw [hw]; exact List.mem_cons_self
  refine ⟨⟨hrc, hrs, hR.1, hR.2, pay_in ht hG, hc⟩, ht _ (hG _ hc).1, ok _ (by simp [va_wsS]), ⟨hd.1, hd.2.1⟩, fun sig h => ?_, ok _ (by simp [va_wsS]), ok _ (by simp [va_wsS])⟩
  have h2 := hd.2.2
  rw [h] at h2
  exact (Option.some.inj h2).symm
theorem vx_callSW (X : Stand p l e R s m args below meth c T locs cells slots) (hexec : p.tables.exec = Jvm.exec) {own : String} {index : Nat} {y : MethodName} {bytes : ByteArray} {maxL : Nat} {ret : Option FieldType} {hh : List (Nat × Nat × Nat × Nat)}
    (hown : s.vm.findClass own = some m.cls) (hlink : (Cond.methodLink own index y).before args s = true) (hstat : (Cond.static y).before args s = true) (hinit : (Cond.initialized y.cls).before args s = true)
    (hcode : (Cond.codeWith y bytes maxL ret hh).before args s = true) (hy : y.cls ≠ "java/lang/invoke/MethodHandle" ∧ y.cls ≠ "java/lang/invoke/VarHandle")
    {W9 : Nat} {Pre : Pt → Array Value → Prop} {Post : Pt → Array Value → Option Value → Pt → Prop} (hK : Back l R p e below s args y 3 W9 Pre Post)
    {g : JFrame} (hg : g.method = m) (hsize : g.locals.size = c.maxLocals) {argsL rest : List Value} (hlen : ∀ sig, parseMethodDescriptor y.desc = some sig → argsL.length = sig.parameters.length)
    (hstack : g.stack = argsL.reverse ++ rest) (hW : 2 * g.monitorRoom + (rest.map fun v => v.category).sum ≤ W9) (hdg : decode c.code g.pc = .ok (.invokestatic index, 3))
    (hpre : ∀ vm₁, s.WarmedH vm₁ → Pre ⟨T.setVm vm₁, locs, cells, slots⟩ argsL.toArray) :
    ∃ (v : Option Value) (vm₁ : Vm) (B : Pt), s.WarmedH vm₁ ∧ Stand p l e R s m args below meth c B.U B.locs B.cells B.slots ∧ Post ⟨T.setVm vm₁, locs, cells, slots⟩ argsL.toArray v B ∧
      ∀ target, Steps p.tables e below (B.U.setTop { g with pc := g.pc + 3, stack := v.toList ++ rest }) target → Steps p.tables e below (T.setTop g) target := by
  obtain ⟨mk, methM, cM, hnamed, hmethM, -, -, -, -, -, -, hsigM⟩ := Cond.codeWith_spec hcode
  have hstatic : methM.isStatic = true := Cond.static_spec hnamed hmethM hstat
  obtain ⟨kP, hkP, -⟩ := className_of_methodNamed hnamed
  have hinitP : kP.init = .initialized := Cond.initialized_spec (findClass_of_methodNamed hnamed) hkP hinit
  obtain ⟨vm₁, X₁, hstep₁⟩ := X.invokestatic hexec hown hlink hnamed hmethM hstatic hkP hinitP hy (g := g) hg (argsL := argsL) (rest := rest) (hlen _ hsigM) hstack hdg
  obtain ⟨v, B, X', hpost, hsteps⟩ := hK m meth c ⟨T.setVm vm₁, locs, cells, slots⟩ { g with stack := rest } (.invokestatic index) mk argsL.toArray X₁ hg hsize hdg hW (X₁.named hnamed) (hpre vm₁ X₁.warmed)
  exact ⟨v, vm₁, B, X₁.warmed, X', hpost, fun target h => hstep₁ _ fun acts => by rw [doInvoke_state]; exact hsteps.trans h⟩
theorem vx_runSW {y : MethodName} {bytes cc : ByteArray} {maxL nL mc ms n index : Nat} {ret : Option FieldType} {hh : List (Nat × Nat × Nat × Nat)} {ws : List Cond} {rm : Room} {Pc : Array Value → State → Prop} {Qc : Array Value → State → Outcome → State → Prop} {free : Addr → Prop} {Ts : List Cond} {own : String} {As rest : List Value} {g : JFrame}
    (S : CallFix p m c cc nL s args Ts own) (hM : Met l y ws rm Pc Qc mc ms free) (cw : vx_CSW R s args own index y bytes maxL ret hh ws rm mc ms n) (hp : PreS s H Pc As)
    (hg : g.method = m) (hn : As.length = n) (hsize : g.locals.size = nL) (hstack : g.stack = As.reverse ++ rest) (hW : 2 * g.monitorRoom + (rest.map fun v => v.category).sum ≤ 8) (hdg : decode cc g.pc = .ok (.invokestatic index, 3)) (hf : cells + mc ≤ R.cells ∧ slots + ms ≤ R.slots) :
    va_Run p l e R s m args below meth c H locs cells slots mc ms g rest (Qc As.toArray) (free) := by
  obtain ⟨⟨hrc, hrs, hfr, hlo, hws, hcw⟩, hcode, hini, hy, hlen, hl, hstt⟩ := cw
  have hK : Back l R p e below s args y 3 8 (PreOf R mc ms Pc) (PostOf Qc mc ms free) := va_backW (hh := hh) (bytes := bytes) (maxL := maxL) (ret := ret) hM hp.1 hrc hrs hfr hlo hws hcw (fun a' U hW => word_at hW (Or.inl (by first | rfl | simp [Cond.onTables, Cond.keeps, Cond.steady])) hini)
  obtain ⟨hx, hb, hml, ho, -⟩ := S
  intro T hT X
  obtain ⟨v, vm₁, ⟨U', l2, c2, s2⟩, hW₁, X', ⟨g', mk, t, L, e1, e2, hq, h1, hL, h2, h3⟩, st⟩ := vx_callSW X hx (hh := hh) (bytes := bytes) (maxL := maxL) (ret := ret) ho hl hstt hini hcode hy hK hg (hsize.trans hml.symm) (argsL := As) (rest := rest) (fun sig h => hn.trans (hlen sig h)) hstack hW (by rw [hb]; exact hdg)
    (fun vm₁ hW₁ => ⟨hf.1, hf.2, hp.2 (T.setVm vm₁) hT hW₁⟩)
  dsimp only [Pt.U, Pt.locs, Pt.cells, Pt.slots] at X' e1 e2 h1 h2 h3 st
  subst h1; subst h2; subst h3
  exact ⟨v, (T.setVm vm₁).calling g' mk As.toArray, t, U', L, hT, X', hL, e1, e2, hq, st⟩
/-- not caught here, past rows that name other classes: it goes on to the caller -/
theorem vx_outP {p : Program} {l : Launch} {e : Env} {R : Room} {s : State} {m : MethodId} {args : Array Value} {below : List Frame} {meth : Method} {c : Code} {H : Heap} {locs : List Loc} {cells slots : Nat} {free : Addr → Prop} {ls : Array Slot} {rest : List Value} {Qc : Array Value → State → Outcome → State → Prop} {XC : String → State → State → Prop}
    {pc : Nat} {own E : String} {ce : Cell} {q : Addr} {mc ms : Nat} (hown : s.vm.findClass own = some m.cls) (hlocks : meth.locks = false)
    (hpass : ∀ z ∈ c.exceptionTable.toList, covers z pc = false ∨ (z.catchType ≠ 0 ∧ ∃ nm : String, (Cond.classLink own z.catchType nm).before args s = true ∧ va_Nc E nm s)) (hcell : H[q]? = some ce) (hv : ce.vm = .none) (hcl : s.vm.findClass E = some ce.cls)
    (hx : ∀ t : State, t.heap = H → s.vm.Alike t.vm → XC E s t) (hf : ∀ z ∈ locs, free z.base) (hc : cells ≤ mc) (hs : slots ≤ ms) :
    vx_W p l e R s m args below meth c H locs cells slots (vx_MQ below Qc XC args s mc ms free) (F0 m pc ls rest) q := by
  intro T hT X
  have hpl : e.platform.magicAccessors = ({} : Platform).magicAccessors := by rw [X.admits.platform]
  obtain ⟨vm', hW', X', st⟩ := Stand.outThrough X hlocks q (g := F0 m pc ls rest) rfl rfl rfl (cell := ce) (by rw [hT]; exact hcell) (by rw [hv]; rfl)
    (by obtain ⟨k9, h9, -⟩ := Vm.findClass_spec hcl; exact ⟨k9, h9⟩) (fun z hz => by
      rcases hpass z hz with h | ⟨hz0, nm, hl1, hn1⟩
      · exact Or.inl h
      · obtain ⟨c6, hc6, hcl6⟩ := Cond.classLink_spec hown hl1 e.platform hpl
        obtain ⟨a8, b8, h1, h2, h3⟩ := hn1
        cases Option.some.inj (h1.symm.trans hcl)
        cases Option.some.inj (h2.symm.trans hc6)
        exact Or.inr ⟨hz0, _, hcl6, h3⟩)
  obtain ⟨g₀, hfr⟩ := X'.frames_eq
  have hcell9 : ((T.setVm vm').setFrames (.throwing q :: below)).heap[q]? = some ce := by
    show T.heap[q]? = some ce
    rw [hT]; exact hcell
  have hend : Ended ((T.setVm vm').setFrames (.throwing q :: below)) below (.threw q) := State.frames_setFrames _ (State.cur_lt_of_frames hfr)
  refine ⟨(T.setVm vm').setFrames (.throwing q :: below), ?_, .threw q, X'.here.running, hend, Or.inr ⟨q, rfl, E, ce, locs, hx _ hT (X'.ends _).1.alike, hcell9, hv, hcl, (X'.ends _).1, (X'.ends _).2.mono hc hs, hf⟩⟩
  rw [X.pushThrowing_eq]
  exact st
/-- a thing of a world lies in the heap -/
theorem vx_lt {D : va_G} {cl : List vw_C} {ws : va_W} {H1 : Heap} (h : va_P D cl ws H1) {k : Nat} {q : Nat × va_E} (hk : ws[k]? = some q) : q.1 < H1.size := (h k q hk).lt
end VXS
/-! ===== END ===== -/
/-! ===== BEGIN methods with a table of their own: called by a name, returning or throwing ===== -/
section VXH
/-! vx_backW, vx_callVX, vx_callSX, vx_callVW, vx_runVW, vx_runVX, vx_runSX, vx_ofWH follow the same proofs as their sisters above (Free/Laws.lean, Shelf42/LK1.lean); vx_outP calls Shelf42/NT130.lean (outThrough). -/
section
variable {l : Launch} {R : Room} {p : Program} {e : Env} {below : List Frame} {s : State} {sargs : Array Value} {y : MethodName} {len W9 : Nat}
theorem vx_backW {ws : List Cond} {rm : Room} {Pc : Array Value → State → Prop} {Qc : Array Value → State → Outcome → State → Prop} {XC : String → State → State → Prop} {mc ms : Nat} {free : Addr → Prop} {bytes : ByteArray} {maxL : Nat} {ret : Option FieldType} {hh : List (Nat × Nat × Nat × Nat)}
    (hM : vx_Met l y ws rm Pc Qc XC mc ms free) (hblind : FrameBlind Pc) (hrc : rm.cells = mc) (hrs : rm.slots = ms)
    (hframes : rm.frames + 1 ≤ R.frames) (hlocals : W9 + (maxL + 11) + rm.locals ≤ R.locals)
    (hws : ∀ w ∈ ws, ∀ a' U, s.WarmedH U.vm → w.before a' U = true) (hcode : Cond.codeWith y bytes maxL ret hh ∈ ws) (hinit : ∀ a' U, s.WarmedH U.vm → (Cond.initialized y.cls).before a' U = true) :
    vx_Back l R p e below s sargs y len W9 (PreOf R mc ms Pc) (PostOf Qc mc ms free) (vx_Post XC mc ms free) := by
  intro m meth c A g ig mk a X hg hsize hdg hW hn hp
  have h1 : (headSpec ws rm).pre.before a A.U = true := atoms_intro fun w hw => hws w hw _ _ X.warmed
  have h2 : (Cond.codeWith y bytes maxL ret hh).before a A.U = true := hws _ hcode _ _ X.warmed
  have h3 : (Cond.initialized y.cls).before a A.U = true := hinit _ _ X.warmed
  have h4 : A.cells + (headSpec ws rm).room.cells ≤ R.cells := by rw [show (headSpec ws rm).room.cells = mc from hrc]; exact hp.1
  have h5 : A.slots + (headSpec ws rm).room.slots ≤ R.slots := by rw [show (headSpec ws rm).room.slots = ms from hrs]; exact hp.2.1
  have hPc : Pc a (A.U.calling g mk a) := hblind _ _ _ _ hp.2.2
  obtain ⟨U, Ls, c0, s0⟩ := A
  dsimp only [Pt.U, Pt.locs, Pt.cells, Pt.slots] at h1 h2 h3 h4 h5 X hn hPc ⊢
  obtain ⟨m9, methY, cY, hn9, hmY, hcY, -, hlY, -⟩ := Cond.codeWith_spec h2
  cases Option.some.inj (hn9.symm.trans hn)
  obtain ⟨kY, hkY, -⟩ := className_of_methodNamed hn
  have hinitY : kY.init = .initialized := Cond.initialized_spec (findClass_of_methodNamed hn) hkY h3
  have h : At U g.method c below := by rw [hg]; exact X.here
  have hlocals9 : W9 + (maxL + 11) + (headSpec ws rm).room.locals ≤ R.locals := hlocals
  have happ : (headSpec ws rm).appliesLoose y e.platform (U.calling g mk a) = true :=
    Spec.appliesLoose_calling (g := g) h hdg hn hkY hinitY
      (X.room_calling (g := g) (R' := (headSpec ws rm).room) hsize hmY hcY hframes (by rw [hlY]; omega) h4 h5) h1
  obtain ⟨mid, hmid⟩ := h.above
  have hfr : (U.setTop g).frames = (.java g :: mid) ++ below := by rw [State.frames_setTop' g h.top, hmid]; rfl
  obtain ⟨o, s₂, hsteps, -, hend, hq⟩ := Steps.callFree hM p X.admits X.cas X.clock (acts := []) hfr happ hPc trivial
  have hq' : vx_Q Qc XC mc ms free a (U.calling g mk a) o s₂ := hq
  rw [State.frames_setTop' g h.top] at hend
  obtain ⟨g₀, hg0⟩ := Option.isSome_iff_exists.mp h.top
  obtain ⟨r, hr⟩ := State.topJava?_eq_some.mp hg0
  have hr' : (({ U with heap := s₂.heap, slotsUsed := s₂.slotsUsed } : State).setVm s₂.vm).frames = .java g₀ :: r := hr
  rcases hq' with ⟨hqc, L, hfe, hL⟩ | ⟨q, rfl, E, ce, L, hx, hce, hcv, hcl, hW₂, hsm, hL⟩
  · obtain ⟨⟨v, rfl⟩, hW₂, e2, q2, q3, q4, q5, q6⟩ := id hfe
    have e3 : s₂ = ({ (U.calling g mk a).setFrames s₂.frames with heap := s₂.heap, slotsUsed := s₂.slotsUsed } : State).setVm s₂.vm := by
      have : s₂ = ({ s₂ with vm := (U.calling g mk a).vm } : State).setVm s₂.vm := rfl
      rw [e2] at this
      exact this
    obtain ⟨c₂, i₂, len₂, hc₂, hd₂, hf₂⟩ := hend
    have hW' : U.WarmedH s₂.vm := hW₂
    have hcc : c₂ = c := by
      have h1 : s₂.code? g.method = U.code? g.method := by
        rw [State.code?_eq, State.code?_eq, hW'.alike.method?]
      exact Option.some.inj (hc₂.symm.trans (h1.trans h.code))
    subst hcc
    have hlen : len₂ = len := by rw [hdg] at hd₂; cases hd₂; rfl
    subst hlen
    have hs₂ : s₂ = (({ U with heap := s₂.heap, slotsUsed := s₂.slotsUsed } : State).setVm s₂.vm).setTop { g with pc := g.pc + len₂, stack := v.toList ++ g.stack } := by
      refine e3.trans ?_
      rw [hf₂, State.calling_eq h.top, State.setFrames_setFrames, State.setTop_of_frames _ hr', hr]
      rfl
    have hsame : U.sameButNew ({ U with heap := s₂.heap, slotsUsed := s₂.slotsUsed } : State) L mc ms := by
      refine ⟨?_, q2, q3, q4, q5, q6⟩
      obtain ⟨t, ht, -⟩ := State.frames_cons hr
      show ({ U with heap := s₂.heap, slotsUsed := s₂.slotsUsed } : State) = { U.setFrames U.frames with heap := s₂.heap, slotsUsed := s₂.slotsUsed }
      rw [State.setFrames_self ht]
    subst hg
    refine Or.inl ⟨v, ⟨(({ U with heap := s₂.heap, slotsUsed := s₂.slotsUsed } : State).setVm s₂.vm), Ls ++ L, c0 + mc, s0 + ms⟩,
      ⟨X.admits, X.cas, X.clock, X.frames, X.room, X.hears, X.method, X.code, (X.here.setHeapUsed s₂.heap s₂.slotsUsed).setVm hW'.alike, X.tail, State.WarmedH.trans X.warmed hW', X.limits, X.bytes, X.same.trans (hsame.setVm s.vm)⟩,
      ⟨g, mk, s₂, L, rfl, rfl, hqc, rfl, hL, rfl, rfl⟩, ?_⟩
    show Steps p.tables e below _ ((({ U with heap := s₂.heap, slotsUsed := s₂.slotsUsed } : State).setVm s₂.vm).setTop { g with pc := g.pc + len₂, stack := v.toList ++ g.stack })
    rw [← hs₂]
    exact hsteps
  · obtain ⟨e2, q2, q3, q4, q5, q6⟩ := id hsm
    have e3 : s₂ = ({ (U.calling g mk a).setFrames s₂.frames with heap := s₂.heap, slotsUsed := s₂.slotsUsed } : State).setVm s₂.vm := by
      have : s₂ = ({ s₂ with vm := (U.calling g mk a).vm } : State).setVm s₂.vm := rfl
      rw [e2] at this
      exact this
    have hf₂ : s₂.frames = .throwing q :: .java g :: U.frames.tail := hend
    have hW' : U.WarmedH s₂.vm := hW₂
    have hs₂ : s₂ = ((({ U with heap := s₂.heap, slotsUsed := s₂.slotsUsed } : State).setVm s₂.vm).setTop g).pushFrame (.throwing q) := by
      refine e3.trans ?_
      rw [hf₂, State.calling_eq h.top, State.setFrames_setFrames, State.pushFrame, State.frames_setTop _ hr', State.setTop_of_frames _ hr', State.setFrames_setFrames, hr]
      rfl
    have hsame : U.sameButNew ({ U with heap := s₂.heap, slotsUsed := s₂.slotsUsed } : State) L mc ms := by
      refine ⟨?_, q2, q3, q4, q5, q6⟩
      obtain ⟨t, ht, -⟩ := State.frames_cons hr
      show ({ U with heap := s₂.heap, slotsUsed := s₂.slotsUsed } : State) = { U.setFrames U.frames with heap := s₂.heap, slotsUsed := s₂.slotsUsed }
      rw [State.setFrames_self ht]
    subst hg
    refine Or.inr ⟨q, ⟨(({ U with heap := s₂.heap, slotsUsed := s₂.slotsUsed } : State).setVm s₂.vm), Ls ++ L, c0 + mc, s0 + ms⟩,
      ⟨X.admits, X.cas, X.clock, X.frames, X.room, X.hears, X.method, X.code, (X.here.setHeapUsed s₂.heap s₂.slotsUsed).setVm hW'.alike, X.tail, State.WarmedH.trans X.warmed hW', X.limits, X.bytes, X.same.trans (hsame.setVm s.vm)⟩,
      ⟨g, mk, s₂, L, E, ce, rfl, rfl, hx, hce, hcv, hcl, rfl, hL, rfl, rfl⟩, ?_⟩
    show Steps p.tables e below _ (((({ U with heap := s₂.heap, slotsUsed := s₂.slotsUsed } : State).setVm s₂.vm).setTop g).pushFrame (.throwing q))
    rw [← hs₂]
    exact hsteps
end
variable {p : Program} {l : Launch} {e : Env} {R : Room} {s : State} {m : MethodId} {args : Array Value} {below : List Frame} {meth : Method} {c : Code} {T : State} {H : Heap} {locs : List Loc} {cells slots : Nat}
theorem vx_callVX (X : Stand p l e R s m args below meth c T locs cells slots) (hexec : p.tables.exec = Jvm.exec) {own C : String} {index : Nat} {y : MethodName} {bytes : ByteArray} {maxL : Nat} {ret : Option FieldType} {hh : List (Nat × Nat × Nat × Nat)}
    (hown : s.vm.findClass own = some m.cls) (hlink : (Cond.methodLink own index y).before args s = true) (hinst : (Cond.instanceMethod y).before args s = true) (hsel : (Cond.selects C y y).before args s = true)
    (hcode : (Cond.codeWith y bytes maxL ret hh).before args s = true) (hy : y.cls ≠ "java/lang/invoke/MethodHandle" ∧ y.cls ≠ "java/lang/invoke/VarHandle")
    {W9 : Nat} {Pre : Pt → Array Value → Prop} {Post : Pt → Array Value → Option Value → Pt → Prop} {PostX : Pt → Array Value → Addr → Pt → Prop} (hK : vx_Back l R p e below s args y 3 W9 Pre Post PostX)
    {b : Addr} {cellB : Cell} (hcell : T.heap[b]? = some cellB) (hobj : cellB.vm.isStatics = false) (hcls : s.vm.findClass C = some cellB.cls)
    {g : JFrame} (hg : g.method = m) (hsize : g.locals.size = c.maxLocals) {argsL rest : List Value} (hlen : ∀ sig, parseMethodDescriptor y.desc = some sig → argsL.length = sig.parameters.length)
    (hstack : g.stack = argsL.reverse ++ .ref b :: rest) (hW : 2 * g.monitorRoom + (rest.map fun v => v.category).sum ≤ W9) (hdg : decode c.code g.pc = .ok (.invokevirtual index, 3))
    (hpre : ∀ vm₁, s.WarmedH vm₁ → Pre ⟨T.setVm vm₁, locs, cells, slots⟩ (Value.ref b :: argsL).toArray) :
    (∃ (v : Option Value) (vm₁ : Vm) (B : Pt), s.WarmedH vm₁ ∧ Stand p l e R s m args below meth c B.U B.locs B.cells B.slots ∧ Post ⟨T.setVm vm₁, locs, cells, slots⟩ (Value.ref b :: argsL).toArray v B ∧
      ∀ target, Steps p.tables e below (B.U.setTop { g with pc := g.pc + 3, stack := v.toList ++ rest }) target → Steps p.tables e below (T.setTop g) target) ∨
    (∃ (q : Addr) (vm₁ : Vm) (B : Pt), s.WarmedH vm₁ ∧ Stand p l e R s m args below meth c B.U B.locs B.cells B.slots ∧ PostX ⟨T.setVm vm₁, locs, cells, slots⟩ (Value.ref b :: argsL).toArray q B ∧
      Steps p.tables e below (T.setTop g) ((B.U.setTop { g with stack := rest }).pushFrame (.throwing q))) := by
  obtain ⟨mk, methM, hnamed, hmethM, hstM, habM⟩ := Cond.instanceMethod_spec hinst
  obtain ⟨m8, methM', cM, hn8, hmethM', -, -, -, -, -, -, hsigM⟩ := Cond.codeWith_spec hcode
  cases Option.some.inj (hn8.symm.trans hnamed)
  cases hmethM.symm.trans hmethM'
  obtain ⟨c2, r2, m2, q1, q2, q3, q4, kP, hkP, hkPi⟩ := Cond.selects_spec hsel
  cases hcls.symm.trans q1
  cases (State.methodFound?_of_named hnamed hy).symm.trans q2
  cases hnamed.symm.trans q3
  have hselP : selectMethod e.platform s.vm cellB.cls mk = .method mk := by rw [Launch.admits_selectMethod X.admits]; exact q4
  obtain ⟨vm₁, X₁, hstep₁⟩ := X.invokevirtual hexec hown hlink hnamed hmethM hstM hkP hkPi hy (a := b) (cell := cellB) hcell
    (fun z h => by rw [h] at hobj; cases hobj) hselP hmethM habM hkP hkPi (g := g) hg (argsL := argsL) (rest := rest) (hlen _ hsigM) hstack hdg
  rcases hK m meth c ⟨T.setVm vm₁, locs, cells, slots⟩ { g with stack := rest } (.invokevirtual index) mk (Value.ref b :: argsL).toArray X₁ hg hsize hdg hW (X₁.named hnamed) (hpre vm₁ X₁.warmed) with ⟨v, B, X', hpost, hsteps⟩ | ⟨q, B, X', hpost, hsteps⟩
  · exact Or.inl ⟨v, vm₁, B, X₁.warmed, X', hpost, fun target h => hstep₁ _ fun acts => by rw [doInvoke_state]; exact hsteps.trans h⟩
  · exact Or.inr ⟨q, vm₁, B, X₁.warmed, X', hpost, hstep₁ _ fun acts => by rw [doInvoke_state]; exact hsteps⟩
theorem vx_callSX (X : Stand p l e R s m args below meth c T locs cells slots) (hexec : p.tables.exec = Jvm.exec) {own : String} {index : Nat} {y : MethodName} {bytes : ByteArray} {maxL : Nat} {ret : Option FieldType} {hh : List (Nat × Nat × Nat × Nat)}
    (hown : s.vm.findClass own = some m.cls) (hlink : (Cond.methodLink own index y).before args s = true) (hstat : (Cond.static y).before args s = true) (hinit : (Cond.initialized y.cls).before args s = true)
    (hcode : (Cond.codeWith y bytes maxL ret hh).before args s = true) (hy : y.cls ≠ "java/lang/invoke/MethodHandle" ∧ y.cls ≠ "java/lang/invoke/VarHandle")
    {W9 : Nat} {Pre : Pt → Array Value → Prop} {Post : Pt → Array Value → Option Value → Pt → Prop} {PostX : Pt → Array Value → Addr → Pt → Prop} (hK : vx_Back l R p e below s args y 3 W9 Pre Post PostX)
    {g : JFrame} (hg : g.method = m) (hsize : g.locals.size = c.maxLocals) {argsL rest : List Value} (hlen : ∀ sig, parseMethodDescriptor y.desc = some sig → argsL.length = sig.parameters.length)
    (hstack : g.stack = argsL.reverse ++ rest) (hW : 2 * g.monitorRoom + (rest.map fun v => v.category).sum ≤ W9) (hdg : decode c.code g.pc = .ok (.invokestatic index, 3))
    (hpre : ∀ vm₁, s.WarmedH vm₁ → Pre ⟨T.setVm vm₁, locs, cells, slots⟩ argsL.toArray) :
    (∃ (v : Option Value) (vm₁ : Vm) (B : Pt), s.WarmedH vm₁ ∧ Stand p l e R s m args below meth c B.U B.locs B.cells B.slots ∧ Post ⟨T.setVm vm₁, locs, cells, slots⟩ argsL.toArray v B ∧
      ∀ target, Steps p.tables e below (B.U.setTop { g with pc := g.pc + 3, stack := v.toList ++ rest }) target → Steps p.tables e below (T.setTop g) target) ∨
    (∃ (q : Addr) (vm₁ : Vm) (B : Pt), s.WarmedH vm₁ ∧ Stand p l e R s m args below meth c B.U B.locs B.cells B.slots ∧ PostX ⟨T.setVm vm₁, locs, cells, slots⟩ argsL.toArray q B ∧
      Steps p.tables e below (T.setTop g) ((B.U.setTop { g with stack := rest }).pushFrame (.throwing q))) := by
  obtain ⟨mk, methM, cM, hnamed, hmethM, -, -, -, -, -, -, hsigM⟩ := Cond.codeWith_spec hcode
  have hstatic : methM.isStatic = true := Cond.static_spec hnamed hmethM hstat
  obtain ⟨kP, hkP, -⟩ := className_of_methodNamed hnamed
  have hinitP : kP.init = .initialized := Cond.initialized_spec (findClass_of_methodNamed hnamed) hkP hinit
  obtain ⟨vm₁, X₁, hstep₁⟩ := X.invokestatic hexec hown hlink hnamed hmethM hstatic hkP hinitP hy (g := g) hg (argsL := argsL) (rest := rest) (hlen _ hsigM) hstack hdg
  rcases hK m meth c ⟨T.setVm vm₁, locs, cells, slots⟩ { g with stack := rest } (.invokestatic index) mk argsL.toArray X₁ hg hsize hdg hW (X₁.named hnamed) (hpre vm₁ X₁.warmed) with ⟨v, B, X', hpost, hsteps⟩ | ⟨q, B, X', hpost, hsteps⟩
  · exact Or.inl ⟨v, vm₁, B, X₁.warmed, X', hpost, fun target h => hstep₁ _ fun acts => by rw [doInvoke_state]; exact hsteps.trans h⟩
  · exact Or.inr ⟨q, vm₁, B, X₁.warmed, X', hpost, hstep₁ _ fun acts => by rw [doInvoke_state]; exact hsteps⟩
theorem vx_callVW (X : Stand p l e R s m args below meth c T locs cells slots) (hexec : p.tables.exec = Jvm.exec) {own C : String} {index : Nat} {y : MethodName} {bytes : ByteArray} {maxL : Nat} {ret : Option FieldType} {hh : List (Nat × Nat × Nat × Nat)}
    (hown : s.vm.findClass own = some m.cls) (hlink : (Cond.methodLink own index y).before args s = true) (hinst : (Cond.instanceMethod y).before args s = true) (hsel : (Cond.selects C y y).before args s = true)
    (hcode : (Cond.codeWith y bytes maxL ret hh).before args s = true) (hy : y.cls ≠ "java/lang/invoke/MethodHandle" ∧ y.cls ≠ "java/lang/invoke/VarHandle")
    {W9 : Nat} {Pre : Pt → Array Value → Prop} {Post : Pt → Array Value → Option Value → Pt → Prop} (hK : Back l R p e below s args y 3 W9 Pre Post)
    {b : Addr} {cellB : Cell} (hcell : T.heap[b]? = some cellB) (hobj : cellB.vm.isStatics = false) (hcls : s.vm.findClass C = some cellB.cls)
    {g : JFrame} (hg : g.method = m) (hsize : g.locals.size = c.maxLocals) {argsL rest : List Value} (hlen : ∀ sig, parseMethodDescriptor y.desc = some sig → argsL.length = sig.parameters.length)
    (hstack : g.stack = argsL.reverse ++ .ref b :: rest) (hW : 2 * g.monitorRoom + (rest.map fun v => v.category).sum ≤ W9) (hdg : decode c.code g.pc = .ok (.invokevirtual index, 3))
    (hpre : ∀ vm₁, s.WarmedH vm₁ → Pre ⟨T.setVm vm₁, locs, cells, slots⟩ (Value.ref b :: argsL).toArray) :
    ∃ (v : Option Value) (vm₁ : Vm) (B : Pt), s.WarmedH vm₁ ∧ Stand p l e R s m args below meth c B.U B.locs B.cells B.slots ∧ Post ⟨T.setVm vm₁, locs, cells, slots⟩ (Value.ref b :: argsL).toArray v B ∧
      ∀ target, Steps p.tables e below (B.U.setTop { g with pc := g.pc + 3, stack := v.toList ++ rest }) target → Steps p.tables e below (T.setTop g) target := by
  obtain ⟨mk, methM, hnamed, hmethM, hstM, habM⟩ := Cond.instanceMethod_spec hinst
  obtain ⟨m8, methM', cM, hn8, hmethM', -, -, -, -, -, -, hsigM⟩ := Cond.codeWith_spec hcode
  cases Option.some.inj (hn8.symm.trans hnamed)
  cases hmethM.symm.trans hmethM'
  obtain ⟨c2, r2, m2, q1, q2, q3, q4, kP, hkP, hkPi⟩ := Cond.selects_spec hsel
  cases hcls.symm.trans q1
  cases (State.methodFound?_of_named hnamed hy).symm.trans q2
  cases hnamed.symm.trans q3
  have hselP : selectMethod e.platform s.vm cellB.cls mk = .method mk := by rw [Launch.admits_selectMethod X.admits]; exact q4
  obtain ⟨vm₁, X₁, hstep₁⟩ := X.invokevirtual hexec hown hlink hnamed hmethM hstM hkP hkPi hy (a := b) (cell := cellB) hcell
    (fun z h => by rw [h] at hobj; cases hobj) hselP hmethM habM hkP hkPi (g := g) hg (argsL := argsL) (rest := rest) (hlen _ hsigM) hstack hdg
  obtain ⟨v, B, X', hpost, hsteps⟩ := hK m meth c ⟨T.setVm vm₁, locs, cells, slots⟩ { g with stack := rest } (.invokevirtual index) mk (Value.ref b :: argsL).toArray X₁ hg hsize hdg hW (X₁.named hnamed) (hpre vm₁ X₁.warmed)
  exact ⟨v, vm₁, B, X₁.warmed, X', hpost, fun target h => hstep₁ _ fun acts => by rw [doInvoke_state]; exact hsteps.trans h⟩
abbrev vx_CVW (R : Room) (s : State) (args : Array Value) (own C : String) (index : Nat) (y : MethodName) (bytes : ByteArray) (maxL : Nat) (ret : Option FieldType) (hh : List (Nat × Nat × Nat × Nat)) (ws : List Cond) (rm : Room) (mc ms n : Nat) : Prop :=
  (rm.cells = mc ∧ rm.slots = ms ∧ rm.frames + 1 ≤ R.frames ∧ 8 + (maxL + 11) + rm.locals ≤ R.locals ∧ (∀ w ∈ ws, ∀ (a' : Array Value) (U : State), s.WarmedH U.vm → w.before a' U = true) ∧ Cond.codeWith y bytes maxL ret hh ∈ ws) ∧
  (Cond.codeWith y bytes maxL ret hh).before args s = true ∧ (Cond.initialized y.cls).before args s = true ∧ (y.cls ≠ "java/lang/invoke/MethodHandle" ∧ y.cls ≠ "java/lang/invoke/VarHandle") ∧
  (∀ sig, parseMethodDescriptor y.desc = some sig → n = sig.parameters.length) ∧ (Cond.methodLink own index y).before args s = true ∧ (Cond.instanceMethod y).before args s = true ∧ (Cond.selects C y y).before args s = true
theorem vx_cwVW {own C : String} {index maxL mc ms : Nat} {y : MethodName} {bytes : ByteArray} {ret : Option FieldType} {hh : List (Nat × Nat × Nat × Nat)} {Ts ws ws' : List Cond} {rm : Room} (n : Nat) (ht : ∀ w ∈ Ts, w.before args s = true) (hT : GoodIn Ts (wsV own index C y ws)) (hw : ws = Cond.codeWith y bytes maxL ret hh :: ws') (hrc : rm.cells = mc) (hrs : rm.slots = ms)
    (hd : y.cls = C ∧ y.cls ≠ "java/lang/invoke/MethodHandle" ∧ y.cls ≠ "java/lang/invoke/VarHandle" ∧ (parseMethodDescriptor y.desc).map (fun d => d.parameters.length) = some n) (hR : rm.frames + 1 ≤ R.frames ∧ 8 + (maxL + 11) + rm.locals ≤ R.locals) :
    vx_CVW R s args own C index y bytes maxL ret hh ws rm mc ms n := by
  obtain ⟨hC, hd⟩ := hd
  subst hC
  have ok : ∀ w ∈ wsV own index y.cls y ws, w.before args s = true := fun w h => ht w (hT w h).1
  have hG : GoodIn Ts ws := fun w h => hT w (by unfold wsV; exact List.mem_append_right _ h)
  have hc : Cond.codeWith y bytes maxL ret hh ∈ ws := by rw [hw]; exact List.mem_cons_self
  refine ⟨⟨hrc, hrs, hR.1, hR.2, pay_in ht hG, hc⟩, ht _ (hG _ hc).1, ok _ (by simp [wsV]), ⟨hd.1, hd.2.1⟩, fun sig h => ?_, ok _ (by simp [wsV]), ok _ (by simp [wsV]), ok _ (by simp [wsV])⟩
  have h2 := hd.2.2
  rw [h] at h2
  exact (Option.some.inj h2).symm
theorem vx_runVW {y : MethodName} {bytes cc : ByteArray} {maxL nL mc ms n index : Nat} {ret : Option FieldType} {hh : List (Nat × Nat × Nat × Nat)} {ws : List Cond} {rm : Room} {Pc : Array Value → State → Prop} {Qc : Array Value → State → Outcome → State → Prop} {free : Addr → Prop} {Ts : List Cond} {own C : String} {b : Addr} {As rest : List Value} {g : JFrame}
    (S : CallFix p m c cc nL s args Ts own) (hM : Met l y ws rm Pc Qc mc ms free) (cw : vx_CVW R s args own C index y bytes maxL ret hh ws rm mc ms n) (hp : PreV s H C b Pc As)
    (hg : g.method = m) (hn : As.length = n) (hsize : g.locals.size = nL) (hstack : g.stack = As.reverse ++ .ref b :: rest) (hW : 2 * g.monitorRoom + (rest.map fun v => v.category).sum ≤ 8) (hdg : decode cc g.pc = .ok (.invokevirtual index, 3)) (hf : cells + mc ≤ R.cells ∧ slots + ms ≤ R.slots) :
    va_Run p l e R s m args below meth c H locs cells slots mc ms g rest (Qc (Value.ref b :: As).toArray) free := by
  obtain ⟨⟨hrc, hrs, hfr, hlo, hws, hcw⟩, hcode, hini, hy, hlen, hl, hin, hse⟩ := cw
  have hK : Back l R p e below s args y 3 8 (PreOf R mc ms Pc) (PostOf Qc mc ms free) := va_backW (hh := hh) (bytes := bytes) (maxL := maxL) (ret := ret) hM hp.1 hrc hrs hfr hlo hws hcw (fun a' U hW => word_at hW (Or.inl (by first | rfl | simp [Cond.onTables, Cond.keeps, Cond.steady])) hini)
  obtain ⟨hx, hb, hml, ho, -⟩ := S
  obtain ⟨-, ⟨cellB, hcB, hoB, hclB⟩, hPc⟩ := hp
  intro T hT X
  obtain ⟨v, vm₁, ⟨U', l2, c2, s2⟩, hW₁, X', ⟨g', mk, t, L, e1, e2, hq, h1, hL, h2, h3⟩, st⟩ := vx_callVW X hx (C := C) (hh := hh) (bytes := bytes) (maxL := maxL) (ret := ret) ho hl hin hse hcode hy hK (by rw [hT]; exact hcB) hoB hclB hg (hsize.trans hml.symm) (argsL := As) (rest := rest) (fun sig h => hn.trans (hlen sig h)) hstack hW (by rw [hb]; exact hdg)
    (fun vm₁ hW₁ => ⟨hf.1, hf.2, hPc (T.setVm vm₁) hT hW₁⟩)
  dsimp only [Pt.U, Pt.locs, Pt.cells, Pt.slots] at X' e1 e2 h1 h2 h3 st
  subst h1; subst h2; subst h3
  exact ⟨v, (T.setVm vm₁).calling g' mk (Value.ref b :: As).toArray, t, U', L, hT, X', hL, e1, e2, hq, st⟩
section
variable {y : MethodName} {bytes cc : ByteArray} {maxL nL mc ms n index : Nat} {ret : Option FieldType} {ws : List Cond} {rm : Room} {Pc : Array Value → State → Prop} {Qc : Array Value → State → Outcome → State → Prop} {XC : String → State → State → Prop} {free : Addr → Prop} {Ts : List Cond} {own C : String} {b : Addr} {As rest : List Value} {g : JFrame}
theorem vx_runVX {hh : List (Nat × Nat × Nat × Nat)} (S : CallFix p m c cc nL s args Ts own) (hM : vx_Met l y ws rm Pc Qc XC mc ms free) (cw : vx_CVW R s args own C index y bytes maxL ret hh ws rm mc ms n) (hp : PreV s H C b Pc As)
    (hg : g.method = m) (hn : As.length = n) (hsize : g.locals.size = nL) (hstack : g.stack = As.reverse ++ .ref b :: rest) (hW : 2 * g.monitorRoom + (rest.map fun v => v.category).sum ≤ 8) (hdg : decode cc g.pc = .ok (.invokevirtual index, 3)) (hf : cells + mc ≤ R.cells ∧ slots + ms ≤ R.slots) :
    vx_Run p l e R s m args below meth c H locs cells slots mc ms g rest (Qc (Value.ref b :: As).toArray) XC free := by
  obtain ⟨⟨hrc, hrs, hfr, hlo, hws, hcw⟩, hcode, hini, hy, hlen, hl, hin, hse⟩ := cw
  have hK : vx_Back l R p e below s args y 3 8 (PreOf R mc ms Pc) (PostOf Qc mc ms free) (vx_Post XC mc ms free) := vx_backW (hh := hh) (bytes := bytes) (maxL := maxL) (ret := ret) hM hp.1 hrc hrs hfr hlo hws hcw (fun a' U hW => word_at hW (Or.inl (by first | rfl | simp [Cond.onTables, Cond.keeps, Cond.steady])) hini)
  obtain ⟨hx, hb, hml, ho, -⟩ := S
  obtain ⟨-, ⟨cellB, hcB, hoB, hclB⟩, hPc⟩ := hp
  intro T hT X
  rcases vx_callVX X hx (C := C) (hh := hh) (bytes := bytes) (maxL := maxL) (ret := ret) ho hl hin hse hcode hy hK (by rw [hT]; exact hcB) hoB hclB hg (hsize.trans hml.symm) (argsL := As) (rest := rest) (fun sig h => hn.trans (hlen sig h)) hstack hW (by rw [hb]; exact hdg)
    (fun vm₁ hW₁ => ⟨hf.1, hf.2, hPc (T.setVm vm₁) hT hW₁⟩) with ⟨v, vm₁, ⟨U', l2, c2, s2⟩, hW₁, X', ⟨g', mk, t, L, e1, e2, hq, h1, hL, h2, h3⟩, st⟩ | ⟨q, vm₁, ⟨U', l2, c2, s2⟩, hW₁, X', ⟨g', mk, t, L, E, ce, e1, e2, hq, hce, hcv, hcl, h1, hL, h2, h3⟩, st⟩
  · dsimp only [Pt.U, Pt.locs, Pt.cells, Pt.slots] at X' e1 e2 h1 h2 h3 st
    subst h1; subst h2; subst h3
    exact Or.inl ⟨v, (T.setVm vm₁).calling g' mk (Value.ref b :: As).toArray, t, U', L, hT, X', hL, e1, e2, hq, st⟩
  · dsimp only [Pt.U, Pt.locs, Pt.cells, Pt.slots] at X' e1 e2 h1 h2 h3 st hcl
    subst h1; subst h2; subst h3
    exact Or.inr ⟨q, (T.setVm vm₁).calling g' mk (Value.ref b :: As).toArray, t, U', L, E, ce, hT, X', hL, e1, e2, hq, hce, hcv, vx_cls hW₁ hcl, st⟩
theorem vx_runSX {hh : List (Nat × Nat × Nat × Nat)} (S : CallFix p m c cc nL s args Ts own) (hM : vx_Met l y ws rm Pc Qc XC mc ms free) (cw : vx_CSW R s args own index y bytes maxL ret hh ws rm mc ms n) (hp : PreS s H Pc As)
    (hg : g.method = m) (hn : As.length = n) (hsize : g.locals.size = nL) (hstack : g.stack = As.reverse ++ rest) (hW : 2 * g.monitorRoom + (rest.map fun v => v.category).sum ≤ 8) (hdg : decode cc g.pc = .ok (.invokestatic index, 3)) (hf : cells + mc ≤ R.cells ∧ slots + ms ≤ R.slots) :
    vx_Run p l e R s m args below meth c H locs cells slots mc ms g rest (Qc As.toArray) XC free := by
  obtain ⟨⟨hrc, hrs, hfr, hlo, hws, hcw⟩, hcode, hini, hy, hlen, hl, hstt⟩ := cw
  have hK : vx_Back l R p e below s args y 3 8 (PreOf R mc ms Pc) (PostOf Qc mc ms free) (vx_Post XC mc ms free) := vx_backW (hh := hh) (bytes := bytes) (maxL := maxL) (ret := ret) hM hp.1 hrc hrs hfr hlo hws hcw (fun a' U hW => word_at hW (Or.inl (by first | rfl | simp [Cond.onTables, Cond.keeps, Cond.steady])) hini)
  obtain ⟨hx, hb, hml, ho, -⟩ := S
  intro T hT X
  rcases vx_callSX X hx (hh := hh) (bytes := bytes) (maxL := maxL) (ret := ret) ho hl hstt hini hcode hy hK hg (hsize.trans hml.symm) (argsL := As) (rest := rest) (fun sig h => hn.trans (hlen sig h)) hstack hW (by rw [hb]; exact hdg)
    (fun vm₁ hW₁ => ⟨hf.1, hf.2, hp.2 (T.setVm vm₁) hT hW₁⟩) with ⟨v, vm₁, ⟨U', l2, c2, s2⟩, hW₁, X', ⟨g', mk, t, L, e1, e2, hq, h1, hL, h2, h3⟩, st⟩ | ⟨q, vm₁, ⟨U', l2, c2, s2⟩, hW₁, X', ⟨g', mk, t, L, E, ce, e1, e2, hq, hce, hcv, hcl, h1, hL, h2, h3⟩, st⟩
  · dsimp only [Pt.U, Pt.locs, Pt.cells, Pt.slots] at X' e1 e2 h1 h2 h3 st
    subst h1; subst h2; subst h3
    exact Or.inl ⟨v, (T.setVm vm₁).calling g' mk As.toArray, t, U', L, hT, X', hL, e1, e2, hq, st⟩
  · dsimp only [Pt.U, Pt.locs, Pt.cells, Pt.slots] at X' e1 e2 h1 h2 h3 st hcl
    subst h1; subst h2; subst h3
    exact Or.inr ⟨q, (T.setVm vm₁).calling g' mk As.toArray, t, U', L, E, ce, hT, X', hL, e1, e2, hq, hce, hcv, vx_cls hW₁ hcl, st⟩
end
end VXH
theorem vx_ofWH {l : Launch} {y : MethodName} {ws ws' : List Cond} {rm : Room} {Pc : Array Value → State → Prop} {Qc : Array Value → State → Outcome → State → Prop} {XC : String → State → State → Prop} {mc ms : Nat} {free : Addr → Prop} {cc : ByteArray} {maxL : Nat} {ret : Option FieldType} {hh : List (Nat × Nat × Nat × Nat)}
    (hy : plainName y.cls = true) (hw : ws = Cond.codeWith y cc maxL ret hh :: ws')
    (body : ∀ p e s m args below meth c s₁, BodyLoose p l y (headSpec ws rm) cc maxL ret e s m args below meth c s₁ → c.maxLocals = maxL → Pc args s →
      W p l e (headSpec ws rm).room s m args below meth c s.heap [] 0 0 (vx_MQ below Qc XC args s mc ms free) (entryFrame m args maxL)) : vx_Met l y ws rm Pc Qc XC mc ms free := by
  refine MetFree.of_bodyS (code := cc) (maxLocals := maxL) (ret := ret) hy ?_ ?_
  · intro args s m h hn
    obtain ⟨m9, meth, c, hn9, h1, h2, h3, h4, -, h5, h6, -⟩ := Cond.codeWith_spec (atoms_spec (ws := ws) h _ (by rw [hw]; exact List.mem_cons_self))
    cases hn.symm.trans hn9
    exact ⟨meth, c, h1, h2, h3, h4, h5, h6⟩
  · intro p e s m args below meth c s₁ B hml hP _
    have hh0 : s₁.heap = s.heap := by rw [B.state]; rfl
    obtain ⟨t, a1, o, b1, b2, b3⟩ := body p e s m args below meth c s₁ B hml hP s₁ hh0 (Stand.of_body B)
    exact ⟨t, o, a1, b1, b2, b3⟩
/-! ===== END ===== -/
end
section
/-! the engine: values, cells, states, one step at a time -/
/-- an abstract value: an int between two numbers; an int that is a named number and a constant; a long between two numbers; a reference to a cell by its place, or null; the script -/
abbrev AV : Type := (Int × Int) ⊕ ((Nat × Int) ⊕ ((Int × Int) ⊕ ((Option Nat) ⊕ Unit)))
/-- an abstract cell: an array (its type's number, its length, what it holds but for some places, these places) or an object (its kind, its fields) -/
abbrev AC : Type := (Nat × Nat × AV × List (Nat × AV)) ⊕ (Nat × List AV)
abbrev EV : Type := List (Int × Int)
/-- pc, locals, stack, named numbers, cells, cells made, slots made -/
abbrev ST : Type := Nat × List (Nat × AV) × List AV × EV × List AC × Nat × Nat
abbrev OUT : Type := Option AV × EV × List AC
abbrev aI (n : Int) : AV := .inl (n, n)
abbrev aTop : AV := .inl (-2147483648, 2147483647)
abbrev aL (lo hi : Int) : AV := .inr (.inr (.inl (lo, hi)))
abbrev aLtop : AV := .inr (.inr (.inl (-9223372036854775808, 9223372036854775807)))
abbrev aV (k : Nat) (c : Int) : AV := .inr (.inl (k, c))
abbrev aR (a : Nat) : AV := .inr (.inr (.inr (.inl (some a))))
abbrev aN : AV := .inr (.inr (.inr (.inl none)))
abbrev aS : AV := .inr (.inr (.inr (.inr ())))
def e_iv (E : EV) (a : AV) : Option (Int × Int) := match a with
  | .inl q => some q
  | .inr (.inl (k, c)) => (match E[k]? with | some (lo, hi) => some (lo + c, hi + c) | none => none)
  | .inr (.inr _) => none
def e_mk (lo hi : Int) : AV := if (decide (-2147483648 ≤ lo) && decide (hi ≤ 2147483647)) = true then .inl (lo, hi) else aTop
def e_find (lo : List (Nat × AV)) (i : Nat) : Option AV := match lo with
  | [] => none
  | (j, a) :: r => if Nat.beq j i = true then some a else e_find r i
def e_isL (a : AV) : Bool := match a with
  | .inr (.inr (.inl _)) => true
  | _ => false
def e_st1 (lo : List (Nat × AV)) (i : Nat) (a : AV) : List (Nat × AV) := (i, a) :: lo.filter (fun q => !(q.1 == i) && !(q.1 + 1 == i && e_isL q.2))
def e_st2 (lo : List (Nat × AV)) (i : Nat) (a : AV) : List (Nat × AV) := (i, a) :: lo.filter (fun q => !(q.1 == i) && (!(q.1 == i + 1) && !(q.1 + 1 == i && e_isL q.2)))
def e_isI (a : AV) : Bool := match a with
  | .inl _ => true
  | .inr (.inl _) => true
  | _ => false
def e_isR (a : AV) : Bool := match a with
  | .inr (.inr (.inr _)) => true
  | _ => false
/-- a sum -/
def e_add (E : EV) (a b : AV) : Option AV := match e_iv E a, e_iv E b with
  | some (la, ha), some (lb, hb) =>
    (match a with
    | .inr (.inl (k, c)) => if (decide (lb = hb) && (decide (-2147483648 ≤ la + lb) && decide (ha + lb ≤ 2147483647))) = true then some (aV k (c + lb)) else some (e_mk (la + lb) (ha + hb))
    | _ => some (e_mk (la + lb) (ha + hb)))
  | _, _ => none
def e_sub (E : EV) (a b : AV) : Option AV := match e_iv E a, e_iv E b with
  | some (la, ha), some (lb, hb) =>
    (match a with
    | .inr (.inl (k, c)) => if (decide (lb = hb) && (decide (-2147483648 ≤ la - lb) && decide (ha - lb ≤ 2147483647))) = true then some (aV k (c - lb)) else some (e_mk (la - hb) (ha - lb))
    | _ => some (e_mk (la - hb) (ha - lb)))
  | _, _ => none
def e_mul (E : EV) (a b : AV) : Option AV := match e_iv E a, e_iv E b with
  | some (la, ha), some (lb, hb) => if (decide (0 ≤ la) && decide (0 ≤ lb)) = true then some (e_mk (la * lb) (ha * hb)) else some aTop
  | _, _ => none
/-- exact where both are known and not negative -/
def e_bit (f : Nat → Nat → Nat) (E : EV) (a b : AV) (other : AV) : AV := match e_iv E a, e_iv E b with
  | some (la, ha), some (lb, hb) => if (decide (la = ha) && (decide (lb = hb) && (decide (0 ≤ la) && decide (0 ≤ lb)))) = true then aI ((f la.toNat lb.toNat : Nat) : Int) else other
  | _, _ => other
def e_and (E : EV) (a b : AV) : Option AV := match e_iv E a, e_iv E b with
  | some (la, ha), some (lb, hb) => some (e_bit (fun x y => x &&& y) E a b (if decide (0 ≤ lb) = true then .inl (0, hb) else if decide (0 ≤ la) = true then .inl (0, ha) else aTop))
  | _, _ => none
def e_or (E : EV) (a b : AV) : Option AV := match e_iv E a, e_iv E b with
  | some _, some _ => some (e_bit (fun x y => x ||| y) E a b aTop)
  | _, _ => none
def e_xor (E : EV) (a b : AV) : Option AV := match e_iv E a, e_iv E b with
  | some _, some _ => some (e_bit (fun x y => x ^^^ y) E a b aTop)
  | _, _ => none
def e_shl (E : EV) (a b : AV) : Option AV := match e_iv E a, e_iv E b with
  | some (la, ha), some (lb, hb) => if (decide (lb = hb) && (decide (0 ≤ lb) && (decide (lb < 32) && decide (0 ≤ la)))) = true then some (e_mk (la * 2 ^ lb.toNat) (ha * 2 ^ lb.toNat)) else some aTop
  | _, _ => none
def e_shr (E : EV) (a b : AV) : Option AV := match e_iv E a, e_iv E b with
  | some (la, ha), some (lb, hb) => if (decide (lb = hb) && (decide (0 ≤ lb) && (decide (lb < 32) && decide (0 ≤ la)))) = true then some (.inl (0, ha)) else some aTop
  | _, _ => none
def e_top2 (E : EV) (a b : AV) : Option AV := match e_iv E a, e_iv E b with
  | some _, some _ => some aTop
  | _, _ => none
/-- a remainder by a known number above 0 -/
def e_rem (E : EV) (a b : AV) : Option AV := match e_iv E a, e_iv E b with
  | some (la, ha), some (lb, hb) => if (decide (lb = hb) && (decide (0 < lb) && decide (0 ≤ la))) = true then (if decide (ha < lb) = true then some (.inl (la, ha)) else if decide (la = ha) = true then some (aI (la % lb)) else some (.inl (0, lb - 1))) else none
  | _, _ => none
def e_div (E : EV) (a b : AV) : Option AV := match e_iv E a, e_iv E b with
  | some (la, ha), some (lb, hb) => if (decide (lb = hb) && decide (0 < lb)) = true then (if decide (0 ≤ la) = true then some (.inl (la / lb, ha / lb)) else some aTop) else none
  | _, _ => none
def e_bin (i : Instr) (E : EV) (a b : AV) : Option AV := match i with
  | .iadd => e_add E a b
  | .isub => e_sub E a b
  | .imul => e_mul E a b
  | .iand => e_and E a b
  | .ior => e_or E a b
  | .ixor => e_xor E a b
  | .ishl => e_shl E a b
  | .ishr => e_shr E a b
  | .iushr => e_top2 E a b
  | .irem => e_rem E a b
  | .idiv => e_div E a b
  | _ => none
def e_un (i : Instr) (E : EV) (a : AV) : Option AV := match i with
  | .ineg => (match e_iv E a with | some (la, ha) => some (e_mk (-ha) (-la)) | none => none)
  | .i2b => (match e_iv E a with | some (la, ha) => if (decide (-128 ≤ la) && decide (ha ≤ 127)) = true then some a else some (.inl (-128, 127)) | none => none)
  | .i2l => (match e_iv E a with | some (la, ha) => some (aL la ha) | none => none)
  | _ => none
/-- the array's value at a place -/
def e_get (d : AV) (x : List (Nat × AV)) (j : Nat) : AV := match x with
  | [] => d
  | (i, a) :: r => if Nat.beq i j = true then a else e_get d r j
def e_put (d : AV) (x : List (Nat × AV)) (j : Nat) (a : AV) : List (Nat × AV) := if a = d then x.filter (fun q => !(Nat.beq q.1 j)) else (j, a) :: x.filter (fun q => !(Nat.beq q.1 j))
/-- an int is between two numbers: the named numbers then; none if it can't be -/
def e_clamp (E : EV) (a : AV) (lo hi : Int) : Option EV := match a with
  | .inl (la, ha) => if (decide (la ≤ hi) && decide (lo ≤ ha)) = true then some E else none
  | .inr (.inl (k, c)) => (match E[k]? with
    | some (la, ha) => if (decide (max la (lo - c) ≤ min ha (hi - c))) = true then some (E.set k (max la (lo - c), min ha (hi - c))) else none
    | none => none)
  | _ => none
def e_clamp2 (E : EV) (a : AV) (la ha : Int) (b : AV) (lb hb : Int) : Option EV := match e_clamp E a la ha with
  | some E1 => e_clamp E1 b lb hb
  | none => none
/-- the named numbers where two ints are so: 0 equal, 1 not, 2 less, 3 not less -/
def e_rel (E : EV) (r : Nat) (a b : AV) : Option (List EV) := match e_iv E a, e_iv E b with
  | some (la, ha), some (lb, hb) =>
    (match r with
    | 0 => some (e_clamp2 E a lb hb b la ha).toList
    | 1 => if (decide (la = ha) && (decide (lb = hb) && decide (la = lb))) = true then some [] else
        (match a, b with
        | .inr (.inl (k, c)), .inr (.inl (k', c')) => if (Nat.beq k k' && decide (c = c')) = true then some [] else some [E]
        | _, _ => if decide (lb = hb) = true then some ((e_clamp E a (-2147483648) (lb - 1)).toList ++ (e_clamp E a (lb + 1) 2147483647).toList) else some [E])
    | 2 => some (e_clamp2 E a (-2147483648) (hb - 1) b (la + 1) 2147483647).toList
    | _ => some (e_clamp2 E a lb 2147483647 b (-2147483648) ha).toList)
  | _, _ => none
def e_o2l (x : Option EV) (f : EV → ST) : List ST := match x with
  | some E => [f E]
  | none => []
/-- the cell that a reference names -/
def e_cell (C : List AC) (a : AV) : Option (Nat × AC) := match a with
  | .inr (.inr (.inr (.inl (some i)))) => (match C[i]? with | some c => some (i, c) | none => none)
  | _ => none
end
section
/-! what abstract values mean; the laws of the numbers -/
def gv (ν : Nat → Int) (al : List Nat) (b : Nat) (a : AV) (v : Value) : Prop := match a with
  | .inl (lo, hi) => ∃ x : Int32, v = .int x ∧ lo ≤ x.toInt ∧ x.toInt ≤ hi
  | .inr (.inl (k, c)) => ∃ x : Int32, v = .int x ∧ x.toInt = ν k + c
  | .inr (.inr (.inl (lo, hi))) => ∃ x : Int64, v = .long x ∧ lo ≤ x.toInt ∧ x.toInt ≤ hi
  | .inr (.inr (.inr (.inl none))) => v = .null
  | .inr (.inr (.inr (.inl (some i)))) => ∃ q : Nat, al[i]? = some q ∧ v = .ref q
  | .inr (.inr (.inr (.inr _))) => v = .ref b
def gvs (ν : Nat → Int) (al : List Nat) (b : Nat) : List AV → List Value → Prop
  | [], [] => True
  | a :: as, v :: vs => gv ν al b a v ∧ gvs ν al b as vs
  | _, _ => False
def glv (ν : Nat → Int) (al : List Nat) (b : Nat) : List (Nat × AV) → List (Nat × Value) → Prop
  | [], [] => True
  | a :: as, v :: vs => (a.1 = v.1 ∧ gv ν al b a.2 v.2) ∧ glv ν al b as vs
  | _, _ => False
def genv (ν : Nat → Int) (E : EV) : Prop := ∀ (k : Nat) (q : Int × Int), E[k]? = some q → q.1 ≤ ν k ∧ ν k ≤ q.2
section REL
variable {ν : Nat → Int} {al : List Nat} {b : Nat} {E : EV}
theorem gv_int {a : AV} {v : Value} {lo hi : Int} (hE : genv ν E) (h : gv ν al b a v) (hi9 : e_iv E a = some (lo, hi)) : ∃ x : Int32, v = .int x ∧ lo ≤ x.toInt ∧ x.toInt ≤ hi := by
  rcases a with ⟨l0, h0⟩ | ⟨k, c⟩ | ⟨l0, h0⟩ | (_ | i) | _
  · simp only [e_iv, Option.some.injEq, Prod.mk.injEq] at hi9
    obtain ⟨rfl, rfl⟩ := hi9
    exact h
  · obtain ⟨x, rfl, hx⟩ := h
    simp only [e_iv] at hi9
    cases hk : E[k]? with
    | none => rw [hk] at hi9; cases hi9
    | some q =>
      rw [hk] at hi9
      obtain ⟨l1, h1⟩ := q
      simp only [Option.some.injEq, Prod.mk.injEq] at hi9
      obtain ⟨rfl, rfl⟩ := hi9
      have := hE k _ hk
      exact ⟨x, rfl, by simp only at this; omega, by simp only at this; omega⟩
  all_goals (simp only [e_iv] at hi9; cases hi9)
theorem gv_int2 {a : AV} {x : Int32} {lo hi : Int} (hE : genv ν E) (h : gv ν al b a (.int x)) (hi9 : e_iv E a = some (lo, hi)) : lo ≤ x.toInt ∧ x.toInt ≤ hi := by
  obtain ⟨y, e, h1, h2⟩ := gv_int hE h hi9
  cases e
  exact ⟨h1, h2⟩
theorem gv_isI {a : AV} {v : Value} (h : gv ν al b a v) (hi9 : e_isI a = true) : ∃ x : Int32, v = .int x := by
  rcases a with ⟨l0, h0⟩ | ⟨k, c⟩ | ⟨l0, h0⟩ | (_ | i) | _
  · obtain ⟨x, e, -⟩ := h; exact ⟨x, e⟩
  · obtain ⟨x, e, -⟩ := h; exact ⟨x, e⟩
  all_goals cases hi9
theorem gv_isL {a : AV} {v : Value} (h : gv ν al b a v) (hi9 : e_isL a = true) : ∃ x : Int64, v = .long x := by
  rcases a with ⟨l0, h0⟩ | ⟨k, c⟩ | ⟨l0, h0⟩ | (_ | i) | _
  · cases hi9
  · cases hi9
  · obtain ⟨x, e, -⟩ := h; exact ⟨x, e⟩
  all_goals cases hi9
theorem gv_isR {a : AV} {v : Value} (h : gv ν al b a v) (hi9 : e_isR a = true) : v = .null ∨ ∃ q : Nat, v = .ref q := by
  rcases a with ⟨l0, h0⟩ | ⟨k, c⟩ | ⟨l0, h0⟩ | (_ | i) | _
  · cases hi9
  · cases hi9
  · cases hi9
  · exact Or.inl h
  · obtain ⟨q, -, e⟩ := h; exact Or.inr ⟨q, e⟩
  · exact Or.inr ⟨b, h⟩
theorem gv_cat {a : AV} {v : Value} (h : gv ν al b a v) : (v.category == 2) = e_isL a := by
  rcases a with ⟨l0, h0⟩ | ⟨k, c⟩ | ⟨l0, h0⟩ | (_ | i) | _
  · obtain ⟨x, rfl, -⟩ := h; rfl
  · obtain ⟨x, rfl, -⟩ := h; rfl
  · obtain ⟨x, rfl, -⟩ := h; rfl
  · rw [show v = .null from h]; rfl
  · obtain ⟨q, -, rfl⟩ := h; rfl
  · rw [show v = .ref b from h]; rfl
theorem gv_cat1 {a : AV} {v : Value} (h : gv ν al b a v) (hn : e_isL a = false) : v.category = 1 := by
  have := gv_cat h
  rw [hn] at this
  rcases lv_cat v with q | q
  · exact q
  · rw [q] at this; cases this
theorem gv_cat2 {a : AV} {v : Value} (h : gv ν al b a v) (hn : e_isL a = true) : v.category = 2 := by
  have := gv_cat h
  rw [hn] at this
  exact eq_of_beq this
theorem gv_app {a : AV} {v : Value} (m : List Nat) (h : gv ν al b a v) : gv ν (al ++ m) b a v := by
  rcases a with ⟨l0, h0⟩ | ⟨k, c⟩ | ⟨l0, h0⟩ | (_ | i) | _
  · exact h
  · exact h
  · exact h
  · exact h
  · obtain ⟨q, e, rfl⟩ := h
    refine ⟨q, ?_, rfl⟩
    have hlt := (List.getElem?_eq_some_iff.mp e).1
    rw [List.getElem?_append_left hlt]; exact e
  · exact h
theorem gvs_app {as : List AV} {vs : List Value} (m : List Nat) (h : gvs ν al b as vs) : gvs ν (al ++ m) b as vs := by
  induction as generalizing vs with
  | nil => cases vs with
    | nil => trivial
    | cons => exact h
  | cons a as ih => cases vs with
    | nil => exact h
    | cons v vs => exact ⟨gv_app m h.1, ih h.2⟩
theorem glv_app {as : List (Nat × AV)} {vs : List (Nat × Value)} (m : List Nat) (h : glv ν al b as vs) : glv ν (al ++ m) b as vs := by
  induction as generalizing vs with
  | nil => cases vs with
    | nil => trivial
    | cons => exact h
  | cons a as ih => cases vs with
    | nil => exact h
    | cons v vs => exact ⟨⟨h.1.1, gv_app m h.1.2⟩, ih h.2⟩
theorem gvs_cons {a : AV} {as : List AV} {vs : List Value} (h : gvs ν al b (a :: as) vs) : ∃ v vs', vs = v :: vs' ∧ gv ν al b a v ∧ gvs ν al b as vs' := by
  cases vs with
  | nil => exact absurd h id
  | cons v vs => exact ⟨v, vs, rfl, h.1, h.2⟩
theorem gvs_nil {vs : List Value} (h : gvs ν al b [] vs) : vs = [] := by
  cases vs with
  | nil => rfl
  | cons v vs => exact absurd h id
theorem e_find_ok {lo : List (Nat × AV)} {lv : List (Nat × Value)} {i : Nat} {a : AV} (h : glv ν al b lo lv) (hf : e_find lo i = some a) : ∃ (k : Nat) (v : Value), lv[k]? = some (i, v) ∧ gv ν al b a v := by
  induction lo generalizing lv with
  | nil => cases hf
  | cons q r ih =>
    cases lv with
    | nil => exact absurd h id
    | cons w ws =>
      obtain ⟨j, a0⟩ := q
      obtain ⟨j', v0⟩ := w
      obtain ⟨⟨h1, h2⟩, h3⟩ := h
      simp only at h1 h2
      subst h1
      simp only [e_find] at hf
      by_cases hj : Nat.beq j i = true
      · rw [if_pos hj] at hf
        cases hf
        have := Nat.eq_of_beq_eq_true hj
        subst this
        exact ⟨0, v0, rfl, h2⟩
      · rw [if_neg hj] at hf
        obtain ⟨k, v, e, g⟩ := ih h3 hf
        exact ⟨k + 1, v, e, g⟩
theorem glv_filter {lo : List (Nat × AV)} {lv : List (Nat × Value)} (f : Nat × AV → Bool) (g : Nat × Value → Bool) (h : glv ν al b lo lv) (hfg : ∀ i a v, gv ν al b a v → f (i, a) = g (i, v)) : glv ν al b (lo.filter f) (lv.filter g) := by
  induction lo generalizing lv with
  | nil => cases lv with
    | nil => exact h
    | cons => exact absurd h id
  | cons q r ih => cases lv with
    | nil => exact absurd h id
    | cons w ws =>
      obtain ⟨j, a0⟩ := q
      obtain ⟨j', v0⟩ := w
      obtain ⟨⟨h1, h2⟩, h3⟩ := h
      simp only at h1 h2
      subst h1
      have e := hfg j a0 v0 h2
      rw [List.filter_cons, List.filter_cons, e]
      by_cases hg : g (j, v0) = true
      · rw [if_pos hg, if_pos hg]
        exact ⟨⟨rfl, h2⟩, ih h3⟩
      · rw [if_neg hg, if_neg hg]
        exact ih h3
theorem glv_st1 {lo : List (Nat × AV)} {lv : List (Nat × Value)} {i : Nat} {a : AV} {v : Value} (h : glv ν al b lo lv) (ha : gv ν al b a v) : glv ν al b (e_st1 lo i a) ((i, v) :: lv.filter (fun q => !(q.1 == i) && !(q.1 + 1 == i && q.2.category == 2))) := by
  refine ⟨⟨rfl, ha⟩, glv_filter _ _ h fun j a v hv => ?_⟩
  simp only [gv_cat hv]
theorem glv_st2 {lo : List (Nat × AV)} {lv : List (Nat × Value)} {i : Nat} {a : AV} {v : Value} (h : glv ν al b lo lv) (ha : gv ν al b a v) : glv ν al b (e_st2 lo i a) ((i, v) :: lv.filter (fun q => !(q.1 == i) && (!(q.1 == i + 1) && !(q.1 + 1 == i && q.2.category == 2)))) := by
  refine ⟨⟨rfl, ha⟩, glv_filter _ _ h fun j a v hv => ?_⟩
  simp only [gv_cat hv]
/-! numbers -/
theorem gv_top (x : Int32) : gv ν al b aTop (.int x) := ⟨x, rfl, (fb_rng x).1, by have := (fb_rng x).2; omega⟩
theorem gv_Ltop (x : Int64) : gv ν al b aLtop (.long x) := ⟨x, rfl, (fb_rngL x).1, by have := (fb_rngL x).2; omega⟩
theorem gv_mk {x : Int32} {lo hi : Int} (h1 : lo ≤ x.toInt) (h2 : x.toInt ≤ hi) : gv ν al b (e_mk lo hi) (.int x) := by
  unfold e_mk
  split
  · exact ⟨x, rfl, h1, h2⟩
  · exact gv_top x
/-- the number z (mod 2^32), where it is between lo and hi -/
theorem gv_mkw {x : Int32} {z lo hi : Int} (hx : -2147483648 ≤ z → z < 2147483648 → x.toInt = z) (h1 : lo ≤ z) (h2 : z ≤ hi) : gv ν al b (e_mk lo hi) (.int x) := by
  unfold e_mk
  split
  · rename_i h
    simp only [Bool.and_eq_true, decide_eq_true_eq] at h
    have e := hx (by omega) (by omega)
    exact ⟨x, rfl, by omega, by omega⟩
  · exact gv_top x
theorem e_add_ok {a c r : AV} {x y : Int32} (hE : genv ν E) (ha : gv ν al b a (.int x)) (hc : gv ν al b c (.int y)) (h : e_add E a c = some r) : gv ν al b r (.int (x + y)) := by
  unfold e_add at h
  split at h
  · rename_i la ha1 lb hb1 e1 e2
    have p1 := gv_int2 hE ha e1
    have p2 := gv_int2 hE hc e2
    have g := gv_mkw (ν := ν) (al := al) (b := b) (x := x + y) (z := x.toInt + y.toInt) (lo := la + lb) (hi := ha1 + hb1) (fun h1 h2 => fb_addI h1 h2) (by omega) (by omega)
    split at h
    · rename_i k c0
      split at h
      · rename_i hc0
        simp only [Bool.and_eq_true, decide_eq_true_eq] at hc0
        cases h
        obtain ⟨x', e', hx'⟩ := ha
        cases e'
        refine ⟨x + y, rfl, ?_⟩
        rw [fb_addI (by omega) (by omega)]
        omega
      · cases h; exact g
    · cases h; exact g
  · cases h
theorem e_sub_ok {a c r : AV} {x y : Int32} (hE : genv ν E) (ha : gv ν al b a (.int x)) (hc : gv ν al b c (.int y)) (h : e_sub E a c = some r) : gv ν al b r (.int (x - y)) := by
  unfold e_sub at h
  split at h
  · rename_i la ha1 lb hb1 e1 e2
    have p1 := gv_int2 hE ha e1
    have p2 := gv_int2 hE hc e2
    have g := gv_mkw (ν := ν) (al := al) (b := b) (x := x - y) (z := x.toInt - y.toInt) (lo := la - hb1) (hi := ha1 - lb) (fun h1 h2 => fb_subI h1 h2) (by omega) (by omega)
    split at h
    · rename_i k c0
      split at h
      · rename_i hc0
        simp only [Bool.and_eq_true, decide_eq_true_eq] at hc0
        cases h
        obtain ⟨x', e', hx'⟩ := ha
        cases e'
        refine ⟨x - y, rfl, ?_⟩
        rw [fb_subI (by omega) (by omega)]
        omega
      · cases h; exact g
    · cases h; exact g
  · cases h
end REL
end
section
section NUM
variable {ν : Nat → Int} {al : List Nat} {b : Nat} {E : EV}
theorem en_of {x : Int32} {n : Int} (h : x.toInt = n) (h0 : 0 ≤ n) : x = nI n.toNat ∧ n.toNat < 2147483648 := by
  have r := fb_rng x
  have h1 : n.toNat < 2147483648 := by omega
  refine ⟨(fa_eq _ _).mpr ?_, h1⟩
  rw [nI_toInt (by omega)]
  omega
theorem en_nn {x : Int32} (h : 0 ≤ x.toInt) : ∃ n : Nat, x = nI n ∧ n < 2147483648 ∧ x.toInt = (n : Int) := by
  obtain ⟨h1, h2⟩ := en_of rfl h
  exact ⟨x.toInt.toNat, h1, h2, by omega⟩
theorem e_mul_ok {a c r : AV} {x y : Int32} (hE : genv ν E) (ha : gv ν al b a (.int x)) (hc : gv ν al b c (.int y)) (h : e_mul E a c = some r) : gv ν al b r (.int (x * y)) := by
  unfold e_mul at h
  split at h
  · rename_i la ha1 lb hb1 e1 e2
    have p1 := gv_int2 hE ha e1
    have p2 := gv_int2 hE hc e2
    split at h
    · rename_i hc0
      simp only [Bool.and_eq_true, decide_eq_true_eq] at hc0
      cases h
      refine gv_mkw (z := x.toInt * y.toInt) (fun h1 h2 => fb_mulI h1 h2) ?_ ?_
      · exact Int.mul_le_mul p1.1 p2.1 hc0.2 (by omega)
      · exact Int.mul_le_mul p1.2 p2.2 (by omega) (by omega)
    · cases h; exact gv_top _
  · cases h
theorem e_bit_ok {f : Nat → Nat → Nat} {op : Int32 → Int32 → Int32} (hop : ∀ m n : Nat, op (nI m) (nI n) = nI (f m n)) (hlt : ∀ m n : Nat, m < 2147483648 → n < 2147483648 → f m n < 2147483648) {a c o : AV} {x y : Int32} (hE : genv ν E) (ha : gv ν al b a (.int x)) (hc : gv ν al b c (.int y)) (ho : gv ν al b o (.int (op x y))) : gv ν al b (e_bit f E a c o) (.int (op x y)) := by
  unfold e_bit
  split
  · rename_i la ha1 lb hb1 e1 e2
    have p1 := gv_int2 hE ha e1
    have p2 := gv_int2 hE hc e2
    split
    · rename_i hc0
      simp only [Bool.and_eq_true, decide_eq_true_eq] at hc0
      obtain ⟨c1, c2, c3, c4⟩ := hc0
      obtain ⟨q1, q2⟩ := en_of (x := x) (n := la) (by omega) c3
      obtain ⟨q3, q4⟩ := en_of (x := y) (n := lb) (by omega) c4
      have e : (op x y).toInt = ((f la.toNat lb.toNat : Nat) : Int) := by
        rw [q1, q3, hop, nI_toInt (hlt _ _ q2 q4)]
      exact ⟨op x y, rfl, by omega, by omega⟩
    · exact ho
  · exact ho
theorem en_and_lt {m n : Nat} (h : n < 2147483648) : m &&& n < 2147483648 := Nat.lt_of_le_of_lt Nat.and_le_right h
theorem en_andr {x y : Int32} (h : 0 ≤ y.toInt) : 0 ≤ (x &&& y).toInt ∧ (x &&& y).toInt ≤ y.toInt := by
  obtain ⟨n, rfl, hn, e⟩ := en_nn h
  have hx : x = nI x.toBitVec.toNat := by
    apply Int32.toBitVec_inj.mp
    show x.toBitVec = (Int32.ofNat x.toBitVec.toNat).toBitVec
    simp
  rw [hx, fa_and, nI_toInt (en_and_lt hn), e]
  have : x.toBitVec.toNat &&& n ≤ n := Nat.and_le_right
  omega
theorem en_andc (x y : Int32) : x &&& y = y &&& x := by
  apply Int32.toBitVec_inj.mp
  simp only [Int32.toBitVec_and]
  exact BitVec.and_comm _ _
theorem e_and_ok {a c r : AV} {x y : Int32} (hE : genv ν E) (ha : gv ν al b a (.int x)) (hc : gv ν al b c (.int y)) (h : e_and E a c = some r) : gv ν al b r (.int (x &&& y)) := by
  unfold e_and at h
  split at h
  · rename_i la ha1 lb hb1 e1 e2
    have p1 := gv_int2 hE ha e1
    have p2 := gv_int2 hE hc e2
    cases h
    refine e_bit_ok (op := fun x y => x &&& y) (fun m n => fa_and m n) (fun m n _ hn => en_and_lt hn) hE ha hc ?_
    split
    · rename_i q
      have q := of_decide_eq_true q
      have w := en_andr (x := x) (y := y) (by omega)
      exact ⟨x &&& y, rfl, w.1, by omega⟩
    · split
      · rename_i q
        have q := of_decide_eq_true q
        have w := en_andr (x := y) (y := x) (by omega)
        rw [en_andc y x] at w
        exact ⟨x &&& y, rfl, w.1, by omega⟩
      · exact gv_top _
  · cases h
theorem en_or_lt {m n : Nat} (h1 : m < 2147483648) (h : n < 2147483648) : m ||| n < 2147483648 := Nat.or_lt_two_pow (n := 31) h1 h
theorem en_xor_lt {m n : Nat} (h1 : m < 2147483648) (h : n < 2147483648) : m ^^^ n < 2147483648 := Nat.xor_lt_two_pow (n := 31) h1 h
theorem e_or_ok {a c r : AV} {x y : Int32} (hE : genv ν E) (ha : gv ν al b a (.int x)) (hc : gv ν al b c (.int y)) (h : e_or E a c = some r) : gv ν al b r (.int (x ||| y)) := by
  unfold e_or at h
  split at h
  · cases h
    exact e_bit_ok (op := fun x y => x ||| y) (fun m n => fa_or m n) (fun m n hm hn => en_or_lt hm hn) hE ha hc (gv_top _)
  · cases h
theorem e_xor_ok {a c r : AV} {x y : Int32} (hE : genv ν E) (ha : gv ν al b a (.int x)) (hc : gv ν al b c (.int y)) (h : e_xor E a c = some r) : gv ν al b r (.int (x ^^^ y)) := by
  unfold e_xor at h
  split at h
  · cases h
    exact e_bit_ok (op := fun x y => x ^^^ y) (fun m n => fb_xorI m n) (fun m n hm hn => en_xor_lt hm hn) hE ha hc (gv_top _)
  · cases h
theorem en_cnt : ∀ k : Nat, k < 32 → ((nI k &&& 31).toBitVec.smod 32).toNat = k := by decide +kernel
theorem e_shl_ok {a c r : AV} {x y : Int32} (hE : genv ν E) (ha : gv ν al b a (.int x)) (hc : gv ν al b c (.int y)) (h : e_shl E a c = some r) : gv ν al b r (.int (x <<< (y &&& 31))) := by
  unfold e_shl at h
  split at h
  · rename_i la ha1 lb hb1 e1 e2
    have p1 := gv_int2 hE ha e1
    have p2 := gv_int2 hE hc e2
    split at h
    · rename_i hc0
      simp only [Bool.and_eq_true, decide_eq_true_eq] at hc0
      obtain ⟨c1, c2, c3, c4⟩ := hc0
      cases h
      obtain ⟨q3, q4⟩ := en_of (x := y) (n := lb) (by omega) c2
      obtain ⟨m, rfl, hm, em⟩ := en_nn (x := x) (by omega)
      have hk : lb.toNat < 32 := by omega
      refine gv_mkw (z := (m : Int) * 2 ^ lb.toNat) (fun h1 h2 => ?_) ?_ ?_
      · have h3 : m * 2 ^ lb.toNat < 2147483648 := by
          have : ((m * 2 ^ lb.toNat : Nat) : Int) < 2147483648 := by rw [Int.natCast_mul, Int.natCast_pow]; exact h2
          omega
        rw [q3, pk_shlN (nI lb.toNat &&& 31) lb.toNat (en_cnt _ hk) (by omega), nI_toInt (by omega), Int.natCast_mul, Int.natCast_pow]
        rfl
      · exact Int.mul_le_mul_of_nonneg_right (by omega) (Int.le_of_lt (Int.pow_pos (by omega)))
      · exact Int.mul_le_mul_of_nonneg_right (by omega) (Int.le_of_lt (Int.pow_pos (by omega)))
    · cases h; exact gv_top _
  · cases h
theorem e_shr_ok {a c r : AV} {x y : Int32} (hE : genv ν E) (ha : gv ν al b a (.int x)) (hc : gv ν al b c (.int y)) (h : e_shr E a c = some r) : gv ν al b r (.int (x >>> (y &&& 31))) := by
  unfold e_shr at h
  split at h
  · rename_i la ha1 lb hb1 e1 e2
    have p1 := gv_int2 hE ha e1
    have p2 := gv_int2 hE hc e2
    split at h
    · rename_i hc0
      simp only [Bool.and_eq_true, decide_eq_true_eq] at hc0
      obtain ⟨c1, c2, c3, c4⟩ := hc0
      cases h
      obtain ⟨q3, q4⟩ := en_of (x := y) (n := lb) (by omega) c2
      obtain ⟨m, rfl, hm, em⟩ := en_nn (x := x) (by omega)
      have hk : lb.toNat < 32 := by omega
      have e : (nI m >>> (y &&& 31)).toInt = ((m / 2 ^ lb.toNat : Nat) : Int) := by
        rw [q3, pk_shrN (by omega) (nI lb.toNat &&& 31) lb.toNat (en_cnt _ hk)]
        have := Nat.div_le_self m (2 ^ lb.toNat)
        rw [nI_toInt (by omega)]
      have h9 := Nat.div_le_self m (2 ^ lb.toNat)
      generalize m / 2 ^ lb.toNat = d at e h9
      exact ⟨_, rfl, by rw [e]; omega, by rw [e]; omega⟩
    · cases h; exact gv_top _
  · cases h
theorem e_top2_ok {a c r : AV} {z : Int32} (h : e_top2 E a c = some r) : gv ν al b r (.int z) := by
  unfold e_top2 at h
  split at h
  · cases h; exact gv_top _
  · cases h
theorem e_rem_ok {a c r : AV} {x y : Int32} (hE : genv ν E) (ha : gv ν al b a (.int x)) (hc : gv ν al b c (.int y)) (h : e_rem E a c = some r) : ¬ y = 0 ∧ gv ν al b r (.int (x - x / y * y)) := by
  unfold e_rem at h
  split at h
  · rename_i la ha1 lb hb1 e1 e2
    have p1 := gv_int2 hE ha e1
    have p2 := gv_int2 hE hc e2
    split at h
    · rename_i hc0
      simp only [Bool.and_eq_true, decide_eq_true_eq] at hc0
      obtain ⟨c1, c2, c3⟩ := hc0
      obtain ⟨n, hy, hn, en⟩ := en_nn (x := y) (by omega)
      obtain ⟨m, hx, hm, em⟩ := en_nn (x := x) (by omega)
      have hn0 : 0 < n := by omega
      have hlb : lb = (n : Int) := by omega
      have hmod : (x - x / y * y).toInt = ((m % n : Nat) : Int) := by
        have := Nat.mod_lt m hn0
        rw [hx, hy, pk_rem hm hn0 hn, nI_toInt (by omega)]
      have hlt := Nat.mod_lt m hn0
      refine ⟨fun h0 => ?_, ?_⟩
      · rw [h0] at en
        have : (0 : Int32).toInt = 0 := rfl
        omega
      · split at h
        · rename_i q
          have q := of_decide_eq_true q
          cases h
          have : m % n = m := Nat.mod_eq_of_lt (by omega)
          exact ⟨_, rfl, by rw [hmod, this]; omega, by rw [hmod, this]; omega⟩
        · split at h
          · rename_i q
            have q := of_decide_eq_true q
            cases h
            have : la % lb = ((m % n : Nat) : Int) := by rw [hlb, show la = (m : Int) by omega]; rfl
            exact ⟨_, rfl, by rw [hmod, this]; omega, by rw [hmod, this]; omega⟩
          · cases h
            exact ⟨_, rfl, by rw [hmod]; omega, by rw [hmod]; omega⟩
    · cases h
  · cases h
theorem e_div_ok {a c r : AV} {x y : Int32} (hE : genv ν E) (ha : gv ν al b a (.int x)) (hc : gv ν al b c (.int y)) (h : e_div E a c = some r) : ¬ y = 0 ∧ gv ν al b r (.int (x / y)) := by
  unfold e_div at h
  split at h
  · rename_i la ha1 lb hb1 e1 e2
    have p1 := gv_int2 hE ha e1
    have p2 := gv_int2 hE hc e2
    split at h
    · rename_i hc0
      simp only [Bool.and_eq_true, decide_eq_true_eq] at hc0
      obtain ⟨c1, c2⟩ := hc0
      obtain ⟨n, hy, hn, en⟩ := en_nn (x := y) (by omega)
      have hn0 : 0 < n := by omega
      have hlb : lb = (n : Int) := by omega
      refine ⟨fun h0 => ?_, ?_⟩
      · rw [h0] at en
        have : (0 : Int32).toInt = 0 := rfl
        omega
      · split at h
        · rename_i c3
          have c3 := of_decide_eq_true c3
          obtain ⟨m, hx, hm, em⟩ := en_nn (x := x) (by omega)
          have hdiv : (x / y).toInt = ((m / n : Nat) : Int) := by
            have := Nat.div_le_self m n
            rw [hx, hy, pk_div hm hn0 hn, nI_toInt (by omega)]
          cases h
          refine ⟨_, rfl, ?_, ?_⟩
          · rw [hdiv, hlb, Int.natCast_ediv]; exact Int.ediv_le_ediv (by omega) (by omega)
          · rw [hdiv, hlb, Int.natCast_ediv]; exact Int.ediv_le_ediv (by omega) (by omega)
        · cases h; exact gv_top _
    · cases h
  · cases h
end NUM
end
section
section REL2
variable {ν : Nat → Int} {al : List Nat} {b : Nat} {E : EV}
theorem en_i8 {x : Int32} (h1 : -128 ≤ x.toInt) (h2 : x.toInt ≤ 127) : x.toInt8.toInt32 = x := fb_byte h1 (by omega)
theorem en_wide (x : Int32) : x.toInt64.toInt = x.toInt := by simp
theorem genv_set {k : Nat} {q : Int × Int} (hE : genv ν E) (h : q.1 ≤ ν k ∧ ν k ≤ q.2) : genv ν (E.set k q) := by
  intro j r hj
  rw [List.getElem?_set] at hj
  by_cases e : k = j
  · subst e
    rw [if_pos rfl] at hj
    split at hj
    · cases hj; exact h
    · cases hj
  · rw [if_neg e] at hj
    exact hE j r hj
theorem e_clamp_ok {a : AV} {x : Int32} {lo hi : Int} (hE : genv ν E) (ha : gv ν al b a (.int x)) (hk : ∃ q, e_iv E a = some q) (h1 : lo ≤ x.toInt) (h2 : x.toInt ≤ hi) : ∃ E1, e_clamp E a lo hi = some E1 ∧ genv ν E1 ∧ ∀ (c : AV) q, e_iv E c = some q → ∃ q', e_iv E1 c = some q' := by
  rcases a with ⟨l0, h0⟩ | ⟨k, c⟩ | ⟨l0, h0⟩ | (_ | i) | _
  · obtain ⟨x', e, g1, g2⟩ := ha
    cases e
    refine ⟨E, ?_, hE, fun c q hq => ⟨q, hq⟩⟩
    simp only [e_clamp]
    rw [if_pos]
    simp only [Bool.and_eq_true, decide_eq_true_eq]
    omega
  · obtain ⟨x', e, g1⟩ := ha
    cases e
    obtain ⟨q, hq⟩ := hk
    simp only [e_iv] at hq
    cases hkk : E[k]? with
    | none => rw [hkk] at hq; cases hq
    | some r =>
      obtain ⟨la, ha⟩ := r
      have w := hE k _ hkk
      simp only at w
      refine ⟨E.set k (max la (lo - c), min ha (hi - c)), ?_, genv_set hE ⟨by simp only; omega, by simp only; omega⟩, fun d q hq => ?_⟩
      · simp only [e_clamp, hkk]
        rw [if_pos]
        simp only [decide_eq_true_eq]
        omega
      · rcases d with ⟨l1, h1⟩ | ⟨k1, c1⟩ | ⟨l1, h1⟩ | (_ | i1) | _
        · exact ⟨_, rfl⟩
        · simp only [e_iv] at hq ⊢
          rw [List.getElem?_set]
          by_cases e9 : k = k1
          · subst e9
            have hlt := (List.getElem?_eq_some_iff.mp hkk).1
            rw [if_pos rfl, if_pos hlt]
            exact ⟨_, rfl⟩
          · rw [if_neg e9]
            exact ⟨q, hq⟩
        all_goals (simp only [e_iv] at hq; cases hq)
  all_goals (obtain ⟨q, hq⟩ := hk; simp only [e_iv] at hq; cases hq)
theorem e_clamp2_ok {a c : AV} {x y : Int32} {la ha lb hb : Int} (hE : genv ν E) (hx : gv ν al b a (.int x)) (hy : gv ν al b c (.int y)) (k1 : ∃ q, e_iv E a = some q) (k2 : ∃ q, e_iv E c = some q) (h1 : la ≤ x.toInt) (h2 : x.toInt ≤ ha) (h3 : lb ≤ y.toInt) (h4 : y.toInt ≤ hb) : ∃ E1, e_clamp2 E a la ha c lb hb = some E1 ∧ genv ν E1 := by
  obtain ⟨E1, e1, g1, w1⟩ := e_clamp_ok hE hx k1 h1 h2
  obtain ⟨q, hq⟩ := k2
  obtain ⟨E2, e2, g2, -⟩ := e_clamp_ok g1 hy (w1 _ _ hq) h3 h4
  exact ⟨E2, by simp only [e_clamp2, e1, e2], g2⟩
def e_holds (r : Nat) (x y : Int) : Prop := match r with
  | 0 => x = y
  | 1 => x ≠ y
  | 2 => x < y
  | _ => y ≤ x
theorem mem_toL {x : Option EV} {E1 : EV} (h : x = some E1) : E1 ∈ x.toList := by rw [h]; exact List.mem_cons_self
theorem e_rel_ok {a c : AV} {x y : Int32} {r : Nat} {o : List EV} (hE : genv ν E) (hx : gv ν al b a (.int x)) (hy : gv ν al b c (.int y)) (h : e_rel E r a c = some o) (hr : e_holds r x.toInt y.toInt) : ∃ E1, E1 ∈ o ∧ genv ν E1 := by
  unfold e_rel at h
  split at h
  · rename_i la ha1 lb hb1 e1 e2
    have p1 := gv_int2 hE hx e1
    have p2 := gv_int2 hE hy e2
    have r1 := fb_rng x
    have r2 := fb_rng y
    split at h
    · have hr : x.toInt = y.toInt := hr
      cases h
      obtain ⟨E1, g1, g2⟩ := e_clamp2_ok hE hx hy ⟨_, e1⟩ ⟨_, e2⟩ (show lb ≤ x.toInt by omega) (show x.toInt ≤ hb1 by omega) (show la ≤ y.toInt by omega) (show y.toInt ≤ ha1 by omega)
      exact ⟨E1, mem_toL g1, g2⟩
    · have hr : x.toInt ≠ y.toInt := hr
      split at h
      · rename_i q
        simp only [Bool.and_eq_true, decide_eq_true_eq] at q
        omega
      · split at h
        · split at h
          · rename_i k1 c1 k2 c2 q
            simp only [Bool.and_eq_true, decide_eq_true_eq] at q
            have := Nat.eq_of_beq_eq_true q.1
            subst this
            obtain ⟨x', ex, hx'⟩ := hx
            obtain ⟨y', ey, hy'⟩ := hy
            cases ex
            cases ey
            omega
          · cases h; exact ⟨E, List.mem_cons_self, hE⟩
        · split at h
          · rename_i q
            have q := of_decide_eq_true q
            cases h
            rcases (show x.toInt ≤ lb - 1 ∨ lb + 1 ≤ x.toInt by omega) with w | w
            · obtain ⟨E1, e1, g1, -⟩ := e_clamp_ok (lo := -2147483648) (hi := lb - 1) hE hx ⟨_, e1⟩ (by omega) (by omega)
              exact ⟨E1, List.mem_append_left _ (mem_toL e1), g1⟩
            · obtain ⟨E1, e1, g1, -⟩ := e_clamp_ok (lo := lb + 1) (hi := 2147483647) hE hx ⟨_, e1⟩ (by omega) (by omega)
              exact ⟨E1, List.mem_append_right _ (mem_toL e1), g1⟩
          · cases h; exact ⟨E, List.mem_cons_self, hE⟩
    · have hr : x.toInt < y.toInt := hr
      cases h
      obtain ⟨E1, g1, g2⟩ := e_clamp2_ok hE hx hy ⟨_, e1⟩ ⟨_, e2⟩ (show -2147483648 ≤ x.toInt by omega) (show x.toInt ≤ hb1 - 1 by omega) (show la + 1 ≤ y.toInt by omega) (show y.toInt ≤ 2147483647 by omega)
      exact ⟨E1, mem_toL g1, g2⟩
    · rename_i n0 n1 n2
      have hr : y.toInt ≤ x.toInt := by
        rcases r with _ | _ | _ | r
        · exact absurd rfl n0
        · exact absurd rfl n1
        · exact absurd rfl n2
        · exact hr
      cases h
      obtain ⟨E1, g1, g2⟩ := e_clamp2_ok hE hx hy ⟨_, e1⟩ ⟨_, e2⟩ (show lb ≤ x.toInt by omega) (show x.toInt ≤ 2147483647 by omega) (show -2147483648 ≤ y.toInt by omega) (show y.toInt ≤ ha1 by omega)
      exact ⟨E1, mem_toL g1, g2⟩
  · cases h
theorem e_get_put {d a : AV} {x : List (Nat × AV)} {j i : Nat} : e_get d (e_put d x j a) i = if i = j then a else e_get d x i := by
  have hf : ∀ x : List (Nat × AV), e_get d (x.filter (fun q => !(Nat.beq q.1 j))) i = if i = j then d else e_get d x i := by
    intro x
    induction x with
    | nil => simp [e_get]
    | cons q r ih =>
      obtain ⟨k, c⟩ := q
      rw [List.filter_cons]
      by_cases hk : Nat.beq k j = true
      · have hkj := Nat.eq_of_beq_eq_true hk
        simp only [hk, Bool.not_true, Bool.false_eq_true, if_false]
        rw [ih]
        by_cases hi : i = j
        · rw [if_pos hi, if_pos hi]
        · rw [if_neg hi, if_neg hi]
          simp only [e_get]
          rw [if_neg]
          intro h
          have := Nat.eq_of_beq_eq_true h
          omega
      · have hk' : Nat.beq k j = false := by
          cases hq : Nat.beq k j with
          | true => exact absurd hq hk
          | false => rfl
        simp only [hk', Bool.not_false, if_true]
        simp only [e_get]
        by_cases hki : Nat.beq k i = true
        · rw [if_pos hki, if_pos hki, if_neg]
          intro h
          have := Nat.eq_of_beq_eq_true hki
          rw [this, h] at hk
          exact hk (Nat.beq_refl j)
        · rw [if_neg hki, if_neg hki]
          exact ih
  unfold e_put
  split
  · rename_i h
    rw [hf, h]
  · simp only [e_get]
    by_cases hji : Nat.beq j i = true
    · have := Nat.eq_of_beq_eq_true hji
      rw [if_pos hji, if_pos this.symm]
    · rw [if_neg hji, hf, if_neg]
      · rw [if_neg]
        intro h
        rw [h] at hji
        exact hji (Nat.beq_refl j)
      · intro h
        rw [h] at hji
        exact hji (Nat.beq_refl j)
end REL2
end
section
/-! steps that touch neither heap nor pc -/
def e_rng8 (n : Int) : Bool := decide (-128 ≤ n) && decide (n ≤ 127)
def e_rng16 (n : Int) : Bool := decide (-32768 ≤ n) && decide (n ≤ 32767)
def e_ld (len : Nat) (k : AV → Bool) (lo : List (Nat × AV)) (st : List AV) (i : Nat) : Option (Nat × List (Nat × AV) × List AV) := match e_find lo i with
  | some a => if k a = true then some (len, lo, a :: st) else none
  | none => none
def e_sr (len : Nat) (k : AV → Bool) (nL : Nat) (lo : List (Nat × AV)) (st : List AV) (i : Nat) : Option (Nat × List (Nat × AV) × List AV) := match st with
  | a :: st' => if (k a && decide (i < nL)) = true then some (len, e_st1 lo i a, st') else none
  | [] => none
def e_sr2 (len : Nat) (nL : Nat) (lo : List (Nat × AV)) (st : List AV) (i : Nat) : Option (Nat × List (Nat × AV) × List AV) := match st with
  | a :: st' => if (e_isL a && decide (i + 1 < nL)) = true then some (len, e_st2 lo i a, st') else none
  | [] => none
def e_b2 (ins : Instr) (E : EV) (lo : List (Nat × AV)) (st : List AV) : Option (Nat × List (Nat × AV) × List AV) := match st with
  | y :: x :: st' => (match e_bin ins E x y with | some r => some (1, lo, r :: st') | none => none)
  | _ => none
def e_u1 (ins : Instr) (E : EV) (lo : List (Nat × AV)) (st : List AV) : Option (Nat × List (Nat × AV) × List AV) := match st with
  | x :: st' => (match e_un ins E x with | some r => some (1, lo, r :: st') | none => none)
  | _ => none
def e_simple (nL : Nat) (E : EV) (ins : Instr) (lo : List (Nat × AV)) (st : List AV) : Option (Nat × List (Nat × AV) × List AV) := match ins with
  | .iconst n => if e_rng8 n = true then some (1, lo, aI n :: st) else none
  | .bipush n => if e_rng8 n = true then some (2, lo, aI n :: st) else none
  | .sipush n => if e_rng16 n = true then some (3, lo, aI n :: st) else none
  | .lconst k => some (1, lo, aL (k.val : Int) (k.val : Int) :: st)
  | .aconst_null => some (1, lo, aN :: st)
  | .iload_n k => e_ld 1 e_isI lo st k.val
  | .iload i => e_ld 2 e_isI lo st i
  | .lload_n k => e_ld 1 e_isL lo st k.val
  | .lload i => e_ld 2 e_isL lo st i
  | .aload_n k => e_ld 1 e_isR lo st k.val
  | .aload i => e_ld 2 e_isR lo st i
  | .istore_n k => e_sr 1 e_isI nL lo st k.val
  | .istore i => e_sr 2 e_isI nL lo st i
  | .astore_n k => e_sr 1 e_isR nL lo st k.val
  | .astore i => e_sr 2 e_isR nL lo st i
  | .lstore_n k => e_sr2 1 nL lo st k.val
  | .lstore i => e_sr2 2 nL lo st i
  | .iinc i n => (match e_find lo i with
    | some a => (match e_add E a (aI n) with | some r => if (e_rng16 n && decide (i < nL)) = true then some (3, e_st1 lo i r, st) else none | none => none)
    | none => none)
  | .iadd => e_b2 .iadd E lo st
  | .isub => e_b2 .isub E lo st
  | .imul => e_b2 .imul E lo st
  | .iand => e_b2 .iand E lo st
  | .ior => e_b2 .ior E lo st
  | .ixor => e_b2 .ixor E lo st
  | .ishl => e_b2 .ishl E lo st
  | .ishr => e_b2 .ishr E lo st
  | .iushr => e_b2 .iushr E lo st
  | .irem => e_b2 .irem E lo st
  | .idiv => e_b2 .idiv E lo st
  | .ineg => e_u1 .ineg E lo st
  | .i2b => e_u1 .i2b E lo st
  | .i2l => e_u1 .i2l E lo st
  | .lcmp => (match st with | y :: x :: st' => if (e_isL x && e_isL y) = true then some (1, lo, (match x, y with | .inr (.inr (.inl (lx, hx))), .inr (.inr (.inl (ly, hy))) => if (decide (lx = hx) && (decide (ly = hy) && decide (lx = ly))) = true then aI 0 else .inl (-1, 1) | _, _ => .inl (-1, 1)) :: st') else none | _ => none)
  | .dup => (match st with | a :: st' => if e_isL a = false then some (1, lo, a :: a :: st') else none | _ => none)
  | .dup_x1 => (match st with | a :: c :: st' => if (e_isL a || e_isL c) = false then some (1, lo, a :: c :: a :: st') else none | _ => none)
  | .dup2 => (match st with | a :: c :: st' => if (e_isL a || e_isL c) = false then some (1, lo, a :: c :: a :: c :: st') else none | _ => none)
  | .pop => (match st with | a :: st' => if e_isL a = false then some (1, lo, st') else none | _ => none)
  | _ => none
section SIMPLE
variable {ν : Nat → Int} {al : List Nat} {b : Nat} {E : EV}
variable {p : Program} {l : Launch} {e : Env} {R : Room} {s : State} {m : MethodId} {args : Array Value} {below : List Frame} {meth : Method} {c : Code} {H : Heap} {locs : List Loc} {cells slots : Nat} {Q : State → Prop}
variable {cc : ByteArray} {pc nL : Nat} {ls : Array Slot}
theorem e_bin_ok {ins : Instr} {x y r : AV} {vx vy : Value} {rest : List Value} (hx9 : p.tables.exec = Jvm.exec) (hb : c.code = cc) (hd : decode cc pc = .ok (ins, 1)) (hE : genv ν E) (hx : gv ν al b x vx) (hy : gv ν al b y vy) (h : e_bin ins E x y = some r)
    (kk : ∀ v, gv ν al b r v → W p l e R s m args below meth c H locs cells slots Q (F0 m (pc + 1) ls (v :: rest))) : W p l e R s m args below meth c H locs cells slots Q (F0 m pc ls (vy :: vx :: rest)) := by
  have ix : ∀ {r}, e_add E x y = some r ∨ e_sub E x y = some r ∨ e_mul E x y = some r ∨ e_and E x y = some r ∨ e_or E x y = some r ∨ e_xor E x y = some r ∨ e_shl E x y = some r ∨ e_shr E x y = some r ∨ e_top2 E x y = some r ∨ e_rem E x y = some r ∨ e_div E x y = some r → ∃ i j : Int32, vx = .int i ∧ vy = .int j := by
    intro r h
    have : ∃ q1 q2, e_iv E x = some q1 ∧ e_iv E y = some q2 := by
      unfold e_add e_sub e_mul e_and e_or e_xor e_shl e_shr e_top2 e_rem e_div at h
      rcases h1 : e_iv E x with _ | q1
      · simp [h1] at h
      · rcases h2 : e_iv E y with _ | q2
        · simp [h1, h2] at h
        · exact ⟨q1, q2, rfl, rfl⟩
    obtain ⟨⟨q1, q1'⟩, ⟨q2, q2'⟩, e1, e2⟩ := this
    obtain ⟨i, ei, -⟩ := gv_int hE hx e1
    obtain ⟨j, ej, -⟩ := gv_int hE hy e2
    exact ⟨i, j, ei, ej⟩
  unfold e_bin at h
  split at h
  · obtain ⟨i, j, rfl, rfl⟩ := ix (Or.inl h)
    exact lv_iadd hx9 hb hd (kk _ (e_add_ok hE hx hy h))
  · obtain ⟨i, j, rfl, rfl⟩ := ix (Or.inr (Or.inl h))
    exact lv_isub hx9 hb hd (kk _ (e_sub_ok hE hx hy h))
  · obtain ⟨i, j, rfl, rfl⟩ := ix (Or.inr (Or.inr (Or.inl h)))
    exact lv_imul hx9 hb hd (kk _ (e_mul_ok hE hx hy h))
  · obtain ⟨i, j, rfl, rfl⟩ := ix (Or.inr (Or.inr (Or.inr (Or.inl h))))
    exact lv_iand hx9 hb hd (kk _ (e_and_ok hE hx hy h))
  · obtain ⟨i, j, rfl, rfl⟩ := ix (Or.inr (Or.inr (Or.inr (Or.inr (Or.inl h)))))
    exact lv_ior hx9 hb hd (kk _ (e_or_ok hE hx hy h))
  · obtain ⟨i, j, rfl, rfl⟩ := ix (Or.inr (Or.inr (Or.inr (Or.inr (Or.inr (Or.inl h))))))
    exact lv_ixor hx9 hb hd (kk _ (e_xor_ok hE hx hy h))
  · obtain ⟨i, j, rfl, rfl⟩ := ix (Or.inr (Or.inr (Or.inr (Or.inr (Or.inr (Or.inr (Or.inl h)))))))
    exact lv_ishl hx9 hb hd (kk _ (e_shl_ok hE hx hy h))
  · obtain ⟨i, j, rfl, rfl⟩ := ix (Or.inr (Or.inr (Or.inr (Or.inr (Or.inr (Or.inr (Or.inr (Or.inl h))))))))
    exact lv_ishr hx9 hb hd (kk _ (e_shr_ok hE hx hy h))
  · obtain ⟨i, j, rfl, rfl⟩ := ix (Or.inr (Or.inr (Or.inr (Or.inr (Or.inr (Or.inr (Or.inr (Or.inr (Or.inl h)))))))))
    exact lv_iushr hx9 hb hd rfl (kk _ (e_top2_ok h))
  · obtain ⟨i, j, rfl, rfl⟩ := ix (Or.inr (Or.inr (Or.inr (Or.inr (Or.inr (Or.inr (Or.inr (Or.inr (Or.inr (Or.inl h))))))))))
    exact lv_irem hx9 hb hd (e_rem_ok hE hx hy h).1 (kk _ (e_rem_ok hE hx hy h).2)
  · obtain ⟨i, j, rfl, rfl⟩ := ix (Or.inr (Or.inr (Or.inr (Or.inr (Or.inr (Or.inr (Or.inr (Or.inr (Or.inr (Or.inr h))))))))))
    exact lv_idiv hx9 hb hd (e_div_ok hE hx hy h).1 (kk _ (e_div_ok hE hx hy h).2)
  · cases h
theorem e_un_ok {ins : Instr} {x r : AV} {vx : Value} {rest : List Value} (hx9 : p.tables.exec = Jvm.exec) (hb : c.code = cc) (hd : decode cc pc = .ok (ins, 1)) (hE : genv ν E) (hx : gv ν al b x vx) (h : e_un ins E x = some r)
    (kk : ∀ v, gv ν al b r v → W p l e R s m args below meth c H locs cells slots Q (F0 m (pc + 1) ls (v :: rest))) : W p l e R s m args below meth c H locs cells slots Q (F0 m pc ls (vx :: rest)) := by
  unfold e_un at h
  split at h
  · split at h
    · rename_i la ha e1
      obtain ⟨i, rfl, h1, h2⟩ := gv_int hE hx e1
      cases h
      refine lv_ineg hx9 hb hd (kk _ (gv_mkw (z := -i.toInt) (fun h3 h4 => fb_negI (by omega)) (by omega) (by omega)))
    · cases h
  · split at h
    · rename_i la ha e1
      obtain ⟨i, rfl, h1, h2⟩ := gv_int hE hx e1
      split at h
      · rename_i q
        simp only [Bool.and_eq_true, decide_eq_true_eq] at q
        cases h
        exact lv_i2b hx9 hb hd (en_i8 (by omega) (by omega)) (kk _ hx)
      · cases h
        have w := fb_byte_rng i
        exact lv_i2b hx9 hb hd rfl (kk _ ⟨_, rfl, by omega, by omega⟩)
    · cases h
  · split at h
    · rename_i la ha e1
      obtain ⟨i, rfl, h1, h2⟩ := gv_int hE hx e1
      cases h
      exact lv_i2l hx9 hb hd rfl (kk _ ⟨_, rfl, by rw [en_wide]; exact h1, by rw [en_wide]; exact h2⟩)
    · cases h
  · cases h
end SIMPLE
end
section
section SIMPLE2
variable {ν : Nat → Int} {al : List Nat} {b : Nat} {E : EV}
variable {p : Program} {l : Launch} {e : Env} {R : Room} {s : State} {m : MethodId} {args : Array Value} {below : List Frame} {meth : Method} {c : Code} {H : Heap} {locs : List Loc} {cells slots : Nat} {Q : State → Prop}
variable {cc : ByteArray} {pc nL : Nat} {ls : Array Slot}
theorem en_o32 {n : Int} (h1 : -2147483648 ≤ n) (h2 : n < 2147483648) : (Int32.ofInt n).toInt = n := fb_ofI h1 h2
theorem en_o8 {n : Int} (h1 : -128 ≤ n) (h2 : n ≤ 127) : (Int8.ofInt n).toInt32.toInt = n := by
  rw [Int8.toInt_toInt32, Int8.toInt_ofInt]
  unfold Int.bmod
  simp only [Int8.size] at *
  split <;> omega
theorem en_o16 {n : Int} (h1 : -32768 ≤ n) (h2 : n ≤ 32767) : (Int16.ofInt n).toInt32.toInt = n := by
  rw [Int16.toInt_toInt32, Int16.toInt_ofInt]
  unfold Int.bmod
  simp only [Int16.size] at *
  split <;> omega
theorem en_cmp (x y : Int64) : -1 ≤ (lg_cmp x y).toInt ∧ (lg_cmp x y).toInt ≤ 1 := by
  unfold lg_cmp
  split
  · decide
  · split <;> decide
theorem e_ld_I {len i : Nat} {lo lo' : List (Nat × AV)} {st st' : List AV} {n : Nat} {lv : List (Nat × Value)} (h : e_ld len e_isI lo st i = some (n, lo', st')) (hl : lv_has ls nL lv) (hg : glv ν al b lo lv) : n = len ∧ lo' = lo ∧ ∃ (a : AV) (x : Int32), st' = a :: st ∧ ls[i]? = some (.val (.int x)) ∧ gv ν al b a (.int x) := by
  unfold e_ld at h
  split at h
  · rename_i a ea
    split at h
    · rename_i q
      cases h
      obtain ⟨k, v, e1, g1⟩ := e_find_ok hg ea
      obtain ⟨x, rfl⟩ := gv_isI g1 q
      exact ⟨rfl, rfl, a, x, rfl, lv_at hl k e1, g1⟩
    · cases h
  · cases h
theorem e_ld_L {len i : Nat} {lo lo' : List (Nat × AV)} {st st' : List AV} {n : Nat} {lv : List (Nat × Value)} (h : e_ld len e_isL lo st i = some (n, lo', st')) (hl : lv_has ls nL lv) (hg : glv ν al b lo lv) : n = len ∧ lo' = lo ∧ ∃ (a : AV) (x : Int64), st' = a :: st ∧ ls[i]? = some (.val (.long x)) ∧ gv ν al b a (.long x) := by
  unfold e_ld at h
  split at h
  · rename_i a ea
    split at h
    · rename_i q
      cases h
      obtain ⟨k, v, e1, g1⟩ := e_find_ok hg ea
      obtain ⟨x, rfl⟩ := gv_isL g1 q
      exact ⟨rfl, rfl, a, x, rfl, lv_at hl k e1, g1⟩
    · cases h
  · cases h
theorem e_ld_R {len i : Nat} {lo lo' : List (Nat × AV)} {st st' : List AV} {n : Nat} {lv : List (Nat × Value)} (h : e_ld len e_isR lo st i = some (n, lo', st')) (hl : lv_has ls nL lv) (hg : glv ν al b lo lv) : n = len ∧ lo' = lo ∧ ∃ (a : AV) (v : Value), st' = a :: st ∧ ls[i]? = some (.val v) ∧ gv ν al b a v ∧ (v = .null ∨ ∃ q : Nat, v = .ref q) := by
  unfold e_ld at h
  split at h
  · rename_i a ea
    split at h
    · rename_i q
      cases h
      obtain ⟨k, v, e1, g1⟩ := e_find_ok hg ea
      exact ⟨rfl, rfl, a, v, rfl, lv_at hl k e1, g1, gv_isR g1 q⟩
    · cases h
  · cases h
theorem e_sr_ok {len i : Nat} {k : AV → Bool} {lo lo' : List (Nat × AV)} {st st' : List AV} {n : Nat} (h : e_sr len k nL lo st i = some (n, lo', st')) : n = len ∧ ∃ a, st = a :: st' ∧ k a = true ∧ i < nL ∧ lo' = e_st1 lo i a := by
  unfold e_sr at h
  split at h
  · split at h
    · rename_i a st0 q
      simp only [Bool.and_eq_true, decide_eq_true_eq] at q
      cases h
      exact ⟨rfl, a, rfl, q.1, q.2, rfl⟩
    · cases h
  · cases h
theorem e_sr2_ok {len i : Nat} {lo lo' : List (Nat × AV)} {st st' : List AV} {n : Nat} (h : e_sr2 len nL lo st i = some (n, lo', st')) : n = len ∧ ∃ a, st = a :: st' ∧ e_isL a = true ∧ i + 1 < nL ∧ lo' = e_st2 lo i a := by
  unfold e_sr2 at h
  split at h
  · split at h
    · rename_i a st0 q
      simp only [Bool.and_eq_true, decide_eq_true_eq] at q
      cases h
      exact ⟨rfl, a, rfl, q.1, q.2, rfl⟩
    · cases h
  · cases h
set_option maxHeartbeats 4000000 in
theorem e_simple_ok {ins : Instr} {len : Nat} {lo lo' : List (Nat × AV)} {st st' : List AV} {lv : List (Nat × Value)} {vs : List Value} (hx9 : p.tables.exec = Jvm.exec) (hb : c.code = cc)
    (h : e_simple nL E ins lo st = some (len, lo', st')) (hd : decode cc pc = .ok (ins, len)) (hl : lv_has ls nL lv) (hg : glv ν al b lo lv) (hs : gvs ν al b st vs) (hE : genv ν E)
    (kk : ∀ ls' lv' vs', lv_has ls' nL lv' → glv ν al b lo' lv' → gvs ν al b st' vs' → W p l e R s m args below meth c H locs cells slots Q (F0 m (pc + len) ls' vs')) : W p l e R s m args below meth c H locs cells slots Q (F0 m pc ls vs) := by
  have bin : ∀ {i : Instr}, e_b2 i E lo st = some (len, lo', st') → decode cc pc = .ok (i, len) → W p l e R s m args below meth c H locs cells slots Q (F0 m pc ls vs) := by
    intro i h hd
    unfold e_b2 at h
    split at h
    · split at h
      · rename_i y x st0 r hr
        cases h
        obtain ⟨vy, vs1, rfl, g1, hs⟩ := gvs_cons hs
        obtain ⟨vx, vs2, rfl, g2, hs⟩ := gvs_cons hs
        exact e_bin_ok hx9 hb hd hE g2 g1 hr (fun v hv => kk _ _ _ hl hg ⟨hv, hs⟩)
      · cases h
    · cases h
  have un : ∀ {i : Instr}, e_u1 i E lo st = some (len, lo', st') → decode cc pc = .ok (i, len) → W p l e R s m args below meth c H locs cells slots Q (F0 m pc ls vs) := by
    intro i h hd
    unfold e_u1 at h
    split at h
    · split at h
      · rename_i x st0 r hr
        cases h
        obtain ⟨vx, vs2, rfl, g2, hs⟩ := gvs_cons hs
        exact e_un_ok hx9 hb hd hE g2 hr (fun v hv => kk _ _ _ hl hg ⟨hv, hs⟩)
      · cases h
    · cases h
  unfold e_simple at h
  split at h
  · -- iconst
    split at h
    · rename_i n q
      simp only [e_rng8, Bool.and_eq_true, decide_eq_true_eq] at q
      cases h
      exact lv_iconst hx9 hb hd rfl (kk _ _ _ hl hg ⟨⟨_, rfl, by rw [en_o32 (by omega) (by omega)]; omega, by rw [en_o32 (by omega) (by omega)]; omega⟩, hs⟩)
    · cases h
  · split at h
    · rename_i n q
      simp only [e_rng8, Bool.and_eq_true, decide_eq_true_eq] at q
      cases h
      exact lv_bipush hx9 hb hd rfl (kk _ _ _ hl hg ⟨⟨_, rfl, by rw [en_o8 q.1 q.2]; omega, by rw [en_o8 q.1 q.2]; omega⟩, hs⟩)
    · cases h
  · split at h
    · rename_i n q
      simp only [e_rng16, Bool.and_eq_true, decide_eq_true_eq] at q
      cases h
      exact lv_sipush hx9 hb hd rfl (kk _ _ _ hl hg ⟨⟨_, rfl, by rw [en_o16 q.1 q.2]; omega, by rw [en_o16 q.1 q.2]; omega⟩, hs⟩)
    · cases h
  · rename_i k
    cases h
    have w : (Int64.ofNat k.val).toInt = (k.val : Int) := lN_toInt (by have := k.isLt; omega)
    exact lv_lconst hx9 hb hd rfl (kk _ _ _ hl hg ⟨⟨_, rfl, by rw [w]; omega, by rw [w]; omega⟩, hs⟩)
  · cases h
    exact lv_null hx9 hb hd (kk _ _ _ hl hg ⟨rfl, hs⟩)
  · obtain ⟨rfl, rfl, a, x, rfl, e1, g1⟩ := e_ld_I h hl hg
    exact lv_iload_n hx9 hb hd rfl e1 (kk _ _ _ hl hg ⟨g1, hs⟩)
  · obtain ⟨rfl, rfl, a, x, rfl, e1, g1⟩ := e_ld_I h hl hg
    exact lv_iload hx9 hb hd e1 (kk _ _ _ hl hg ⟨g1, hs⟩)
  · obtain ⟨rfl, rfl, a, x, rfl, e1, g1⟩ := e_ld_L h hl hg
    exact lv_lload_n hx9 hb hd rfl e1 (kk _ _ _ hl hg ⟨g1, hs⟩)
  · obtain ⟨rfl, rfl, a, x, rfl, e1, g1⟩ := e_ld_L h hl hg
    exact lv_lload hx9 hb hd e1 (kk _ _ _ hl hg ⟨g1, hs⟩)
  · obtain ⟨rfl, rfl, a, v, rfl, e1, g1, rfl | ⟨q, rfl⟩⟩ := e_ld_R h hl hg
    · exact lv_aload_nN hx9 hb hd rfl e1 (kk _ _ _ hl hg ⟨g1, hs⟩)
    · exact lv_aload_n hx9 hb hd rfl e1 (kk _ _ _ hl hg ⟨g1, hs⟩)
  · obtain ⟨rfl, rfl, a, v, rfl, e1, g1, rfl | ⟨q, rfl⟩⟩ := e_ld_R h hl hg
    · exact lv_aloadN hx9 hb hd e1 (kk _ _ _ hl hg ⟨g1, hs⟩)
    · exact lv_aload hx9 hb hd e1 (kk _ _ _ hl hg ⟨g1, hs⟩)
  · obtain ⟨rfl, a, rfl, hk, hi, rfl⟩ := e_sr_ok h
    obtain ⟨v, vs1, rfl, g1, hs1⟩ := gvs_cons hs
    obtain ⟨x, rfl⟩ := gv_isI g1 hk
    exact lv_istore_n hx9 hb hd rfl hl hi rfl (fun ls' hl' => kk _ _ _ hl' (glv_st1 hg g1) hs1)
  · obtain ⟨rfl, a, rfl, hk, hi, rfl⟩ := e_sr_ok h
    obtain ⟨v, vs1, rfl, g1, hs1⟩ := gvs_cons hs
    obtain ⟨x, rfl⟩ := gv_isI g1 hk
    exact lv_istore hx9 hb hd hl hi rfl (fun ls' hl' => kk _ _ _ hl' (glv_st1 hg g1) hs1)
  · obtain ⟨rfl, a, rfl, hk, hi, rfl⟩ := e_sr_ok h
    obtain ⟨v, vs1, rfl, g1, hs1⟩ := gvs_cons hs
    rcases gv_isR g1 hk with rfl | ⟨q, rfl⟩
    · exact lv_astore_nN hx9 hb hd rfl hl hi rfl (fun ls' hl' => kk _ _ _ hl' (glv_st1 hg g1) hs1)
    · exact lv_astore_n hx9 hb hd rfl hl hi rfl (fun ls' hl' => kk _ _ _ hl' (glv_st1 hg g1) hs1)
  · obtain ⟨rfl, a, rfl, hk, hi, rfl⟩ := e_sr_ok h
    obtain ⟨v, vs1, rfl, g1, hs1⟩ := gvs_cons hs
    rcases gv_isR g1 hk with rfl | ⟨q, rfl⟩
    · exact lv_astoreN hx9 hb hd hl hi rfl (fun ls' hl' => kk _ _ _ hl' (glv_st1 hg g1) hs1)
    · exact lv_astore hx9 hb hd hl hi rfl (fun ls' hl' => kk _ _ _ hl' (glv_st1 hg g1) hs1)
  · obtain ⟨rfl, a, rfl, hk, hi, rfl⟩ := e_sr2_ok h
    obtain ⟨v, vs1, rfl, g1, hs1⟩ := gvs_cons hs
    obtain ⟨x, rfl⟩ := gv_isL g1 hk
    exact lv_lstore_n hx9 hb hd rfl hl hi rfl (fun ls' hl' => kk _ _ _ hl' (glv_st2 hg g1) hs1)
  · obtain ⟨rfl, a, rfl, hk, hi, rfl⟩ := e_sr2_ok h
    obtain ⟨v, vs1, rfl, g1, hs1⟩ := gvs_cons hs
    obtain ⟨x, rfl⟩ := gv_isL g1 hk
    exact lv_lstore hx9 hb hd hl hi rfl (fun ls' hl' => kk _ _ _ hl' (glv_st2 hg g1) hs1)
  · rename_i i n
    split at h
    · rename_i a ea
      split at h
      · rename_i r hr
        split at h
        · rename_i q
          simp only [e_rng16, Bool.and_eq_true, decide_eq_true_eq] at q
          cases h
          obtain ⟨k, v, e1, g1⟩ := e_find_ok hg ea
          have hv : ∃ x : Int32, v = .int x := by
            have : ∃ q1, e_iv E a = some q1 := by
              unfold e_add at hr
              rcases h1 : e_iv E a with _ | q1
              · simp [h1] at hr
              · exact ⟨q1, rfl⟩
            obtain ⟨⟨q1, q1'⟩, e1⟩ := this
            obtain ⟨i, ei, -⟩ := gv_int hE g1 e1
            exact ⟨i, ei⟩
          obtain ⟨x, rfl⟩ := hv
          have gn : gv ν al b (aI n) (.int (Int32.ofInt n)) := ⟨_, rfl, by rw [en_o32 (by omega) (by omega)]; omega, by rw [en_o32 (by omega) (by omega)]; omega⟩
          exact lv_iinc hx9 hb hd hl e1 rfl q.2 rfl (fun ls' hl' => kk _ _ _ hl' (glv_st1 hg (e_add_ok hE g1 gn hr)) hs)
        · cases h
      · cases h
    · cases h
  · exact bin h hd
  · exact bin h hd
  · exact bin h hd
  · exact bin h hd
  · exact bin h hd
  · exact bin h hd
  · exact bin h hd
  · exact bin h hd
  · exact bin h hd
  · exact bin h hd
  · exact bin h hd
  · exact un h hd
  · exact un h hd
  · exact un h hd
  · -- lcmp
    split at h
    · split at h
      · rename_i y x st0 q
        simp only [Bool.and_eq_true] at q
        cases h
        obtain ⟨vy, vs1, rfl, g1, hs⟩ := gvs_cons hs
        obtain ⟨vx, vs2, rfl, g2, hs3⟩ := gvs_cons hs
        obtain ⟨i, rfl⟩ := gv_isL g2 q.1
        obtain ⟨j, rfl⟩ := gv_isL g1 q.2
        refine W.lcmp hx9 hb hd (kk _ _ _ hl hg ⟨?_, hs3⟩)
        have w := en_cmp i j
        split
        · rename_i lx hx ly hy
          split
          · rename_i q2
            simp only [Bool.and_eq_true, decide_eq_true_eq] at q2
            obtain ⟨i', ei, i1, i2⟩ := g2
            obtain ⟨j', ej, j1, j2⟩ := g1
            cases ei
            cases ej
            have : i = j := (fa_eq64 _ _).mpr (by omega)
            subst this
            have : lg_cmp i i = 0 := by unfold lg_cmp; simp
            exact ⟨_, rfl, by rw [this]; decide, by rw [this]; decide⟩
          · exact ⟨_, rfl, w.1, w.2⟩
        · exact ⟨_, rfl, w.1, w.2⟩
      · cases h
    · cases h
  · split at h
    · split at h
      · rename_i a st0 q
        cases h
        obtain ⟨v, vs1, rfl, g1, hs⟩ := gvs_cons hs
        exact lv_dup hx9 hb hd (gv_cat1 g1 q) (kk _ _ _ hl hg ⟨g1, g1, hs⟩)
      · cases h
    · cases h
  · split at h
    · split at h
      · rename_i a c0 st0 q
        simp only [Bool.or_eq_false_iff] at q
        cases h
        obtain ⟨v, vs1, rfl, g1, hs⟩ := gvs_cons hs
        obtain ⟨v2, vs2, rfl, g2, hs⟩ := gvs_cons hs
        exact lv_dup_x1 hx9 hb hd (gv_cat1 g1 q.1) (gv_cat1 g2 q.2) (kk _ _ _ hl hg ⟨g1, g2, g1, hs⟩)
      · cases h
    · cases h
  · split at h
    · split at h
      · rename_i a c0 st0 q
        simp only [Bool.or_eq_false_iff] at q
        cases h
        obtain ⟨v, vs1, rfl, g1, hs⟩ := gvs_cons hs
        obtain ⟨v2, vs2, rfl, g2, hs⟩ := gvs_cons hs
        exact lv_dup2_11 hx9 hb hd (gv_cat1 g1 q.1) (gv_cat1 g2 q.2) (kk _ _ _ hl hg ⟨g1, g2, g1, g2, hs⟩)
      · cases h
    · cases h
  · split at h
    · split at h
      · rename_i a st0 q
        cases h
        obtain ⟨v, vs1, rfl, g1, hs⟩ := gvs_cons hs
        exact lv_pop hx9 hb hd (gv_cat1 g1 q) (kk _ _ _ hl hg hs)
      · cases h
    · cases h
  · cases h
end SIMPLE2
end
section
/-! the world: cells by their places, behind a pool that stays as it is -/
abbrev alw (ws : va_W) : List Nat := ws.map (fun q => q.1)
def gC (ν : Nat → Int) (al : List Nat) (b : Nat) (cy : Nat → ClassId) (c : AC) (e : va_E) : Prop := match c with
  | .inl (t, n, d, x) =>
    (t ≤ 2 ∧ ∃ f : Nat → Int32, e = .inl (cy t, n, .inl f) ∧ ∀ j, j < n → gv ν al b (e_get d x j) (.int (f j))) ∨
    (t = 3 ∧ ∃ f : Nat → Int64, e = .inl (cy t, n, .inr (.inl f)) ∧ ∀ j, j < n → gv ν al b (e_get d x j) (.long (f j))) ∨
    (4 ≤ t ∧ ∃ f : Nat → Option Nat, e = .inl (cy t, n, .inr (.inr (.inr (.inr f)))) ∧ ∀ j, j < n → gv ν al b (e_get d x j) (va_rf (f j)))
  | .inr (ci, fs) => ∃ vs : List Value, e = .inr (ci, vs) ∧ gvs ν al b fs vs
def gW (ν : Nat → Int) (b : Nat) (cy : Nat → ClassId) (C : List AC) (ws : va_W) : Prop :=
  C.length = ws.length ∧ ∀ (i : Nat) (c : AC), C[i]? = some c → ∃ (q : Nat) (e : va_E), ws[i]? = some (q, e) ∧ gC ν (alw ws) b cy c e
/-- the types of arrays by their numbers -/
def e_aty (t : Nat) : FieldType := match t with
  | 0 => .int
  | 1 => .byte
  | 2 => .boolean
  | 3 => .long
  | 4 => .object "NounFast$Scene"
  | _ => .object "NounFast$Sentence"
/-- the class of what an array of references holds -/
def e_acls (t : Nat) : Nat := match t with
  | 4 => 6
  | _ => 7
def atys (cy : Nat → ClassId) : List (ClassId × FieldType) := [(cy 0, .int), (cy 1, .byte), (cy 2, .boolean), (cy 3, .long), (cy 4, .object "NounFast$Scene"), (cy 5, .object "NounFast$Sentence")]
theorem atys_at (cy : Nat → ClassId) : ∀ t, t < 6 → (atys cy)[t]? = some (cy t, e_aty t) := by
  intro t ht
  rcases (show t = 0 ∨ t = 1 ∨ t = 2 ∨ t = 3 ∨ t = 4 ∨ t = 5 by omega) with rfl | rfl | rfl | rfl | rfl | rfl <;> rfl
def Wd (D : va_G) (cy : Nat → ClassId) (A : Nat → Prop) (H0 : Heap) (pool : va_W) (ν : Nat → Int) (b : Nat) (C : List AC) (ws : va_W) (H : Heap) (locs : List Loc) : Prop :=
  gW ν b cy C ws ∧ va_P D vwCl (pool ++ ws) H ∧ va_D A (pool ++ ws) ∧ va_S A H0 H locs
section WORLD
variable {ν : Nat → Int} {al : List Nat} {b : Nat} {cy : Nat → ClassId} {C : List AC} {ws : va_W}
theorem gvs_len {as : List AV} {vs : List Value} (h : gvs ν al b as vs) : as.length = vs.length := by
  induction as generalizing vs with
  | nil => cases vs with
    | nil => rfl
    | cons => exact absurd h id
  | cons a as ih => cases vs with
    | nil => exact absurd h id
    | cons v vs => simp [ih h.2]
theorem gvs_get {as : List AV} {vs : List Value} {k : Nat} {a : AV} (h : gvs ν al b as vs) (hk : as[k]? = some a) : ∃ v, vs[k]? = some v ∧ gv ν al b a v := by
  induction as generalizing vs k with
  | nil => simp at hk
  | cons a0 as ih => cases vs with
    | nil => exact absurd h id
    | cons v vs =>
      cases k with
      | zero => simp at hk; subst hk; exact ⟨v, rfl, h.1⟩
      | succ k =>
        simp at hk
        obtain ⟨w, h1, h2⟩ := ih h.2 hk
        exact ⟨w, h1, h2⟩
theorem gvs_set {as : List AV} {vs : List Value} {k : Nat} {a : AV} {v : Value} (h : gvs ν al b as vs) (ha : gv ν al b a v) : gvs ν al b (as.set k a) (vs.set k v) := by
  induction as generalizing vs k with
  | nil => cases vs with
    | nil => exact h
    | cons => exact absurd h id
  | cons a0 as ih => cases vs with
    | nil => exact absurd h id
    | cons w vs =>
      cases k with
      | zero => exact ⟨ha, h.2⟩
      | succ k => exact ⟨h.1, ih h.2⟩
theorem gC_app {c : AC} {e : va_E} (m : List Nat) (h : gC ν al b cy c e) : gC ν (al ++ m) b cy c e := by
  rcases c with ⟨t, n, d, x⟩ | ⟨ci, fs⟩
  · rcases h with ⟨h0, f, h1, h2⟩ | ⟨h0, f, h1, h2⟩ | ⟨h0, f, h1, h2⟩
    · exact Or.inl ⟨h0, f, h1, fun j hj => gv_app m (h2 j hj)⟩
    · exact Or.inr (Or.inl ⟨h0, f, h1, fun j hj => gv_app m (h2 j hj)⟩)
    · exact Or.inr (Or.inr ⟨h0, f, h1, fun j hj => gv_app m (h2 j hj)⟩)
  · obtain ⟨vs, h1, h2⟩ := h
    exact ⟨vs, h1, gvs_app m h2⟩
theorem alw_at {i q : Nat} {e : va_E} (h : ws[i]? = some (q, e)) : (alw ws)[i]? = some q := by
  simp [alw, h]
theorem gW_at {i : Nat} {c : AC} (h : gW ν b cy C ws) (hi : C[i]? = some c) : ∃ (q : Nat) (e : va_E), ws[i]? = some (q, e) ∧ (alw ws)[i]? = some q ∧ gC ν (alw ws) b cy c e := by
  obtain ⟨q, e, h1, h2⟩ := h.2 i c hi
  exact ⟨q, e, h1, alw_at h1, h2⟩
theorem alw_set {i q : Nat} {e e1 : va_E} (h : ws[i]? = some (q, e)) : alw (ws.set i (q, e1)) = alw ws := by
  apply List.ext_getElem?
  intro k
  simp only [alw, List.getElem?_map, List.getElem?_set]
  by_cases hk : i = k
  · subst hk
    have hlt := (List.getElem?_eq_some_iff.mp h).1
    rw [if_pos rfl, if_pos hlt, h]
    rfl
  · rw [if_neg hk]
theorem gW_set {i q : Nat} {e e1 : va_E} {c : AC} (h : gW ν b cy C ws) (hi : ws[i]? = some (q, e)) (hc : gC ν (alw ws) b cy c e1) : gW ν b cy (C.set i c) (ws.set i (q, e1)) := by
  refine ⟨by simp [h.1], fun k c1 hk => ?_⟩
  rw [alw_set hi]
  rw [List.getElem?_set] at hk ⊢
  by_cases e9 : i = k
  · subst e9
    have hlt := (List.getElem?_eq_some_iff.mp hi).1
    rw [if_pos rfl, if_pos hlt]
    rw [if_pos rfl, if_pos (by rw [h.1]; exact hlt)] at hk
    cases hk
    exact ⟨q, e1, rfl, hc⟩
  · rw [if_neg e9] at hk ⊢
    exact h.2 k c1 hk
theorem gW_push {q : Nat} {e : va_E} {c : AC} (h : gW ν b cy C ws) (hc : gC ν (alw ws ++ [q]) b cy c e) : gW ν b cy (C ++ [c]) (ws ++ [(q, e)]) := by
  refine ⟨by simp [h.1], fun k c1 hk => ?_⟩
  have ea : alw (ws ++ [(q, e)]) = alw ws ++ [q] := by simp [alw]
  rw [ea]
  by_cases hlt : k < C.length
  · rw [List.getElem?_append_left hlt] at hk
    obtain ⟨q1, e1, h1, h2⟩ := h.2 k c1 hk
    exact ⟨q1, e1, by rw [List.getElem?_append_left (by rw [← h.1]; exact hlt)]; exact h1, gC_app _ h2⟩
  · have hk9 : k = C.length := by
      have := (List.getElem?_eq_some_iff.mp hk).1
      simp at this
      omega
    subst hk9
    rw [List.getElem?_append_right (Nat.le_refl _)] at hk
    simp at hk
    subst hk
    refine ⟨q, e, ?_, hc⟩
    rw [h.1, List.getElem?_append_right (Nat.le_refl _)]
    simp
theorem pw_at {pool ws : va_W} {i : Nat} {x : Nat × va_E} (h : ws[i]? = some x) : (pool ++ ws)[pool.length + i]? = some x := by
  rw [List.getElem?_append_right (by omega), Nat.add_sub_cancel_left]; exact h
theorem pw_set {pool ws : va_W} {i : Nat} {x : Nat × va_E} : (pool ++ ws).set (pool.length + i) x = pool ++ ws.set i x := by
  rw [List.set_append_right _ _ (by omega), Nat.add_sub_cancel_left]
theorem gv_ref {i q : Nat} {v : Value} (h : gv ν al b (aR i) v) (hq : al[i]? = some q) : v = .ref q := by
  obtain ⟨q', h1, rfl⟩ := h
  rw [hq] at h1
  cases h1
  rfl
/-- a number that is known, as a place in a row -/
theorem en_in {x : Int32} {k n : Nat} (h : x.toInt = (k : Int)) (hk : k < n) (hn : n < 2147483648) : vp_in x n ∧ x.toNatClampNeg = k := by
  have e : x = nI k := (fa_eq _ _).mpr (by rw [nI_toInt (by omega)]; exact h)
  subst e
  exact ⟨vp_in_nI hk (by omega), nI_clamp (by omega)⟩
end WORLD
end
section
/-! facts of the classes -/
def BIG : List Cond := lw_tbl.filter goodWord
theorem big_good : ∀ w ∈ BIG, goodWord w = true := fun w h => (List.mem_filter.mp h).2
theorem big_in : ∀ w ∈ BIG, w ∈ lw_tbl := fun w h => (List.mem_filter.mp h).1
theorem inB0 : ∀ w ∈ u_ws RX0 TX0 6, w ∈ BIG := fun w h => List.mem_filter.mpr ⟨inX0 w h, (show ∀ w ∈ u_ws RX0 TX0 6, goodWord w = true by decide +kernel) w h⟩
theorem inB1 : ∀ w ∈ u_ws RX1 TX1 9, w ∈ BIG := fun w h => List.mem_filter.mpr ⟨inX1 w h, (show ∀ w ∈ u_ws RX1 TX1 9, goodWord w = true by decide +kernel) w h⟩
theorem inB2 : ∀ w ∈ u_ws RX2 TX2 3, w ∈ BIG := fun w h => List.mem_filter.mpr ⟨inX2 w h, (show ∀ w ∈ u_ws RX2 TX2 3, goodWord w = true by decide +kernel) w h⟩
theorem inB3 : ∀ w ∈ u_ws RX3 TX3 1, w ∈ BIG := fun w h => List.mem_filter.mpr ⟨inX3 w h, (show ∀ w ∈ u_ws RX3 TX3 1, goodWord w = true by decide +kernel) w h⟩
theorem inB4 : ∀ w ∈ u_ws RX4 TX4 3, w ∈ BIG := fun w h => List.mem_filter.mpr ⟨inX4 w h, (show ∀ w ∈ u_ws RX4 TX4 3, goodWord w = true by decide +kernel) w h⟩
theorem inB6 : ∀ w ∈ u_ws RX6 TX6 2, w ∈ BIG := fun w h => List.mem_filter.mpr ⟨inX6 w h, (show ∀ w ∈ u_ws RX6 TX6 2, goodWord w = true by decide +kernel) w h⟩
theorem inB7 : ∀ w ∈ u_ws RX7 TX7 10, w ∈ BIG := fun w h => List.mem_filter.mpr ⟨inX7 w h, (show ∀ w ∈ u_ws RX7 TX7 10, goodWord w = true by decide +kernel) w h⟩
theorem inB8 : ∀ w ∈ u_ws RX8 TX8 6, w ∈ BIG := fun w h => List.mem_filter.mpr ⟨inX8 w h, (show ∀ w ∈ u_ws RX8 TX8 6, goodWord w = true by decide +kernel) w h⟩
theorem inB9 : ∀ w ∈ u_ws RX9 TX9 2, w ∈ BIG := fun w h => List.mem_filter.mpr ⟨inX9 w h, (show ∀ w ∈ u_ws RX9 TX9 2, goodWord w = true by decide +kernel) w h⟩
theorem inB10 : ∀ w ∈ u_ws RX10 TX10 11, w ∈ BIG := fun w h => List.mem_filter.mpr ⟨inX10 w h, (show ∀ w ∈ u_ws RX10 TX10 11, goodWord w = true by decide +kernel) w h⟩
theorem inB11 : ∀ w ∈ u_ws RX11 TX11 18, w ∈ BIG := fun w h => List.mem_filter.mpr ⟨inX11 w h, (show ∀ w ∈ u_ws RX11 TX11 18, goodWord w = true by decide +kernel) w h⟩
theorem inB12 : ∀ w ∈ u_ws RX12 TX12 53, w ∈ BIG := fun w h => List.mem_filter.mpr ⟨inX12 w h, (show ∀ w ∈ u_ws RX12 TX12 53, goodWord w = true by decide +kernel) w h⟩
def clTy (ci : Nat) : Nat → FieldType := match ci with
  | 0 => tyX0
  | 1 => tyX1
  | 2 => tyX2
  | 3 => tyX3
  | 4 => tyX4
  | 5 => tyX6
  | 6 => tyX7
  | 7 => tyX8
  | 8 => tyX9
  | 9 => tyX10
  | 10 => tyX11
  | _ => tyX12
def cl_good (ci : Nat) (q : vw_C) : Prop := (∀ k, k < q.2.2 → parseFieldDescriptor (q.2.1 k).2.2.1 = some (clTy ci k)) ∧ (∀ a, a < q.2.2 → ∀ b, b < q.2.2 → a ≠ b → (q.2.1 a).2.1 ≠ (q.2.1 b).2.1) ∧ ∀ w ∈ u_ws q.1 q.2.1 q.2.2, w ∈ BIG
theorem cl_ok : ∀ (ci : Nat) (q : vw_C), vwCl[ci]? = some q → cl_good ci q := by
  intro ci q h
  match ci, h with
  | 0, h => cases h; exact ⟨tyX0_ok, nmX0, inB0⟩
  | 1, h => cases h; exact ⟨tyX1_ok, nmX1, inB1⟩
  | 2, h => cases h; exact ⟨tyX2_ok, nmX2, inB2⟩
  | 3, h => cases h; exact ⟨tyX3_ok, nmX3, inB3⟩
  | 4, h => cases h; exact ⟨tyX4_ok, nmX4, inB4⟩
  | 5, h => cases h; exact ⟨tyX6_ok, nmX6, inB6⟩
  | 6, h => cases h; exact ⟨tyX7_ok, nmX7, inB7⟩
  | 7, h => cases h; exact ⟨tyX8_ok, nmX8, inB8⟩
  | 8, h => cases h; exact ⟨tyX9_ok, nmX9, inB9⟩
  | 9, h => cases h; exact ⟨tyX10_ok, nmX10, inB10⟩
  | 10, h => cases h; exact ⟨tyX11_ok, nmX11, inB11⟩
  | 11, h => cases h; exact ⟨tyX12_ok, nmX12, inB12⟩
  | n + 12, h => simp [vwCl] at h
end
section
section HEAP
variable {ν : Nat → Int} {b : Nat} {cy : Nat → ClassId} {C : List AC} {ws pool : va_W} {D : va_G} {A : Nat → Prop} {H0 : Heap}
variable {p : Program} {l : Launch} {e : Env} {R : Room} {s : State} {m : MethodId} {args : Array Value} {below : List Frame} {meth : Method} {c : Code} {H : Heap} {locs : List Loc} {cells slots : Nat} {Q : State → Prop}
variable {cc : ByteArray} {pc nL : Nat} {ls : Array Slot} {rest : List Value} {own : String}
theorem h_get {idx i q ci k : Nat} {fs : List AV} {r : vw_C} {a : AV} (hx9 : p.tables.exec = Jvm.exec) (hb : c.code = cc) (hts : ∀ w ∈ BIG, w.before args s = true) (hown : s.vm.findClass own = some m.cls) (hK : va_K D vwCl (atys cy) s) (hW : Wd D cy A H0 pool ν b C ws H locs)
    (hi : C[i]? = some (.inr (ci, fs))) (hq : (alw ws)[i]? = some q) (hc : vwCl[ci]? = some r) (hk : k < r.2.2) (ha : fs[k]? = some a) (hlink : (Cond.fieldLink own idx (r.2.1 k).1 (r.2.1 k).2.1 (r.2.1 k).2.2.1).before args s = true) (hd : decode cc pc = .ok (.getfield idx, 3))
    (kk : ∀ v, gv ν (alw ws) b a v → W p l e R s m args below meth c H locs cells slots Q (F0 m (pc + 3) ls (v :: rest))) : W p l e R s m args below meth c H locs cells slots Q (F0 m pc ls (.ref q :: rest)) := by
  obtain ⟨q', e', h1, h2, vs, rfl, h3⟩ := gW_at hW.1 hi
  rw [hq] at h2
  cases h2
  obtain ⟨v, hv, gvv⟩ := gvs_get h3 ha
  obtain ⟨r1, r2, r3⟩ := cl_ok ci r hc
  exact va_get (D := D) (ci := ci) (v := v) (C := r.1) (T := r.2.1) (N := r.2.2) hx9 hb hts r3 hown hK hW.2.1 (pool.length + i) (pw_at h1) hc k hk hlink (fun _ h9 => h9) hv hd (kk v gvv)
theorem h_getN {idx i q ci k : Nat} {host : String} {fs : List AV} {r : vw_C} {a : AV} (hx9 : p.tables.exec = Jvm.exec) (hb : c.code = cc) (hts : ∀ w ∈ BIG, w.before args s = true) (hown : s.vm.findClass own = some m.cls) (hK : va_K D vwCl (atys cy) s) (hW : Wd D cy A H0 pool ν b C ws H locs)
    (hi : C[i]? = some (.inr (ci, fs))) (hq : (alw ws)[i]? = some q) (hc : vwCl[ci]? = some r) (hk : k < r.2.2) (ha : fs[k]? = some a) (hlink : (Cond.fieldLinkNest own idx (r.2.1 k).1 (r.2.1 k).2.1 (r.2.1 k).2.2.1 host).before args s = true) (hd : decode cc pc = .ok (.getfield idx, 3))
    (kk : ∀ v, gv ν (alw ws) b a v → W p l e R s m args below meth c H locs cells slots Q (F0 m (pc + 3) ls (v :: rest))) : W p l e R s m args below meth c H locs cells slots Q (F0 m pc ls (.ref q :: rest)) := by
  obtain ⟨q', e', h1, h2, vs, rfl, h3⟩ := gW_at hW.1 hi
  rw [hq] at h2
  cases h2
  obtain ⟨v, hv, gvv⟩ := gvs_get h3 ha
  obtain ⟨r1, r2, r3⟩ := cl_ok ci r hc
  exact va_getN (D := D) (ci := ci) (v := v) (C := r.1) (T := r.2.1) (N := r.2.2) hx9 hb hts r3 hown hK hW.2.1 (pool.length + i) (pw_at h1) hc k hk hlink (fun _ h9 => h9) hv hd (kk v gvv)
/-- may a field of this type hold it -/
def e_fits (E : EV) (ty : FieldType) (a : AV) : Bool := match ty with
  | .int => (match e_iv E a with | some _ => true | none => false)
  | .boolean => (match e_iv E a with | some (lo, hi) => decide (0 ≤ lo) && decide (hi ≤ 1) | none => false)
  | .long => e_isL a
  | .object _ => e_isR a
  | .array _ => e_isR a
  | _ => false
theorem en_b01 {x : Int32} (h1 : 0 ≤ x.toInt) (h2 : x.toInt ≤ 1) : x = 0 ∨ x = 1 := by
  rcases (show x.toInt = 0 ∨ x.toInt = 1 by omega) with h | h
  · exact Or.inl ((fa_eq _ _).mpr h)
  · exact Or.inr ((fa_eq _ _).mpr h)
theorem e_fits_ok {E : EV} {al : List Nat} {ty : FieldType} {a : AV} {v : Value} (hE : genv ν E) (h : gv ν al b a v) (hf : e_fits E ty a = true) : narrow ty v = v ∧ fits ty v = true := by
  unfold e_fits at hf
  split at hf
  · split at hf
    · rename_i q hq
      obtain ⟨x, rfl, -⟩ := gv_int hE h hq
      exact ⟨rfl, rfl⟩
    · cases hf
  · split at hf
    · rename_i lo hi hq
      simp only [Bool.and_eq_true, decide_eq_true_eq] at hf
      obtain ⟨x, rfl, h1, h2⟩ := gv_int hE h hq
      rcases en_b01 (x := x) (by omega) (by omega) with rfl | rfl <;> exact ⟨by decide, by decide⟩
    · cases hf
  · obtain ⟨x, rfl⟩ := gv_isL h hf
    exact ⟨rfl, rfl⟩
  · rcases gv_isR h hf with rfl | ⟨q, rfl⟩ <;> exact ⟨rfl, rfl⟩
  · rcases gv_isR h hf with rfl | ⟨q, rfl⟩ <;> exact ⟨rfl, rfl⟩
  · cases hf
theorem h_put {E : EV} {idx i q ci k : Nat} {fs : List AV} {r : vw_C} {a : AV} {v : Value} (hx9 : p.tables.exec = Jvm.exec) (hb : c.code = cc) (hts : ∀ w ∈ BIG, w.before args s = true) (hown : s.vm.findClass own = some m.cls) (hK : va_K D vwCl (atys cy) s) (hW : Wd D cy A H0 pool ν b C ws H locs) (hE : genv ν E)
    (hi : C[i]? = some (.inr (ci, fs))) (hq : (alw ws)[i]? = some q) (hc : vwCl[ci]? = some r) (hk : k < r.2.2) (hl9 : k < fs.length) (ha : gv ν (alw ws) b a v) (hf : e_fits E (clTy ci k) a = true) (hfin : (r.2.1 k).2.2.2 = false ∨ (meth.name = "<init>" ∧ (r.2.1 k).2.2.2 = true ∧ (r.2.1 k).1 = own)) (hlink : (Cond.fieldLink own idx (r.2.1 k).1 (r.2.1 k).2.1 (r.2.1 k).2.2.1).before args s = true) (hd : decode cc pc = .ok (.putfield idx, 3))
    (kk : ∀ ws' H' locs', alw ws' = alw ws → Wd D cy A H0 pool ν b (C.set i (.inr (ci, fs.set k a))) ws' H' locs' → W p l e R s m args below meth c H' locs' cells slots Q (F0 m (pc + 3) ls rest)) : W p l e R s m args below meth c H locs cells slots Q (F0 m pc ls (v :: .ref q :: rest)) := by
  obtain ⟨q', e', h1, h2, vs, rfl, h3⟩ := gW_at hW.1 hi
  rw [hq] at h2
  cases h2
  obtain ⟨r1, r2, r3⟩ := cl_ok ci r hc
  obtain ⟨f1, f2⟩ := e_fits_ok hE ha hf
  have hlen : k < vs.length := by rw [← gvs_len h3]; exact hl9
  have cont : ∀ (H1 : Heap) (locs1 : List Loc), va_P D vwCl ((pool ++ ws).set (pool.length + i) (q, .inr (ci, vs.set k v))) H1 → va_D A ((pool ++ ws).set (pool.length + i) (q, .inr (ci, vs.set k v))) → va_S A H0 H1 locs1 → W p l e R s m args below meth c H1 locs1 cells slots Q (F0 m (pc + 3) ls rest) := by
    intro H1 locs1 g1 g2 g3
    rw [pw_set] at g1 g2
    exact kk _ H1 locs1 (alw_set h1) ⟨gW_set hW.1 h1 ⟨_, rfl, gvs_set h3 ha⟩, g1, g2, g3⟩
  rcases hfin with hfin | ⟨hi2, hfin, hdecl⟩
  · exact va_put (D := D) (ci := ci) (v := v) (ty := clTy ci k) (C := r.1) (T := r.2.1) (N := r.2.2) hx9 hb hts r3 (clTy ci) r1 r2 hown hK hW.2.1 hW.2.2.1 hW.2.2.2 (pool.length + i) (pw_at h1) hc k hk hlink (fun _ h9 => h9) hfin (r1 k hk) f1 f2 hlen hd cont
  · exact va_putF (D := D) (ci := ci) (v := v) (ty := clTy ci k) (C := r.1) (T := r.2.1) (N := r.2.2) hx9 hb hts r3 (clTy ci) r1 r2 hown hK hW.2.1 hW.2.2.1 hW.2.2.2 (pool.length + i) (pw_at h1) hc k hk hlink (fun _ h9 => h9) hfin hi2 hdecl (r1 k hk) f1 f2 hlen hd cont
/-- a place of a row of ints, bytes, booleans, longs or references is read -/
theorem h_ald {ins : Instr} {i q t n k : Nat} {d : AV} {x : List (Nat × AV)} {j : Int32} (hx9 : p.tables.exec = Jvm.exec) (hb : c.code = cc) (hK : va_K D vwCl (atys cy) s) (hW : Wd D cy A H0 pool ν b C ws H locs)
    (hi : C[i]? = some (.inl (t, n, d, x))) (hq : (alw ws)[i]? = some q) (ht : t < 6) (hj : j.toInt = (k : Int)) (hk : k < n) (hn : n < 2147483648)
    (hins : (ins = .iaload ∧ t = 0) ∨ (ins = .baload ∧ t = 1) ∨ (ins = .baload ∧ t = 2) ∨ (ins = .laload ∧ t = 3) ∨ (ins = .aaload ∧ 4 ≤ t)) (hd : decode cc pc = .ok (ins, 1))
    (kk : ∀ v, gv ν (alw ws) b (e_get d x k) v → W p l e R s m args below meth c H locs cells slots Q (F0 m (pc + 1) ls (v :: rest))) : W p l e R s m args below meth c H locs cells slots Q (F0 m pc ls (.int j :: .ref q :: rest)) := by
  obtain ⟨q', e', h1, h2, h3⟩ := gW_at hW.1 hi
  rw [hq] at h2
  cases h2
  obtain ⟨hin, hcl⟩ := en_in hj hk hn
  have hT := atys_at cy t ht
  rcases h3 with ⟨g0, f, rfl, g2⟩ | ⟨g0, f, rfl, g2⟩ | ⟨g0, f, rfl, g2⟩
  · have g3 := g2 k hk
    rcases hins with ⟨rfl, rfl⟩ | ⟨rfl, rfl⟩ | ⟨rfl, rfl⟩ | ⟨rfl, rfl⟩ | ⟨rfl, h4⟩
    · exact va_iald hx9 hb hK hW.2.1 (pool.length + i) 0 (pw_at h1) hT hin hd (kk _ (by rw [hcl]; exact g3))
    · exact va_bald hx9 hb hK hW.2.1 (pool.length + i) 1 (pw_at h1) hT hin hd (kk _ (by rw [hcl]; exact g3))
    · exact va_zald hx9 hb hK hW.2.1 (pool.length + i) 2 (pw_at h1) hT hin hd (kk _ (by rw [hcl]; exact g3))
    · omega
    · omega
  · have g3 := g2 k hk
    rcases hins with ⟨rfl, h4⟩ | ⟨rfl, h4⟩ | ⟨rfl, h4⟩ | ⟨rfl, h4⟩ | ⟨rfl, h4⟩
    · omega
    · omega
    · omega
    · subst h4
      exact va_lald hx9 hb hK hW.2.1 (pool.length + i) 3 (pw_at h1) hT hin hd (kk _ (by rw [hcl]; exact g3))
    · omega
  · have g3 := g2 k hk
    rcases hins with ⟨rfl, h4⟩ | ⟨rfl, h4⟩ | ⟨rfl, h4⟩ | ⟨rfl, h4⟩ | ⟨rfl, h4⟩
    · omega
    · omega
    · omega
    · omega
    · rcases (show t = 4 ∨ t = 5 by omega) with rfl | rfl
      · exact va_aldq hx9 hb hK hW.2.1 (pool.length + i) 4 (pw_at h1) hT hin hd (kk _ (by rw [hcl]; exact g3))
      · exact va_aldq hx9 hb hK hW.2.1 (pool.length + i) 5 (pw_at h1) hT hin hd (kk _ (by rw [hcl]; exact g3))
end HEAP
end
section
/-! stores into rows, lengths, what is made, rows copied -/
section HEAP2
variable {ν : Nat → Int} {b : Nat} {cy : Nat → ClassId} {C : List AC} {ws pool : va_W} {D : va_G} {A : Nat → Prop} {H0 : Heap}
variable {p : Program} {l : Launch} {e : Env} {R : Room} {s : State} {m : MethodId} {args : Array Value} {below : List Frame} {meth : Method} {c : Code} {H : Heap} {locs : List Loc} {cells slots : Nat} {Q : State → Prop}
variable {cc : ByteArray} {pc nL : Nat} {ls : Array Slot} {rest : List Value} {own : String}
def e_rfits (C : List AC) (t : Nat) (a : AV) : Bool := match a with
  | .inr (.inr (.inr (.inl none))) => true
  | .inr (.inr (.inr (.inl (some i)))) => (match C[i]? with | some (.inr (ci, _)) => Nat.beq ci (e_acls t) | _ => false)
  | _ => false
/-- may a row of this kind hold it -/
def e_afits (E : EV) (C : List AC) (t : Nat) (a : AV) : Bool := match t with
  | 0 => (match e_iv E a with | some _ => true | none => false)
  | 1 => (match e_iv E a with | some (lo, hi) => decide (-128 ≤ lo) && decide (hi ≤ 127) | none => false)
  | 2 => (match e_iv E a with | some (lo, hi) => decide (0 ≤ lo) && decide (hi ≤ 1) | none => false)
  | 3 => e_isL a
  | _ => e_rfits C t a
def e_aop (ins : Instr) (t : Nat) : Bool := match ins with
  | .iastore => Nat.beq t 0
  | .bastore => Nat.beq t 1 || Nat.beq t 2
  | .lastore => Nat.beq t 3
  | .aastore => Nat.ble 4 t
  | _ => false
theorem vwCl_acls : ∀ t, 4 ≤ t → t < 6 → ∃ r : vw_C, vwCl[e_acls t]? = some r ∧ e_aty t = .object r.1 := by
  intro t h1 h2
  rcases (show t = 4 ∨ t = 5 by omega) with rfl | rfl
  · exact ⟨(RX7, TX7, 10), rfl, rfl⟩
  · exact ⟨(RX8, TX8, 6), rfl, rfl⟩
theorem h_ast {E : EV} {ins : Instr} {i q t n k : Nat} {d a : AV} {x : List (Nat × AV)} {j : Int32} {v : Value} (hx9 : p.tables.exec = Jvm.exec) (hb : c.code = cc) (hK : va_K D vwCl (atys cy) s) (hW : Wd D cy A H0 pool ν b C ws H locs) (hE : genv ν E)
    (hi : C[i]? = some (.inl (t, n, d, x))) (hq : (alw ws)[i]? = some q) (ht : t < 6) (hj : j.toInt = (k : Int)) (hk : k < n) (hn : n < 2147483648) (ha : gv ν (alw ws) b a v)
    (hf : e_afits E C t a = true) (hins : e_aop ins t = true) (hd : decode cc pc = .ok (ins, 1))
    (kk : ∀ ws' H' locs', alw ws' = alw ws → Wd D cy A H0 pool ν b (C.set i (.inl (t, n, d, e_put d x k a))) ws' H' locs' → W p l e R s m args below meth c H' locs' cells slots Q (F0 m (pc + 1) ls rest)) : W p l e R s m args below meth c H locs cells slots Q (F0 m pc ls (v :: .int j :: .ref q :: rest)) := by
  obtain ⟨q', e', h1, h2, h3⟩ := gW_at hW.1 hi
  rw [hq] at h2
  cases h2
  obtain ⟨hin, hcl⟩ := en_in hj hk hn
  have hT := atys_at cy t ht
  have cont : ∀ {e1 : va_E}, gC ν (alw ws) b cy (.inl (t, n, d, e_put d x k a)) e1 → ∀ (H1 : Heap) (locs1 : List Loc), va_P D vwCl ((pool ++ ws).set (pool.length + i) (q, e1)) H1 → va_D A ((pool ++ ws).set (pool.length + i) (q, e1)) → va_S A H0 H1 locs1 → W p l e R s m args below meth c H1 locs1 cells slots Q (F0 m (pc + 1) ls rest) := by
    intro e1 hC H1 locs1 g1 g2 g3
    rw [pw_set] at g1 g2
    exact kk _ H1 locs1 (alw_set h1) ⟨gW_set hW.1 h1 hC, g1, g2, g3⟩
  rcases h3 with ⟨g0, f, rfl, g2⟩ | ⟨g0, f, rfl, g2⟩ | ⟨g0, f, rfl, g2⟩
  · have hu : ∀ y : Int32, v = .int y → gC ν (alw ws) b cy (.inl (t, n, d, e_put d x k a)) (.inl (cy t, n, .inl (upd f k y))) := by
      intro y hy
      refine Or.inl ⟨g0, _, rfl, fun j hj => ?_⟩
      rw [e_get_put]
      by_cases e9 : j = k
      · rw [if_pos e9, e9, pk_us, ← hy]; exact ha
      · rw [if_neg e9, pk_un e9]; exact g2 j hj
    rcases (show t = 0 ∨ t = 1 ∨ t = 2 by omega) with rfl | rfl | rfl
    · simp only [e_afits] at hf
      split at hf
      · rename_i qq hq9
        obtain ⟨y, rfl, -⟩ := gv_int hE ha hq9
        cases ins <;> simp [e_aop] at hins
        exact va_iast hx9 hb hK hW.2.1 hW.2.2.1 hW.2.2.2 (pool.length + i) 0 (pw_at h1) hT hin hd (cont (by rw [hcl]; exact hu y rfl))
      · cases hf
    · simp only [e_afits] at hf
      split at hf
      · rename_i lo hi9 hq9
        simp only [Bool.and_eq_true, decide_eq_true_eq] at hf
        obtain ⟨y, rfl, y1, y2⟩ := gv_int hE ha hq9
        have e8 : vp_nar .byte y = y := (vp_nar_byte y).trans (en_i8 (by omega) (by omega))
        cases ins <;> simp [e_aop] at hins
        exact va_bast hx9 hb hK hW.2.1 hW.2.2.1 hW.2.2.2 (pool.length + i) 1 (pw_at h1) hT hin hd (cont (by rw [hcl, e8]; exact hu y rfl))
      · cases hf
    · simp only [e_afits] at hf
      split at hf
      · rename_i lo hi9 hq9
        simp only [Bool.and_eq_true, decide_eq_true_eq] at hf
        obtain ⟨y, rfl, y1, y2⟩ := gv_int hE ha hq9
        have e8 : vp_nar .boolean y = y := by
          rcases en_b01 (x := y) (by omega) (by omega) with rfl | rfl <;> decide
        cases ins <;> simp [e_aop] at hins
        exact va_zast hx9 hb hK hW.2.1 hW.2.2.1 hW.2.2.2 (pool.length + i) 2 (pw_at h1) hT hin hd (cont (by rw [hcl, e8]; exact hu y rfl))
      · cases hf
  · subst g0
    simp only [e_afits] at hf
    obtain ⟨y, rfl⟩ := gv_isL ha hf
    cases ins <;> simp [e_aop] at hins
    refine va_last hx9 hb hK hW.2.1 hW.2.2.1 hW.2.2.2 (pool.length + i) 3 (pw_at h1) hT hin hd (cont ?_)
    rw [hcl]
    refine Or.inr (Or.inl ⟨rfl, _, rfl, fun j hj => ?_⟩)
    rw [e_get_put]
    by_cases e9 : j = k
    · rw [if_pos e9, e9, pk_uLs]; exact ha
    · rw [if_neg e9, pk_uLn e9]; exact g2 j hj
  · obtain ⟨r, hr1, hr2⟩ := vwCl_acls t g0 ht
    have hu : ∀ y : Option Nat, v = va_rf y → gC ν (alw ws) b cy (.inl (t, n, d, e_put d x k a)) (.inl (cy t, n, .inr (.inr (.inr (.inr (va_up f k y)))))) := by
      intro y hy
      refine Or.inr (Or.inr ⟨g0, _, rfl, fun j hj => ?_⟩)
      rw [e_get_put]
      unfold va_up
      by_cases e9 : j = k
      · rw [if_pos e9, if_pos e9, ← hy]; exact ha
      · rw [if_neg e9, if_neg e9]; exact g2 j hj
    rw [hr2] at hT
    have hins2 : ins = .aastore := by
      cases ins <;> simp [e_aop] at hins <;> first | rfl | omega
    subst hins2
    have hf2 : e_rfits C t a = true := by
      rcases (show t = 4 ∨ t = 5 by omega) with rfl | rfl <;> exact hf
    unfold e_rfits at hf2
    split at hf2
    · have hv : v = .null := ha
      subst hv
      exact va_astqN hx9 hb hK hW.2.1 hW.2.2.1 hW.2.2.2 (pool.length + i) t (pw_at h1) hT hin hd (cont (by rw [hcl]; exact hu none rfl))
    · rename_i i2
      split at hf2
      · rename_i ci fs hci
        have := Nat.eq_of_beq_eq_true hf2
        subst this
        obtain ⟨q2, e2, k1, k2, vs2, rfl, -⟩ := gW_at hW.1 hci
        have hv : v = .ref q2 := gv_ref ha k2
        subst hv
        exact va_astq hx9 hb hK hW.2.1 hW.2.2.1 hW.2.2.2 (pool.length + i) t (pool.length + i2) (e_acls t) (pw_at h1) hT (pw_at k1) hr1 hin hd (cont (by rw [hcl]; exact hu (some q2) rfl))
      · cases hf2
    · cases hf2
theorem h_alen {i q t n : Nat} {d : AV} {x : List (Nat × AV)} (hx9 : p.tables.exec = Jvm.exec) (hb : c.code = cc) (hK : va_K D vwCl (atys cy) s) (hW : Wd D cy A H0 pool ν b C ws H locs)
    (hi : C[i]? = some (.inl (t, n, d, x))) (hq : (alw ws)[i]? = some q) (ht : t < 6) (hn : n < 2147483648) (hd : decode cc pc = .ok (.arraylength, 1))
    (kk : ∀ v, gv ν (alw ws) b (aI (n : Int)) v → W p l e R s m args below meth c H locs cells slots Q (F0 m (pc + 1) ls (v :: rest))) : W p l e R s m args below meth c H locs cells slots Q (F0 m pc ls (.ref q :: rest)) := by
  obtain ⟨q', e', h1, h2, h3⟩ := gW_at hW.1 hi
  rw [hq] at h2
  cases h2
  have hT := atys_at cy t ht
  have g : gv ν (alw ws) b (aI (n : Int)) (.int (Int32.ofNat n)) := by
    have := nI_toInt (n := n) hn
    exact ⟨_, rfl, by rw [show Int32.ofNat n = nI n from rfl, this]; omega, by rw [show Int32.ofNat n = nI n from rfl, this]; omega⟩
  rcases h3 with ⟨g0, f, rfl, g2⟩ | ⟨g0, f, rfl, g2⟩ | ⟨g0, f, rfl, g2⟩
  · exact va_alen hx9 hb hK hW.2.1 (pool.length + i) t (pw_at h1) hT rfl hd (kk _ g)
  · exact va_alen hx9 hb hK hW.2.1 (pool.length + i) t (pw_at h1) hT rfl hd (kk _ g)
  · exact va_alen hx9 hb hK hW.2.1 (pool.length + i) t (pw_at h1) hT rfl hd (kk _ g)
end HEAP2
end
section
/-! what is made; rows copied -/
def e_dflt (ty : FieldType) : Option AV := match ty with
  | .int => some (aI 0)
  | .boolean => some (aI 0)
  | .long => some (aL 0 0)
  | .object _ => some aN
  | .array _ => some aN
  | _ => none
def e_dflts (ty : Nat → FieldType) (k n : Nat) : Option (List AV) := match n with
  | 0 => some []
  | n + 1 => (match e_dflt (ty k), e_dflts ty (k + 1) n with
    | some a, some r => some (a :: r)
    | _, _ => none)
def v_dflts (ty : Nat → FieldType) (k n : Nat) : List Value := match n with
  | 0 => []
  | n + 1 => defaultValue (ty k) :: v_dflts ty (k + 1) n
section HEAP3
variable {ν : Nat → Int} {b : Nat} {cy : Nat → ClassId} {C : List AC} {ws pool : va_W} {D : va_G} {A : Nat → Prop} {H0 : Heap}
variable {p : Program} {l : Launch} {e : Env} {R : Room} {s : State} {m : MethodId} {args : Array Value} {below : List Frame} {meth : Method} {c : Code} {H : Heap} {locs : List Loc} {cells slots : Nat} {Q : State → Prop}
variable {cc : ByteArray} {pc nL : Nat} {ls : Array Slot} {rest : List Value} {own : String}
theorem e_dflt_ok {al : List Nat} {ty : FieldType} {a : AV} (h : e_dflt ty = some a) : gv ν al b a (defaultValue ty) := by
  cases ty <;> simp [e_dflt] at h <;> subst h <;> first | exact ⟨0, rfl, by decide, by decide⟩ | rfl
theorem e_dflts_ok {al : List Nat} {ty : Nat → FieldType} : ∀ (n k : Nat) (fs : List AV), e_dflts ty k n = some fs → gvs ν al b fs (v_dflts ty k n) := by
  intro n
  induction n with
  | zero => intro k fs h; cases h; trivial
  | succ n ih =>
    intro k fs h
    simp only [e_dflts] at h
    split at h
    · rename_i a r h1 h2
      cases h
      exact ⟨e_dflt_ok h1, ih _ _ h2⟩
    · cases h
theorem v_dflts_at {ty : Nat → FieldType} : ∀ (n k j : Nat), j < n → vp_V (v_dflts ty k n) j = defaultValue (ty (k + j)) := by
  intro n
  induction n with
  | zero => intro k j h; omega
  | succ n ih =>
    intro k j h
    cases j with
    | zero => rfl
    | succ j =>
      have := ih (k + 1) j (by omega)
      rw [show k + (j + 1) = k + 1 + j by omega, ← this]
      rfl
theorem alw_push {q : Nat} {e1 : va_E} : alw (ws ++ [(q, e1)]) = alw ws ++ [q] := by simp [alw]
theorem gv_new {q : Nat} {e1 : va_E} (h : gW ν b cy C ws) : gv ν (alw (ws ++ [(q, e1)])) b (aR C.length) (.ref q) := by
  refine ⟨q, ?_, rfl⟩
  rw [alw_push, List.getElem?_append_right (by simp [h.1]), h.1]
  simp
theorem h_new {idx ci : Nat} {fs : List AV} {r : vw_C} (hx9 : p.tables.exec = Jvm.exec) (hb : c.code = cc) (hts : ∀ w ∈ BIG, w.before args s = true) (hown : s.vm.findClass own = some m.cls) (hK : va_K D vwCl (atys cy) s) (hW : Wd D cy A H0 pool ν b C ws H locs) (hA : ∀ q, H0.size ≤ q → A q)
    (hc : vwCl[ci]? = some r) (hfs : e_dflts (clTy ci) 0 r.2.2 = some fs) (hcl : (Cond.classLink own idx r.1).before args s = true) (hinst : (Cond.instantiable r.1 r.2.2).before args s = true) (hini : (Cond.initialized r.1).before args s = true) (hcells : cells + 1 ≤ R.cells) (hslots : slots + r.2.2 ≤ R.slots) (hd : decode cc pc = .ok (.new idx, 3))
    (kk : ∀ ws' q H', alw ws' = alw ws ++ [q] → gv ν (alw ws') b (aR C.length) (.ref q) → Wd D cy A H0 pool ν b (C ++ [.inr (ci, fs)]) ws' H' locs → W p l e R s m args below meth c H' locs (cells + 1) (slots + r.2.2) Q (F0 m (pc + 3) ls (.ref q :: rest))) : W p l e R s m args below meth c H locs cells slots Q (F0 m pc ls rest) := by
  obtain ⟨r1, r2, r3⟩ := cl_ok ci r hc
  refine va_new (ci := ci) (fs := v_dflts (clTy ci) 0 r.2.2) (C := r.1) (T := r.2.1) (N := r.2.2) hx9 hb hts r3 (clTy ci) r1 hown hcl hinst hini hK hW.2.1 hW.2.2.1 hW.2.2.2 hA hc (fun j hj => ?_) hcells hslots hd (fun q H1 g1 g2 g3 => ?_)
  · rw [v_dflts_at _ _ _ hj, Nat.zero_add]
  · rw [List.append_assoc] at g1 g2
    exact kk _ q H1 alw_push (gv_new hW.1) ⟨gW_push hW.1 ⟨_, rfl, e_dflts_ok _ _ _ hfs⟩, g1, g2, g3⟩
def e_atype (t : ArrayType) : Option Nat := match t with
  | .int => some 0
  | .byte => some 1
  | .boolean => some 2
  | .long => some 3
  | _ => none
theorem en_len {n : Int32} {k : Nat} (h : n.toInt = (k : Int)) (hk : k < 2147483648) : ¬ n < 0 ∧ n.toNatClampNeg = k := by
  have e : n = nI k := (fa_eq _ _).mpr (by rw [nI_toInt (by omega)]; exact h)
  subst e
  exact ⟨nI_pos (by omega), nI_clamp (by omega)⟩
theorem h_newa {at9 : ArrayType} {t k : Nat} {n : Int32} (hx9 : p.tables.exec = Jvm.exec) (hb : c.code = cc) (harr : (Cond.arrayClass (newarray.typeOf at9)).before args s = true) (hK : va_K D vwCl (atys cy) s) (hW : Wd D cy A H0 pool ν b C ws H locs) (hA : ∀ q, H0.size ≤ q → A q)
    (ht : e_atype at9 = some t) (hn : n.toInt = (k : Int)) (hk : k < 65536) (hcells : cells + 1 ≤ R.cells) (hslots : slots + k ≤ R.slots) (hd : decode cc pc = .ok (.newarray at9, 2))
    (kk : ∀ ws' q H', alw ws' = alw ws ++ [q] → gv ν (alw ws') b (aR C.length) (.ref q) → Wd D cy A H0 pool ν b (C ++ [.inl (t, k, (if t = 3 then aL 0 0 else aI 0), [])]) ws' H' locs → W p l e R s m args below meth c H' locs (cells + 1) (slots + k) Q (F0 m (pc + 2) ls (.ref q :: rest))) : W p l e R s m args below meth c H locs cells slots Q (F0 m pc ls (.int n :: rest)) := by
  obtain ⟨n0, n1⟩ := en_len hn (by omega)
  have key : ∀ {a0 : vp_A} (hty : newarray.typeOf at9 = e_aty t) (ha : ∀ cA : ClassId, vp_cell cA a0 = arrV cA k (fun _ => defaultValue (e_aty t))) (hb8 : k * componentBytes (e_aty t) ≤ 536870912) (hRA : ∀ cA : ClassId, va_RA s cA (e_aty t) → cA = cy t) (hg : gC ν ([] : List Nat) b cy (.inl (t, k, (if t = 3 then aL 0 0 else aI 0), [])) (.inl (cy t, a0))), W p l e R s m args below meth c H locs cells slots Q (F0 m pc ls (.int n :: rest)) := by
    intro a0 hty ha hb8 hRA hg
    refine va_newa (a0 := a0) (N' := k) hx9 hb harr hty hK hW.2.1 hW.2.2.1 hW.2.2.2 hA ha n0 n1 hb8 hcells hslots hd (fun q cA H1 gK g1 g2 g3 => ?_)
    have e9 : cA = cy t := hRA cA (gK.2 6 _ rfl).2
    subst e9
    rw [List.append_assoc] at g1 g2
    refine kk _ q H1 alw_push (gv_new hW.1) ⟨gW_push hW.1 ?_, g1, g2, g3⟩
    have := gC_app (alw ws ++ [q]) hg
    exact this
  have inj : ∀ {ty : FieldType} {i : Nat}, (atys cy)[i]? = some (cy i, ty) → (∀ cA : ClassId, va_RA s cA ty → s.vm.findClass ("[" ++ ty.toString) = some cA) → ∀ cA : ClassId, va_RA s cA ty → cA = cy i := by
    intro ty i h1 h2 cA h3
    have a1 := h2 _ h3
    have a2 := h2 _ (hK.2 i _ h1).2
    rw [a1] at a2
    exact Option.some.inj a2
  cases at9 <;> simp [e_atype] at ht <;> subst ht
  · exact key (a0 := (k, .inl (fun _ => 0))) rfl (fun _ => rfl) (by show k * 1 ≤ _; omega) (inj (i := 2) rfl (fun _ h => h)) (Or.inl ⟨by omega, _, rfl, fun j _ => ⟨0, rfl, by decide, by decide⟩⟩)
  · exact key (a0 := (k, .inl (fun _ => 0))) rfl (fun _ => rfl) (by show k * 1 ≤ _; omega) (inj (i := 1) rfl (fun _ h => h)) (Or.inl ⟨by omega, _, rfl, fun j _ => ⟨0, rfl, by decide, by decide⟩⟩)
  · exact key (a0 := (k, .inl (fun _ => 0))) rfl (fun _ => rfl) (by show k * 4 ≤ _; omega) (inj (i := 0) rfl (fun _ h => h)) (Or.inl ⟨by omega, _, rfl, fun j _ => ⟨0, rfl, by decide, by decide⟩⟩)
  · exact key (a0 := (k, .inr (.inl (fun _ => 0)))) rfl (fun _ => rfl) (by show k * 8 ≤ _; omega) (inj (i := 3) rfl (fun _ h => h)) (Or.inr (Or.inl ⟨rfl, _, rfl, fun j _ => ⟨0, rfl, by decide, by decide⟩⟩))
theorem h_newq {idx t k : Nat} {n : Int32} {r : vw_C} (hx9 : p.tables.exec = Jvm.exec) (hb : c.code = cc) (hown : s.vm.findClass own = some m.cls) (hK : va_K D vwCl (atys cy) s) (hW : Wd D cy A H0 pool ν b C ws H locs) (hA : ∀ q, H0.size ≤ q → A q)
    (ht : 4 ≤ t) (ht6 : t < 6) (hr : vwCl[e_acls t]? = some r) (hcl : (Cond.classLink own idx r.1).before args s = true) (hover : va_AO r.1 s) (hn : n.toInt = (k : Int)) (hk : k < 65536) (hcells : cells + 1 ≤ R.cells) (hslots : slots + k ≤ R.slots) (hd : decode cc pc = .ok (.anewarray idx, 3))
    (kk : ∀ ws' q H', alw ws' = alw ws ++ [q] → gv ν (alw ws') b (aR C.length) (.ref q) → Wd D cy A H0 pool ν b (C ++ [.inl (t, k, aN, [])]) ws' H' locs → W p l e R s m args below meth c H' locs (cells + 1) (slots + k) Q (F0 m (pc + 3) ls (.ref q :: rest))) : W p l e R s m args below meth c H locs cells slots Q (F0 m pc ls (.int n :: rest)) := by
  obtain ⟨n0, n1⟩ := en_len hn (by omega)
  obtain ⟨r', hr1, hr2⟩ := vwCl_acls t ht ht6
  rw [hr] at hr1
  cases hr1
  have hT := atys_at cy t ht6
  rw [hr2] at hT
  refine va_newq (C := r.1) (N' := k) hx9 hb hown hcl hover hK hW.2.1 hW.2.2.1 hW.2.2.2 hA n0 n1 (by omega) hcells hslots hd (fun q cA H1 gK g1 g2 g3 => ?_)
  have e9 : cA = cy t := by
    obtain ⟨k1, c1, -, -, -, f1⟩ := (gK.2 6 _ rfl).2
    obtain ⟨k2, c2, -, -, -, f2⟩ := (hK.2 t _ hT).2
    rw [f1] at f2
    exact Option.some.inj f2
  subst e9
  rw [List.append_assoc] at g1 g2
  exact kk _ q H1 alw_push (gv_new hW.1) ⟨gW_push hW.1 (Or.inr (Or.inr ⟨ht, fun _ => none, rfl, fun j _ => by show va_rf none = Value.null; rfl⟩)), g1, g2, g3⟩
/-- a whole row of ints is copied into another of its length -/
theorem h_copy {idx i0 i1 q0 q1 n : Nat} {d0 d1 : AV} {x0 x1 : List (Nat × AV)} {sp dp nn : Int32} (hx9 : p.tables.exec = Jvm.exec) (hb : c.code = cc) (hml : c.maxLocals = ls.size) (hown : s.vm.findClass own = some m.cls) (hlink : (Cond.methodLink own idx arraycopyName).before args s = true) (hnat : (Cond.native arraycopyName).before args s = true) (hstat : (Cond.static arraycopyName).before args s = true) (hini : (Cond.initialized "java/lang/System").before args s = true) (hK : va_K D vwCl (atys cy) s) (hW : Wd D cy A H0 pool ν b C ws H locs)
    (hi0 : C[i0]? = some (.inl (0, n, d0, x0))) (hq0 : (alw ws)[i0]? = some q0) (hi1 : C[i1]? = some (.inl (0, n, d1, x1))) (hq1 : (alw ws)[i1]? = some q1) (h1 : sp.toInt = 0) (h2 : dp.toInt = 0) (h3 : nn.toInt = (n : Int)) (hn : n < 65536) (hframes : 1 ≤ R.frames) (hlocals : (rest.map fun v => v.category).sum + (nativeFrameWords "java/lang/System" "arraycopy" 5 + 11) ≤ R.locals) (hd : decode cc pc = .ok (.invokestatic idx, 3))
    (kk : ∀ ws' H' locs', alw ws' = alw ws → Wd D cy A H0 pool ν b (C.set i1 (.inl (0, n, d0, x0))) ws' H' locs' → W p l e R s m args below meth c H' locs' cells slots Q (F0 m (pc + 3) ls rest)) : W p l e R s m args below meth c H locs cells slots Q (F0 m pc ls (.int nn :: .int dp :: .ref q1 :: .int sp :: .ref q0 :: rest)) := by
  obtain ⟨s0, s1⟩ := en_len (k := 0) h1 (by omega)
  obtain ⟨t0, t1⟩ := en_len (k := 0) h2 (by omega)
  obtain ⟨u0, u1⟩ := en_len h3 (by omega)
  obtain ⟨q0', e0, a1, a2, a3⟩ := gW_at hW.1 hi0
  obtain ⟨q1', e1, b1, b2, b3⟩ := gW_at hW.1 hi1
  rw [hq0] at a2
  rw [hq1] at b2
  cases a2
  cases b2
  rcases a3 with ⟨-, f, rfl, a4⟩ | ⟨g0, -⟩ | ⟨g0, -⟩
  · rcases b3 with ⟨-, g, rfl, b4⟩ | ⟨g0, -⟩ | ⟨g0, -⟩
    · refine va_copyi hx9 hb hml hown hlink hnat hstat hini hK hW.2.1 hW.2.2.1 hW.2.2.2 (pool.length + i0) (pool.length + i1) 0 0 (pw_at a1) (pw_at b1) rfl rfl rfl s0 t0 u0 (by rw [s1, u1]; omega) (by rw [t1, u1]; omega) (fun i _ => rfl) hframes hlocals hd (fun H1 locs1 g1 g2 g3 => ?_)
      rw [pw_set] at g1 g2
      refine kk _ H1 locs1 (alw_set b1) ⟨gW_set hW.1 b1 (Or.inl ⟨by omega, _, rfl, fun j hj => ?_⟩), g1, g2, g3⟩
      rw [s1, t1, u1, pk_cpy_in (by omega) (by omega)]
      rw [show 0 + (j - 0) = j by omega]
      exact a4 j hj
    · omega
    · omega
  · omega
  · omega
end HEAP3
end
section
/-! branches -/
def e_rc (cnd : Jvm.ClassFile.Cond) : Nat × Nat × Bool := match cnd with
  | .eq => (0, 1, false)
  | .ne => (1, 0, false)
  | .lt => (2, 3, false)
  | .ge => (3, 2, false)
  | .gt => (2, 3, true)
  | .le => (3, 2, true)
/-- the numbers where a branch goes, and where it does not -/
def e_cmp (E : EV) (cnd : Jvm.ClassFile.Cond) (x y : AV) : Option (List EV × List EV) :=
  match (if (e_rc cnd).2.2 = true then e_rel E (e_rc cnd).1 y x else e_rel E (e_rc cnd).1 x y), (if (e_rc cnd).2.2 = true then e_rel E (e_rc cnd).2.1 y x else e_rel E (e_rc cnd).2.1 x y) with
  | some t, some f => some (t, f)
  | _, _ => none
abbrev BR : Type := Nat × EV × List AV
def e_b1 (x : List EV) (pc : Nat) (st : List AV) : List BR := x.map (fun E => (pc, E, st))
def e_tgt (pc : Nat) (off : Int) : Option Nat := if decide (0 ≤ (pc : Int) + off) = true then some ((pc : Int) + off).toNat else none
def e_tab (E : EV) (pc : Nat) (a : AV) (st : List AV) (v : Int) (offs : List Int) : Option (List BR) := match offs with
  | [] => some []
  | o :: r => (match e_tgt pc o, e_tab E pc a st (v + 1) r with
    | some t, some q => some (e_b1 (e_clamp E a v v).toList t st ++ q)
    | _, _ => none)
def e_branch (E : EV) (pc : Nat) (ins : Instr) (len : Nat) (st : List AV) : Option (List BR) := match ins with
  | .goto off => (match e_tgt pc off with | some t => if Nat.beq len 3 = true then some [(t, E, st)] else none | none => none)
  | .ifCond cnd off => (match st with
    | x :: st' => (match e_tgt pc off, e_cmp E cnd x (aI 0) with | some t, some (p, q) => if Nat.beq len 3 = true then some (e_b1 p t st' ++ e_b1 q (pc + 3) st') else none | _, _ => none)
    | _ => none)
  | .if_icmp cnd off => (match st with
    | y :: x :: st' => (match e_tgt pc off, e_cmp E cnd x y with | some t, some (p, q) => if Nat.beq len 3 = true then some (e_b1 p t st' ++ e_b1 q (pc + 3) st') else none | _, _ => none)
    | _ => none)
  | .ifnull off => (match st with
    | .inr (.inr (.inr (.inl none))) :: st' => (match e_tgt pc off with | some t => if Nat.beq len 3 = true then some [(t, E, st')] else none | none => none)
    | .inr (.inr (.inr (.inl (some _)))) :: st' => if Nat.beq len 3 = true then some [(pc + 3, E, st')] else none
    | _ => none)
  | .ifnonnull off => (match st with
    | .inr (.inr (.inr (.inl none))) :: st' => if Nat.beq len 3 = true then some [(pc + 3, E, st')] else none
    | .inr (.inr (.inr (.inl (some _)))) :: st' => (match e_tgt pc off with | some t => if Nat.beq len 3 = true then some [(t, E, st')] else none | none => none)
    | _ => none)
  | .tableswitch d lo hi offs => (match st with
    | x :: st' => (match e_iv E x, e_tgt pc d, e_tab E pc x st' lo offs.toList with
      | some _, some t, some q => if decide (hi = lo + offs.toList.length - 1) = true then some (e_b1 (e_clamp E x (-2147483648) (lo - 1)).toList t st' ++ (e_b1 (e_clamp E x (hi + 1) 2147483647).toList t st' ++ q)) else none
      | _, _, _ => none)
    | _ => none)
  | _ => none
section BRANCH
variable {ν : Nat → Int} {al : List Nat} {b : Nat} {E : EV}
variable {p : Program} {l : Launch} {e : Env} {R : Room} {s : State} {m : MethodId} {args : Array Value} {below : List Frame} {meth : Method} {c : Code} {H : Heap} {locs : List Loc} {cells slots : Nat} {Q : State → Prop}
variable {cc : ByteArray} {pc nL : Nat} {ls : Array Slot}
theorem e_tgt_ok {off : Int} {t : Nat} (h : e_tgt pc off = some t) : (pc : Int) + off = (t : Int) := by
  unfold e_tgt at h
  split at h
  · rename_i q
    have q := of_decide_eq_true q
    cases h
    omega
  · cases h
theorem en_0 : (0 : Int32).toInt = 0 := rfl
theorem h_icmp {cnd : Jvm.ClassFile.Cond} {off : Int} {t : Nat} {x y : Int32} {rest : List Value} (hx9 : p.tables.exec = Jvm.exec) (hb : c.code = cc) (hd : decode cc pc = .ok (.if_icmp cnd off, 3)) (ht : (pc : Int) + off = (t : Int))
    (kt : (if (e_rc cnd).2.2 = true then e_holds (e_rc cnd).1 y.toInt x.toInt else e_holds (e_rc cnd).1 x.toInt y.toInt) → W p l e R s m args below meth c H locs cells slots Q (F0 m t ls rest))
    (kf : (if (e_rc cnd).2.2 = true then e_holds (e_rc cnd).2.1 y.toInt x.toInt else e_holds (e_rc cnd).2.1 x.toInt y.toInt) → W p l e R s m args below meth c H locs cells slots Q (F0 m (pc + 3) ls rest)) : W p l e R s m args below meth c H locs cells slots Q (F0 m pc ls (.int y :: .int x :: rest)) := by
  cases cnd
  · exact lv_icmp_eq hx9 hb hd ht (fun h => kt ((fa_eq _ _).mp h)) (fun h => kf (fun q => h ((fa_eq _ _).mpr q)))
  · exact lv_icmp_ne hx9 hb hd ht (fun h => kt (fun q => h ((fa_eq _ _).mpr q))) (fun h => kf ((fa_eq _ _).mp h))
  · exact lv_icmp_lt hx9 hb hd ht (fun h => kt ((fa_lt _ _).mp h)) (fun h => kf ((fa_le _ _).mp (fa_of_nlt h)))
  · exact lv_icmp_ge hx9 hb hd ht (fun h => kt ((fa_le _ _).mp h)) (fun h => kf ((fa_lt _ _).mp (fa_of_nle h)))
  · exact lv_icmp_gt hx9 hb hd ht (fun h => kt ((fa_lt _ _).mp h)) (fun h => kf ((fa_le _ _).mp (fa_of_nlt h)))
  · exact lv_icmp_le hx9 hb hd ht (fun h => kt ((fa_le _ _).mp h)) (fun h => kf ((fa_lt _ _).mp (fa_of_nle h)))
theorem h_ifc {cnd : Jvm.ClassFile.Cond} {off : Int} {t : Nat} {x : Int32} {rest : List Value} (hx9 : p.tables.exec = Jvm.exec) (hb : c.code = cc) (hd : decode cc pc = .ok (.ifCond cnd off, 3)) (ht : (pc : Int) + off = (t : Int))
    (kt : (if (e_rc cnd).2.2 = true then e_holds (e_rc cnd).1 (0 : Int32).toInt x.toInt else e_holds (e_rc cnd).1 x.toInt (0 : Int32).toInt) → W p l e R s m args below meth c H locs cells slots Q (F0 m t ls rest))
    (kf : (if (e_rc cnd).2.2 = true then e_holds (e_rc cnd).2.1 (0 : Int32).toInt x.toInt else e_holds (e_rc cnd).2.1 x.toInt (0 : Int32).toInt) → W p l e R s m args below meth c H locs cells slots Q (F0 m (pc + 3) ls rest)) : W p l e R s m args below meth c H locs cells slots Q (F0 m pc ls (.int x :: rest)) := by
  cases cnd
  · exact lv_if_eq hx9 hb hd ht (fun h => kt ((fa_eq _ _).mp h)) (fun h => kf (fun q => h ((fa_eq _ _).mpr q)))
  · exact lv_if_ne hx9 hb hd ht (fun h => kt (fun q => h ((fa_eq _ _).mpr q))) (fun h => kf ((fa_eq _ _).mp h))
  · exact lv_if_lt hx9 hb hd ht (fun h => kt ((fa_lt _ _).mp h)) (fun h => kf ((fa_le _ _).mp (fa_of_nlt h)))
  · exact lv_if_ge hx9 hb hd ht (fun h => kt ((fa_le _ _).mp h)) (fun h => kf ((fa_lt _ _).mp (fa_of_nle h)))
  · exact lv_if_gt hx9 hb hd ht (fun h => kt ((fa_lt _ _).mp h)) (fun h => kf ((fa_le _ _).mp (fa_of_nlt h)))
  · exact lv_if_le hx9 hb hd ht (fun h => kt ((fa_le _ _).mp h)) (fun h => kf ((fa_lt _ _).mp (fa_of_nle h)))
theorem e_cmp_ok {cnd : Jvm.ClassFile.Cond} {ax ay : AV} {x y : Int32} {t f : List EV} (hE : genv ν E) (hx : gv ν al b ax (.int x)) (hy : gv ν al b ay (.int y)) (h : e_cmp E cnd ax ay = some (t, f)) :
    ((if (e_rc cnd).2.2 = true then e_holds (e_rc cnd).1 y.toInt x.toInt else e_holds (e_rc cnd).1 x.toInt y.toInt) → ∃ E1, E1 ∈ t ∧ genv ν E1) ∧ ((if (e_rc cnd).2.2 = true then e_holds (e_rc cnd).2.1 y.toInt x.toInt else e_holds (e_rc cnd).2.1 x.toInt y.toInt) → ∃ E1, E1 ∈ f ∧ genv ν E1) := by
  unfold e_cmp at h
  split at h
  · rename_i t1 f1 h1 h2
    cases h
    refine ⟨fun g => ?_, fun g => ?_⟩
    · split at h1 <;> rename_i q
      · rw [if_pos q] at g; exact e_rel_ok hE hy hx h1 g
      · rw [if_neg q] at g; exact e_rel_ok hE hx hy h1 g
    · split at h2 <;> rename_i q
      · rw [if_pos q] at g; exact e_rel_ok hE hy hx h2 g
      · rw [if_neg q] at g; exact e_rel_ok hE hx hy h2 g
  · cases h
theorem e_cmp_iv {cnd : Jvm.ClassFile.Cond} {ax ay : AV} {r : List EV × List EV} (h : e_cmp E cnd ax ay = some r) : (∃ q, e_iv E ax = some q) ∧ ∃ q, e_iv E ay = some q := by
  have key : ∀ {k : Nat} {u v : AV} {o : List EV}, e_rel E k u v = some o → (∃ q, e_iv E u = some q) ∧ ∃ q, e_iv E v = some q := by
    intro k u v o h
    unfold e_rel at h
    split at h
    · rename_i e1 e2
      exact ⟨⟨_, e1⟩, ⟨_, e2⟩⟩
    · cases h
  unfold e_cmp at h
  split at h
  · rename_i t1 f1 h1 h2
    split at h1
    · have := key h1; exact ⟨this.2, this.1⟩
    · exact key h1
  · cases h
theorem mem_b1 {x : List EV} {E1 : EV} {t : Nat} {st : List AV} (h : E1 ∈ x) : (t, E1, st) ∈ e_b1 x t st := List.mem_map.mpr ⟨E1, h, rfl⟩
theorem e_tab_ok {x : Int32} {a : AV} {st : List AV} (hE : genv ν E) (hx : gv ν al b a (.int x)) (hk : ∃ q, e_iv E a = some q) : ∀ (offs : List Int) (v : Int) (q : List BR), e_tab E pc a st v offs = some q → ∀ (k : Nat) (off : Int), offs[k]? = some off → x.toInt = v + (k : Int) → ∃ (t : Nat) (E1 : EV), (pc : Int) + off = (t : Int) ∧ (t, E1, st) ∈ q ∧ genv ν E1 := by
  intro offs
  induction offs with
  | nil => intro v q _ k off h; simp at h
  | cons o r ih =>
    intro v q h k off hk9 hv
    simp only [e_tab] at h
    split at h
    · rename_i t q1 h1 h2
      cases h
      cases k with
      | zero =>
        simp at hk9
        subst hk9
        obtain ⟨E1, e1, g1, -⟩ := e_clamp_ok (lo := v) (hi := v) hE hx hk (by omega) (by omega)
        exact ⟨t, E1, e_tgt_ok h1, List.mem_append_left _ (mem_b1 (mem_toL e1)), g1⟩
      | succ k =>
        simp at hk9
        obtain ⟨t', E1, g1, g2, g3⟩ := ih (v + 1) q1 h2 k off hk9 (by omega)
        exact ⟨t', E1, g1, List.mem_append_right _ g2, g3⟩
    · cases h
theorem e_branch_ok {ins : Instr} {len : Nat} {st : List AV} {vs : List Value} {brs : List BR} (hx9 : p.tables.exec = Jvm.exec) (hb : c.code = cc) (h : e_branch E pc ins len st = some brs) (hd : decode cc pc = .ok (ins, len)) (hs : gvs ν al b st vs) (hE : genv ν E)
    (kk : ∀ br ∈ brs, ∀ vs', genv ν br.2.1 → gvs ν al b br.2.2 vs' → W p l e R s m args below meth c H locs cells slots Q (F0 m br.1 ls vs')) : W p l e R s m args below meth c H locs cells slots Q (F0 m pc ls vs) := by
  unfold e_branch at h
  split at h
  · split at h
    · rename_i ht
      split at h
      · rename_i hlen
        cases h
        have := Nat.eq_of_beq_eq_true hlen
        subst this
        exact lv_goto hx9 hb hd (e_tgt_ok ht) (kk _ List.mem_cons_self _ hE hs)
      · cases h
    · cases h
  · split at h
    · split at h
      · rename_i ht hc
        split at h
        · rename_i hlen
          cases h
          have := Nat.eq_of_beq_eq_true hlen
          subst this
          obtain ⟨vx, vs1, rfl, g1, hs1⟩ := gvs_cons hs
          obtain ⟨⟨q1, e1⟩, -⟩ := e_cmp_iv hc
          obtain ⟨i, rfl, -⟩ := gv_int hE g1 e1
          have g0 : gv ν al b (aI 0) (.int 0) := ⟨0, rfl, by decide, by decide⟩
          obtain ⟨c1, c2⟩ := e_cmp_ok hE g1 g0 hc
          refine h_ifc hx9 hb hd (e_tgt_ok ht) (fun g => ?_) (fun g => ?_)
          · obtain ⟨E1, e9, gE⟩ := c1 g
            exact kk _ (List.mem_append_left _ (mem_b1 e9)) _ gE hs1
          · obtain ⟨E1, e9, gE⟩ := c2 g
            exact kk _ (List.mem_append_right _ (mem_b1 e9)) _ gE hs1
        · cases h
      · cases h
    · cases h
  · split at h
    · split at h
      · rename_i ht hc
        split at h
        · rename_i hlen
          cases h
          have := Nat.eq_of_beq_eq_true hlen
          subst this
          obtain ⟨vy, vs1, rfl, g1, hs1⟩ := gvs_cons hs
          obtain ⟨vx, vs2, rfl, g2, hs2⟩ := gvs_cons hs1
          obtain ⟨⟨q1, e1⟩, ⟨q2, e2⟩⟩ := e_cmp_iv hc
          obtain ⟨i, rfl, -⟩ := gv_int hE g2 e1
          obtain ⟨j, rfl, -⟩ := gv_int hE g1 e2
          obtain ⟨c1, c2⟩ := e_cmp_ok hE g2 g1 hc
          refine h_icmp hx9 hb hd (e_tgt_ok ht) (fun g => ?_) (fun g => ?_)
          · obtain ⟨E1, e9, gE⟩ := c1 g
            exact kk _ (List.mem_append_left _ (mem_b1 e9)) _ gE hs2
          · obtain ⟨E1, e9, gE⟩ := c2 g
            exact kk _ (List.mem_append_right _ (mem_b1 e9)) _ gE hs2
        · cases h
      · cases h
    · cases h
  · split at h
    · split at h
      · rename_i ht
        split at h
        · rename_i hlen
          cases h
          have := Nat.eq_of_beq_eq_true hlen
          subst this
          obtain ⟨v, vs1, rfl, g1, hs1⟩ := gvs_cons hs
          have g1 : v = .null := g1
          subst g1
          exact lv_ifnullN hx9 hb hd (e_tgt_ok ht) (kk _ List.mem_cons_self _ hE hs1)
        · cases h
      · cases h
    · split at h
      · rename_i hlen
        cases h
        have := Nat.eq_of_beq_eq_true hlen
        subst this
        obtain ⟨v, vs1, rfl, g1, hs1⟩ := gvs_cons hs
        obtain ⟨q, -, rfl⟩ := g1
        exact lv_ifnull hx9 hb hd (kk _ List.mem_cons_self _ hE hs1)
      · cases h
    · cases h
  · split at h
    · split at h
      · rename_i hlen
        cases h
        have := Nat.eq_of_beq_eq_true hlen
        subst this
        obtain ⟨v, vs1, rfl, g1, hs1⟩ := gvs_cons hs
        have g1 : v = .null := g1
        subst g1
        exact lv_ifnonnullN hx9 hb hd (kk _ List.mem_cons_self _ hE hs1)
      · cases h
    · split at h
      · rename_i ht
        split at h
        · rename_i hlen
          cases h
          have := Nat.eq_of_beq_eq_true hlen
          subst this
          obtain ⟨v, vs1, rfl, g1, hs1⟩ := gvs_cons hs
          obtain ⟨q, -, rfl⟩ := g1
          exact lv_ifnonnull hx9 hb hd (e_tgt_ok ht) (kk _ List.mem_cons_self _ hE hs1)
        · cases h
      · cases h
    · cases h
  · rename_i d lo hi offs
    split at h
    · split at h
      · rename_i hiv ht hq
        split at h
        · rename_i hh
          have hh := of_decide_eq_true hh
          cases h
          obtain ⟨v, vs1, rfl, g1, hs1⟩ := gvs_cons hs
          obtain ⟨i, rfl, -⟩ := gv_int hE g1 hiv
          have r1 := fb_rng i
          by_cases hlo : i.toInt < lo
          · obtain ⟨E1, e1, gE, -⟩ := e_clamp_ok (lo := -2147483648) (hi := lo - 1) hE g1 ⟨_, hiv⟩ (by omega) (by omega)
            exact lv_tableOut hx9 hb hd (Or.inl hlo) (e_tgt_ok ht) (kk _ (List.mem_append_left _ (mem_b1 (mem_toL e1))) _ gE hs1)
          · by_cases hhi : hi < i.toInt
            · obtain ⟨E1, e1, gE, -⟩ := e_clamp_ok (lo := hi + 1) (hi := 2147483647) hE g1 ⟨_, hiv⟩ (by omega) (by omega)
              exact lv_tableOut hx9 hb hd (Or.inr hhi) (e_tgt_ok ht) (kk _ (List.mem_append_right _ (List.mem_append_left _ (mem_b1 (mem_toL e1)))) _ gE hs1)
            · have hlt : (i.toInt - lo).toNat < offs.toList.length := by omega
              have hget : offs.toList[(i.toInt - lo).toNat]? = some offs.toList[(i.toInt - lo).toNat] := List.getElem?_eq_getElem hlt
              obtain ⟨t', E1, e1, e2, gE⟩ := e_tab_ok hE g1 ⟨_, hiv⟩ offs.toList lo _ hq _ _ hget (by omega)
              exact lv_tableIn hx9 hb hd hlo hhi (by rw [← Array.getElem?_toList]; exact hget) e1 (kk _ (List.mem_append_right _ (List.mem_append_right _ e2)) _ gE hs1)
        · cases h
      · cases h
    · cases h
  · cases h
end BRANCH
end
section
/-! the program as tables, and the run -/
/-- what an entry of the constant pool is: its sort and numbers -/
abbrev RES : Type := Nat × Nat × Nat × Int
/-- name, code, locals, answer; class, sort (0 static, 1 of an object, 2 maker), parameters, kind of the object; room; instructions -/
abbrev MT : Type := MethodName × ByteArray × Nat × Option FieldType × (Nat × Nat × Nat × Nat) × (Nat × Nat × Nat × Nat) × List INS
abbrev mY (M : MT) : MethodName := M.1
abbrev mC (M : MT) : ByteArray := M.2.1
abbrev mL (M : MT) : Nat := M.2.2.1
abbrev mR (M : MT) : Option FieldType := M.2.2.2.1
abbrev mO (M : MT) : Nat := M.2.2.2.2.1.1
abbrev mK (M : MT) : Nat := M.2.2.2.2.1.2.1
abbrev mA (M : MT) : Nat := M.2.2.2.2.1.2.2.1
abbrev mCi (M : MT) : Nat := M.2.2.2.2.1.2.2.2
abbrev mFr (M : MT) : Nat := M.2.2.2.2.2.1.1
abbrev mNc (M : MT) : Nat := M.2.2.2.2.2.1.2.1
abbrev mNs (M : MT) : Nat := M.2.2.2.2.2.1.2.2.1
abbrev mLo (M : MT) : Nat := M.2.2.2.2.2.1.2.2.2
abbrev mT (M : MT) : List INS := M.2.2.2.2.2.2
abbrev mRm (M : MT) : Room := { frames := mFr M, cells := mNc M, slots := mNs M, locals := mLo M }
def e_lk (x : List (Nat × RES)) (i : Nat) : Option RES := match x with
  | [] => none
  | (j, r) :: t => if Nat.beq j i = true then some r else e_lk t i
def e_res (RT : List (List (Nat × RES))) (o i : Nat) : Option RES := match RT[o]? with
  | some x => e_lk x i
  | none => none
/-- a number that is known and not negative -/
def e_known (E : EV) (a : AV) : Option Nat := match e_iv E a with
  | some (lo, hi) => if (decide (lo = hi) && decide (0 ≤ lo)) = true then some lo.toNat else none
  | none => none
def e_cats (st : List AV) : Nat := match st with
  | [] => 0
  | a :: r => (if e_isL a = true then 2 else 1) + e_cats r
def e_ald (ins : Instr) (t : Nat) : Bool := match ins with
  | .iaload => Nat.beq t 0
  | .baload => Nat.beq t 1 || Nat.beq t 2
  | .laload => Nat.beq t 3
  | .aaload => Nat.ble 4 t
  | _ => false
def e_initOk (M : MT) (ci k : Nat) : Bool := match vwCl[ci]? with
  | some r => if Nat.ble r.2.2 k = true then false else if (r.2.1 k).2.2.2 = true then Nat.beq (mK M) 2 && Nat.beq ci (mCi M) else true
  | none => false
/-- steps at the heap, with one end -/
def e_hstep (RT : List (List (Nat × RES))) (M : MT) (sc : Bool) (S : ST) (ins : Instr) (len : Nat) : Option ST := match S with
  | (pc, lo, st, E, C, nc, ns) => (match ins with
    | .getfield i => (match e_res RT (mO M) i, st with
      | some (kd, ci, k, _), a :: st' => (match e_cell C a with
        | some (_, .inr (ci', fs)) => (match fs[k]? with
          | some v => if (Nat.ble kd 1 && (Nat.beq ci ci' && Nat.beq len 3)) = true then some (pc + 3, lo, v :: st', E, C, nc, ns) else none
          | none => none)
        | _ => none)
      | _, _ => none)
    | .putfield i => (match e_res RT (mO M) i, st with
      | some (kd, ci, k, _), v :: a :: st' => (match e_cell C a with
        | some (n, .inr (ci', fs)) => if (Nat.beq kd 0 && (Nat.beq ci ci' && (Nat.beq len 3 && (decide (k < fs.length) && (e_fits E (clTy ci k) v && e_initOk M ci k))))) = true then some (pc + 3, lo, st', E, C.set n (.inr (ci', fs.set k v)), nc, ns) else none
        | _ => none)
      | _, _ => none)
    | .arraylength => (match st with
      | a :: st' => (match e_cell C a with
        | some (_, .inl (t, n, _, _)) => if (Nat.ble t 5 && (decide (n < 65536) && Nat.beq len 1)) = true then some (pc + 1, lo, aI (n : Int) :: st', E, C, nc, ns) else none
        | _ => (match a with
          | .inr (.inr (.inr (.inr _))) => if (sc && Nat.beq len 1) = true then some (pc + 1, lo, aV 6 0 :: st', E, C, nc, ns) else none
          | _ => none))
      | _ => none)
    | .new i => (match e_res RT (mO M) i with
      | some (kd, ci, n, _) => (match e_dflts (clTy ci) 0 n with
        | some fs => if (Nat.beq kd 2 && (Nat.beq len 3 && (Nat.ble (nc + 1) (mNc M) && Nat.ble (ns + n) (mNs M)))) = true then some (pc + 3, lo, aR C.length :: st, E, C ++ [.inr (ci, fs)], nc + 1, ns + n) else none
        | none => none)
      | none => none)
    | .newarray at9 => (match e_atype at9, st with
      | some t, a :: st' => (match e_known E a with
        | some n => if (decide (n < 65536) && (Nat.beq len 2 && (Nat.ble (nc + 1) (mNc M) && Nat.ble (ns + n) (mNs M)))) = true then some (pc + 2, lo, aR C.length :: st', E, C ++ [.inl (t, n, (if t = 3 then aL 0 0 else aI 0), [])], nc + 1, ns + n) else none
        | none => none)
      | _, _ => none)
    | .anewarray i => (match e_res RT (mO M) (i + 100000), st with
      | some (kd, t, _, _), a :: st' => (match e_known E a with
        | some n => if (Nat.beq kd 3 && (Nat.ble 4 t && (Nat.ble t 5 && (decide (n < 65536) && (Nat.beq len 3 && (Nat.ble (nc + 1) (mNc M) && Nat.ble (ns + n) (mNs M))))))) = true then some (pc + 3, lo, aR C.length :: st', E, C ++ [.inl (t, n, aN, [])], nc + 1, ns + n) else none
        | none => none)
      | _, _ => none)
    | .ldc2_w i => (match e_res RT (mO M) i with
      | some (kd, _, _, v) => if (Nat.beq kd 9 && Nat.beq len 3) = true then some (pc + 3, lo, aL v v :: st, E, C, nc, ns) else none
      | none => none)
    | .invokespecial i => (match e_res RT (mO M) i, st with
      | some (kd, _, _, _), (.inr (.inr (.inr (.inl (some _))))) :: st' => if (Nat.beq kd 6 && (Nat.beq len 3 && (Nat.ble 1 (mFr M) && (Nat.ble (e_cats st' + 12) (mLo M))))) = true then some (pc + 3, lo, st', E, C, nc, ns) else none
      | _, _ => none)
    | .invokestatic i => (match e_res RT (mO M) i, st with
      | some (kd, _, _, _), nn :: dp :: r1 :: sp :: r0 :: st' => (match e_cell C r0, e_cell C r1, e_known E nn, e_known E dp, e_known E sp with
        | some (_, .inl (0, n0, d0, x0)), some (i1, .inl (0, n1, _, _)), some n, some 0, some 0 => if (Nat.beq kd 7 && (Nat.beq len 3 && (Nat.beq n0 n && (Nat.beq n1 n && (decide (n < 65536) && (Nat.ble 1 (mFr M) && Nat.ble (e_cats st' + (nativeFrameWords "java/lang/System" "arraycopy" 5 + 11)) (mLo M))))))) = true then some (pc + 3, lo, st', E, C.set i1 (.inl (0, n1, d0, x0)), nc, ns) else none
        | _, _, _, _, _ => none)
      | _, _ => none)
    | _ => none)
/-- steps at a row's place: a place that is not known is told apart first -/
def e_span (E : EV) (k : Nat) (lo : Int) (n : Nat) : List EV := match n with
  | 0 => []
  | n + 1 => E.set k (lo, lo) :: e_span E k (lo + 1) n
def e_astep (M : MT) (sc : Bool) (S : ST) (ins : Instr) (len : Nat) : Option (List ST) := match S with
  | (pc, lo, st, E, C, nc, ns) =>
    (match (match ins with | .iaload => some (0 : Nat) | .baload => some 0 | .laload => some 0 | .aaload => some 0 | .iastore => some 1 | .bastore => some 1 | .lastore => some 1 | .aastore => some 1 | _ => none) with
    | some 0 => (match st with
      | i :: a :: st' => (match e_known E i with
        | some j => (match e_cell C a with
          | some (_, .inl (t, n, d, x)) => if (Nat.ble t 5 && (decide (j < n) && (decide (n < 65536) && (Nat.beq len 1 && e_ald ins t)))) = true then some [(pc + 1, lo, e_get d x j :: st', E, C, nc, ns)] else none
          | _ => (match a with
            | .inr (.inr (.inr (.inr _))) => (match E[6]? with | some (l6, _) => if (sc && (Nat.beq len 1 && (decide (ins = .iaload) && decide ((j : Int) < l6)))) = true then some [(pc + 1, lo, aV j 0 :: st', E, C, nc, ns)] else none | none => none)
            | _ => none))
        | none => (match i with
          | .inr (.inl (k, _)) => (match E[k]? with
            | some (l, h) => if decide (h - l < 64) = true then some ((e_span E k l (h - l + 1).toNat).map (fun E1 => (pc, lo, st, E1, C, nc, ns))) else none
            | none => none)
          | _ => none))
      | _ => none)
    | some _ => (match st with
      | v :: i :: a :: st' => (match e_known E i with
        | some j => (match e_cell C a with
          | some (n0, .inl (t, n, d, x)) => if (Nat.ble t 5 && (decide (j < n) && (decide (n < 65536) && (Nat.beq len 1 && (e_aop ins t && e_afits E C t v))))) = true then some [(pc + 1, lo, st', E, C.set n0 (.inl (t, n, d, e_put d x j v)), nc, ns)] else none
          | _ => none)
        | none => (match i with
          | .inr (.inl (k, _)) => (match E[k]? with
            | some (l, h) => if decide (h - l < 64) = true then some ((e_span E k l (h - l + 1).toNat).map (fun E1 => (pc, lo, st, E1, C, nc, ns))) else none
            | none => none)
          | _ => none))
      | _ => none)
    | none => none)
def e_args (i : Nat) (as : List AV) : List (Nat × AV) := match as with
  | [] => []
  | a :: r => (i, a) :: e_args (if e_isL a = true then i + 2 else i + 1) r
def e_take (n : Nat) (st acc : List AV) : Option (List AV × List AV) := match n with
  | 0 => some (acc, st)
  | n + 1 => (match st with
    | a :: r => e_take n r (a :: acc)
    | [] => none)
/-- a call: the method, its arguments, the state behind it without its answer -/
def e_call (P : List MT) (RT : List (List (Nat × RES))) (M : MT) (S : ST) (ins : Instr) (len : Nat) : Option (MT × Nat × List AV × ST) := match S with
  | (pc, lo, st, E, C, nc, ns) =>
    (match (match ins with | .invokestatic i => some ((0 : Nat), i) | .invokevirtual i => some (1, i) | .invokespecial i => some (2, i) | _ => none) with
    | some (kd, i) => (match e_res RT (mO M) i with
      | some (rk, j, _, _) => (match P[j]? with
        | some M' => (match e_take (mA M') st [] with
          | some (as, rest) => (match (if Nat.beq kd 0 = true then some (as, rest) else (match rest with
              | (.inr (.inr (.inr (.inl (some n))))) :: rest' => (match C[n]? with
                | some (.inr (ci, _)) => if Nat.beq ci (mCi M') = true then some (aR n :: as, rest') else none
                | _ => none)
              | _ => none)) with
            | some (as', rest') => if ((Nat.beq rk 4 || Nat.beq rk 5) && (Nat.beq (mK M') kd && (Nat.beq len 3 && (Nat.ble (e_cats rest') 8 && (Nat.ble (mFr M' + 1) (mFr M) && (Nat.ble (8 + (mL M' + 11) + mLo M') (mLo M) && (Nat.ble (nc + mNc M') (mNc M) && (Nat.ble (ns + mNs M') (mNs M) && Nat.ble (e_cats as') (mL M'))))))))) = true then some (M', j, as', (pc + 3, lo, rest', E, C, nc + mNc M', ns + mNs M')) else none
            | none => none)
          | none => none)
        | none => none)
      | none => none)
    | none => none)
/-- an end: what is answered -/
def e_ret (M : MT) (S : ST) (ins : Instr) (len : Nat) : Option (Option AV) := match S with
  | (_, _, st, E, _, nc, ns) => if (Nat.ble nc (mNc M) && (Nat.ble ns (mNs M) && Nat.beq len 1)) = true then (match ins, st, mR M with
    | .ireturn, [a], some .int => (match e_iv E a with | some _ => some (some a) | none => none)
    | .ireturn, [a], some .boolean => (match e_iv E a with | some (lo, hi) => if (decide (0 ≤ lo) && decide (hi ≤ 1)) = true then some (some a) else none | none => none)
    | .lreturn, [a], some .long => if e_isL a = true then some (some a) else none
    | .return_, [], none => some none
    | _, _, _ => none) else none
def e_suf (T : List INS) (pc : Nat) : List INS := match T with
  | [] => []
  | q :: r => if Nat.beq q.1 pc = true then q :: r else e_suf r pc
def e_next (M : MT) (tl : List INS) (pc : Nat) : List INS := match tl with
  | q :: r => if Nat.beq q.1 pc = true then q :: r else e_suf (mT M) pc
  | [] => e_suf (mT M) pc
def e_cat (f : ST → Option (List OUT)) (x : List ST) : Option (List OUT) := match x with
  | [] => some []
  | S :: r => (match f S with
    | some a => (match e_cat f r with
      | some q => some (a ++ q)
      | none => none)
    | none => none)
/-- behind a call -/
def e_aft (M' : MT) (S : ST) (o : OUT) : ST := match S, o with
  | (pc, lo, rest, _, _, nc, ns), (r, E, C) => (pc, lo, (match r with | some a => a :: rest | none => rest), E, C, nc, ns)
def e_st1p (M : MT) (S : ST) (ins : Instr) (len : Nat) : Option ST := match S with
  | (pc, lo, st, E, C, nc, ns) => (match e_simple (mL M) E ins lo st with
    | some (n, lo', st') => if Nat.beq n len = true then some (pc + n, lo', st', E, C, nc, ns) else none
    | none => none)
def e_bst (S : ST) (ins : Instr) (len : Nat) : Option (List ST) := match S with
  | (pc, lo, st, E, C, nc, ns) => (match e_branch E pc ins len st with
    | some brs => some (brs.map (fun q => (q.1, lo, q.2.2, q.2.1, C, nc, ns)))
    | none => none)
/-! one state lies within another -/
def e_leV (E : EV) (a a' : AV) : Bool := if a = a' then true else (match a' with
  | .inl (l', h') => (match e_iv E a with | some (l, h) => decide (l' ≤ l) && decide (h ≤ h') | none => false)
  | .inr (.inl _) => (match e_iv E a, e_iv E a' with | some (l, h), some (l2, h2) => decide (l = h) && (decide (l2 = h2) && decide (l = l2)) | _, _ => false)
  | .inr (.inr (.inl (l', h'))) => (match a with | .inr (.inr (.inl (l, h))) => decide (l' ≤ l) && decide (h ≤ h') | _ => false)
  | _ => false)
def e_leVs (E : EV) (x y : List AV) : Bool := match x, y with
  | [], [] => true
  | a :: r, a' :: r' => e_leV E a a' && e_leVs E r r'
  | _, _ => false
def e_leL (E : EV) (x y : List (Nat × AV)) : Bool := match y with
  | [] => true
  | (i, a') :: r => (match e_find x i with | some a => e_leV E a a' | none => false) && e_leL E x r
def e_leE (x y : EV) : Bool := match x, y with
  | _, [] => true
  | (l, h) :: r, (l', h') :: r' => decide (l' ≤ l) && (decide (h ≤ h') && e_leE r r')
  | [], _ :: _ => false
def e_leA (E : EV) (d d' : AV) (x x' : List (Nat × AV)) : Bool := e_leV E d d' && (x.all (fun q => e_leV E (e_get d x q.1) (e_get d' x' q.1)) && x'.all (fun q => e_leV E (e_get d x q.1) (e_get d' x' q.1)))
def e_leC (E : EV) (c c' : AC) : Bool := match c, c' with
  | .inl (t, n, d, x), .inl (t', n', d', x') => Nat.beq t t' && (Nat.beq n n' && e_leA E d d' x x')
  | .inr (ci, fs), .inr (ci', fs') => Nat.beq ci ci' && e_leVs E fs fs'
  | _, _ => false
def e_leCs (E : EV) (x y : List AC) : Bool := match x, y with
  | [], [] => true
  | a :: r, a' :: r' => e_leC E a a' && e_leCs E r r'
  | _, _ => false
def e_le (S S' : ST) : Bool := match S, S' with
  | (pc, lo, st, E, C, nc, ns), (pc', lo', st', E', C', nc', ns') => Nat.beq pc pc' && (e_leVs E st st' && (e_leE E E' && (e_leL E lo lo' && (e_leCs E C C' && (Nat.ble nc nc' && Nat.ble ns ns')))))
def e_any (S : ST) (cuts : List ST) : Bool := match cuts with
  | [] => false
  | S2 :: r => if e_le S S2 = true then true else e_any S r
theorem e_any_ok {S : ST} : ∀ {cuts : List ST}, e_any S cuts = true → ∃ S2, S2 ∈ cuts ∧ e_le S S2 = true := by
  intro cuts
  induction cuts with
  | nil => intro h; cases h
  | cons S2 r ih =>
    intro h
    unfold e_any at h
    split at h
    · rename_i h1
      exact ⟨S2, List.mem_cons_self, h1⟩
    · obtain ⟨S3, h1, h2⟩ := ih h
      exact ⟨S3, List.mem_cons_of_mem _ h1, h2⟩
def e_run (P : List MT) (RT : List (List (Nat × RES))) (cuts : List ST) : Nat → Bool → Bool → MT → List INS → ST → Option (List OUT)
  | 0, _, _, _, _, _ => none
  | fuel + 1, tp, sc, M, suf, S => (match suf with
    | [] => none
    | (pc, tag, ins, len) :: tl => if Nat.beq pc S.1 = true then (match tag with
      | 0 => (match e_st1p M S ins len with
        | some S' => e_run P RT cuts fuel tp sc M (e_next M tl S'.1) S'
        | none => none)
      | 1 => (match e_bst S ins len with
        | some x => e_cat (fun S' => e_run P RT cuts fuel tp sc M (e_next M tl S'.1) S') x
        | none => none)
      | 2 => (match e_hstep RT M sc S ins len with
        | some S' => e_run P RT cuts fuel tp sc M (e_next M tl S'.1) S'
        | none => none)
      | 3 => (match e_astep M sc S ins len with
        | some x => e_cat (fun S' => e_run P RT cuts fuel tp sc M (e_next M tl S'.1) S') x
        | none => none)
      | 4 => (match e_call P RT M S ins len with
        | some (M', _, as, S') => (match e_run P RT cuts fuel false false M' (mT M') (0, e_args 0 as, [], S.2.2.2.1, S.2.2.2.2.1, 0, 0) with
          | some outs => e_cat (fun S2 => e_run P RT cuts fuel tp sc M (e_next M tl S2.1) S2) (outs.map (e_aft M' S'))
          | none => none)
        | none => none)
      | 5 => (match e_ret M S ins len with
        | some r => some [(r, S.2.2.2.1, S.2.2.2.2.1)]
        | none => none)
      | _ => if (tp && e_any S cuts) = true then some [] else none) else none)
end
section
/-! what a method's walk stands on -/
def isNest (w : Cond) : Bool := match w with
  | .methodLinkNest _ _ _ _ => true
  | .fieldLinkNest _ _ _ _ _ _ => true
  | _ => false
def NST : List Cond := lw_tbl.filter isNest
def KK (D : va_G) (cy : Nat → ClassId) (U : State) : Prop := va_K D vwCl (atys cy) U ∧ (∀ w ∈ NST, va_Nw w U) ∧ va_AO "NounFast$Scene" U ∧ va_AO "NounFast$Sentence" U
theorem KK.warm {D : va_G} {cy : Nat → ClassId} {s U : State} (hW : s.WarmedH U.vm) (h : KK D cy s) : KK D cy U := by
  refine ⟨va_K.moved hW.alike h.1, fun w hw => ?_, va_AO.moved hW.alike h.2.2.1, va_AO.moved hW.alike h.2.2.2⟩
  have h1 := h.2.1 w hw
  have h2 := (List.mem_filter.mp hw).2
  unfold isNest at h2
  split at h2
  · exact va_Nw.warmM hW h1
  · exact va_Nw.warmF hW h1
  · cases h2
theorem KK.calling {D : va_G} {cy : Nat → ClassId} {U : State} {g : JFrame} {mk : MethodId} {a : Array Value} (h : KK D cy U) : KK D cy (U.calling g mk a) := by
  refine ⟨va_K.moved (u := U) (U := U.calling g mk a) (Vm.Alike.refl U.vm) h.1, fun w hw => ?_, va_AO.moved (u := U) (U := U.calling g mk a) (Vm.Alike.refl U.vm) h.2.2.1, va_AO.moved (u := U) (U := U.calling g mk a) (Vm.Alike.refl U.vm) h.2.2.2⟩
  have h1 := h.2.1 w hw
  have h2 := (List.mem_filter.mp hw).2
  unfold isNest at h2
  split at h2
  · exact va_Nw.same rfl rfl h1
  · exact va_Nw.same rfl rfl h1
  · cases h2
/-- a method as caller: its class, its instructions -/
def TOK (OW : List String) (M : MT) : Prop := (∀ q ∈ mT M, decode (mC M) q.1 = .ok (q.2.2.1, q.2.2.2)) ∧ (mK M = 2 → ∀ r : vw_C, vwCl[mCi M]? = some r → ∀ k, k < r.2.2 → OW[mO M]? = some (r.2.1 k).1)
/-- a method as callee -/
def MOK (M : MT) : Prop := plainFor (mY M) = true ∧ Cond.code (mY M) (mC M) (mL M) (mR M) ∈ BIG ∧ Cond.initialized (mY M).cls ∈ BIG ∧ ((mY M).cls ≠ "java/lang/invoke/MethodHandle" ∧ (mY M).cls ≠ "java/lang/invoke/VarHandle") ∧
  (parseMethodDescriptor (mY M).desc).map (fun d => d.parameters.length) = some (mA M) ∧ (mK M = 0 → Cond.static (mY M) ∈ BIG) ∧ (mK M = 1 → Cond.instanceMethod (mY M) ∈ BIG ∧ Cond.selects (mY M).cls (mY M) (mY M) ∈ BIG ∧ ∃ r : vw_C, vwCl[mCi M]? = some r ∧ r.1 = (mY M).cls) ∧
  (mK M = 2 → (mY M).name = "<init>" ∧ Cond.instanceMethod (mY M) ∈ BIG ∧ mR M = none) ∧ (mR M = none ∨ mR M = some .int ∨ mR M = some .boolean ∨ mR M = some .long)
def ROK (P : List MT) (own : String) (i : Nat) (r : RES) : Prop := match r with
  | (0, ci, k, _) => ∃ q : vw_C, vwCl[ci]? = some q ∧ k < q.2.2 ∧ Cond.fieldLink own i (q.2.1 k).1 (q.2.1 k).2.1 (q.2.1 k).2.2.1 ∈ BIG
  | (1, ci, k, _) => ∃ (q : vw_C) (host : String), vwCl[ci]? = some q ∧ k < q.2.2 ∧ Cond.fieldLinkNest own i (q.2.1 k).1 (q.2.1 k).2.1 (q.2.1 k).2.2.1 host ∈ NST
  | (2, ci, n, _) => ∃ q : vw_C, vwCl[ci]? = some q ∧ q.2.2 = n ∧ Cond.classLink own i q.1 ∈ BIG ∧ Cond.instantiable q.1 n ∈ BIG ∧ Cond.initialized q.1 ∈ BIG
  | (3, t, _, _) => ∃ (q : vw_C) (i' : Nat), vwCl[e_acls t]? = some q ∧ i = i' + 100000 ∧ Cond.classLink own i' q.1 ∈ BIG ∧ (q.1 = "NounFast$Scene" ∨ q.1 = "NounFast$Sentence")
  | (4, j, _, _) => ∃ M : MT, P[j]? = some M ∧ Cond.methodLink own i (mY M) ∈ BIG
  | (5, j, _, _) => ∃ (M : MT) (host : String), P[j]? = some M ∧ Cond.methodLinkNest own i (mY M) host ∈ NST
  | (6, _, _, _) => Cond.methodLink own i Lib.objectInit ∈ BIG
  | (7, _, _, _) => Cond.methodLink own i arraycopyName ∈ BIG
  | (9, _, _, v) => Cond.constantLong own i (Int64.ofInt v) ∈ BIG ∧ -9223372036854775808 ≤ v ∧ v < 9223372036854775808
  | _ => True
def POK (P : List MT) (RT : List (List (Nat × RES))) (OW : List String) : Prop :=
  (∀ (j : Nat) (M : MT), P[j]? = some M → MOK M ∧ TOK OW M ∧ OW[mO M]? = some (mY M).cls) ∧ (∀ (o : Nat) (own : String) (L : List (Nat × RES)), OW[o]? = some own → RT[o]? = some L → ∀ q ∈ L, ROK P own q.1 q.2) ∧
  (Cond.instanceMethod Lib.objectInit ∈ BIG ∧ Cond.code Lib.objectInit ⟨#[0xb1]⟩ 1 none ∈ BIG ∧ Cond.native arraycopyName ∈ BIG ∧ Cond.static arraycopyName ∈ BIG ∧ Cond.initialized "java/lang/System" ∈ BIG ∧ ∀ (a : ArrayType) (t : Nat), e_atype a = some t → Cond.arrayClass (newarray.typeOf a) ∈ BIG)
def Scr (ν : Nat → Int) (b : Nat) (A : Nat → Prop) (s : State) : Prop := ∃ (L : Nat) (xs : Nat → Int32), va_X b L xs s s.heap ∧ b < s.heap.size ∧ ¬ A b ∧ (∀ k, k < L → (xs k).toInt = ν k) ∧ ν 6 = (L : Int) ∧ L < 65536
def Ctx (OW : List String) (D : va_G) (cy : Nat → ClassId) (ν : Nat → Int) (b : Nat) (M : MT) (own : String) (p : Program) (R : Room) (s : State) (m : MethodId) (args : Array Value) (meth : Method) (c : Code) (A : Nat → Prop) (sc : Bool) : Prop :=
  p.tables.exec = Jvm.exec ∧ c.code = mC M ∧ c.maxLocals = mL M ∧ OW[mO M]? = some own ∧ s.vm.findClass own = some m.cls ∧ (∀ w ∈ BIG, w.before args s = true) ∧ KK D cy s ∧ (∀ q, s.heap.size ≤ q → A q) ∧ (mK M = 2 → meth.name = "<init>") ∧ R = mRm M ∧ TOK OW M ∧ (sc = true → Scr ν b A s)
def Safe (D : va_G) (cy : Nat → ClassId) (ν : Nat → Int) (b : Nat) (pool : va_W) (al0 : List Nat) (M : MT) (p : Program) (l : Launch) (e : Env) (R : Room) (s : State) (m : MethodId) (args : Array Value) (below : List Frame) (meth : Method) (c : Code) (A : Nat → Prop) (Q : State → Prop) (S : ST) : Prop :=
  ∀ (H : Heap) (locs : List Loc) (ls : Array Slot) (lv : List (Nat × Value)) (vs : List Value) (ws : va_W), lv_has ls (mL M) lv → glv ν (alw ws) b S.2.1 lv → gvs ν (alw ws) b S.2.2.1 vs → genv ν S.2.2.2.1 → Wd D cy A s.heap pool ν b S.2.2.2.2.1 ws H locs → (∃ more, alw ws = al0 ++ more) →
    W p l e R s m args below meth c H locs S.2.2.2.2.2.1 S.2.2.2.2.2.2 Q (F0 m S.1 ls vs)
def RV (ν : Nat → Int) (al : List Nat) (b : Nat) (M : MT) (ins : Instr) (r : Option AV) (v : Option Value) : Prop :=
  (ins = .ireturn ∧ ∃ (a : AV) (x : Int32) (ty : FieldType), r = some a ∧ v = some (.int x) ∧ gv ν al b a (.int x) ∧ mR M = some ty ∧ (ty = .int ∨ ty = .boolean) ∧ narrow ty (.int x) = .int x) ∨
  (ins = .lreturn ∧ ∃ (a : AV) (x : Int64), r = some a ∧ v = some (.long x) ∧ gv ν al b a (.long x) ∧ mR M = some .long) ∨
  (ins = .return_ ∧ r = none ∧ v = none ∧ mR M = none)
def RetOK (D : va_G) (cy : Nat → ClassId) (ν : Nat → Int) (b : Nat) (pool : va_W) (al0 : List Nat) (M : MT) (p : Program) (l : Launch) (e : Env) (R : Room) (s : State) (m : MethodId) (args : Array Value) (below : List Frame) (meth : Method) (c : Code) (A : Nat → Prop) (Q : State → Prop) (outs : List OUT) : Prop :=
  ∀ o ∈ outs, ∀ (ins : Instr) (pc : Nat) (H : Heap) (locs : List Loc) (ls : Array Slot) (ws : va_W) (v : Option Value), decode (mC M) pc = .ok (ins, 1) → RV ν (alw ws) b M ins o.1 v → genv ν o.2.1 → Wd D cy A s.heap pool ν b o.2.2 ws H locs → (∃ more, alw ws = al0 ++ more) →
    W p l e R s m args below meth c H locs (mNc M) (mNs M) Q (F0 m pc ls v.toList)
section STEPS
variable {RT : List (List (Nat × RES))} {P : List MT} {OW : List String} {ν : Nat → Int} {b : Nat} {cy : Nat → ClassId} {pool : va_W} {D : va_G} {A : Nat → Prop} {al0 : List Nat} {M : MT} {own : String} {sc : Bool}
variable {p : Program} {l : Launch} {e : Env} {R : Room} {s : State} {m : MethodId} {args : Array Value} {below : List Frame} {meth : Method} {c : Code} {Q : State → Prop}
theorem s_simple {S S' : ST} {ins : Instr} {len : Nat} (X : Ctx OW D cy ν b M own p R s m args meth c A sc) (h : e_st1p M S ins len = some S') (hd : decode (mC M) S.1 = .ok (ins, len)) (k : Safe D cy ν b pool al0 M p l e R s m args below meth c A Q S') : Safe D cy ν b pool al0 M p l e R s m args below meth c A Q S := by
  obtain ⟨pc, lo, st, E, C, nc, ns⟩ := S
  unfold e_st1p at h
  simp only at h
  split at h
  · rename_i n lo' st' h1
    split at h
    · rename_i h2
      have h2 := Nat.eq_of_beq_eq_true h2
      cases h
      subst h2
      intro H locs ls lv vs ws a1 a2 a3 a4 a5 a6
      exact e_simple_ok X.1 X.2.1 h1 hd a1 a2 a3 a4 (fun ls' lv' vs' b1 b2 b3 => k H locs ls' lv' vs' ws b1 b2 b3 a4 a5 a6)
    · cases h
  · cases h
theorem s_branch {S : ST} {x : List ST} {ins : Instr} {len : Nat} (X : Ctx OW D cy ν b M own p R s m args meth c A sc) (h : e_bst S ins len = some x) (hd : decode (mC M) S.1 = .ok (ins, len)) (k : ∀ S' ∈ x, Safe D cy ν b pool al0 M p l e R s m args below meth c A Q S') : Safe D cy ν b pool al0 M p l e R s m args below meth c A Q S := by
  obtain ⟨pc, lo, st, E, C, nc, ns⟩ := S
  unfold e_bst at h
  simp only at h
  split at h
  · rename_i brs h1
    cases h
    intro H locs ls lv vs ws a1 a2 a3 a4 a5 a6
    refine e_branch_ok X.1 X.2.1 h1 hd a3 a4 (fun br hbr vs' b1 b2 => ?_)
    exact k _ (List.mem_map.mpr ⟨br, hbr, rfl⟩) H locs ls lv vs' ws a1 a2 b2 b1 a5 a6
  · cases h
end STEPS
end
section
section STEPS2
variable {RT : List (List (Nat × RES))} {P : List MT} {OW : List String} {ν : Nat → Int} {b : Nat} {cy : Nat → ClassId} {pool : va_W} {D : va_G} {A : Nat → Prop} {al0 : List Nat} {M : MT} {own : String} {sc : Bool}
variable {p : Program} {l : Launch} {e : Env} {R : Room} {s : State} {m : MethodId} {args : Array Value} {below : List Frame} {meth : Method} {c : Code} {Q : State → Prop}
theorem e_cell_ok {C : List AC} {a : AV} {i : Nat} {x : AC} (h : e_cell C a = some (i, x)) : a = aR i ∧ C[i]? = some x := by
  unfold e_cell at h
  split at h
  · split at h
    · rename_i h1
      cases h
      exact ⟨rfl, h1⟩
    · cases h
  · cases h
theorem e_known_ok {E : EV} {al : List Nat} {a : AV} {v : Value} {n : Nat} (hE : genv ν E) (hv : gv ν al b a v) (h : e_known E a = some n) : ∃ x : Int32, v = .int x ∧ x.toInt = (n : Int) := by
  unfold e_known at h
  split at h
  · rename_i lo hi h1
    split at h
    · rename_i q
      simp only [Bool.and_eq_true, decide_eq_true_eq] at q
      cases h
      obtain ⟨x, rfl, g1, g2⟩ := gv_int hE hv h1
      exact ⟨x, rfl, by omega⟩
    · cases h
  · cases h
theorem e_lk_ok {x : List (Nat × RES)} {i : Nat} {r : RES} (h : e_lk x i = some r) : (i, r) ∈ x := by
  induction x with
  | nil => cases h
  | cons q t ih =>
    obtain ⟨j, r0⟩ := q
    simp only [e_lk] at h
    split at h
    · rename_i h1
      have := Nat.eq_of_beq_eq_true h1
      cases h
      rw [this]
      exact List.mem_cons_self
    · exact List.mem_cons_of_mem _ (ih h)
theorem e_res_ok {i : Nat} {r : RES} (hP : POK P RT OW) (ho : OW[mO M]? = some own) (h : e_res RT (mO M) i = some r) : ROK P own i r := by
  unfold e_res at h
  split at h
  · rename_i L h1
    exact hP.2.1 _ _ _ ho h1 _ (e_lk_ok h)
  · cases h
theorem cats_ok {al : List Nat} {st : List AV} {vs : List Value} (h : gvs ν al b st vs) : (vs.map fun v => v.category).sum = e_cats st := by
  induction st generalizing vs with
  | nil => rw [gvs_nil h]; rfl
  | cons a r ih =>
    obtain ⟨v, vs', rfl, g1, g2⟩ := gvs_cons h
    simp only [List.map_cons, List.sum_cons, e_cats]
    rw [ih g2]
    cases h9 : e_isL a with
    | true => rw [gv_cat2 g1 h9]; rfl
    | false => rw [gv_cat1 g1 h9]; rfl
theorem alw_more {ws ws' : va_W} {q : Nat} (h : ∃ more, alw ws = al0 ++ more) (e : alw ws' = alw ws ++ [q]) : ∃ more, alw ws' = al0 ++ more := by
  obtain ⟨more, h⟩ := h
  exact ⟨more ++ [q], by rw [e, h, List.append_assoc]⟩
theorem beq3 {a c : Nat} (h : Nat.beq a c = true) : a = c := Nat.eq_of_beq_eq_true h
set_option maxHeartbeats 4000000 in
theorem s_hstep {S S' : ST} {ins : Instr} {len : Nat} (hP : POK P RT OW) (X : Ctx OW D cy ν b M own p R s m args meth c A sc) (h : e_hstep RT M sc S ins len = some S') (hd : decode (mC M) S.1 = .ok (ins, len)) (k : Safe D cy ν b pool al0 M p l e R s m args below meth c A Q S') : Safe D cy ν b pool al0 M p l e R s m args below meth c A Q S := by
  obtain ⟨pc, lo, st, E, C, nc, ns⟩ := S
  obtain ⟨x1, x2, x3, x4, x5, x6, x7, x8, x9, x10, x11, x12⟩ := X
  subst x10
  intro H locs ls lv vs ws a1 a2 a3 a4 a5 a6
  unfold e_hstep at h
  simp only at h a2 a3 a4 a5 hd ⊢
  split at h
  · -- getfield
    split at h
    · rename_i kd ci kf z a st' hr
      split at h
      · rename_i n ci' fs hc
        split at h
        · rename_i v hv
          split at h
          · rename_i q
            simp only [Bool.and_eq_true] at q
            obtain ⟨q1, q2, q3⟩ := q
            have q2 := beq3 q2
            have q3 := beq3 q3
            cases h
            subst q2
            subst q3
            obtain ⟨rfl, hC⟩ := e_cell_ok hc
            obtain ⟨v0, vs1, rfl, g1, g2⟩ := gvs_cons a3
            obtain ⟨qa, gq, rfl⟩ := g1
            have hro := e_res_ok hP x4 hr
            have hk : kd = 0 ∨ kd = 1 := by have := Nat.le_of_ble_eq_true q1; omega
            rcases hk with rfl | rfl
            · obtain ⟨r, r1, r2, r3⟩ := hro
              exact h_get x1 x2 x6 x5 x7.1 a5 hC gq r1 r2 hv (x6 _ r3) hd (fun v gv9 => k H locs ls lv _ ws a1 a2 ⟨gv9, g2⟩ a4 a5 a6)
            · obtain ⟨r, host, r1, r2, r3⟩ := hro
              exact h_getN x1 x2 x6 x5 x7.1 a5 hC gq r1 r2 hv (va_Nw.use rfl (x7.2.1 _ r3)) hd (fun v gv9 => k H locs ls lv _ ws a1 a2 ⟨gv9, g2⟩ a4 a5 a6)
          · cases h
        · cases h
      · cases h
    · cases h
  · -- putfield
    split at h
    · rename_i kd ci kf z v a st' hr
      split at h
      · rename_i n ci' fs hc
        split at h
        · rename_i q
          simp only [Bool.and_eq_true, decide_eq_true_eq] at q
          obtain ⟨q1, q2, q3, q4, q5, q6⟩ := q
          have q1 := beq3 q1
          have q2 := beq3 q2
          have q3 := beq3 q3
          cases h
          subst q1
          subst q2
          subst q3
          obtain ⟨rfl, hC⟩ := e_cell_ok hc
          obtain ⟨v0, vs1, rfl, g1, g2⟩ := gvs_cons a3
          obtain ⟨v1, vs2, rfl, g3, g4⟩ := gvs_cons g2
          obtain ⟨qa, gq, rfl⟩ := g3
          obtain ⟨r, r1, r2, r3⟩ := e_res_ok hP x4 hr
          have hfin : (r.2.1 kf).2.2.2 = false ∨ (meth.name = "<init>" ∧ (r.2.1 kf).2.2.2 = true ∧ (r.2.1 kf).1 = own) := by
            unfold e_initOk at q6
            rw [r1] at q6
            simp only at q6
            split at q6
            · cases q6
            · split at q6
              · rename_i q7
                simp only [Bool.and_eq_true] at q6
                have w1 := beq3 q6.1
                have w2 := beq3 q6.2
                rw [w2] at r1
                have w3 := x11.2 w1 r r1 kf r2
                rw [x4] at w3
                exact Or.inr ⟨x9 w1, q7, (Option.some.inj w3).symm⟩
              · rename_i q7
                left
                cases h7 : (r.2.1 kf).2.2.2 with
                | true => exact absurd h7 q7
                | false => rfl
          exact h_put x1 x2 x6 x5 x7.1 a5 a4 hC gq r1 r2 q4 g1 q5 hfin (x6 _ r3) hd (fun ws' H' locs' e1 w1 => k H' locs' ls lv _ ws' a1 (by rw [e1]; exact a2) (by rw [e1]; exact g4) a4 w1 (by rw [e1]; exact a6))
        · cases h
      · cases h
    · cases h
  · -- arraylength
    split at h
    · rename_i a st'
      split at h
      · rename_i n t n0 d x hc
        split at h
        · rename_i q
          simp only [Bool.and_eq_true, decide_eq_true_eq] at q
          obtain ⟨q1, q2, q3⟩ := q
          have q3 := beq3 q3
          cases h
          subst q3
          obtain ⟨rfl, hC⟩ := e_cell_ok hc
          obtain ⟨v0, vs1, rfl, g1, g2⟩ := gvs_cons a3
          obtain ⟨qa, gq, rfl⟩ := g1
          exact h_alen x1 x2 x7.1 a5 hC gq (by have := Nat.le_of_ble_eq_true q1; omega) (by omega) hd (fun v gv9 => k H locs ls lv _ ws a1 a2 ⟨gv9, g2⟩ a4 a5 a6)
        · cases h
      · split at h
        · split at h
          · rename_i q
            simp only [Bool.and_eq_true] at q
            have q2 := beq3 q.2
            cases h
            subst q2
            obtain ⟨v0, vs1, rfl, g1, g2⟩ := gvs_cons a3
            have g1 : v0 = .ref b := g1
            subst g1
            obtain ⟨L, xs, y1, y2, y3, y4, y5, y6⟩ := x12 q.1
            refine va_slen x1 x2 y1 y2 y3 a5.2.2.2 hd (k H locs ls lv _ ws a1 a2 ⟨⟨_, rfl, ?_⟩, g2⟩ a4 a5 a6)
            have := nI_toInt (n := L) (by omega)
            rw [show Int32.ofNat L = nI L from rfl, this, y5]
            omega
          · cases h
        · cases h
    · cases h
  · -- new
    split at h
    · rename_i kd ci n z hr
      split at h
      · rename_i fs hfs
        split at h
        · rename_i q
          simp only [Bool.and_eq_true] at q
          obtain ⟨q1, q2, q3, q4⟩ := q
          have q1 := beq3 q1
          have q2 := beq3 q2
          cases h
          subst q1
          subst q2
          obtain ⟨r, r1, r2, r3, r4, r5⟩ := e_res_ok hP x4 hr
          subst r2
          exact h_new x1 x2 x6 x5 x7.1 a5 x8 r1 hfs (x6 _ r3) (x6 _ r4) (x6 _ r5) (Nat.le_of_ble_eq_true q3) (Nat.le_of_ble_eq_true q4) hd (fun ws' qa H' e1 g1 w1 => k H' locs ls lv _ ws' a1 (by rw [e1]; exact glv_app _ a2) ⟨g1, by rw [e1]; exact gvs_app _ a3⟩ a4 w1 (alw_more a6 e1))
        · cases h
      · cases h
    · cases h
  · -- newarray
    split at h
    · rename_i at9 t a st' ht
      split at h
      · rename_i n hn
        split at h
        · rename_i q
          simp only [Bool.and_eq_true, decide_eq_true_eq] at q
          obtain ⟨q1, q2, q3, q4⟩ := q
          have q2 := beq3 q2
          cases h
          subst q2
          obtain ⟨v0, vs1, rfl, g1, g2⟩ := gvs_cons a3
          obtain ⟨x, rfl, hx⟩ := e_known_ok a4 g1 hn
          exact h_newa x1 x2 (x6 _ (hP.2.2.2.2.2.2.2 _ _ ht)) x7.1 a5 x8 ht hx q1 (Nat.le_of_ble_eq_true q3) (Nat.le_of_ble_eq_true q4) hd (fun ws' qa H' e1 g3 w1 => k H' locs ls lv _ ws' a1 (by rw [e1]; exact glv_app _ a2) ⟨g3, by rw [e1]; exact gvs_app _ g2⟩ a4 w1 (alw_more a6 e1))
        · cases h
      · cases h
    · cases h
  · -- anewarray
    split at h
    · rename_i kd t z1 z2 a st' hr
      split at h
      · rename_i n hn
        split at h
        · rename_i q
          simp only [Bool.and_eq_true, decide_eq_true_eq] at q
          obtain ⟨q1, q2, q3, q4, q5, q6, q7⟩ := q
          have q1 := beq3 q1
          have q5 := beq3 q5
          cases h
          subst q1
          subst q5
          obtain ⟨v0, vs1, rfl, g1, g2⟩ := gvs_cons a3
          obtain ⟨x, rfl, hx⟩ := e_known_ok a4 g1 hn
          obtain ⟨r, i', r1, r2, r3, r4⟩ := e_res_ok hP x4 hr
          have r2 := Nat.add_right_cancel r2
          subst r2
          have hover : va_AO r.1 s := by
            rcases r4 with r4 | r4 <;> rw [r4]
            · exact x7.2.2.1
            · exact x7.2.2.2
          exact h_newq x1 x2 x5 x7.1 a5 x8 (Nat.le_of_ble_eq_true q2) (by have := Nat.le_of_ble_eq_true q3; omega) r1 (x6 _ r3) hover hx q4 (Nat.le_of_ble_eq_true q6) (Nat.le_of_ble_eq_true q7) hd (fun ws' qa H' e1 g3 w1 => k H' locs ls lv _ ws' a1 (by rw [e1]; exact glv_app _ a2) ⟨g3, by rw [e1]; exact gvs_app _ g2⟩ a4 w1 (alw_more a6 e1))
        · cases h
      · cases h
    · cases h
  · -- ldc2_w
    split at h
    · rename_i kd z1 z2 v hr
      split at h
      · rename_i q
        simp only [Bool.and_eq_true] at q
        have q1 := beq3 q.1
        have q2 := beq3 q.2
        cases h
        subst q1
        subst q2
        obtain ⟨r1, r2, r3⟩ := e_res_ok hP x4 hr
        have w : (Int64.ofInt v).toInt = v := by
          rw [Int64.toInt_ofInt]
          exact fb_bmodL r2 r3
        exact lv_ldc2 x1 x2 x5 (x6 _ r1) hd (k H locs ls lv _ ws a1 a2 ⟨⟨_, rfl, by rw [w]; omega, by rw [w]; omega⟩, a3⟩ a4 a5 a6)
      · cases h
    · cases h
  · -- Object's maker
    split at h
    · rename_i kd z1 z2 z3 n st' hr
      split at h
      · rename_i q
        simp only [Bool.and_eq_true] at q
        obtain ⟨q1, q2, q3, q4⟩ := q
        have q1 := beq3 q1
        have q2 := beq3 q2
        cases h
        subst q1
        subst q2
        have r1 := e_res_ok hP x4 hr
        obtain ⟨v0, vs1, rfl, g1, g2⟩ := gvs_cons a3
        obtain ⟨qa, gq, rfl⟩ := g1
        refine W.objInit x1 x2 x5 (x6 _ r1) (x6 _ hP.2.2.1) (x6 _ hP.2.2.2.1) rfl (by rw [x3]; exact a1.1) rfl hd (Nat.le_of_ble_eq_true q3) ?_ (k H locs ls lv _ ws a1 a2 g2 a4 a5 a6)
        have w1 := cats_ok g2
        have w2 := Nat.le_of_ble_eq_true q4
        show 2 * 0 + (vs1.map fun v => v.category).sum + 12 ≤ mLo M
        rw [w1]; omega
      · cases h
    · cases h
  · -- arraycopy
    split at h
    · rename_i kd z1 z2 z3 nn dp r1 sp r0 st' hr
      split at h
      · rename_i j0 n0 d0 y0 i1 n1 d1 y1 n hc0 hc1 hn hdp hsp
        split at h
        · rename_i q
          simp only [Bool.and_eq_true, decide_eq_true_eq] at q
          obtain ⟨q1, q2, q3, q4, q5, q6, q7⟩ := q
          have q1 := beq3 q1
          have q2 := beq3 q2
          have q3 := beq3 q3
          have q4 := beq3 q4
          cases h
          subst q1
          subst q2
          subst q3
          subst q4
          have w0 := e_res_ok hP x4 hr
          obtain ⟨rfl, hC0⟩ := e_cell_ok hc0
          obtain ⟨rfl, hC1⟩ := e_cell_ok hc1
          obtain ⟨u1, vs1, rfl, g1, a3⟩ := gvs_cons a3
          obtain ⟨u2, vs2, rfl, g2, a3⟩ := gvs_cons a3
          obtain ⟨u3, vs3, rfl, g3, a3⟩ := gvs_cons a3
          obtain ⟨u4, vs4, rfl, g4, a3⟩ := gvs_cons a3
          obtain ⟨u5, vs5, rfl, g5, a3'⟩ := gvs_cons a3
          obtain ⟨x1', rfl, hx1⟩ := e_known_ok a4 g1 hn
          obtain ⟨x2', rfl, hx2⟩ := e_known_ok a4 g2 hdp
          obtain ⟨x4', rfl, hx4⟩ := e_known_ok a4 g4 hsp
          obtain ⟨qa, gq, rfl⟩ := g3
          obtain ⟨qb, gqb, rfl⟩ := g5
          refine h_copy x1 x2 (by rw [x3]; exact a1.1.symm) x5 (x6 _ w0) (x6 _ hP.2.2.2.2.1) (x6 _ hP.2.2.2.2.2.1) (x6 _ hP.2.2.2.2.2.2.1) x7.1 a5 hC0 gqb hC1 gq (by simpa using hx4) (by simpa using hx2) hx1 q5 (Nat.le_of_ble_eq_true q6) ?_ hd (fun ws' H' locs' e1 w1 => k H' locs' ls lv _ ws' a1 (by rw [e1]; exact a2) (by rw [e1]; exact a3') a4 w1 (by rw [e1]; exact a6))
          have w1 := cats_ok a3'
          rw [w1]
          exact Nat.le_of_ble_eq_true q7
        · cases h
      · cases h
    · cases h
  · cases h
end STEPS2
end
section
section STEPS3
variable {RT : List (List (Nat × RES))} {P : List MT} {OW : List String} {ν : Nat → Int} {b : Nat} {cy : Nat → ClassId} {pool : va_W} {D : va_G} {A : Nat → Prop} {al0 : List Nat} {M : MT} {own : String} {sc : Bool}
variable {p : Program} {l : Launch} {e : Env} {R : Room} {s : State} {m : MethodId} {args : Array Value} {below : List Frame} {meth : Method} {c : Code} {Q : State → Prop}
theorem e_span_ok {E : EV} {k : Nat} (hE : genv ν E) : ∀ (n : Nat) (lo : Int), lo ≤ ν k → ν k < lo + (n : Int) → ∃ E1, E1 ∈ e_span E k lo n ∧ genv ν E1 := by
  intro n
  induction n with
  | zero => intro lo h1 h2; omega
  | succ n ih =>
    intro lo h1 h2
    rcases (show ν k = lo ∨ lo + 1 ≤ ν k by omega) with q | q
    · exact ⟨E.set k (lo, lo), List.mem_cons_self, genv_set hE ⟨by simp only; omega, by simp only; omega⟩⟩
    · obtain ⟨E1, m1, g1⟩ := ih (lo + 1) q (by omega)
      exact ⟨E1, List.mem_cons_of_mem _ m1, g1⟩
theorem e_ald_ok {ins : Instr} {t : Nat} (h : e_ald ins t = true) : (ins = .iaload ∧ t = 0) ∨ (ins = .baload ∧ t = 1) ∨ (ins = .baload ∧ t = 2) ∨ (ins = .laload ∧ t = 3) ∨ (ins = .aaload ∧ 4 ≤ t) := by
  unfold e_ald at h
  split at h
  · exact Or.inl ⟨rfl, beq3 h⟩
  · simp only [Bool.or_eq_true] at h
    rcases h with h | h
    · exact Or.inr (Or.inl ⟨rfl, beq3 h⟩)
    · exact Or.inr (Or.inr (Or.inl ⟨rfl, beq3 h⟩))
  · exact Or.inr (Or.inr (Or.inr (Or.inl ⟨rfl, beq3 h⟩)))
  · exact Or.inr (Or.inr (Or.inr (Or.inr ⟨rfl, Nat.le_of_ble_eq_true h⟩)))
  · cases h
set_option maxHeartbeats 4000000 in
theorem s_astep {S : ST} {x : List ST} {ins : Instr} {len : Nat} (X : Ctx OW D cy ν b M own p R s m args meth c A sc) (h : e_astep M sc S ins len = some x) (hd : decode (mC M) S.1 = .ok (ins, len)) (k : ∀ S' ∈ x, Safe D cy ν b pool al0 M p l e R s m args below meth c A Q S') : Safe D cy ν b pool al0 M p l e R s m args below meth c A Q S := by
  obtain ⟨pc, lo, st, E, C, nc, ns⟩ := S
  obtain ⟨x1, x2, x3, x4, x5, x6, x7, x8, x9, x10, x11, x12⟩ := X
  subst x10
  intro H locs ls lv vs ws a1 a2 a3 a4 a5 a6
  have split9 : ∀ {kk : Nat} {lo9 hi9 : Int} {y : List ST}, E[kk]? = some (lo9, hi9) → (if decide (hi9 - lo9 < 64) = true then some ((e_span E kk lo9 (hi9 - lo9 + 1).toNat).map (fun E1 => ((pc, lo, st, E1, C, nc, ns) : ST))) else none) = some y → y = x → W p l e (mRm M) s m args below meth c H locs nc ns Q (F0 m pc ls vs) := by
    intro kk lo9 hi9 y hE h hy
    split at h
    · cases h
      subst hy
      have w := a4 kk _ hE
      simp only at w
      obtain ⟨E1, m1, g1⟩ := e_span_ok a4 (hi9 - lo9 + 1).toNat lo9 w.1 (by omega)
      exact k _ (List.mem_map.mpr ⟨E1, m1, rfl⟩) H locs ls lv vs ws a1 a2 a3 g1 a5 a6
    · cases h
  unfold e_astep at h
  simp only at h a2 a3 a4 a5 hd ⊢
  split at h
  · -- a load
    split at h
    · rename_i i a st'
      split at h
      · rename_i j hj
        split at h
        · rename_i n0 t n d y hc
          split at h
          · rename_i q
            simp only [Bool.and_eq_true, decide_eq_true_eq] at q
            obtain ⟨q1, q2, q3, q4, q5⟩ := q
            have q4 := beq3 q4
            cases h
            subst q4
            obtain ⟨rfl, hC⟩ := e_cell_ok hc
            obtain ⟨v0, vs1, rfl, g1, g2⟩ := gvs_cons a3
            obtain ⟨v1, vs2, rfl, g3, g4⟩ := gvs_cons g2
            obtain ⟨xi, rfl, hxi⟩ := e_known_ok a4 g1 hj
            obtain ⟨qa, gq, rfl⟩ := g3
            exact h_ald x1 x2 x7.1 a5 hC gq (by have := Nat.le_of_ble_eq_true q1; omega) hxi q2 (by omega) (e_ald_ok q5) hd (fun v gv9 => k _ List.mem_cons_self H locs ls lv _ ws a1 a2 ⟨gv9, g4⟩ a4 a5 a6)
          · cases h
        · split at h
          · split at h
            · rename_i l6 z6 h6
              split at h
              · rename_i q
                simp only [Bool.and_eq_true, decide_eq_true_eq] at q
                obtain ⟨q1, q2, q3, q4⟩ := q
                have q2 := beq3 q2
                cases h
                subst q2
                subst q3
                obtain ⟨v0, vs1, rfl, g1, g2⟩ := gvs_cons a3
                obtain ⟨v1, vs2, rfl, g3, g4⟩ := gvs_cons g2
                obtain ⟨xi, rfl, hxi⟩ := e_known_ok a4 g1 hj
                have g3 : v1 = .ref b := g3
                subst g3
                obtain ⟨L, xs, y1, y2, y3, y4, y5, y6⟩ := x12 q1
                have w6 := a4 6 _ h6
                simp only at w6
                have hjL : j < L := by omega
                obtain ⟨hin, hcl⟩ := en_in (n := L) hxi hjL (by omega)
                refine va_sld x1 x2 y1 y2 y3 a5.2.2.2 hin hd (k _ List.mem_cons_self H locs ls lv _ ws a1 a2 ⟨⟨_, rfl, ?_⟩, g4⟩ a4 a5 a6)
                rw [hcl, y4 j hjL]
                omega
              · cases h
            · cases h
          · cases h
      · split at h
        · split at h
          · rename_i hE
            exact split9 hE h rfl
          · cases h
        · cases h
    · cases h
  · -- a store
    split at h
    · rename_i v i a st'
      split at h
      · rename_i j hj
        split at h
        · rename_i n0 t n d y hc
          split at h
          · rename_i q
            simp only [Bool.and_eq_true, decide_eq_true_eq] at q
            obtain ⟨q1, q2, q3, q4, q5, q6⟩ := q
            have q4 := beq3 q4
            cases h
            subst q4
            obtain ⟨rfl, hC⟩ := e_cell_ok hc
            obtain ⟨u0, vs0, rfl, g0, g00⟩ := gvs_cons a3
            obtain ⟨v0, vs1, rfl, g1, g2⟩ := gvs_cons g00
            obtain ⟨v1, vs2, rfl, g3, g4⟩ := gvs_cons g2
            obtain ⟨xi, rfl, hxi⟩ := e_known_ok a4 g1 hj
            obtain ⟨qa, gq, rfl⟩ := g3
            exact h_ast x1 x2 x7.1 a5 a4 hC gq (by have := Nat.le_of_ble_eq_true q1; omega) hxi q2 (by omega) g0 q6 q5 hd (fun ws' H' locs' e1 w1 => k _ List.mem_cons_self H' locs' ls lv _ ws' a1 (by rw [e1]; exact a2) (by rw [e1]; exact g4) a4 w1 (by rw [e1]; exact a6))
          · cases h
        · cases h
      · split at h
        · split at h
          · rename_i hE
            exact split9 hE h rfl
          · cases h
        · cases h
    · cases h
  · cases h
theorem e_cat_ok {f : ST → Option (List OUT)} : ∀ {x : List ST} {outs : List OUT}, e_cat f x = some outs → ∀ S ∈ x, ∃ o1, f S = some o1 ∧ ∀ o ∈ o1, o ∈ outs := by
  intro x
  induction x with
  | nil => intro outs _ S h; cases h
  | cons S0 r ih =>
    intro outs h S hS
    simp only [e_cat] at h
    split at h
    · rename_i a ha
      split at h
      · rename_i q hq
        cases h
        rcases List.mem_cons.mp hS with rfl | hS
        · exact ⟨a, ha, fun o ho => List.mem_append_left _ ho⟩
        · obtain ⟨o1, h1, h2⟩ := ih hq S hS
          exact ⟨o1, h1, fun o ho => List.mem_append_right _ (h2 o ho)⟩
      · cases h
    · cases h
theorem e_suf_in {T : List INS} {pc : Nat} : ∀ q ∈ e_suf T pc, q ∈ T := by
  induction T with
  | nil => intro q h; cases h
  | cons x r ih =>
    intro q h
    simp only [e_suf] at h
    split at h
    · exact h
    · exact List.mem_cons_of_mem _ (ih q h)
theorem e_next_in {tl : List INS} {pc : Nat} (hM : ∀ q ∈ mT M, decode (mC M) q.1 = .ok (q.2.2.1, q.2.2.2)) (h : ∀ q ∈ tl, decode (mC M) q.1 = .ok (q.2.2.1, q.2.2.2)) : ∀ q ∈ e_next M tl pc, decode (mC M) q.1 = .ok (q.2.2.1, q.2.2.2) := by
  unfold e_next
  split
  · split
    · exact h
    · exact fun q hq => hM q (e_suf_in q hq)
  · exact fun q hq => hM q (e_suf_in q hq)
/-- what a call answers, and the world behind it -/
def PO (cy : Nat → ClassId) (ν : Nat → Int) (b : Nat) (al0 : List Nat) (outs : List OUT) (u : va_W × OUT) : Prop := u.2 ∈ outs ∧ genv ν u.2.2.1 ∧ gW ν b cy u.2.2.2 u.1 ∧ ∃ more, alw u.1 = al0 ++ more
def BO (D : va_G) (pool : va_W) (A : Nat → Prop) (u : va_W × OUT) (t : State) : Prop := va_P D vwCl (pool ++ u.1) t.heap ∧ va_D A (pool ++ u.1)
def QJ (D : va_G) (cy : Nat → ClassId) (ν : Nat → Int) (b : Nat) (pool : va_W) (al0 : List Nat) (outs : List OUT) (A : Nat → Prop) (ret : Option FieldType) : Array Value → State → Outcome → State → Prop := match ret with
  | none => va_Qv (fun u : va_W × OUT => PO cy ν b al0 outs u ∧ u.2.1 = none) (BO D pool A) A
  | some .long => va_Ql (fun (r : Int64) (u : va_W × OUT) => PO cy ν b al0 outs u ∧ ∃ a, u.2.1 = some a ∧ gv ν (alw u.1) b a (.long r)) (BO D pool A) A
  | some _ => va_Qi (fun (r : Int32) (u : va_W × OUT) => PO cy ν b al0 outs u ∧ ∃ a, u.2.1 = some a ∧ gv ν (alw u.1) b a (.int r)) (BO D pool A) A
abbrev mW (M : MT) : List Cond := Cond.code (mY M) (mC M) (mL M) (mR M) :: BIG
def PJ (D : va_G) (cy : Nat → ClassId) (pool ws : va_W) (vs : List Value) (sz : Nat) : Array Value → State → Prop := va_Pc vs (fun U => U.heap.size = sz ∧ va_P D vwCl (pool ++ ws) U.heap ∧ KK D cy U ∧ va_D (fun _ => True) (pool ++ ws))
theorem e_args_ok {al : List Nat} : ∀ {as : List AV} {vs : List Value} (i : Nat), gvs ν al b as vs → glv ν al b (e_args i as) (lv_args i vs) := by
  intro as
  induction as with
  | nil => intro vs i h; rw [gvs_nil h]; trivial
  | cons a r ih =>
    intro vs i h
    obtain ⟨v, vs', rfl, g1, g2⟩ := gvs_cons h
    refine ⟨⟨rfl, g1⟩, ?_⟩
    have e9 : (if v.category = 2 then i + 2 else i + 1) = (if e_isL a = true then i + 2 else i + 1) := by
      cases h9 : e_isL a with
      | true => rw [gv_cat2 g1 h9]; rfl
      | false => rw [gv_cat1 g1 h9]; rfl
    show glv ν al b (e_args _ r) (lv_args (if v.category = 2 then i + 2 else i + 1) vs')
    rw [e9]
    exact ih _ g2
theorem lg_len (vs : List Value) : (lg_sl vs).length = (vs.map fun v => v.category).sum := by
  induction vs with
  | nil => rfl
  | cons v r ih =>
    unfold lg_sl at ih ⊢
    rw [List.flatMap_cons, List.length_append, ih, List.map_cons, List.sum_cons]
    rcases lv_cat v with q | q
    · rw [if_neg (by omega), q]; rfl
    · rw [if_pos q, q]; rfl
end STEPS3
end
section
section LE
variable {ν : Nat → Int} {b : Nat} {cy : Nat → ClassId} {E : EV}
theorem e_leV_ok {al : List Nat} {a a' : AV} {v : Value} (hE : genv ν E) (hv : gv ν al b a v) (h : e_leV E a a' = true) : gv ν al b a' v := by
  unfold e_leV at h
  split at h
  · rename_i h0
    rw [← h0]; exact hv
  · rcases a' with ⟨l', h'⟩ | ⟨k, c⟩ | ⟨l', h'⟩ | (_ | i) | _
    · simp only at h
      split at h
      · rename_i l h1 hi
        simp only [Bool.and_eq_true, decide_eq_true_eq] at h
        obtain ⟨x, rfl, g1, g2⟩ := gv_int hE hv hi
        exact ⟨x, rfl, by omega, by omega⟩
      · cases h
    · simp only at h
      split at h
      · rename_i l h1 l2 h2 hi hi2
        simp only [Bool.and_eq_true, decide_eq_true_eq] at h
        obtain ⟨x, rfl, g1, g2⟩ := gv_int hE hv hi
        simp only [e_iv] at hi2
        cases hk : E[k]? with
        | none => rw [hk] at hi2; cases hi2
        | some r =>
          rw [hk] at hi2
          obtain ⟨l3, h3⟩ := r
          simp only [Option.some.injEq, Prod.mk.injEq] at hi2
          have w := hE k _ hk
          simp only at w
          exact ⟨x, rfl, by omega⟩
      · cases h
    · rcases a with ⟨l0, h0⟩ | ⟨k0, c0⟩ | ⟨l0, h0⟩ | (_ | i0) | _
      · cases h
      · cases h
      · simp only [Bool.and_eq_true, decide_eq_true_eq] at h
        obtain ⟨x, rfl, g1, g2⟩ := hv
        exact ⟨x, rfl, by omega, by omega⟩
      · cases h
      · cases h
      · cases h
    · cases h
    · cases h
    · cases h
theorem e_leVs_ok {al : List Nat} (hE : genv ν E) : ∀ {x y : List AV} {vs : List Value}, gvs ν al b x vs → e_leVs E x y = true → gvs ν al b y vs := by
  intro x
  induction x with
  | nil =>
    intro y vs h1 h2
    cases y with
    | nil => exact h1
    | cons => cases h2
  | cons a r ih =>
    intro y vs h1 h2
    cases y with
    | nil => cases h2
    | cons a' r' =>
      simp only [e_leVs, Bool.and_eq_true] at h2
      obtain ⟨v, vs', rfl, g1, g2⟩ := gvs_cons h1
      exact ⟨e_leV_ok hE g1 h2.1, ih g2 h2.2⟩
theorem e_leL_ok {al : List Nat} {ls : Array Slot} {nL : Nat} {x : List (Nat × AV)} {lv : List (Nat × Value)} (hE : genv ν E) (hl : lv_has ls nL lv) (hg : glv ν al b x lv) : ∀ {y : List (Nat × AV)}, e_leL E x y = true → ∃ lv', lv_has ls nL lv' ∧ glv ν al b y lv' := by
  intro y
  induction y with
  | nil => intro _; exact ⟨[], ⟨hl.1, hl.2.1, fun q hq => by cases hq⟩, trivial⟩
  | cons q r ih =>
    intro h
    obtain ⟨i, a'⟩ := q
    simp only [e_leL, Bool.and_eq_true] at h
    obtain ⟨h1, h2⟩ := h
    obtain ⟨lv', g1, g2⟩ := ih h2
    split at h1
    · rename_i a ha
      obtain ⟨k, v, e1, g3⟩ := e_find_ok hg ha
      refine ⟨(i, v) :: lv', ⟨g1.1, g1.2.1, fun q hq => ?_⟩, ⟨rfl, e_leV_ok hE g3 h1⟩, g2⟩
      rcases List.mem_cons.mp hq with rfl | hq
      · exact lv_at hl k e1
      · exact g1.2.2 q hq
    · cases h1
theorem e_leE_ok : ∀ {x y : EV} (ν : Nat → Int), genv ν x → e_leE x y = true → genv ν y := by
  intro x
  induction x with
  | nil =>
    intro y ν h1 h2
    cases y with
    | nil => exact h1
    | cons => cases h2
  | cons q r ih =>
    intro y ν h1 h2
    cases y with
    | nil => intro k q hk; simp at hk
    | cons q' r' =>
      obtain ⟨l, h⟩ := q
      obtain ⟨l', h'⟩ := q'
      simp only [e_leE, Bool.and_eq_true, decide_eq_true_eq] at h2
      intro k z hk
      cases k with
      | zero =>
        simp at hk
        subst hk
        have := h1 0 (l, h) rfl
        simp only at this ⊢
        omega
      | succ k =>
        have := ih (y := r') (fun n => ν (n + 1)) (fun n z hn => h1 (n + 1) z hn) h2.2.2 k z hk
        exact this
theorem e_get_out {d : AV} : ∀ {x : List (Nat × AV)} {j : Nat}, (∀ q ∈ x, q.1 ≠ j) → e_get d x j = d := by
  intro x
  induction x with
  | nil => intro j _; rfl
  | cons q r ih =>
    intro j h
    obtain ⟨i, a⟩ := q
    simp only [e_get]
    rw [if_neg, ih (fun q hq => h q (List.mem_cons_of_mem _ hq))]
    intro h1
    exact h (i, a) List.mem_cons_self (Nat.eq_of_beq_eq_true h1)
theorem e_leA_ok {al : List Nat} {d d' : AV} {x x' : List (Nat × AV)} (hE : genv ν E) (h : e_leA E d d' x x' = true) (j : Nat) {v : Value} (hv : gv ν al b (e_get d x j) v) : gv ν al b (e_get d' x' j) v := by
  simp only [e_leA, Bool.and_eq_true] at h
  obtain ⟨h1, h2, h3⟩ := h
  by_cases m1 : ∃ q ∈ x, q.1 = j
  · obtain ⟨q, hq, rfl⟩ := m1
    exact e_leV_ok hE hv (List.all_eq_true.mp h2 q hq)
  · by_cases m2 : ∃ q ∈ x', q.1 = j
    · obtain ⟨q, hq, rfl⟩ := m2
      exact e_leV_ok hE hv (List.all_eq_true.mp h3 q hq)
    · rw [e_get_out (fun q hq e => m1 ⟨q, hq, e⟩)] at hv
      rw [e_get_out (fun q hq e => m2 ⟨q, hq, e⟩)]
      exact e_leV_ok hE hv h1
theorem e_leC_ok {al : List Nat} {c c' : AC} {e : va_E} (hE : genv ν E) (hc : gC ν al b cy c e) (h : e_leC E c c' = true) : gC ν al b cy c' e := by
  unfold e_leC at h
  split at h
  · simp only [Bool.and_eq_true] at h
    obtain ⟨h1, h2, h3⟩ := h
    have h1 := beq3 h1
    have h2 := beq3 h2
    subst h1
    subst h2
    rcases hc with ⟨g0, f, g1, g2⟩ | ⟨g0, f, g1, g2⟩ | ⟨g0, f, g1, g2⟩
    · exact Or.inl ⟨g0, f, g1, fun j hj => e_leA_ok hE h3 j (g2 j hj)⟩
    · exact Or.inr (Or.inl ⟨g0, f, g1, fun j hj => e_leA_ok hE h3 j (g2 j hj)⟩)
    · exact Or.inr (Or.inr ⟨g0, f, g1, fun j hj => e_leA_ok hE h3 j (g2 j hj)⟩)
  · simp only [Bool.and_eq_true] at h
    have h1 := beq3 h.1
    subst h1
    obtain ⟨vs, g1, g2⟩ := hc
    exact ⟨vs, g1, e_leVs_ok hE g2 h.2⟩
  · cases h
theorem e_leCs_at : ∀ {x y : List AC}, e_leCs E x y = true → x.length = y.length ∧ ∀ (i : Nat) (c' : AC), y[i]? = some c' → ∃ c, x[i]? = some c ∧ e_leC E c c' = true := by
  intro x
  induction x with
  | nil =>
    intro y h
    cases y with
    | nil => exact ⟨rfl, fun i c' h => by simp at h⟩
    | cons => cases h
  | cons a r ih =>
    intro y h
    cases y with
    | nil => cases h
    | cons a' r' =>
      simp only [e_leCs, Bool.and_eq_true] at h
      obtain ⟨h1, h2⟩ := ih h.2
      refine ⟨by simp [h1], fun i c' hi => ?_⟩
      cases i with
      | zero => simp at hi; subst hi; exact ⟨a, rfl, h.1⟩
      | succ i => simp at hi; obtain ⟨c, g1, g2⟩ := h2 i c' hi; exact ⟨c, by simpa using g1, g2⟩
theorem e_leCs_ok {x y : List AC} {ws : va_W} (hE : genv ν E) (h : e_leCs E x y = true) (hW : gW ν b cy x ws) : gW ν b cy y ws := by
  obtain ⟨h1, h2⟩ := e_leCs_at h
  refine ⟨by rw [← h1]; exact hW.1, fun i c' hi => ?_⟩
  obtain ⟨c, g1, g2⟩ := h2 i c' hi
  obtain ⟨q, e, g3, g4⟩ := hW.2 i c g1
  exact ⟨q, e, g3, e_leC_ok hE g4 g2⟩
theorem safe_le {D : va_G} {pool : va_W} {al0 : List Nat} {M : MT} {p : Program} {l : Launch} {e : Env} {R : Room} {s : State} {m : MethodId} {args : Array Value} {below : List Frame} {meth : Method} {c : Code} {A : Nat → Prop} {Q : State → Prop} {S S' : ST} (h : e_le S S' = true) (k : Safe D cy ν b pool al0 M p l e R s m args below meth c A Q S') : Safe D cy ν b pool al0 M p l e R s m args below meth c A Q S := by
  obtain ⟨pc, lo, st, E, C, nc, ns⟩ := S
  obtain ⟨pc', lo', st', E', C', nc', ns'⟩ := S'
  simp only [e_le, Bool.and_eq_true] at h
  obtain ⟨h1, h2, h3, h4, h5, h6, h7⟩ := h
  have h1 := beq3 h1
  subst h1
  intro H locs ls lv vs ws a1 a2 a3 a4 a5 a6
  simp only at a2 a3 a4 a5 ⊢
  obtain ⟨lv', g1, g2⟩ := e_leL_ok a4 a1 a2 h4
  refine W.widen (k := nc') (n := ns') (Nat.le_of_ble_eq_true h6) (Nat.le_of_ble_eq_true h7) ?_
  exact k H locs ls lv' vs ws g1 g2 (e_leVs_ok a4 a3 h2) (e_leE_ok ν a4 h3) ⟨e_leCs_ok a4 h5 a5.1, a5.2⟩ a6
end LE
end
section
section CALL
variable {RT : List (List (Nat × RES))} {P : List MT} {OW : List String} {ν : Nat → Int} {b : Nat} {cy : Nat → ClassId} {pool : va_W} {D : va_G} {A : Nat → Prop} {al0 : List Nat} {M : MT} {own : String} {sc : Bool}
variable {p : Program} {l : Launch} {e : Env} {R : Room} {s : State} {m : MethodId} {args : Array Value} {below : List Frame} {meth : Method} {c : Code} {Q : State → Prop}
/-- a method's contract out of its walk from the entry -/
theorem met_of {M' : MT} {as : List AV} {vs : List Value} {E : EV} {C : List AC} {ws : va_W} {outs : List OUT} (sz : Nat) (hM : MOK M') (hT : TOK OW M') (ho : OW[mO M']? = some (mY M').cls) (hg : gvs ν (alw ws) b as vs) (hE : genv ν E) (hW : gW ν b cy C ws) (hl : e_cats as ≤ mL M')
    (walk : ∀ (p : Program) (e : Env) (s : State) (m : MethodId) (args : Array Value) (below : List Frame) (meth : Method) (c : Code) (A : Nat → Prop) (Q : State → Prop), Ctx OW D cy ν b M' (mY M').cls p (mRm M') s m args meth c A false → RetOK D cy ν b pool (alw ws) M' p l e (mRm M') s m args below meth c A Q outs → Safe D cy ν b pool (alw ws) M' p l e (mRm M') s m args below meth c A Q (0, e_args 0 as, [], E, C, 0, 0)) :
    Met l (mY M') (mW M') (mRm M') (PJ D cy pool ws vs sz) (QJ D cy ν b pool (alw ws) outs (va_A (pool ++ ws) sz) (mR M')) (mNc M') (mNs M') (va_A (pool ++ ws) sz) := by
  obtain ⟨m1, m2, m3, m4, m5, m6, m7, m8, m9⟩ := hM
  refine va_MetF (cc := mC M') (maxL := mL M') (ret := mR M') m1 rfl ?_
  intro p e s m args below meth c s₁ B hml hv
  obtain ⟨rfl, hsz, hP, hK, hD0⟩ := hv
  have hx := B.exec
  have hb := B.bytes
  have hr := B.returns
  have hts := atoms_spec (ws := mW M') B.pre
  have hown : s.vm.findClass (mY M').cls = some m.cls := findClass_of_methodNamed B.named
  have hlocks := B.notSynchronized
  have hname := (name_of_methodNamed B.named B.method).1
  subst hsz
  have hD := hD0.self (sz := s.heap.size)
  generalize hAe : va_A (pool ++ ws) s.heap.size = A at hD ⊢
  have hA : ∀ q : Nat, s.heap.size ≤ q → A q := fun q h => by rw [← hAe]; exact Or.inr h
  have hS : va_S A s.heap s.heap [] := va_S.rf
  have hlen : (lg_sl vs).length ≤ mL M' := by rw [lg_len, cats_ok hg]; exact hl
  have hlv := lv_entry vs (n := mL M') hlen
  rw [lg_entry_eq]
  generalize (lg_sl vs ++ List.replicate (mL M' - (lg_sl vs).length) Slot.unset).toArray = ls at hlv ⊢
  have X : Ctx OW D cy ν b M' (mY M').cls p (mRm M') s m vs.toArray meth c A false := ⟨hx, hb, hml, ho, hown, fun w hw => hts w (List.mem_cons_of_mem _ hw), hK, hA, fun h => hname.trans (m8 h).1, rfl, hT, fun h => by cases h⟩
  refine walk p e s m vs.toArray below meth c A _ X ?_ s.heap [] ls (lv_args 0 vs) [] ws hlv (e_args_ok 0 hg) trivial hE ⟨hW, hP, hD, hS⟩ ⟨[], by simp⟩
  intro o ho9 ins pc H locs ls' ws' v hd hv9 hE' hW' hal
  obtain ⟨w1, w2, w3, w4⟩ := hW'
  have po : PO cy ν b (alw ws) outs (ws', o) := ⟨ho9, hE', w1, hal⟩
  rcases hv9 with ⟨rfl, a, x, ty, e1, rfl, g1, e2, e3, e4⟩ | ⟨rfl, a, x, e1, rfl, g1, e2⟩ | ⟨rfl, e1, rfl, e2⟩
  · have hq : QJ D cy ν b pool (alw ws) outs A (mR M') = va_Qi (fun (r : Int32) (u : va_W × OUT) => PO cy ν b (alw ws) outs u ∧ ∃ a, u.2.1 = some a ∧ gv ν (alw u.1) b a (.int r)) (BO D pool A) A := by
      rw [e2]
      rcases e3 with rfl | rfl <;> rfl
    rw [hq]
    rw [e2] at hr
    exact W.zret hx hb hr e4 (fun t ht hW9 => ⟨⟨x, (ws', o), rfl, ⟨po, a, e1, g1⟩, by rw [BO, ht]; exact ⟨w2, w3⟩⟩, w4.F ht⟩) w4.2.2 hd
  · have hq : QJ D cy ν b pool (alw ws) outs A (mR M') = va_Ql (fun (r : Int64) (u : va_W × OUT) => PO cy ν b (alw ws) outs u ∧ ∃ a, u.2.1 = some a ∧ gv ν (alw u.1) b a (.long r)) (BO D pool A) A := by
      rw [e2]; rfl
    rw [hq]
    rw [e2] at hr
    exact W.lret hx hb hr (fun t ht hW9 => ⟨⟨x, (ws', o), rfl, ⟨po, a, e1, g1⟩, by rw [BO, ht]; exact ⟨w2, w3⟩⟩, w4.F ht⟩) w4.2.2 hd
  · have hq : QJ D cy ν b pool (alw ws) outs A (mR M') = va_Qv (fun u : va_W × OUT => PO cy ν b (alw ws) outs u ∧ u.2.1 = none) (BO D pool A) A := by
      rw [e2]; rfl
    rw [hq]
    rw [e2] at hr
    exact W.vret hx hb hr (fun t ht hW9 => ⟨⟨(ws', o), rfl, ⟨po, e1⟩, by rw [BO, ht]; exact ⟨w2, w3⟩⟩, w4.F ht⟩) w4.2.2 hd
theorem e_take_ok {al : List Nat} : ∀ (n : Nat) {st acc as rest : List AV} {vs vacc : List Value}, e_take n st acc = some (as, rest) → gvs ν al b st vs → gvs ν al b acc vacc → ∃ vas vr, vs = vas ++ vr ∧ vas.length = n ∧ gvs ν al b as (vas.reverse ++ vacc) ∧ gvs ν al b rest vr := by
  intro n
  induction n with
  | zero =>
    intro st acc as rest vs vacc h h1 h2
    simp only [e_take] at h
    cases h
    exact ⟨[], vs, rfl, rfl, h2, h1⟩
  | succ n ih =>
    intro st acc as rest vs vacc h h1 h2
    unfold e_take at h
    cases st with
    | nil => cases h
    | cons a r =>
      simp only at h
      obtain ⟨v, vs', rfl, g1, g2⟩ := gvs_cons h1
      obtain ⟨vas, vr, rfl, e2, g3, g4⟩ := ih h g2 (show gvs ν al b (a :: acc) (v :: vacc) from ⟨g1, h2⟩)
      refine ⟨v :: vas, vr, rfl, by simp [e2], ?_, g4⟩
      simpa using g3
theorem mW_good {M' : MT} (hM : MOK M') : GoodIn BIG (mW M') := by
  intro w hw
  rcases List.mem_cons.mp hw with rfl | hw
  · exact ⟨hM.2.1, good_of_word (big_good _ hM.2.1)⟩
  · exact ⟨hw, good_of_word (big_good _ hw)⟩
theorem pj_blind {ws : va_W} {vs : List Value} {sz : Nat} : FrameBlind (PJ D cy pool ws vs sz) := fun a U g mk q => by
  obtain ⟨q0, q1, qP, qK, qD⟩ := q
  exact ⟨q0, q1, qP, qK.calling, qD⟩
/-- behind a call that has run -/
theorem s_after {M' : MT} {H : Heap} {locs : List Loc} {ls : Array Slot} {lv : List (Nat × Value)} {pc nc ns : Nat} {lo : List (Nat × AV)} {rest : List AV} {E : EV} {C : List AC} {vr : List Value} {ws : va_W} {st0 : List Value} {a0 : Array Value} {outs : List OUT} (X : Ctx OW D cy ν b M own p R s m args meth c A sc) (hr9 : mR M' = none ∨ mR M' = some .int ∨ mR M' = some .boolean ∨ mR M' = some .long)
    (run : va_Run p l e R s m args below meth c H locs nc ns (mNc M') (mNs M') (F0 m pc ls st0) vr (QJ D cy ν b pool (alw ws) outs (va_A (pool ++ ws) H.size) (mR M') a0) (va_A (pool ++ ws) H.size))
    (a1 : lv_has ls (mL M) lv) (a2 : glv ν (alw ws) b lo lv) (g4 : gvs ν (alw ws) b rest vr) (a5 : Wd D cy A s.heap pool ν b C ws H locs) (a6 : ∃ more, alw ws = al0 ++ more)
    (k : ∀ o ∈ outs, Safe D cy ν b pool al0 M p l e R s m args below meth c A Q (e_aft M' (pc + 3, lo, rest, E, C, nc + mNc M', ns + mNs M') o)) : W p l e R s m args below meth c H locs nc ns Q (F0 m pc ls st0) := by
  obtain ⟨x1, x2, x3, x4, x5, x6, x7, x8, x9, x10, x11, x12⟩ := X
  obtain ⟨w1, w2, w3, w4⟩ := a5
  have hF : ∀ q, va_A (pool ++ ws) H.size q → A q := by
    intro q hq
    rcases hq with ⟨kq, eq, h1⟩ | h1
    · exact w3.2 _ _ h1
    · exact x8 q (Nat.le_trans w4.1 h1)
  have fin : ∀ (u : va_W × OUT) (t : State) (H1 : Heap) (locs1 : List Loc), t.heap = H1 → PO cy ν b (alw ws) outs u → BO D pool (va_A (pool ++ ws) H.size) u t → va_S A s.heap H1 locs1 → Wd D cy A s.heap pool ν b u.2.2.2 u.1 H1 locs1 ∧ glv ν (alw u.1) b lo lv ∧ gvs ν (alw u.1) b rest vr ∧ ∃ more, alw u.1 = al0 ++ more := by
    intro u t H1 locs1 ht hpo hbo hS
    obtain ⟨p1, p2, p3, more, p4⟩ := hpo
    refine ⟨⟨p3, by rw [← ht]; exact hbo.1, hbo.2.weaken (fun _ _ _ hq => hF _ hq), hS⟩, by rw [p4]; exact glv_app _ a2, by rw [p4]; exact gvs_app _ g4, ?_⟩
    obtain ⟨more0, e0⟩ := a6
    exact ⟨more0 ++ more, by rw [p4, e0, List.append_assoc]⟩
  rcases hr9 with e9 | e9 | e9 | e9
  · rw [e9] at run
    refine va_callv (a := a0) run w4 (fun q _ hq => hF q hq) hF (fun u t H1 locs1 ht hvm hw hB hz hk hS => ?_)
    obtain ⟨f1, f2, f3, f4⟩ := fin u t H1 locs1 ht hw.1 hB hS
    have := k u.2 hw.1.1
    obtain ⟨uw, r, Eo, Co⟩ := u
    have hn : r = none := hw.2
    subst hn
    exact this H1 locs1 ls lv vr uw a1 f2 f3 hw.1.2.1 f1 f4
  · rw [e9] at run
    refine va_calli (a := a0) run w4 (fun q _ hq => hF q hq) hF (fun r u t H1 locs1 ht hvm hw hB hz hk hS => ?_)
    obtain ⟨f1, f2, f3, f4⟩ := fin u t H1 locs1 ht hw.1 hB hS
    have := k u.2 hw.1.1
    obtain ⟨uw, r', Eo, Co⟩ := u
    obtain ⟨a, ha, ga⟩ := hw.2
    have ha : r' = some a := ha
    subst ha
    exact this H1 locs1 ls lv (.int r :: vr) uw a1 f2 ⟨ga, f3⟩ hw.1.2.1 f1 f4
  · rw [e9] at run
    refine va_calli (a := a0) run w4 (fun q _ hq => hF q hq) hF (fun r u t H1 locs1 ht hvm hw hB hz hk hS => ?_)
    obtain ⟨f1, f2, f3, f4⟩ := fin u t H1 locs1 ht hw.1 hB hS
    have := k u.2 hw.1.1
    obtain ⟨uw, r', Eo, Co⟩ := u
    obtain ⟨a, ha, ga⟩ := hw.2
    have ha : r' = some a := ha
    subst ha
    exact this H1 locs1 ls lv (.int r :: vr) uw a1 f2 ⟨ga, f3⟩ hw.1.2.1 f1 f4
  · rw [e9] at run
    refine va_calll (a := a0) run w4 (fun q _ hq => hF q hq) hF (fun r u t H1 locs1 ht hvm hw hB hz hk hS => ?_)
    obtain ⟨f1, f2, f3, f4⟩ := fin u t H1 locs1 ht hw.1 hB hS
    have := k u.2 hw.1.1
    obtain ⟨uw, r', Eo, Co⟩ := u
    obtain ⟨a, ha, ga⟩ := hw.2
    have ha : r' = some a := ha
    subst ha
    exact this H1 locs1 ls lv (.long r :: vr) uw a1 f2 ⟨ga, f3⟩ hw.1.2.1 f1 f4
end CALL
end
section
section SOUND
variable {RT : List (List (Nat × RES))} {P : List MT} {OW : List String} {ν : Nat → Int} {b : Nat} {cy : Nat → ClassId} {pool : va_W} {D : va_G} {l : Launch} {cuts : List ST}
/-- a call: its words, its run, what is behind it -/
theorem s_call {p : Program} {e : Env} {R : Room} {s : State} {m : MethodId} {args : Array Value} {below : List Frame} {meth : Method} {c : Code} {Q : State → Prop} {A : Nat → Prop} {al0 : List Nat} {M M' : MT} {own : String} {sc : Bool} {S S' : ST} {ins : Instr} {len j : Nat} {as : List AV} {outs : List OUT}
    (hP : POK P RT OW) (X : Ctx OW D cy ν b M own p R s m args meth c A sc) (h : e_call P RT M S ins len = some (M', j, as, S')) (hd : decode (mC M) S.1 = .ok (ins, len))
    (walk : ∀ (al1 : List Nat) (p : Program) (e : Env) (s : State) (m : MethodId) (args : Array Value) (below : List Frame) (meth : Method) (c : Code) (A : Nat → Prop) (Q : State → Prop), Ctx OW D cy ν b M' (mY M').cls p (mRm M') s m args meth c A false → RetOK D cy ν b pool al1 M' p l e (mRm M') s m args below meth c A Q outs → Safe D cy ν b pool al1 M' p l e (mRm M') s m args below meth c A Q (0, e_args 0 as, [], S.2.2.2.1, S.2.2.2.2.1, 0, 0))
    (k : ∀ o ∈ outs, Safe D cy ν b pool al0 M p l e R s m args below meth c A Q (e_aft M' S' o)) : Safe D cy ν b pool al0 M p l e R s m args below meth c A Q S := by
  obtain ⟨pc, lo, st, E, C, nc, ns⟩ := S
  intro H locs ls lv vs ws a1 a2 a3 a4 a5 a6
  unfold e_call at h
  simp only at h a2 a3 a4 a5 hd walk ⊢
  split at h
  · rename_i kd i hki
    split at h
    · rename_i rk j0 z1 z2 hr
      split at h
      · rename_i M0 hj
        split at h
        · rename_i as0 rest0 htk
          split at h
          · rename_i as1 rest1 hrec
            split at h
            · rename_i q
              simp only [Bool.and_eq_true, Bool.or_eq_true] at q
              obtain ⟨q1, q2, q3, q4, q5, q6, q7, q8, q9⟩ := q
              have q2 := beq3 q2
              have q3 := beq3 q3
              have q4 := Nat.le_of_ble_eq_true q4
              have q5 := Nat.le_of_ble_eq_true q5
              have q6 := Nat.le_of_ble_eq_true q6
              have q7 := Nat.le_of_ble_eq_true q7
              have q8 := Nat.le_of_ble_eq_true q8
              have q9 := Nat.le_of_ble_eq_true q9
              cases h
              subst q3
              obtain ⟨mok, tok, ow⟩ := hP.1 _ _ hj
              have hro := e_res_ok hP X.2.2.2.1 hr
              obtain ⟨vas, vr0, rfl, hlen, g1, g2⟩ := e_take_ok _ htk a3 (show gvs ν (alw ws) b [] [] from trivial)
              rw [List.append_nil] at g1
              have hRm : R = mRm M := X.2.2.2.2.2.2.2.2.2.1
              have hx3 := X.2.2.1
              -- the words of the call
              have cb : ∀ w, w ∈ BIG → w.before args s = true := X.2.2.2.2.2.1
              have hd5 : ∀ sig, parseMethodDescriptor (mY M').desc = some sig → mA M' = sig.parameters.length := by
                intro sig hs
                have h2 := mok.2.2.2.2.1
                rw [hs] at h2
                exact (Option.some.inj h2).symm
              have fix : CallFix p m c (mC M) (mL M) s args BIG own := ⟨X.1, X.2.1, X.2.2.1, X.2.2.2.2.1, cb⟩
              have hR : (mRm M').frames + 1 ≤ R.frames ∧ 8 + (mL M' + 11) + (mRm M').locals ≤ R.locals := by rw [hRm]; exact ⟨q5, q6⟩
              have hfin : nc + mNc M' ≤ R.cells ∧ ns + mNs M' ≤ R.slots := by rw [hRm]; exact ⟨q7, q8⟩
              have cB : Cond.methodLink own i (mY M') ∈ BIG → CallB R s args own i (mY M') (mC M') (mL M') (mR M') (mW M') (mRm M') (mNc M') (mNs M') (mA M') := by
                intro hl
                exact callB_of (mA M') cb (mW_good mok) rfl rfl rfl (cb _ mok.2.2.1) (cb _ hl) ⟨mok.2.2.2.1.1, mok.2.2.2.1.2, mok.2.2.2.2.1⟩ hR
              have cN : ∀ host, Cond.methodLinkNest own i (mY M') host ∈ NST → va_CN R s args own i (mY M') host (mC M') (mL M') (mR M') (mW M') (mRm M') (mNc M') (mNs M') (mA M') := by
                intro host hl
                exact va_cnB (mA M') cb (mW_good mok) rfl rfl rfl (X.2.2.2.2.2.2.1.2.1 _ hl) (cb _ mok.2.2.1) ⟨mok.2.2.2.1.1, mok.2.2.2.1.2, mok.2.2.2.2.1⟩ hR
              have hlk : (Cond.methodLink own i (mY M') ∈ BIG) ∨ ∃ host, Cond.methodLinkNest own i (mY M') host ∈ NST := by
                rcases q1 with q1 | q1
                · have q1 := beq3 q1
                  subst q1
                  obtain ⟨M1, h1, h2⟩ := hro
                  rw [hj] at h1
                  cases h1
                  exact Or.inl h2
                · have q1 := beq3 q1
                  subst q1
                  obtain ⟨M1, host, h1, h2⟩ := hro
                  rw [hj] at h1
                  cases h1
                  exact Or.inr ⟨host, h2⟩
              have pre : ∀ (vals : List Value) (U : State), U.heap = H → s.WarmedH U.vm → PJ D cy pool ws vals H.size vals.toArray U := fun vals U hU hW => ⟨rfl, by rw [hU], by rw [hU]; exact a5.2.1, KK.warm hW X.2.2.2.2.2.2.1, a5.2.2.1.weaken (fun _ _ _ _ => trivial)⟩
              have hret9 := mok.2.2.2.2.2.2.2.2
              split at hki
              · -- static
                cases hki
                rw [if_pos (show Nat.beq 0 0 = true from rfl)] at hrec
                cases hrec
                have met := met_of (D := D) (pool := pool) (l := l) H.size mok tok ow g1 a4 a5.1 q9 (fun p e s m args below meth c A Q => walk (alw ws) p e s m args below meth c A Q)
                have hstk : (F0 m pc ls (vas ++ vr0)).stack = (vas.reverse).reverse ++ vr0 := by rw [List.reverse_reverse]
                have hW9 := lv_room (m := m) (pc := pc) (ls := ls) (rest := vas ++ vr0) (st := vr0) (by rw [cats_ok g2]; exact q4)
                have hst := mok.2.2.2.2.2.1 q2
                rcases hlk with hl | ⟨host, hl⟩
                · exact s_after X hret9 (va_runS fix met ⟨cB hl, cb _ hst⟩ ⟨pj_blind, fun U hU hW => pre _ U hU hW⟩ rfl (by rw [List.length_reverse]; exact hlen) a1.1 hstk hW9 hd hfin) a1 a2 g2 a5 a6 k
                · exact s_after X hret9 (va_runSN fix met ⟨cN host hl, cb _ hst, trivial⟩ ⟨pj_blind, fun U hU hW => pre _ U hU hW⟩ rfl (by rw [List.length_reverse]; exact hlen) a1.1 hstk hW9 hd hfin) a1 a2 g2 a5 a6 k
              · -- of an object
                cases hki
                rw [if_neg (by decide)] at hrec
                split at hrec
                · rename_i n rest2
                  split at hrec
                  · rename_i ci fs hci
                    split at hrec
                    · rename_i hci2
                      have hci2 := beq3 hci2
                      cases hrec
                      obtain ⟨v, vr, rfl, g3, g4⟩ := gvs_cons g2
                      obtain ⟨qa, gq, rfl⟩ := g3
                      have g5 : gvs ν (alw ws) b (aR n :: as0) (.ref qa :: vas.reverse) := ⟨⟨qa, gq, rfl⟩, g1⟩
                      have met := met_of (D := D) (pool := pool) (l := l) H.size mok tok ow g5 a4 a5.1 q9 (fun p e s m args below meth c A Q => walk (alw ws) p e s m args below meth c A Q)
                      have hstk : (F0 m pc ls (vas ++ .ref qa :: vr)).stack = (vas.reverse).reverse ++ .ref qa :: vr := by rw [List.reverse_reverse]
                      have hW9 := lv_room (m := m) (pc := pc) (ls := ls) (rest := vas ++ .ref qa :: vr) (st := vr) (by rw [cats_ok g4]; exact q4)
                      obtain ⟨i1, i2, r, r1, r2⟩ := mok.2.2.2.2.2.2.1 q2
                      obtain ⟨q', e', h1, h2, fvs, rfl, h3⟩ := gW_at a5.1 hci
                      rw [gq] at h2
                      cases h2
                      rw [← hci2] at r1
                      have hrecv := va_recv X.2.2.2.2.2.2.1.1 a5.2.1 r1 (pw_at h1)
                      rw [r2] at hrecv
                      rcases hlk with hl | ⟨host, hl⟩
                      · exact s_after X hret9 (va_runV (C := (mY M').cls) fix met ⟨cB hl, cb _ i1, cb _ i2⟩ ⟨pj_blind, hrecv, fun U hU hW => pre _ U hU hW⟩ rfl (by rw [List.length_reverse]; exact hlen) a1.1 hstk hW9 hd hfin) a1 a2 g4 a5 a6 k
                      · exact s_after X hret9 (va_runVN (C := (mY M').cls) fix met ⟨cN host hl, cb _ i1, cb _ i2⟩ ⟨pj_blind, hrecv, fun U hU hW => pre _ U hU hW⟩ rfl (by rw [List.length_reverse]; exact hlen) a1.1 hstk hW9 hd hfin) a1 a2 g4 a5 a6 k
                    · cases hrec
                  · cases hrec
                · cases hrec
              · -- a maker
                cases hki
                rw [if_neg (by decide)] at hrec
                split at hrec
                · rename_i n rest2
                  split at hrec
                  · rename_i ci fs hci
                    split at hrec
                    · cases hrec
                      obtain ⟨v, vr, rfl, g3, g4⟩ := gvs_cons g2
                      obtain ⟨qa, gq, rfl⟩ := g3
                      have g5 : gvs ν (alw ws) b (aR n :: as0) (.ref qa :: vas.reverse) := ⟨⟨qa, gq, rfl⟩, g1⟩
                      have met := met_of (D := D) (pool := pool) (l := l) H.size mok tok ow g5 a4 a5.1 q9 (fun p e s m args below meth c A Q => walk (alw ws) p e s m args below meth c A Q)
                      have hstk : (F0 m pc ls (vas ++ .ref qa :: vr)).stack = (vas.reverse).reverse ++ .ref qa :: vr := by rw [List.reverse_reverse]
                      have hW9 := lv_room (m := m) (pc := pc) (ls := ls) (rest := vas ++ .ref qa :: vr) (st := vr) (by rw [cats_ok g4]; exact q4)
                      obtain ⟨i1, i2, i3⟩ := mok.2.2.2.2.2.2.2.1 q2
                      rcases hlk with hl | ⟨host, hl⟩
                      · have cB' := cB hl
                        rw [i3] at cB'
                        exact s_after X hret9 (va_runI fix met ⟨cB', i1, cb _ i2⟩ ⟨pj_blind, fun U hU hW => pre _ U hU hW⟩ rfl (by rw [List.length_reverse]; exact hlen) a1.1 hstk hW9 hd hfin) a1 a2 g4 a5 a6 k
                      · have cN' := cN host hl
                        rw [i3] at cN'
                        exact s_after X hret9 (va_runIN fix met ⟨cN', i1, cb _ i2⟩ ⟨pj_blind, fun U hU hW => pre _ U hU hW⟩ rfl (by rw [List.length_reverse]; exact hlen) a1.1 hstk hW9 hd hfin) a1 a2 g4 a5 a6 k
                    · cases hrec
                  · cases hrec
                · cases hrec
              · cases hki
            · cases h
          · cases h
        · cases h
      · cases h
    · cases h
  · cases h
end SOUND
end
section
section MAIN
variable {RT : List (List (Nat × RES))} {P : List MT} {OW : List String} {ν : Nat → Int} {b : Nat} {cy : Nat → ClassId} {pool : va_W} {D : va_G} {l : Launch} {cuts : List ST}
theorem s_ret {p : Program} {e : Env} {R : Room} {s : State} {m : MethodId} {args : Array Value} {below : List Frame} {meth : Method} {c : Code} {Q : State → Prop} {A : Nat → Prop} {al0 : List Nat} {M : MT} {S : ST} {ins : Instr} {len : Nat} {r : Option AV} {outs : List OUT}
    (h : e_ret M S ins len = some r) (hd : decode (mC M) S.1 = .ok (ins, len)) (ho : (r, S.2.2.2.1, S.2.2.2.2.1) ∈ outs) (hR : RetOK D cy ν b pool al0 M p l e R s m args below meth c A Q outs) : Safe D cy ν b pool al0 M p l e R s m args below meth c A Q S := by
  obtain ⟨pc, lo, st, E, C, nc, ns⟩ := S
  intro H locs ls lv vs ws a1 a2 a3 a4 a5 a6
  unfold e_ret at h
  simp only at h a2 a3 a4 a5 hd ho ⊢
  split at h
  · rename_i q
    simp only [Bool.and_eq_true] at q
    have q3 := beq3 q.2.2
    subst q3
    refine W.widen (k := mNc M) (n := mNs M) (Nat.le_of_ble_eq_true q.1) (Nat.le_of_ble_eq_true q.2.1) ?_
    split at h
    · rename_i a hr
      split at h
      · rename_i q1 hq1
        cases h
        obtain ⟨v, vs1, rfl, g1, g2⟩ := gvs_cons a3
        rw [gvs_nil g2]
        obtain ⟨x, rfl, -⟩ := gv_int a4 g1 hq1
        exact hR _ ho _ pc H locs ls ws (some (.int x)) hd (Or.inl ⟨rfl, a, x, .int, rfl, rfl, g1, hr, Or.inl rfl, rfl⟩) a4 a5 a6
      · cases h
    · rename_i a hr
      split at h
      · rename_i lo9 hi9 hq1
        split at h
        · rename_i q2
          simp only [Bool.and_eq_true, decide_eq_true_eq] at q2
          cases h
          obtain ⟨v, vs1, rfl, g1, g2⟩ := gvs_cons a3
          rw [gvs_nil g2]
          obtain ⟨x, rfl, y1, y2⟩ := gv_int a4 g1 hq1
          refine hR _ ho _ pc H locs ls ws (some (.int x)) hd (Or.inl ⟨rfl, a, x, .boolean, rfl, rfl, g1, hr, Or.inr rfl, ?_⟩) a4 a5 a6
          rcases en_b01 (x := x) (by omega) (by omega) with rfl | rfl <;> decide
        · cases h
      · cases h
    · rename_i a hr
      split at h
      · rename_i q1
        cases h
        obtain ⟨v, vs1, rfl, g1, g2⟩ := gvs_cons a3
        rw [gvs_nil g2]
        obtain ⟨x, rfl⟩ := gv_isL g1 q1
        exact hR _ ho _ pc H locs ls ws (some (.long x)) hd (Or.inr (Or.inl ⟨rfl, a, x, rfl, rfl, g1, hr⟩)) a4 a5 a6
      · cases h
    · rename_i hr
      cases h
      rw [gvs_nil a3]
      exact hR _ ho _ pc H locs ls ws none hd (Or.inr (Or.inr ⟨rfl, rfl, rfl, hr⟩)) a4 a5 a6
    · cases h
  · cases h
theorem e_sound (hP : POK P RT OW) : ∀ (fuel : Nat) (tp sc : Bool) (M : MT) (suf : List INS) (S : ST) (outs : List OUT), e_run P RT cuts fuel tp sc M suf S = some outs → (∀ q ∈ suf, decode (mC M) q.1 = .ok (q.2.2.1, q.2.2.2)) →
    ∀ (al0 : List Nat) (own : String) (p : Program) (e : Env) (R : Room) (s : State) (m : MethodId) (args : Array Value) (below : List Frame) (meth : Method) (c : Code) (A : Nat → Prop) (Q : State → Prop), Ctx OW D cy ν b M own p R s m args meth c A sc → RetOK D cy ν b pool al0 M p l e R s m args below meth c A Q outs →
      (tp = true → ∀ S' ∈ cuts, Safe D cy ν b pool al0 M p l e R s m args below meth c A Q S') →
      Safe D cy ν b pool al0 M p l e R s m args below meth c A Q S := by
  intro fuel
  induction fuel with
  | zero => intro tp sc M suf S outs h; cases h
  | succ fuel ih =>
    intro tp sc M suf S outs h hsuf al0 own p e R s m args below meth c A Q X hR hcut
    cases suf with
    | nil => simp only [e_run] at h; cases h
    | cons q tl =>
      obtain ⟨pc, tag, ins, len⟩ := q
      simp only [e_run] at h
      split at h
      · rename_i hpc
        have hpc := beq3 hpc
        have h0 : decode (mC M) pc = .ok (ins, len) := hsuf (pc, tag, ins, len) List.mem_cons_self
        have hd : decode (mC M) S.1 = .ok (ins, len) := by rw [hpc] at h0; exact h0
        have hM : ∀ q ∈ mT M, decode (mC M) q.1 = .ok (q.2.2.1, q.2.2.2) := X.2.2.2.2.2.2.2.2.2.2.1.1
        have htl : ∀ q ∈ tl, decode (mC M) q.1 = .ok (q.2.2.1, q.2.2.2) := fun q hq => hsuf q (List.mem_cons_of_mem _ hq)
        have go : ∀ S' outs', e_run P RT cuts fuel tp sc M (e_next M tl S'.1) S' = some outs' → (∀ o ∈ outs', o ∈ outs) → Safe D cy ν b pool al0 M p l e R s m args below meth c A Q S' := by
          intro S' outs' h1 h2
          exact ih tp sc M _ S' outs' h1 (e_next_in hM htl) al0 own p e R s m args below meth c A Q X (fun o ho => hR o (h2 o ho)) hcut
        split at h
        · split at h
          · rename_i S' h1
            exact s_simple X h1 hd (go S' outs h (fun _ h => h))
          · cases h
        · split at h
          · rename_i x h1
            refine s_branch X h1 hd (fun S' hS' => ?_)
            obtain ⟨o1, h2, h3⟩ := e_cat_ok h S' hS'
            exact go S' o1 h2 h3
          · cases h
        · split at h
          · rename_i S' h1
            exact s_hstep hP X h1 hd (go S' outs h (fun _ h => h))
          · cases h
        · split at h
          · rename_i x h1
            refine s_astep X h1 hd (fun S' hS' => ?_)
            obtain ⟨o1, h2, h3⟩ := e_cat_ok h S' hS'
            exact go S' o1 h2 h3
          · cases h
        · split at h
          · rename_i M' j as S' h1
            split at h
            · rename_i outs2 h2
              refine s_call hP X h1 hd (outs := outs2) (fun al1 p' e' s' m' args' below' meth' c' A' Q' X' hR' => ?_) (fun o ho => ?_)
              · exact ih false false M' (mT M') _ outs2 h2 X'.2.2.2.2.2.2.2.2.2.2.1.1 al1 _ p' e' _ s' m' args' below' meth' c' A' Q' X' hR' (fun h => by cases h)
              · obtain ⟨o1, h3, h4⟩ := e_cat_ok h _ (List.mem_map.mpr ⟨o, ho, rfl⟩)
                exact go _ o1 h3 h4
            · cases h
          · cases h
        · split at h
          · rename_i r h1
            cases h
            exact s_ret h1 hd List.mem_cons_self hR
          · cases h
        · split at h
          · rename_i hq
            simp only [Bool.and_eq_true] at hq
            obtain ⟨S2, m2, h2⟩ := e_any_ok hq.2
            exact safe_le h2 (hcut hq.1 S2 m2)
          · cases h
      · cases h
end MAIN
end
section
/-! the program: instructions that are reached, methods, entries of the constant pools (written by wip/p1/gentab.py) -/
def mt_L_law : MT := (yL_law, code, 7, (some .boolean), (12, 0, 1, 99), (2048, 600002, 7302232, 84000), tb_L_law)
def tb_J9_floorMod_7cf53 : List INS := [(0, 0, .iload_n 0, 1), (1, 0, .iload_n 1, 1), (2, 0, .irem, 1), (3, 0, .istore_n 2, 1), (4, 0, .iload_n 0, 1), (5, 0, .iload_n 1, 1), (6, 0, .ixor, 1), (7, 1, .ifCond .ge 11, 3), (18, 0, .iload_n 2, 1), (19, 5, .ireturn, 1)]
def mt_J9_floorMod_7cf53 : MT := (yJ9_floorMod_7cf53, cJ9_floorMod_7cf53, 3, (some .int), (18, 0, 2, 99), (0, 0, 0, 0), tb_J9_floorMod_7cf53)
def tb_J9_min_7cf53 : List INS := [(0, 0, .iload_n 0, 1), (1, 0, .iload_n 1, 1), (2, 1, .if_icmp .gt 7, 3), (5, 0, .iload_n 0, 1), (6, 1, .goto 4, 3), (10, 5, .ireturn, 1)]
def mt_J9_min_7cf53 : MT := (yJ9_min_7cf53, cJ9_min_7cf53, 2, (some .int), (18, 0, 2, 99), (0, 0, 0, 0), tb_J9_min_7cf53)
def tb_X0_init : List INS := [(0, 0, .aload_n 0, 1), (1, 2, .invokespecial 3, 3), (4, 0, .aload_n 0, 1), (5, 0, .bipush 40, 2), (7, 2, .newarray .int, 2), (9, 2, .putfield 9, 3), (12, 0, .aload_n 0, 1), (13, 0, .bipush 40, 2), (15, 2, .newarray .int, 2), (17, 2, .putfield 15, 3), (20, 0, .aload_n 0, 1), (21, 0, .bipush 40, 2), (23, 2, .newarray .int, 2), (25, 2, .putfield 18, 3), (28, 0, .aload_n 0, 1), (29, 0, .bipush 40, 2), (31, 2, .newarray .int, 2), (33, 2, .putfield 21, 3), (36, 0, .aload_n 0, 1), (37, 0, .iconst 0, 1), (38, 2, .putfield 24, 3), (41, 0, .aload_n 0, 1), (42, 0, .iconst 4, 1), (43, 2, .newarray .int, 2), (45, 0, .dup, 1), (46, 0, .iconst 0, 1), (47, 0, .iconst (-1), 1), (48, 3, .iastore, 1), (49, 0, .dup, 1), (50, 0, .iconst 1, 1), (51, 0, .iconst (-1), 1), (52, 3, .iastore, 1), (53, 0, .dup, 1), (54, 0, .iconst 2, 1), (55, 0, .iconst (-1), 1), (56, 3, .iastore, 1), (57, 0, .dup, 1), (58, 0, .iconst 3, 1), (59, 0, .iconst (-1), 1), (60, 3, .iastore, 1), (61, 2, .putfield 28, 3), (64, 5, .return_, 1)]
def mt_X0_init : MT := (yX0_init, cX0_init, 1, none, (1, 2, 0, 0), (1, 5, 164, 12), tb_X0_init)
def tb_X0_judge : List INS := [(0, 0, .iconst 0, 1), (1, 0, .istore_n 2, 1), (2, 0, .iconst 0, 1), (3, 0, .istore_n 3, 1), (4, 0, .iload_n 3, 1), (5, 0, .aload_n 0, 1), (6, 2, .getfield 24, 3), (9, 1, .if_icmp .ge 30, 3), (39, 0, .aload_n 0, 1), (40, 2, .getfield 28, 3), (43, 0, .iconst 0, 1), (44, 0, .iload_n 2, 1), (45, 3, .iastore, 1), (46, 0, .aload_n 0, 1), (47, 2, .getfield 28, 3), (50, 0, .iconst 1, 1), (51, 0, .iload_n 3, 1), (52, 3, .iastore, 1), (53, 0, .aload_n 0, 1), (54, 2, .getfield 28, 3), (57, 0, .iconst 2, 1), (58, 0, .aload_n 1, 1), (59, 2, .getfield 83, 3), (62, 3, .iastore, 1), (63, 0, .aload_n 0, 1), (64, 2, .getfield 28, 3), (67, 0, .iconst 3, 1), (68, 0, .aload_n 1, 1), (69, 4, .invokevirtual 88, 3), (72, 3, .iastore, 1), (73, 0, .iload_n 2, 1), (74, 1, .ifCond .ne 7, 3), (77, 0, .iconst (-1), 1), (78, 1, .goto 4, 3), (82, 5, .ireturn, 1)]
def mt_X0_judge : MT := (yX0_judge, cX0_judge, 4, (some .int), (1, 1, 1, 0), (1, 0, 0, 22), tb_X0_judge)
def tb_X0_read : List INS := [(0, 0, .aload_n 0, 1), (1, 0, .iconst 0, 1), (2, 2, .putfield 24, 3), (5, 0, .iconst 0, 1), (6, 0, .istore_n 3, 1), (7, 0, .iload_n 3, 1), (8, 0, .bipush 40, 2), (10, 1, .if_icmp .gt 28, 3), (13, 0, .aload_n 1, 1), (14, 2, .getfield 31, 3), (17, 1, .ifCond .eq 21, 3), (38, 5, .return_, 1)]
def mt_X0_read : MT := (yX0_read, cX0_read, 4, none, (1, 1, 2, 0), (0, 0, 0, 0), tb_X0_read)
def tb_X0_tell : List INS := [(0, 0, .iload_n 1, 1), (1, 1, .ifCond .lt 21, 3), (4, 0, .iload_n 1, 1), (5, 0, .aload_n 0, 1), (6, 2, .getfield 28, 3), (9, 2, .arraylength, 1), (10, 1, .if_icmp .ge 12, 3), (13, 0, .aload_n 0, 1), (14, 2, .getfield 28, 3), (17, 0, .iload_n 1, 1), (18, 3, .iaload, 1), (19, 1, .goto 4, 3), (22, 0, .iconst (-1), 1), (23, 5, .ireturn, 1)]
def mt_X0_tell : MT := (yX0_tell, cX0_tell, 2, (some .int), (1, 1, 1, 0), (0, 0, 0, 0), tb_X0_tell)
def tb_X10_behindBlanks : List INS := [(0, 0, .iload_n 1, 1), (1, 0, .istore_n 2, 1), (2, 0, .iload_n 2, 1), (3, 0, .aload_n 0, 1), (4, 2, .getfield 45, 3), (7, 2, .getfield 53, 3), (10, 1, .if_icmp .ge 35, 3), (45, 0, .iload_n 2, 1), (46, 5, .ireturn, 1)]
def mt_X10_behindBlanks : MT := (yX10_behindBlanks, cX10_behindBlanks, 3, (some .int), (11, 1, 1, 9), (0, 0, 0, 0), tb_X10_behindBlanks)
def tb_X10_fail : List INS := [(0, 0, .aload_n 0, 1), (1, 2, .getfield 39, 3), (4, 1, .ifCond .ne 16, 3), (7, 0, .aload_n 0, 1), (8, 0, .iload_n 1, 1), (9, 2, .putfield 39, 3), (12, 0, .aload_n 0, 1), (13, 0, .aload_n 0, 1), (14, 2, .getfield 32, 3), (17, 2, .putfield 42, 3), (20, 0, .aload_n 0, 1), (21, 0, .iconst 0, 1), (22, 2, .putfield 29, 3), (25, 5, .return_, 1)]
def mt_X10_fail : MT := (yX10_fail, cX10_fail, 2, none, (11, 1, 1, 9), (0, 0, 0, 0), tb_X10_fail)
def tb_X10_init : List INS := [(0, 0, .aload_n 0, 1), (1, 2, .invokespecial 3, 3), (4, 0, .aload_n 0, 1), (5, 0, .sipush 941, 3), (8, 2, .newarray .int, 2), (10, 2, .putfield 9, 3), (13, 0, .aload_n 0, 1), (14, 0, .sipush 941, 3), (17, 2, .newarray .int, 2), (19, 2, .putfield 15, 3), (22, 0, .aload_n 0, 1), (23, 0, .sipush 941, 3), (26, 2, .newarray .long, 2), (28, 2, .putfield 18, 3), (31, 0, .aload_n 0, 1), (32, 0, .iconst 0, 1), (33, 2, .putfield 22, 3), (36, 0, .aload_n 0, 1), (37, 0, .iconst 0, 1), (38, 2, .putfield 26, 3), (41, 0, .aload_n 0, 1), (42, 0, .iconst 0, 1), (43, 2, .putfield 29, 3), (46, 0, .aload_n 0, 1), (47, 0, .iconst 0, 1), (48, 2, .putfield 32, 3), (51, 0, .aload_n 0, 1), (52, 0, .lconst 0, 1), (53, 2, .putfield 35, 3), (56, 0, .aload_n 0, 1), (57, 0, .iconst 0, 1), (58, 2, .putfield 39, 3), (61, 0, .aload_n 0, 1), (62, 0, .iconst 0, 1), (63, 2, .putfield 42, 3), (66, 0, .aload_n 0, 1), (67, 0, .aload_n 1, 1), (68, 2, .putfield 45, 3), (71, 5, .return_, 1)]
def mt_X10_init : MT := (yX10_init, cX10_init, 2, none, (11, 2, 1, 9), (1, 3, 2823, 12), tb_X10_init)
def tb_X10_isWord : List INS := [(0, 0, .aload_n 0, 1), (1, 2, .getfield 29, 3), (4, 0, .iconst 2, 1), (5, 1, .if_icmp .ne 17, 3), (22, 0, .iconst 0, 1), (23, 5, .ireturn, 1)]
def mt_X10_isWord : MT := (yX10_isWord, cX10_isWord, 2, (some .boolean), (11, 1, 1, 9), (0, 0, 0, 0), tb_X10_isWord)
def tc_X10_open_0 : List INS := [(0, 0, .iconst 0, 1), (1, 0, .istore_n 2, 1), (2, 0, .iconst 1, 1), (3, 0, .istore_n 3, 1), (4, 0, .aload_n 0, 1), (5, 0, .iconst 0, 1), (6, 2, .putfield 22, 3), (9, 0, .iload_n 3, 1), (10, 1, .ifCond .eq 151, 3), (13, 0, .aload_n 0, 1), (14, 2, .getfield 22, 3), (17, 0, .aload_n 0, 1), (18, 2, .getfield 9, 3), (21, 2, .arraylength, 1), (22, 1, .if_icmp .ge 139, 3), (25, 0, .aload_n 0, 1), (26, 0, .iload_n 2, 1), (27, 4, .invokevirtual 49, 3), (30, 0, .istore_n 2, 1), (31, 0, .aload_n 0, 1), (32, 2, .getfield 15, 3), (35, 0, .aload_n 0, 1), (36, 2, .getfield 22, 3), (39, 0, .iload_n 2, 1), (40, 0, .aload_n 0, 1)]
def tc_X10_open_1 : List INS := [(41, 2, .getfield 45, 3), (44, 2, .getfield 53, 3), (47, 4, .invokestatic 58, 3), (50, 3, .iastore, 1), (51, 0, .aload_n 0, 1), (52, 2, .getfield 9, 3), (55, 0, .aload_n 0, 1), (56, 2, .getfield 22, 3), (59, 0, .iconst 0, 1), (60, 3, .iastore, 1), (61, 0, .aload_n 0, 1), (62, 2, .getfield 45, 3), (65, 2, .getfield 53, 3), (68, 0, .iload_n 1, 1), (69, 1, .if_icmp .le 31, 3), (100, 0, .iload_n 2, 1), (101, 0, .aload_n 0, 1), (102, 2, .getfield 45, 3), (105, 2, .getfield 53, 3), (108, 1, .if_icmp .ge 9, 3), (117, 0, .aload_n 0, 1), (118, 2, .getfield 9, 3), (121, 0, .aload_n 0, 1), (122, 2, .getfield 22, 3), (125, 3, .iaload, 1)]
def tc_X10_open_2 : List INS := [(126, 1, .ifCond .eq 20, 3), (146, 0, .iconst 0, 1), (147, 0, .istore_n 3, 1), (148, 0, .aload_n 0, 1), (149, 0, .dup, 1), (150, 2, .getfield 22, 3), (153, 0, .iconst 1, 1), (154, 0, .iadd, 1), (155, 2, .putfield 22, 3), (158, 1, .goto (-149), 3), (161, 0, .aload_n 0, 1), (162, 0, .iconst 0, 1), (163, 2, .putfield 39, 3), (166, 0, .aload_n 0, 1), (167, 0, .iconst 0, 1), (168, 2, .putfield 42, 3), (171, 0, .aload_n 0, 1), (172, 0, .iconst (-1), 1), (173, 2, .putfield 26, 3), (176, 0, .aload_n 0, 1), (177, 4, .invokevirtual 67, 3), (180, 5, .return_, 1)]
def tb_X10_open : List INS := tc_X10_open_0 ++ (tc_X10_open_1 ++ (tc_X10_open_2))
def mt_X10_open : MT := (yX10_open, cX10_open, 4, none, (11, 1, 1, 9), (1, 0, 0, 22), tb_X10_open)
def tb_X10_plainWord : List INS := [(0, 0, .aload_n 0, 1), (1, 2, .getfield 29, 3), (4, 0, .iconst 2, 1), (5, 1, .if_icmp .ne 11, 3), (16, 0, .iconst (-1), 1), (17, 5, .ireturn, 1)]
def mt_X10_plainWord : MT := (yX10_plainWord, cX10_plainWord, 1, (some .int), (11, 1, 0, 9), (0, 0, 0, 0), tb_X10_plainWord)
def tb_X10_step : List INS := [(0, 0, .aload_n 0, 1), (1, 2, .getfield 39, 3), (4, 1, .ifCond .ne 16, 3), (7, 0, .aload_n 0, 1), (8, 2, .getfield 26, 3), (11, 0, .iconst 1, 1), (12, 0, .iadd, 1), (13, 0, .aload_n 0, 1), (14, 2, .getfield 22, 3), (17, 1, .if_icmp .lt 4, 3), (21, 0, .aload_n 0, 1), (22, 0, .dup, 1), (23, 2, .getfield 26, 3), (26, 0, .iconst 1, 1), (27, 0, .iadd, 1), (28, 2, .putfield 26, 3), (31, 0, .aload_n 0, 1), (32, 0, .aload_n 0, 1), (33, 2, .getfield 9, 3), (36, 0, .aload_n 0, 1), (37, 2, .getfield 26, 3), (40, 3, .iaload, 1), (41, 2, .putfield 29, 3), (44, 0, .aload_n 0, 1), (45, 0, .aload_n 0, 1), (46, 2, .getfield 15, 3), (49, 0, .aload_n 0, 1), (50, 2, .getfield 26, 3), (53, 3, .iaload, 1), (54, 2, .putfield 32, 3), (57, 0, .aload_n 0, 1), (58, 0, .aload_n 0, 1), (59, 2, .getfield 18, 3), (62, 0, .aload_n 0, 1), (63, 2, .getfield 26, 3), (66, 3, .laload, 1), (67, 2, .putfield 35, 3), (70, 5, .return_, 1)]
def mt_X10_step : MT := (yX10_step, cX10_step, 1, none, (11, 1, 0, 9), (0, 0, 0, 0), tb_X10_step)
def tb_X10_takeEnd : List INS := [(0, 0, .aload_n 0, 1), (1, 2, .getfield 29, 3), (4, 1, .ifCond .eq 8, 3), (12, 5, .return_, 1)]
def mt_X10_takeEnd : MT := (yX10_takeEnd, cX10_takeEnd, 1, none, (11, 1, 0, 9), (0, 0, 0, 0), tb_X10_takeEnd)
def tb_X11_ask : List INS := [(0, 0, .aload_n 0, 1), (1, 2, .getfield 33, 3), (4, 0, .iconst 3, 1), (5, 0, .iload_n 1, 1), (6, 4, .invokevirtual 142, 3), (9, 1, .ifCond .eq 33, 3), (42, 0, .iconst (-1), 1), (43, 5, .ireturn, 1)]
def mt_X11_ask : MT := (yX11_ask, cX11_ask, 4, (some .int), (0, 1, 3, 10), (2, 0, 0, 44), tb_X11_ask)
def tb_X11_book : List INS := [(0, 0, .iload_n 1, 1), (1, 1, .ifCond .eq 12, 3), (4, 0, .iload_n 1, 1), (5, 0, .iconst 1, 1), (6, 1, .if_icmp .eq 7, 3), (9, 0, .sipush (-1000), 3), (12, 5, .ireturn, 1), (13, 0, .aload_n 0, 1), (14, 2, .getfield 21, 3), (17, 0, .sipush 400, 3), (20, 4, .invokevirtual 120, 3), (23, 0, .aload_n 0, 1), (24, 2, .getfield 54, 3), (27, 0, .aload_n 0, 1), (28, 2, .getfield 21, 3), (31, 0, .aload_n 0, 1), (32, 2, .getfield 33, 3), (35, 2, .getfield 37, 3), (38, 4, .invokevirtual 340, 3), (41, 0, .aload_n 0, 1), (42, 4, .invokevirtual 127, 3), (45, 0, .aload_n 0, 1), (46, 2, .getfield 21, 3), (49, 2, .getfield 130, 3), (52, 1, .ifCond .eq 14, 3), (66, 0, .iload_n 1, 1), (67, 1, .ifCond .ne 26, 3), (70, 0, .aload_n 0, 1), (71, 2, .getfield 41, 3), (74, 0, .aload_n 0, 1), (75, 2, .getfield 33, 3), (78, 4, .invokevirtual 337, 3), (81, 0, .aload_n 0, 1), (82, 2, .getfield 54, 3), (85, 0, .aload_n 0, 1), (86, 2, .getfield 41, 3), (89, 4, .invokevirtual 343, 3), (92, 5, .ireturn, 1), (93, 0, .aload_n 0, 1), (94, 2, .getfield 47, 3), (97, 0, .aload_n 0, 1), (98, 2, .getfield 33, 3), (101, 4, .invokevirtual 221, 3), (104, 0, .aload_n 0, 1), (105, 2, .getfield 47, 3), (108, 4, .invokevirtual 346, 3), (111, 0, .aload_n 0, 1), (112, 2, .getfield 54, 3), (115, 0, .aload_n 0, 1), (116, 2, .getfield 33, 3), (119, 4, .invokevirtual 343, 3), (122, 5, .ireturn, 1)]
def mt_X11_book : MT := (yX11_book, cX11_book, 2, (some .int), (0, 1, 1, 10), (3, 7, 52, 108), tb_X11_book)
def tb_X11_byteAt : List INS := [(0, 0, .iload_n 1, 1), (1, 1, .ifCond .lt 26, 3), (4, 0, .iload_n 1, 1), (5, 0, .aload_n 0, 1), (6, 2, .getfield 93, 3), (9, 1, .if_icmp .ge 18, 3), (27, 0, .iconst (-1), 1), (28, 5, .ireturn, 1)]
def mt_X11_byteAt : MT := (yX11_byteAt, cX11_byteAt, 2, (some .int), (0, 1, 1, 10), (0, 0, 0, 0), tb_X11_byteAt)
def tb_X11_cant : List INS := [(0, 0, .aload_n 0, 1), (1, 2, .getfield 33, 3), (4, 0, .iconst 3, 1), (5, 0, .iload_n 1, 1), (6, 4, .invokevirtual 142, 3), (9, 1, .ifCond .eq 40, 3), (49, 0, .iconst (-1), 1), (50, 5, .ireturn, 1)]
def mt_X11_cant : MT := (yX11_cant, cX11_cant, 6, (some .int), (0, 1, 4, 10), (2, 0, 0, 44), tb_X11_cant)
def tb_X11_canting : List INS := [(0, 0, .aload_n 0, 1), (1, 2, .getfield 110, 3), (4, 5, .ireturn, 1)]
def mt_X11_canting : MT := (yX11_canting, cX11_canting, 1, (some .int), (0, 1, 0, 10), (0, 0, 0, 0), tb_X11_canting)
def tb_X11_city : List INS := [(0, 2, .new 27, 3), (3, 0, .dup, 1), (4, 4, .invokespecial 29, 3), (7, 0, .astore_n 1, 1), (8, 0, .aload_n 0, 1), (9, 2, .getfield 21, 3), (12, 0, .sipush 900, 3), (15, 4, .invokevirtual 120, 3), (18, 0, .aload_n 1, 1), (19, 0, .aload_n 0, 1), (20, 2, .getfield 21, 3), (23, 4, .invokevirtual 123, 3), (26, 0, .istore_n 2, 1), (27, 0, .aload_n 0, 1), (28, 4, .invokevirtual 127, 3), (31, 0, .aload_n 0, 1), (32, 2, .getfield 21, 3), (35, 2, .getfield 130, 3), (38, 1, .ifCond .eq 13, 3), (51, 0, .aload_n 0, 1), (52, 2, .getfield 33, 3), (55, 0, .aload_n 1, 1), (56, 4, .invokevirtual 136, 3), (59, 0, .aload_n 0, 1), (60, 0, .aconst_null, 1), (61, 2, .putfield 97, 3), (64, 0, .aload_n 0, 1), (65, 2, .getfield 47, 3), (68, 4, .invokevirtual 139, 3), (71, 0, .iload_n 2, 1), (72, 5, .ireturn, 1)]
def mt_X11_city : MT := (yX11_city, cX11_city, 3, (some .int), (0, 1, 0, 10), (2, 8, 91, 86), tb_X11_city)
def tb_X11_closeText : List INS := [(0, 0, .aload_n 0, 1), (1, 0, .aload_n 0, 1), (2, 2, .getfield 21, 3), (5, 2, .getfield 130, 3), (8, 2, .putfield 101, 3), (11, 0, .aload_n 0, 1), (12, 2, .getfield 10, 3), (15, 0, .iconst 0, 1), (16, 2, .putfield 113, 3), (19, 5, .return_, 1)]
def mt_X11_closeText : MT := (yX11_closeText, cX11_closeText, 1, none, (0, 1, 0, 10), (0, 0, 0, 0), tb_X11_closeText)
def tb_X11_count : List INS := [(0, 0, .iload_n 1, 1), (1, 0, .bipush 8, 2), (3, 1, .if_icmp .ne 11, 3), (6, 0, .aload_n 0, 1), (7, 2, .getfield 10, 3), (10, 2, .getfield 113, 3), (13, 5, .ireturn, 1), (14, 0, .iload_n 1, 1), (15, 1, .ifCond .lt 24, 3), (18, 0, .iload_n 1, 1), (19, 0, .bipush 7, 2), (21, 1, .if_icmp .gt 18, 3), (24, 0, .aload_n 0, 1), (25, 2, .getfield 33, 3), (28, 2, .getfield 37, 3), (31, 2, .getfield 212, 3), (34, 0, .iload_n 1, 1), (35, 3, .iaload, 1), (36, 1, .goto 4, 3), (39, 0, .iconst (-1), 1), (40, 5, .ireturn, 1)]
def mt_X11_count : MT := (yX11_count, cX11_count, 2, (some .int), (0, 1, 1, 10), (0, 0, 0, 0), tb_X11_count)
def tb_X11_cover : List INS := [(0, 0, .aload_n 0, 1), (1, 2, .getfield 33, 3), (4, 0, .iconst 3, 1), (5, 0, .iload_n 1, 1), (6, 4, .invokevirtual 142, 3), (9, 1, .ifCond .ne 5, 3), (12, 0, .iconst (-1), 1), (13, 5, .ireturn, 1)]
def mt_X11_cover : MT := (yX11_cover, cX11_cover, 3, (some .int), (0, 1, 1, 10), (2, 0, 0, 44), tb_X11_cover)
def tb_X11_covering : List INS := [(0, 0, .aload_n 0, 1), (1, 2, .getfield 107, 3), (4, 5, .ireturn, 1)]
def mt_X11_covering : MT := (yX11_covering, cX11_covering, 1, (some .int), (0, 1, 0, 10), (0, 0, 0, 0), tb_X11_covering)
def tb_X11_days : List INS := [(0, 0, .iload_n 1, 1), (1, 0, .iconst 1, 1), (2, 1, .if_icmp .lt 9, 3), (5, 0, .iload_n 1, 1), (6, 0, .bipush 60, 2), (8, 1, .if_icmp .le 5, 3), (11, 0, .iconst (-1), 1), (12, 5, .ireturn, 1), (13, 0, .aload_n 0, 1), (14, 2, .getfield 47, 3), (17, 0, .aload_n 0, 1), (18, 2, .getfield 33, 3), (21, 4, .invokevirtual 221, 3), (24, 0, .aload_n 0, 1), (25, 0, .aload_n 0, 1), (26, 2, .getfield 33, 3), (29, 0, .iload_n 1, 1), (30, 4, .invokevirtual 250, 3), (33, 4, .invokevirtual 253, 3), (36, 5, .ireturn, 1)]
def mt_X11_days : MT := (yX11_days, cX11_days, 2, (some .int), (0, 1, 1, 10), (3, 7, 52, 108), tb_X11_days)
def tb_X11_drawn : List INS := [(0, 0, .iload_n 1, 1), (1, 0, .iconst 1, 1), (2, 1, .if_icmp .lt 24, 3), (5, 0, .iload_n 1, 1), (6, 0, .bipush 60, 2), (8, 1, .if_icmp .gt 18, 3), (11, 0, .aload_n 0, 1), (12, 2, .getfield 33, 3), (15, 2, .getfield 37, 3), (18, 2, .getfield 212, 3), (21, 0, .iconst 3, 1), (22, 3, .iaload, 1), (23, 1, .ifCond .ne 5, 3), (26, 0, .iconst (-1), 1), (27, 5, .ireturn, 1)]
def mt_X11_drawn : MT := (yX11_drawn, cX11_drawn, 3, (some .int), (0, 1, 2, 10), (0, 0, 0, 0), tb_X11_drawn)
def tb_X11_end : List INS := [(0, 0, .iload_n 1, 1), (1, 1, .ifCond .lt 14, 3), (4, 0, .iload_n 1, 1), (5, 0, .aload_n 0, 1), (6, 2, .getfield 10, 3), (9, 2, .getfield 113, 3), (12, 1, .if_icmp .le 5, 3), (15, 0, .iconst 0, 1), (16, 5, .ireturn, 1), (17, 0, .aload_n 0, 1), (18, 2, .getfield 10, 3), (21, 0, .iload_n 1, 1), (22, 2, .putfield 113, 3), (25, 0, .iconst 1, 1), (26, 5, .ireturn, 1)]
def mt_X11_end : MT := (yX11_end, cX11_end, 2, (some .boolean), (0, 1, 1, 10), (0, 0, 0, 0), tb_X11_end)
def tb_X11_fault : List INS := [(0, 0, .aload_n 0, 1), (1, 2, .getfield 101, 3), (4, 5, .ireturn, 1)]
def mt_X11_fault : MT := (yX11_fault, cX11_fault, 1, (some .int), (0, 1, 0, 10), (0, 0, 0, 0), tb_X11_fault)
def tb_X11_feed : List INS := [(0, 0, .aload_n 0, 1), (1, 2, .getfield 10, 3), (4, 2, .getfield 113, 3), (7, 0, .bipush 20, 2), (9, 0, .iadd, 1), (10, 0, .sipush 940, 3), (13, 1, .if_icmp .le 5, 3), (18, 0, .aload_n 0, 1), (19, 2, .getfield 10, 3), (22, 0, .iload_n 1, 1), (23, 4, .invokevirtual 116, 3), (26, 0, .aload_n 0, 1), (27, 2, .getfield 10, 3), (30, 0, .iload_n 2, 1), (31, 4, .invokevirtual 116, 3), (34, 0, .aload_n 0, 1), (35, 2, .getfield 10, 3), (38, 0, .iload_n 3, 1), (39, 4, .invokevirtual 116, 3), (42, 0, .aload_n 0, 1), (43, 2, .getfield 10, 3), (46, 0, .iload 4, 2), (48, 4, .invokevirtual 116, 3), (51, 0, .aload_n 0, 1), (52, 2, .getfield 10, 3), (55, 0, .iload 5, 2), (57, 4, .invokevirtual 116, 3), (60, 0, .aload_n 0, 1), (61, 2, .getfield 10, 3), (64, 2, .getfield 113, 3), (67, 5, .ireturn, 1)]
def mt_X11_feed : MT := (yX11_feed, cX11_feed, 6, (some .int), (0, 1, 5, 10), (1, 0, 0, 22), tb_X11_feed)
def tb_X11_fits : List INS := [(0, 0, .aload_n 0, 1), (1, 2, .getfield 33, 3), (4, 0, .iconst 3, 1), (5, 0, .iload_n 1, 1), (6, 4, .invokevirtual 142, 3), (9, 1, .ifCond .eq 29, 3), (38, 0, .iconst (-1), 1), (39, 5, .ireturn, 1)]
def mt_X11_fits : MT := (yX11_fits, cX11_fits, 4, (some .int), (0, 1, 3, 10), (2, 0, 0, 44), tb_X11_fits)
def tb_X11_go : List INS := [(0, 0, .aload_n 0, 1), (1, 2, .getfield 33, 3), (4, 0, .iconst 3, 1), (5, 0, .iload_n 1, 1), (6, 4, .invokevirtual 142, 3), (9, 1, .ifCond .eq 15, 3), (24, 0, .iconst (-1), 1), (25, 5, .ireturn, 1)]
def mt_X11_go : MT := (yX11_go, cX11_go, 3, (some .int), (0, 1, 2, 10), (2, 0, 0, 44), tb_X11_go)
def tb_X11_image : List INS := [(0, 0, .iload_n 1, 1), (1, 1, .ifCond .lt 8, 3), (4, 0, .iload_n 1, 1), (5, 0, .iconst 2, 1), (6, 1, .if_icmp .lt 5, 3), (9, 0, .iconst 0, 1), (10, 5, .ireturn, 1), (11, 0, .aload_n 0, 1), (12, 2, .getfield 79, 3), (15, 0, .iload_n 1, 1), (16, 3, .aaload, 1), (17, 0, .astore_n 2, 1), (18, 0, .aload_n 2, 1), (19, 1, .ifnonnull 25, 3), (22, 2, .new 25, 3), (25, 0, .dup, 1), (26, 0, .aload_n 0, 1), (27, 2, .getfield 33, 3), (30, 2, .getfield 37, 3), (33, 4, .invokespecial 30, 3), (36, 0, .astore_n 2, 1), (37, 0, .aload_n 0, 1), (38, 2, .getfield 79, 3), (41, 0, .iload_n 1, 1), (42, 0, .aload_n 2, 1), (43, 3, .aastore, 1), (44, 0, .aload_n 2, 1), (45, 0, .aload_n 0, 1), (46, 2, .getfield 33, 3), (49, 4, .invokevirtual 337, 3), (52, 0, .aload_n 0, 1), (53, 2, .getfield 85, 3), (56, 0, .iload_n 1, 1), (57, 0, .aload_n 0, 1), (58, 2, .getfield 97, 3), (61, 3, .aastore, 1), (62, 0, .iconst 1, 1), (63, 5, .ireturn, 1)]
def mt_X11_image : MT := (yX11_image, cX11_image, 3, (some .boolean), (0, 1, 1, 10), (2, 7, 52, 85), tb_X11_image)
def tc_X11_init_0 : List INS := [(0, 0, .aload_n 0, 1), (1, 2, .invokespecial 1, 3), (4, 0, .aload_n 0, 1), (5, 2, .new 7, 3), (8, 0, .dup, 1), (9, 4, .invokespecial 9, 3), (12, 2, .putfield 10, 3), (15, 0, .aload_n 0, 1), (16, 2, .new 16, 3), (19, 0, .dup, 1), (20, 0, .aload_n 0, 1), (21, 2, .getfield 10, 3), (24, 4, .invokespecial 18, 3), (27, 2, .putfield 21, 3), (30, 0, .aload_n 0, 1), (31, 2, .new 25, 3), (34, 0, .dup, 1), (35, 2, .new 27, 3), (38, 0, .dup, 1), (39, 4, .invokespecial 29, 3), (42, 4, .invokespecial 30, 3), (45, 2, .putfield 33, 3), (48, 0, .aload_n 0, 1), (49, 2, .new 25, 3), (52, 0, .dup, 1)]
def tc_X11_init_1 : List INS := [(53, 0, .aload_n 0, 1), (54, 2, .getfield 33, 3), (57, 2, .getfield 37, 3), (60, 4, .invokespecial 30, 3), (63, 2, .putfield 41, 3), (66, 0, .aload_n 0, 1), (67, 2, .new 44, 3), (70, 0, .dup, 1), (71, 4, .invokespecial 46, 3), (74, 2, .putfield 47, 3), (77, 0, .aload_n 0, 1), (78, 2, .new 51, 3), (81, 0, .dup, 1), (82, 4, .invokespecial 53, 3), (85, 2, .putfield 54, 3), (88, 0, .aload_n 0, 1), (89, 2, .new 58, 3), (92, 0, .dup, 1), (93, 4, .invokespecial 60, 3), (96, 2, .putfield 61, 3), (99, 0, .aload_n 0, 1), (100, 2, .new 65, 3), (103, 0, .dup, 1), (104, 4, .invokespecial 67, 3), (107, 2, .putfield 68, 3)]
def tc_X11_init_2 : List INS := [(110, 0, .aload_n 0, 1), (111, 2, .new 72, 3), (114, 0, .dup, 1), (115, 4, .invokespecial 74, 3), (118, 2, .putfield 75, 3), (121, 0, .aload_n 0, 1), (122, 0, .iconst 2, 1), (123, 2, .anewarray 25, 3), (126, 2, .putfield 79, 3), (129, 0, .aload_n 0, 1), (130, 0, .iconst 2, 1), (131, 2, .anewarray 83, 3), (134, 2, .putfield 85, 3), (137, 0, .aload_n 0, 1), (138, 0, .bipush 96, 2), (140, 2, .newarray .byte, 2), (142, 2, .putfield 89, 3), (145, 0, .aload_n 0, 1), (146, 0, .iconst 0, 1), (147, 2, .putfield 93, 3), (150, 0, .aload_n 0, 1), (151, 0, .aconst_null, 1), (152, 2, .putfield 97, 3), (155, 0, .aload_n 0, 1), (156, 0, .iconst 0, 1)]
def tc_X11_init_3 : List INS := [(157, 2, .putfield 101, 3), (160, 0, .aload_n 0, 1), (161, 0, .iconst (-1), 1), (162, 2, .putfield 104, 3), (165, 0, .aload_n 0, 1), (166, 0, .iconst (-1), 1), (167, 2, .putfield 107, 3), (170, 0, .aload_n 0, 1), (171, 0, .iconst (-1), 1), (172, 2, .putfield 110, 3), (175, 5, .return_, 1)]
def tb_X11_init : List INS := tc_X11_init_0 ++ (tc_X11_init_1 ++ (tc_X11_init_2 ++ (tc_X11_init_3)))
def mt_X11_init : MT := (yX11_init, cX11_init, 1, none, (0, 2, 0, 10), (2, 45, 4285, 33), tb_X11_init)
def tb_X11_keptDays : List INS := [(0, 0, .iload_n 1, 1), (1, 1, .ifCond .le 10, 3), (4, 0, .aload_n 0, 1), (5, 2, .getfield 47, 3), (8, 4, .invokevirtual 346, 3), (11, 0, .iload_n 1, 1), (12, 5, .ireturn, 1)]
def mt_X11_keptDays : MT := (yX11_keptDays, cX11_keptDays, 2, (some .int), (0, 1, 1, 10), (1, 0, 0, 20), tb_X11_keptDays)
def tb_X11_learn : List INS := [(0, 0, .aload_n 0, 1), (1, 2, .getfield 33, 3), (4, 0, .iconst 3, 1), (5, 0, .iload_n 1, 1), (6, 4, .invokevirtual 142, 3), (9, 1, .ifCond .eq 15, 3), (24, 0, .iconst (-1), 1), (25, 5, .ireturn, 1)]
def mt_X11_learn : MT := (yX11_learn, cX11_learn, 3, (some .int), (0, 1, 2, 10), (2, 0, 0, 44), tb_X11_learn)
def tb_X11_lies : List INS := [(0, 0, .aload_n 0, 1), (1, 2, .getfield 33, 3), (4, 0, .iconst 0, 1), (5, 0, .iload_n 1, 1), (6, 4, .invokevirtual 142, 3), (9, 1, .ifCond .eq 14, 3), (23, 0, .iconst (-1), 1), (24, 5, .ireturn, 1)]
def mt_X11_lies : MT := (yX11_lies, cX11_lies, 2, (some .int), (0, 1, 1, 10), (2, 0, 0, 44), tb_X11_lies)
def tb_X11_name : List INS := [(0, 0, .aload_n 0, 1), (1, 2, .getfield 33, 3), (4, 0, .iconst 3, 1), (5, 0, .iload_n 1, 1), (6, 4, .invokevirtual 142, 3), (9, 1, .ifCond .eq 15, 3), (24, 0, .iconst (-1), 1), (25, 5, .ireturn, 1)]
def mt_X11_name : MT := (yX11_name, cX11_name, 3, (some .int), (0, 1, 2, 10), (2, 0, 0, 44), tb_X11_name)
def tb_X11_news : List INS := [(0, 0, .aload_n 0, 1), (1, 2, .getfield 33, 3), (4, 0, .iconst 3, 1), (5, 0, .iload_n 1, 1), (6, 4, .invokevirtual 142, 3), (9, 1, .ifCond .eq 14, 3), (23, 0, .iconst (-1), 1), (24, 5, .ireturn, 1)]
def mt_X11_news : MT := (yX11_news, cX11_news, 2, (some .int), (0, 1, 1, 10), (2, 0, 0, 44), tb_X11_news)
def tb_X11_now : List INS := [(0, 0, .iload_n 1, 1), (1, 1, .tableswitch 126 0 6 #[43, 51, 67, 75, 83, 91, 99], 43), (44, 0, .aload_n 0, 1), (45, 2, .getfield 33, 3), (48, 2, .getfield 192, 3), (51, 5, .ireturn, 1), (52, 0, .aload_n 0, 1), (53, 2, .getfield 33, 3), (56, 4, .invokevirtual 195, 3), (59, 1, .ifCond .eq 7, 3), (66, 0, .iconst 0, 1), (67, 5, .ireturn, 1), (68, 0, .aload_n 0, 1), (69, 2, .getfield 33, 3), (72, 4, .invokevirtual 199, 3), (75, 5, .ireturn, 1), (76, 0, .aload_n 0, 1), (77, 2, .getfield 33, 3), (80, 4, .invokevirtual 203, 3), (83, 5, .ireturn, 1), (84, 0, .aload_n 0, 1), (85, 2, .getfield 33, 3), (88, 2, .getfield 206, 3), (91, 5, .ireturn, 1), (92, 0, .aload_n 0, 1), (93, 2, .getfield 33, 3), (96, 2, .getfield 209, 3), (99, 5, .ireturn, 1), (100, 0, .aload_n 0, 1), (101, 2, .getfield 33, 3), (104, 2, .getfield 37, 3), (107, 2, .getfield 212, 3), (110, 0, .bipush 7, 2), (112, 3, .iaload, 1), (113, 0, .aload_n 0, 1), (114, 2, .getfield 33, 3), (117, 2, .getfield 192, 3), (120, 0, .isub, 1), (121, 0, .bipush 7, 2), (123, 4, .invokestatic 215, 3), (126, 5, .ireturn, 1), (127, 0, .iconst (-1), 1), (128, 5, .ireturn, 1)]
def mt_X11_now : MT := (yX11_now, cX11_now, 2, (some .int), (0, 1, 1, 10), (1, 0, 0, 22), tb_X11_now)
def tb_X11_odds : List INS := [(0, 0, .aload_n 0, 1), (1, 2, .getfield 33, 3), (4, 0, .iconst 2, 1), (5, 0, .iload_n 1, 1), (6, 4, .invokevirtual 142, 3), (9, 1, .ifCond .eq 29, 3), (38, 0, .iconst (-1), 1), (39, 5, .ireturn, 1)]
def mt_X11_odds : MT := (yX11_odds, cX11_odds, 6, (some .int), (0, 1, 3, 10), (2, 0, 0, 44), tb_X11_odds)
def tb_X11_phrase : List INS := [(0, 0, .aload_n 0, 1), (1, 2, .getfield 33, 3), (4, 0, .iconst 2, 1), (5, 0, .iload_n 1, 1), (6, 4, .invokevirtual 142, 3), (9, 1, .ifCond .ne 5, 3), (12, 0, .iconst (-1), 1), (13, 5, .ireturn, 1)]
def mt_X11_phrase : MT := (yX11_phrase, cX11_phrase, 2, (some .int), (0, 1, 1, 10), (2, 0, 0, 44), tb_X11_phrase)
def tb_X11_point : List INS := [(0, 0, .aload_n 0, 1), (1, 2, .getfield 33, 3), (4, 0, .iconst 3, 1), (5, 0, .iload_n 1, 1), (6, 4, .invokevirtual 142, 3), (9, 1, .ifCond .eq 15, 3), (24, 0, .iconst (-1), 1), (25, 5, .ireturn, 1)]
def mt_X11_point : MT := (yX11_point, cX11_point, 3, (some .int), (0, 1, 2, 10), (2, 0, 0, 44), tb_X11_point)
def tb_X11_put : List INS := [(0, 0, .aload_n 0, 1), (1, 2, .getfield 33, 3), (4, 0, .iconst 3, 1), (5, 0, .iload_n 1, 1), (6, 4, .invokevirtual 142, 3), (9, 1, .ifCond .eq 15, 3), (24, 0, .iconst (-1), 1), (25, 5, .ireturn, 1)]
def mt_X11_put : MT := (yX11_put, cX11_put, 3, (some .int), (0, 1, 2, 10), (2, 0, 0, 44), tb_X11_put)
def tb_X11_rest : List INS := [(0, 0, .aload_n 0, 1), (1, 2, .getfield 33, 3), (4, 0, .iconst 0, 1), (5, 0, .iload_n 1, 1), (6, 4, .invokevirtual 142, 3), (9, 1, .ifCond .eq 18, 3), (27, 0, .iconst (-1), 1), (28, 5, .ireturn, 1)]
def mt_X11_rest : MT := (yX11_rest, cX11_rest, 2, (some .int), (0, 1, 1, 10), (2, 0, 0, 44), tb_X11_rest)
def tb_X11_rested : List INS := [(0, 0, .iload_n 1, 1), (1, 1, .ifCond .lt 21, 3), (4, 0, .iload_n 1, 1), (5, 0, .bipush 8, 2), (7, 1, .if_icmp .ge 15, 3), (10, 0, .aload_n 0, 1), (11, 2, .getfield 61, 3), (14, 2, .getfield 314, 3), (17, 0, .iload_n 1, 1), (18, 3, .iaload, 1), (19, 1, .goto 4, 3), (22, 0, .iconst (-1), 1), (23, 5, .ireturn, 1)]
def mt_X11_rested : MT := (yX11_rested, cX11_rested, 2, (some .int), (0, 1, 1, 10), (0, 0, 0, 0), tb_X11_rested)
def tb_X11_restore : List INS := [(0, 0, .iload_n 1, 1), (1, 1, .ifCond .lt 8, 3), (4, 0, .iload_n 1, 1), (5, 0, .iconst 2, 1), (6, 1, .if_icmp .lt 5, 3), (9, 0, .iconst 0, 1), (10, 5, .ireturn, 1), (11, 0, .aload_n 0, 1), (12, 2, .getfield 79, 3), (15, 0, .iload_n 1, 1), (16, 3, .aaload, 1), (17, 0, .astore_n 2, 1), (18, 0, .aload_n 2, 1), (19, 1, .ifnonnull 5, 3), (22, 0, .iconst 0, 1), (23, 5, .ireturn, 1)]
def mt_X11_restore : MT := (yX11_restore, cX11_restore, 3, (some .boolean), (0, 1, 1, 10), (0, 0, 0, 0), tb_X11_restore)
def tb_X11_said : List INS := [(0, 0, .aload_n 0, 1), (1, 2, .getfield 97, 3), (4, 1, .ifnonnull 5, 3), (7, 0, .iconst (-1), 1), (8, 5, .ireturn, 1)]
def mt_X11_said : MT := (yX11_said, cX11_said, 3, (some .int), (0, 1, 1, 10), (0, 0, 0, 0), tb_X11_said)
def tb_X11_say : List INS := [(0, 0, .aload_n 0, 1), (1, 2, .getfield 33, 3), (4, 0, .iconst 2, 1), (5, 0, .iload_n 1, 1), (6, 4, .invokevirtual 142, 3), (9, 1, .ifCond .eq 26, 3), (35, 0, .iconst (-1), 1), (36, 5, .ireturn, 1)]
def mt_X11_say : MT := (yX11_say, cX11_say, 4, (some .int), (0, 1, 2, 10), (2, 0, 0, 44), tb_X11_say)
def tb_X11_saying : List INS := [(0, 0, .aload_n 0, 1), (1, 2, .getfield 104, 3), (4, 5, .ireturn, 1)]
def mt_X11_saying : MT := (yX11_saying, cX11_saying, 1, (some .int), (0, 1, 0, 10), (0, 0, 0, 0), tb_X11_saying)
def tb_X11_sentence : List INS := [(0, 2, .new 83, 3), (3, 0, .dup, 1), (4, 4, .invokespecial 352, 3), (7, 0, .astore_n 1, 1), (8, 0, .aload_n 0, 1), (9, 2, .getfield 21, 3), (12, 0, .sipush 200, 3), (15, 4, .invokevirtual 120, 3), (18, 0, .aload_n 1, 1), (19, 0, .aload_n 0, 1), (20, 2, .getfield 21, 3), (23, 0, .aload_n 0, 1), (24, 2, .getfield 33, 3), (27, 2, .getfield 37, 3), (30, 0, .iconst 1, 1), (31, 4, .invokevirtual 353, 3), (34, 0, .aload_n 0, 1), (35, 2, .getfield 21, 3), (38, 4, .invokevirtual 357, 3), (41, 0, .aload_n 0, 1), (42, 4, .invokevirtual 127, 3), (45, 0, .aload_n 0, 1), (46, 2, .getfield 21, 3), (49, 2, .getfield 130, 3), (52, 1, .ifCond .eq 13, 3), (55, 0, .iconst (-1), 1), (56, 0, .aload_n 0, 1), (57, 2, .getfield 21, 3), (60, 2, .getfield 133, 3), (63, 0, .isub, 1), (64, 5, .ireturn, 1)]
def mt_X11_sentence : MT := (yX11_sentence, cX11_sentence, 2, (some .int), (0, 1, 0, 10), (4, 5, 166, 94), tb_X11_sentence)
def tb_X11_show : List INS := [(0, 0, .aload_n 0, 1), (1, 2, .getfield 68, 3), (4, 2, .getfield 304, 3), (7, 5, .ireturn, 1)]
def mt_X11_show : MT := (yX11_show, cX11_show, 1, (some .int), (0, 1, 0, 10), (0, 0, 0, 0), tb_X11_show)
def tb_X11_spoken : List INS := [(0, 0, .aload_n 0, 1), (1, 2, .getfield 68, 3), (4, 0, .aload_n 0, 1), (5, 2, .getfield 10, 3), (8, 0, .aload_n 0, 1), (9, 2, .getfield 33, 3), (12, 4, .invokevirtual 297, 3), (15, 0, .istore_n 1, 1), (16, 0, .aload_n 0, 1), (17, 2, .getfield 10, 3), (20, 0, .iconst 0, 1), (21, 2, .putfield 113, 3), (24, 0, .iload_n 1, 1), (25, 5, .ireturn, 1)]
def mt_X11_spoken : MT := (yX11_spoken, cX11_spoken, 2, (some .int), (0, 1, 0, 10), (2, 0, 0, 49), tb_X11_spoken)
def tb_X11_surely : List INS := [(0, 0, .aload_n 0, 1), (1, 2, .getfield 68, 3), (4, 2, .getfield 301, 3), (7, 5, .ireturn, 1)]
def mt_X11_surely : MT := (yX11_surely, cX11_surely, 1, (some .int), (0, 1, 0, 10), (0, 0, 0, 0), tb_X11_surely)
def tb_X11_told : List INS := [(0, 0, .aload_n 0, 1), (1, 2, .getfield 54, 3), (4, 0, .iload_n 1, 1), (5, 4, .invokevirtual 349, 3), (8, 5, .ireturn, 1)]
def mt_X11_told : MT := (yX11_told, cX11_told, 2, (some .int), (0, 1, 1, 10), (1, 0, 0, 21), tb_X11_told)
def tb_X11_twin : List INS := [(0, 0, .aload_n 0, 1), (1, 2, .getfield 33, 3), (4, 0, .iconst 2, 1), (5, 0, .iload_n 1, 1), (6, 4, .invokevirtual 142, 3), (9, 1, .ifCond .eq 26, 3), (35, 0, .iconst (-1), 1), (36, 5, .ireturn, 1)]
def mt_X11_twin : MT := (yX11_twin, cX11_twin, 3, (some .int), (0, 1, 2, 10), (2, 0, 0, 44), tb_X11_twin)
def tb_X11_undo : List INS := [(0, 0, .aload_n 0, 1), (1, 2, .getfield 47, 3), (4, 0, .aload_n 0, 1), (5, 2, .getfield 33, 3), (8, 4, .invokevirtual 256, 3), (11, 5, .ireturn, 1)]
def mt_X11_undo : MT := (yX11_undo, cX11_undo, 1, (some .int), (0, 1, 0, 10), (1, 0, 0, 22), tb_X11_undo)
def tb_X12_ask : List INS := [(0, 0, .aload_n 0, 1), (1, 0, .iconst 0, 1), (2, 2, .putfield 1, 3), (5, 0, .aload_n 0, 1), (6, 0, .iload_n 1, 1), (7, 4, .invokevirtual 282, 3), (10, 1, .ifCond .eq 23, 3), (33, 0, .iconst (-1), 1), (34, 5, .ireturn, 1)]
def mt_X12_ask : MT := (yX12_ask, cX12_ask, 5, (some .int), (13, 1, 3, 11), (2, 0, 0, 43), tb_X12_ask)
def tb_X12_back : List INS := [(0, 0, .iconst 0, 1), (1, 0, .istore_n 1, 1), (2, 0, .iload_n 1, 1), (3, 0, .bipush 45, 2), (5, 1, .if_icmp .ge 24, 3), (8, 0, .aload_n 0, 1), (9, 2, .getfield 37, 3), (12, 0, .bipush 43, 2), (14, 0, .iload_n 1, 1), (15, 0, .iadd, 1), (16, 0, .aload_n 0, 1), (17, 2, .getfield 57, 3), (20, 0, .iload_n 1, 1), (21, 3, .iaload, 1), (22, 3, .iastore, 1), (23, 0, .iinc 1 1, 3), (26, 1, .goto (-24), 3), (29, 5, .return_, 1)]
def mt_X12_back : MT := (yX12_back, cX12_back, 2, none, (13, 1, 0, 11), (0, 0, 0, 0), tb_X12_back)
def tb_X12_bad : List INS := [(0, 0, .aload_n 0, 1), (1, 0, .iload_n 1, 1), (2, 2, .putfield 179, 3), (5, 0, .aload_n 0, 1), (6, 0, .aload_n 0, 1), (7, 2, .getfield 156, 3), (10, 2, .putfield 182, 3), (13, 0, .iconst 0, 1), (14, 5, .ireturn, 1)]
def mt_X12_bad : MT := (yX12_bad, cX12_bad, 2, (some .boolean), (13, 1, 1, 11), (0, 0, 0, 0), tb_X12_bad)
def tc_X12_book_0 : List INS := [(0, 0, .aload_n 0, 1), (1, 0, .iconst 0, 1), (2, 2, .putfield 1, 3), (5, 0, .iload_n 1, 1), (6, 0, .iconst 0, 1), (7, 0, .iconst 1, 1), (8, 4, .invokestatic 194, 3), (11, 1, .ifCond .ne 7, 3), (14, 0, .sipush (-1000), 3), (17, 5, .ireturn, 1), (18, 0, .aload_n 0, 1), (19, 0, .sipush 400, 3), (22, 4, .invokevirtual 247, 3), (25, 0, .aload_n 0, 1), (26, 0, .iconst 0, 1), (27, 2, .putfield 179, 3), (30, 0, .aload_n 0, 1), (31, 0, .iconst 0, 1), (32, 2, .putfield 457, 3), (35, 0, .aload_n 0, 1), (36, 4, .invokevirtual 191, 3), (39, 0, .aload_n 0, 1), (40, 2, .getfield 162, 3), (43, 1, .ifCond .eq 40, 3), (83, 0, .aload_n 0, 1)]
def tc_X12_book_1 : List INS := [(84, 4, .invokevirtual 451, 3), (87, 0, .iconst 0, 1), (88, 0, .istore_n 2, 1), (89, 0, .iload_n 2, 1), (90, 0, .iconst 4, 1), (91, 1, .if_icmp .ge 16, 3), (94, 0, .aload_n 0, 1), (95, 2, .getfield 72, 3), (98, 0, .iload_n 2, 1), (99, 0, .iconst 0, 1), (100, 3, .iastore, 1), (101, 0, .iinc 2 1, 3), (104, 1, .goto (-15), 3), (107, 0, .iconst (-1), 1), (108, 0, .istore_n 2, 1), (109, 0, .iconst 0, 1), (110, 0, .istore_n 3, 1), (111, 0, .iload_n 3, 1), (112, 0, .aload_n 0, 1), (113, 2, .getfield 457, 3), (116, 1, .if_icmp .ge 85, 3), (201, 0, .aload_n 0, 1), (202, 2, .getfield 72, 3), (205, 0, .iconst 2, 1), (206, 0, .aload_n 0, 1)]
def tc_X12_book_2 : List INS := [(207, 2, .getfield 37, 3), (210, 0, .bipush 43, 2), (212, 3, .iaload, 1), (213, 3, .iastore, 1), (214, 0, .aload_n 0, 1), (215, 2, .getfield 72, 3), (218, 0, .iconst 3, 1), (219, 0, .aload_n 0, 1), (220, 4, .invokevirtual 294, 3), (223, 3, .iastore, 1), (224, 0, .aload_n 0, 1), (225, 0, .iconst 1, 1), (226, 2, .putfield 470, 3), (229, 0, .iload_n 1, 1), (230, 0, .iconst 1, 1), (231, 1, .if_icmp .ne 52, 3), (234, 0, .aload_n 0, 1), (235, 2, .getfield 72, 3), (238, 0, .iconst 1, 1), (239, 3, .iaload, 1), (240, 1, .ifCond .le 43, 3), (283, 0, .iload_n 1, 1), (284, 1, .ifCond .ne 7, 3), (287, 0, .aload_n 0, 1), (288, 4, .invokevirtual 454, 3)]
def tc_X12_book_3 : List INS := [(291, 0, .iload_n 2, 1), (292, 5, .ireturn, 1)]
def tb_X12_book : List INS := tc_X12_book_0 ++ (tc_X12_book_1 ++ (tc_X12_book_2 ++ (tc_X12_book_3)))
def mt_X12_book : MT := (yX12_book, cX12_book, 4, (some .int), (13, 1, 1, 11), (2, 0, 0, 43), tb_X12_book)
def tb_X12_byteAt : List INS := [(0, 0, .aload_n 0, 1), (1, 0, .iconst 0, 1), (2, 2, .putfield 1, 3), (5, 0, .iload_n 1, 1), (6, 0, .iconst 0, 1), (7, 0, .aload_n 0, 1), (8, 2, .getfield 419, 3), (11, 0, .iconst 1, 1), (12, 0, .isub, 1), (13, 4, .invokestatic 194, 3), (16, 1, .ifCond .eq 12, 3), (28, 0, .iconst (-1), 1), (29, 5, .ireturn, 1)]
def mt_X12_byteAt : MT := (yX12_byteAt, cX12_byteAt, 2, (some .int), (13, 1, 1, 11), (1, 0, 0, 22), tb_X12_byteAt)
def tb_X12_cant : List INS := [(0, 0, .aload_n 0, 1), (1, 0, .iconst 0, 1), (2, 2, .putfield 1, 3), (5, 0, .aload_n 0, 1), (6, 0, .iload_n 1, 1), (7, 4, .invokevirtual 282, 3), (10, 1, .ifCond .eq 78, 3), (88, 0, .iconst (-1), 1), (89, 5, .ireturn, 1)]
def mt_X12_cant : MT := (yX12_cant, cX12_cant, 7, (some .int), (13, 1, 4, 11), (2, 0, 0, 43), tb_X12_cant)
def tb_X12_canting : List INS := [(0, 0, .aload_n 0, 1), (1, 0, .iconst 0, 1), (2, 2, .putfield 1, 3), (5, 0, .aload_n 0, 1), (6, 2, .getfield 401, 3), (9, 1, .ifCond .eq 10, 3), (19, 0, .iconst (-1), 1), (20, 5, .ireturn, 1)]
def mt_X12_canting : MT := (yX12_canting, cX12_canting, 1, (some .int), (13, 1, 0, 11), (0, 0, 0, 0), tb_X12_canting)
def tb_X12_carriedSet : List INS := [(0, 0, .iconst 0, 1), (1, 0, .istore_n 1, 1), (2, 0, .iconst 0, 1), (3, 0, .istore_n 2, 1), (4, 0, .iload_n 2, 1), (5, 0, .aload_n 0, 1), (6, 2, .getfield 37, 3), (9, 0, .iconst 2, 1), (10, 3, .iaload, 1), (11, 1, .if_icmp .ge 27, 3), (38, 0, .iload_n 1, 1), (39, 5, .ireturn, 1)]
def mt_X12_carriedSet : MT := (yX12_carriedSet, cX12_carriedSet, 3, (some .int), (13, 1, 0, 11), (0, 0, 0, 0), tb_X12_carriedSet)
def tc_X12_city_0 : List INS := [(0, 0, .aload_n 0, 1), (1, 0, .iconst 0, 1), (2, 2, .putfield 1, 3), (5, 0, .aload_n 0, 1), (6, 0, .sipush 900, 3), (9, 4, .invokevirtual 247, 3), (12, 0, .aload_n 0, 1), (13, 0, .iconst 0, 1), (14, 2, .putfield 179, 3), (17, 0, .aload_n 0, 1), (18, 0, .iconst 0, 1), (19, 2, .putfield 250, 3), (22, 0, .aload_n 0, 1), (23, 0, .iconst 0, 1), (24, 2, .putfield 215, 3), (27, 0, .aload_n 0, 1), (28, 4, .invokevirtual 149, 3), (31, 0, .aload_n 0, 1), (32, 4, .invokevirtual 191, 3), (35, 0, .aload_n 0, 1), (36, 2, .getfield 162, 3), (39, 1, .ifCond .eq 39, 3), (78, 0, .iconst 0, 1), (79, 0, .istore_n 1, 1), (80, 0, .iload_n 1, 1)]
def tc_X12_city_1 : List INS := [(81, 0, .sipush 269, 3), (84, 1, .if_icmp .ge 31, 3), (87, 0, .aload_n 0, 1), (88, 2, .getfield 37, 3), (91, 0, .iload_n 1, 1), (92, 0, .iload_n 1, 1), (93, 0, .bipush 43, 2), (95, 1, .if_icmp .ge 12, 3), (98, 0, .aload_n 0, 1), (99, 2, .getfield 41, 3), (102, 0, .iload_n 1, 1), (103, 3, .iaload, 1), (104, 1, .goto 4, 3), (107, 0, .iconst 0, 1), (108, 3, .iastore, 1), (109, 0, .iinc 1 1, 3), (112, 1, .goto (-32), 3), (115, 0, .iconst 0, 1), (116, 0, .istore_n 1, 1), (117, 0, .iload_n 1, 1), (118, 0, .bipush 28, 2), (120, 1, .if_icmp .ge 24, 3), (123, 0, .aload_n 0, 1), (124, 2, .getfield 47, 3), (127, 0, .iload_n 1, 1)]
def tc_X12_city_2 : List INS := [(128, 0, .aload_n 0, 1), (129, 2, .getfield 47, 3), (132, 0, .bipush 28, 2), (134, 0, .iload_n 1, 1), (135, 0, .iadd, 1), (136, 3, .laload, 1), (137, 3, .lastore, 1), (138, 0, .iinc 1 1, 3), (141, 1, .goto (-24), 3), (144, 0, .iconst 0, 1), (145, 0, .istore_n 1, 1), (146, 0, .iload_n 1, 1), (147, 0, .bipush 8, 2), (149, 1, .if_icmp .ge 27, 3), (152, 0, .aload_n 0, 1), (153, 2, .getfield 37, 3), (156, 0, .bipush 46, 2), (158, 0, .iload_n 1, 1), (159, 0, .iadd, 1), (160, 0, .aload_n 0, 1), (161, 2, .getfield 37, 3), (164, 0, .bipush 8, 2), (166, 0, .iload_n 1, 1), (167, 0, .iadd, 1), (168, 3, .iaload, 1)]
def tc_X12_city_3 : List INS := [(169, 3, .iastore, 1), (170, 0, .iinc 1 1, 3), (173, 1, .goto (-27), 3), (176, 0, .iconst 0, 1), (177, 0, .istore_n 1, 1), (178, 0, .iload_n 1, 1), (179, 0, .bipush 6, 2), (181, 1, .if_icmp .ge 63, 3), (184, 0, .aload_n 0, 1), (185, 2, .getfield 37, 3), (188, 0, .bipush 70, 2), (190, 0, .iload_n 1, 1), (191, 0, .iadd, 1), (192, 0, .aload_n 0, 1), (193, 2, .getfield 37, 3), (196, 0, .bipush 24, 2), (198, 0, .iload_n 1, 1), (199, 0, .iadd, 1), (200, 3, .iaload, 1), (201, 3, .iastore, 1), (202, 0, .aload_n 0, 1), (203, 2, .getfield 37, 3), (206, 0, .bipush 76, 2), (208, 0, .iload_n 1, 1), (209, 0, .iadd, 1)]
def tc_X12_city_4 : List INS := [(210, 0, .aload_n 0, 1), (211, 2, .getfield 37, 3), (214, 0, .bipush 30, 2), (216, 0, .iload_n 1, 1), (217, 0, .iadd, 1), (218, 3, .iaload, 1), (219, 3, .iastore, 1), (220, 0, .aload_n 0, 1), (221, 2, .getfield 37, 3), (224, 0, .bipush 82, 2), (226, 0, .iload_n 1, 1), (227, 0, .iadd, 1), (228, 0, .aload_n 0, 1), (229, 2, .getfield 37, 3), (232, 0, .bipush 37, 2), (234, 0, .iload_n 1, 1), (235, 0, .iadd, 1), (236, 3, .iaload, 1), (237, 3, .iastore, 1), (238, 0, .iinc 1 1, 3), (241, 1, .goto (-63), 3), (244, 0, .aload_n 0, 1), (245, 0, .iconst 0, 1), (246, 2, .putfield 259, 3), (249, 0, .aload_n 0, 1)]
def tc_X12_city_5 : List INS := [(250, 2, .getfield 250, 3), (253, 5, .ireturn, 1)]
def tb_X12_city : List INS := tc_X12_city_0 ++ (tc_X12_city_1 ++ (tc_X12_city_2 ++ (tc_X12_city_3 ++ (tc_X12_city_4 ++ (tc_X12_city_5)))))
def mt_X12_city : MT := (yX12_city, cX12_city, 2, (some .int), (13, 1, 0, 11), (2, 0, 0, 43), tb_X12_city)
def tb_X12_clears : List INS := [(0, 0, .iconst 0, 1), (1, 0, .istore_n 1, 1), (2, 0, .iload_n 1, 1), (3, 0, .bipush 43, 2), (5, 1, .if_icmp .ge 16, 3), (8, 0, .aload_n 0, 1), (9, 2, .getfield 41, 3), (12, 0, .iload_n 1, 1), (13, 0, .iconst 0, 1), (14, 3, .iastore, 1), (15, 0, .iinc 1 1, 3), (18, 1, .goto (-16), 3), (21, 0, .aload_n 0, 1), (22, 2, .getfield 41, 3), (25, 0, .iconst 4, 1), (26, 0, .iconst 3, 1), (27, 3, .iastore, 1), (28, 0, .aload_n 0, 1), (29, 2, .getfield 41, 3), (32, 0, .iconst 5, 1), (33, 0, .iconst 1, 1), (34, 3, .iastore, 1), (35, 0, .aload_n 0, 1), (36, 2, .getfield 41, 3), (39, 0, .bipush 6, 2), (41, 0, .iconst 2, 1), (42, 3, .iastore, 1), (43, 0, .aload_n 0, 1), (44, 2, .getfield 41, 3), (47, 0, .bipush 7, 2), (49, 0, .iconst 5, 1), (50, 3, .iastore, 1), (51, 5, .return_, 1)]
def mt_X12_clears : MT := (yX12_clears, cX12_clears, 2, none, (13, 1, 0, 11), (0, 0, 0, 0), tb_X12_clears)
def tb_X12_count : List INS := [(0, 0, .aload_n 0, 1), (1, 0, .iconst 0, 1), (2, 2, .putfield 1, 3), (5, 0, .iload_n 1, 1), (6, 0, .bipush 8, 2), (8, 1, .if_icmp .ne 10, 3), (11, 0, .aload_n 0, 1), (12, 2, .getfield 7, 3), (15, 1, .goto 23, 3), (18, 0, .iload_n 1, 1), (19, 0, .iconst 0, 1), (20, 0, .bipush 7, 2), (22, 4, .invokestatic 194, 3), (25, 1, .ifCond .eq 12, 3), (28, 0, .aload_n 0, 1), (29, 2, .getfield 37, 3), (32, 0, .iload_n 1, 1), (33, 3, .iaload, 1), (34, 1, .goto 4, 3), (37, 0, .iconst (-1), 1), (38, 5, .ireturn, 1)]
def mt_X12_count : MT := (yX12_count, cX12_count, 2, (some .int), (13, 1, 1, 11), (1, 0, 0, 22), tb_X12_count)
def tb_X12_cover : List INS := [(0, 0, .aload_n 0, 1), (1, 0, .iconst 0, 1), (2, 2, .putfield 1, 3), (5, 0, .aload_n 0, 1), (6, 0, .iload_n 1, 1), (7, 4, .invokevirtual 282, 3), (10, 1, .ifCond .ne 5, 3), (13, 0, .iconst (-1), 1), (14, 5, .ireturn, 1)]
def mt_X12_cover : MT := (yX12_cover, cX12_cover, 4, (some .int), (13, 1, 1, 11), (2, 0, 0, 43), tb_X12_cover)
def tb_X12_covering : List INS := [(0, 0, .aload_n 0, 1), (1, 0, .iconst 0, 1), (2, 2, .putfield 1, 3), (5, 0, .aload_n 0, 1), (6, 2, .getfield 373, 3), (9, 1, .ifCond .eq 10, 3), (19, 0, .iconst (-1), 1), (20, 5, .ireturn, 1)]
def mt_X12_covering : MT := (yX12_covering, cX12_covering, 1, (some .int), (13, 1, 0, 11), (0, 0, 0, 0), tb_X12_covering)
def tb_X12_day : List INS := [(0, 0, .iconst 0, 1), (1, 0, .istore_n 1, 1), (2, 0, .iload_n 1, 1), (3, 0, .aload_n 0, 1), (4, 2, .getfield 37, 3), (7, 0, .iconst 3, 1), (8, 3, .iaload, 1), (9, 1, .if_icmp .ge 47, 3), (56, 0, .aload_n 0, 1), (57, 2, .getfield 37, 3), (60, 0, .bipush 43, 2), (62, 0, .dup2, 1), (63, 3, .iaload, 1), (64, 0, .iconst 1, 1), (65, 0, .iadd, 1), (66, 3, .iastore, 1), (67, 5, .return_, 1)]
def mt_X12_day : MT := (yX12_day, cX12_day, 2, none, (13, 1, 0, 11), (0, 0, 0, 0), tb_X12_day)
def tb_X12_days : List INS := [(0, 0, .aload_n 0, 1), (1, 0, .iconst 0, 1), (2, 2, .putfield 1, 3), (5, 0, .iload_n 1, 1), (6, 0, .iconst 1, 1), (7, 0, .bipush 60, 2), (9, 4, .invokestatic 194, 3), (12, 1, .ifCond .ne 5, 3), (15, 0, .iconst (-1), 1), (16, 5, .ireturn, 1), (17, 0, .aload_n 0, 1), (18, 2, .getfield 37, 3), (21, 0, .bipush 43, 2), (23, 3, .iaload, 1), (24, 0, .sipush 400, 3), (27, 1, .if_icmp .ne 5, 3), (32, 0, .aload_n 0, 1), (33, 4, .invokevirtual 321, 3), (36, 0, .aload_n 0, 1), (37, 0, .iload_n 1, 1), (38, 4, .invokevirtual 357, 3), (41, 5, .ireturn, 1)]
def mt_X12_days : MT := (yX12_days, cX12_days, 2, (some .int), (13, 1, 1, 11), (2, 0, 0, 43), tb_X12_days)
def tb_X12_drawn : List INS := [(0, 0, .aload_n 0, 1), (1, 0, .iconst 0, 1), (2, 2, .putfield 1, 3), (5, 0, .iload_n 1, 1), (6, 0, .iconst 1, 1), (7, 0, .bipush 60, 2), (9, 4, .invokestatic 194, 3), (12, 1, .ifCond .eq 12, 3), (15, 0, .aload_n 0, 1), (16, 2, .getfield 37, 3), (19, 0, .iconst 3, 1), (20, 3, .iaload, 1), (21, 1, .ifCond .ne 5, 3), (24, 0, .iconst (-1), 1), (25, 5, .ireturn, 1)]
def mt_X12_drawn : MT := (yX12_drawn, cX12_drawn, 3, (some .int), (13, 1, 2, 11), (1, 0, 0, 22), tb_X12_drawn)
def tb_X12_end : List INS := [(0, 0, .aload_n 0, 1), (1, 0, .iconst 0, 1), (2, 2, .putfield 1, 3), (5, 0, .iload_n 1, 1), (6, 1, .ifCond .lt 11, 3), (9, 0, .iload_n 1, 1), (10, 0, .aload_n 0, 1), (11, 2, .getfield 7, 3), (14, 1, .if_icmp .le 5, 3), (17, 0, .iconst 0, 1), (18, 5, .ireturn, 1), (19, 0, .aload_n 0, 1), (20, 0, .iload_n 1, 1), (21, 2, .putfield 7, 3), (24, 0, .iconst 1, 1), (25, 5, .ireturn, 1)]
def mt_X12_end : MT := (yX12_end, cX12_end, 2, (some .boolean), (13, 1, 1, 11), (0, 0, 0, 0), tb_X12_end)
def tb_X12_fault : List INS := [(0, 0, .aload_n 0, 1), (1, 0, .iconst 0, 1), (2, 2, .putfield 1, 3), (5, 0, .aload_n 0, 1), (6, 2, .getfield 179, 3), (9, 5, .ireturn, 1)]
def mt_X12_fault : MT := (yX12_fault, cX12_fault, 1, (some .int), (13, 1, 0, 11), (0, 0, 0, 0), tb_X12_fault)
def tb_X12_feed : List INS := [(0, 0, .aload_n 0, 1), (1, 0, .iconst 0, 1), (2, 2, .putfield 1, 3), (5, 0, .aload_n 0, 1), (6, 2, .getfield 7, 3), (9, 0, .bipush 20, 2), (11, 0, .iadd, 1), (12, 0, .sipush 940, 3), (15, 1, .if_icmp .le 5, 3), (20, 0, .aload_n 0, 1), (21, 0, .iload_n 1, 1), (22, 4, .invokevirtual 10, 3), (25, 0, .aload_n 0, 1), (26, 0, .iload_n 2, 1), (27, 4, .invokevirtual 10, 3), (30, 0, .aload_n 0, 1), (31, 0, .iload_n 3, 1), (32, 4, .invokevirtual 10, 3), (35, 0, .aload_n 0, 1), (36, 0, .iload 4, 2), (38, 4, .invokevirtual 10, 3), (41, 0, .aload_n 0, 1), (42, 0, .iload 5, 2), (44, 4, .invokevirtual 10, 3), (47, 0, .aload_n 0, 1), (48, 2, .getfield 7, 3), (51, 5, .ireturn, 1)]
def mt_X12_feed : MT := (yX12_feed, cX12_feed, 6, (some .int), (13, 1, 5, 11), (1, 0, 0, 22), tb_X12_feed)
def tb_X12_fits : List INS := [(0, 0, .aload_n 0, 1), (1, 0, .iconst 0, 1), (2, 2, .putfield 1, 3), (5, 0, .aload_n 0, 1), (6, 0, .iload_n 1, 1), (7, 4, .invokevirtual 282, 3), (10, 1, .ifCond .eq 38, 3), (48, 0, .iconst (-1), 1), (49, 5, .ireturn, 1)]
def mt_X12_fits : MT := (yX12_fits, cX12_fits, 4, (some .int), (13, 1, 3, 11), (2, 0, 0, 43), tb_X12_fits)
def tb_X12_four : List INS := [(0, 0, .bipush 24, 2), (2, 0, .istore_n 2, 1), (3, 0, .iload_n 2, 1), (4, 1, .ifCond .lt 32, 3), (7, 0, .aload_n 0, 1), (8, 2, .getfield 14, 3), (11, 0, .aload_n 0, 1), (12, 2, .getfield 7, 3), (15, 0, .iload_n 1, 1), (16, 0, .iload_n 2, 1), (17, 0, .ishr, 1), (18, 0, .i2b, 1), (19, 3, .bastore, 1), (20, 0, .aload_n 0, 1), (21, 0, .dup, 1), (22, 2, .getfield 7, 3), (25, 0, .iconst 1, 1), (26, 0, .iadd, 1), (27, 2, .putfield 7, 3), (30, 0, .iinc 2 (-8), 3), (33, 1, .goto (-30), 3), (36, 5, .return_, 1)]
def mt_X12_four : MT := (yX12_four, cX12_four, 3, none, (13, 1, 1, 11), (0, 0, 0, 0), tb_X12_four)
def tb_X12_go : List INS := [(0, 0, .aload_n 0, 1), (1, 0, .iconst 0, 1), (2, 2, .putfield 1, 3), (5, 0, .aload_n 0, 1), (6, 0, .iload_n 1, 1), (7, 4, .invokevirtual 282, 3), (10, 1, .ifCond .eq 11, 3), (21, 0, .iconst (-1), 1), (22, 5, .ireturn, 1)]
def mt_X12_go : MT := (yX12_go, cX12_go, 3, (some .int), (13, 1, 2, 11), (2, 0, 0, 43), tb_X12_go)
def tb_X12_goesOn : List INS := [(0, 0, .iconst 0, 1), (1, 0, .istore_n 2, 1), (2, 0, .iload_n 2, 1), (3, 0, .iload_n 1, 1), (4, 1, .if_icmp .ge 26, 3), (7, 0, .aload_n 0, 1), (8, 2, .getfield 37, 3), (11, 0, .bipush 43, 2), (13, 3, .iaload, 1), (14, 0, .sipush 400, 3), (17, 1, .if_icmp .ge 13, 3), (20, 0, .aload_n 0, 1), (21, 4, .invokevirtual 318, 3), (24, 0, .iinc 2 1, 3), (27, 1, .goto (-25), 3), (30, 0, .iload_n 2, 1), (31, 5, .ireturn, 1)]
def mt_X12_goesOn : MT := (yX12_goesOn, cX12_goesOn, 3, (some .int), (13, 1, 1, 11), (1, 0, 0, 21), tb_X12_goesOn)
def tb_X12_image : List INS := [(0, 0, .aload_n 0, 1), (1, 0, .iconst 0, 1), (2, 2, .putfield 1, 3), (5, 0, .iload_n 1, 1), (6, 0, .iconst 0, 1), (7, 0, .iconst 1, 1), (8, 4, .invokestatic 194, 3), (11, 1, .ifCond .ne 5, 3), (14, 0, .iconst 0, 1), (15, 5, .ireturn, 1), (16, 0, .iconst 0, 1), (17, 0, .istore_n 2, 1), (18, 0, .iload_n 2, 1), (19, 0, .sipush 269, 3), (22, 1, .if_icmp .ge 27, 3), (25, 0, .aload_n 0, 1), (26, 2, .getfield 82, 3), (29, 0, .sipush 269, 3), (32, 0, .iload_n 1, 1), (33, 0, .imul, 1), (34, 0, .iload_n 2, 1), (35, 0, .iadd, 1), (36, 0, .aload_n 0, 1), (37, 2, .getfield 37, 3), (40, 0, .iload_n 2, 1), (41, 3, .iaload, 1), (42, 3, .iastore, 1), (43, 0, .iinc 2 1, 3), (46, 1, .goto (-28), 3), (49, 0, .iconst 0, 1), (50, 0, .istore_n 2, 1), (51, 0, .iload_n 2, 1), (52, 0, .bipush 28, 2), (54, 1, .if_icmp .ge 26, 3), (57, 0, .aload_n 0, 1), (58, 2, .getfield 85, 3), (61, 0, .bipush 28, 2), (63, 0, .iload_n 1, 1), (64, 0, .imul, 1), (65, 0, .iload_n 2, 1), (66, 0, .iadd, 1), (67, 0, .aload_n 0, 1), (68, 2, .getfield 47, 3), (71, 0, .iload_n 2, 1), (72, 3, .laload, 1), (73, 3, .lastore, 1), (74, 0, .iinc 2 1, 3), (77, 1, .goto (-26), 3), (80, 0, .aload_n 0, 1), (81, 2, .getfield 88, 3), (84, 0, .iload_n 1, 1), (85, 0, .iconst 1, 1), (86, 3, .bastore, 1), (87, 0, .iconst 1, 1), (88, 5, .ireturn, 1)]
def mt_X12_image : MT := (yX12_image, cX12_image, 3, (some .boolean), (13, 1, 1, 11), (1, 0, 0, 22), tb_X12_image)
def tc_X12_init_0 : List INS := [(0, 0, .aload_n 0, 1), (1, 2, .invokespecial 31, 3), (4, 0, .aload_n 0, 1), (5, 0, .sipush 940, 3), (8, 2, .newarray .byte, 2), (10, 2, .putfield 14, 3), (13, 0, .aload_n 0, 1), (14, 0, .sipush 269, 3), (17, 2, .newarray .int, 2), (19, 2, .putfield 37, 3), (22, 0, .aload_n 0, 1), (23, 0, .bipush 43, 2), (25, 2, .newarray .int, 2), (27, 2, .putfield 41, 3), (30, 0, .aload_n 0, 1), (31, 0, .sipush 160, 3), (34, 2, .newarray .int, 2), (36, 2, .putfield 44, 3), (39, 0, .aload_n 0, 1), (40, 0, .bipush 56, 2), (42, 2, .newarray .long, 2), (44, 2, .putfield 47, 3), (47, 0, .aload_n 0, 1), (48, 0, .bipush 29, 2), (50, 2, .newarray .long, 2)]
def tc_X12_init_1 : List INS := [(52, 2, .putfield 51, 3), (55, 0, .aload_n 0, 1), (56, 0, .sipush 360, 3), (59, 2, .newarray .int, 2), (61, 2, .putfield 54, 3), (64, 0, .aload_n 0, 1), (65, 0, .bipush 45, 2), (67, 2, .newarray .int, 2), (69, 2, .putfield 57, 3), (72, 0, .aload_n 0, 1), (73, 0, .bipush 10, 2), (75, 2, .newarray .int, 2), (77, 2, .putfield 60, 3), (80, 0, .aload_n 0, 1), (81, 0, .bipush 8, 2), (83, 2, .newarray .int, 2), (85, 2, .putfield 63, 3), (88, 0, .aload_n 0, 1), (89, 0, .bipush 8, 2), (91, 2, .newarray .int, 2), (93, 2, .putfield 66, 3), (96, 0, .aload_n 0, 1), (97, 0, .bipush 96, 2), (99, 2, .newarray .byte, 2), (101, 2, .putfield 69, 3)]
def tc_X12_init_2 : List INS := [(104, 0, .aload_n 0, 1), (105, 0, .iconst 4, 1), (106, 2, .newarray .int, 2), (108, 2, .putfield 72, 3), (111, 0, .aload_n 0, 1), (112, 0, .bipush 45, 2), (114, 2, .newarray .int, 2), (116, 2, .putfield 75, 3), (119, 0, .aload_n 0, 1), (120, 0, .bipush 45, 2), (122, 2, .newarray .boolean, 2), (124, 2, .putfield 78, 3), (127, 0, .aload_n 0, 1), (128, 0, .sipush 538, 3), (131, 2, .newarray .int, 2), (133, 2, .putfield 82, 3), (136, 0, .aload_n 0, 1), (137, 0, .bipush 56, 2), (139, 2, .newarray .long, 2), (141, 2, .putfield 85, 3), (144, 0, .aload_n 0, 1), (145, 0, .iconst 2, 1), (146, 2, .newarray .boolean, 2), (148, 2, .putfield 88, 3), (151, 0, .aload_n 0, 1)]
def tc_X12_init_3 : List INS := [(152, 2, .getfield 51, 3), (155, 0, .iconst 0, 1), (156, 2, .ldc2_w 91, 3), (159, 3, .lastore, 1), (160, 0, .aload_n 0, 1), (161, 2, .getfield 51, 3), (164, 0, .iconst 1, 1), (165, 2, .ldc2_w 93, 3), (168, 3, .lastore, 1), (169, 0, .aload_n 0, 1), (170, 2, .getfield 51, 3), (173, 0, .iconst 2, 1), (174, 2, .ldc2_w 95, 3), (177, 3, .lastore, 1), (178, 0, .aload_n 0, 1), (179, 2, .getfield 51, 3), (182, 0, .iconst 3, 1), (183, 2, .ldc2_w 97, 3), (186, 3, .lastore, 1), (187, 0, .aload_n 0, 1), (188, 2, .getfield 51, 3), (191, 0, .iconst 4, 1), (192, 2, .ldc2_w 99, 3), (195, 3, .lastore, 1), (196, 0, .aload_n 0, 1)]
def tc_X12_init_4 : List INS := [(197, 2, .getfield 51, 3), (200, 0, .iconst 5, 1), (201, 2, .ldc2_w 101, 3), (204, 3, .lastore, 1), (205, 0, .aload_n 0, 1), (206, 2, .getfield 51, 3), (209, 0, .bipush 6, 2), (211, 2, .ldc2_w 103, 3), (214, 3, .lastore, 1), (215, 0, .aload_n 0, 1), (216, 2, .getfield 51, 3), (219, 0, .bipush 7, 2), (221, 2, .ldc2_w 105, 3), (224, 3, .lastore, 1), (225, 0, .aload_n 0, 1), (226, 2, .getfield 51, 3), (229, 0, .bipush 8, 2), (231, 2, .ldc2_w 107, 3), (234, 3, .lastore, 1), (235, 0, .aload_n 0, 1), (236, 2, .getfield 51, 3), (239, 0, .bipush 9, 2), (241, 2, .ldc2_w 109, 3), (244, 3, .lastore, 1), (245, 0, .aload_n 0, 1)]
def tc_X12_init_5 : List INS := [(246, 2, .getfield 51, 3), (249, 0, .bipush 10, 2), (251, 2, .ldc2_w 111, 3), (254, 3, .lastore, 1), (255, 0, .aload_n 0, 1), (256, 2, .getfield 51, 3), (259, 0, .bipush 11, 2), (261, 2, .ldc2_w 113, 3), (264, 3, .lastore, 1), (265, 0, .aload_n 0, 1), (266, 2, .getfield 51, 3), (269, 0, .bipush 12, 2), (271, 2, .ldc2_w 115, 3), (274, 3, .lastore, 1), (275, 0, .aload_n 0, 1), (276, 2, .getfield 51, 3), (279, 0, .bipush 13, 2), (281, 2, .ldc2_w 117, 3), (284, 3, .lastore, 1), (285, 0, .aload_n 0, 1), (286, 2, .getfield 51, 3), (289, 0, .bipush 14, 2), (291, 2, .ldc2_w 119, 3), (294, 3, .lastore, 1), (295, 0, .aload_n 0, 1)]
def tc_X12_init_6 : List INS := [(296, 2, .getfield 51, 3), (299, 0, .bipush 15, 2), (301, 2, .ldc2_w 121, 3), (304, 3, .lastore, 1), (305, 0, .aload_n 0, 1), (306, 2, .getfield 51, 3), (309, 0, .bipush 16, 2), (311, 2, .ldc2_w 123, 3), (314, 3, .lastore, 1), (315, 0, .aload_n 0, 1), (316, 2, .getfield 51, 3), (319, 0, .bipush 17, 2), (321, 2, .ldc2_w 125, 3), (324, 3, .lastore, 1), (325, 0, .aload_n 0, 1), (326, 2, .getfield 51, 3), (329, 0, .bipush 18, 2), (331, 2, .ldc2_w 127, 3), (334, 3, .lastore, 1), (335, 0, .aload_n 0, 1), (336, 2, .getfield 51, 3), (339, 0, .bipush 19, 2), (341, 2, .ldc2_w 129, 3), (344, 3, .lastore, 1), (345, 0, .aload_n 0, 1)]
def tc_X12_init_7 : List INS := [(346, 2, .getfield 51, 3), (349, 0, .bipush 20, 2), (351, 2, .ldc2_w 131, 3), (354, 3, .lastore, 1), (355, 0, .aload_n 0, 1), (356, 2, .getfield 51, 3), (359, 0, .bipush 21, 2), (361, 2, .ldc2_w 133, 3), (364, 3, .lastore, 1), (365, 0, .aload_n 0, 1), (366, 2, .getfield 51, 3), (369, 0, .bipush 22, 2), (371, 2, .ldc2_w 135, 3), (374, 3, .lastore, 1), (375, 0, .aload_n 0, 1), (376, 2, .getfield 51, 3), (379, 0, .bipush 23, 2), (381, 2, .ldc2_w 137, 3), (384, 3, .lastore, 1), (385, 0, .aload_n 0, 1), (386, 2, .getfield 51, 3), (389, 0, .bipush 24, 2), (391, 2, .ldc2_w 139, 3), (394, 3, .lastore, 1), (395, 0, .aload_n 0, 1)]
def tc_X12_init_8 : List INS := [(396, 2, .getfield 51, 3), (399, 0, .bipush 25, 2), (401, 2, .ldc2_w 141, 3), (404, 3, .lastore, 1), (405, 0, .aload_n 0, 1), (406, 2, .getfield 51, 3), (409, 0, .bipush 26, 2), (411, 2, .ldc2_w 143, 3), (414, 3, .lastore, 1), (415, 0, .aload_n 0, 1), (416, 2, .getfield 51, 3), (419, 0, .bipush 27, 2), (421, 2, .ldc2_w 145, 3), (424, 3, .lastore, 1), (425, 0, .aload_n 0, 1), (426, 2, .getfield 51, 3), (429, 0, .bipush 28, 2), (431, 2, .ldc2_w 147, 3), (434, 3, .lastore, 1), (435, 0, .aload_n 0, 1), (436, 4, .invokevirtual 149, 3), (439, 0, .iconst 0, 1), (440, 0, .istore_n 1, 1), (441, 0, .iload_n 1, 1), (442, 0, .bipush 43, 2)]
def tc_X12_init_9 : List INS := [(444, 1, .if_icmp .ge 21, 3), (447, 0, .aload_n 0, 1), (448, 2, .getfield 37, 3), (451, 0, .iload_n 1, 1), (452, 0, .aload_n 0, 1), (453, 2, .getfield 41, 3), (456, 0, .iload_n 1, 1), (457, 3, .iaload, 1), (458, 3, .iastore, 1), (459, 0, .iinc 1 1, 3), (462, 1, .goto (-21), 3), (465, 5, .return_, 1)]
def tb_X12_init : List INS := tc_X12_init_0 ++ (tc_X12_init_1 ++ (tc_X12_init_2 ++ (tc_X12_init_3 ++ (tc_X12_init_4 ++ (tc_X12_init_5 ++ (tc_X12_init_6 ++ (tc_X12_init_7 ++ (tc_X12_init_8 ++ (tc_X12_init_9)))))))))
def mt_X12_init : MT := (yX12_init, cX12_init, 2, none, (13, 2, 0, 11), (1, 18, 2714, 21), tb_X12_init)
def tb_X12_isFast : List INS := [(0, 0, .aload_n 0, 1), (1, 2, .getfield 37, 3), (4, 0, .bipush 43, 2), (6, 3, .iaload, 1), (7, 0, .bipush 7, 2), (9, 0, .irem, 1), (10, 0, .aload_n 0, 1), (11, 2, .getfield 37, 3), (14, 0, .bipush 7, 2), (16, 3, .iaload, 1), (17, 1, .if_icmp .ne 7, 3), (24, 0, .iconst 0, 1), (25, 5, .ireturn, 1)]
def mt_X12_isFast : MT := (yX12_isFast, cX12_isFast, 1, (some .boolean), (13, 1, 0, 11), (0, 0, 0, 0), tb_X12_isFast)
def tb_X12_isIn : List INS := [(0, 0, .iload_n 0, 1), (1, 0, .iload_n 1, 1), (2, 1, .if_icmp .lt 12, 3), (5, 0, .iload_n 0, 1), (6, 0, .iload_n 2, 1), (7, 1, .if_icmp .gt 7, 3), (10, 0, .iconst 1, 1), (11, 1, .goto 4, 3), (14, 0, .iconst 0, 1), (15, 5, .ireturn, 1)]
def mt_X12_isIn : MT := (yX12_isIn, cX12_isIn, 3, (some .boolean), (13, 0, 3, 11), (0, 0, 0, 0), tb_X12_isIn)
def tb_X12_isPerson : List INS := [(0, 0, .iload_n 1, 1), (1, 0, .iconst 0, 1), (2, 0, .aload_n 0, 1), (3, 2, .getfield 37, 3), (6, 0, .iconst 3, 1), (7, 3, .iaload, 1), (8, 0, .iconst 1, 1), (9, 0, .isub, 1), (10, 4, .invokestatic 194, 3), (13, 5, .ireturn, 1)]
def mt_X12_isPerson : MT := (yX12_isPerson, cX12_isPerson, 2, (some .boolean), (13, 1, 1, 11), (1, 0, 0, 22), tb_X12_isPerson)
def tb_X12_isPlace : List INS := [(0, 0, .iload_n 1, 1), (1, 0, .iconst 0, 1), (2, 0, .aload_n 0, 1), (3, 2, .getfield 37, 3), (6, 0, .iconst 0, 1), (7, 3, .iaload, 1), (8, 0, .iconst 1, 1), (9, 0, .isub, 1), (10, 4, .invokestatic 194, 3), (13, 5, .ireturn, 1)]
def mt_X12_isPlace : MT := (yX12_isPlace, cX12_isPlace, 2, (some .boolean), (13, 1, 1, 11), (1, 0, 0, 22), tb_X12_isPlace)
def tb_X12_isSign : List INS := [(0, 0, .aload_n 0, 1), (1, 2, .getfield 162, 3), (4, 0, .iconst 3, 1), (5, 1, .if_icmp .ne 15, 3), (20, 0, .iconst 0, 1), (21, 5, .ireturn, 1)]
def mt_X12_isSign : MT := (yX12_isSign, cX12_isSign, 2, (some .boolean), (13, 1, 1, 11), (0, 0, 0, 0), tb_X12_isSign)
def tb_X12_isThing : List INS := [(0, 0, .iload_n 1, 1), (1, 0, .iconst 0, 1), (2, 0, .aload_n 0, 1), (3, 2, .getfield 37, 3), (6, 0, .iconst 2, 1), (7, 3, .iaload, 1), (8, 0, .iconst 1, 1), (9, 0, .isub, 1), (10, 4, .invokestatic 194, 3), (13, 5, .ireturn, 1)]
def mt_X12_isThing : MT := (yX12_isThing, cX12_isThing, 2, (some .boolean), (13, 1, 1, 11), (1, 0, 0, 22), tb_X12_isThing)
def tb_X12_isWord : List INS := [(0, 0, .aload_n 0, 1), (1, 2, .getfield 162, 3), (4, 0, .iconst 1, 1), (5, 1, .if_icmp .ne 16, 3), (21, 0, .iconst 0, 1), (22, 5, .ireturn, 1)]
def mt_X12_isWord : MT := (yX12_isWord, cX12_isWord, 3, (some .boolean), (13, 1, 1, 11), (0, 0, 0, 0), tb_X12_isWord)
def tb_X12_keep : List INS := [(0, 0, .aload_n 0, 1), (1, 2, .getfield 259, 3), (4, 0, .bipush 8, 2), (6, 1, .if_icmp .ne 39, 3), (45, 0, .iconst 0, 1), (46, 0, .istore_n 1, 1), (47, 0, .iload_n 1, 1), (48, 0, .bipush 45, 2), (50, 1, .if_icmp .ge 32, 3), (53, 0, .aload_n 0, 1), (54, 2, .getfield 54, 3), (57, 0, .bipush 45, 2), (59, 0, .aload_n 0, 1), (60, 2, .getfield 259, 3), (63, 0, .imul, 1), (64, 0, .iload_n 1, 1), (65, 0, .iadd, 1), (66, 0, .aload_n 0, 1), (67, 2, .getfield 37, 3), (70, 0, .bipush 43, 2), (72, 0, .iload_n 1, 1), (73, 0, .iadd, 1), (74, 3, .iaload, 1), (75, 3, .iastore, 1), (76, 0, .iinc 1 1, 3), (79, 1, .goto (-32), 3), (82, 0, .aload_n 0, 1), (83, 0, .dup, 1), (84, 2, .getfield 259, 3), (87, 0, .iconst 1, 1), (88, 0, .iadd, 1), (89, 2, .putfield 259, 3), (92, 5, .return_, 1)]
def mt_X12_keep : MT := (yX12_keep, cX12_keep, 2, none, (13, 1, 0, 11), (0, 0, 0, 0), tb_X12_keep)
def tb_X12_leafOf : List INS := [(0, 0, .aload_n 0, 1), (1, 2, .ldc2_w 133, 3), (4, 4, .invokevirtual 221, 3), (7, 1, .ifCond .eq 7, 3), (14, 0, .aload_n 0, 1), (15, 2, .ldc2_w 135, 3), (18, 4, .invokevirtual 221, 3), (21, 1, .ifCond .eq 7, 3), (28, 0, .aload_n 0, 1), (29, 2, .ldc2_w 137, 3), (32, 4, .invokevirtual 221, 3), (35, 1, .ifCond .eq 7, 3), (42, 0, .aload_n 0, 1), (43, 2, .ldc2_w 139, 3), (46, 4, .invokevirtual 221, 3), (49, 1, .ifCond .eq 7, 3), (56, 0, .aload_n 0, 1), (57, 2, .ldc2_w 141, 3), (60, 4, .invokevirtual 221, 3), (63, 1, .ifCond .eq 7, 3), (70, 0, .aload_n 0, 1), (71, 2, .ldc2_w 143, 3), (74, 4, .invokevirtual 221, 3), (77, 1, .ifCond .eq 7, 3), (84, 0, .aload_n 0, 1), (85, 2, .ldc2_w 145, 3), (88, 4, .invokevirtual 221, 3), (91, 1, .ifCond .eq 8, 3), (99, 0, .aload_n 0, 1), (100, 2, .ldc2_w 147, 3), (103, 4, .invokevirtual 221, 3), (106, 1, .ifCond .eq 8, 3), (114, 0, .iconst (-1), 1), (115, 5, .ireturn, 1)]
def mt_X12_leafOf : MT := (yX12_leafOf, cX12_leafOf, 1, (some .int), (13, 1, 0, 11), (1, 0, 0, 22), tb_X12_leafOf)
def tb_X12_learn : List INS := [(0, 0, .aload_n 0, 1), (1, 0, .iconst 0, 1), (2, 2, .putfield 1, 3), (5, 0, .aload_n 0, 1), (6, 0, .iload_n 1, 1), (7, 4, .invokevirtual 282, 3), (10, 1, .ifCond .eq 11, 3), (21, 0, .iconst (-1), 1), (22, 5, .ireturn, 1)]
def mt_X12_learn : MT := (yX12_learn, cX12_learn, 4, (some .int), (13, 1, 2, 11), (2, 0, 0, 43), tb_X12_learn)
def tb_X12_lies : List INS := [(0, 0, .aload_n 0, 1), (1, 0, .iconst 0, 1), (2, 2, .putfield 1, 3), (5, 0, .aload_n 0, 1), (6, 0, .iload_n 1, 1), (7, 4, .invokevirtual 288, 3), (10, 1, .ifCond .eq 11, 3), (21, 0, .iconst (-1), 1), (22, 5, .ireturn, 1)]
def mt_X12_lies : MT := (yX12_lies, cX12_lies, 2, (some .int), (13, 1, 1, 11), (2, 0, 0, 43), tb_X12_lies)
def tb_X12_name : List INS := [(0, 0, .aload_n 0, 1), (1, 0, .iconst 0, 1), (2, 2, .putfield 1, 3), (5, 0, .aload_n 0, 1), (6, 0, .iload_n 1, 1), (7, 4, .invokevirtual 282, 3), (10, 1, .ifCond .eq 11, 3), (21, 0, .iconst (-1), 1), (22, 5, .ireturn, 1)]
def mt_X12_name : MT := (yX12_name, cX12_name, 4, (some .int), (13, 1, 2, 11), (2, 0, 0, 43), tb_X12_name)
def tb_X12_news : List INS := [(0, 0, .aload_n 0, 1), (1, 0, .iconst 0, 1), (2, 2, .putfield 1, 3), (5, 0, .aload_n 0, 1), (6, 0, .iload_n 1, 1), (7, 4, .invokevirtual 282, 3), (10, 1, .ifCond .ne 5, 3), (13, 0, .iconst (-1), 1), (14, 5, .ireturn, 1)]
def mt_X12_news : MT := (yX12_news, cX12_news, 8, (some .int), (13, 1, 1, 11), (2, 0, 0, 43), tb_X12_news)
def tb_X12_next : List INS := [(0, 0, .aload_n 0, 1), (1, 4, .invokevirtual 152, 3), (4, 0, .bipush 32, 2), (6, 1, .if_icmp .eq 12, 3), (9, 0, .aload_n 0, 1), (10, 4, .invokevirtual 152, 3), (13, 0, .bipush 10, 2), (15, 1, .if_icmp .ne 16, 3), (31, 0, .aload_n 0, 1), (32, 0, .aload_n 0, 1), (33, 2, .getfield 21, 3), (36, 2, .putfield 156, 3), (39, 0, .aload_n 0, 1), (40, 0, .iconst 0, 1), (41, 2, .putfield 159, 3), (44, 0, .aload_n 0, 1), (45, 2, .getfield 18, 3), (48, 0, .aload_n 0, 1), (49, 2, .getfield 24, 3), (52, 1, .if_icmp .le 28, 3), (80, 0, .aload_n 0, 1), (81, 4, .invokevirtual 152, 3), (84, 0, .istore_n 1, 1), (85, 0, .iload_n 1, 1), (86, 1, .ifCond .ge 9, 3), (89, 0, .aload_n 0, 1), (90, 0, .iconst 0, 1), (91, 2, .putfield 162, 3), (94, 5, .return_, 1)]
def mt_X12_next : MT := (yX12_next, cX12_next, 4, none, (13, 1, 0, 11), (1, 0, 0, 20), tb_X12_next)
def tb_X12_now : List INS := [(0, 0, .aload_n 0, 1), (1, 0, .iconst 0, 1), (2, 2, .putfield 1, 3), (5, 0, .iconst 0, 1), (6, 0, .istore_n 2, 1), (7, 0, .iconst 0, 1), (8, 0, .istore_n 3, 1), (9, 0, .iload_n 3, 1), (10, 0, .aload_n 0, 1), (11, 2, .getfield 37, 3), (14, 0, .iconst 3, 1), (15, 3, .iaload, 1), (16, 1, .if_icmp .ge 21, 3), (37, 0, .iload_n 1, 1), (38, 1, .tableswitch 111 0 6 #[42, 50, 63, 65, 70, 78, 86], 42), (80, 0, .aload_n 0, 1), (81, 2, .getfield 37, 3), (84, 0, .bipush 43, 2), (86, 3, .iaload, 1), (87, 5, .ireturn, 1), (88, 0, .aload_n 0, 1), (89, 4, .invokevirtual 291, 3), (92, 1, .ifCond .eq 7, 3), (99, 0, .iconst 0, 1), (100, 5, .ireturn, 1), (101, 0, .iload_n 2, 1), (102, 5, .ireturn, 1), (103, 0, .aload_n 0, 1), (104, 4, .invokevirtual 294, 3), (107, 5, .ireturn, 1), (108, 0, .aload_n 0, 1), (109, 2, .getfield 37, 3), (112, 0, .bipush 44, 2), (114, 3, .iaload, 1), (115, 5, .ireturn, 1), (116, 0, .aload_n 0, 1), (117, 2, .getfield 37, 3), (120, 0, .bipush 45, 2), (122, 3, .iaload, 1), (123, 5, .ireturn, 1), (124, 0, .aload_n 0, 1), (125, 2, .getfield 37, 3), (128, 0, .bipush 7, 2), (130, 3, .iaload, 1), (131, 0, .bipush 7, 2), (133, 0, .iadd, 1), (134, 0, .aload_n 0, 1), (135, 2, .getfield 37, 3), (138, 0, .bipush 43, 2), (140, 3, .iaload, 1), (141, 0, .bipush 7, 2), (143, 0, .irem, 1), (144, 0, .isub, 1), (145, 0, .bipush 7, 2), (147, 0, .irem, 1), (148, 5, .ireturn, 1), (149, 0, .iconst (-1), 1), (150, 5, .ireturn, 1)]
def mt_X12_now : MT := (yX12_now, cX12_now, 4, (some .int), (13, 1, 1, 11), (1, 0, 0, 22), tb_X12_now)
def tb_X12_odds : List INS := [(0, 0, .aload_n 0, 1), (1, 0, .iconst 0, 1), (2, 2, .putfield 1, 3), (5, 0, .aload_n 0, 1), (6, 0, .iload_n 1, 1), (7, 4, .invokevirtual 272, 3), (10, 1, .ifCond .eq 22, 3), (32, 0, .iconst (-1), 1), (33, 5, .ireturn, 1)]
def mt_X12_odds : MT := (yX12_odds, cX12_odds, 6, (some .int), (13, 1, 3, 11), (2, 0, 0, 43), tb_X12_odds)
def tb_X12_operand : List INS := [(0, 0, .aload_n 0, 1), (1, 2, .ldc2_w 131, 3), (4, 4, .invokevirtual 221, 3), (7, 0, .istore_n 1, 1), (8, 0, .aload_n 0, 1), (9, 0, .bipush 40, 2), (11, 4, .invokevirtual 185, 3), (14, 0, .istore_n 2, 1), (15, 0, .aload_n 0, 1), (16, 4, .invokevirtual 485, 3), (19, 0, .istore_n 3, 1), (20, 0, .iload_n 1, 1), (21, 1, .ifCond .ne 17, 3), (24, 0, .iload_n 2, 1), (25, 1, .ifCond .ne 13, 3), (28, 0, .iload_n 3, 1), (29, 1, .ifCond .ge 9, 3), (32, 0, .aload_n 0, 1), (33, 0, .iconst 1, 1), (34, 4, .invokevirtual 188, 3), (37, 5, .ireturn, 1)]
def mt_X12_operand : MT := (yX12_operand, cX12_operand, 5, (some .boolean), (13, 1, 0, 11), (2, 0, 0, 42), tb_X12_operand)
def tb_X12_peek : List INS := [(0, 0, .aload_n 0, 1), (1, 2, .getfield 21, 3), (4, 0, .aload_n 0, 1), (5, 2, .getfield 18, 3), (8, 1, .if_icmp .ge 19, 3), (27, 0, .iconst (-1), 1), (28, 5, .ireturn, 1)]
def mt_X12_peek : MT := (yX12_peek, cX12_peek, 1, (some .int), (13, 1, 0, 11), (0, 0, 0, 0), tb_X12_peek)
def tb_X12_person : List INS := [(0, 0, .aload_n 0, 1), (1, 0, .aload_n 0, 1), (2, 0, .iload_n 1, 1), (3, 4, .invokevirtual 282, 3), (6, 1, .ifCond .eq 12, 3), (18, 0, .iconst 1, 1), (19, 1, .goto 4, 3), (23, 4, .invokevirtual 275, 3), (26, 1, .ifCond .eq 5, 3), (29, 0, .iconst 0, 1), (30, 5, .ireturn, 1)]
def mt_X12_person : MT := (yX12_person, cX12_person, 3, (some .int), (13, 1, 2, 11), (2, 0, 0, 43), tb_X12_person)
def tb_X12_phrase : List INS := [(0, 0, .aload_n 0, 1), (1, 0, .iconst 0, 1), (2, 2, .putfield 1, 3), (5, 0, .aload_n 0, 1), (6, 0, .iload_n 1, 1), (7, 4, .invokevirtual 272, 3), (10, 1, .ifCond .ne 5, 3), (13, 0, .iconst (-1), 1), (14, 5, .ireturn, 1)]
def mt_X12_phrase : MT := (yX12_phrase, cX12_phrase, 3, (some .int), (13, 1, 1, 11), (2, 0, 0, 43), tb_X12_phrase)
def tb_X12_point : List INS := [(0, 0, .aload_n 0, 1), (1, 0, .iconst 0, 1), (2, 2, .putfield 1, 3), (5, 0, .aload_n 0, 1), (6, 0, .iload_n 1, 1), (7, 4, .invokevirtual 282, 3), (10, 1, .ifCond .eq 11, 3), (21, 0, .iconst (-1), 1), (22, 5, .ireturn, 1)]
def mt_X12_point : MT := (yX12_point, cX12_point, 4, (some .int), (13, 1, 2, 11), (2, 0, 0, 43), tb_X12_point)
def tb_X12_put : List INS := [(0, 0, .aload_n 0, 1), (1, 0, .iconst 0, 1), (2, 2, .putfield 1, 3), (5, 0, .aload_n 0, 1), (6, 0, .iload_n 1, 1), (7, 4, .invokevirtual 282, 3), (10, 1, .ifCond .eq 11, 3), (21, 0, .iconst (-1), 1), (22, 5, .ireturn, 1)]
def mt_X12_put : MT := (yX12_put, cX12_put, 3, (some .int), (13, 1, 2, 11), (2, 0, 0, 43), tb_X12_put)
def tb_X12_rest : List INS := [(0, 0, .aload_n 0, 1), (1, 0, .iconst 0, 1), (2, 2, .putfield 1, 3), (5, 0, .aload_n 0, 1), (6, 0, .iload_n 1, 1), (7, 4, .invokevirtual 288, 3), (10, 1, .ifCond .ne 5, 3), (13, 0, .iconst (-1), 1), (14, 5, .ireturn, 1)]
def mt_X12_rest : MT := (yX12_rest, cX12_rest, 6, (some .int), (13, 1, 1, 11), (2, 0, 0, 43), tb_X12_rest)
def tb_X12_rested : List INS := [(0, 0, .aload_n 0, 1), (1, 0, .iconst 0, 1), (2, 2, .putfield 1, 3), (5, 0, .aload_n 0, 1), (6, 2, .getfield 416, 3), (9, 1, .ifCond .eq 22, 3), (31, 0, .iconst (-1), 1), (32, 5, .ireturn, 1)]
def mt_X12_rested : MT := (yX12_rested, cX12_rested, 2, (some .int), (13, 1, 1, 11), (0, 0, 0, 0), tb_X12_rested)
def tb_X12_restore : List INS := [(0, 0, .aload_n 0, 1), (1, 0, .iconst 0, 1), (2, 2, .putfield 1, 3), (5, 0, .iload_n 1, 1), (6, 0, .iconst 0, 1), (7, 0, .iconst 1, 1), (8, 4, .invokestatic 194, 3), (11, 1, .ifCond .eq 12, 3), (14, 0, .aload_n 0, 1), (15, 2, .getfield 88, 3), (18, 0, .iload_n 1, 1), (19, 3, .baload, 1), (20, 1, .ifCond .ne 5, 3), (23, 0, .iconst 0, 1), (24, 5, .ireturn, 1)]
def mt_X12_restore : MT := (yX12_restore, cX12_restore, 3, (some .boolean), (13, 1, 1, 11), (1, 0, 0, 22), tb_X12_restore)
def tb_X12_said : List INS := [(0, 0, .aload_n 0, 1), (1, 0, .iconst 0, 1), (2, 2, .putfield 1, 3), (5, 0, .aload_n 0, 1), (6, 2, .getfield 37, 3), (9, 0, .bipush 88, 2), (11, 3, .iaload, 1), (12, 1, .ifCond .eq 8, 3), (20, 0, .iconst (-1), 1), (21, 5, .ireturn, 1)]
def mt_X12_said : MT := (yX12_said, cX12_said, 4, (some .int), (13, 1, 1, 11), (0, 0, 0, 0), tb_X12_said)
def tb_X12_say : List INS := [(0, 0, .aload_n 0, 1), (1, 0, .iconst 0, 1), (2, 2, .putfield 1, 3), (5, 0, .aload_n 0, 1), (6, 0, .iload_n 1, 1), (7, 4, .invokevirtual 272, 3), (10, 1, .ifCond .eq 19, 3), (29, 0, .iconst (-1), 1), (30, 5, .ireturn, 1)]
def mt_X12_say : MT := (yX12_say, cX12_say, 6, (some .int), (13, 1, 2, 11), (2, 0, 0, 43), tb_X12_say)
def tb_X12_saying : List INS := [(0, 0, .aload_n 0, 1), (1, 0, .iconst 0, 1), (2, 2, .putfield 1, 3), (5, 0, .aload_n 0, 1), (6, 2, .getfield 360, 3), (9, 1, .ifCond .eq 10, 3), (19, 0, .iconst (-1), 1), (20, 5, .ireturn, 1)]
def mt_X12_saying : MT := (yX12_saying, cX12_saying, 1, (some .int), (13, 1, 0, 11), (0, 0, 0, 0), tb_X12_saying)
def tb_X12_sentence : List INS := [(0, 0, .aload_n 0, 1), (1, 0, .iconst 0, 1), (2, 2, .putfield 1, 3), (5, 0, .aload_n 0, 1), (6, 0, .sipush 200, 3), (9, 4, .invokevirtual 247, 3), (12, 0, .aload_n 0, 1), (13, 0, .iconst 0, 1), (14, 2, .putfield 179, 3), (17, 0, .aload_n 0, 1), (18, 0, .iconst 0, 1), (19, 2, .putfield 473, 3), (22, 0, .aload_n 0, 1), (23, 0, .iconst 0, 1), (24, 2, .putfield 488, 3), (27, 0, .aload_n 0, 1), (28, 0, .iconst 0, 1), (29, 2, .putfield 476, 3), (32, 0, .aload_n 0, 1), (33, 0, .iconst 1, 1), (34, 2, .putfield 482, 3), (37, 0, .aload_n 0, 1), (38, 0, .iconst 0, 1), (39, 2, .putfield 491, 3), (42, 0, .aload_n 0, 1), (43, 4, .invokevirtual 191, 3), (46, 0, .iconst 1, 1), (47, 0, .istore_n 1, 1), (48, 0, .iload_n 1, 1), (49, 1, .ifCond .eq 83, 3), (52, 0, .aload_n 0, 1), (53, 2, .getfield 491, 3), (56, 1, .ifCond .eq 45, 3), (101, 0, .aload_n 0, 1), (102, 2, .getfield 491, 3), (105, 1, .ifCond .eq 13, 3), (118, 0, .aload_n 0, 1), (119, 4, .invokevirtual 503, 3), (122, 1, .ifCond .ne (-74), 3), (125, 0, .iconst (-1), 1), (126, 0, .aload_n 0, 1), (127, 2, .getfield 182, 3), (130, 0, .isub, 1), (131, 5, .ireturn, 1)]
def mt_X12_sentence : MT := (yX12_sentence, cX12_sentence, 3, (some .int), (13, 1, 0, 11), (3, 0, 0, 66), tb_X12_sentence)
def tb_X12_show : List INS := [(0, 0, .aload_n 0, 1), (1, 0, .iconst 0, 1), (2, 2, .putfield 1, 3), (5, 0, .aload_n 0, 1), (6, 2, .getfield 388, 3), (9, 1, .ifCond .eq 10, 3), (19, 0, .iconst (-1), 1), (20, 5, .ireturn, 1)]
def mt_X12_show : MT := (yX12_show, cX12_show, 1, (some .int), (13, 1, 0, 11), (0, 0, 0, 0), tb_X12_show)
def tb_X12_slip : List INS := [(0, 0, .aload_n 0, 1), (1, 0, .aload_n 0, 1), (2, 0, .iload_n 1, 1), (3, 4, .invokevirtual 272, 3), (6, 1, .ifCond .eq 40, 3), (46, 0, .iconst 1, 1), (47, 1, .goto 4, 3), (51, 4, .invokevirtual 275, 3), (54, 1, .ifCond .eq 5, 3), (57, 0, .iconst 0, 1), (58, 5, .ireturn, 1)]
def mt_X12_slip : MT := (yX12_slip, cX12_slip, 9, (some .int), (13, 1, 3, 11), (2, 0, 0, 43), tb_X12_slip)
def tb_X12_spoken : List INS := [(0, 0, .aload_n 0, 1), (1, 0, .iconst 0, 1), (2, 2, .putfield 1, 3), (5, 0, .aload_n 0, 1), (6, 0, .sipush 940, 3), (9, 4, .invokevirtual 247, 3), (12, 0, .aload_n 0, 1), (13, 2, .getfield 18, 3), (16, 0, .iconst 3, 1), (17, 0, .bipush 17, 2), (19, 4, .invokestatic 194, 3), (22, 1, .ifCond .eq 24, 3), (46, 0, .iconst (-1), 1), (47, 5, .ireturn, 1)]
def mt_X12_spoken : MT := (yX12_spoken, cX12_spoken, 7, (some .int), (13, 1, 0, 11), (1, 0, 0, 22), tb_X12_spoken)
def tb_X12_surely : List INS := [(0, 0, .aload_n 0, 1), (1, 0, .iconst 0, 1), (2, 2, .putfield 1, 3), (5, 0, .aload_n 0, 1), (6, 2, .getfield 388, 3), (9, 1, .ifCond .eq 10, 3), (19, 0, .iconst (-1), 1), (20, 5, .ireturn, 1)]
def mt_X12_surely : MT := (yX12_surely, cX12_surely, 1, (some .int), (13, 1, 0, 11), (0, 0, 0, 0), tb_X12_surely)
def tb_X12_taken : List INS := [(0, 0, .aload_n 0, 1), (1, 0, .aload_n 0, 1), (2, 2, .getfield 7, 3), (5, 2, .putfield 18, 3), (8, 0, .aload_n 0, 1), (9, 0, .iconst 0, 1), (10, 2, .putfield 7, 3), (13, 0, .aload_n 0, 1), (14, 0, .iconst 0, 1), (15, 2, .putfield 21, 3), (18, 0, .aload_n 0, 1), (19, 0, .iload_n 1, 1), (20, 2, .putfield 24, 3), (23, 5, .return_, 1)]
def mt_X12_taken : MT := (yX12_taken, cX12_taken, 2, none, (13, 1, 1, 11), (0, 0, 0, 0), tb_X12_taken)
def tb_X12_thing : List INS := [(0, 0, .aload_n 0, 1), (1, 0, .aload_n 0, 1), (2, 0, .iload_n 1, 1), (3, 4, .invokevirtual 272, 3), (6, 1, .ifCond .eq 12, 3), (18, 0, .iconst 1, 1), (19, 1, .goto 4, 3), (23, 4, .invokevirtual 275, 3), (26, 1, .ifCond .eq 5, 3), (29, 0, .iconst 0, 1), (30, 5, .ireturn, 1)]
def mt_X12_thing : MT := (yX12_thing, cX12_thing, 3, (some .int), (13, 1, 2, 11), (2, 0, 0, 43), tb_X12_thing)
def tb_X12_thrown : List INS := [(0, 0, .aload_n 0, 1), (1, 2, .getfield 1, 3), (4, 5, .ireturn, 1)]
def mt_X12_thrown : MT := (yX12_thrown, cX12_thrown, 1, (some .int), (13, 1, 0, 11), (0, 0, 0, 0), tb_X12_thrown)
def tb_X12_throwsIf : List INS := [(0, 0, .aload_n 0, 1), (1, 0, .iload_n 1, 1), (2, 1, .ifCond .eq 7, 3), (5, 0, .iconst 1, 1), (6, 1, .goto 4, 3), (10, 2, .putfield 1, 3), (13, 0, .iload_n 1, 1), (14, 5, .ireturn, 1)]
def mt_X12_throwsIf : MT := (yX12_throwsIf, cX12_throwsIf, 2, (some .boolean), (13, 1, 1, 11), (0, 0, 0, 0), tb_X12_throwsIf)
def tb_X12_told : List INS := [(0, 0, .aload_n 0, 1), (1, 0, .iconst 0, 1), (2, 2, .putfield 1, 3), (5, 0, .aload_n 0, 1), (6, 2, .getfield 470, 3), (9, 1, .ifCond .eq 21, 3), (30, 0, .iconst (-1), 1), (31, 5, .ireturn, 1)]
def mt_X12_told : MT := (yX12_told, cX12_told, 2, (some .int), (13, 1, 1, 11), (0, 0, 0, 0), tb_X12_told)
def tb_X12_tries : List INS := [(0, 0, .iconst 0, 1), (1, 0, .istore_n 1, 1), (2, 0, .iload_n 1, 1), (3, 0, .bipush 45, 2), (5, 1, .if_icmp .ge 24, 3), (8, 0, .aload_n 0, 1), (9, 2, .getfield 57, 3), (12, 0, .iload_n 1, 1), (13, 0, .aload_n 0, 1), (14, 2, .getfield 37, 3), (17, 0, .bipush 43, 2), (19, 0, .iload_n 1, 1), (20, 0, .iadd, 1), (21, 3, .iaload, 1), (22, 3, .iastore, 1), (23, 0, .iinc 1 1, 3), (26, 1, .goto (-24), 3), (29, 5, .return_, 1)]
def mt_X12_tries : MT := (yX12_tries, cX12_tries, 2, none, (13, 1, 0, 11), (0, 0, 0, 0), tb_X12_tries)
def tb_X12_twin : List INS := [(0, 0, .aload_n 0, 1), (1, 0, .iconst 0, 1), (2, 2, .putfield 1, 3), (5, 0, .aload_n 0, 1), (6, 0, .iload_n 1, 1), (7, 4, .invokevirtual 272, 3), (10, 1, .ifCond .eq 19, 3), (29, 0, .iconst (-1), 1), (30, 5, .ireturn, 1)]
def mt_X12_twin : MT := (yX12_twin, cX12_twin, 4, (some .int), (13, 1, 2, 11), (2, 0, 0, 43), tb_X12_twin)
def tb_X12_undo : List INS := [(0, 0, .aload_n 0, 1), (1, 0, .iconst 0, 1), (2, 2, .putfield 1, 3), (5, 0, .aload_n 0, 1), (6, 2, .getfield 259, 3), (9, 1, .ifCond .ne 5, 3), (12, 0, .iconst (-1), 1), (13, 5, .ireturn, 1)]
def mt_X12_undo : MT := (yX12_undo, cX12_undo, 2, (some .int), (13, 1, 0, 11), (0, 0, 0, 0), tb_X12_undo)
def tb_X1_has : List INS := [(0, 0, .iload_n 2, 1), (1, 1, .ifCond .lt 26, 3), (4, 0, .iload_n 1, 1), (5, 1, .ifCond .lt 22, 3), (8, 0, .iload_n 1, 1), (9, 0, .iconst 4, 1), (10, 1, .if_icmp .ge 17, 3), (13, 0, .iload_n 2, 1), (14, 0, .aload_n 0, 1), (15, 2, .getfield 9, 3), (18, 0, .iload_n 1, 1), (19, 3, .iaload, 1), (20, 1, .if_icmp .ge 7, 3), (27, 0, .iconst 0, 1), (28, 5, .ireturn, 1)]
def mt_X1_has : MT := (yX1_has, cX1_has, 3, (some .boolean), (2, 1, 2, 1), (0, 0, 0, 0), tb_X1_has)
def tc_X1_init_0 : List INS := [(0, 0, .aload_n 0, 1), (1, 2, .invokespecial 3, 3), (4, 0, .aload_n 0, 1), (5, 0, .bipush 8, 2), (7, 2, .newarray .int, 2), (9, 0, .dup, 1), (10, 0, .iconst 0, 1), (11, 0, .iconst 0, 1), (12, 3, .iastore, 1), (13, 0, .dup, 1), (14, 0, .iconst 1, 1), (15, 0, .iconst 0, 1), (16, 3, .iastore, 1), (17, 0, .dup, 1), (18, 0, .iconst 2, 1), (19, 0, .iconst 0, 1), (20, 3, .iastore, 1), (21, 0, .dup, 1), (22, 0, .iconst 3, 1), (23, 0, .iconst 0, 1), (24, 3, .iastore, 1), (25, 0, .dup, 1), (26, 0, .iconst 4, 1), (27, 0, .iconst 3, 1), (28, 3, .iastore, 1)]
def tc_X1_init_1 : List INS := [(29, 0, .dup, 1), (30, 0, .iconst 5, 1), (31, 0, .iconst 1, 1), (32, 3, .iastore, 1), (33, 0, .dup, 1), (34, 0, .bipush 6, 2), (36, 0, .iconst 2, 1), (37, 3, .iastore, 1), (38, 0, .dup, 1), (39, 0, .bipush 7, 2), (41, 0, .iconst 5, 1), (42, 3, .iastore, 1), (43, 2, .putfield 9, 3), (46, 0, .aload_n 0, 1), (47, 0, .bipush 40, 2), (49, 2, .newarray .long, 2), (51, 2, .putfield 15, 3), (54, 0, .aload_n 0, 1), (55, 0, .bipush 8, 2), (57, 2, .newarray .int, 2), (59, 2, .putfield 19, 3), (62, 0, .aload_n 0, 1), (63, 0, .bipush 8, 2), (65, 2, .newarray .int, 2), (67, 2, .putfield 22, 3)]
def tc_X1_init_2 : List INS := [(70, 0, .aload_n 0, 1), (71, 0, .bipush 6, 2), (73, 2, .newarray .int, 2), (75, 2, .putfield 25, 3), (78, 0, .aload_n 0, 1), (79, 0, .bipush 6, 2), (81, 2, .newarray .int, 2), (83, 2, .putfield 28, 3), (86, 0, .aload_n 0, 1), (87, 0, .bipush 6, 2), (89, 2, .newarray .int, 2), (91, 2, .putfield 31, 3), (94, 0, .aload_n 0, 1), (95, 0, .iconst 0, 1), (96, 2, .putfield 34, 3), (99, 0, .aload_n 0, 1), (100, 0, .iconst 0, 1), (101, 2, .putfield 38, 3), (104, 5, .return_, 1)]
def tb_X1_init : List INS := tc_X1_init_0 ++ (tc_X1_init_1 ++ (tc_X1_init_2))
def mt_X1_init : MT := (yX1_init, cX1_init, 1, none, (2, 2, 0, 1), (1, 7, 82, 12), tb_X1_init)
def tb_X1_read : List INS := [(0, 0, .iconst 0, 1), (1, 0, .istore_n 2, 1), (2, 0, .iconst 0, 1), (3, 0, .istore_n 3, 1), (4, 0, .iload_n 3, 1), (5, 0, .sipush 940, 3), (8, 1, .if_icmp .ge 30, 3), (11, 0, .aload_n 1, 1), (12, 2, .getfield 45, 3), (15, 1, .ifCond .eq 23, 3), (38, 0, .iload_n 2, 1), (39, 5, .ireturn, 1)]
def mt_X1_read : MT := (yX1_read, cX1_read, 4, (some .int), (2, 1, 1, 1), (0, 0, 0, 0), tb_X1_read)
def tb_X2_hear : List INS := [(0, 0, .aload_n 1, 1), (1, 0, .aload_n 2, 1), (2, 4, .invokestatic 22, 3), (5, 1, .ifCond .ne 5, 3), (8, 0, .iconst (-1), 1), (9, 5, .ireturn, 1)]
def mt_X2_hear : MT := (yX2_hear, cX2_hear, 7, (some .int), (3, 1, 2, 2), (1, 0, 0, 23), tb_X2_hear)
def tb_X2_init : List INS := [(0, 0, .aload_n 0, 1), (1, 2, .invokespecial 3, 3), (4, 0, .aload_n 0, 1), (5, 0, .bipush 8, 2), (7, 2, .newarray .int, 2), (9, 2, .putfield 9, 3), (12, 0, .aload_n 0, 1), (13, 0, .iconst (-1), 1), (14, 2, .putfield 15, 3), (17, 0, .aload_n 0, 1), (18, 0, .iconst (-1), 1), (19, 2, .putfield 19, 3), (22, 5, .return_, 1)]
def mt_X2_init : MT := (yX2_init, cX2_init, 1, none, (3, 2, 0, 2), (1, 1, 8, 12), tb_X2_init)
def tb_X2_isTold : List INS := [(0, 0, .aload_n 0, 1), (1, 2, .getfield 58, 3), (4, 0, .iconst 1, 1), (5, 0, .isub, 1), (6, 0, .iconst 2, 1), (7, 0, .idiv, 1), (8, 0, .istore_n 2, 1), (9, 0, .aload_n 0, 1), (10, 2, .getfield 58, 3), (13, 0, .iconst 2, 1), (14, 0, .irem, 1), (15, 1, .ifCond .eq 27, 3), (42, 0, .iconst 0, 1), (43, 5, .ireturn, 1)]
def mt_X2_isTold : MT := (yX2_isTold, cX2_isTold, 4, (some .boolean), (3, 0, 2, 2), (0, 0, 0, 0), tb_X2_isTold)
def tb_X3_init : List INS := [(0, 0, .aload_n 0, 1), (1, 2, .invokespecial 3, 3), (4, 0, .aload_n 0, 1), (5, 0, .iconst 0, 1), (6, 2, .putfield 9, 3), (9, 5, .return_, 1)]
def mt_X3_init : MT := (yX3_init, cX3_init, 1, none, (4, 2, 0, 3), (1, 0, 0, 12), tb_X3_init)
def tb_X4_clear : List INS := [(0, 0, .aload_n 0, 1), (1, 0, .iconst 0, 1), (2, 2, .putfield 21, 3), (5, 5, .return_, 1)]
def mt_X4_clear : MT := (yX4_clear, cX4_clear, 1, none, (5, 1, 0, 4), (0, 0, 0, 0), tb_X4_clear)
def tb_X4_init : List INS := [(0, 0, .aload_n 0, 1), (1, 2, .invokespecial 3, 3), (4, 0, .aload_n 0, 1), (5, 0, .bipush 9, 2), (7, 2, .anewarray 9, 3), (10, 2, .putfield 11, 3), (13, 0, .aload_n 0, 1), (14, 0, .iconst 0, 1), (15, 2, .putfield 17, 3), (18, 0, .aload_n 0, 1), (19, 0, .iconst 0, 1), (20, 2, .putfield 21, 3), (23, 5, .return_, 1)]
def mt_X4_init : MT := (yX4_init, cX4_init, 1, none, (5, 2, 0, 4), (1, 1, 9, 12), tb_X4_init)
def tb_X4_keep : List INS := [(0, 0, .aload_n 0, 1), (1, 2, .getfield 21, 3), (4, 0, .bipush 8, 2), (6, 1, .if_icmp .ge 16, 3), (9, 0, .aload_n 0, 1), (10, 0, .dup, 1), (11, 2, .getfield 21, 3), (14, 0, .iconst 1, 1), (15, 0, .iadd, 1), (16, 2, .putfield 21, 3), (19, 1, .goto 12, 3), (31, 5, .return_, 1)]
def mt_X4_keep : MT := (yX4_keep, cX4_keep, 1, none, (5, 1, 0, 4), (0, 0, 0, 0), tb_X4_keep)
def tb_X4_prepare : List INS := [(0, 0, .aload_n 0, 1), (1, 0, .aload_n 0, 1), (2, 2, .getfield 21, 3), (5, 4, .invokevirtual 30, 3), (8, 0, .istore_n 2, 1), (9, 0, .aload_n 0, 1), (10, 2, .getfield 11, 3), (13, 0, .iload_n 2, 1), (14, 3, .aaload, 1), (15, 0, .astore_n 3, 1), (16, 0, .aload_n 3, 1), (17, 1, .ifnonnull 22, 3), (20, 2, .new 9, 3), (23, 0, .dup, 1), (24, 0, .aload_n 1, 1), (25, 2, .getfield 34, 3), (28, 4, .invokespecial 38, 3), (31, 0, .astore_n 3, 1), (32, 0, .aload_n 0, 1), (33, 2, .getfield 11, 3), (36, 0, .iload_n 2, 1), (37, 0, .aload_n 3, 1), (38, 3, .aastore, 1), (39, 0, .aload_n 3, 1), (40, 0, .aload_n 1, 1), (41, 4, .invokevirtual 41, 3), (44, 5, .return_, 1)]
def mt_X4_prepare : MT := (yX4_prepare, cX4_prepare, 4, none, (5, 1, 1, 4), (2, 7, 52, 85), tb_X4_prepare)
def tb_X4_slot : List INS := [(0, 0, .aload_n 0, 1), (1, 2, .getfield 17, 3), (4, 0, .iload_n 1, 1), (5, 0, .iadd, 1), (6, 0, .bipush 9, 2), (8, 4, .invokestatic 24, 3), (11, 5, .ireturn, 1)]
def mt_X4_slot : MT := (yX4_slot, cX4_slot, 2, (some .int), (5, 1, 1, 4), (1, 0, 0, 22), tb_X4_slot)
def tb_X4_takeBack : List INS := [(0, 0, .aload_n 0, 1), (1, 2, .getfield 21, 3), (4, 1, .ifCond .ne 5, 3), (7, 0, .iconst (-1), 1), (8, 5, .ireturn, 1)]
def mt_X4_takeBack : MT := (yX4_takeBack, cX4_takeBack, 3, (some .int), (5, 1, 1, 4), (0, 0, 0, 0), tb_X4_takeBack)
def tb_X6_init : List INS := [(0, 0, .aload_n 0, 1), (1, 2, .invokespecial 3, 3), (4, 0, .aload_n 0, 1), (5, 0, .bipush 8, 2), (7, 2, .newarray .int, 2), (9, 0, .dup, 1), (10, 0, .iconst 0, 1), (11, 0, .iconst (-1), 1), (12, 3, .iastore, 1), (13, 0, .dup, 1), (14, 0, .iconst 1, 1), (15, 0, .iconst (-1), 1), (16, 3, .iastore, 1), (17, 0, .dup, 1), (18, 0, .iconst 2, 1), (19, 0, .iconst (-1), 1), (20, 3, .iastore, 1), (21, 0, .dup, 1), (22, 0, .iconst 3, 1), (23, 0, .iconst (-1), 1), (24, 3, .iastore, 1), (25, 0, .dup, 1), (26, 0, .iconst 4, 1), (27, 0, .iconst (-1), 1), (28, 3, .iastore, 1), (29, 0, .dup, 1), (30, 0, .iconst 5, 1), (31, 0, .iconst (-1), 1), (32, 3, .iastore, 1), (33, 0, .dup, 1), (34, 0, .bipush 6, 2), (36, 0, .iconst (-1), 1), (37, 3, .iastore, 1), (38, 0, .dup, 1), (39, 0, .bipush 7, 2), (41, 0, .iconst (-1), 1), (42, 3, .iastore, 1), (43, 2, .putfield 9, 3), (46, 0, .aload_n 0, 1), (47, 0, .bipush 10, 2), (49, 2, .newarray .int, 2), (51, 2, .putfield 15, 3), (54, 5, .return_, 1)]
def mt_X6_init : MT := (yX6_init, cX6_init, 1, none, (7, 2, 0, 5), (1, 2, 18, 12), tb_X6_init)
def tb_X7_allCarried : List INS := [(0, 0, .iconst 0, 1), (1, 0, .istore_n 1, 1), (2, 0, .iconst 0, 1), (3, 0, .istore_n 2, 1), (4, 0, .iload_n 2, 1), (5, 0, .aload_n 0, 1), (6, 2, .getfield 40, 3), (9, 2, .getfield 60, 3), (12, 0, .iconst 2, 1), (13, 3, .iaload, 1), (14, 1, .if_icmp .ge 31, 3), (45, 0, .iload_n 1, 1), (46, 5, .ireturn, 1)]
def mt_X7_allCarried : MT := (yX7_allCarried, cX7_allCarried, 3, (some .int), (8, 1, 0, 6), (0, 0, 0, 0), tb_X7_allCarried)
def tb_X7_allCoins : List INS := [(0, 0, .iconst 0, 1), (1, 0, .istore_n 1, 1), (2, 0, .iconst 0, 1), (3, 0, .istore_n 2, 1), (4, 0, .iload_n 2, 1), (5, 0, .aload_n 0, 1), (6, 2, .getfield 40, 3), (9, 2, .getfield 60, 3), (12, 0, .iconst 3, 1), (13, 3, .iaload, 1), (14, 1, .if_icmp .ge 24, 3), (38, 0, .iload_n 1, 1), (39, 5, .ireturn, 1)]
def mt_X7_allCoins : MT := (yX7_allCoins, cX7_allCoins, 3, (some .int), (8, 1, 0, 6), (0, 0, 0, 0), tb_X7_allCoins)
def tc_X7_begin_0 : List INS := [(0, 0, .aload_n 0, 1), (1, 0, .aload_n 1, 1), (2, 2, .putfield 40, 3), (5, 0, .aload_n 1, 1), (6, 2, .getfield 44, 3), (9, 0, .iconst 0, 1), (10, 0, .aload_n 0, 1), (11, 2, .getfield 9, 3), (14, 0, .iconst 0, 1), (15, 0, .bipush 8, 2), (17, 2, .invokestatic 47, 3), (20, 0, .aload_n 1, 1), (21, 2, .getfield 53, 3), (24, 0, .iconst 0, 1), (25, 0, .aload_n 0, 1), (26, 2, .getfield 21, 3), (29, 0, .iconst 0, 1), (30, 0, .bipush 6, 2), (32, 2, .invokestatic 47, 3), (35, 0, .aload_n 1, 1), (36, 2, .getfield 54, 3), (39, 0, .iconst 0, 1), (40, 0, .aload_n 0, 1), (41, 2, .getfield 24, 3), (44, 0, .iconst 0, 1)]
def tc_X7_begin_1 : List INS := [(45, 0, .bipush 6, 2), (47, 2, .invokestatic 47, 3), (50, 0, .aload_n 1, 1), (51, 2, .getfield 55, 3), (54, 0, .iconst 0, 1), (55, 0, .aload_n 0, 1), (56, 2, .getfield 27, 3), (59, 0, .iconst 0, 1), (60, 0, .bipush 6, 2), (62, 2, .invokestatic 47, 3), (65, 0, .iconst 0, 1), (66, 0, .istore_n 2, 1), (67, 0, .iload_n 2, 1), (68, 0, .bipush 8, 2), (70, 1, .if_icmp .ge 23, 3), (73, 0, .aload_n 0, 1), (74, 2, .getfield 15, 3), (77, 0, .iload_n 2, 1), (78, 0, .iconst (-1), 1), (79, 3, .iastore, 1), (80, 0, .aload_n 0, 1), (81, 2, .getfield 18, 3), (84, 0, .iload_n 2, 1), (85, 0, .iconst 0, 1), (86, 3, .iastore, 1)]
def tc_X7_begin_2 : List INS := [(87, 0, .iinc 2 1, 3), (90, 1, .goto (-23), 3), (93, 0, .aload_n 0, 1), (94, 0, .iconst 0, 1), (95, 2, .putfield 30, 3), (98, 0, .aload_n 0, 1), (99, 0, .iconst 0, 1), (100, 2, .putfield 34, 3), (103, 0, .aload_n 0, 1), (104, 0, .iconst 0, 1), (105, 2, .putfield 37, 3), (108, 5, .return_, 1)]
def tb_X7_begin : List INS := tc_X7_begin_0 ++ (tc_X7_begin_1 ++ (tc_X7_begin_2))
def mt_X7_begin : MT := (yX7_begin, cX7_begin, 3, none, (8, 1, 1, 6), (1, 0, 0, 64), tb_X7_begin)
def tc_X7_copyFrom_0 : List INS := [(0, 0, .aload_n 0, 1), (1, 0, .aload_n 1, 1), (2, 2, .getfield 40, 3), (5, 2, .putfield 40, 3), (8, 0, .aload_n 1, 1), (9, 2, .getfield 9, 3), (12, 0, .iconst 0, 1), (13, 0, .aload_n 0, 1), (14, 2, .getfield 9, 3), (17, 0, .iconst 0, 1), (18, 0, .bipush 8, 2), (20, 2, .invokestatic 47, 3), (23, 0, .aload_n 1, 1), (24, 2, .getfield 15, 3), (27, 0, .iconst 0, 1), (28, 0, .aload_n 0, 1), (29, 2, .getfield 15, 3), (32, 0, .iconst 0, 1), (33, 0, .bipush 8, 2), (35, 2, .invokestatic 47, 3), (38, 0, .aload_n 1, 1), (39, 2, .getfield 18, 3), (42, 0, .iconst 0, 1), (43, 0, .aload_n 0, 1), (44, 2, .getfield 18, 3)]
def tc_X7_copyFrom_1 : List INS := [(47, 0, .iconst 0, 1), (48, 0, .bipush 8, 2), (50, 2, .invokestatic 47, 3), (53, 0, .aload_n 1, 1), (54, 2, .getfield 21, 3), (57, 0, .iconst 0, 1), (58, 0, .aload_n 0, 1), (59, 2, .getfield 21, 3), (62, 0, .iconst 0, 1), (63, 0, .bipush 6, 2), (65, 2, .invokestatic 47, 3), (68, 0, .aload_n 1, 1), (69, 2, .getfield 24, 3), (72, 0, .iconst 0, 1), (73, 0, .aload_n 0, 1), (74, 2, .getfield 24, 3), (77, 0, .iconst 0, 1), (78, 0, .bipush 6, 2), (80, 2, .invokestatic 47, 3), (83, 0, .aload_n 1, 1), (84, 2, .getfield 27, 3), (87, 0, .iconst 0, 1), (88, 0, .aload_n 0, 1), (89, 2, .getfield 27, 3), (92, 0, .iconst 0, 1)]
def tc_X7_copyFrom_2 : List INS := [(93, 0, .bipush 6, 2), (95, 2, .invokestatic 47, 3), (98, 0, .aload_n 0, 1), (99, 0, .aload_n 1, 1), (100, 2, .getfield 30, 3), (103, 2, .putfield 30, 3), (106, 0, .aload_n 0, 1), (107, 0, .aload_n 1, 1), (108, 2, .getfield 34, 3), (111, 2, .putfield 34, 3), (114, 0, .aload_n 0, 1), (115, 0, .aload_n 1, 1), (116, 2, .getfield 37, 3), (119, 2, .putfield 37, 3), (122, 5, .return_, 1)]
def tb_X7_copyFrom : List INS := tc_X7_copyFrom_0 ++ (tc_X7_copyFrom_1 ++ (tc_X7_copyFrom_2))
def mt_X7_copyFrom : MT := (yX7_copyFrom, cX7_copyFrom, 2, none, (8, 1, 1, 6), (1, 0, 0, 64), tb_X7_copyFrom)
def tb_X7_has : List INS := [(0, 0, .aload_n 0, 1), (1, 2, .getfield 40, 3), (4, 0, .iload_n 1, 1), (5, 0, .iload_n 2, 1), (6, 4, .invokevirtual 56, 3), (9, 5, .ireturn, 1)]
def mt_X7_has : MT := (yX7_has, cX7_has, 3, (some .boolean), (8, 1, 2, 6), (1, 0, 0, 22), tb_X7_has)
def tb_X7_init : List INS := [(0, 0, .aload_n 0, 1), (1, 2, .invokespecial 3, 3), (4, 0, .aload_n 0, 1), (5, 0, .bipush 8, 2), (7, 2, .newarray .int, 2), (9, 2, .putfield 9, 3), (12, 0, .aload_n 0, 1), (13, 0, .bipush 8, 2), (15, 2, .newarray .int, 2), (17, 2, .putfield 15, 3), (20, 0, .aload_n 0, 1), (21, 0, .bipush 8, 2), (23, 2, .newarray .int, 2), (25, 2, .putfield 18, 3), (28, 0, .aload_n 0, 1), (29, 0, .bipush 6, 2), (31, 2, .newarray .int, 2), (33, 2, .putfield 21, 3), (36, 0, .aload_n 0, 1), (37, 0, .bipush 6, 2), (39, 2, .newarray .int, 2), (41, 2, .putfield 24, 3), (44, 0, .aload_n 0, 1), (45, 0, .bipush 6, 2), (47, 2, .newarray .int, 2), (49, 2, .putfield 27, 3), (52, 0, .aload_n 0, 1), (53, 0, .iconst 0, 1), (54, 2, .putfield 30, 3), (57, 0, .aload_n 0, 1), (58, 0, .iconst 0, 1), (59, 2, .putfield 34, 3), (62, 0, .aload_n 0, 1), (63, 0, .iconst 0, 1), (64, 2, .putfield 37, 3), (67, 0, .aload_n 0, 1), (68, 0, .aload_n 1, 1), (69, 2, .putfield 40, 3), (72, 5, .return_, 1)]
def mt_X7_init : MT := (yX7_init, cX7_init, 2, none, (8, 2, 1, 6), (1, 6, 42, 12), tb_X7_init)
def tb_X7_isFast : List INS := [(0, 0, .aload_n 0, 1), (1, 2, .getfield 30, 3), (4, 0, .bipush 7, 2), (6, 0, .irem, 1), (7, 0, .aload_n 0, 1), (8, 2, .getfield 40, 3), (11, 2, .getfield 60, 3), (14, 0, .bipush 7, 2), (16, 3, .iaload, 1), (17, 1, .if_icmp .ne 7, 3), (20, 0, .iconst 1, 1), (21, 1, .goto 4, 3), (24, 0, .iconst 0, 1), (25, 5, .ireturn, 1)]
def mt_X7_isFast : MT := (yX7_isFast, cX7_isFast, 1, (some .boolean), (8, 1, 0, 6), (0, 0, 0, 0), tb_X7_isFast)
def tb_X7_passDay : List INS := [(0, 0, .aload_n 0, 1), (1, 4, .invokevirtual 92, 3), (4, 1, .ifCond .ne 58, 3), (7, 0, .iconst 0, 1), (8, 0, .istore_n 1, 1), (9, 0, .iload_n 1, 1), (10, 0, .aload_n 0, 1), (11, 2, .getfield 40, 3), (14, 2, .getfield 60, 3), (17, 0, .iconst 3, 1), (18, 3, .iaload, 1), (19, 1, .if_icmp .ge 43, 3), (62, 0, .aload_n 0, 1), (63, 0, .dup, 1), (64, 2, .getfield 30, 3), (67, 0, .iconst 1, 1), (68, 0, .iadd, 1), (69, 2, .putfield 30, 3), (72, 5, .return_, 1)]
def mt_X7_passDay : MT := (yX7_passDay, cX7_passDay, 2, none, (8, 1, 0, 6), (1, 0, 0, 20), tb_X7_passDay)
def tb_X7_passDays : List INS := [(0, 0, .iconst 0, 1), (1, 0, .istore_n 2, 1), (2, 0, .iconst 0, 1), (3, 0, .istore_n 3, 1), (4, 0, .iload_n 3, 1), (5, 0, .iload_n 1, 1), (6, 1, .if_icmp .ge 26, 3), (9, 0, .aload_n 0, 1), (10, 2, .getfield 30, 3), (13, 0, .sipush 400, 3), (16, 1, .if_icmp .ge 16, 3), (19, 0, .aload_n 0, 1), (20, 4, .invokevirtual 103, 3), (23, 0, .iinc 2 1, 3), (26, 0, .iinc 3 1, 3), (29, 1, .goto (-25), 3), (32, 0, .iload_n 2, 1), (33, 5, .ireturn, 1)]
def mt_X7_passDays : MT := (yX7_passDays, cX7_passDays, 4, (some .int), (8, 1, 1, 6), (2, 0, 0, 41), tb_X7_passDays)
def tb_X8_init : List INS := [(0, 0, .aload_n 0, 1), (1, 2, .invokespecial 3, 3), (4, 0, .aload_n 0, 1), (5, 0, .bipush 40, 2), (7, 2, .newarray .int, 2), (9, 2, .putfield 9, 3), (12, 0, .aload_n 0, 1), (13, 0, .bipush 40, 2), (15, 2, .newarray .int, 2), (17, 2, .putfield 15, 3), (20, 0, .aload_n 0, 1), (21, 0, .bipush 40, 2), (23, 2, .newarray .int, 2), (25, 2, .putfield 18, 3), (28, 0, .aload_n 0, 1), (29, 0, .bipush 40, 2), (31, 2, .newarray .int, 2), (33, 2, .putfield 21, 3), (36, 0, .aload_n 0, 1), (37, 0, .iconst 0, 1), (38, 2, .putfield 24, 3), (41, 0, .aload_n 0, 1), (42, 0, .iconst 0, 1), (43, 2, .putfield 28, 3), (46, 5, .return_, 1)]
def mt_X8_init : MT := (yX8_init, cX8_init, 1, none, (9, 2, 0, 7), (1, 4, 160, 12), tb_X8_init)
def tb_X8_readAll : List INS := [(0, 0, .aload_n 0, 1), (1, 0, .aload_n 1, 1), (2, 0, .aload_n 2, 1), (3, 0, .iload_n 3, 1), (4, 4, .invokevirtual 48, 3), (7, 0, .iconst 0, 1), (8, 0, .istore 4, 2), (10, 0, .iload 4, 2), (12, 0, .bipush 20, 2), (14, 1, .if_icmp .ge 37, 3), (17, 0, .aload_n 1, 1), (18, 0, .bipush 19, 2), (20, 4, .invokevirtual 35, 3), (23, 1, .ifCond .eq 28, 3), (51, 5, .return_, 1)]
def mt_X8_readAll : MT := (yX8_readAll, cX8_readAll, 5, none, (9, 1, 3, 7), (2, 0, 0, 46), tb_X8_readAll)
def tb_X8_readCondition : List INS := [(0, 0, .aload_n 0, 1), (1, 0, .aload_n 1, 1), (2, 0, .aload_n 2, 1), (3, 0, .iload_n 3, 1), (4, 4, .invokevirtual 31, 3), (7, 0, .iconst 0, 1), (8, 0, .istore 4, 2), (10, 0, .iload 4, 2), (12, 0, .bipush 20, 2), (14, 1, .if_icmp .ge 37, 3), (17, 0, .aload_n 1, 1), (18, 0, .bipush 18, 2), (20, 4, .invokevirtual 35, 3), (23, 1, .ifCond .eq 28, 3), (51, 5, .return_, 1)]
def mt_X8_readCondition : MT := (yX8_readCondition, cX8_readCondition, 5, none, (9, 1, 3, 7), (3, 0, 0, 70), tb_X8_readCondition)
def tb_X8_readOne : List INS := [(0, 0, .aload_n 1, 1), (1, 4, .invokevirtual 51, 3), (4, 0, .istore 4, 2), (6, 0, .aload_n 1, 1), (7, 2, .getfield 55, 3), (10, 0, .bipush 40, 2), (12, 1, .if_icmp .ne 7, 3), (19, 0, .iconst 0, 1), (20, 0, .istore 5, 2), (22, 0, .iload 5, 2), (24, 1, .ifCond .ne 23, 3), (27, 0, .iload 4, 2), (29, 0, .bipush 20, 2), (31, 1, .if_icmp .lt 10, 3), (41, 0, .aload_n 1, 1), (42, 0, .iconst 1, 1), (43, 4, .invokevirtual 58, 3), (46, 5, .return_, 1)]
def mt_X8_readOne : MT := (yX8_readOne, cX8_readOne, 6, none, (9, 1, 3, 7), (1, 0, 0, 21), tb_X8_readOne)
def tb_X9_append : List INS := [(0, 0, .bipush 24, 2), (2, 0, .istore_n 2, 1), (3, 0, .iload_n 2, 1), (4, 1, .ifCond .lt 49, 3), (7, 0, .aload_n 0, 1), (8, 2, .getfield 15, 3), (11, 1, .ifCond .lt 36, 3), (14, 0, .aload_n 0, 1), (15, 2, .getfield 15, 3), (18, 0, .sipush 940, 3), (21, 1, .if_icmp .ge 26, 3), (24, 0, .aload_n 0, 1), (25, 2, .getfield 9, 3), (28, 0, .aload_n 0, 1), (29, 2, .getfield 15, 3), (32, 0, .iload_n 1, 1), (33, 0, .iload_n 2, 1), (34, 0, .iushr, 1), (35, 0, .i2b, 1), (36, 3, .bastore, 1), (37, 0, .aload_n 0, 1), (38, 0, .dup, 1), (39, 2, .getfield 15, 3), (42, 0, .iconst 1, 1), (43, 0, .iadd, 1), (44, 2, .putfield 15, 3), (47, 0, .iinc 2 (-8), 3), (50, 1, .goto (-47), 3), (53, 5, .return_, 1)]
def mt_X9_append : MT := (yX9_append, cX9_append, 3, none, (10, 1, 1, 8), (0, 0, 0, 0), tb_X9_append)
def tb_X9_init : List INS := [(0, 0, .aload_n 0, 1), (1, 2, .invokespecial 3, 3), (4, 0, .aload_n 0, 1), (5, 0, .sipush 940, 3), (8, 2, .newarray .byte, 2), (10, 2, .putfield 9, 3), (13, 0, .aload_n 0, 1), (14, 0, .iconst 0, 1), (15, 2, .putfield 15, 3), (18, 5, .return_, 1)]
def mt_X9_init : MT := (yX9_init, cX9_init, 1, none, (10, 2, 0, 8), (1, 1, 940, 12), tb_X9_init)
def PRG : List MT := [mt_J9_floorMod_7cf53, mt_J9_min_7cf53, mt_X0_init, mt_X0_judge, mt_X0_read, mt_X0_tell, mt_X10_behindBlanks, mt_X10_fail, mt_X10_init, mt_X10_isWord, mt_X10_open, mt_X10_plainWord, mt_X10_step, mt_X10_takeEnd, mt_X11_ask, mt_X11_book, mt_X11_byteAt, mt_X11_cant, mt_X11_canting, mt_X11_city, mt_X11_closeText, mt_X11_count, mt_X11_cover, mt_X11_covering, mt_X11_days, mt_X11_drawn, mt_X11_end, mt_X11_fault, mt_X11_feed, mt_X11_fits, mt_X11_go, mt_X11_image, mt_X11_init, mt_X11_keptDays, mt_X11_learn, mt_X11_lies, mt_X11_name, mt_X11_news, mt_X11_now, mt_X11_odds, mt_X11_phrase, mt_X11_point, mt_X11_put, mt_X11_rest, mt_X11_rested, mt_X11_restore, mt_X11_said, mt_X11_say, mt_X11_saying, mt_X11_sentence, mt_X11_show, mt_X11_spoken, mt_X11_surely, mt_X11_told, mt_X11_twin, mt_X11_undo, mt_X12_ask, mt_X12_back, mt_X12_bad, mt_X12_book, mt_X12_byteAt, mt_X12_cant, mt_X12_canting, mt_X12_carriedSet, mt_X12_city, mt_X12_clears, mt_X12_count, mt_X12_cover, mt_X12_covering, mt_X12_day, mt_X12_days, mt_X12_drawn, mt_X12_end, mt_X12_fault, mt_X12_feed, mt_X12_fits, mt_X12_four, mt_X12_go, mt_X12_goesOn, mt_X12_image, mt_X12_init, mt_X12_isFast, mt_X12_isIn, mt_X12_isPerson, mt_X12_isPlace, mt_X12_isSign, mt_X12_isThing, mt_X12_isWord, mt_X12_keep, mt_X12_leafOf, mt_X12_learn, mt_X12_lies, mt_X12_name, mt_X12_news, mt_X12_next, mt_X12_now, mt_X12_odds, mt_X12_operand, mt_X12_peek, mt_X12_person, mt_X12_phrase, mt_X12_point, mt_X12_put, mt_X12_rest, mt_X12_rested, mt_X12_restore, mt_X12_said, mt_X12_say, mt_X12_saying, mt_X12_sentence, mt_X12_show, mt_X12_slip, mt_X12_spoken, mt_X12_surely, mt_X12_taken, mt_X12_thing, mt_X12_thrown, mt_X12_throwsIf, mt_X12_told, mt_X12_tries, mt_X12_twin, mt_X12_undo, mt_X1_has, mt_X1_init, mt_X1_read, mt_X2_hear, mt_X2_init, mt_X2_isTold, mt_X3_init, mt_X4_clear, mt_X4_init, mt_X4_keep, mt_X4_prepare, mt_X4_slot, mt_X4_takeBack, mt_X6_init, mt_X7_allCarried, mt_X7_allCoins, mt_X7_begin, mt_X7_copyFrom, mt_X7_has, mt_X7_init, mt_X7_isFast, mt_X7_passDay, mt_X7_passDays, mt_X8_init, mt_X8_readAll, mt_X8_readCondition, mt_X8_readOne, mt_X9_append, mt_X9_init]
def OWN : List String := ["NounFast", "NounFast$Book", "NounFast$City", "NounFast$Clue", "NounFast$Dice", "NounFast$History", "NounFast$Minds", "NounFast$Rest", "NounFast$Scene", "NounFast$Sentence", "NounFast$Tape", "NounFast$Text", "NounFastLaw", "NounFastModel", "java/io/Serializable", "java/lang/CharSequence", "java/lang/Comparable", "java/lang/Integer", "java/lang/Math", "java/lang/String", "java/lang/StringLatin1", "java/lang/StringUTF16", "java/lang/System", "java/lang/constant/Constable", "java/lang/constant/ConstantDesc", "jdk/internal/util/Preconditions"]
def rt_0 : List (Nat × RES) := [(1, (6, 0, 0, 0)), (7, (2, 8, 2, 0)), (9, (5, 150, 0, 0)), (10, (0, 10, 0, 0)), (16, (2, 9, 11, 0)), (18, (4, 8, 0, 0)), (21, (0, 10, 1, 0)), (25, (2, 6, 10, 0)), (27, (2, 1, 9, 0)), (29, (5, 123, 0, 0)), (30, (4, 141, 0, 0)), (33, (0, 10, 2, 0)), (37, (0, 6, 0, 0)), (41, (0, 10, 3, 0)), (44, (2, 4, 3, 0)), (46, (5, 130, 0, 0)), (47, (0, 10, 4, 0)), (51, (2, 0, 6, 0)), (53, (5, 2, 0, 0)), (54, (0, 10, 5, 0)), (58, (2, 5, 2, 0)), (60, (5, 135, 0, 0)), (61, (0, 10, 6, 0)), (65, (2, 2, 3, 0)), (67, (5, 126, 0, 0)), (68, (0, 10, 7, 0)), (72, (2, 3, 1, 0)), (74, (5, 128, 0, 0)), (75, (0, 10, 8, 0)), (79, (0, 10, 9, 0)), (83, (2, 7, 6, 0)), (85, (0, 10, 10, 0)), (89, (0, 10, 11, 0)), (93, (0, 10, 12, 0)), (97, (0, 10, 13, 0)), (101, (0, 10, 14, 0)), (104, (0, 10, 15, 0)), (107, (0, 10, 16, 0)), (110, (0, 10, 17, 0)), (113, (0, 8, 1, 0)), (116, (4, 149, 0, 0)), (120, (4, 10, 0, 0)), (123, (4, 124, 0, 0)), (127, (4, 20, 0, 0)), (130, (0, 9, 9, 0)), (133, (0, 9, 10, 0)), (136, (4, 138, 0, 0)), (139, (4, 129, 0, 0)), (142, (4, 140, 0, 0)), (192, (0, 6, 7, 0)), (195, (4, 142, 0, 0)), (199, (4, 137, 0, 0)), (203, (4, 136, 0, 0)), (206, (0, 6, 8, 0)), (209, (0, 6, 9, 0)), (212, (0, 1, 0, 0)), (215, (4, 0, 0, 0)), (221, (4, 132, 0, 0)), (250, (4, 144, 0, 0)), (253, (4, 33, 0, 0)), (256, (4, 134, 0, 0)), (297, (4, 125, 0, 0)), (301, (0, 2, 1, 0)), (304, (0, 2, 2, 0)), (314, (0, 5, 0, 0)), (337, (4, 139, 0, 0)), (340, (4, 4, 0, 0)), (343, (4, 3, 0, 0)), (346, (4, 131, 0, 0)), (349, (4, 5, 0, 0)), (352, (5, 145, 0, 0)), (353, (4, 147, 0, 0)), (357, (4, 13, 0, 0)), (100025, (3, 4, 0, 0)), (100083, (3, 5, 0, 0))]
def rt_1 : List (Nat × RES) := [(3, (6, 0, 0, 0)), (9, (0, 0, 0, 0)), (15, (0, 0, 1, 0)), (18, (0, 0, 2, 0)), (21, (0, 0, 3, 0)), (24, (0, 0, 4, 0)), (28, (0, 0, 5, 0)), (31, (0, 9, 6, 0)), (83, (0, 6, 7, 0)), (88, (4, 136, 0, 0))]
def rt_2 : List (Nat × RES) := [(3, (6, 0, 0, 0)), (9, (0, 1, 0, 0)), (15, (0, 1, 1, 0)), (19, (0, 1, 2, 0)), (22, (0, 1, 3, 0)), (25, (0, 1, 4, 0)), (28, (0, 1, 5, 0)), (31, (0, 1, 6, 0)), (34, (0, 1, 7, 0)), (38, (0, 1, 8, 0)), (45, (0, 9, 6, 0))]
def rt_3 : List (Nat × RES) := [(3, (6, 0, 0, 0)), (9, (0, 2, 0, 0)), (15, (0, 2, 1, 0)), (19, (0, 2, 2, 0)), (22, (4, 127, 0, 0)), (58, (0, 8, 1, 0))]
def rt_4 : List (Nat × RES) := [(3, (6, 0, 0, 0)), (9, (0, 3, 0, 0))]
def rt_5 : List (Nat × RES) := [(3, (6, 0, 0, 0)), (9, (2, 6, 10, 0)), (11, (0, 4, 0, 0)), (17, (0, 4, 1, 0)), (21, (0, 4, 2, 0)), (24, (4, 0, 0, 0)), (30, (4, 133, 0, 0)), (34, (0, 6, 0, 0)), (38, (4, 141, 0, 0)), (41, (4, 139, 0, 0)), (100009, (3, 4, 0, 0))]
def rt_6 : List (Nat × RES) := []
def rt_7 : List (Nat × RES) := [(3, (6, 0, 0, 0)), (9, (0, 5, 0, 0)), (15, (0, 5, 1, 0))]
def rt_8 : List (Nat × RES) := [(3, (6, 0, 0, 0)), (9, (0, 6, 1, 0)), (15, (0, 6, 2, 0)), (18, (0, 6, 3, 0)), (21, (0, 6, 4, 0)), (24, (0, 6, 5, 0)), (27, (0, 6, 6, 0)), (30, (0, 6, 7, 0)), (34, (0, 6, 8, 0)), (37, (0, 6, 9, 0)), (40, (0, 6, 0, 0)), (44, (0, 1, 3, 0)), (47, (7, 0, 0, 0)), (53, (0, 1, 4, 0)), (54, (0, 1, 5, 0)), (55, (0, 1, 6, 0)), (56, (4, 122, 0, 0)), (60, (0, 1, 0, 0)), (92, (4, 142, 0, 0)), (103, (4, 143, 0, 0))]
def rt_9 : List (Nat × RES) := [(3, (6, 0, 0, 0)), (9, (0, 7, 0, 0)), (15, (0, 7, 1, 0)), (18, (0, 7, 2, 0)), (21, (0, 7, 3, 0)), (24, (0, 7, 4, 0)), (28, (0, 7, 5, 0)), (31, (4, 146, 0, 0)), (35, (4, 9, 0, 0)), (48, (4, 148, 0, 0)), (51, (4, 11, 0, 0)), (55, (0, 9, 6, 0)), (58, (4, 7, 0, 0))]
def rt_10 : List (Nat × RES) := [(3, (6, 0, 0, 0)), (9, (0, 8, 0, 0)), (15, (0, 8, 1, 0))]
def rt_11 : List (Nat × RES) := [(3, (6, 0, 0, 0)), (9, (0, 9, 1, 0)), (15, (0, 9, 2, 0)), (18, (0, 9, 3, 0)), (22, (0, 9, 4, 0)), (26, (0, 9, 5, 0)), (29, (0, 9, 6, 0)), (32, (0, 9, 7, 0)), (35, (0, 9, 8, 0)), (39, (0, 9, 9, 0)), (42, (0, 9, 10, 0)), (45, (0, 9, 0, 0)), (49, (4, 6, 0, 0)), (53, (0, 8, 1, 0)), (58, (4, 1, 0, 0)), (67, (4, 12, 0, 0))]
def rt_12 : List (Nat × RES) := [(8, (2, 10, 18, 0)), (22, (4, 32, 0, 0)), (23, (2, 11, 53, 0)), (25, (4, 80, 0, 0)), (26, (4, 28, 0, 0)), (30, (4, 74, 0, 0)), (31, (4, 26, 0, 0)), (35, (4, 72, 0, 0)), (36, (4, 19, 0, 0)), (40, (4, 64, 0, 0)), (41, (4, 27, 0, 0)), (44, (4, 73, 0, 0)), (50, (4, 115, 0, 0)), (51, (4, 116, 0, 0)), (56, (4, 99, 0, 0)), (57, (4, 35, 0, 0)), (61, (4, 91, 0, 0)), (62, (4, 38, 0, 0)), (65, (4, 95, 0, 0)), (66, (4, 30, 0, 0)), (69, (4, 77, 0, 0)), (70, (4, 14, 0, 0)), (73, (4, 56, 0, 0)), (74, (4, 36, 0, 0)), (77, (4, 92, 0, 0)), (78, (4, 41, 0, 0)), (81, (4, 101, 0, 0)), (82, (4, 42, 0, 0)), (85, (4, 102, 0, 0)), (86, (4, 34, 0, 0)), (89, (4, 90, 0, 0)), (90, (4, 24, 0, 0)), (93, (4, 70, 0, 0)), (94, (4, 55, 0, 0)), (97, (4, 121, 0, 0)), (98, (4, 29, 0, 0)), (101, (4, 75, 0, 0)), (102, (4, 47, 0, 0)), (105, (4, 107, 0, 0)), (106, (4, 48, 0, 0)), (109, (4, 108, 0, 0)), (110, (4, 54, 0, 0)), (113, (4, 120, 0, 0)), (117, (4, 111, 0, 0)), (118, (4, 22, 0, 0)), (121, (4, 67, 0, 0)), (122, (4, 23, 0, 0)), (125, (4, 68, 0, 0)), (126, (4, 51, 0, 0)), (129, (4, 112, 0, 0)), (130, (4, 52, 0, 0)), (133, (4, 113, 0, 0)), (134, (4, 50, 0, 0)), (137, (4, 110, 0, 0)), (138, (4, 17, 0, 0)), (142, (4, 61, 0, 0)), (143, (4, 18, 0, 0)), (146, (4, 62, 0, 0)), (147, (4, 43, 0, 0)), (150, (4, 103, 0, 0)), (151, (4, 44, 0, 0)), (154, (4, 104, 0, 0)), (155, (4, 37, 0, 0)), (158, (4, 93, 0, 0)), (159, (4, 40, 0, 0)), (162, (4, 100, 0, 0)), (163, (4, 16, 0, 0)), (166, (4, 60, 0, 0)), (167, (4, 25, 0, 0)), (170, (4, 71, 0, 0)), (171, (4, 39, 0, 0)), (174, (4, 96, 0, 0)), (175, (4, 15, 0, 0)), (178, (4, 59, 0, 0)), (179, (4, 53, 0, 0)), (182, (4, 118, 0, 0)), (183, (4, 49, 0, 0)), (186, (4, 109, 0, 0)), (187, (4, 46, 0, 0)), (190, (4, 106, 0, 0)), (191, (4, 31, 0, 0)), (194, (4, 79, 0, 0)), (195, (4, 45, 0, 0)), (198, (4, 105, 0, 0)), (199, (4, 21, 0, 0)), (202, (4, 66, 0, 0))]
def rt_13 : List (Nat × RES) := [(1, (0, 11, 0, 0)), (7, (0, 11, 2, 0)), (10, (4, 76, 0, 0)), (14, (0, 11, 1, 0)), (18, (0, 11, 3, 0)), (21, (0, 11, 4, 0)), (24, (0, 11, 5, 0)), (31, (6, 0, 0, 0)), (37, (0, 11, 6, 0)), (41, (0, 11, 7, 0)), (44, (0, 11, 8, 0)), (47, (0, 11, 9, 0)), (51, (0, 11, 10, 0)), (54, (0, 11, 21, 0)), (57, (0, 11, 22, 0)), (60, (0, 11, 33, 0)), (63, (0, 11, 34, 0)), (66, (0, 11, 35, 0)), (69, (0, 11, 37, 0)), (72, (0, 11, 41, 0)), (75, (0, 11, 43, 0)), (78, (0, 11, 49, 0)), (82, (0, 11, 50, 0)), (85, (0, 11, 51, 0)), (88, (0, 11, 52, 0)), (91, (9, 0, 0, 482854658917)), (93, (9, 0, 0, 1835102827)), (95, (9, 0, 0, 499967946343)), (97, (9, 0, 0, 26995)), (99, (9, 0, 0, 123581014175598)), (101, (9, 0, 0, 28832984742848366)), (103, (9, 0, 0, 461414299507)), (105, (9, 0, 0, 1718185573)), (107, (9, 0, 0, 1835627621)), (109, (9, 0, 0, 2002872165)), (111, (9, 0, 0, 1717662580)), (113, (9, 0, 0, 1735353715)), (115, (9, 0, 0, 1634954099)), (117, (9, 0, 0, 474080961907)), (119, (9, 0, 0, 123623812527219)), (121, (9, 0, 0, 1886745715)), (123, (9, 0, 0, 119182682386035)), (125, (9, 0, 0, 6578553)), (127, (9, 0, 0, 28530)), (129, (9, 0, 0, 6385252)), (131, (9, 0, 0, 7237492)), (133, (9, 0, 0, 27973166868030820)), (135, (9, 0, 0, 1819242085)), (137, (9, 0, 0, 6840691)), (139, (9, 0, 0, 24948)), (141, (9, 0, 0, 2003399784)), (143, (9, 0, 0, 469786323827)), (145, (9, 0, 0, 474080961892)), (147, (9, 0, 0, 121450625394034)), (149, (4, 65, 0, 0)), (152, (4, 98, 0, 0)), (156, (0, 11, 12, 0)), (159, (0, 11, 13, 0)), (162, (0, 11, 11, 0)), (179, (0, 11, 15, 0)), (182, (0, 11, 16, 0)), (185, (4, 85, 0, 0)), (188, (4, 58, 0, 0)), (191, (4, 94, 0, 0)), (194, (4, 82, 0, 0)), (215, (0, 11, 20, 0)), (221, (4, 87, 0, 0)), (247, (4, 114, 0, 0)), (250, (0, 11, 19, 0)), (259, (0, 11, 23, 0)), (272, (4, 86, 0, 0)), (275, (4, 117, 0, 0)), (282, (4, 83, 0, 0)), (288, (4, 84, 0, 0)), (291, (4, 81, 0, 0)), (294, (4, 63, 0, 0)), (318, (4, 69, 0, 0)), (321, (4, 88, 0, 0)), (357, (4, 78, 0, 0)), (360, (0, 11, 27, 0)), (373, (0, 11, 28, 0)), (388, (0, 11, 32, 0)), (401, (0, 11, 29, 0)), (416, (0, 11, 36, 0)), (419, (0, 11, 38, 0)), (451, (4, 119, 0, 0)), (454, (4, 57, 0, 0)), (457, (0, 11, 40, 0)), (470, (0, 11, 42, 0)), (473, (0, 11, 44, 0)), (476, (0, 11, 46, 0)), (482, (0, 11, 47, 0)), (485, (4, 89, 0, 0)), (488, (0, 11, 45, 0)), (491, (0, 11, 48, 0)), (503, (4, 97, 0, 0))]
def rt_14 : List (Nat × RES) := []
def rt_15 : List (Nat × RES) := []
def rt_16 : List (Nat × RES) := []
def rt_17 : List (Nat × RES) := []
def rt_18 : List (Nat × RES) := []
def rt_19 : List (Nat × RES) := []
def rt_20 : List (Nat × RES) := []
def rt_21 : List (Nat × RES) := []
def rt_22 : List (Nat × RES) := []
def rt_23 : List (Nat × RES) := []
def rt_24 : List (Nat × RES) := []
def rt_25 : List (Nat × RES) := []
def RTB : List (List (Nat × RES)) := [rt_0, rt_1, rt_2, rt_3, rt_4, rt_5, rt_6, rt_7, rt_8, rt_9, rt_10, rt_11, rt_12, rt_13, rt_14, rt_15, rt_16, rt_17, rt_18, rt_19, rt_20, rt_21, rt_22, rt_23, rt_24, rt_25]
def EV0 : EV := [(-2147483648, 2147483647), (-2147483648, 2147483647), (-2147483648, 2147483647), (-2147483648, 2147483647), (-2147483648, 2147483647), (-2147483648, 2147483647), (0, 6)]
def ST0 : ST := (0, [(0, aS)], [], EV0, [], 0, 0)
end
section
/-! the tables are right: by program, each decided by the kernel -/
def w_at (pos : Nat) (w : Cond) : Bool := decide (lw_tbl[pos]? = some w)
def h_at (pos : Nat) (w : Cond) : Bool := w_at pos w && goodWord w
theorem h_at_ok {pos : Nat} {w : Cond} (h : h_at pos w = true) : w ∈ BIG := by
  simp only [h_at, w_at, Bool.and_eq_true, decide_eq_true_eq] at h
  exact List.mem_filter.mpr ⟨List.mem_of_getElem? h.1, h.2⟩
def n_at (pos : Nat) (w : Cond) : Bool := w_at pos w && isNest w
theorem n_at_ok {pos : Nat} {w : Cond} (h : n_at pos w = true) : w ∈ NST := by
  simp only [n_at, w_at, Bool.and_eq_true, decide_eq_true_eq] at h
  exact List.mem_filter.mpr ⟨List.mem_of_getElem? h.1, h.2⟩
abbrev d_chk (M : MT) : Bool := d_chkL (mC M) (mT M)
theorem d_chk_ok {M : MT} (h : d_chk M = true) : ∀ q ∈ mT M, decode (mC M) q.1 = .ok (q.2.2.1, q.2.2.2) := by
  intro q hq
  have h1 := List.all_eq_true.mp h q hq
  split at h1
  · rename_i r hr
    have h1 := of_decide_eq_true h1
    rw [hr, h1]
  · cases h1

def i_chk (M : MT) : Bool := !(Nat.beq (mK M) 2) || (match vwCl[mCi M]? with | some r => (List.range r.2.2).all (fun k => decide (OWN[mO M]? = some (r.2.1 k).1)) | none => true)
theorem i_chk_ok {M : MT} (h : i_chk M = true) : mK M = 2 → ∀ r : vw_C, vwCl[mCi M]? = some r → ∀ k, k < r.2.2 → OWN[mO M]? = some (r.2.1 k).1 := by
  intro h2 r hr k hk
  unfold i_chk at h
  rw [h2, hr] at h
  simp only [Nat.beq, Bool.not_true, Bool.false_or] at h
  exact of_decide_eq_true (List.all_eq_true.mp h k (List.mem_range.mpr hk))
def m_chk (M : MT) (ps : Nat × Nat × Nat × Nat) : Bool := plainFor (mY M) && (h_at ps.1 (.code (mY M) (mC M) (mL M) (mR M)) && (h_at ps.2.1 (.initialized (mY M).cls) && (decide ((mY M).cls ≠ "java/lang/invoke/MethodHandle") && (decide ((mY M).cls ≠ "java/lang/invoke/VarHandle") && (decide ((parseMethodDescriptor (mY M).desc).map (fun d => d.parameters.length) = some (mA M)) &&
  ((match mK M with
  | 0 => h_at ps.2.2.1 (.static (mY M))
  | 1 => h_at ps.2.2.1 (.instanceMethod (mY M)) && (h_at ps.2.2.2 (.selects (mY M).cls (mY M) (mY M)) && (match vwCl[mCi M]? with | some r => decide (r.1 = (mY M).cls) | none => false))
  | 2 => decide ((mY M).name = "<init>") && (h_at ps.2.2.1 (.instanceMethod (mY M)) && decide (mR M = none))
  | _ => false) && (decide (mR M = none ∨ mR M = some .int ∨ mR M = some .boolean ∨ mR M = some .long) && (decide (OWN[mO M]? = some (mY M).cls) && i_chk M))))))))
theorem m_chk_ok {M : MT} {ps : Nat × Nat × Nat × Nat} (h : m_chk M ps = true) (hd : d_chk M = true) : MOK M ∧ TOK OWN M ∧ OWN[mO M]? = some (mY M).cls := by
  simp only [m_chk, Bool.and_eq_true, decide_eq_true_eq] at h
  obtain ⟨h1, h2, h3, h4, h5, h6, h7, h8, h9, h10⟩ := h
  refine ⟨⟨h1, h_at_ok h2, h_at_ok h3, ⟨h4, h5⟩, h6, fun hk => ?_, fun hk => ?_, fun hk => ?_, h8⟩, ⟨d_chk_ok hd, i_chk_ok h10⟩, h9⟩
  · rw [hk] at h7
    exact h_at_ok h7
  · rw [hk] at h7
    simp only [Bool.and_eq_true] at h7
    obtain ⟨a1, a2, a3⟩ := h7
    refine ⟨h_at_ok a1, h_at_ok a2, ?_⟩
    split at a3
    · rename_i r hr
      exact ⟨r, hr, of_decide_eq_true a3⟩
    · cases a3
  · rw [hk] at h7
    simp only [Bool.and_eq_true, decide_eq_true_eq] at h7
    exact ⟨h7.1, h_at_ok h7.2.1, h7.2.2⟩
def r_chk (own : String) (x : Nat × RES) (ps : List Nat) (host : String) : Bool := match x, ps with
  | (i, (0, ci, k, _)), [a] => (match vwCl[ci]? with | some q => decide (k < q.2.2) && h_at a (.fieldLink own i (q.2.1 k).1 (q.2.1 k).2.1 (q.2.1 k).2.2.1) | none => false)
  | (i, (1, ci, k, _)), [a] => (match vwCl[ci]? with | some q => decide (k < q.2.2) && n_at a (.fieldLinkNest own i (q.2.1 k).1 (q.2.1 k).2.1 (q.2.1 k).2.2.1 host) | none => false)
  | (i, (2, ci, n, _)), [a, a2, a3] => (match vwCl[ci]? with | some q => decide (q.2.2 = n) && (h_at a (.classLink own i q.1) && (h_at a2 (.instantiable q.1 n) && h_at a3 (.initialized q.1))) | none => false)
  | (i, (3, t, _, _)), [a] => (match vwCl[e_acls t]? with | some q => decide (100000 ≤ i) && (h_at a (.classLink own (i - 100000) q.1) && decide (q.1 = "NounFast$Scene" ∨ q.1 = "NounFast$Sentence")) | none => false)
  | (i, (4, j, _, _)), [a] => (match PRG[j]? with | some M => h_at a (.methodLink own i (mY M)) | none => false)
  | (i, (5, j, _, _)), [a] => (match PRG[j]? with | some M => n_at a (.methodLinkNest own i (mY M) host) | none => false)
  | (i, (6, _, _, _)), [a] => h_at a (.methodLink own i Lib.objectInit)
  | (i, (7, _, _, _)), [a] => h_at a (.methodLink own i arraycopyName)
  | (i, (9, _, _, v)), [a] => h_at a (.constantLong own i (Int64.ofInt v)) && (decide (-9223372036854775808 ≤ v) && decide (v < 9223372036854775808))
  | (_, (10, _, _, _)), _ => true
  | _, _ => false
theorem r_chk_ok {own : String} {x : Nat × RES} {ps : List Nat} {host : String} (h : r_chk own x ps host = true) : ROK PRG own x.1 x.2 := by
  unfold r_chk at h
  split at h
  · split at h
    · rename_i hq
      simp only [Bool.and_eq_true, decide_eq_true_eq] at h
      exact ⟨_, hq, h.1, h_at_ok h.2⟩
    · cases h
  · split at h
    · rename_i hq
      simp only [Bool.and_eq_true, decide_eq_true_eq] at h
      exact ⟨_, host, hq, h.1, n_at_ok h.2⟩
    · cases h
  · split at h
    · rename_i hq
      simp only [Bool.and_eq_true, decide_eq_true_eq] at h
      exact ⟨_, hq, h.1, h_at_ok h.2.1, h_at_ok h.2.2.1, h_at_ok h.2.2.2⟩
    · cases h
  · split at h
    · rename_i hq
      simp only [Bool.and_eq_true, decide_eq_true_eq] at h
      exact ⟨_, _, hq, (Nat.sub_add_cancel h.1).symm, h_at_ok h.2.1, h.2.2⟩
    · cases h
  · split at h
    · rename_i hq
      exact ⟨_, hq, h_at_ok h⟩
    · cases h
  · split at h
    · rename_i hq
      exact ⟨_, host, hq, n_at_ok h⟩
    · cases h
  · exact h_at_ok h
  · exact h_at_ok h
  · simp only [Bool.and_eq_true, decide_eq_true_eq] at h
    exact ⟨h_at_ok h.1, h.2.1, h.2.2⟩
  · trivial
  · cases h
def r_all (own : String) : List (Nat × RES) → List (List Nat × String) → Bool
  | [], _ => true
  | x :: r, p :: q => r_chk own x p.1 p.2 && r_all own r q
  | _ :: _, [] => false
theorem r_all_ok {own : String} : ∀ {x : List (Nat × RES)} {ps : List (List Nat × String)}, r_all own x ps = true → ∀ q ∈ x, ROK PRG own q.1 q.2 := by
  intro x
  induction x with
  | nil => intro ps _ q hq; cases hq
  | cons a r ih =>
    intro ps h q hq
    cases ps with
    | nil => cases h
    | cons p t =>
      simp only [r_all, Bool.and_eq_true] at h
      rcases List.mem_cons.mp hq with rfl | hq
      · exact r_chk_ok h.1
      · exact ih h.2 q hq
theorem all_0 {Z : MT → Prop} : ∀ M ∈ ([] : List MT), Z M := fun _ h => by cases h
theorem all_c {Z : MT → Prop} {M : MT} {r : List MT} (h : Z M) (hr : ∀ M ∈ r, Z M) : ∀ M' ∈ M :: r, Z M' := fun M' h' => (List.mem_cons.mp h').elim (fun e => e ▸ h) (hr M')

theorem td_J9_floorMod_7cf53 : d_chk mt_J9_floorMod_7cf53 = true := by decide +kernel
theorem tm_J9_floorMod_7cf53 : m_chk mt_J9_floorMod_7cf53 (688, 128, 687, 0) = true := by decide +kernel
theorem td_J9_min_7cf53 : d_chk mt_J9_min_7cf53 = true := by decide +kernel
theorem tm_J9_min_7cf53 : m_chk mt_J9_min_7cf53 (493, 128, 492, 0) = true := by decide +kernel
theorem td_X0_init : d_chk mt_X0_init = true := by decide +kernel
theorem tm_X0_init : m_chk mt_X0_init (342, 123, 341, 0) = true := by decide +kernel
theorem td_X0_judge : d_chk mt_X0_judge = true := by decide +kernel
theorem tm_X0_judge : m_chk mt_X0_judge (1071, 123, 1069, 1070) = true := by decide +kernel
theorem td_X0_read : d_chk mt_X0_read = true := by decide +kernel
theorem tm_X0_read : m_chk mt_X0_read (1046, 123, 1044, 1045) = true := by decide +kernel
theorem td_X0_tell : d_chk mt_X0_tell = true := by decide +kernel
theorem tm_X0_tell : m_chk mt_X0_tell (1098, 123, 1096, 1097) = true := by decide +kernel
theorem td_X10_behindBlanks : d_chk mt_X10_behindBlanks = true := by decide +kernel
theorem tm_X10_behindBlanks : m_chk mt_X10_behindBlanks (486, 119, 485, 0) = true := by decide +kernel
theorem td_X10_fail : d_chk mt_X10_fail = true := by decide +kernel
theorem tm_X10_fail : m_chk mt_X10_fail (596, 119, 594, 595) = true := by decide +kernel
theorem td_X10_init : d_chk mt_X10_init = true := by decide +kernel
theorem tm_X10_init : m_chk mt_X10_init (170, 119, 169, 0) = true := by decide +kernel
theorem td_X10_isWord : d_chk mt_X10_isWord = true := by decide +kernel
theorem tm_X10_isWord : m_chk mt_X10_isWord (618, 119, 616, 617) = true := by decide +kernel
theorem td_X10_open_0 : d_chkL cX10_open tc_X10_open_0 = true := by decide +kernel
theorem td_X10_open_1 : d_chkL cX10_open tc_X10_open_1 = true := by decide +kernel
theorem td_X10_open_2 : d_chkL cX10_open tc_X10_open_2 = true := by decide +kernel
theorem td_X10_open : d_chk mt_X10_open = true := d_app td_X10_open_0 (d_app td_X10_open_1 (td_X10_open_2))
theorem tm_X10_open : m_chk mt_X10_open (482, 119, 480, 481) = true := by decide +kernel
theorem td_X10_plainWord : d_chk mt_X10_plainWord = true := by decide +kernel
theorem tm_X10_plainWord : m_chk mt_X10_plainWord (586, 119, 584, 585) = true := by decide +kernel
theorem td_X10_step : d_chk mt_X10_step = true := by decide +kernel
theorem tm_X10_step : m_chk mt_X10_step (574, 119, 572, 573) = true := by decide +kernel
theorem td_X10_takeEnd : d_chk mt_X10_takeEnd = true := by decide +kernel
theorem tm_X10_takeEnd : m_chk mt_X10_takeEnd (1162, 119, 1160, 1161) = true := by decide +kernel
theorem td_X11_ask : d_chk mt_X11_ask = true := by decide +kernel
theorem tm_X11_ask : m_chk mt_X11_ask (722, 117, 720, 721) = true := by decide +kernel
theorem td_X11_book : d_chk mt_X11_book = true := by decide +kernel
theorem tm_X11_book : m_chk mt_X11_book (1042, 117, 1040, 1041) = true := by decide +kernel
theorem td_X11_byteAt : d_chk mt_X11_byteAt = true := by decide +kernel
theorem tm_X11_byteAt : m_chk mt_X11_byteAt (998, 117, 996, 997) = true := by decide +kernel
theorem td_X11_cant : d_chk mt_X11_cant = true := by decide +kernel
theorem tm_X11_cant : m_chk mt_X11_cant (920, 117, 918, 919) = true := by decide +kernel
theorem td_X11_canting : d_chk mt_X11_canting = true := by decide +kernel
theorem tm_X11_canting : m_chk mt_X11_canting (927, 117, 925, 926) = true := by decide +kernel
theorem td_X11_city : d_chk mt_X11_city = true := by decide +kernel
theorem tm_X11_city : m_chk mt_X11_city (478, 117, 476, 477) = true := by decide +kernel
theorem td_X11_closeText : d_chk mt_X11_closeText = true := by decide +kernel
theorem tm_X11_closeText : m_chk mt_X11_closeText (638, 117, 637, 12) = true := by decide +kernel
theorem td_X11_count : d_chk mt_X11_count = true := by decide +kernel
theorem tm_X11_count : m_chk mt_X11_count (1201, 117, 1199, 1200) = true := by decide +kernel
theorem td_X11_cover : d_chk mt_X11_cover = true := by decide +kernel
theorem tm_X11_cover : m_chk mt_X11_cover (869, 117, 867, 868) = true := by decide +kernel
theorem td_X11_covering : d_chk mt_X11_covering = true := by decide +kernel
theorem tm_X11_covering : m_chk mt_X11_covering (880, 117, 878, 879) = true := by decide +kernel
theorem td_X11_days : d_chk mt_X11_days = true := by decide +kernel
theorem tm_X11_days : m_chk mt_X11_days (804, 117, 802, 803) = true := by decide +kernel
theorem td_X11_drawn : d_chk mt_X11_drawn = true := by decide +kernel
theorem tm_X11_drawn : m_chk mt_X11_drawn (1002, 117, 1000, 1001) = true := by decide +kernel
theorem td_X11_end : d_chk mt_X11_end = true := by decide +kernel
theorem tm_X11_end : m_chk mt_X11_end (474, 117, 472, 473) = true := by decide +kernel
theorem td_X11_fault : d_chk mt_X11_fault = true := by decide +kernel
theorem tm_X11_fault : m_chk mt_X11_fault (653, 117, 651, 652) = true := by decide +kernel
theorem td_X11_feed : d_chk mt_X11_feed = true := by decide +kernel
theorem tm_X11_feed : m_chk mt_X11_feed (466, 117, 464, 465) = true := by decide +kernel
theorem td_X11_fits : d_chk mt_X11_fits = true := by decide +kernel
theorem tm_X11_fits : m_chk mt_X11_fits (829, 117, 827, 828) = true := by decide +kernel
theorem td_X11_go : d_chk mt_X11_go = true := by decide +kernel
theorem tm_X11_go : m_chk mt_X11_go (692, 117, 690, 691) = true := by decide +kernel
theorem td_X11_image : d_chk mt_X11_image = true := by decide +kernel
theorem tm_X11_image : m_chk mt_X11_image (1193, 117, 1191, 1192) = true := by decide +kernel
theorem td_X11_init_0 : d_chkL cX11_init tc_X11_init_0 = true := by decide +kernel
theorem td_X11_init_1 : d_chkL cX11_init tc_X11_init_1 = true := by decide +kernel
theorem td_X11_init_2 : d_chkL cX11_init tc_X11_init_2 = true := by decide +kernel
theorem td_X11_init_3 : d_chkL cX11_init tc_X11_init_3 = true := by decide +kernel
theorem td_X11_init : d_chk mt_X11_init = true := d_app td_X11_init_0 (d_app td_X11_init_1 (d_app td_X11_init_2 (td_X11_init_3)))
theorem tm_X11_init : m_chk mt_X11_init (145, 117, 144, 0) = true := by decide +kernel
theorem td_X11_keptDays : d_chk mt_X11_keptDays = true := by decide +kernel
theorem tm_X11_keptDays : m_chk mt_X11_keptDays (817, 117, 816, 17) = true := by decide +kernel
theorem td_X11_learn : d_chk mt_X11_learn = true := by decide +kernel
theorem tm_X11_learn : m_chk mt_X11_learn (793, 117, 791, 792) = true := by decide +kernel
theorem td_X11_lies : d_chk mt_X11_lies = true := by decide +kernel
theorem tm_X11_lies : m_chk mt_X11_lies (657, 117, 655, 656) = true := by decide +kernel
theorem td_X11_name : d_chk mt_X11_name = true := by decide +kernel
theorem tm_X11_name : m_chk mt_X11_name (760, 117, 758, 759) = true := by decide +kernel
theorem td_X11_news : d_chk mt_X11_news = true := by decide +kernel
theorem tm_X11_news : m_chk mt_X11_news (964, 117, 962, 963) = true := by decide +kernel
theorem td_X11_now : d_chk mt_X11_now = true := by decide +kernel
theorem tm_X11_now : m_chk mt_X11_now (673, 117, 671, 672) = true := by decide +kernel
theorem td_X11_odds : d_chk mt_X11_odds = true := by decide +kernel
theorem tm_X11_odds : m_chk mt_X11_odds (1037, 117, 1035, 1036) = true := by decide +kernel
theorem td_X11_phrase : d_chk mt_X11_phrase = true := by decide +kernel
theorem tm_X11_phrase : m_chk mt_X11_phrase (977, 117, 975, 976) = true := by decide +kernel
theorem td_X11_point : d_chk mt_X11_point = true := by decide +kernel
theorem tm_X11_point : m_chk mt_X11_point (777, 117, 775, 776) = true := by decide +kernel
theorem td_X11_put : d_chk mt_X11_put = true := by decide +kernel
theorem tm_X11_put : m_chk mt_X11_put (785, 117, 783, 784) = true := by decide +kernel
theorem td_X11_rest : d_chk mt_X11_rest = true := by decide +kernel
theorem tm_X11_rest : m_chk mt_X11_rest (931, 117, 929, 930) = true := by decide +kernel
theorem td_X11_rested : d_chk mt_X11_rested = true := by decide +kernel
theorem tm_X11_rested : m_chk mt_X11_rested (960, 117, 958, 959) = true := by decide +kernel
theorem td_X11_restore : d_chk mt_X11_restore = true := by decide +kernel
theorem tm_X11_restore : m_chk mt_X11_restore (1197, 117, 1195, 1196) = true := by decide +kernel
theorem td_X11_said : d_chk mt_X11_said = true := by decide +kernel
theorem tm_X11_said : m_chk mt_X11_said (1166, 117, 1164, 1165) = true := by decide +kernel
theorem td_X11_say : d_chk mt_X11_say = true := by decide +kernel
theorem tm_X11_say : m_chk mt_X11_say (834, 117, 832, 833) = true := by decide +kernel
theorem td_X11_saying : d_chk mt_X11_saying = true := by decide +kernel
theorem tm_X11_saying : m_chk mt_X11_saying (856, 117, 854, 855) = true := by decide +kernel
theorem td_X11_sentence : d_chk mt_X11_sentence = true := by decide +kernel
theorem tm_X11_sentence : m_chk mt_X11_sentence (1102, 117, 1100, 1101) = true := by decide +kernel
theorem td_X11_show : d_chk mt_X11_show = true := by decide +kernel
theorem tm_X11_show : m_chk mt_X11_show (916, 117, 914, 915) = true := by decide +kernel
theorem td_X11_spoken : d_chk mt_X11_spoken = true := by decide +kernel
theorem tm_X11_spoken : m_chk mt_X11_spoken (884, 117, 882, 883) = true := by decide +kernel
theorem td_X11_surely : d_chk mt_X11_surely = true := by decide +kernel
theorem tm_X11_surely : m_chk mt_X11_surely (912, 117, 910, 911) = true := by decide +kernel
theorem td_X11_told : d_chk mt_X11_told = true := by decide +kernel
theorem tm_X11_told : m_chk mt_X11_told (1094, 117, 1092, 1093) = true := by decide +kernel
theorem td_X11_twin : d_chk mt_X11_twin = true := by decide +kernel
theorem tm_X11_twin : m_chk mt_X11_twin (860, 117, 858, 859) = true := by decide +kernel
theorem td_X11_undo : d_chk mt_X11_undo = true := by decide +kernel
theorem tm_X11_undo : m_chk mt_X11_undo (821, 117, 819, 820) = true := by decide +kernel
theorem td_X12_ask : d_chk mt_X12_ask = true := by decide +kernel
theorem tm_X12_ask : m_chk mt_X12_ask (1686, 127, 1684, 1685) = true := by decide +kernel
theorem td_X12_back : d_chk mt_X12_back = true := by decide +kernel
theorem tm_X12_back : m_chk mt_X12_back (1935, 127, 1934, 104) = true := by decide +kernel
theorem td_X12_bad : d_chk mt_X12_bad = true := by decide +kernel
theorem tm_X12_bad : m_chk mt_X12_bad (1556, 127, 1555, 47) = true := by decide +kernel
theorem td_X12_book_0 : d_chkL cX12_book tc_X12_book_0 = true := by decide +kernel
theorem td_X12_book_1 : d_chkL cX12_book tc_X12_book_1 = true := by decide +kernel
theorem td_X12_book_2 : d_chkL cX12_book tc_X12_book_2 = true := by decide +kernel
theorem td_X12_book_3 : d_chkL cX12_book tc_X12_book_3 = true := by decide +kernel
theorem td_X12_book : d_chk mt_X12_book = true := d_app td_X12_book_0 (d_app td_X12_book_1 (d_app td_X12_book_2 (td_X12_book_3)))
theorem tm_X12_book : m_chk mt_X12_book (1939, 127, 1937, 1938) = true := by decide +kernel
theorem td_X12_byteAt : d_chk mt_X12_byteAt = true := by decide +kernel
theorem tm_X12_byteAt : m_chk mt_X12_byteAt (1906, 127, 1904, 1905) = true := by decide +kernel
theorem td_X12_cant : d_chk mt_X12_cant = true := by decide +kernel
theorem tm_X12_cant : m_chk mt_X12_cant (1855, 127, 1853, 1854) = true := by decide +kernel
theorem td_X12_canting : d_chk mt_X12_canting = true := by decide +kernel
theorem tm_X12_canting : m_chk mt_X12_canting (1859, 127, 1857, 1858) = true := by decide +kernel
theorem td_X12_carriedSet : d_chk mt_X12_carriedSet = true := by decide +kernel
theorem tm_X12_carriedSet : m_chk mt_X12_carriedSet (1674, 127, 1673, 70) = true := by decide +kernel
theorem td_X12_city_0 : d_chkL cX12_city tc_X12_city_0 = true := by decide +kernel
theorem td_X12_city_1 : d_chkL cX12_city tc_X12_city_1 = true := by decide +kernel
theorem td_X12_city_2 : d_chkL cX12_city tc_X12_city_2 = true := by decide +kernel
theorem td_X12_city_3 : d_chkL cX12_city tc_X12_city_3 = true := by decide +kernel
theorem td_X12_city_4 : d_chkL cX12_city tc_X12_city_4 = true := by decide +kernel
theorem td_X12_city_5 : d_chkL cX12_city tc_X12_city_5 = true := by decide +kernel
theorem td_X12_city : d_chk mt_X12_city = true := d_app td_X12_city_0 (d_app td_X12_city_1 (d_app td_X12_city_2 (d_app td_X12_city_3 (d_app td_X12_city_4 (td_X12_city_5)))))
theorem tm_X12_city : m_chk mt_X12_city (1522, 127, 1520, 1521) = true := by decide +kernel
theorem td_X12_clears : d_chk mt_X12_clears = true := by decide +kernel
theorem tm_X12_clears : m_chk mt_X12_clears (1357, 127, 1356, 40) = true := by decide +kernel
theorem td_X12_count : d_chk mt_X12_count = true := by decide +kernel
theorem tm_X12_count : m_chk mt_X12_count (2007, 127, 2005, 2006) = true := by decide +kernel
theorem td_X12_cover : d_chk mt_X12_cover = true := by decide +kernel
theorem tm_X12_cover : m_chk mt_X12_cover (1815, 127, 1813, 1814) = true := by decide +kernel
theorem td_X12_covering : d_chk mt_X12_covering = true := by decide +kernel
theorem tm_X12_covering : m_chk mt_X12_covering (1823, 127, 1821, 1822) = true := by decide +kernel
theorem td_X12_day : d_chk mt_X12_day = true := by decide +kernel
theorem tm_X12_day : m_chk mt_X12_day (1780, 127, 1779, 88) = true := by decide +kernel
theorem td_X12_days : d_chk mt_X12_days = true := by decide +kernel
theorem tm_X12_days : m_chk mt_X12_days (1772, 127, 1770, 1771) = true := by decide +kernel
theorem td_X12_drawn : d_chk mt_X12_drawn = true := by decide +kernel
theorem tm_X12_drawn : m_chk mt_X12_drawn (1910, 127, 1908, 1909) = true := by decide +kernel
theorem td_X12_end : d_chk mt_X12_end = true := by decide +kernel
theorem tm_X12_end : m_chk mt_X12_end (1319, 127, 1317, 1318) = true := by decide +kernel
theorem td_X12_fault : d_chk mt_X12_fault = true := by decide +kernel
theorem tm_X12_fault : m_chk mt_X12_fault (1618, 127, 1616, 1617) = true := by decide +kernel
theorem td_X12_feed : d_chk mt_X12_feed = true := by decide +kernel
theorem tm_X12_feed : m_chk mt_X12_feed (1310, 127, 1308, 1309) = true := by decide +kernel
theorem td_X12_fits : d_chk mt_X12_fits = true := by decide +kernel
theorem tm_X12_fits : m_chk mt_X12_fits (1791, 127, 1789, 1790) = true := by decide +kernel
theorem td_X12_four : d_chk mt_X12_four = true := by decide +kernel
theorem tm_X12_four : m_chk mt_X12_four (1315, 127, 1313, 39) = true := by decide +kernel
theorem td_X12_go : d_chk mt_X12_go = true := by decide +kernel
theorem tm_X12_go : m_chk mt_X12_go (1678, 127, 1676, 1677) = true := by decide +kernel
theorem td_X12_goesOn : d_chk mt_X12_goesOn = true := by decide +kernel
theorem tm_X12_goesOn : m_chk mt_X12_goesOn (1776, 127, 1775, 87) = true := by decide +kernel
theorem td_X12_image : d_chk mt_X12_image = true := by decide +kernel
theorem tm_X12_image : m_chk mt_X12_image (1999, 127, 1997, 1998) = true := by decide +kernel
theorem td_X12_init_0 : d_chkL cX12_init tc_X12_init_0 = true := by decide +kernel
theorem td_X12_init_1 : d_chkL cX12_init tc_X12_init_1 = true := by decide +kernel
theorem td_X12_init_2 : d_chkL cX12_init tc_X12_init_2 = true := by decide +kernel
theorem td_X12_init_3 : d_chkL cX12_init tc_X12_init_3 = true := by decide +kernel
theorem td_X12_init_4 : d_chkL cX12_init tc_X12_init_4 = true := by decide +kernel
theorem td_X12_init_5 : d_chkL cX12_init tc_X12_init_5 = true := by decide +kernel
theorem td_X12_init_6 : d_chkL cX12_init tc_X12_init_6 = true := by decide +kernel
theorem td_X12_init_7 : d_chkL cX12_init tc_X12_init_7 = true := by decide +kernel
theorem td_X12_init_8 : d_chkL cX12_init tc_X12_init_8 = true := by decide +kernel
theorem td_X12_init_9 : d_chkL cX12_init tc_X12_init_9 = true := by decide +kernel
theorem td_X12_init : d_chk mt_X12_init = true := d_app td_X12_init_0 (d_app td_X12_init_1 (d_app td_X12_init_2 (d_app td_X12_init_3 (d_app td_X12_init_4 (d_app td_X12_init_5 (d_app td_X12_init_6 (d_app td_X12_init_7 (d_app td_X12_init_8 (td_X12_init_9)))))))))
theorem tm_X12_init : m_chk mt_X12_init (1323, 127, 1322, 0) = true := by decide +kernel
theorem td_X12_isFast : d_chk mt_X12_isFast = true := by decide +kernel
theorem tm_X12_isFast : m_chk mt_X12_isFast (1670, 127, 1669, 69) = true := by decide +kernel
theorem td_X12_isIn : d_chk mt_X12_isIn = true := by decide +kernel
theorem tm_X12_isIn : m_chk mt_X12_isIn (1602, 127, 1601, 0) = true := by decide +kernel
theorem td_X12_isPerson : d_chk mt_X12_isPerson = true := by decide +kernel
theorem tm_X12_isPerson : m_chk mt_X12_isPerson (1646, 127, 1645, 65) = true := by decide +kernel
theorem td_X12_isPlace : d_chk mt_X12_isPlace = true := by decide +kernel
theorem tm_X12_isPlace : m_chk mt_X12_isPlace (1658, 127, 1657, 67) = true := by decide +kernel
theorem td_X12_isSign : d_chk mt_X12_isSign = true := by decide +kernel
theorem tm_X12_isSign : m_chk mt_X12_isSign (1614, 127, 1613, 60) = true := by decide +kernel
theorem td_X12_isThing : d_chk mt_X12_isThing = true := by decide +kernel
theorem tm_X12_isThing : m_chk mt_X12_isThing (1626, 127, 1625, 61) = true := by decide +kernel
theorem td_X12_isWord : d_chk mt_X12_isWord = true := by decide +kernel
theorem tm_X12_isWord : m_chk mt_X12_isWord (1548, 127, 1547, 45) = true := by decide +kernel
theorem td_X12_keep : d_chk mt_X12_keep = true := by decide +kernel
theorem tm_X12_keep : m_chk mt_X12_keep (1682, 127, 1681, 71) = true := by decide +kernel
theorem td_X12_leafOf : d_chk mt_X12_leafOf = true := by decide +kernel
theorem tm_X12_leafOf : m_chk mt_X12_leafOf (1983, 127, 1982, 113) = true := by decide +kernel
theorem td_X12_learn : d_chk mt_X12_learn = true := by decide +kernel
theorem tm_X12_learn : m_chk mt_X12_learn (1760, 127, 1758, 1759) = true := by decide +kernel
theorem td_X12_lies : d_chk mt_X12_lies = true := by decide +kernel
theorem tm_X12_lies : m_chk mt_X12_lies (1654, 127, 1652, 1653) = true := by decide +kernel
theorem td_X12_name : d_chk mt_X12_name = true := by decide +kernel
theorem tm_X12_name : m_chk mt_X12_name (1720, 127, 1718, 1719) = true := by decide +kernel
theorem td_X12_news : d_chk mt_X12_news = true := by decide +kernel
theorem tm_X12_news : m_chk mt_X12_news (1883, 127, 1881, 1882) = true := by decide +kernel
theorem td_X12_next : d_chk mt_X12_next = true := by decide +kernel
theorem tm_X12_next : m_chk mt_X12_next (1530, 127, 1529, 42) = true := by decide +kernel
theorem td_X12_now : d_chk mt_X12_now = true := by decide +kernel
theorem tm_X12_now : m_chk mt_X12_now (1666, 127, 1664, 1665) = true := by decide +kernel
theorem td_X12_odds : d_chk mt_X12_odds = true := by decide +kernel
theorem tm_X12_odds : m_chk mt_X12_odds (1927, 127, 1925, 1926) = true := by decide +kernel
theorem td_X12_operand : d_chk mt_X12_operand = true := by decide +kernel
theorem tm_X12_operand : m_chk mt_X12_operand (1979, 127, 1978, 112) = true := by decide +kernel
theorem td_X12_peek : d_chk mt_X12_peek = true := by decide +kernel
theorem tm_X12_peek : m_chk mt_X12_peek (1534, 127, 1533, 43) = true := by decide +kernel
theorem td_X12_person : d_chk mt_X12_person = true := by decide +kernel
theorem tm_X12_person : m_chk mt_X12_person (1642, 127, 1640, 1641) = true := by decide +kernel
theorem td_X12_phrase : d_chk mt_X12_phrase = true := by decide +kernel
theorem tm_X12_phrase : m_chk mt_X12_phrase (1887, 127, 1885, 1886) = true := by decide +kernel
theorem td_X12_point : d_chk mt_X12_point = true := by decide +kernel
theorem tm_X12_point : m_chk mt_X12_point (1740, 127, 1738, 1739) = true := by decide +kernel
theorem td_X12_put : d_chk mt_X12_put = true := by decide +kernel
theorem tm_X12_put : m_chk mt_X12_put (1752, 127, 1750, 1751) = true := by decide +kernel
theorem td_X12_rest : d_chk mt_X12_rest = true := by decide +kernel
theorem tm_X12_rest : m_chk mt_X12_rest (1863, 127, 1861, 1862) = true := by decide +kernel
theorem td_X12_rested : d_chk mt_X12_rested = true := by decide +kernel
theorem tm_X12_rested : m_chk mt_X12_rested (1879, 127, 1877, 1878) = true := by decide +kernel
theorem td_X12_restore : d_chk mt_X12_restore = true := by decide +kernel
theorem tm_X12_restore : m_chk mt_X12_restore (2003, 127, 2001, 2002) = true := by decide +kernel
theorem td_X12_said : d_chk mt_X12_said = true := by decide +kernel
theorem tm_X12_said : m_chk mt_X12_said (1987, 127, 1985, 1986) = true := by decide +kernel
theorem td_X12_say : d_chk mt_X12_say = true := by decide +kernel
theorem tm_X12_say : m_chk mt_X12_say (1795, 127, 1793, 1794) = true := by decide +kernel
theorem td_X12_saying : d_chk mt_X12_saying = true := by decide +kernel
theorem tm_X12_saying : m_chk mt_X12_saying (1799, 127, 1797, 1798) = true := by decide +kernel
theorem td_X12_sentence : d_chk mt_X12_sentence = true := by decide +kernel
theorem tm_X12_sentence : m_chk mt_X12_sentence (1959, 127, 1957, 1958) = true := by decide +kernel
theorem td_X12_show : d_chk mt_X12_show = true := by decide +kernel
theorem tm_X12_show : m_chk mt_X12_show (1851, 127, 1849, 1850) = true := by decide +kernel
theorem td_X12_slip : d_chk mt_X12_slip = true := by decide +kernel
theorem tm_X12_slip : m_chk mt_X12_slip (1811, 127, 1809, 1810) = true := by decide +kernel
theorem td_X12_spoken : d_chk mt_X12_spoken = true := by decide +kernel
theorem tm_X12_spoken : m_chk mt_X12_spoken (1827, 127, 1825, 1826) = true := by decide +kernel
theorem td_X12_surely : d_chk mt_X12_surely = true := by decide +kernel
theorem tm_X12_surely : m_chk mt_X12_surely (1847, 127, 1845, 1846) = true := by decide +kernel
theorem td_X12_taken : d_chk mt_X12_taken = true := by decide +kernel
theorem tm_X12_taken : m_chk mt_X12_taken (1526, 127, 1525, 41) = true := by decide +kernel
theorem td_X12_thing : d_chk mt_X12_thing = true := by decide +kernel
theorem tm_X12_thing : m_chk mt_X12_thing (1622, 127, 1620, 1621) = true := by decide +kernel
theorem td_X12_thrown : d_chk mt_X12_thrown = true := by decide +kernel
theorem tm_X12_thrown : m_chk mt_X12_thrown (1306, 127, 1304, 1305) = true := by decide +kernel
theorem td_X12_throwsIf : d_chk mt_X12_throwsIf = true := by decide +kernel
theorem tm_X12_throwsIf : m_chk mt_X12_throwsIf (1630, 127, 1629, 62) = true := by decide +kernel
theorem td_X12_told : d_chk mt_X12_told = true := by decide +kernel
theorem tm_X12_told : m_chk mt_X12_told (1955, 127, 1953, 1954) = true := by decide +kernel
theorem td_X12_tries : d_chk mt_X12_tries = true := by decide +kernel
theorem tm_X12_tries : m_chk mt_X12_tries (1931, 127, 1930, 103) = true := by decide +kernel
theorem td_X12_twin : d_chk mt_X12_twin = true := by decide +kernel
theorem tm_X12_twin : m_chk mt_X12_twin (1803, 127, 1801, 1802) = true := by decide +kernel
theorem td_X12_undo : d_chk mt_X12_undo = true := by decide +kernel
theorem tm_X12_undo : m_chk mt_X12_undo (1787, 127, 1785, 1786) = true := by decide +kernel
theorem td_X1_has : d_chk mt_X1_has = true := by decide +kernel
theorem tm_X1_has : m_chk mt_X1_has (665, 121, 663, 664) = true := by decide +kernel
theorem td_X1_init_0 : d_chkL cX1_init tc_X1_init_0 = true := by decide +kernel
theorem td_X1_init_1 : d_chkL cX1_init tc_X1_init_1 = true := by decide +kernel
theorem td_X1_init_2 : d_chkL cX1_init tc_X1_init_2 = true := by decide +kernel
theorem td_X1_init : d_chk mt_X1_init = true := d_app td_X1_init_0 (d_app td_X1_init_1 (td_X1_init_2))
theorem tm_X1_init : m_chk mt_X1_init (220, 121, 219, 0) = true := by decide +kernel
theorem td_X1_read : d_chk mt_X1_read = true := by decide +kernel
theorem tm_X1_read : m_chk mt_X1_read (578, 121, 576, 577) = true := by decide +kernel
theorem td_X2_hear : d_chk mt_X2_hear = true := by decide +kernel
theorem tm_X2_hear : m_chk mt_X2_hear (888, 125, 886, 887) = true := by decide +kernel
theorem td_X2_init : d_chk mt_X2_init = true := by decide +kernel
theorem tm_X2_init : m_chk mt_X2_init (381, 125, 380, 0) = true := by decide +kernel
theorem td_X2_isTold : d_chk mt_X2_isTold = true := by decide +kernel
theorem tm_X2_isTold : m_chk mt_X2_isTold (891, 125, 890, 0) = true := by decide +kernel
theorem td_X3_init : d_chk mt_X3_init = true := by decide +kernel
theorem tm_X3_init : m_chk mt_X3_init (399, 126, 398, 0) = true := by decide +kernel
theorem td_X4_clear : d_chk mt_X4_clear = true := by decide +kernel
theorem tm_X4_clear : m_chk mt_X4_clear (649, 122, 647, 648) = true := by decide +kernel
theorem td_X4_init : d_chk mt_X4_init = true := by decide +kernel
theorem tm_X4_init : m_chk mt_X4_init (324, 122, 323, 0) = true := by decide +kernel
theorem td_X4_keep : d_chk mt_X4_keep = true := by decide +kernel
theorem tm_X4_keep : m_chk mt_X4_keep (718, 122, 716, 717) = true := by decide +kernel
theorem td_X4_prepare : d_chk mt_X4_prepare = true := by decide +kernel
theorem tm_X4_prepare : m_chk mt_X4_prepare (696, 122, 694, 695) = true := by decide +kernel
theorem td_X4_slot : d_chk mt_X4_slot = true := by decide +kernel
theorem tm_X4_slot : m_chk mt_X4_slot (700, 122, 699, 13) = true := by decide +kernel
theorem td_X4_takeBack : d_chk mt_X4_takeBack = true := by decide +kernel
theorem tm_X4_takeBack : m_chk mt_X4_takeBack (825, 122, 823, 824) = true := by decide +kernel
theorem td_X6_init : d_chk mt_X6_init = true := by decide +kernel
theorem tm_X6_init : m_chk mt_X6_init (367, 124, 366, 0) = true := by decide +kernel
theorem td_X7_allCarried : d_chk mt_X7_allCarried = true := by decide +kernel
theorem tm_X7_allCarried : m_chk mt_X7_allCarried (685, 120, 683, 684) = true := by decide +kernel
theorem td_X7_allCoins : d_chk mt_X7_allCoins = true := by decide +kernel
theorem tm_X7_allCoins : m_chk mt_X7_allCoins (681, 120, 679, 680) = true := by decide +kernel
theorem td_X7_begin_0 : d_chkL cX7_begin tc_X7_begin_0 = true := by decide +kernel
theorem td_X7_begin_1 : d_chkL cX7_begin tc_X7_begin_1 = true := by decide +kernel
theorem td_X7_begin_2 : d_chkL cX7_begin tc_X7_begin_2 = true := by decide +kernel
theorem td_X7_begin : d_chk mt_X7_begin = true := d_app td_X7_begin_0 (d_app td_X7_begin_1 (td_X7_begin_2))
theorem tm_X7_begin : m_chk mt_X7_begin (642, 120, 640, 641) = true := by decide +kernel
theorem td_X7_copyFrom_0 : d_chkL cX7_copyFrom tc_X7_copyFrom_0 = true := by decide +kernel
theorem td_X7_copyFrom_1 : d_chkL cX7_copyFrom tc_X7_copyFrom_1 = true := by decide +kernel
theorem td_X7_copyFrom_2 : d_chkL cX7_copyFrom tc_X7_copyFrom_2 = true := by decide +kernel
theorem td_X7_copyFrom : d_chk mt_X7_copyFrom = true := d_app td_X7_copyFrom_0 (d_app td_X7_copyFrom_1 (td_X7_copyFrom_2))
theorem tm_X7_copyFrom : m_chk mt_X7_copyFrom (706, 120, 704, 705) = true := by decide +kernel
theorem td_X7_has : d_chk mt_X7_has = true := by decide +kernel
theorem tm_X7_has : m_chk mt_X7_has (661, 120, 659, 660) = true := by decide +kernel
theorem td_X7_init : d_chk mt_X7_init = true := by decide +kernel
theorem tm_X7_init : m_chk mt_X7_init (267, 120, 266, 0) = true := by decide +kernel
theorem td_X7_isFast : d_chk mt_X7_isFast = true := by decide +kernel
theorem tm_X7_isFast : m_chk mt_X7_isFast (677, 120, 675, 676) = true := by decide +kernel
theorem td_X7_passDay : d_chk mt_X7_passDay = true := by decide +kernel
theorem tm_X7_passDay : m_chk mt_X7_passDay (812, 120, 810, 811) = true := by decide +kernel
theorem td_X7_passDays : d_chk mt_X7_passDays = true := by decide +kernel
theorem tm_X7_passDays : m_chk mt_X7_passDays (808, 120, 806, 807) = true := by decide +kernel
theorem td_X8_init : d_chk mt_X8_init = true := by decide +kernel
theorem tm_X8_init : m_chk mt_X8_init (1106, 140, 1105, 0) = true := by decide +kernel
theorem td_X8_readAll : d_chk mt_X8_readAll = true := by decide +kernel
theorem tm_X8_readAll : m_chk mt_X8_readAll (1135, 140, 1134, 32) = true := by decide +kernel
theorem td_X8_readCondition : d_chk mt_X8_readCondition = true := by decide +kernel
theorem tm_X8_readCondition : m_chk mt_X8_readCondition (1131, 140, 1129, 1130) = true := by decide +kernel
theorem td_X8_readOne : d_chk mt_X8_readOne = true := by decide +kernel
theorem tm_X8_readOne : m_chk mt_X8_readOne (1139, 140, 1138, 33) = true := by decide +kernel
theorem td_X9_append : d_chk mt_X9_append = true := by decide +kernel
theorem tm_X9_append : m_chk mt_X9_append (470, 118, 468, 469) = true := by decide +kernel
theorem td_X9_init : d_chk mt_X9_init = true := by decide +kernel
theorem tm_X9_init : m_chk mt_X9_init (153, 118, 152, 0) = true := by decide +kernel
abbrev mZ (M : MT) : Prop := MOK M ∧ TOK OWN M ∧ OWN[mO M]? = some (mY M).cls
theorem tp_0 : ∀ M ∈ [mt_J9_floorMod_7cf53, mt_J9_min_7cf53, mt_X0_init, mt_X0_judge, mt_X0_read, mt_X0_tell, mt_X10_behindBlanks, mt_X10_fail, mt_X10_init, mt_X10_isWord, mt_X10_open, mt_X10_plainWord, mt_X10_step, mt_X10_takeEnd, mt_X11_ask, mt_X11_book, mt_X11_byteAt, mt_X11_cant, mt_X11_canting, mt_X11_city, mt_X11_closeText, mt_X11_count, mt_X11_cover, mt_X11_covering, mt_X11_days], mZ M := all_c (m_chk_ok tm_J9_floorMod_7cf53 td_J9_floorMod_7cf53) (all_c (m_chk_ok tm_J9_min_7cf53 td_J9_min_7cf53) (all_c (m_chk_ok tm_X0_init td_X0_init) (all_c (m_chk_ok tm_X0_judge td_X0_judge) (all_c (m_chk_ok tm_X0_read td_X0_read) (all_c (m_chk_ok tm_X0_tell td_X0_tell) (all_c (m_chk_ok tm_X10_behindBlanks td_X10_behindBlanks) (all_c (m_chk_ok tm_X10_fail td_X10_fail) (all_c (m_chk_ok tm_X10_init td_X10_init) (all_c (m_chk_ok tm_X10_isWord td_X10_isWord) (all_c (m_chk_ok tm_X10_open td_X10_open) (all_c (m_chk_ok tm_X10_plainWord td_X10_plainWord) (all_c (m_chk_ok tm_X10_step td_X10_step) (all_c (m_chk_ok tm_X10_takeEnd td_X10_takeEnd) (all_c (m_chk_ok tm_X11_ask td_X11_ask) (all_c (m_chk_ok tm_X11_book td_X11_book) (all_c (m_chk_ok tm_X11_byteAt td_X11_byteAt) (all_c (m_chk_ok tm_X11_cant td_X11_cant) (all_c (m_chk_ok tm_X11_canting td_X11_canting) (all_c (m_chk_ok tm_X11_city td_X11_city) (all_c (m_chk_ok tm_X11_closeText td_X11_closeText) (all_c (m_chk_ok tm_X11_count td_X11_count) (all_c (m_chk_ok tm_X11_cover td_X11_cover) (all_c (m_chk_ok tm_X11_covering td_X11_covering) (all_c (m_chk_ok tm_X11_days td_X11_days) (all_0)))))))))))))))))))))))))
theorem tp_1 : ∀ M ∈ [mt_X11_drawn, mt_X11_end, mt_X11_fault, mt_X11_feed, mt_X11_fits, mt_X11_go, mt_X11_image, mt_X11_init, mt_X11_keptDays, mt_X11_learn, mt_X11_lies, mt_X11_name, mt_X11_news, mt_X11_now, mt_X11_odds, mt_X11_phrase, mt_X11_point, mt_X11_put, mt_X11_rest, mt_X11_rested, mt_X11_restore, mt_X11_said, mt_X11_say, mt_X11_saying, mt_X11_sentence], mZ M := all_c (m_chk_ok tm_X11_drawn td_X11_drawn) (all_c (m_chk_ok tm_X11_end td_X11_end) (all_c (m_chk_ok tm_X11_fault td_X11_fault) (all_c (m_chk_ok tm_X11_feed td_X11_feed) (all_c (m_chk_ok tm_X11_fits td_X11_fits) (all_c (m_chk_ok tm_X11_go td_X11_go) (all_c (m_chk_ok tm_X11_image td_X11_image) (all_c (m_chk_ok tm_X11_init td_X11_init) (all_c (m_chk_ok tm_X11_keptDays td_X11_keptDays) (all_c (m_chk_ok tm_X11_learn td_X11_learn) (all_c (m_chk_ok tm_X11_lies td_X11_lies) (all_c (m_chk_ok tm_X11_name td_X11_name) (all_c (m_chk_ok tm_X11_news td_X11_news) (all_c (m_chk_ok tm_X11_now td_X11_now) (all_c (m_chk_ok tm_X11_odds td_X11_odds) (all_c (m_chk_ok tm_X11_phrase td_X11_phrase) (all_c (m_chk_ok tm_X11_point td_X11_point) (all_c (m_chk_ok tm_X11_put td_X11_put) (all_c (m_chk_ok tm_X11_rest td_X11_rest) (all_c (m_chk_ok tm_X11_rested td_X11_rested) (all_c (m_chk_ok tm_X11_restore td_X11_restore) (all_c (m_chk_ok tm_X11_said td_X11_said) (all_c (m_chk_ok tm_X11_say td_X11_say) (all_c (m_chk_ok tm_X11_saying td_X11_saying) (all_c (m_chk_ok tm_X11_sentence td_X11_sentence) (all_0)))))))))))))))))))))))))
theorem tp_2 : ∀ M ∈ [mt_X11_show, mt_X11_spoken, mt_X11_surely, mt_X11_told, mt_X11_twin, mt_X11_undo, mt_X12_ask, mt_X12_back, mt_X12_bad, mt_X12_book, mt_X12_byteAt, mt_X12_cant, mt_X12_canting, mt_X12_carriedSet, mt_X12_city, mt_X12_clears, mt_X12_count, mt_X12_cover, mt_X12_covering, mt_X12_day, mt_X12_days, mt_X12_drawn, mt_X12_end, mt_X12_fault, mt_X12_feed], mZ M := all_c (m_chk_ok tm_X11_show td_X11_show) (all_c (m_chk_ok tm_X11_spoken td_X11_spoken) (all_c (m_chk_ok tm_X11_surely td_X11_surely) (all_c (m_chk_ok tm_X11_told td_X11_told) (all_c (m_chk_ok tm_X11_twin td_X11_twin) (all_c (m_chk_ok tm_X11_undo td_X11_undo) (all_c (m_chk_ok tm_X12_ask td_X12_ask) (all_c (m_chk_ok tm_X12_back td_X12_back) (all_c (m_chk_ok tm_X12_bad td_X12_bad) (all_c (m_chk_ok tm_X12_book td_X12_book) (all_c (m_chk_ok tm_X12_byteAt td_X12_byteAt) (all_c (m_chk_ok tm_X12_cant td_X12_cant) (all_c (m_chk_ok tm_X12_canting td_X12_canting) (all_c (m_chk_ok tm_X12_carriedSet td_X12_carriedSet) (all_c (m_chk_ok tm_X12_city td_X12_city) (all_c (m_chk_ok tm_X12_clears td_X12_clears) (all_c (m_chk_ok tm_X12_count td_X12_count) (all_c (m_chk_ok tm_X12_cover td_X12_cover) (all_c (m_chk_ok tm_X12_covering td_X12_covering) (all_c (m_chk_ok tm_X12_day td_X12_day) (all_c (m_chk_ok tm_X12_days td_X12_days) (all_c (m_chk_ok tm_X12_drawn td_X12_drawn) (all_c (m_chk_ok tm_X12_end td_X12_end) (all_c (m_chk_ok tm_X12_fault td_X12_fault) (all_c (m_chk_ok tm_X12_feed td_X12_feed) (all_0)))))))))))))))))))))))))
theorem tp_3 : ∀ M ∈ [mt_X12_fits, mt_X12_four, mt_X12_go, mt_X12_goesOn, mt_X12_image, mt_X12_init, mt_X12_isFast, mt_X12_isIn, mt_X12_isPerson, mt_X12_isPlace, mt_X12_isSign, mt_X12_isThing, mt_X12_isWord, mt_X12_keep, mt_X12_leafOf, mt_X12_learn, mt_X12_lies, mt_X12_name, mt_X12_news, mt_X12_next, mt_X12_now, mt_X12_odds, mt_X12_operand, mt_X12_peek, mt_X12_person], mZ M := all_c (m_chk_ok tm_X12_fits td_X12_fits) (all_c (m_chk_ok tm_X12_four td_X12_four) (all_c (m_chk_ok tm_X12_go td_X12_go) (all_c (m_chk_ok tm_X12_goesOn td_X12_goesOn) (all_c (m_chk_ok tm_X12_image td_X12_image) (all_c (m_chk_ok tm_X12_init td_X12_init) (all_c (m_chk_ok tm_X12_isFast td_X12_isFast) (all_c (m_chk_ok tm_X12_isIn td_X12_isIn) (all_c (m_chk_ok tm_X12_isPerson td_X12_isPerson) (all_c (m_chk_ok tm_X12_isPlace td_X12_isPlace) (all_c (m_chk_ok tm_X12_isSign td_X12_isSign) (all_c (m_chk_ok tm_X12_isThing td_X12_isThing) (all_c (m_chk_ok tm_X12_isWord td_X12_isWord) (all_c (m_chk_ok tm_X12_keep td_X12_keep) (all_c (m_chk_ok tm_X12_leafOf td_X12_leafOf) (all_c (m_chk_ok tm_X12_learn td_X12_learn) (all_c (m_chk_ok tm_X12_lies td_X12_lies) (all_c (m_chk_ok tm_X12_name td_X12_name) (all_c (m_chk_ok tm_X12_news td_X12_news) (all_c (m_chk_ok tm_X12_next td_X12_next) (all_c (m_chk_ok tm_X12_now td_X12_now) (all_c (m_chk_ok tm_X12_odds td_X12_odds) (all_c (m_chk_ok tm_X12_operand td_X12_operand) (all_c (m_chk_ok tm_X12_peek td_X12_peek) (all_c (m_chk_ok tm_X12_person td_X12_person) (all_0)))))))))))))))))))))))))
theorem tp_4 : ∀ M ∈ [mt_X12_phrase, mt_X12_point, mt_X12_put, mt_X12_rest, mt_X12_rested, mt_X12_restore, mt_X12_said, mt_X12_say, mt_X12_saying, mt_X12_sentence, mt_X12_show, mt_X12_slip, mt_X12_spoken, mt_X12_surely, mt_X12_taken, mt_X12_thing, mt_X12_thrown, mt_X12_throwsIf, mt_X12_told, mt_X12_tries, mt_X12_twin, mt_X12_undo, mt_X1_has, mt_X1_init, mt_X1_read], mZ M := all_c (m_chk_ok tm_X12_phrase td_X12_phrase) (all_c (m_chk_ok tm_X12_point td_X12_point) (all_c (m_chk_ok tm_X12_put td_X12_put) (all_c (m_chk_ok tm_X12_rest td_X12_rest) (all_c (m_chk_ok tm_X12_rested td_X12_rested) (all_c (m_chk_ok tm_X12_restore td_X12_restore) (all_c (m_chk_ok tm_X12_said td_X12_said) (all_c (m_chk_ok tm_X12_say td_X12_say) (all_c (m_chk_ok tm_X12_saying td_X12_saying) (all_c (m_chk_ok tm_X12_sentence td_X12_sentence) (all_c (m_chk_ok tm_X12_show td_X12_show) (all_c (m_chk_ok tm_X12_slip td_X12_slip) (all_c (m_chk_ok tm_X12_spoken td_X12_spoken) (all_c (m_chk_ok tm_X12_surely td_X12_surely) (all_c (m_chk_ok tm_X12_taken td_X12_taken) (all_c (m_chk_ok tm_X12_thing td_X12_thing) (all_c (m_chk_ok tm_X12_thrown td_X12_thrown) (all_c (m_chk_ok tm_X12_throwsIf td_X12_throwsIf) (all_c (m_chk_ok tm_X12_told td_X12_told) (all_c (m_chk_ok tm_X12_tries td_X12_tries) (all_c (m_chk_ok tm_X12_twin td_X12_twin) (all_c (m_chk_ok tm_X12_undo td_X12_undo) (all_c (m_chk_ok tm_X1_has td_X1_has) (all_c (m_chk_ok tm_X1_init td_X1_init) (all_c (m_chk_ok tm_X1_read td_X1_read) (all_0)))))))))))))))))))))))))
theorem tp_5 : ∀ M ∈ [mt_X2_hear, mt_X2_init, mt_X2_isTold, mt_X3_init, mt_X4_clear, mt_X4_init, mt_X4_keep, mt_X4_prepare, mt_X4_slot, mt_X4_takeBack, mt_X6_init, mt_X7_allCarried, mt_X7_allCoins, mt_X7_begin, mt_X7_copyFrom, mt_X7_has, mt_X7_init, mt_X7_isFast, mt_X7_passDay, mt_X7_passDays, mt_X8_init, mt_X8_readAll, mt_X8_readCondition, mt_X8_readOne, mt_X9_append], mZ M := all_c (m_chk_ok tm_X2_hear td_X2_hear) (all_c (m_chk_ok tm_X2_init td_X2_init) (all_c (m_chk_ok tm_X2_isTold td_X2_isTold) (all_c (m_chk_ok tm_X3_init td_X3_init) (all_c (m_chk_ok tm_X4_clear td_X4_clear) (all_c (m_chk_ok tm_X4_init td_X4_init) (all_c (m_chk_ok tm_X4_keep td_X4_keep) (all_c (m_chk_ok tm_X4_prepare td_X4_prepare) (all_c (m_chk_ok tm_X4_slot td_X4_slot) (all_c (m_chk_ok tm_X4_takeBack td_X4_takeBack) (all_c (m_chk_ok tm_X6_init td_X6_init) (all_c (m_chk_ok tm_X7_allCarried td_X7_allCarried) (all_c (m_chk_ok tm_X7_allCoins td_X7_allCoins) (all_c (m_chk_ok tm_X7_begin td_X7_begin) (all_c (m_chk_ok tm_X7_copyFrom td_X7_copyFrom) (all_c (m_chk_ok tm_X7_has td_X7_has) (all_c (m_chk_ok tm_X7_init td_X7_init) (all_c (m_chk_ok tm_X7_isFast td_X7_isFast) (all_c (m_chk_ok tm_X7_passDay td_X7_passDay) (all_c (m_chk_ok tm_X7_passDays td_X7_passDays) (all_c (m_chk_ok tm_X8_init td_X8_init) (all_c (m_chk_ok tm_X8_readAll td_X8_readAll) (all_c (m_chk_ok tm_X8_readCondition td_X8_readCondition) (all_c (m_chk_ok tm_X8_readOne td_X8_readOne) (all_c (m_chk_ok tm_X9_append td_X9_append) (all_0)))))))))))))))))))))))))
theorem tp_6 : ∀ M ∈ [mt_X9_init], mZ M := all_c (m_chk_ok tm_X9_init td_X9_init) (all_0)
theorem prg_ok : ∀ M ∈ PRG, mZ M := by
  intro M h
  have h : M ∈ ([mt_J9_floorMod_7cf53, mt_J9_min_7cf53, mt_X0_init, mt_X0_judge, mt_X0_read, mt_X0_tell, mt_X10_behindBlanks, mt_X10_fail, mt_X10_init, mt_X10_isWord, mt_X10_open, mt_X10_plainWord, mt_X10_step, mt_X10_takeEnd, mt_X11_ask, mt_X11_book, mt_X11_byteAt, mt_X11_cant, mt_X11_canting, mt_X11_city, mt_X11_closeText, mt_X11_count, mt_X11_cover, mt_X11_covering, mt_X11_days] ++ [mt_X11_drawn, mt_X11_end, mt_X11_fault, mt_X11_feed, mt_X11_fits, mt_X11_go, mt_X11_image, mt_X11_init, mt_X11_keptDays, mt_X11_learn, mt_X11_lies, mt_X11_name, mt_X11_news, mt_X11_now, mt_X11_odds, mt_X11_phrase, mt_X11_point, mt_X11_put, mt_X11_rest, mt_X11_rested, mt_X11_restore, mt_X11_said, mt_X11_say, mt_X11_saying, mt_X11_sentence] ++ [mt_X11_show, mt_X11_spoken, mt_X11_surely, mt_X11_told, mt_X11_twin, mt_X11_undo, mt_X12_ask, mt_X12_back, mt_X12_bad, mt_X12_book, mt_X12_byteAt, mt_X12_cant, mt_X12_canting, mt_X12_carriedSet, mt_X12_city, mt_X12_clears, mt_X12_count, mt_X12_cover, mt_X12_covering, mt_X12_day, mt_X12_days, mt_X12_drawn, mt_X12_end, mt_X12_fault, mt_X12_feed] ++ [mt_X12_fits, mt_X12_four, mt_X12_go, mt_X12_goesOn, mt_X12_image, mt_X12_init, mt_X12_isFast, mt_X12_isIn, mt_X12_isPerson, mt_X12_isPlace, mt_X12_isSign, mt_X12_isThing, mt_X12_isWord, mt_X12_keep, mt_X12_leafOf, mt_X12_learn, mt_X12_lies, mt_X12_name, mt_X12_news, mt_X12_next, mt_X12_now, mt_X12_odds, mt_X12_operand, mt_X12_peek, mt_X12_person] ++ [mt_X12_phrase, mt_X12_point, mt_X12_put, mt_X12_rest, mt_X12_rested, mt_X12_restore, mt_X12_said, mt_X12_say, mt_X12_saying, mt_X12_sentence, mt_X12_show, mt_X12_slip, mt_X12_spoken, mt_X12_surely, mt_X12_taken, mt_X12_thing, mt_X12_thrown, mt_X12_throwsIf, mt_X12_told, mt_X12_tries, mt_X12_twin, mt_X12_undo, mt_X1_has, mt_X1_init, mt_X1_read] ++ [mt_X2_hear, mt_X2_init, mt_X2_isTold, mt_X3_init, mt_X4_clear, mt_X4_init, mt_X4_keep, mt_X4_prepare, mt_X4_slot, mt_X4_takeBack, mt_X6_init, mt_X7_allCarried, mt_X7_allCoins, mt_X7_begin, mt_X7_copyFrom, mt_X7_has, mt_X7_init, mt_X7_isFast, mt_X7_passDay, mt_X7_passDays, mt_X8_init, mt_X8_readAll, mt_X8_readCondition, mt_X8_readOne, mt_X9_append] ++ [mt_X9_init]) := h
  simp only [List.mem_append] at h
  rcases h with ((((((h | h) | h) | h) | h) | h) | h)
  · exact tp_0 M h
  · exact tp_1 M h
  · exact tp_2 M h
  · exact tp_3 M h
  · exact tp_4 M h
  · exact tp_5 M h
  · exact tp_6 M h
theorem tr_0 : r_all "NounFast" rt_0 [([146], ""), ([149, 150, 118], ""), ([151], "NounFast"), ([408], ""), ([166, 167, 119], ""), ([168], ""), ([409], ""), ([214, 215, 120], ""), ([216, 217, 121], ""), ([218], "NounFast"), ([265], ""), ([410], ""), ([269], ""), ([411], ""), ([320, 321, 122], ""), ([322], "NounFast"), ([412], ""), ([338, 339, 123], ""), ([340], "NounFast"), ([413], ""), ([363, 364, 124], ""), ([365], "NounFast"), ([414], ""), ([377, 378, 125], ""), ([379], "NounFast"), ([415], ""), ([395, 396, 126], ""), ([397], "NounFast"), ([416], ""), ([417], ""), ([406, 1103, 140], ""), ([418], ""), ([419], ""), ([420], ""), ([421], ""), ([422], ""), ([423], ""), ([424], ""), ([425], ""), ([157], ""), ([467], ""), ([479], ""), ([575], ""), ([635], ""), ([186], ""), ([188], ""), ([639], ""), ([646], ""), ([658], ""), ([294], ""), ([674], ""), ([678], ""), ([682], ""), ([296], ""), ([298], ""), ([228], ""), ([686], ""), ([693], ""), ([805], ""), ([814], ""), ([822], ""), ([885], ""), ([385], ""), ([387], ""), ([370], ""), ([1038], ""), ([1043], ""), ([1068], ""), ([715], ""), ([1095], ""), ([1104], "NounFast"), ([1128], ""), ([1159], ""), ([214], ""), ([406], "")] = true := by decide +kernel
theorem tr_1 : r_all "NounFast$Book" rt_1 [([343], ""), ([344], ""), ([345], ""), ([346], ""), ([347], ""), ([348], ""), ([349], ""), ([179], ""), ([293], ""), ([1090], "")] = true := by decide +kernel
theorem tr_2 : r_all "NounFast$City" rt_2 [([221], ""), ([222], ""), ([229], ""), ([230], ""), ([236], ""), ([238], ""), ([240], ""), ([242], ""), ([244], ""), ([245], ""), ([181], "")] = true := by decide +kernel
theorem tr_3 : r_all "NounFast$Clue" rt_3 [([382], ""), ([383], ""), ([384], ""), ([386], ""), ([889], ""), ([159], "")] = true := by decide +kernel
theorem tr_4 : r_all "NounFast$Dice" rt_4 [([400], ""), ([401], "")] = true := by decide +kernel
theorem tr_5 : r_all "NounFast$History" rt_5 [([325], ""), ([326, 215, 120], ""), ([328], ""), ([329], ""), ([330], ""), ([701], ""), ([697], ""), ([275], ""), ([702], ""), ([703], ""), ([326], "")] = true := by decide +kernel
theorem tr_6 : r_all "NounFast$Minds" rt_6 [] = true := by decide +kernel
theorem tr_7 : r_all "NounFast$Rest" rt_7 [([368], ""), ([369], ""), ([371], "")] = true := by decide +kernel
theorem tr_8 : r_all "NounFast$Scene" rt_8 [([268], ""), ([277], ""), ([278], ""), ([281], ""), ([284], ""), ([286], ""), ([288], ""), ([292], ""), ([295], ""), ([297], ""), ([270], ""), ([237], ""), ([643], ""), ([239], ""), ([241], ""), ([243], ""), ([662], ""), ([225], ""), ([769], ""), ([809], "")] = true := by decide +kernel
theorem tr_9 : r_all "NounFast$Sentence" rt_9 [([1107], ""), ([1108], ""), ([1109], ""), ([1110], ""), ([1111], ""), ([1112], ""), ([1113], ""), ([1132], ""), ([1158], ""), ([1136], ""), ([1140], ""), ([180], ""), ([1141], "")] = true := by decide +kernel
theorem tr_10 : r_all "NounFast$Tape" rt_10 [([154], ""), ([155], ""), ([156], "")] = true := by decide +kernel
theorem tr_11 : r_all "NounFast$Text" rt_11 [([171], ""), ([173], ""), ([174], ""), ([175], ""), ([176], ""), ([177], ""), ([178], ""), ([182], ""), ([183], ""), ([185], ""), ([187], ""), ([172], ""), ([483], ""), ([158], ""), ([491], ""), ([571], "")] = true := by decide +kernel
theorem tr_12 : r_all "NounFastLaw" rt_12 [([141, 142, 117], ""), ([143], ""), ([1320, 1314, 127], ""), ([1321], ""), ([463], ""), ([1307], ""), ([471], ""), ([1316], ""), ([475], ""), ([1519], ""), ([650], ""), ([1615], ""), ([1619], ""), ([1303], ""), ([1639], ""), ([654], ""), ([1651], ""), ([670], ""), ([1663], ""), ([689], ""), ([1675], ""), ([719], ""), ([1683], ""), ([757], ""), ([1717], ""), ([774], ""), ([1737], ""), ([782], ""), ([1749], ""), ([790], ""), ([1757], ""), ([801], ""), ([1769], ""), ([818], ""), ([1784], ""), ([826], ""), ([1788], ""), ([831], ""), ([1792], ""), ([853], ""), ([1796], ""), ([857], ""), ([1800], ""), ([1808], ""), ([866], ""), ([1812], ""), ([877], ""), ([1820], ""), ([881], ""), ([1824], ""), ([909], ""), ([1844], ""), ([913], ""), ([1848], ""), ([917], ""), ([1852], ""), ([924], ""), ([1856], ""), ([928], ""), ([1860], ""), ([957], ""), ([1876], ""), ([961], ""), ([1880], ""), ([974], ""), ([1884], ""), ([995], ""), ([1903], ""), ([999], ""), ([1907], ""), ([1034], ""), ([1924], ""), ([1039], ""), ([1936], ""), ([1091], ""), ([1952], ""), ([1099], ""), ([1956], ""), ([1163], ""), ([1984], ""), ([1190], ""), ([1996], ""), ([1194], ""), ([2000], ""), ([1198], ""), ([2004], "")] = true := by decide +kernel
theorem tr_13 : r_all "NounFastModel" rt_13 [([1358], ""), ([1360], ""), ([1311], ""), ([1359], ""), ([1361], ""), ([1362], ""), ([1363], ""), ([1324], ""), ([1364], ""), ([1365], ""), ([1366], ""), ([1367], ""), ([1368], ""), ([1379], ""), ([1380], ""), ([1391], ""), ([1392], ""), ([1393], ""), ([1395], ""), ([1399], ""), ([1401], ""), ([1407], ""), ([1408], ""), ([1409], ""), ([1410], ""), ([1325], ""), ([1326], ""), ([1327], ""), ([1328], ""), ([1329], ""), ([1330], ""), ([1331], ""), ([1332], ""), ([1333], ""), ([1334], ""), ([1335], ""), ([1336], ""), ([1337], ""), ([1338], ""), ([1339], ""), ([1340], ""), ([1341], ""), ([1342], ""), ([1343], ""), ([1344], ""), ([1345], ""), ([1346], ""), ([1347], ""), ([1348], ""), ([1349], ""), ([1350], ""), ([1351], ""), ([1352], ""), ([1353], ""), ([1354], ""), ([1531], ""), ([1370], ""), ([1371], ""), ([1369], ""), ([1373], ""), ([1374], ""), ([1611], ""), ([1553], ""), ([1527], ""), ([1600], ""), ([1378], ""), ([1545], ""), ([1523], ""), ([1377], ""), ([1381], ""), ([1623], ""), ([1627], ""), ([1643], ""), ([1655], ""), ([1667], ""), ([1671], ""), ([1777], ""), ([1679], ""), ([1773], ""), ([1385], ""), ([1386], ""), ([1390], ""), ([1387], ""), ([1394], ""), ([1396], ""), ([1928], ""), ([1932], ""), ([1398], ""), ([1400], ""), ([1402], ""), ([1404], ""), ([1405], ""), ([1980], ""), ([1403], ""), ([1406], ""), ([1976], "")] = true := by decide +kernel
theorem tr_14 : r_all "java/io/Serializable" rt_14 [] = true := by decide +kernel
theorem tr_15 : r_all "java/lang/CharSequence" rt_15 [] = true := by decide +kernel
theorem tr_16 : r_all "java/lang/Comparable" rt_16 [] = true := by decide +kernel
theorem tr_17 : r_all "java/lang/Integer" rt_17 [] = true := by decide +kernel
theorem tr_18 : r_all "java/lang/Math" rt_18 [] = true := by decide +kernel
theorem tr_19 : r_all "java/lang/String" rt_19 [] = true := by decide +kernel
theorem tr_20 : r_all "java/lang/StringLatin1" rt_20 [] = true := by decide +kernel
theorem tr_21 : r_all "java/lang/StringUTF16" rt_21 [] = true := by decide +kernel
theorem tr_22 : r_all "java/lang/System" rt_22 [] = true := by decide +kernel
theorem tr_23 : r_all "java/lang/constant/Constable" rt_23 [] = true := by decide +kernel
theorem tr_24 : r_all "java/lang/constant/ConstantDesc" rt_24 [] = true := by decide +kernel
theorem tr_25 : r_all "jdk/internal/util/Preconditions" rt_25 [] = true := by decide +kernel
theorem pok : POK PRG RTB OWN := by
  refine ⟨fun j M h => prg_ok M (List.mem_of_getElem? h), fun o own L h1 h2 => ?_, ?_⟩
  · match o, h1, h2 with
    | 0, h1, h2 => cases h1; cases h2; exact r_all_ok tr_0
    | 1, h1, h2 => cases h1; cases h2; exact r_all_ok tr_1
    | 2, h1, h2 => cases h1; cases h2; exact r_all_ok tr_2
    | 3, h1, h2 => cases h1; cases h2; exact r_all_ok tr_3
    | 4, h1, h2 => cases h1; cases h2; exact r_all_ok tr_4
    | 5, h1, h2 => cases h1; cases h2; exact r_all_ok tr_5
    | 6, h1, h2 => cases h1; cases h2; exact r_all_ok tr_6
    | 7, h1, h2 => cases h1; cases h2; exact r_all_ok tr_7
    | 8, h1, h2 => cases h1; cases h2; exact r_all_ok tr_8
    | 9, h1, h2 => cases h1; cases h2; exact r_all_ok tr_9
    | 10, h1, h2 => cases h1; cases h2; exact r_all_ok tr_10
    | 11, h1, h2 => cases h1; cases h2; exact r_all_ok tr_11
    | 12, h1, h2 => cases h1; cases h2; exact r_all_ok tr_12
    | 13, h1, h2 => cases h1; cases h2; exact r_all_ok tr_13
    | 14, h1, h2 => cases h1; cases h2; exact r_all_ok tr_14
    | 15, h1, h2 => cases h1; cases h2; exact r_all_ok tr_15
    | 16, h1, h2 => cases h1; cases h2; exact r_all_ok tr_16
    | 17, h1, h2 => cases h1; cases h2; exact r_all_ok tr_17
    | 18, h1, h2 => cases h1; cases h2; exact r_all_ok tr_18
    | 19, h1, h2 => cases h1; cases h2; exact r_all_ok tr_19
    | 20, h1, h2 => cases h1; cases h2; exact r_all_ok tr_20
    | 21, h1, h2 => cases h1; cases h2; exact r_all_ok tr_21
    | 22, h1, h2 => cases h1; cases h2; exact r_all_ok tr_22
    | 23, h1, h2 => cases h1; cases h2; exact r_all_ok tr_23
    | 24, h1, h2 => cases h1; cases h2; exact r_all_ok tr_24
    | 25, h1, h2 => cases h1; cases h2; exact r_all_ok tr_25
    | n + 26, h1, h2 => simp [OWN] at h1
  · refine ⟨h_at_ok (pos := 147) (by decide +kernel), h_at_ok (pos := 148) (by decide +kernel), h_at_ok (pos := 645) (by decide +kernel), h_at_ok (pos := 644) (by decide +kernel), h_at_ok (pos := 133) (by decide +kernel), fun a t h => ?_⟩
    cases a <;> simp [e_atype] at h
    · exact h_at_ok (pos := 1518) (by decide +kernel)
    · exact h_at_ok (pos := 165) (by decide +kernel)
    · exact h_at_ok (pos := 212) (by decide +kernel)
    · exact h_at_ok (pos := 213) (by decide +kernel)
end
section
section VXX
variable {p : Program} {l : Launch} {e : Env} {R : Room} {s : State} {m₀ : MethodId} {args : Array Value} {below : List Frame} {meth : Method} {c : Code} {W : State} {locs : List Loc} {cells slots : Nat}
set_option maxHeartbeats 2000000 in
theorem vx_ctorX (X : Stand p l e R s m₀ args below meth c W locs cells slots) (hexec : p.tables.exec = Jvm.exec) (htr : e.platform.stackTraces = false) {own cls : String} {names : List String} {ic ix : Nat} {rx : ByteArray}
    (x0 : decode rx 0 = .ok (.aload_n 0, 1)) (x1 : decode rx 1 = .ok (.aload_n 1, 1)) (x2 : decode rx 2 = .ok (.invokespecial ix, 3)) (x5 : decode rx 5 = .ok (.return_, 1))
    (hown : s.vm.findClass own = some m₀.cls) (hcls : Bundle.fit cls = true) (hnames : ∀ n ∈ names, Bundle.fit n = true) (h : ∀ a ∈ Bundle.ownAtomsX own ic cls ix rx names, a.before args s = true)
    (hlocs : ∀ x ∈ locs, ∀ cell, s.heap[x.base]? = some cell → cell.vm.isStatics = false)
    {a : Addr} {cX : ClassId} {kX : Class} (hfoundX : s.vm.findClass cls = some cX) (hkX : s.vm.classes[cX]? = some kX) (hcell : W.heap[a]? = some (freshCell cX kX)) (hnew : s.heap.size ≤ a) {msg : Value} (hmsg : msg.isRef = true)
    {g : JFrame} (hg : g.method = m₀) (hsize : g.locals.size = c.maxLocals) (hlocked : g.locked = none) (hentered : g.entered = []) {rest : List Value} (hstack : g.stack = msg :: .ref a :: .ref a :: rest)
    (hd6 : decode c.code g.pc = .ok (.invokespecial ic, 3)) (hd9 : decode c.code (g.pc + 3) = .ok (.athrow, 1)) (hout : ∀ x ∈ c.exceptionTable.toList, covers x (g.pc + 3) = false)
    (hRframes : names.length + 3 < R.frames) (hRlocals : 2 * g.monitorRoom + ((Value.ref a :: rest).map fun v => v.category).sum + (13 * (names.length + 1) + 42) ≤ R.locals) (hlocks : meth.locks = false) :
    ∃ U : State, Steps p.tables e below (W.setTop g) U ∧ U.status = .running ∧ Ended U below (.threw a) ∧ s.WarmedH U.vm ∧ s.sameButNew ({ U with vm := s.vm } : State) locs cells slots ∧ ∃ ce, U.heap[a]? = some ce ∧ s.vm.findClass cls = some ce.cls ∧ ce.vm = .none := by
  have howns : e.platform.frameOwnsMonitors = true := by rw [X.admits.platform]
  have hfin : e.platform.finalization = false := by rw [X.admits.platform]
  have hpl : e.platform.magicAccessors = ({} : Platform).magicAccessors := by rw [X.admits.platform]
  have a' : ∀ x, x ∈ Bundle.ownAtomsX own ic cls ix rx names → x.holds args s none s [] = true := fun x hx => h x hx
  obtain ⟨T, Z0, L, -, Y⟩ := ThrowableC.of_atoms (args := args) howns hfin hpl (fun x hx => h x (by simp [Bundle.ownAtomsX, hx]))
  obtain ⟨Z, M, LZ, LM, hnZ⟩ := Init0T.ofS_atoms (args := args) hpl L Y (fun x hx => h x (by simp [Bundle.ownAtomsX, hx]))
  obtain ⟨P1, Ps, hlen, L1, hL, hP1m, hlink1, hlink⟩ := Bundle.chainSX (args := args) hpl hnZ x0 x1 x2 x5 names cls hcls hnames (fun x hx => h x (by simp [Bundle.ownAtomsX, hx]))
  have hfound : s.vm.findClass cls = some P1.m.cls := findClass_of_methodNamed hP1m
  cases Option.some.inj (hfoundX.symm.trans hfound)
  obtain ⟨c1, kX', hc1, hk, hord, -, -, hn6⟩ := Cond.instantiable_spec (a' (.instantiable cls 6) (by simp [Bundle.ownAtomsX]))
  cases Option.some.inj (hc1.symm.trans hfound)
  cases Option.some.inj (hkX.symm.trans hk)
  have hsel0 : selectMethod e.platform s.vm P1.m.cls T.fill0 = .method T.fill0 := by
    obtain ⟨c2, r2, m2, q1, q2, q3, q4, -⟩ := Cond.selects_spec (a' (.selects cls Bundle.tFill0 Bundle.tFill0) (by simp [Bundle.ownAtomsX]))
    cases Option.some.inj (q1.symm.trans hfound)
    cases Option.some.inj (q2.symm.trans (State.methodFound?_of_named Y.fill0 (by decide)))
    cases Option.some.inj (q3.symm.trans Y.fill0)
    rw [Launch.admits_selectMethod X.admits]; exact q4
  have hselF : selectMethod e.platform s.vm P1.m.cls T.fill = .method T.fill := by
    obtain ⟨c2, r2, m2, q1, q2, q3, q4, -⟩ := Cond.selects_spec (a' (.selects cls Bundle.tFill Bundle.tFill) (by simp [Bundle.ownAtomsX]))
    cases Option.some.inj (q1.symm.trans hfound)
    cases Option.some.inj (q2.symm.trans (State.methodFound?_of_named Y.fill (by decide)))
    cases Option.some.inj (q3.symm.trans Y.fill)
    rw [Launch.admits_selectMethod X.admits]; exact q4
  obtain ⟨cellS0, hcS0, hiss⟩ := Y.statics
  obtain ⟨u0, hu0⟩ := Cond.staticRefV Y.unassigned L.unassignedStatic L.statics hcS0 hiss (a' (.isRef (.static Bundle.tN "UNASSIGNED_STACK" Bundle.steD)) (by simp [Bundle.ownAtomsX]))
  obtain ⟨sen, hsen⟩ := Cond.staticRefV Y.sentinel L.sentinelStatic L.statics hcS0 hiss (a' (.isRef (.static Bundle.tN "SUPPRESSED_SENTINEL" Bundle.listD)) (by simp [Bundle.ownAtomsX]))
  obtain ⟨ci198, i198, fB, hk198, hg198, ha198, hsB, -, hnB, htB, hffB⟩ := Cond.ownField (t := .object "java/lang/Object") Y.found L.cls (by decide +kernel) (a' (.fieldLink Bundle.tN 198 Bundle.tN "backtrace" "Ljava/lang/Object;") (by simp [Bundle.ownAtomsX])) (a' (.lays Bundle.tN Bundle.tN "backtrace" "Ljava/lang/Object;") (by simp [Bundle.ownAtomsX])) e.platform hpl
  obtain ⟨cellS, hcS', heS, -, hkeep⟩ := X.same.2.2.2.2.2 T.aS cellS0 hcS0
  have hcellS : W.heap[T.aS]? = some cellS := hcS'
  have hout' : ∀ i, (⟨T.aS, i⟩ : Loc) ∉ locs := fun i hmem => by
    have := hlocs _ hmem cellS0 hcS0
    rw [hiss] at this; cases this
  have hknownS : cellS.vm ≠ .unknown := by
    rw [heS]; intro hu
    rw [show cellS0.vm = .unknown from hu] at hiss
    cases hiss
  have hneS : T.aS ≠ a := Nat.ne_of_lt (Nat.lt_of_lt_of_le (Array.getElem?_eq_some_iff.mp hcS0).1 hnew)
  obtain ⟨iM, hffM⟩ := Y.msg
  obtain ⟨tyC, dC, hdC, hdnC⟩ := Cond.laysAt hfound hk Y.cause (a' (.lays cls Bundle.tN "cause" "Ljava/lang/Throwable;") (by simp [Bundle.ownAtomsX]))
  obtain ⟨tyS, dS, hdS, hdnS⟩ := Cond.laysAt hfound hk Y.stack (a' (.lays cls Bundle.tN "stackTrace" Bundle.steD) (by simp [Bundle.ownAtomsX]))
  obtain ⟨tyP, dP, hdP, hdnP⟩ := Cond.laysAt hfound hk Y.supp (a' (.lays cls Bundle.tN "suppressedExceptions" Bundle.listD) (by simp [Bundle.ownAtomsX]))
  obtain ⟨tyM, dM, hdM, hdnM⟩ := Cond.laysAt hfound hk hffM (a' (.lays cls Bundle.tN "detailMessage" "Ljava/lang/String;") (by simp [Bundle.ownAtomsX]))
  obtain ⟨tyB, dB, hdB, hdnB⟩ := Cond.laysAt hfound hk hffB (a' (.lays cls Bundle.tN "backtrace" "Ljava/lang/Object;") (by simp [Bundle.ownAtomsX]))
  have bC := Cond.laysApart hdB hdC hdnB hdnC (by rw [hnB, Y.causeName]; decide)
  have bS := Cond.laysApart hdB hdS hdnB hdnS (by rw [hnB, Y.stackName]; decide)
  have bP := Cond.laysApart hdB hdP hdnB hdnP (by rw [hnB, Y.suppName]; decide)
  have hskip : SkipFacts T e.platform s (fun u => u) u0 ((preparedCellV T.toThrowableT (freshCell P1.m.cls kX) a u0 sen).withEntry W.cur) :=
    ⟨{ ci198 := ci198, i198 := i198, fBack := fB }, ⟨hk198, hg198, ha198, hsB⟩, by
      have := fresh_default (c := P1.m.cls) tyB
      rw [htB] at this
      simpa [preparedCellV, Cell.setSlot, Cell.withEntry, Array.getElem?_setIfInBounds, bC, bS, bP, bC.symm, bS.symm, bP.symm, defaultValue] using this, fun _ _ => rfl⟩
  obtain ⟨tm, methC, cdC, kC, vm₁, hnC, -, -, -, -, -, -, -, hW₁, st1⟩ := Steps.initColdS (tb := p.tables) (e := e) (below := below) (s := s) (U := W) X.here hexec X.warmed hpl hown (t := Bundle.initS cls) rfl rfl (Bundle.fit_spec hcls).2
    (a' (.methodLink own ic (Bundle.initS cls)) (by simp [Bundle.ownAtomsX])) (h (.instanceMethod (Bundle.initS cls)) (by cases names <;> simp [Bundle.ownAtomsX, Bundle.chainSAtomsX, Bundle.passSAtoms])) (bytes := rx) (maxL := 2) (h (.code (Bundle.initS cls) rx 2 none) (by cases names <;> simp [Bundle.ownAtomsX, Bundle.chainSAtomsX, Bundle.passSAtoms]))
    (f := g) hg (a := a) (msg := msg) (rest := .ref a :: rest) hstack hd6
  cases Option.some.inj (hnC.symm.trans hP1m)
  have X₁ := X.noted hW₁
  obtain ⟨vm₂, X₂, st2⟩ := X₁.ctorMessageOffV hexec (g := { g with stack := .ref a :: rest }) hg hsize T L Z LZ M LM (P1 :: Ps)
    (fun P hP => by rcases List.mem_cons.mp hP with rfl | hP; exact L1; exact hL P hP) ⟨hlink1, hlink⟩ (u0 := u0) (sen := sen) (self := a) hmsg (cell := freshCell P1.m.cls kX) (cellS := cellS)
    hcell (fun _ => by simp) (by simp) rfl rfl hsel0 hselF hcellS hneS hknownS (by rw [hkeep _ (hout' _)]; exact hu0) (by rw [hkeep _ (hout' _)]; exact hsen)
    (Takes.of_laid hk hord tyC (by rw [Y.causeType]; rfl)) (Takes.of_laid hk hord tyS (by rw [Y.stackType]; exact fits_refV_array _ u0)) (Takes.of_laid hk hord tyP (by rw [Y.suppType]; exact fits_refV_object _ sen))
    (Takes.of_laid hk hord tyM (by rw [Y.msgType]; exact fits_refV_object _ ⟨msg, hmsg⟩)) Y.objLocals hskip htr [] hd6
    (by simp only [List.length_cons, hlen]; omega) (by simp only [List.length_cons, hlen]; exact hRlocals)
  obtain ⟨hwalk, hrun, hended, hWU, hsame⟩ := X₂.athrowLeaves hexec (g := { g with stack := .ref a :: rest, pc := g.pc + 3 }) hg hlocked hentered hout (a := a) (rest := rest) rfl hd9
  have hlt : a < ((W.setVm vm₁).setVm vm₂).heap.size := (Array.getElem?_eq_some_iff.mp hcell).1
  have hU := heapAt_setCell_self (s := (W.setVm vm₁).setVm vm₂) (plainBareV T.toThrowableT (freshCell P1.m.cls kX) a u0 sen msg) hlt

  refine ⟨_, st1 _ (fun acts => ?_), hrun, hended, hWU, hsame.weaken (fun y hy hlt' => ?_) (Nat.le_refl _) (Nat.le_refl _), _, hU, hfound, rfl⟩
  · rw [doInvoke_state]
    exact st2 _ hwalk
  · rcases List.mem_append.mp hy with h1 | h1
    · exact h1
    · exfalso
      have hb : y.base = a := by
        simp only [List.mem_cons, List.not_mem_nil, or_false] at h1
        rcases h1 with rfl | rfl | rfl | rfl | rfl <;> rfl
      rw [hb] at hlt'
      exact Nat.not_lt.mpr hnew hlt'
end VXX
def vx_atX (own : String) (ic : Nat) (X : String) (ix : Nat) (rx : ByteArray) (names : List String) : List Cond := (Bundle.ownAtomsX own ic X ix rx names).filter vx_no
section VXX2
variable {p : Program} {l : Launch} {e : Env} {R : Room} {s : State} {m : MethodId} {args : Array Value} {below : List Frame} {meth : Method} {c : Code} {H : Heap} {locs : List Loc} {cells slots : Nat} {ls : Array Slot} {rest : List Value} {Qc : Array Value → State → Outcome → State → Prop} {XC : String → State → State → Prop} {free : Addr → Prop}
set_option maxHeartbeats 2000000 in
theorem vx_throwX {cc : ByteArray} {pc : Nat} (hexec : p.tables.exec = Jvm.exec) (hb : c.code = cc) (hl : l.stackTraces = false) {own cls text : String} {names : List String} {ik is ic ix mc ms sa : Nat} {rx : ByteArray} (x0 : decode rx 0 = .ok (.aload_n 0, 1)) (x1 : decode rx 1 = .ok (.aload_n 1, 1)) (x2 : decode rx 2 = .ok (.invokespecial ix, 3)) (x5 : decode rx 5 = .ok (.return_, 1)) {A : Nat → Prop}
    (hown : s.vm.findClass own = some m.cls) (hcls : Bundle.fit cls = true) (hnames : ∀ n ∈ names, Bundle.fit n = true)
    (hk : (Cond.classLink own ik cls).before args s = true) (hini : (Cond.initialized cls).before args s = true) (hstr : vk_R own is text sa s) (hat : ∀ w ∈ vx_atX own ic cls ix rx names, w.before args s = true)
    (hgood : ∀ w ∈ Cond.classLink own ik cls :: Cond.initialized cls :: vx_atX own ic cls ix rx names, vx_ot w = true)
    (hU : vx_Zq Bundle.tN "UNASSIGNED_STACK" Bundle.steD A s s.heap) (hN : vx_Zq Bundle.tN "SUPPRESSED_SENTINEL" Bundle.listD A s s.heap) (hS : va_S A s.heap H locs) (hsize : ls.size = c.maxLocals)
    (d0 : decode cc pc = .ok (.new ik, 3)) (d3 : decode cc (pc + 3) = .ok (.dup, 1)) (d4 : decode cc (pc + 4) = .ok (.ldc is, 2)) (d6 : decode cc (pc + 6) = .ok (.invokespecial ic, 3)) (d9 : decode cc (pc + 9) = .ok (.athrow, 1))
    (hout : ∀ x ∈ c.exceptionTable.toList, covers x (pc + 9) = false)
    (hRframes : names.length + 3 < R.frames) (hRlocals : (rest.map fun v => v.category).sum + (13 * (names.length + 1) + 43) ≤ R.locals) (hRcells : cells + 1 ≤ R.cells) (hRslots : slots + 6 ≤ R.slots) (hlocks : meth.locks = false)
    (hx : ∀ t : State, s.vm.Alike t.vm → H.size ≤ t.heap.size → (∀ q : Nat, q < H.size → t.heap[q]? = H[q]?) → XC cls s t)
    (hf : ∀ z ∈ locs, free z.base) (hc : cells + 1 ≤ mc) (hs : slots + 6 ≤ ms) :
    W p l e R s m args below meth c H locs cells slots (vx_MQ below Qc XC args s mc ms free) (F0 m pc ls rest) := by
  intro T hT X
  have htr : e.platform.stackTraces = false := (show e.platform.stackTraces = l.stackTraces by rw [X.admits.platform]).trans hl
  have Y := vx_rebase X (R' := { frames := R.frames, locals := R.locals, cells := 1, slots := 6 }) (Nat.le_refl _) (Nat.le_refl _) hRcells hRslots
  obtain ⟨s', hA⟩ : ∃ z, z = (T.setVm s.vm).setFrames (.invoking m args :: below) := ⟨_, rfl⟩
  rw [← hA] at Y
  have hvm : s'.vm = s.vm := by rw [hA]; rfl
  have hhp : s'.heap = H := by rw [hA]; exact hT
  have hW0 : s.WarmedH s'.vm := by rw [hvm]; exact State.WarmedH.refl s
  have hat' : ∀ w ∈ vx_atX own ic cls ix rx names, w.before args s' = true := fun w hw => vx_ot_at hW0 hvm.symm (hgood w (List.mem_cons_of_mem _ (List.mem_cons_of_mem _ hw))) (hat w hw)
  have hk' : (Cond.classLink own ik cls).before args s' = true := vx_ot_at hW0 hvm.symm (hgood _ List.mem_cons_self) hk
  have hini' : (Cond.initialized cls).before args s' = true := vx_ot_at hW0 hvm.symm (hgood _ (List.mem_cons_of_mem _ List.mem_cons_self)) hini
  have hU' : vx_Zq Bundle.tN "UNASSIGNED_STACK" Bundle.steD A s' s'.heap := by rw [hhp]; exact vx_Zq.moved hW0.alike (hU.kept hS.2.1)
  have hN' : vx_Zq Bundle.tN "SUPPRESSED_SENTINEL" Bundle.listD A s' s'.heap := by rw [hhp]; exact vx_Zq.moved hW0.alike (hN.kept hS.2.1)
  have h : ∀ w ∈ Bundle.ownAtomsX own ic cls ix rx names, w.before args s' = true := vx_own hat' (vx_isRefq hU'.1) (vx_isRefq hN'.1) hU'.2.word hN'.2.word
  have hown' : s'.vm.findClass own = some m.cls := by rw [hvm]; exact hown
  have hins : (Cond.instantiable cls 6).before args s' = true := h _ (by simp [Bundle.ownAtomsX])
  obtain ⟨vm₁, cX, kX, hfX, hkX, -, -, X₁, st1⟩ := Y.newCold hexec (own := own) (C := cls) (index := ik) (n := 6) hown' hk' hins hini'
    (g := F0 m pc ls rest) rfl (by rw [hb]; exact d0) (Nat.le_refl _) (Nat.le_refl _)
  generalize hT1 : (T.setVm vm₁).pushCell { cls := cX, slots := kX.instanceTypes.map defaultValue, vm := .none } = T1 at X₁ st1
  have hcat : (Value.ref T.heap.size).category = 1 := rfl
  have hcellA : T1.heap[T.heap.size]? = some (freshCell cX kX) := by rw [← hT1]; exact State.heap_pushCell_size _ _
  have d3' : decode c.code (pc + 3) = .ok (.dup, 1) := by rw [hb]; exact d3
  have d4' : decode c.code (pc + 4) = .ok (.ldc is, 2) := by rw [hb]; exact d4
  have hstr' : vk_R own is text sa s' := vk_R.warm hW0 hstr
  obtain ⟨U, hsteps, hrun, hend, hW, hsame, ce, hce, hO, hOv⟩ := vx_ctorX X₁ hexec htr x0 x1 x2 x5 (own := own) (cls := cls) (names := names) (ic := ic) hown' hcls hnames h (fun x hx => nomatch hx) hfX hkX hcellA (by rw [hhp, hT]; exact Nat.le_refl _) (msg := .ref sa) rfl
    (g := { method := m, pc := pc + 6, locals := ls, stack := .ref sa :: .ref T.heap.size :: .ref T.heap.size :: rest, locked := none }) rfl hsize rfl rfl (rest := rest) rfl
    (by rw [hb]; exact d6) (by rw [hb]; exact d9) hout hRframes (by simp only [List.map_cons, List.sum_cons, hcat]; omega) hlocks
  obtain ⟨f1, f2⟩ := vx_frame hsame
  rw [hhp] at f1 f2
  have hWs : s.WarmedH U.vm := State.WarmedH.trans hW0 hW
  have hcl : s.vm.findClass cls = some ce.cls := by
    have h9 := hO
    rw [hvm] at h9
    exact h9
  have hall : s.sameButNew ({ U with vm := s.vm } : State) locs mc ms := by
    subst hA
    obtain ⟨e1, e2⟩ := hsame
    rw [State.setFrames_setFrames] at e1
    have h2 : (T.setVm s.vm).sameButNew ({ U with vm := s.vm } : State) [] (0 + 1) (0 + 6) := ⟨e1, e2⟩
    have h3 := X.same.trans h2
    rw [List.append_nil] at h3
    exact h3.mono hc hs
  refine ⟨U, ?_, .threw T.heap.size, hrun, hend, Or.inr ⟨T.heap.size, rfl, cls, ce, locs, hx U hWs.alike f1 (fun q hq => f2 q hq (fun z hz => nomatch hz)), hce, hOv, hcl, hWs, hall, hf⟩⟩
  refine st1 _ ?_
  show Steps p.tables e below (T1.setTop { method := m, pc := pc + 3, locals := ls, stack := .ref T.heap.size :: rest, locked := none }) _
  jvm_step X₁.here [X₁.here.top, hexec, d3', Value.category]
  exact X₁.ldcString hexec (own := own) (text := text) (index := is) (a := sa) hown' hstr'.1 hstr'.2
    (g := { method := m, pc := pc + 4, locals := ls, stack := .ref T.heap.size :: .ref T.heap.size :: rest, locked := none }) rfl d4' _ hsteps
set_option maxHeartbeats 2000000 in
theorem vx_throwXW {cc : ByteArray} {pc : Nat} (hexec : p.tables.exec = Jvm.exec) (hb : c.code = cc) (hl : l.stackTraces = false) {own cls text : String} {names : List String} {ik is ic ix mc ms sa : Nat} {rx : ByteArray} (x0 : decode rx 0 = .ok (.aload_n 0, 1)) (x1 : decode rx 1 = .ok (.aload_n 1, 1)) (x2 : decode rx 2 = .ok (.invokespecial ix, 3)) (x5 : decode rx 5 = .ok (.return_, 1)) {A : Nat → Prop}
    (hown : s.vm.findClass own = some m.cls) (hcls : Bundle.fit cls = true) (hnames : ∀ n ∈ names, Bundle.fit n = true)
    (hk : (Cond.classLink own ik cls).before args s = true) (hini : (Cond.initialized cls).before args s = true) (hstr : vk_R own is text sa s) (hat : ∀ w ∈ vx_atX own ic cls ix rx names, w.before args s = true)
    (hgood : ∀ w ∈ Cond.classLink own ik cls :: Cond.initialized cls :: vx_atX own ic cls ix rx names, vx_ot w = true)
    (hU : vx_Zq Bundle.tN "UNASSIGNED_STACK" Bundle.steD A s s.heap) (hN : vx_Zq Bundle.tN "SUPPRESSED_SENTINEL" Bundle.listD A s s.heap) (hS : va_S A s.heap H locs) (hsize : ls.size = c.maxLocals)
    (d0 : decode cc pc = .ok (.new ik, 3)) (d3 : decode cc (pc + 3) = .ok (.dup, 1)) (d4 : decode cc (pc + 4) = .ok (.ldc_w is, 3)) (d7 : decode cc (pc + 7) = .ok (.invokespecial ic, 3)) (d10 : decode cc (pc + 10) = .ok (.athrow, 1))
    (hout : ∀ x ∈ c.exceptionTable.toList, covers x (pc + 10) = false)
    (hRframes : names.length + 3 < R.frames) (hRlocals : (rest.map fun v => v.category).sum + (13 * (names.length + 1) + 43) ≤ R.locals) (hRcells : cells + 1 ≤ R.cells) (hRslots : slots + 6 ≤ R.slots) (hlocks : meth.locks = false)
    (hx : ∀ t : State, s.vm.Alike t.vm → H.size ≤ t.heap.size → (∀ q : Nat, q < H.size → t.heap[q]? = H[q]?) → XC cls s t)
    (hf : ∀ z ∈ locs, free z.base) (hc : cells + 1 ≤ mc) (hs : slots + 6 ≤ ms) :
    W p l e R s m args below meth c H locs cells slots (vx_MQ below Qc XC args s mc ms free) (F0 m pc ls rest) := by
  intro T hT X
  have htr : e.platform.stackTraces = false := (show e.platform.stackTraces = l.stackTraces by rw [X.admits.platform]).trans hl
  have Y := vx_rebase X (R' := { frames := R.frames, locals := R.locals, cells := 1, slots := 6 }) (Nat.le_refl _) (Nat.le_refl _) hRcells hRslots
  obtain ⟨s', hA⟩ : ∃ z, z = (T.setVm s.vm).setFrames (.invoking m args :: below) := ⟨_, rfl⟩
  rw [← hA] at Y
  have hvm : s'.vm = s.vm := by rw [hA]; rfl
  have hhp : s'.heap = H := by rw [hA]; exact hT
  have hW0 : s.WarmedH s'.vm := by rw [hvm]; exact State.WarmedH.refl s
  have hat' : ∀ w ∈ vx_atX own ic cls ix rx names, w.before args s' = true := fun w hw => vx_ot_at hW0 hvm.symm (hgood w (List.mem_cons_of_mem _ (List.mem_cons_of_mem _ hw))) (hat w hw)
  have hk' : (Cond.classLink own ik cls).before args s' = true := vx_ot_at hW0 hvm.symm (hgood _ List.mem_cons_self) hk
  have hini' : (Cond.initialized cls).before args s' = true := vx_ot_at hW0 hvm.symm (hgood _ (List.mem_cons_of_mem _ List.mem_cons_self)) hini
  have hU' : vx_Zq Bundle.tN "UNASSIGNED_STACK" Bundle.steD A s' s'.heap := by rw [hhp]; exact vx_Zq.moved hW0.alike (hU.kept hS.2.1)
  have hN' : vx_Zq Bundle.tN "SUPPRESSED_SENTINEL" Bundle.listD A s' s'.heap := by rw [hhp]; exact vx_Zq.moved hW0.alike (hN.kept hS.2.1)
  have h : ∀ w ∈ Bundle.ownAtomsX own ic cls ix rx names, w.before args s' = true := vx_own hat' (vx_isRefq hU'.1) (vx_isRefq hN'.1) hU'.2.word hN'.2.word
  have hown' : s'.vm.findClass own = some m.cls := by rw [hvm]; exact hown
  have hins : (Cond.instantiable cls 6).before args s' = true := h _ (by simp [Bundle.ownAtomsX])
  obtain ⟨vm₁, cX, kX, hfX, hkX, -, -, X₁, st1⟩ := Y.newCold hexec (own := own) (C := cls) (index := ik) (n := 6) hown' hk' hins hini'
    (g := F0 m pc ls rest) rfl (by rw [hb]; exact d0) (Nat.le_refl _) (Nat.le_refl _)
  generalize hT1 : (T.setVm vm₁).pushCell { cls := cX, slots := kX.instanceTypes.map defaultValue, vm := .none } = T1 at X₁ st1
  have hcat : (Value.ref T.heap.size).category = 1 := rfl
  have hcellA : T1.heap[T.heap.size]? = some (freshCell cX kX) := by rw [← hT1]; exact State.heap_pushCell_size _ _
  have d3' : decode c.code (pc + 3) = .ok (.dup, 1) := by rw [hb]; exact d3
  have d4' : decode c.code (pc + 4) = .ok (.ldc_w is, 3) := by rw [hb]; exact d4
  have hstr' : vk_R own is text sa s' := vk_R.warm hW0 hstr
  obtain ⟨U, hsteps, hrun, hend, hW, hsame, ce, hce, hO, hOv⟩ := vx_ctorX X₁ hexec htr x0 x1 x2 x5 (own := own) (cls := cls) (names := names) (ic := ic) hown' hcls hnames h (fun x hx => nomatch hx) hfX hkX hcellA (by rw [hhp, hT]; exact Nat.le_refl _) (msg := .ref sa) rfl
    (g := { method := m, pc := pc + 7, locals := ls, stack := .ref sa :: .ref T.heap.size :: .ref T.heap.size :: rest, locked := none }) rfl hsize rfl rfl (rest := rest) rfl
    (by rw [hb]; exact d7) (by rw [hb]; exact d10) hout hRframes (by simp only [List.map_cons, List.sum_cons, hcat]; omega) hlocks
  obtain ⟨f1, f2⟩ := vx_frame hsame
  rw [hhp] at f1 f2
  have hWs : s.WarmedH U.vm := State.WarmedH.trans hW0 hW
  have hcl : s.vm.findClass cls = some ce.cls := by
    have h9 := hO
    rw [hvm] at h9
    exact h9
  have hall : s.sameButNew ({ U with vm := s.vm } : State) locs mc ms := by
    subst hA
    obtain ⟨e1, e2⟩ := hsame
    rw [State.setFrames_setFrames] at e1
    have h2 : (T.setVm s.vm).sameButNew ({ U with vm := s.vm } : State) [] (0 + 1) (0 + 6) := ⟨e1, e2⟩
    have h3 := X.same.trans h2
    rw [List.append_nil] at h3
    exact h3.mono hc hs
  refine ⟨U, ?_, .threw T.heap.size, hrun, hend, Or.inr ⟨T.heap.size, rfl, cls, ce, locs, hx U hWs.alike f1 (fun q hq => f2 q hq (fun z hz => nomatch hz)), hce, hOv, hcl, hWs, hall, hf⟩⟩
  refine st1 _ ?_
  show Steps p.tables e below (T1.setTop { method := m, pc := pc + 3, locals := ls, stack := .ref T.heap.size :: rest, locked := none }) _
  jvm_step X₁.here [X₁.here.top, hexec, d3', Value.category]
  exact X₁.ldcStringW hexec (own := own) (text := text) (index := is) (a := sa) hown' hstr'.1 hstr'.2
    (g := { method := m, pc := pc + 4, locals := ls, stack := .ref T.heap.size :: .ref T.heap.size :: rest, locked := none }) rfl d4' _ hsteps
end VXX2
end
section
/-! throws of the class, and the law's own calls that catch them -/
abbrev xNS : String := "java/util/NoSuchElementException"
abbrev xNM : List String := ["java/lang/RuntimeException", "java/lang/Exception"]
abbrev xRX : ByteArray := prog_29_method_4_code
def XAT : List Cond := vx_atX RX11 150 xNS 13 xRX xNM
theorem xx0 : decode xRX 0 = .ok (.aload_n 0, 1) := by decide +kernel
theorem xx1 : decode xRX 1 = .ok (.aload_n 1, 1) := by decide +kernel
theorem xx2 : decode xRX 2 = .ok (.invokespecial 13, 3) := by decide +kernel
theorem xx5 : decode xRX 5 = .ok (.return_, 1) := by decide +kernel
def XBAD : List Cond := XAT.filter (fun w => !goodWord w)
def isMov (w : Cond) : Bool := match w with
  | .castable _ _ => true
  | .declares _ => true
  | _ => false
theorem xbad_mov : XBAD.all isMov = true := by decide +kernel
theorem xbad_in : ∀ w ∈ XBAD, w ∈ lw_tbl := by decide +kernel
set_option maxRecDepth 20000 in
theorem xgood_in : ∀ w ∈ XAT.filter goodWord, w ∈ lw_tbl := by decide +kernel
theorem xot : ∀ w ∈ Cond.classLink RX11 146 xNS :: Cond.initialized xNS :: XAT, vx_ot w = true := by decide +kernel
def XSTR : List (Nat × String) := [(148, "no such thing"), (169, "no such person"), (281, "a fraction has two numbers"), (283, "no such ones")]
def XK (A : Nat → Prop) (U : State) : Prop := (∀ w ∈ XBAD, va_Nw w U) ∧ vx_Zq Bundle.tN "UNASSIGNED_STACK" Bundle.steD A U U.heap ∧ vx_Zq Bundle.tN "SUPPRESSED_SENTINEL" Bundle.listD A U U.heap ∧ ∀ q ∈ XSTR, ∃ sa, vk_R RX11 q.1 q.2 sa U
theorem XK.warm {A A1 : Nat → Prop} {s U : State} {locs : List Loc} {H : Heap} (h : XK A s) (hW : s.WarmedH U.vm) (hH : U.heap = H) (hS : va_S A s.heap H locs) (hA : ∀ q, A1 q → A q) : XK A1 U := by
  obtain ⟨h1, h2, h3, h4⟩ := h
  refine ⟨fun w hw => ?_, ?_, ?_, fun q hq => ?_⟩
  · have g1 := h1 w hw
    have g2 := List.all_eq_true.mp xbad_mov w hw
    unfold isMov at g2
    split at g2
    · exact va_Nw.warmC hW g1
    · exact va_Nw.warmD hW g1
    · cases g2
  · rw [hH]
    exact ((h2.kept hS.2.1).moved hW.alike).narrow hA
  · rw [hH]
    exact ((h3.kept hS.2.1).moved hW.alike).narrow hA
  · obtain ⟨sa, g⟩ := h4 q hq
    exact ⟨sa, vk_R.warm hW g⟩
theorem XK.calling {A : Nat → Prop} {U : State} {g : JFrame} {mk : MethodId} {a : Array Value} (h : XK A U) : XK A (U.calling g mk a) := by
  obtain ⟨h1, h2, h3, h4⟩ := h
  refine ⟨fun w hw => ?_, ?_, ?_, fun q hq => ?_⟩
  · have g1 := h1 w hw
    have g2 := List.all_eq_true.mp xbad_mov w hw
    unfold isMov at g2
    split at g2
    · exact va_Nw.same rfl rfl g1
    · exact va_Nw.same rfl rfl g1
    · cases g2
  · exact vx_Zq.moved (u := U) (U := U.calling g mk a) (Vm.Alike.refl U.vm) h2
  · exact vx_Zq.moved (u := U) (U := U.calling g mk a) (Vm.Alike.refl U.vm) h3
  · obtain ⟨sa, g⟩ := h4 q hq
    exact ⟨sa, vk_R.same rfl g⟩
def PX (D : va_G) (cy : Nat → ClassId) (pool ws : va_W) (vs : List Value) (sz : Nat) : Array Value → State → Prop := va_Pc vs (fun U => U.heap.size = sz ∧ va_P D vwCl (pool ++ ws) U.heap ∧ KK D cy U ∧ va_D (fun _ => True) (pool ++ ws) ∧ XK (va_A (pool ++ ws) sz) U)
theorem px_blind {D : va_G} {cy : Nat → ClassId} {pool ws : va_W} {vs : List Value} {sz : Nat} : FrameBlind (PX D cy pool ws vs sz) := fun a U g mk q => by
  obtain ⟨q0, q1, qP, qK, qD, qX⟩ := q
  exact ⟨q0, q1, qP, qK.calling, qD, qX.calling⟩
abbrev XC (D : va_G) (cy : Nat → ClassId) (ν : Nat → Int) (b : Nat) (pool : va_W) (al0 : List Nat) (C : List AC) (A : Nat → Prop) : String → State → State → Prop := vx_X (fun u : va_W => gW ν b cy C u ∧ ∃ more, alw u = al0 ++ more) (fun E u t => E = xNS ∧ va_P D vwCl (pool ++ u) t.heap ∧ va_D A (pool ++ u)) A
abbrev XQ (A : Nat → Prop) : Array Value → State → Outcome → State → Prop := va_Qi (fun (_ : Int32) (_ : Unit) => False) (fun _ _ => True) A
/-- a place where the class throws: new, dup, the text, the maker, athrow -/
def XSite (M : MT) (C : List AC) (S : ST) : Prop := ∃ (pc : Nat) (lo : List (Nat × AV)) (E : EV) (nc ns is : Nat) (tx : String), S = (pc, lo, [], E, C, nc, ns) ∧ (is, tx) ∈ XSTR ∧ decode (mC M) pc = .ok (.new 146, 3) ∧ decode (mC M) (pc + 3) = .ok (.dup, 1) ∧
  ((decode (mC M) (pc + 4) = .ok (.ldc is, 2) ∧ decode (mC M) (pc + 6) = .ok (.invokespecial 150, 3) ∧ decode (mC M) (pc + 9) = .ok (.athrow, 1)) ∨ (decode (mC M) (pc + 4) = .ok (.ldc_w is, 3) ∧ decode (mC M) (pc + 7) = .ok (.invokespecial 150, 3) ∧ decode (mC M) (pc + 10) = .ok (.athrow, 1))) ∧ nc + 1 ≤ mNc M ∧ ns + 6 ≤ mNs M
theorem x_met {l : Launch} {D : va_G} {cy : Nat → ClassId} {ν : Nat → Int} {b : Nat} {pool : va_W} {M : MT} {as : List AV} {vs : List Value} {E : EV} {C : List AC} {ws : va_W} {cuts : List ST} {fuel : Nat} (sz : Nat) (hl : l.stackTraces = false) (hpn : plainName (mY M).cls = true) (hcls : (mY M).cls = RX11) (hM : MOK M) (hT : TOK OWN M) (ho : OWN[mO M]? = some (mY M).cls) (hg : gvs ν (alw ws) b as vs) (hE : genv ν E) (hW : gW ν b cy C ws) (hle : e_cats as ≤ mL M) (hfr : 5 < mFr M) (hlo : 82 ≤ mLo M)
    (hrun : e_run PRG RTB cuts fuel true false M (mT M) (0, e_args 0 as, [], E, C, 0, 0) = some []) (hsite : ∀ S ∈ cuts, XSite M C S) :
    vx_Met l (mY M) (mW M) (mRm M) (PX D cy pool ws vs sz) (XQ (va_A (pool ++ ws) sz)) (XC D cy ν b pool (alw ws) C (va_A (pool ++ ws) sz)) (mNc M) (mNs M) (va_A (pool ++ ws) sz) := by
  obtain ⟨m1, m2, m3, m4, m5, m6, m7, m8, m9⟩ := id hM
  refine vx_ofW (cc := mC M) (maxL := mL M) (ret := mR M) hpn rfl ?_
  intro p e s m args below meth c s₁ B hml hex hv
  obtain ⟨rfl, hsz, hP, hK, hD0, hX⟩ := hv
  have hx := B.exec
  have hb := B.bytes
  have hts := atoms_spec (ws := mW M) B.pre
  have hown : s.vm.findClass (mY M).cls = some m.cls := findClass_of_methodNamed B.named
  have hlocks := B.notSynchronized
  have hname := (name_of_methodNamed B.named B.method).1
  subst hsz
  have hD := hD0.self (sz := s.heap.size)
  generalize hAe : va_A (pool ++ ws) s.heap.size = A at hD hX ⊢
  have hA : ∀ q : Nat, s.heap.size ≤ q → A q := fun q h => by rw [← hAe]; exact Or.inr h
  have hS : va_S A s.heap s.heap [] := va_S.rf
  have hlen : (lg_sl vs).length ≤ mL M := by rw [lg_len, cats_ok hg]; exact hle
  have hlv := lv_entry vs (n := mL M) hlen
  rw [lg_entry_eq]
  generalize (lg_sl vs ++ List.replicate (mL M - (lg_sl vs).length) Slot.unset).toArray = ls at hlv ⊢
  have hbig : ∀ w ∈ BIG, w.before vs.toArray s = true := fun w hw => hts w (List.mem_cons_of_mem _ hw)
  have X : Ctx OWN D cy ν b M (mY M).cls p (mRm M) s m vs.toArray meth c A false := ⟨hx, hb, hml, ho, hown, hbig, hK, hA, fun h => hname.trans (m8 h).1, rfl, hT, fun h => by cases h⟩
  refine e_sound pok fuel true false M (mT M) _ [] hrun hT.1 (alw ws) _ p e _ s m vs.toArray below meth c A _ X (fun o h => by cases h) (fun _ S hS => ?_) s.heap [] ls (lv_args 0 vs) [] ws hlv (e_args_ok 0 hg) trivial hE ⟨hW, hP, hD, hS⟩ ⟨[], by simp⟩
  obtain ⟨pc, lo, E', nc, ns, is, tx, rfl, q1, d0, d3, dd, q2, q3⟩ := hsite S hS
  intro H locs ls' lv' vs' ws' a1 a2 a3 a4 a5 a6
  simp only at a2 a3 a4 a5 ⊢
  have hnil := gvs_nil a3
  subst hnil
  rw [hcls] at hown
  obtain ⟨sa, hstr⟩ := hX.2.2.2 _ q1
  have hat : ∀ w ∈ vx_atX RX11 150 xNS 13 xRX xNM, w.before vs.toArray s = true := vx_hat (B := XBAD) (fun w hw => hbig w (List.mem_filter.mpr ⟨xgood_in w hw, (List.mem_filter.mp hw).2⟩)) (fun w hw => hw) (fun w hw => by
    have g2 := List.all_eq_true.mp xbad_mov w hw
    have g1 := hX.1 w hw
    unfold isMov at g2
    split at g2
    · exact va_Nw.use rfl g1
    · exact va_Nw.use rfl g1
    · cases g2)
  have hk : (Cond.classLink RX11 146 xNS).before vs.toArray s = true := hbig _ (h_at_ok (pos := 1210) (by decide +kernel))
  have hini : (Cond.initialized xNS).before vs.toArray s = true := hbig _ (List.mem_filter.mpr ⟨by decide +kernel, by decide +kernel⟩)
  have hxx : ∀ t : State, s.vm.Alike t.vm → H.size ≤ t.heap.size → (∀ q : Nat, q < H.size → t.heap[q]? = H[q]?) → XC D cy ν b pool (alw ws) C A xNS s t := by
    intro t hvm hsz hsame
    refine ⟨ws', ⟨a5.1, a6⟩, ⟨rfl, fun k q hq => (a5.2.1 k q hq).kept (hsame _ (a5.2.1 k q hq).lt), a5.2.2.1⟩, ?_⟩
    exact ⟨Nat.le_trans a5.2.2.2.1 hsz, fun q hq hn => (hsame q (Nat.lt_of_lt_of_le hq a5.2.2.2.1)).trans (a5.2.2.2.2.1 q hq hn)⟩
  rcases dd with ⟨d4, d6, d9⟩ | ⟨d4, d6, d9⟩
  · exact vx_throwX (names := xNM) hx hb hl xx0 xx1 xx2 xx5 hown (by decide +kernel) (by decide +kernel) hk hini hstr hat xot hX.2.1 hX.2.2.1 a5.2.2.2 (by rw [hml]; exact a1.1) d0 d3 d4 d6 d9 (fun x h9 => (hex x h9).elim) (by show 2 + 3 < mFr M; omega) (by show 0 + (13 * (2 + 1) + 43) ≤ mLo M; omega) q2 q3 hlocks hxx a5.2.2.2.2.2 q2 q3
  · exact vx_throwXW (names := xNM) hx hb hl xx0 xx1 xx2 xx5 hown (by decide +kernel) (by decide +kernel) hk hini hstr hat xot hX.2.1 hX.2.2.1 a5.2.2.2 (by rw [hml]; exact a1.1) d0 d3 d4 d6 d9 (fun x h9 => (hex x h9).elim) (by show 2 + 3 < mFr M; omega) (by show 0 + (13 * (2 + 1) + 43) ≤ mLo M; omega) q2 q3 hlocks hxx a5.2.2.2.2.2 q2 q3
end
section
def mt_X11_thing : MT := (yX11_thing, cX11_thing, 3, some .int, (0, 1, 2, 10), (8, 4, 32, 400), [(0, 0, .aload_n 0, 1), (1, 2, .getfield 33, 3), (4, 0, .iconst 2, 1), (5, 0, .iload_n 1, 1), (6, 4, .invokevirtual 142, 3), (9, 1, .ifCond .ne 13, 3), (12, 16, .new 146, 3)])
theorem td_X11_thing : d_chk mt_X11_thing = true := by decide +kernel
theorem tm_X11_thing : m_chk mt_X11_thing (1209, 117, 1207, 1208) = true := by decide +kernel
theorem eL_thing_0 : decode cL_thing 0 = .ok (.aload_n 3, 1) := by decide +kernel
theorem eL_thing_1 : decode cL_thing 1 = .ok (.iconst 0, 1) := by decide +kernel
theorem eL_thing_2 : decode cL_thing 2 = .ok (.aload_n 0, 1) := by decide +kernel
theorem eL_thing_3 : decode cL_thing 3 = .ok (.iload_n 1, 1) := by decide +kernel
theorem eL_thing_4 : decode cL_thing 4 = .ok (.iload_n 2, 1) := by decide +kernel
theorem eL_thing_5 : decode cL_thing 5 = .ok (.invokevirtual 7, 3) := by decide +kernel
theorem eL_thing_8 : decode cL_thing 8 = .ok (.i2l, 1) := by decide +kernel
theorem eL_thing_9 : decode cL_thing 9 = .ok (.lastore, 1) := by decide +kernel
theorem eL_thing_10 : decode cL_thing 10 = .ok (.goto 7, 3) := by decide +kernel
theorem eL_thing_13 : decode cL_thing 13 = .ok (.astore 4, 2) := by decide +kernel
theorem eL_thing_15 : decode cL_thing 15 = .ok (.iconst 1, 1) := by decide +kernel
theorem eL_thing_16 : decode cL_thing 16 = .ok (.ireturn, 1) := by decide +kernel
theorem eL_thing_17 : decode cL_thing 17 = .ok (.iconst 0, 1) := by decide +kernel
theorem eL_thing_18 : decode cL_thing 18 = .ok (.ireturn, 1) := by decide +kernel
abbrev WL_thing : List Cond := Cond.codeWith yL_thing cL_thing 5 (some .int) [(0, 10, 13, 13)] :: BIG
abbrev mt_L_thing : MT := (yL_thing, cL_thing, 5, some .int, (0, 0, 4, 99), (10, 64, 64, 500), [])
theorem xs_thing {C : List AC} {cuts : List ST} (h : ∀ S ∈ cuts, ∃ (lo : List (Nat × AV)) (E : EV) (nc ns : Nat), (S = (12, lo, [], E, C, nc, ns)) ∧ nc + 1 ≤ 4 ∧ ns + 6 ≤ 32) : ∀ S ∈ cuts, XSite mt_X11_thing C S := by
  intro S hS
  obtain ⟨lo, E, nc, ns, h1, h2, h3⟩ := h S hS
  rcases h1 with h1
  · exact ⟨12, lo, E, nc, ns, 148, _, h1, List.mem_cons_self, by decide +kernel, by decide +kernel, Or.inl ⟨by decide +kernel, by decide +kernel, by decide +kernel⟩, h2, h3⟩
theorem eLaw_362 : decode code 362 = .ok (.invokestatic 45, 3) := by decide +kernel
set_option maxHeartbeats 4000000 in
theorem lx_thing {l : Launch} {D : va_G} {cy : Nat → ClassId} {ν : Nat → Int} {b : Nat} {pool : va_W} {E : EV} {C : List AC} {ws : va_W} {ix qx qo fuel : Nat} {fs : List AV} {p0 p1 : Int32} {cuts : List ST} (sz : Nat) (hl : l.stackTraces = false) (hqx : (alw ws)[ix]? = some qx) (hcx : C[ix]? = some (.inr (10, fs))) (hE : genv ν E) (hW : gW ν b cy C ws) (hg0 : gv ν (alw ws) b (aV 1 0) (.int p0)) (hg1 : gv ν (alw ws) b (aV 2 0) (.int p1))
    (hrun : e_run PRG RTB cuts fuel true false mt_X11_thing (mT mt_X11_thing) (0, e_args 0 [aR ix, aV 1 0, aV 2 0], [], E, C, 0, 0) = some []) (hsite : ∀ S ∈ cuts, XSite mt_X11_thing C S) :
    Met l yL_thing WL_thing (mRm mt_L_thing) (PX D cy pool ws [.ref qx, .int p0, .int p1, .ref qo] sz) (QJ D cy ν b pool (alw ws) [(some (aI 1), E, C)] (va_A (pool ++ ws) sz) (some .int)) 64 64 (va_A (pool ++ ws) sz) := by
  refine va_MetW (cc := cL_thing) (maxL := 5) (ret := some .int) (hh := [(0, 10, 13, 13)]) (by decide +kernel) rfl ?_
  intro p e s m args below meth c s₁ B hml hv
  obtain ⟨rfl, hsz, hP, hK, hD0, hX⟩ := hv
  have hx9 := B.exec
  have hb := B.bytes
  have hr := B.returns
  have hts := atoms_spec (ws := WL_thing) B.pre
  have hbig : ∀ w ∈ BIG, w.before [.ref qx, .int p0, .int p1, .ref qo].toArray s = true := fun w hw => hts w (List.mem_cons_of_mem _ hw)
  have hown : s.vm.findClass RL = some m.cls := findClass_of_methodNamed B.named
  have hlocks := B.notSynchronized
  have htab := vx_table (x := yL_thing) B (hts _ List.mem_cons_self)
  subst hsz
  have met := x_met (l := l) (D := D) (cy := cy) (ν := ν) (b := b) (pool := pool) (M := mt_X11_thing) (as := [aR ix, aV 1 0, aV 2 0]) (vs := [.ref qx, .int p0, .int p1]) (E := E) (C := C) (ws := ws) (cuts := cuts) (fuel := fuel) s.heap.size hl (by decide +kernel) rfl (m_chk_ok tm_X11_thing td_X11_thing).1 (m_chk_ok tm_X11_thing td_X11_thing).2.1 (m_chk_ok tm_X11_thing td_X11_thing).2.2 ⟨⟨qx, hqx, rfl⟩, hg0, hg1, trivial⟩ hE hW (Nat.le_of_ble_eq_true rfl) (by decide) (by decide) hrun hsite
  have mok := (m_chk_ok tm_X11_thing td_X11_thing).1
  have hD := hD0.self (sz := s.heap.size)
  generalize hAe : va_A (pool ++ ws) s.heap.size = A at hD hX met ⊢
  have hS : va_S A s.heap s.heap [] := va_S.rf
  have hlv := lv_entry ([.ref qx, .int p0, .int p1, .ref qo]) (n := 5) (Nat.le_of_ble_eq_true rfl)
  rw [lg_entry_eq]
  generalize (lg_sl ([.ref qx, .int p0, .int p1, .ref qo]) ++ List.replicate (5 - (lg_sl ([.ref qx, .int p0, .int p1, .ref qo])).length) Slot.unset).toArray = ls at hlv ⊢
  have hlv : lv_has ls 5 [(0, .ref qx), (1, .int p0), (2, .int p1), (3, .ref qo)] := hlv
  refine lv_aload_n hx9 hb eL_thing_0 rfl (lv_at hlv 3 rfl) ?_
  refine lv_iconst (v := 0) hx9 hb eL_thing_1 (by decide) ?_
  refine lv_aload_n hx9 hb eL_thing_2 rfl (lv_at hlv 0 rfl) ?_
  refine lv_iload_n hx9 hb eL_thing_3 rfl (lv_at hlv 1 rfl) ?_
  refine lv_iload_n hx9 hb eL_thing_4 rfl (lv_at hlv 2 rfl) ?_
  have cB : CallB (mRm mt_L_thing) s [.ref qx, .int p0, .int p1, .ref qo].toArray RL 7 (mY mt_X11_thing) (mC mt_X11_thing) (mL mt_X11_thing) (mR mt_X11_thing) (mW mt_X11_thing) (mRm mt_X11_thing) 4 32 2 := callB_of 2 hbig (mW_good mok) rfl rfl rfl (hbig _ mok.2.2.1) (hbig _ (h_at_ok (pos := 1206) (by decide +kernel))) ⟨mok.2.2.2.1.1, mok.2.2.2.1.2, mok.2.2.2.2.1⟩ ⟨by decide, by decide⟩
  obtain ⟨q', e', h1, h2, fvs, rfl, h3⟩ := gW_at hW hcx
  rw [hqx] at h2
  cases h2
  have hrecv := va_recv (q0 := pool.length + ix) hK.1 hP (show vwCl[10]? = some (RX11, TX11, 18) from rfl) (pw_at h1)
  refine vx_calli (A0 := A) (H0 := s.heap) (vx_runV (C := RX11) (As := [.int p0, .int p1]) (rest := [.int 0, .ref qo]) ⟨hx9, hb, hml, hown, hbig⟩ met ⟨cB, hbig _ (mok.2.2.2.2.2.2.1 rfl).1, hbig _ (mok.2.2.2.2.2.2.1 rfl).2.1⟩ ⟨px_blind, hrecv, fun U hU hW9 => ⟨rfl, by rw [hU], by rw [hU]; exact hP, KK.warm hW9 hK, hD0, by rw [hAe]; exact XK.warm hX hW9 hU hS (fun _ h => h)⟩⟩ rfl rfl hlv.1 rfl (lv_room (Nat.le_of_ble_eq_true rfl)) eL_thing_5 ⟨by decide, by decide⟩) hS (fun q _ h => h) (fun q h => h) (fun q _ h => h) ?_ ?_
  · intro E9 ce q9 u t H1 locs1 ht hvm hpx hBX hz hk hS1 hcell hcv hcl
    obtain ⟨hE9, g1, g2⟩ := hBX
    subst hE9
    have hcast : (Cond.castable xNS xNS).before [.ref qx, .int p0, .int p1, .ref qo].toArray s = true := va_Nw.use rfl (hX.1 _ (by decide +kernel))
    refine vx_catch hown [] ⟨0, 10, 13, 13⟩ [] (by rw [htab]; rfl) (fun z hz => by cases hz) (by decide) (by decide) (hbig _ (h_at_ok (w := .classLink RL 13 xNS) (pos := 1205) (by decide +kernel))) hcast hcell hcv hcl ?_
    refine lv_astore (lv' := [(4, .ref q9), (0, .ref qx), (1, .int p0), (2, .int p1), (3, .ref qo)]) hx9 hb eL_thing_13 hlv (by decide) rfl (fun ls hl2 => ?_)
    refine lv_iconst (v := 1) hx9 hb eL_thing_15 (by decide) ?_
    refine W.widen (k := 64) (n := 64) (by decide) (by decide) ?_
    exact W.iret hx9 hb hr (fun t2 ht2 hW2 => ⟨⟨1, (u, (some (aI 1), E, C)), rfl, ⟨⟨List.mem_cons_self, hE, hpx.1, hpx.2⟩, aI 1, rfl, ⟨1, rfl, by decide, by decide⟩⟩, ⟨by rw [ht2, ← ht]; exact g1, g2⟩⟩, hS1.F ht2⟩) hS1.2.2 eL_thing_16
  · intro r u t H1 locs1 ht hvm hw
    exact hw.elim
set_option maxHeartbeats 4000000 in
theorem sx_thing {l : Launch} {D : va_G} {cy : Nat → ClassId} {ν : Nat → Int} {b : Nat} {pool : va_W} {al0 : List Nat} {p : Program} {e : Env} {s : State} {m : MethodId} {args : Array Value} {below : List Frame} {meth : Method} {c : Code} {A : Nat → Prop} {Q : State → Prop} {lo : List (Nat × AV)} {E : EV} {C : List AC} {nc ns ix io fuel : Nat} {fs : List AV} {cuts : List ST}
    (X : Ctx OWN D cy ν b mt_L_law RL p (mRm mt_L_law) s m args meth c A true) (hl : l.stackTraces = false) (hXK : XK A s) (hcx : C[ix]? = some (.inr (10, fs)))
    (hrun : e_run PRG RTB cuts fuel true false mt_X11_thing (mT mt_X11_thing) (0, e_args 0 [aR ix, aV 1 0, aV 2 0], [], E, C, 0, 0) = some []) (hsite : ∀ S ∈ cuts, XSite mt_X11_thing C S) (hnc : nc + 64 ≤ 600002) (hns : ns + 64 ≤ 7302232)
    (k : Safe D cy ν b pool al0 mt_L_law p l e (mRm mt_L_law) s m args below meth c A Q (362 + 3, lo, [aI 1], E, C, nc + 64, ns + 64)) : Safe D cy ν b pool al0 mt_L_law p l e (mRm mt_L_law) s m args below meth c A Q (362, lo, [aR io, aV 2 0, aV 1 0, aR ix], E, C, nc, ns) := by
  intro H locs ls lv vs ws a1 a2 a3 a4 a5 a6
  simp only at a2 a3 a4 a5 ⊢
  obtain ⟨v0, vs0, rfl, g0, a3⟩ := gvs_cons a3
  obtain ⟨wp1, vsp1, rfl, hp1, a3⟩ := gvs_cons a3
  obtain ⟨wp0, vsp0, rfl, hp0, a3⟩ := gvs_cons a3
  obtain ⟨v9, vs9, rfl, g9, a3⟩ := gvs_cons a3
  have hn := gvs_nil a3
  subst hn
  obtain ⟨qo, hqo, rfl⟩ := g0
  obtain ⟨qx, hqx, rfl⟩ := g9
  obtain ⟨p0, rfl⟩ := gv_isI hp0 rfl
  obtain ⟨p1, rfl⟩ := gv_isI hp1 rfl
  have hbig : ∀ w ∈ BIG, w.before args s = true := X.2.2.2.2.2.1
  have hF : ∀ q, va_A (pool ++ ws) H.size q → A q := by
    intro q hq
    rcases hq with ⟨kq, eq, h1⟩ | h1
    · exact a5.2.2.1.2 _ _ h1
    · exact X.2.2.2.2.2.2.2.1 q (Nat.le_trans a5.2.2.2.1 h1)
  have met := lx_thing (l := l) (D := D) (pool := pool) (qo := qo) (p0 := p0) (p1 := p1) H.size hl hqx hcx a4 a5.1 hp0 hp1 hrun hsite
  have hgw : GoodIn BIG WL_thing := by
    intro w hw
    rcases List.mem_cons.mp hw with rfl | hw
    · exact ⟨h_at_ok (pos := 1204) (by decide +kernel), good_of_word (by decide +kernel)⟩
    · exact ⟨hw, good_of_word (big_good _ hw)⟩
  have cw : vx_CSW (mRm mt_L_law) s args RL 45 yL_thing cL_thing 5 (some .int) [(0, 10, 13, 13)] WL_thing (mRm mt_L_thing) 64 64 4 := by
    refine ⟨⟨rfl, rfl, by decide, by decide, pay_in hbig hgw, List.mem_cons_self⟩, hbig _ (hgw _ List.mem_cons_self).1, hbig _ (h_at_ok (pos := 116) (by decide +kernel)), ⟨by decide +kernel, by decide +kernel⟩, fun sig hs => ?_, hbig _ (h_at_ok (pos := 1202) (by decide +kernel)), hbig _ (h_at_ok (pos := 1203) (by decide +kernel))⟩
    have h2 : (parseMethodDescriptor yL_thing.desc).map (fun d => d.parameters.length) = some 4 := by decide +kernel
    rw [hs] at h2
    exact (Option.some.inj h2).symm
  have hd : decode (mC mt_L_law) 362 = .ok (.invokestatic 45, 3) := eLaw_362
  refine s_after (M' := mt_L_thing) (rest := []) (E := E) X (Or.inr (Or.inl rfl)) (vx_runSW (As := [.ref qx, .int p0, .int p1, .ref qo]) (rest := []) ⟨X.1, X.2.1, X.2.2.1, X.2.2.2.2.1, hbig⟩ met cw ⟨px_blind, fun U hU hW => ⟨rfl, by rw [hU], by rw [hU]; exact a5.2.1, KK.warm hW X.2.2.2.2.2.2.1, a5.2.2.1.weaken (fun _ _ _ _ => trivial), XK.warm hXK hW hU a5.2.2.2 hF⟩⟩ rfl rfl a1.1 rfl (lv_room (by decide)) hd ⟨hnc, hns⟩) a1 a2 trivial a5 a6 (fun o ho => ?_)
  rcases List.mem_cons.mp ho with rfl | ho
  · exact k
  · cases ho
def mt_X11_person : MT := (yX11_person, cX11_person, 3, some .int, (0, 1, 2, 10), (8, 4, 32, 400), [(0, 0, .aload_n 0, 1), (1, 2, .getfield 33, 3), (4, 0, .iconst 3, 1), (5, 0, .iload_n 1, 1), (6, 4, .invokevirtual 142, 3), (9, 1, .ifCond .ne 13, 3), (12, 16, .new 146, 3)])
theorem td_X11_person : d_chk mt_X11_person = true := by decide +kernel
theorem tm_X11_person : m_chk mt_X11_person (1282, 117, 1280, 1281) = true := by decide +kernel
theorem eL_person_0 : decode cL_person 0 = .ok (.aload_n 3, 1) := by decide +kernel
theorem eL_person_1 : decode cL_person 1 = .ok (.iconst 0, 1) := by decide +kernel
theorem eL_person_2 : decode cL_person 2 = .ok (.aload_n 0, 1) := by decide +kernel
theorem eL_person_3 : decode cL_person 3 = .ok (.iload_n 1, 1) := by decide +kernel
theorem eL_person_4 : decode cL_person 4 = .ok (.iload_n 2, 1) := by decide +kernel
theorem eL_person_5 : decode cL_person 5 = .ok (.invokevirtual 15, 3) := by decide +kernel
theorem eL_person_8 : decode cL_person 8 = .ok (.i2l, 1) := by decide +kernel
theorem eL_person_9 : decode cL_person 9 = .ok (.lastore, 1) := by decide +kernel
theorem eL_person_10 : decode cL_person 10 = .ok (.goto 7, 3) := by decide +kernel
theorem eL_person_13 : decode cL_person 13 = .ok (.astore 4, 2) := by decide +kernel
theorem eL_person_15 : decode cL_person 15 = .ok (.iconst 1, 1) := by decide +kernel
theorem eL_person_16 : decode cL_person 16 = .ok (.ireturn, 1) := by decide +kernel
theorem eL_person_17 : decode cL_person 17 = .ok (.iconst 0, 1) := by decide +kernel
theorem eL_person_18 : decode cL_person 18 = .ok (.ireturn, 1) := by decide +kernel
abbrev WL_person : List Cond := Cond.codeWith yL_person cL_person 5 (some .int) [(0, 10, 13, 13)] :: BIG
abbrev mt_L_person : MT := (yL_person, cL_person, 5, some .int, (0, 0, 4, 99), (10, 64, 64, 500), [])
theorem xs_person {C : List AC} {cuts : List ST} (h : ∀ S ∈ cuts, ∃ (lo : List (Nat × AV)) (E : EV) (nc ns : Nat), (S = (12, lo, [], E, C, nc, ns)) ∧ nc + 1 ≤ 4 ∧ ns + 6 ≤ 32) : ∀ S ∈ cuts, XSite mt_X11_person C S := by
  intro S hS
  obtain ⟨lo, E, nc, ns, h1, h2, h3⟩ := h S hS
  rcases h1 with h1
  · exact ⟨12, lo, E, nc, ns, 169, _, h1, List.mem_cons_of_mem _ List.mem_cons_self, by decide +kernel, by decide +kernel, Or.inl ⟨by decide +kernel, by decide +kernel, by decide +kernel⟩, h2, h3⟩
theorem eLaw_430 : decode code 430 = .ok (.invokestatic 54, 3) := by decide +kernel
set_option maxHeartbeats 4000000 in
theorem lx_person {l : Launch} {D : va_G} {cy : Nat → ClassId} {ν : Nat → Int} {b : Nat} {pool : va_W} {E : EV} {C : List AC} {ws : va_W} {ix qx qo fuel : Nat} {fs : List AV} {p0 p1 : Int32} {cuts : List ST} (sz : Nat) (hl : l.stackTraces = false) (hqx : (alw ws)[ix]? = some qx) (hcx : C[ix]? = some (.inr (10, fs))) (hE : genv ν E) (hW : gW ν b cy C ws) (hg0 : gv ν (alw ws) b (aV 1 0) (.int p0)) (hg1 : gv ν (alw ws) b (aV 2 0) (.int p1))
    (hrun : e_run PRG RTB cuts fuel true false mt_X11_person (mT mt_X11_person) (0, e_args 0 [aR ix, aV 1 0, aV 2 0], [], E, C, 0, 0) = some []) (hsite : ∀ S ∈ cuts, XSite mt_X11_person C S) :
    Met l yL_person WL_person (mRm mt_L_person) (PX D cy pool ws [.ref qx, .int p0, .int p1, .ref qo] sz) (QJ D cy ν b pool (alw ws) [(some (aI 1), E, C)] (va_A (pool ++ ws) sz) (some .int)) 64 64 (va_A (pool ++ ws) sz) := by
  refine va_MetW (cc := cL_person) (maxL := 5) (ret := some .int) (hh := [(0, 10, 13, 13)]) (by decide +kernel) rfl ?_
  intro p e s m args below meth c s₁ B hml hv
  obtain ⟨rfl, hsz, hP, hK, hD0, hX⟩ := hv
  have hx9 := B.exec
  have hb := B.bytes
  have hr := B.returns
  have hts := atoms_spec (ws := WL_person) B.pre
  have hbig : ∀ w ∈ BIG, w.before [.ref qx, .int p0, .int p1, .ref qo].toArray s = true := fun w hw => hts w (List.mem_cons_of_mem _ hw)
  have hown : s.vm.findClass RL = some m.cls := findClass_of_methodNamed B.named
  have hlocks := B.notSynchronized
  have htab := vx_table (x := yL_person) B (hts _ List.mem_cons_self)
  subst hsz
  have met := x_met (l := l) (D := D) (cy := cy) (ν := ν) (b := b) (pool := pool) (M := mt_X11_person) (as := [aR ix, aV 1 0, aV 2 0]) (vs := [.ref qx, .int p0, .int p1]) (E := E) (C := C) (ws := ws) (cuts := cuts) (fuel := fuel) s.heap.size hl (by decide +kernel) rfl (m_chk_ok tm_X11_person td_X11_person).1 (m_chk_ok tm_X11_person td_X11_person).2.1 (m_chk_ok tm_X11_person td_X11_person).2.2 ⟨⟨qx, hqx, rfl⟩, hg0, hg1, trivial⟩ hE hW (Nat.le_of_ble_eq_true rfl) (by decide) (by decide) hrun hsite
  have mok := (m_chk_ok tm_X11_person td_X11_person).1
  have hD := hD0.self (sz := s.heap.size)
  generalize hAe : va_A (pool ++ ws) s.heap.size = A at hD hX met ⊢
  have hS : va_S A s.heap s.heap [] := va_S.rf
  have hlv := lv_entry ([.ref qx, .int p0, .int p1, .ref qo]) (n := 5) (Nat.le_of_ble_eq_true rfl)
  rw [lg_entry_eq]
  generalize (lg_sl ([.ref qx, .int p0, .int p1, .ref qo]) ++ List.replicate (5 - (lg_sl ([.ref qx, .int p0, .int p1, .ref qo])).length) Slot.unset).toArray = ls at hlv ⊢
  have hlv : lv_has ls 5 [(0, .ref qx), (1, .int p0), (2, .int p1), (3, .ref qo)] := hlv
  refine lv_aload_n hx9 hb eL_person_0 rfl (lv_at hlv 3 rfl) ?_
  refine lv_iconst (v := 0) hx9 hb eL_person_1 (by decide) ?_
  refine lv_aload_n hx9 hb eL_person_2 rfl (lv_at hlv 0 rfl) ?_
  refine lv_iload_n hx9 hb eL_person_3 rfl (lv_at hlv 1 rfl) ?_
  refine lv_iload_n hx9 hb eL_person_4 rfl (lv_at hlv 2 rfl) ?_
  have cB : CallB (mRm mt_L_person) s [.ref qx, .int p0, .int p1, .ref qo].toArray RL 15 (mY mt_X11_person) (mC mt_X11_person) (mL mt_X11_person) (mR mt_X11_person) (mW mt_X11_person) (mRm mt_X11_person) 4 32 2 := callB_of 2 hbig (mW_good mok) rfl rfl rfl (hbig _ mok.2.2.1) (hbig _ (h_at_ok (pos := 1279) (by decide +kernel))) ⟨mok.2.2.2.1.1, mok.2.2.2.1.2, mok.2.2.2.2.1⟩ ⟨by decide, by decide⟩
  obtain ⟨q', e', h1, h2, fvs, rfl, h3⟩ := gW_at hW hcx
  rw [hqx] at h2
  cases h2
  have hrecv := va_recv (q0 := pool.length + ix) hK.1 hP (show vwCl[10]? = some (RX11, TX11, 18) from rfl) (pw_at h1)
  refine vx_calli (A0 := A) (H0 := s.heap) (vx_runV (C := RX11) (As := [.int p0, .int p1]) (rest := [.int 0, .ref qo]) ⟨hx9, hb, hml, hown, hbig⟩ met ⟨cB, hbig _ (mok.2.2.2.2.2.2.1 rfl).1, hbig _ (mok.2.2.2.2.2.2.1 rfl).2.1⟩ ⟨px_blind, hrecv, fun U hU hW9 => ⟨rfl, by rw [hU], by rw [hU]; exact hP, KK.warm hW9 hK, hD0, by rw [hAe]; exact XK.warm hX hW9 hU hS (fun _ h => h)⟩⟩ rfl rfl hlv.1 rfl (lv_room (Nat.le_of_ble_eq_true rfl)) eL_person_5 ⟨by decide, by decide⟩) hS (fun q _ h => h) (fun q h => h) (fun q _ h => h) ?_ ?_
  · intro E9 ce q9 u t H1 locs1 ht hvm hpx hBX hz hk hS1 hcell hcv hcl
    obtain ⟨hE9, g1, g2⟩ := hBX
    subst hE9
    have hcast : (Cond.castable xNS xNS).before [.ref qx, .int p0, .int p1, .ref qo].toArray s = true := va_Nw.use rfl (hX.1 _ (by decide +kernel))
    refine vx_catch hown [] ⟨0, 10, 13, 13⟩ [] (by rw [htab]; rfl) (fun z hz => by cases hz) (by decide) (by decide) (hbig _ (h_at_ok (w := .classLink RL 13 xNS) (pos := 1205) (by decide +kernel))) hcast hcell hcv hcl ?_
    refine lv_astore (lv' := [(4, .ref q9), (0, .ref qx), (1, .int p0), (2, .int p1), (3, .ref qo)]) hx9 hb eL_person_13 hlv (by decide) rfl (fun ls hl2 => ?_)
    refine lv_iconst (v := 1) hx9 hb eL_person_15 (by decide) ?_
    refine W.widen (k := 64) (n := 64) (by decide) (by decide) ?_
    exact W.iret hx9 hb hr (fun t2 ht2 hW2 => ⟨⟨1, (u, (some (aI 1), E, C)), rfl, ⟨⟨List.mem_cons_self, hE, hpx.1, hpx.2⟩, aI 1, rfl, ⟨1, rfl, by decide, by decide⟩⟩, ⟨by rw [ht2, ← ht]; exact g1, g2⟩⟩, hS1.F ht2⟩) hS1.2.2 eL_person_16
  · intro r u t H1 locs1 ht hvm hw
    exact hw.elim
set_option maxHeartbeats 4000000 in
theorem sx_person {l : Launch} {D : va_G} {cy : Nat → ClassId} {ν : Nat → Int} {b : Nat} {pool : va_W} {al0 : List Nat} {p : Program} {e : Env} {s : State} {m : MethodId} {args : Array Value} {below : List Frame} {meth : Method} {c : Code} {A : Nat → Prop} {Q : State → Prop} {lo : List (Nat × AV)} {E : EV} {C : List AC} {nc ns ix io fuel : Nat} {fs : List AV} {cuts : List ST}
    (X : Ctx OWN D cy ν b mt_L_law RL p (mRm mt_L_law) s m args meth c A true) (hl : l.stackTraces = false) (hXK : XK A s) (hcx : C[ix]? = some (.inr (10, fs)))
    (hrun : e_run PRG RTB cuts fuel true false mt_X11_person (mT mt_X11_person) (0, e_args 0 [aR ix, aV 1 0, aV 2 0], [], E, C, 0, 0) = some []) (hsite : ∀ S ∈ cuts, XSite mt_X11_person C S) (hnc : nc + 64 ≤ 600002) (hns : ns + 64 ≤ 7302232)
    (k : Safe D cy ν b pool al0 mt_L_law p l e (mRm mt_L_law) s m args below meth c A Q (430 + 3, lo, [aI 1], E, C, nc + 64, ns + 64)) : Safe D cy ν b pool al0 mt_L_law p l e (mRm mt_L_law) s m args below meth c A Q (430, lo, [aR io, aV 2 0, aV 1 0, aR ix], E, C, nc, ns) := by
  intro H locs ls lv vs ws a1 a2 a3 a4 a5 a6
  simp only at a2 a3 a4 a5 ⊢
  obtain ⟨v0, vs0, rfl, g0, a3⟩ := gvs_cons a3
  obtain ⟨wp1, vsp1, rfl, hp1, a3⟩ := gvs_cons a3
  obtain ⟨wp0, vsp0, rfl, hp0, a3⟩ := gvs_cons a3
  obtain ⟨v9, vs9, rfl, g9, a3⟩ := gvs_cons a3
  have hn := gvs_nil a3
  subst hn
  obtain ⟨qo, hqo, rfl⟩ := g0
  obtain ⟨qx, hqx, rfl⟩ := g9
  obtain ⟨p0, rfl⟩ := gv_isI hp0 rfl
  obtain ⟨p1, rfl⟩ := gv_isI hp1 rfl
  have hbig : ∀ w ∈ BIG, w.before args s = true := X.2.2.2.2.2.1
  have hF : ∀ q, va_A (pool ++ ws) H.size q → A q := by
    intro q hq
    rcases hq with ⟨kq, eq, h1⟩ | h1
    · exact a5.2.2.1.2 _ _ h1
    · exact X.2.2.2.2.2.2.2.1 q (Nat.le_trans a5.2.2.2.1 h1)
  have met := lx_person (l := l) (D := D) (pool := pool) (qo := qo) (p0 := p0) (p1 := p1) H.size hl hqx hcx a4 a5.1 hp0 hp1 hrun hsite
  have hgw : GoodIn BIG WL_person := by
    intro w hw
    rcases List.mem_cons.mp hw with rfl | hw
    · exact ⟨h_at_ok (pos := 1278) (by decide +kernel), good_of_word (by decide +kernel)⟩
    · exact ⟨hw, good_of_word (big_good _ hw)⟩
  have cw : vx_CSW (mRm mt_L_law) s args RL 54 yL_person cL_person 5 (some .int) [(0, 10, 13, 13)] WL_person (mRm mt_L_person) 64 64 4 := by
    refine ⟨⟨rfl, rfl, by decide, by decide, pay_in hbig hgw, List.mem_cons_self⟩, hbig _ (hgw _ List.mem_cons_self).1, hbig _ (h_at_ok (pos := 116) (by decide +kernel)), ⟨by decide +kernel, by decide +kernel⟩, fun sig hs => ?_, hbig _ (h_at_ok (pos := 1276) (by decide +kernel)), hbig _ (h_at_ok (pos := 1277) (by decide +kernel))⟩
    have h2 : (parseMethodDescriptor yL_person.desc).map (fun d => d.parameters.length) = some 4 := by decide +kernel
    rw [hs] at h2
    exact (Option.some.inj h2).symm
  have hd : decode (mC mt_L_law) 430 = .ok (.invokestatic 54, 3) := eLaw_430
  refine s_after (M' := mt_L_person) (rest := []) (E := E) X (Or.inr (Or.inl rfl)) (vx_runSW (As := [.ref qx, .int p0, .int p1, .ref qo]) (rest := []) ⟨X.1, X.2.1, X.2.2.1, X.2.2.2.2.1, hbig⟩ met cw ⟨px_blind, fun U hU hW => ⟨rfl, by rw [hU], by rw [hU]; exact a5.2.1, KK.warm hW X.2.2.2.2.2.2.1, a5.2.2.1.weaken (fun _ _ _ _ => trivial), XK.warm hXK hW hU a5.2.2.2 hF⟩⟩ rfl rfl a1.1 rfl (lv_room (by decide)) hd ⟨hnc, hns⟩) a1 a2 trivial a5 a6 (fun o ho => ?_)
  rcases List.mem_cons.mp ho with rfl | ho
  · exact k
  · cases ho
def mt_X11_slip : MT := (yX11_slip, cX11_slip, 8, some .int, (0, 1, 3, 10), (8, 4, 32, 400), [(0, 0, .iload_n 3, 1), (1, 1, .ifCond .eq 19, 3), (4, 0, .iload_n 3, 1), (5, 0, .iconst 1, 1), (6, 1, .if_icmp .eq 14, 3), (9, 16, .new 146, 3), (20, 0, .aload_n 0, 1), (21, 2, .getfield 33, 3), (24, 0, .iconst 2, 1), (25, 0, .iload_n 1, 1), (26, 4, .invokevirtual 142, 3), (29, 1, .ifCond .eq 15, 3), (32, 0, .aload_n 0, 1), (33, 2, .getfield 33, 3), (36, 0, .iconst 3, 1), (37, 0, .iload_n 2, 1), (38, 4, .invokevirtual 142, 3), (41, 1, .ifCond .ne 14, 3), (44, 16, .new 146, 3)])
theorem td_X11_slip : d_chk mt_X11_slip = true := by decide +kernel
theorem tm_X11_slip : m_chk mt_X11_slip (1293, 117, 1291, 1292) = true := by decide +kernel
theorem eL_slip_0 : decode cL_slip 0 = .ok (.aload 4, 2) := by decide +kernel
theorem eL_slip_2 : decode cL_slip 2 = .ok (.iconst 0, 1) := by decide +kernel
theorem eL_slip_3 : decode cL_slip 3 = .ok (.aload_n 0, 1) := by decide +kernel
theorem eL_slip_4 : decode cL_slip 4 = .ok (.iload_n 1, 1) := by decide +kernel
theorem eL_slip_5 : decode cL_slip 5 = .ok (.iload_n 2, 1) := by decide +kernel
theorem eL_slip_6 : decode cL_slip 6 = .ok (.iload_n 3, 1) := by decide +kernel
theorem eL_slip_7 : decode cL_slip 7 = .ok (.invokevirtual 18, 3) := by decide +kernel
theorem eL_slip_10 : decode cL_slip 10 = .ok (.i2l, 1) := by decide +kernel
theorem eL_slip_11 : decode cL_slip 11 = .ok (.lastore, 1) := by decide +kernel
theorem eL_slip_12 : decode cL_slip 12 = .ok (.goto 7, 3) := by decide +kernel
theorem eL_slip_15 : decode cL_slip 15 = .ok (.astore 5, 2) := by decide +kernel
theorem eL_slip_17 : decode cL_slip 17 = .ok (.iconst 1, 1) := by decide +kernel
theorem eL_slip_18 : decode cL_slip 18 = .ok (.ireturn, 1) := by decide +kernel
theorem eL_slip_19 : decode cL_slip 19 = .ok (.iconst 0, 1) := by decide +kernel
theorem eL_slip_20 : decode cL_slip 20 = .ok (.ireturn, 1) := by decide +kernel
abbrev WL_slip : List Cond := Cond.codeWith yL_slip cL_slip 6 (some .int) [(0, 12, 15, 13)] :: BIG
abbrev mt_L_slip : MT := (yL_slip, cL_slip, 6, some .int, (0, 0, 5, 99), (10, 64, 64, 500), [])
theorem xs_slip {C : List AC} {cuts : List ST} (h : ∀ S ∈ cuts, ∃ (lo : List (Nat × AV)) (E : EV) (nc ns : Nat), (S = (9, lo, [], E, C, nc, ns) ∨ S = (44, lo, [], E, C, nc, ns)) ∧ nc + 1 ≤ 4 ∧ ns + 6 ≤ 32) : ∀ S ∈ cuts, XSite mt_X11_slip C S := by
  intro S hS
  obtain ⟨lo, E, nc, ns, h1, h2, h3⟩ := h S hS
  rcases h1 with h1 | h1
  · exact ⟨9, lo, E, nc, ns, 281, _, h1, List.mem_cons_of_mem _ (List.mem_cons_of_mem _ List.mem_cons_self), by decide +kernel, by decide +kernel, Or.inr ⟨by decide +kernel, by decide +kernel, by decide +kernel⟩, h2, h3⟩
  · exact ⟨44, lo, E, nc, ns, 283, _, h1, List.mem_cons_of_mem _ (List.mem_cons_of_mem _ (List.mem_cons_of_mem _ List.mem_cons_self)), by decide +kernel, by decide +kernel, Or.inr ⟨by decide +kernel, by decide +kernel, by decide +kernel⟩, h2, h3⟩
theorem eLaw_962 : decode code 962 = .ok (.invokestatic 114, 3) := by decide +kernel
set_option maxHeartbeats 4000000 in
theorem lx_slip {l : Launch} {D : va_G} {cy : Nat → ClassId} {ν : Nat → Int} {b : Nat} {pool : va_W} {E : EV} {C : List AC} {ws : va_W} {ix qx qo fuel : Nat} {fs : List AV} {p0 p1 p2 : Int32} {cuts : List ST} (sz : Nat) (hl : l.stackTraces = false) (hqx : (alw ws)[ix]? = some qx) (hcx : C[ix]? = some (.inr (10, fs))) (hE : genv ν E) (hW : gW ν b cy C ws) (hg0 : gv ν (alw ws) b (aV 1 0) (.int p0)) (hg1 : gv ν (alw ws) b (aV 2 0) (.int p1)) (hg2 : gv ν (alw ws) b (aV 3 0) (.int p2))
    (hrun : e_run PRG RTB cuts fuel true false mt_X11_slip (mT mt_X11_slip) (0, e_args 0 [aR ix, aV 1 0, aV 2 0, aV 3 0], [], E, C, 0, 0) = some []) (hsite : ∀ S ∈ cuts, XSite mt_X11_slip C S) :
    Met l yL_slip WL_slip (mRm mt_L_slip) (PX D cy pool ws [.ref qx, .int p0, .int p1, .int p2, .ref qo] sz) (QJ D cy ν b pool (alw ws) [(some (aI 1), E, C)] (va_A (pool ++ ws) sz) (some .int)) 64 64 (va_A (pool ++ ws) sz) := by
  refine va_MetW (cc := cL_slip) (maxL := 6) (ret := some .int) (hh := [(0, 12, 15, 13)]) (by decide +kernel) rfl ?_
  intro p e s m args below meth c s₁ B hml hv
  obtain ⟨rfl, hsz, hP, hK, hD0, hX⟩ := hv
  have hx9 := B.exec
  have hb := B.bytes
  have hr := B.returns
  have hts := atoms_spec (ws := WL_slip) B.pre
  have hbig : ∀ w ∈ BIG, w.before [.ref qx, .int p0, .int p1, .int p2, .ref qo].toArray s = true := fun w hw => hts w (List.mem_cons_of_mem _ hw)
  have hown : s.vm.findClass RL = some m.cls := findClass_of_methodNamed B.named
  have hlocks := B.notSynchronized
  have htab := vx_table (x := yL_slip) B (hts _ List.mem_cons_self)
  subst hsz
  have met := x_met (l := l) (D := D) (cy := cy) (ν := ν) (b := b) (pool := pool) (M := mt_X11_slip) (as := [aR ix, aV 1 0, aV 2 0, aV 3 0]) (vs := [.ref qx, .int p0, .int p1, .int p2]) (E := E) (C := C) (ws := ws) (cuts := cuts) (fuel := fuel) s.heap.size hl (by decide +kernel) rfl (m_chk_ok tm_X11_slip td_X11_slip).1 (m_chk_ok tm_X11_slip td_X11_slip).2.1 (m_chk_ok tm_X11_slip td_X11_slip).2.2 ⟨⟨qx, hqx, rfl⟩, hg0, hg1, hg2, trivial⟩ hE hW (Nat.le_of_ble_eq_true rfl) (by decide) (by decide) hrun hsite
  have mok := (m_chk_ok tm_X11_slip td_X11_slip).1
  have hD := hD0.self (sz := s.heap.size)
  generalize hAe : va_A (pool ++ ws) s.heap.size = A at hD hX met ⊢
  have hS : va_S A s.heap s.heap [] := va_S.rf
  have hlv := lv_entry ([.ref qx, .int p0, .int p1, .int p2, .ref qo]) (n := 6) (Nat.le_of_ble_eq_true rfl)
  rw [lg_entry_eq]
  generalize (lg_sl ([.ref qx, .int p0, .int p1, .int p2, .ref qo]) ++ List.replicate (6 - (lg_sl ([.ref qx, .int p0, .int p1, .int p2, .ref qo])).length) Slot.unset).toArray = ls at hlv ⊢
  have hlv : lv_has ls 6 [(0, .ref qx), (1, .int p0), (2, .int p1), (3, .int p2), (4, .ref qo)] := hlv
  refine lv_aload hx9 hb eL_slip_0 (lv_at hlv 4 rfl) ?_
  refine lv_iconst (v := 0) hx9 hb eL_slip_2 (by decide) ?_
  refine lv_aload_n hx9 hb eL_slip_3 rfl (lv_at hlv 0 rfl) ?_
  refine lv_iload_n hx9 hb eL_slip_4 rfl (lv_at hlv 1 rfl) ?_
  refine lv_iload_n hx9 hb eL_slip_5 rfl (lv_at hlv 2 rfl) ?_
  refine lv_iload_n hx9 hb eL_slip_6 rfl (lv_at hlv 3 rfl) ?_
  have cB : CallB (mRm mt_L_slip) s [.ref qx, .int p0, .int p1, .int p2, .ref qo].toArray RL 18 (mY mt_X11_slip) (mC mt_X11_slip) (mL mt_X11_slip) (mR mt_X11_slip) (mW mt_X11_slip) (mRm mt_X11_slip) 4 32 3 := callB_of 3 hbig (mW_good mok) rfl rfl rfl (hbig _ mok.2.2.1) (hbig _ (h_at_ok (pos := 1290) (by decide +kernel))) ⟨mok.2.2.2.1.1, mok.2.2.2.1.2, mok.2.2.2.2.1⟩ ⟨by decide, by decide⟩
  obtain ⟨q', e', h1, h2, fvs, rfl, h3⟩ := gW_at hW hcx
  rw [hqx] at h2
  cases h2
  have hrecv := va_recv (q0 := pool.length + ix) hK.1 hP (show vwCl[10]? = some (RX11, TX11, 18) from rfl) (pw_at h1)
  refine vx_calli (A0 := A) (H0 := s.heap) (vx_runV (C := RX11) (As := [.int p0, .int p1, .int p2]) (rest := [.int 0, .ref qo]) ⟨hx9, hb, hml, hown, hbig⟩ met ⟨cB, hbig _ (mok.2.2.2.2.2.2.1 rfl).1, hbig _ (mok.2.2.2.2.2.2.1 rfl).2.1⟩ ⟨px_blind, hrecv, fun U hU hW9 => ⟨rfl, by rw [hU], by rw [hU]; exact hP, KK.warm hW9 hK, hD0, by rw [hAe]; exact XK.warm hX hW9 hU hS (fun _ h => h)⟩⟩ rfl rfl hlv.1 rfl (lv_room (Nat.le_of_ble_eq_true rfl)) eL_slip_7 ⟨by decide, by decide⟩) hS (fun q _ h => h) (fun q h => h) (fun q _ h => h) ?_ ?_
  · intro E9 ce q9 u t H1 locs1 ht hvm hpx hBX hz hk hS1 hcell hcv hcl
    obtain ⟨hE9, g1, g2⟩ := hBX
    subst hE9
    have hcast : (Cond.castable xNS xNS).before [.ref qx, .int p0, .int p1, .int p2, .ref qo].toArray s = true := va_Nw.use rfl (hX.1 _ (by decide +kernel))
    refine vx_catch hown [] ⟨0, 12, 15, 13⟩ [] (by rw [htab]; rfl) (fun z hz => by cases hz) (by decide) (by decide) (hbig _ (h_at_ok (w := .classLink RL 13 xNS) (pos := 1205) (by decide +kernel))) hcast hcell hcv hcl ?_
    refine lv_astore (lv' := [(5, .ref q9), (0, .ref qx), (1, .int p0), (2, .int p1), (3, .int p2), (4, .ref qo)]) hx9 hb eL_slip_15 hlv (by decide) rfl (fun ls hl2 => ?_)
    refine lv_iconst (v := 1) hx9 hb eL_slip_17 (by decide) ?_
    refine W.widen (k := 64) (n := 64) (by decide) (by decide) ?_
    exact W.iret hx9 hb hr (fun t2 ht2 hW2 => ⟨⟨1, (u, (some (aI 1), E, C)), rfl, ⟨⟨List.mem_cons_self, hE, hpx.1, hpx.2⟩, aI 1, rfl, ⟨1, rfl, by decide, by decide⟩⟩, ⟨by rw [ht2, ← ht]; exact g1, g2⟩⟩, hS1.F ht2⟩) hS1.2.2 eL_slip_18
  · intro r u t H1 locs1 ht hvm hw
    exact hw.elim
set_option maxHeartbeats 4000000 in
theorem sx_slip {l : Launch} {D : va_G} {cy : Nat → ClassId} {ν : Nat → Int} {b : Nat} {pool : va_W} {al0 : List Nat} {p : Program} {e : Env} {s : State} {m : MethodId} {args : Array Value} {below : List Frame} {meth : Method} {c : Code} {A : Nat → Prop} {Q : State → Prop} {lo : List (Nat × AV)} {E : EV} {C : List AC} {nc ns ix io fuel : Nat} {fs : List AV} {cuts : List ST}
    (X : Ctx OWN D cy ν b mt_L_law RL p (mRm mt_L_law) s m args meth c A true) (hl : l.stackTraces = false) (hXK : XK A s) (hcx : C[ix]? = some (.inr (10, fs)))
    (hrun : e_run PRG RTB cuts fuel true false mt_X11_slip (mT mt_X11_slip) (0, e_args 0 [aR ix, aV 1 0, aV 2 0, aV 3 0], [], E, C, 0, 0) = some []) (hsite : ∀ S ∈ cuts, XSite mt_X11_slip C S) (hnc : nc + 64 ≤ 600002) (hns : ns + 64 ≤ 7302232)
    (k : Safe D cy ν b pool al0 mt_L_law p l e (mRm mt_L_law) s m args below meth c A Q (962 + 3, lo, [aI 1], E, C, nc + 64, ns + 64)) : Safe D cy ν b pool al0 mt_L_law p l e (mRm mt_L_law) s m args below meth c A Q (962, lo, [aR io, aV 3 0, aV 2 0, aV 1 0, aR ix], E, C, nc, ns) := by
  intro H locs ls lv vs ws a1 a2 a3 a4 a5 a6
  simp only at a2 a3 a4 a5 ⊢
  obtain ⟨v0, vs0, rfl, g0, a3⟩ := gvs_cons a3
  obtain ⟨wp2, vsp2, rfl, hp2, a3⟩ := gvs_cons a3
  obtain ⟨wp1, vsp1, rfl, hp1, a3⟩ := gvs_cons a3
  obtain ⟨wp0, vsp0, rfl, hp0, a3⟩ := gvs_cons a3
  obtain ⟨v9, vs9, rfl, g9, a3⟩ := gvs_cons a3
  have hn := gvs_nil a3
  subst hn
  obtain ⟨qo, hqo, rfl⟩ := g0
  obtain ⟨qx, hqx, rfl⟩ := g9
  obtain ⟨p0, rfl⟩ := gv_isI hp0 rfl
  obtain ⟨p1, rfl⟩ := gv_isI hp1 rfl
  obtain ⟨p2, rfl⟩ := gv_isI hp2 rfl
  have hbig : ∀ w ∈ BIG, w.before args s = true := X.2.2.2.2.2.1
  have hF : ∀ q, va_A (pool ++ ws) H.size q → A q := by
    intro q hq
    rcases hq with ⟨kq, eq, h1⟩ | h1
    · exact a5.2.2.1.2 _ _ h1
    · exact X.2.2.2.2.2.2.2.1 q (Nat.le_trans a5.2.2.2.1 h1)
  have met := lx_slip (l := l) (D := D) (pool := pool) (qo := qo) (p0 := p0) (p1 := p1) (p2 := p2) H.size hl hqx hcx a4 a5.1 hp0 hp1 hp2 hrun hsite
  have hgw : GoodIn BIG WL_slip := by
    intro w hw
    rcases List.mem_cons.mp hw with rfl | hw
    · exact ⟨h_at_ok (pos := 1289) (by decide +kernel), good_of_word (by decide +kernel)⟩
    · exact ⟨hw, good_of_word (big_good _ hw)⟩
  have cw : vx_CSW (mRm mt_L_law) s args RL 114 yL_slip cL_slip 6 (some .int) [(0, 12, 15, 13)] WL_slip (mRm mt_L_slip) 64 64 5 := by
    refine ⟨⟨rfl, rfl, by decide, by decide, pay_in hbig hgw, List.mem_cons_self⟩, hbig _ (hgw _ List.mem_cons_self).1, hbig _ (h_at_ok (pos := 116) (by decide +kernel)), ⟨by decide +kernel, by decide +kernel⟩, fun sig hs => ?_, hbig _ (h_at_ok (pos := 1287) (by decide +kernel)), hbig _ (h_at_ok (pos := 1288) (by decide +kernel))⟩
    have h2 : (parseMethodDescriptor yL_slip.desc).map (fun d => d.parameters.length) = some 5 := by decide +kernel
    rw [hs] at h2
    exact (Option.some.inj h2).symm
  have hd : decode (mC mt_L_law) 962 = .ok (.invokestatic 114, 3) := eLaw_962
  refine s_after (M' := mt_L_slip) (rest := []) (E := E) X (Or.inr (Or.inl rfl)) (vx_runSW (As := [.ref qx, .int p0, .int p1, .int p2, .ref qo]) (rest := []) ⟨X.1, X.2.1, X.2.2.1, X.2.2.2.2.1, hbig⟩ met cw ⟨px_blind, fun U hU hW => ⟨rfl, by rw [hU], by rw [hU]; exact a5.2.1, KK.warm hW X.2.2.2.2.2.2.1, a5.2.2.1.weaken (fun _ _ _ _ => trivial), XK.warm hXK hW hU a5.2.2.2 hF⟩⟩ rfl rfl a1.1 rfl (lv_room (by decide)) hd ⟨hnc, hns⟩) a1 a2 trivial a5 a6 (fun o ho => ?_)
  rcases List.mem_cons.mp ho with rfl | ho
  · exact k
  · cases ho
end
section
/-! the states at which the law is cut, and the runs (written by wip/p1/genrun.py) -/
def CF : List AC := [.inr (10, [aR 1, aR 3, aR 7, aR 22, aR 29, aR 31, aR 37, aR 40, aR 42, aR 43, aR 44, aR 45, aI 0, aN, aI 0, aI (-1), aI (-1), aI (-1)]), .inr (8, [aR 2, aI 0]), .inl (1, 940, aI 0, []), .inr (9, [aR 1, aR 4, aR 5, aR 6, aI 0, aI 0, aI 0, aI 0, aL 0 0, aI 0, aI 0]), .inl (0, 941, aI 0, []), .inl (0, 941, aI 0, []), .inl (3, 941, aL 0 0, []), .inr (6, [aR 8, aR 16, aR 17, aR 18, aR 19, aR 20, aR 21, aI 0, aI 0, aI 0]), .inr (1, [aR 9, aR 10, aR 11, aR 12, aR 13, aR 14, aR 15, aI 0, aI 0]), .inl (0, 8, aI 0, [(7, aI 5), (6, aI 2), (5, aI 1), (4, aI 3)]), .inl (3, 40, aL 0 0, []), .inl (0, 8, aI 0, []), .inl (0, 8, aI 0, []), .inl (0, 6, aI 0, []), .inl (0, 6, aI 0, []), .inl (0, 6, aI 0, []), .inl (0, 8, aI 0, []), .inl (0, 8, aI 0, []), .inl (0, 8, aI 0, []), .inl (0, 6, aI 0, []), .inl (0, 6, aI 0, []), .inl (0, 6, aI 0, []), .inr (6, [aR 8, aR 23, aR 24, aR 25, aR 26, aR 27, aR 28, aI 0, aI 0, aI 0]), .inl (0, 8, aI 0, []), .inl (0, 8, aI 0, []), .inl (0, 8, aI 0, []), .inl (0, 6, aI 0, []), .inl (0, 6, aI 0, []), .inl (0, 6, aI 0, []), .inr (4, [aR 30, aI 0, aI 0]), .inl (4, 9, aN, []), .inr (0, [aR 32, aR 33, aR 34, aR 35, aI 0, aR 36]), .inl (0, 40, aI 0, []), .inl (0, 40, aI 0, []), .inl (0, 40, aI 0, []), .inl (0, 40, aI 0, []), .inl (0, 4, aI 0, [(3, aI (-1)), (2, aI (-1)), (1, aI (-1)), (0, aI (-1))]), .inr (5, [aR 38, aR 39]), .inl (0, 8, aI 0, [(7, aI (-1)), (6, aI (-1)), (5, aI (-1)), (4, aI (-1)), (3, aI (-1)), (2, aI (-1)), (1, aI (-1)), (0, aI (-1))]), .inl (0, 10, aI 0, []), .inr (2, [aR 41, aI (-1), aI (-1)]), .inl (0, 8, aI 0, []), .inr (3, [aI 0]), .inl (4, 2, aN, []), .inl (5, 2, aN, []), .inl (1, 96, aI 0, []), .inr (11, [aI 0, aR 47, aI 0, aI 0, aI 0, aI 0, aR 48, aR 49, aR 50, aR 51, aR 52, aI 0, aI 0, aI 0, aI 0, aI 0, aI 0, aL 0 0, aI 0, aI 0, aI 0, aR 53, aR 54, aI 0, aI 0, aI 0, aI 0, aI 0, aI 0, aI 0, aI 0, aI 0, aI 0, aR 55, aR 56, aR 57, aI 0, aR 58, aI 0, aI 0, aI 0, aR 59, aI 0, aR 60, aI 0, aI 0, aI 0, aI 0, aI 0, aR 61, aR 62, aR 63, aR 64]), .inl (1, 940, aI 0, []), .inl (0, 269, aI 0, [(7, aI 5), (6, aI 2), (5, aI 1), (4, aI 3)]), .inl (0, 43, aI 0, [(7, aI 5), (6, aI 2), (5, aI 1), (4, aI 3)]), .inl (0, 160, aI 0, []), .inl (3, 56, aL 0 0, []), .inl (3, 29, aL 0 0, [(28, aL 121450625394034 121450625394034), (27, aL 474080961892 474080961892), (26, aL 469786323827 469786323827), (25, aL 2003399784 2003399784), (24, aL 24948 24948), (23, aL 6840691 6840691), (22, aL 1819242085 1819242085), (21, aL 27973166868030820 27973166868030820), (20, aL 7237492 7237492), (19, aL 6385252 6385252), (18, aL 28530 28530), (17, aL 6578553 6578553), (16, aL 119182682386035 119182682386035), (15, aL 1886745715 1886745715), (14, aL 123623812527219 123623812527219), (13, aL 474080961907 474080961907), (12, aL 1634954099 1634954099), (11, aL 1735353715 1735353715), (10, aL 1717662580 1717662580), (9, aL 2002872165 2002872165), (8, aL 1835627621 1835627621), (7, aL 1718185573 1718185573), (6, aL 461414299507 461414299507), (5, aL 28832984742848366 28832984742848366), (4, aL 123581014175598 123581014175598), (3, aL 26995 26995), (2, aL 499967946343 499967946343), (1, aL 1835102827 1835102827), (0, aL 482854658917 482854658917)]), .inl (0, 360, aI 0, []), .inl (0, 45, aI 0, []), .inl (0, 10, aI 0, []), .inl (0, 8, aI 0, []), .inl (0, 8, aI 0, []), .inl (1, 96, aI 0, []), .inl (0, 4, aI 0, []), .inl (0, 45, aI 0, []), .inl (2, 45, aI 0, []), .inl (0, 538, aI 0, []), .inl (3, 56, aL 0 0, []), .inl (2, 2, aI 0, []), .inl (3, 1, aL 0 0, [])]
def SC_362 : ST := (362, [(4, aI 0), (3, aR 65), (2, aR 46), (1, aR 0), (0, aS)], [aR 65, aV 2 0, aV 1 0, aR 0], [((-2147483648), 2147483647), ((-2147483648), 2147483647), ((-2147483648), 2147483647), ((-2147483648), 2147483647), ((-2147483648), 2147483647), ((-2147483648), 2147483647), (6, 6)], CF, 66, 7071)
def SC_430 : ST := (430, [(4, aI 0), (3, aR 65), (2, aR 46), (1, aR 0), (0, aS)], [aR 65, aV 2 0, aV 1 0, aR 0], [((-2147483648), 2147483647), ((-2147483648), 2147483647), ((-2147483648), 2147483647), ((-2147483648), 2147483647), ((-2147483648), 2147483647), ((-2147483648), 2147483647), (6, 6)], CF, 66, 7071)
def SC_962 : ST := (962, [(4, aI 0), (3, aR 65), (2, aR 46), (1, aR 0), (0, aS)], [aR 65, aV 3 0, aV 2 0, aV 1 0, aR 0], [((-2147483648), 2147483647), ((-2147483648), 2147483647), ((-2147483648), 2147483647), ((-2147483648), 2147483647), ((-2147483648), 2147483647), ((-2147483648), 2147483647), (6, 6)], CF, 66, 7071)
def SC_778_0 : ST := (778, [(4, aI 0), (3, aR 65), (2, aR 46), (1, aR 0), (0, aS)], [aV 1 0], [((-2147483648), 2147483647), (1, 60), ((-2147483648), 2147483647), ((-2147483648), 2147483647), ((-2147483648), 2147483647), ((-2147483648), 2147483647), (6, 6)], [.inr (10, [aR 1, aR 3, aR 7, aR 22, aR 29, aR 31, aR 37, aR 40, aR 42, aR 43, aR 44, aR 45, aI 0, aN, aI 0, aI (-1), aI (-1), aI (-1)]), .inr (8, [aR 2, aI 0]), .inl (1, 940, aI 0, []), .inr (9, [aR 1, aR 4, aR 5, aR 6, aI 0, aI 0, aI 0, aI 0, aL 0 0, aI 0, aI 0]), .inl (0, 941, aI 0, []), .inl (0, 941, aI 0, []), .inl (3, 941, aL 0 0, []), .inr (6, [aR 8, aR 16, aR 17, aR 18, aR 19, aR 20, aR 21, .inl (1, 60), aI 0, aI 0]), .inr (1, [aR 9, aR 10, aR 11, aR 12, aR 13, aR 14, aR 15, aI 0, aI 0]), .inl (0, 8, aI 0, [(7, aI 5), (6, aI 2), (5, aI 1), (4, aI 3)]), .inl (3, 40, aL 0 0, []), .inl (0, 8, aI 0, []), .inl (0, 8, aI 0, []), .inl (0, 6, aI 0, []), .inl (0, 6, aI 0, []), .inl (0, 6, aI 0, []), .inl (0, 8, aI 0, []), .inl (0, 8, aI 0, []), .inl (0, 8, aI 0, []), .inl (0, 6, aI 0, []), .inl (0, 6, aI 0, []), .inl (0, 6, aI 0, []), .inr (6, [aR 8, aR 23, aR 24, aR 25, aR 26, aR 27, aR 28, aI 0, aI 0, aI 0]), .inl (0, 8, aI 0, []), .inl (0, 8, aI 0, []), .inl (0, 8, aI 0, []), .inl (0, 6, aI 0, []), .inl (0, 6, aI 0, []), .inl (0, 6, aI 0, []), .inr (4, [aR 30, aI 0, aI 1]), .inl (4, 9, aN, [(0, aR 66)]), .inr (0, [aR 32, aR 33, aR 34, aR 35, aI 0, aR 36]), .inl (0, 40, aI 0, []), .inl (0, 40, aI 0, []), .inl (0, 40, aI 0, []), .inl (0, 40, aI 0, []), .inl (0, 4, aI 0, [(3, aI (-1)), (2, aI (-1)), (1, aI (-1)), (0, aI (-1))]), .inr (5, [aR 38, aR 39]), .inl (0, 8, aI 0, [(7, aI (-1)), (6, aI (-1)), (5, aI (-1)), (4, aI (-1)), (3, aI (-1)), (2, aI (-1)), (1, aI (-1)), (0, aI (-1))]), .inl (0, 10, aI 0, []), .inr (2, [aR 41, aI (-1), aI (-1)]), .inl (0, 8, aI 0, []), .inr (3, [aI 0]), .inl (4, 2, aN, []), .inl (5, 2, aN, []), .inl (1, 96, aI 0, []), .inr (11, [aI 0, aR 47, aI 0, aI 0, aI 0, aI 0, aR 48, aR 49, aR 50, aR 51, aR 52, aI 0, aI 0, aI 0, aI 0, aI 0, aI 0, aL 0 0, aI 0, aI 0, aI 0, aR 53, aR 54, aI 0, aI 0, aI 0, aI 0, aI 0, aI 0, aI 0, aI 0, aI 0, aI 0, aR 55, aR 56, aR 57, aI 0, aR 58, aI 0, aI 0, aI 0, aR 59, aI 0, aR 60, aI 0, aI 0, aI 0, aI 0, aI 0, aR 61, aR 62, aR 63, aR 64]), .inl (1, 940, aI 0, []), .inl (0, 269, aI 0, [(7, aI 5), (6, aI 2), (5, aI 1), (4, aI 3)]), .inl (0, 43, aI 0, [(7, aI 5), (6, aI 2), (5, aI 1), (4, aI 3)]), .inl (0, 160, aI 0, []), .inl (3, 56, aL 0 0, []), .inl (3, 29, aL 0 0, [(28, aL 121450625394034 121450625394034), (27, aL 474080961892 474080961892), (26, aL 469786323827 469786323827), (25, aL 2003399784 2003399784), (24, aL 24948 24948), (23, aL 6840691 6840691), (22, aL 1819242085 1819242085), (21, aL 27973166868030820 27973166868030820), (20, aL 7237492 7237492), (19, aL 6385252 6385252), (18, aL 28530 28530), (17, aL 6578553 6578553), (16, aL 119182682386035 119182682386035), (15, aL 1886745715 1886745715), (14, aL 123623812527219 123623812527219), (13, aL 474080961907 474080961907), (12, aL 1634954099 1634954099), (11, aL 1735353715 1735353715), (10, aL 1717662580 1717662580), (9, aL 2002872165 2002872165), (8, aL 1835627621 1835627621), (7, aL 1718185573 1718185573), (6, aL 461414299507 461414299507), (5, aL 28832984742848366 28832984742848366), (4, aL 123581014175598 123581014175598), (3, aL 26995 26995), (2, aL 499967946343 499967946343), (1, aL 1835102827 1835102827), (0, aL 482854658917 482854658917)]), .inl (0, 360, aI 0, []), .inl (0, 45, aI 0, []), .inl (0, 10, aI 0, []), .inl (0, 8, aI 0, []), .inl (0, 8, aI 0, []), .inl (1, 96, aI 0, []), .inl (0, 4, aI 0, []), .inl (0, 45, aI 0, []), .inl (2, 45, aI 0, []), .inl (0, 538, aI 0, []), .inl (3, 56, aL 0 0, []), .inl (2, 2, aI 0, []), .inl (3, 1, aL 0 0, []), .inr (6, [aR 8, aR 67, aR 68, aR 69, aR 70, aR 71, aR 72, aI 0, aI 0, aI 0]), .inl (0, 8, aI 0, []), .inl (0, 8, aI 0, []), .inl (0, 8, aI 0, []), .inl (0, 6, aI 0, []), .inl (0, 6, aI 0, []), .inl (0, 6, aI 0, [])], 73, 7123)
def SC_778_1 : ST := (778, [(4, aI 0), (3, aR 65), (2, aR 46), (1, aR 0), (0, aS)], [aI (-1)], [((-2147483648), 2147483647), ((-2147483648), 0), ((-2147483648), 2147483647), ((-2147483648), 2147483647), ((-2147483648), 2147483647), ((-2147483648), 2147483647), (6, 6)], [.inr (10, [aR 1, aR 3, aR 7, aR 22, aR 29, aR 31, aR 37, aR 40, aR 42, aR 43, aR 44, aR 45, aI 0, aN, aI 0, aI (-1), aI (-1), aI (-1)]), .inr (8, [aR 2, aI 0]), .inl (1, 940, aI 0, []), .inr (9, [aR 1, aR 4, aR 5, aR 6, aI 0, aI 0, aI 0, aI 0, aL 0 0, aI 0, aI 0]), .inl (0, 941, aI 0, []), .inl (0, 941, aI 0, []), .inl (3, 941, aL 0 0, []), .inr (6, [aR 8, aR 16, aR 17, aR 18, aR 19, aR 20, aR 21, aI 0, aI 0, aI 0]), .inr (1, [aR 9, aR 10, aR 11, aR 12, aR 13, aR 14, aR 15, aI 0, aI 0]), .inl (0, 8, aI 0, [(7, aI 5), (6, aI 2), (5, aI 1), (4, aI 3)]), .inl (3, 40, aL 0 0, []), .inl (0, 8, aI 0, []), .inl (0, 8, aI 0, []), .inl (0, 6, aI 0, []), .inl (0, 6, aI 0, []), .inl (0, 6, aI 0, []), .inl (0, 8, aI 0, []), .inl (0, 8, aI 0, []), .inl (0, 8, aI 0, []), .inl (0, 6, aI 0, []), .inl (0, 6, aI 0, []), .inl (0, 6, aI 0, []), .inr (6, [aR 8, aR 23, aR 24, aR 25, aR 26, aR 27, aR 28, aI 0, aI 0, aI 0]), .inl (0, 8, aI 0, []), .inl (0, 8, aI 0, []), .inl (0, 8, aI 0, []), .inl (0, 6, aI 0, []), .inl (0, 6, aI 0, []), .inl (0, 6, aI 0, []), .inr (4, [aR 30, aI 0, aI 0]), .inl (4, 9, aN, []), .inr (0, [aR 32, aR 33, aR 34, aR 35, aI 0, aR 36]), .inl (0, 40, aI 0, []), .inl (0, 40, aI 0, []), .inl (0, 40, aI 0, []), .inl (0, 40, aI 0, []), .inl (0, 4, aI 0, [(3, aI (-1)), (2, aI (-1)), (1, aI (-1)), (0, aI (-1))]), .inr (5, [aR 38, aR 39]), .inl (0, 8, aI 0, [(7, aI (-1)), (6, aI (-1)), (5, aI (-1)), (4, aI (-1)), (3, aI (-1)), (2, aI (-1)), (1, aI (-1)), (0, aI (-1))]), .inl (0, 10, aI 0, []), .inr (2, [aR 41, aI (-1), aI (-1)]), .inl (0, 8, aI 0, []), .inr (3, [aI 0]), .inl (4, 2, aN, []), .inl (5, 2, aN, []), .inl (1, 96, aI 0, []), .inr (11, [aI 0, aR 47, aI 0, aI 0, aI 0, aI 0, aR 48, aR 49, aR 50, aR 51, aR 52, aI 0, aI 0, aI 0, aI 0, aI 0, aI 0, aL 0 0, aI 0, aI 0, aI 0, aR 53, aR 54, aI 0, aI 0, aI 0, aI 0, aI 0, aI 0, aI 0, aI 0, aI 0, aI 0, aR 55, aR 56, aR 57, aI 0, aR 58, aI 0, aI 0, aI 0, aR 59, aI 0, aR 60, aI 0, aI 0, aI 0, aI 0, aI 0, aR 61, aR 62, aR 63, aR 64]), .inl (1, 940, aI 0, []), .inl (0, 269, aI 0, [(7, aI 5), (6, aI 2), (5, aI 1), (4, aI 3)]), .inl (0, 43, aI 0, [(7, aI 5), (6, aI 2), (5, aI 1), (4, aI 3)]), .inl (0, 160, aI 0, []), .inl (3, 56, aL 0 0, []), .inl (3, 29, aL 0 0, [(28, aL 121450625394034 121450625394034), (27, aL 474080961892 474080961892), (26, aL 469786323827 469786323827), (25, aL 2003399784 2003399784), (24, aL 24948 24948), (23, aL 6840691 6840691), (22, aL 1819242085 1819242085), (21, aL 27973166868030820 27973166868030820), (20, aL 7237492 7237492), (19, aL 6385252 6385252), (18, aL 28530 28530), (17, aL 6578553 6578553), (16, aL 119182682386035 119182682386035), (15, aL 1886745715 1886745715), (14, aL 123623812527219 123623812527219), (13, aL 474080961907 474080961907), (12, aL 1634954099 1634954099), (11, aL 1735353715 1735353715), (10, aL 1717662580 1717662580), (9, aL 2002872165 2002872165), (8, aL 1835627621 1835627621), (7, aL 1718185573 1718185573), (6, aL 461414299507 461414299507), (5, aL 28832984742848366 28832984742848366), (4, aL 123581014175598 123581014175598), (3, aL 26995 26995), (2, aL 499967946343 499967946343), (1, aL 1835102827 1835102827), (0, aL 482854658917 482854658917)]), .inl (0, 360, aI 0, []), .inl (0, 45, aI 0, []), .inl (0, 10, aI 0, []), .inl (0, 8, aI 0, []), .inl (0, 8, aI 0, []), .inl (1, 96, aI 0, []), .inl (0, 4, aI 0, []), .inl (0, 45, aI 0, []), .inl (2, 45, aI 0, []), .inl (0, 538, aI 0, []), .inl (3, 56, aL 0 0, []), .inl (2, 2, aI 0, []), .inl (3, 1, aL 0 0, [])], 73, 7123)
def SC_778_2 : ST := (778, [(4, aI 0), (3, aR 65), (2, aR 46), (1, aR 0), (0, aS)], [aI (-1)], [((-2147483648), 2147483647), (61, 2147483647), ((-2147483648), 2147483647), ((-2147483648), 2147483647), ((-2147483648), 2147483647), ((-2147483648), 2147483647), (6, 6)], [.inr (10, [aR 1, aR 3, aR 7, aR 22, aR 29, aR 31, aR 37, aR 40, aR 42, aR 43, aR 44, aR 45, aI 0, aN, aI 0, aI (-1), aI (-1), aI (-1)]), .inr (8, [aR 2, aI 0]), .inl (1, 940, aI 0, []), .inr (9, [aR 1, aR 4, aR 5, aR 6, aI 0, aI 0, aI 0, aI 0, aL 0 0, aI 0, aI 0]), .inl (0, 941, aI 0, []), .inl (0, 941, aI 0, []), .inl (3, 941, aL 0 0, []), .inr (6, [aR 8, aR 16, aR 17, aR 18, aR 19, aR 20, aR 21, aI 0, aI 0, aI 0]), .inr (1, [aR 9, aR 10, aR 11, aR 12, aR 13, aR 14, aR 15, aI 0, aI 0]), .inl (0, 8, aI 0, [(7, aI 5), (6, aI 2), (5, aI 1), (4, aI 3)]), .inl (3, 40, aL 0 0, []), .inl (0, 8, aI 0, []), .inl (0, 8, aI 0, []), .inl (0, 6, aI 0, []), .inl (0, 6, aI 0, []), .inl (0, 6, aI 0, []), .inl (0, 8, aI 0, []), .inl (0, 8, aI 0, []), .inl (0, 8, aI 0, []), .inl (0, 6, aI 0, []), .inl (0, 6, aI 0, []), .inl (0, 6, aI 0, []), .inr (6, [aR 8, aR 23, aR 24, aR 25, aR 26, aR 27, aR 28, aI 0, aI 0, aI 0]), .inl (0, 8, aI 0, []), .inl (0, 8, aI 0, []), .inl (0, 8, aI 0, []), .inl (0, 6, aI 0, []), .inl (0, 6, aI 0, []), .inl (0, 6, aI 0, []), .inr (4, [aR 30, aI 0, aI 0]), .inl (4, 9, aN, []), .inr (0, [aR 32, aR 33, aR 34, aR 35, aI 0, aR 36]), .inl (0, 40, aI 0, []), .inl (0, 40, aI 0, []), .inl (0, 40, aI 0, []), .inl (0, 40, aI 0, []), .inl (0, 4, aI 0, [(3, aI (-1)), (2, aI (-1)), (1, aI (-1)), (0, aI (-1))]), .inr (5, [aR 38, aR 39]), .inl (0, 8, aI 0, [(7, aI (-1)), (6, aI (-1)), (5, aI (-1)), (4, aI (-1)), (3, aI (-1)), (2, aI (-1)), (1, aI (-1)), (0, aI (-1))]), .inl (0, 10, aI 0, []), .inr (2, [aR 41, aI (-1), aI (-1)]), .inl (0, 8, aI 0, []), .inr (3, [aI 0]), .inl (4, 2, aN, []), .inl (5, 2, aN, []), .inl (1, 96, aI 0, []), .inr (11, [aI 0, aR 47, aI 0, aI 0, aI 0, aI 0, aR 48, aR 49, aR 50, aR 51, aR 52, aI 0, aI 0, aI 0, aI 0, aI 0, aI 0, aL 0 0, aI 0, aI 0, aI 0, aR 53, aR 54, aI 0, aI 0, aI 0, aI 0, aI 0, aI 0, aI 0, aI 0, aI 0, aI 0, aR 55, aR 56, aR 57, aI 0, aR 58, aI 0, aI 0, aI 0, aR 59, aI 0, aR 60, aI 0, aI 0, aI 0, aI 0, aI 0, aR 61, aR 62, aR 63, aR 64]), .inl (1, 940, aI 0, []), .inl (0, 269, aI 0, [(7, aI 5), (6, aI 2), (5, aI 1), (4, aI 3)]), .inl (0, 43, aI 0, [(7, aI 5), (6, aI 2), (5, aI 1), (4, aI 3)]), .inl (0, 160, aI 0, []), .inl (3, 56, aL 0 0, []), .inl (3, 29, aL 0 0, [(28, aL 121450625394034 121450625394034), (27, aL 474080961892 474080961892), (26, aL 469786323827 469786323827), (25, aL 2003399784 2003399784), (24, aL 24948 24948), (23, aL 6840691 6840691), (22, aL 1819242085 1819242085), (21, aL 27973166868030820 27973166868030820), (20, aL 7237492 7237492), (19, aL 6385252 6385252), (18, aL 28530 28530), (17, aL 6578553 6578553), (16, aL 119182682386035 119182682386035), (15, aL 1886745715 1886745715), (14, aL 123623812527219 123623812527219), (13, aL 474080961907 474080961907), (12, aL 1634954099 1634954099), (11, aL 1735353715 1735353715), (10, aL 1717662580 1717662580), (9, aL 2002872165 2002872165), (8, aL 1835627621 1835627621), (7, aL 1718185573 1718185573), (6, aL 461414299507 461414299507), (5, aL 28832984742848366 28832984742848366), (4, aL 123581014175598 123581014175598), (3, aL 26995 26995), (2, aL 499967946343 499967946343), (1, aL 1835102827 1835102827), (0, aL 482854658917 482854658917)]), .inl (0, 360, aI 0, []), .inl (0, 45, aI 0, []), .inl (0, 10, aI 0, []), .inl (0, 8, aI 0, []), .inl (0, 8, aI 0, []), .inl (1, 96, aI 0, []), .inl (0, 4, aI 0, []), .inl (0, 45, aI 0, []), .inl (2, 45, aI 0, []), .inl (0, 538, aI 0, []), .inl (3, 56, aL 0 0, []), .inl (2, 2, aI 0, []), .inl (3, 1, aL 0 0, [])], 73, 7123)
def CUTS : List ST := [SC_362, SC_430, SC_962, SC_778_0, SC_778_1, SC_778_2]
def e_good (x : Option (List OUT)) : Bool := match x with
  | some outs => outs.all (fun o => decide (o.1 = some (aI 1)))
  | none => false
def e_none (x : Option (List OUT)) : Bool := match x with
  | some [] => true
  | _ => false
theorem e_none_ok {x : Option (List OUT)} (h : e_none x = true) : x = some [] := by
  unfold e_none at h
  split at h
  · rfl
  · cases h
def SK (pc : Nat) : ST := (pc, [(4, aI 0), (3, aR 65), (2, aR 46), (1, aR 0), (0, aS)], [], [((-2147483648), 2147483647), ((-2147483648), 2147483647), ((-2147483648), 2147483647), ((-2147483648), 2147483647), ((-2147483648), 2147483647), ((-2147483648), 2147483647), (6, 6)], CF, 66, 7071)
def TGT : List Nat := [224, 297, 322, 335, 348, 416, 484, 509, 534, 571, 620, 657, 694, 731, 768, 793, 806, 855, 892, 905, 942, 1022, 1047, 1060, 1073, 1086, 1099, 1160, 1173, 1198, 1223, 1248, 1273, 1298, 1335, 1384, 1409, 1434, 1447, 1472, 1497, 1522]
def KCUTS : List ST := TGT.map SK
def e_tag (x : List INS) : List INS := x.map (fun q => if TGT.contains q.1 = true then (q.1, 16, q.2.2.1, q.2.2.2) else q)
def mt_L_lawK : MT := (yL_law, code, 7, (some .boolean), (12, 0, 1, 99), (2048, 600002, 7302232, 84000), e_tag tb_L_law)
set_option maxRecDepth 1000000 in
theorem rn_law : e_good (e_run PRG RTB KCUTS 30000 true true mt_L_lawK (e_tag tb_L_law) ST0) = true := by decide +kernel
set_option maxRecDepth 1000000 in
theorem rn_k224 : e_good (e_run PRG RTB CUTS 30000 true true mt_L_law (e_suf tb_L_law 224) (SK 224)) = true := by decide +kernel
set_option maxRecDepth 1000000 in
theorem rn_k297 : e_good (e_run PRG RTB CUTS 30000 true true mt_L_law (e_suf tb_L_law 297) (SK 297)) = true := by decide +kernel
set_option maxRecDepth 1000000 in
theorem rn_k322 : e_good (e_run PRG RTB CUTS 30000 true true mt_L_law (e_suf tb_L_law 322) (SK 322)) = true := by decide +kernel
set_option maxRecDepth 1000000 in
theorem rn_k335 : e_good (e_run PRG RTB CUTS 30000 true true mt_L_law (e_suf tb_L_law 335) (SK 335)) = true := by decide +kernel
set_option maxRecDepth 1000000 in
theorem rn_k348 : e_good (e_run PRG RTB CUTS 30000 true true mt_L_law (e_suf tb_L_law 348) (SK 348)) = true := by decide +kernel
set_option maxRecDepth 1000000 in
theorem rn_k416 : e_good (e_run PRG RTB CUTS 30000 true true mt_L_law (e_suf tb_L_law 416) (SK 416)) = true := by decide +kernel
set_option maxRecDepth 1000000 in
theorem rn_k484 : e_good (e_run PRG RTB CUTS 30000 true true mt_L_law (e_suf tb_L_law 484) (SK 484)) = true := by decide +kernel
set_option maxRecDepth 1000000 in
theorem rn_k509 : e_good (e_run PRG RTB CUTS 30000 true true mt_L_law (e_suf tb_L_law 509) (SK 509)) = true := by decide +kernel
set_option maxRecDepth 1000000 in
theorem rn_k534 : e_good (e_run PRG RTB CUTS 30000 true true mt_L_law (e_suf tb_L_law 534) (SK 534)) = true := by decide +kernel
set_option maxRecDepth 1000000 in
theorem rn_k571 : e_good (e_run PRG RTB CUTS 30000 true true mt_L_law (e_suf tb_L_law 571) (SK 571)) = true := by decide +kernel
set_option maxRecDepth 1000000 in
theorem rn_k620 : e_good (e_run PRG RTB CUTS 30000 true true mt_L_law (e_suf tb_L_law 620) (SK 620)) = true := by decide +kernel
set_option maxRecDepth 1000000 in
theorem rn_k657 : e_good (e_run PRG RTB CUTS 30000 true true mt_L_law (e_suf tb_L_law 657) (SK 657)) = true := by decide +kernel
set_option maxRecDepth 1000000 in
theorem rn_k694 : e_good (e_run PRG RTB CUTS 30000 true true mt_L_law (e_suf tb_L_law 694) (SK 694)) = true := by decide +kernel
set_option maxRecDepth 1000000 in
theorem rn_k731 : e_good (e_run PRG RTB CUTS 30000 true true mt_L_law (e_suf tb_L_law 731) (SK 731)) = true := by decide +kernel
set_option maxRecDepth 1000000 in
theorem rn_k768 : e_good (e_run PRG RTB CUTS 30000 true true mt_L_law (e_suf tb_L_law 768) (SK 768)) = true := by decide +kernel
set_option maxRecDepth 1000000 in
theorem rn_k793 : e_good (e_run PRG RTB CUTS 30000 true true mt_L_law (e_suf tb_L_law 793) (SK 793)) = true := by decide +kernel
set_option maxRecDepth 1000000 in
theorem rn_k806 : e_good (e_run PRG RTB CUTS 30000 true true mt_L_law (e_suf tb_L_law 806) (SK 806)) = true := by decide +kernel
set_option maxRecDepth 1000000 in
theorem rn_k855 : e_good (e_run PRG RTB CUTS 30000 true true mt_L_law (e_suf tb_L_law 855) (SK 855)) = true := by decide +kernel
set_option maxRecDepth 1000000 in
theorem rn_k892 : e_good (e_run PRG RTB CUTS 30000 true true mt_L_law (e_suf tb_L_law 892) (SK 892)) = true := by decide +kernel
set_option maxRecDepth 1000000 in
theorem rn_k905 : e_good (e_run PRG RTB CUTS 30000 true true mt_L_law (e_suf tb_L_law 905) (SK 905)) = true := by decide +kernel
set_option maxRecDepth 1000000 in
theorem rn_k942 : e_good (e_run PRG RTB CUTS 30000 true true mt_L_law (e_suf tb_L_law 942) (SK 942)) = true := by decide +kernel
set_option maxRecDepth 1000000 in
theorem rn_k1022 : e_good (e_run PRG RTB CUTS 30000 true true mt_L_law (e_suf tb_L_law 1022) (SK 1022)) = true := by decide +kernel
set_option maxRecDepth 1000000 in
theorem rn_k1047 : e_good (e_run PRG RTB CUTS 30000 true true mt_L_law (e_suf tb_L_law 1047) (SK 1047)) = true := by decide +kernel
set_option maxRecDepth 1000000 in
theorem rn_k1060 : e_good (e_run PRG RTB CUTS 30000 true true mt_L_law (e_suf tb_L_law 1060) (SK 1060)) = true := by decide +kernel
set_option maxRecDepth 1000000 in
theorem rn_k1073 : e_good (e_run PRG RTB CUTS 30000 true true mt_L_law (e_suf tb_L_law 1073) (SK 1073)) = true := by decide +kernel
set_option maxRecDepth 1000000 in
theorem rn_k1086 : e_good (e_run PRG RTB CUTS 30000 true true mt_L_law (e_suf tb_L_law 1086) (SK 1086)) = true := by decide +kernel
set_option maxRecDepth 1000000 in
theorem rn_k1099 : e_good (e_run PRG RTB CUTS 30000 true true mt_L_law (e_suf tb_L_law 1099) (SK 1099)) = true := by decide +kernel
set_option maxRecDepth 1000000 in
theorem rn_k1160 : e_good (e_run PRG RTB CUTS 30000 true true mt_L_law (e_suf tb_L_law 1160) (SK 1160)) = true := by decide +kernel
set_option maxRecDepth 1000000 in
theorem rn_k1173 : e_good (e_run PRG RTB CUTS 30000 true true mt_L_law (e_suf tb_L_law 1173) (SK 1173)) = true := by decide +kernel
set_option maxRecDepth 1000000 in
theorem rn_k1198 : e_good (e_run PRG RTB CUTS 30000 true true mt_L_law (e_suf tb_L_law 1198) (SK 1198)) = true := by decide +kernel
set_option maxRecDepth 1000000 in
theorem rn_k1223 : e_good (e_run PRG RTB CUTS 30000 true true mt_L_law (e_suf tb_L_law 1223) (SK 1223)) = true := by decide +kernel
set_option maxRecDepth 1000000 in
theorem rn_k1248 : e_good (e_run PRG RTB CUTS 30000 true true mt_L_law (e_suf tb_L_law 1248) (SK 1248)) = true := by decide +kernel
set_option maxRecDepth 1000000 in
theorem rn_k1273 : e_good (e_run PRG RTB CUTS 30000 true true mt_L_law (e_suf tb_L_law 1273) (SK 1273)) = true := by decide +kernel
set_option maxRecDepth 1000000 in
theorem rn_k1298 : e_good (e_run PRG RTB CUTS 30000 true true mt_L_law (e_suf tb_L_law 1298) (SK 1298)) = true := by decide +kernel
set_option maxRecDepth 1000000 in
theorem rn_k1335 : e_good (e_run PRG RTB CUTS 30000 true true mt_L_law (e_suf tb_L_law 1335) (SK 1335)) = true := by decide +kernel
set_option maxRecDepth 1000000 in
theorem rn_k1384 : e_good (e_run PRG RTB CUTS 30000 true true mt_L_law (e_suf tb_L_law 1384) (SK 1384)) = true := by decide +kernel
set_option maxRecDepth 1000000 in
theorem rn_k1409 : e_good (e_run PRG RTB CUTS 30000 true true mt_L_law (e_suf tb_L_law 1409) (SK 1409)) = true := by decide +kernel
set_option maxRecDepth 1000000 in
theorem rn_k1434 : e_good (e_run PRG RTB CUTS 30000 true true mt_L_law (e_suf tb_L_law 1434) (SK 1434)) = true := by decide +kernel
set_option maxRecDepth 1000000 in
theorem rn_k1447 : e_good (e_run PRG RTB CUTS 30000 true true mt_L_law (e_suf tb_L_law 1447) (SK 1447)) = true := by decide +kernel
set_option maxRecDepth 1000000 in
theorem rn_k1472 : e_good (e_run PRG RTB CUTS 30000 true true mt_L_law (e_suf tb_L_law 1472) (SK 1472)) = true := by decide +kernel
set_option maxRecDepth 1000000 in
theorem rn_k1497 : e_good (e_run PRG RTB CUTS 30000 true true mt_L_law (e_suf tb_L_law 1497) (SK 1497)) = true := by decide +kernel
set_option maxRecDepth 1000000 in
theorem rn_k1522 : e_good (e_run PRG RTB CUTS 30000 true true mt_L_law (e_suf tb_L_law 1522) (SK 1522)) = true := by decide +kernel
set_option maxRecDepth 1000000 in
theorem rn_778_0 : e_good (e_run PRG RTB [] 30000 true true mt_L_law ((778, 0, .aload_n 2, 1) :: e_suf tb_L_law 779) SC_778_0) = true := by decide +kernel
set_option maxRecDepth 1000000 in
theorem rn_778_1 : e_good (e_run PRG RTB [] 30000 true true mt_L_law ((778, 0, .aload_n 2, 1) :: e_suf tb_L_law 779) SC_778_1) = true := by decide +kernel
set_option maxRecDepth 1000000 in
theorem rn_778_2 : e_good (e_run PRG RTB [] 30000 true true mt_L_law ((778, 0, .aload_n 2, 1) :: e_suf tb_L_law 779) SC_778_2) = true := by decide +kernel
def SX_thing : List ST := [(12, [(0, aR 0), (1, aV 1 0), (2, aV 2 0)], [], [((-2147483648), 2147483647), ((-2147483648), 2147483647), ((-2147483648), 2147483647), ((-2147483648), 2147483647), ((-2147483648), 2147483647), ((-2147483648), 2147483647), (6, 6)], CF, 0, 0)]
set_option maxRecDepth 1000000 in
theorem rx_thing : e_none (e_run PRG RTB SX_thing 3000 true false mt_X11_thing (mT mt_X11_thing) (0, e_args 0 [aR 0, aV 1 0, aV 2 0], [], [((-2147483648), 2147483647), ((-2147483648), 2147483647), ((-2147483648), 2147483647), ((-2147483648), 2147483647), ((-2147483648), 2147483647), ((-2147483648), 2147483647), (6, 6)], CF, 0, 0)) = true := by decide +kernel
def SA_362 : ST := (365, [(4, aI 0), (3, aR 65), (2, aR 46), (1, aR 0), (0, aS)], [aI 1], [((-2147483648), 2147483647), ((-2147483648), 2147483647), ((-2147483648), 2147483647), ((-2147483648), 2147483647), ((-2147483648), 2147483647), ((-2147483648), 2147483647), (6, 6)], CF, 130, 7135)
set_option maxRecDepth 1000000 in
theorem rn_362 : e_good (e_run PRG RTB [] 30000 true true mt_L_law (e_suf tb_L_law 365) SA_362) = true := by decide +kernel
def SX_person : List ST := [(12, [(0, aR 0), (1, aV 1 0), (2, aV 2 0)], [], [((-2147483648), 2147483647), ((-2147483648), 2147483647), ((-2147483648), 2147483647), ((-2147483648), 2147483647), ((-2147483648), 2147483647), ((-2147483648), 2147483647), (6, 6)], CF, 0, 0)]
set_option maxRecDepth 1000000 in
theorem rx_person : e_none (e_run PRG RTB SX_person 3000 true false mt_X11_person (mT mt_X11_person) (0, e_args 0 [aR 0, aV 1 0, aV 2 0], [], [((-2147483648), 2147483647), ((-2147483648), 2147483647), ((-2147483648), 2147483647), ((-2147483648), 2147483647), ((-2147483648), 2147483647), ((-2147483648), 2147483647), (6, 6)], CF, 0, 0)) = true := by decide +kernel
def SA_430 : ST := (433, [(4, aI 0), (3, aR 65), (2, aR 46), (1, aR 0), (0, aS)], [aI 1], [((-2147483648), 2147483647), ((-2147483648), 2147483647), ((-2147483648), 2147483647), ((-2147483648), 2147483647), ((-2147483648), 2147483647), ((-2147483648), 2147483647), (6, 6)], CF, 130, 7135)
set_option maxRecDepth 1000000 in
theorem rn_430 : e_good (e_run PRG RTB [] 30000 true true mt_L_law (e_suf tb_L_law 433) SA_430) = true := by decide +kernel
def SX_slip : List ST := [(9, [(0, aR 0), (1, aV 1 0), (2, aV 2 0), (3, aV 3 0)], [], [((-2147483648), 2147483647), ((-2147483648), 2147483647), ((-2147483648), 2147483647), ((-2147483648), 2147483647), ((-2147483648), 2147483647), ((-2147483648), 2147483647), (6, 6)], CF, 0, 0), (44, [(0, aR 0), (1, aV 1 0), (2, aV 2 0), (3, aV 3 0)], [], [((-2147483648), 2147483647), ((-2147483648), 2147483647), ((-2147483648), 2147483647), ((-2147483648), 2147483647), ((-2147483648), 2147483647), ((-2147483648), 2147483647), (6, 6)], CF, 0, 0)]
set_option maxRecDepth 1000000 in
theorem rx_slip : e_none (e_run PRG RTB SX_slip 3000 true false mt_X11_slip (mT mt_X11_slip) (0, e_args 0 [aR 0, aV 1 0, aV 2 0, aV 3 0], [], [((-2147483648), 2147483647), ((-2147483648), 2147483647), ((-2147483648), 2147483647), ((-2147483648), 2147483647), ((-2147483648), 2147483647), ((-2147483648), 2147483647), (6, 6)], CF, 0, 0)) = true := by decide +kernel
def SA_962 : ST := (965, [(4, aI 0), (3, aR 65), (2, aR 46), (1, aR 0), (0, aS)], [aI 1], [((-2147483648), 2147483647), ((-2147483648), 2147483647), ((-2147483648), 2147483647), ((-2147483648), 2147483647), ((-2147483648), 2147483647), ((-2147483648), 2147483647), (6, 6)], CF, 130, 7135)
set_option maxRecDepth 1000000 in
theorem rn_962 : e_good (e_run PRG RTB [] 30000 true true mt_L_law (e_suf tb_L_law 965) SA_962) = true := by decide +kernel
end
section
-- ===== end of PART A; then your names; then what follows =====
/-! THE CLAIM OUT OF ONE WALK OF THE LAW'S BODY. Your part is whole_start (and what it stands on); all else here is the same for every law, but numbers. -/
def R_law : String := "NounFastLaw"
def lw_P (b : Addr) (xs : List Int32) (args : Array Value) (s : State) : Prop := args = #[.ref b] ∧ s.IntsAt b xs ∧ xs.length ≤ 6 ∧ (Jvm.Cond.and given_1 narrow_1).before args s = true
def lw_Q (_ : Array Value) (s : State) (o : Outcome) (t : State) : Prop := o = .returned (some (.int 1)) ∧ Framed s o t [] 600002 7302232
def lw_Z (below : List Frame) (a : Array Value) (s : State) : State → Prop := fun t => ∃ o, t.status = .running ∧ Ended t below o ∧ lw_Q a s o t
/-- the law's own end, with 1 on the stack, nothing written that was there before, its room as the claim has it -/
theorem lw_ret {p : Program} {l : Launch} {e : Env} {s : State} {m : MethodId} {below : List Frame} {meth : Method} {c : Code} {b : Nat} (hx : p.tables.exec = Jvm.exec) (hb : c.code = code) (hr : meth.sig.returnType = ret) (hlocks : meth.locks = false) {pc : Nat} {H : Heap} {ls : Array Slot} (hdg : decode code pc = .ok (.ireturn, 1)) : W p l e room_1 s m #[Value.ref b] below meth c H [] 600002 7302232 (lw_Z below #[Value.ref b] s) (F0 m pc ls [.int 1]) := by
  intro T hT X
  obtain ⟨fs, hret, hrun, hended, hW, hframe⟩ := X.leave (v := some (.int 1)) (hlocks := hlocks) (fun h => by rw [hr] at h; cases h)
  have hmeth' : T.vm.method? m = some meth := X.method'
  refine ⟨T.setFrames fs, ?_, .returned (some (.int 1)), hrun, hended, rfl, ⟨_, rfl⟩, hW, hframe⟩
  jvm_step X.here [X.here.top, hx, hb, hdg, hmeth', hr, ret, narrow_b1]
  (try refine ⟨rfl, ?_⟩); (try refine ⟨rfl, ?_⟩)
  first | (intro acts; rw [hret _ acts rfl rfl rfl]) | rw [hret _ _ rfl rfl rfl]
  exact Steps.refl _
/-- what holds at the law's entry: the machine, the code, the tables' words (any of lw_tbl by 'hts w (by decide +kernel)'), the script of L ints xs at the cell b, what the Statement gives of the start (any of its parts by flat_of_before) -/
def lw_At (p : Program) (s : State) (m : MethodId) (meth : Method) (c : Code) (b L : Nat) (xs : Nat → Int32) : Prop :=
  p.tables.exec = Jvm.exec ∧ c.code = code ∧ meth.sig.returnType = ret ∧ c.maxLocals = 7 ∧ s.vm.findClass R_law = some m.cls ∧ (∀ w ∈ lw_tbl, w.before #[Value.ref b] s = true) ∧ va_X b L xs s s.heap ∧ b < s.heap.size ∧ meth.locks = false ∧ (Jvm.Cond.and given_1 narrow_1).before #[Value.ref b] s = true

theorem eLaw_778 : decode code 778 = .ok (.aload_n 2, 1) := by decide +kernel
theorem e_good_ok {x : Option (List OUT)} (h : e_good x = true) : ∃ outs, x = some outs ∧ ∀ o ∈ outs, o.1 = some (aI 1) := by
  unfold e_good at h
  split at h
  · exact ⟨_, rfl, fun o ho => of_decide_eq_true (List.all_eq_true.mp h o ho)⟩
  · cases h
theorem ret_law {D : va_G} {cy : Nat → ClassId} {ν : Nat → Int} {b : Nat} {pool : va_W} {al0 : List Nat} {p : Program} {l : Launch} {e : Env} {s : State} {m : MethodId} {below : List Frame} {meth : Method} {c : Code} {outs : List OUT} (hx : p.tables.exec = Jvm.exec) (hb : c.code = code) (hr : meth.sig.returnType = ret) (hlocks : meth.locks = false) (h : ∀ o ∈ outs, o.1 = some (aI 1)) :
    RetOK D cy ν b pool al0 mt_L_law p l e room_1 s m #[Value.ref b] below meth c (fun q => s.heap.size ≤ q) (lw_Z below #[Value.ref b] s) outs := by
  intro o ho ins pc H locs ls ws v hd hv hE hW hal
  rw [h o ho] at hv
  rcases hv with ⟨rfl, a, x, ty, e1, rfl, g1, e2, e3, e4⟩ | ⟨_, a, x, e1, _, g1, e2⟩ | ⟨_, e1, _⟩
  · cases e1
    obtain ⟨x', e, g1, g2⟩ := g1
    cases e
    have hx1 : x = 1 := (fa_eq _ _).mpr (by have : (1 : Int32).toInt = 1 := rfl; omega)
    subst hx1
    refine va_forget (fun q hq => hW.2.2.2.2.2 q hq) ?_
    exact lw_ret hx hb hr hlocks hd
  · cases e2
  · cases e1
theorem arr_of {args : Array Value} {s : State} {ty : FieldType} (h : (Cond.arrayClass ty).before args s = true) (hp : ∀ cA : ClassId, s.vm.findClass ("[" ++ ty.toString) = some cA → va_RA s cA ty) : ∃ cA : ClassId, ArrOfT s cA ty ∧ va_RA s cA ty := by
  obtain ⟨c, k, comp, h1, h2, h3⟩ := Cond.arrayClass_spec h
  exact ⟨c, fun n z => ⟨fun k9 h9 => (by cases h9), k, h2, comp, h3⟩, hp c h1⟩
theorem arr_ofo {args : Array Value} {s : State} {C : String} (h : (Cond.arrayOver (.object C)).before args s = true) : ∃ cA : ClassId, ArrOfT s cA (.object C) ∧ va_RA s cA (.object C) := by
  obtain ⟨comp, c, k, h1, -, h3, h4, h5⟩ := Cond.arrayOver_spec h
  exact ⟨c, fun n z => ⟨fun k9 h9 => (by cases h9), k, h3, comp, h4⟩, k, comp, h3, h4, h1, h5⟩
set_option maxHeartbeats 8000000 in
set_option maxRecDepth 100000 in
theorem whole_start {p : Program} {e : Env} {s : State} {m : MethodId} {below : List Frame} {meth : Method} {c : Code} (l : Launch) (hfl : l.flags = flags0) {b L : Nat} {xs : Nat → Int32} (hL : L ≤ 6) (C0 : lw_At p s m meth c b L xs) : W p l e room_1 s m #[Value.ref b] below meth c s.heap [] 0 0 (lw_Z below #[Value.ref b] s) (entryFrame m ([Value.ref b] : List Value).toArray 7) := by
  obtain ⟨hx, hb, hr, hml, hown, hts, hX, hbl, hlocks, hgv⟩ := id C0
  have hst : l.stackTraces = false := by unfold Launch.stackTraces; rw [hfl]; decide +kernel
  obtain ⟨c0, iS0, hKn0⟩ := u_known (C := RX0) (T := TX0) (N := 6) (n := 6) hts inX0 (hts (.instantiable RX0 6) (by decide +kernel))
  obtain ⟨c1, iS1, hKn1⟩ := u_known (C := RX1) (T := TX1) (N := 9) (n := 9) hts inX1 (hts (.instantiable RX1 9) (by decide +kernel))
  obtain ⟨c2, iS2, hKn2⟩ := u_known (C := RX2) (T := TX2) (N := 3) (n := 3) hts inX2 (hts (.instantiable RX2 3) (by decide +kernel))
  obtain ⟨c3, iS3, hKn3⟩ := u_known (C := RX3) (T := TX3) (N := 1) (n := 1) hts inX3 (hts (.instantiable RX3 1) (by decide +kernel))
  obtain ⟨c4, iS4, hKn4⟩ := u_known (C := RX4) (T := TX4) (N := 3) (n := 3) hts inX4 (hts (.instantiable RX4 3) (by decide +kernel))
  obtain ⟨c5, iS5, hKn5⟩ := u_known (C := RX6) (T := TX6) (N := 2) (n := 2) hts inX6 (hts (.instantiable RX6 2) (by decide +kernel))
  obtain ⟨c6, iS6, hKn6⟩ := u_known (C := RX7) (T := TX7) (N := 10) (n := 10) hts inX7 (hts (.instantiable RX7 10) (by decide +kernel))
  obtain ⟨c7, iS7, hKn7⟩ := u_known (C := RX8) (T := TX8) (N := 6) (n := 6) hts inX8 (hts (.instantiable RX8 6) (by decide +kernel))
  obtain ⟨c8, iS8, hKn8⟩ := u_known (C := RX9) (T := TX9) (N := 2) (n := 2) hts inX9 (hts (.instantiable RX9 2) (by decide +kernel))
  obtain ⟨c9, iS9, hKn9⟩ := u_known (C := RX10) (T := TX10) (N := 11) (n := 11) hts inX10 (hts (.instantiable RX10 11) (by decide +kernel))
  obtain ⟨c10, iS10, hKn10⟩ := u_known (C := RX11) (T := TX11) (N := 18) (n := 18) hts inX11 (hts (.instantiable RX11 18) (by decide +kernel))
  obtain ⟨c11, iS11, hKn11⟩ := u_known (C := RX12) (T := TX12) (N := 53) (n := 53) hts inX12 (hts (.instantiable RX12 53) (by decide +kernel))
  obtain ⟨dC, dI, hKc⟩ : ∃ (dC : Nat → ClassId) (dI : Nat → Nat → Nat), ∀ (k : Nat) (q : vw_C), vwCl[k]? = some q → u_Kn s q.1 q.2.1 q.2.2 (dC k) (dI k) := by
    refine ⟨fun k => match k with | 0 => c0 | 1 => c1 | 2 => c2 | 3 => c3 | 4 => c4 | 5 => c5 | 6 => c6 | 7 => c7 | 8 => c8 | 9 => c9 | 10 => c10 | _ => c11, fun k => match k with | 0 => iS0 | 1 => iS1 | 2 => iS2 | 3 => iS3 | 4 => iS4 | 5 => iS5 | 6 => iS6 | 7 => iS7 | 8 => iS8 | 9 => iS9 | 10 => iS10 | _ => iS11, ?_⟩
    intro k q hq
    match k, hq with
    | 0, hq => cases hq; exact hKn0
    | 1, hq => cases hq; exact hKn1
    | 2, hq => cases hq; exact hKn2
    | 3, hq => cases hq; exact hKn3
    | 4, hq => cases hq; exact hKn4
    | 5, hq => cases hq; exact hKn5
    | 6, hq => cases hq; exact hKn6
    | 7, hq => cases hq; exact hKn7
    | 8, hq => cases hq; exact hKn8
    | 9, hq => cases hq; exact hKn9
    | 10, hq => cases hq; exact hKn10
    | 11, hq => cases hq; exact hKn11
    | k + 12, hq => simp [vwCl] at hq
  obtain ⟨y0, hy0⟩ := arr_of (hts (.arrayClass .int) (by decide +kernel)) (fun _ h => h)
  obtain ⟨y1, hy1⟩ := arr_of (hts (.arrayClass .byte) (by decide +kernel)) (fun _ h => h)
  obtain ⟨y2, hy2⟩ := arr_of (hts (.arrayClass .boolean) (by decide +kernel)) (fun _ h => h)
  obtain ⟨y3, hy3⟩ := arr_of (hts (.arrayClass .long) (by decide +kernel)) (fun _ h => h)
  obtain ⟨y4, hy4⟩ := arr_ofo (hts (.arrayOver (.object "NounFast$Scene")) (by decide +kernel))
  obtain ⟨y5, hy5⟩ := arr_ofo (hts (.arrayOver (.object "NounFast$Sentence")) (by decide +kernel))
  obtain ⟨cy, hcy⟩ : ∃ cy : Nat → ClassId, va_K (dC, dI) vwCl (atys cy) s := by
    refine ⟨fun t => match t with | 0 => y0 | 1 => y1 | 2 => y2 | 3 => y3 | 4 => y4 | _ => y5, hKc, ?_⟩
    intro k q hq
    match k, hq with
    | 0, hq => cases hq; exact hy0
    | 1, hq => cases hq; exact hy1
    | 2, hq => cases hq; exact hy2
    | 3, hq => cases hq; exact hy3
    | 4, hq => cases hq; exact hy4
    | 5, hq => cases hq; exact hy5
    | k + 6, hq => simp [atys] at hq
  have hKK : KK (dC, dI) cy s := by
    refine ⟨hcy, fun w hw => ?_, va_AO.of (hts (.arrayOver (.object "NounFast$Scene")) (by decide +kernel)), va_AO.of (hts (.arrayOver (.object "NounFast$Sentence")) (by decide +kernel))⟩
    have h1 := List.mem_filter.mp hw
    have h2 := h1.2
    have h3 := hts w h1.1
    unfold isNest at h2
    split at h2
    · exact va_Nw.of rfl h3
    · exact va_Nw.of rfl h3
    · cases h2
  have hs := flat_of_before _ hgv
  have hnA : ∀ a : Nat, a < s.heap.size → ¬ (fun q : Nat => s.heap.size ≤ q) a := fun a h => Nat.not_le.mpr h
  have hXK : XK (fun q => s.heap.size ≤ q) s := by
    refine ⟨fun w hw => ?_, ?_, ?_, fun q hq => ?_⟩
    · have g2 := List.all_eq_true.mp xbad_mov w hw
      have g1 := hts w (xbad_in w hw)
      unfold isMov at g2
      split at g2
      · exact va_Nw.of rfl g1
      · exact va_Nw.of rfl g1
      · cases g2
    · exact vx_Zqof (hts (.laysStatic Bundle.tN "UNASSIGNED_STACK" Bundle.steD) (by decide +kernel)) (hts (.initialized Bundle.tN) (by decide +kernel)) (hs (.isRef (.static Bundle.tN "UNASSIGNED_STACK" Bundle.steD)) (by decide +kernel)) hnA
    · exact vx_Zqof (hts (.laysStatic Bundle.tN "SUPPRESSED_SENTINEL" Bundle.listD) (by decide +kernel)) (hts (.initialized Bundle.tN) (by decide +kernel)) (hs (.isRef (.static Bundle.tN "SUPPRESSED_SENTINEL" Bundle.listD)) (by decide +kernel)) hnA
    · have key : ∀ (k : Nat) (tx : String), Cond.stringRef RX11 k tx ∈ lw_tbl → (Cond.exactly (.string RX11 k) "java/lang/String").before #[Value.ref b] s = true → ∃ sa, vk_R RX11 k tx sa s := by
        intro k tx h1 h2
        obtain ⟨a, c9, cell, k9, h3, -⟩ := Cond.exactly_spec h2
        exact ⟨a, vk_R.of (A := #[Value.ref b]) (hts _ h1) h3⟩
      simp only [XSTR, List.mem_cons, List.not_mem_nil, or_false] at hq
      rcases hq with rfl | rfl | rfl | rfl
      · exact key 148 "no such thing" (by decide +kernel) (hs _ (by decide +kernel))
      · exact key 169 "no such person" (by decide +kernel) (hs _ (by decide +kernel))
      · exact key 281 "a fraction has two numbers" (by decide +kernel) (hs _ (by decide +kernel))
      · exact key 283 "no such ones" (by decide +kernel) (hs _ (by decide +kernel))
  obtain ⟨ν, hν, hν6⟩ : ∃ ν : Nat → Int, (∀ k, k < 6 → ν k = (xs k).toInt) ∧ ν 6 = (L : Int) := ⟨fun k => if k = 6 then (L : Int) else (xs k).toInt, fun k hk => if_neg (by omega), if_pos rfl⟩
  have scr : Scr ν b (fun q => s.heap.size ≤ q) s := ⟨L, xs, hX, hbl, Nat.not_le.mpr hbl, fun k hk => (hν k (by omega)).symm, hν6, by omega⟩
  have X : Ctx OWN (dC, dI) cy ν b mt_L_law RL p (mRm mt_L_law) s m #[Value.ref b] meth c (fun q => s.heap.size ≤ q) true := ⟨hx, hb, hml, by decide +kernel, hown, fun w hw => hts w (big_in w hw), hKK, fun _ h => h, fun h => absurd h (by decide), rfl, ⟨d_chk_ok (M := mt_L_law) td_L_law, fun h => absurd h (by decide)⟩, fun _ => scr⟩
  have go : ∀ (cuts : List ST) (suf : List INS) (S : ST), (∀ q ∈ suf, decode (mC mt_L_law) q.1 = .ok (q.2.2.1, q.2.2.2)) → e_good (e_run PRG RTB cuts 30000 true true mt_L_law suf S) = true → (∀ S' ∈ cuts, Safe (dC, dI) cy ν b [] [] mt_L_law p l e (mRm mt_L_law) s m #[Value.ref b] below meth c (fun q => s.heap.size ≤ q) (lw_Z below #[Value.ref b] s) S') → Safe (dC, dI) cy ν b [] [] mt_L_law p l e (mRm mt_L_law) s m #[Value.ref b] below meth c (fun q => s.heap.size ≤ q) (lw_Z below #[Value.ref b] s) S := by
    intro cuts suf S h1 h2 h3
    obtain ⟨outs, h4, h5⟩ := e_good_ok h2
    exact e_sound pok 30000 true true mt_L_law suf S outs h4 h1 [] RL p e _ s m #[Value.ref b] below meth c _ _ X (ret_law hx hb hr hlocks h5) (fun _ => h3)
  have dall : ∀ q ∈ tb_L_law, decode (mC mt_L_law) q.1 = .ok (q.2.2.1, q.2.2.2) := d_chk_ok (M := mt_L_law) td_L_law
  have noc : ∀ S' ∈ ([] : List ST), Safe (dC, dI) cy ν b [] [] mt_L_law p l e (mRm mt_L_law) s m #[Value.ref b] below meth c (fun q => s.heap.size ≤ q) (lw_Z below #[Value.ref b] s) S' := fun _ h => by cases h
  have d778 : ∀ q ∈ ((778, 0, .aload_n 2, 1) :: e_suf tb_L_law 779 : List INS), decode (mC mt_L_law) q.1 = .ok (q.2.2.1, q.2.2.2) := by
    intro q hq
    rcases List.mem_cons.mp hq with rfl | hq
    · exact eLaw_778
    · exact dall q (e_suf_in q hq)
  have s778_0 := go [] _ SC_778_0 d778 rn_778_0 noc
  have s778_1 := go [] _ SC_778_1 d778 rn_778_1 noc
  have s778_2 := go [] _ SC_778_2 d778 rn_778_2 noc
  have sa362 := go [] _ SA_362 (fun q hq => dall q (e_suf_in q hq)) rn_362 noc
  have sc362 : Safe (dC, dI) cy ν b [] [] mt_L_law p l e (mRm mt_L_law) s m #[Value.ref b] below meth c (fun q => s.heap.size ≤ q) (lw_Z below #[Value.ref b] s) SC_362 := by
    refine sx_thing X hst hXK (show CF[0]? = some (.inr (10, _)) from rfl) (e_none_ok rx_thing) (xs_thing (fun S hS => ?_)) (by decide) (by decide) sa362
    simp only [SX_thing, List.mem_cons, List.not_mem_nil, or_false] at hS
    exact ⟨_, _, _, _, hS, by decide, by decide⟩
  have sa430 := go [] _ SA_430 (fun q hq => dall q (e_suf_in q hq)) rn_430 noc
  have sc430 : Safe (dC, dI) cy ν b [] [] mt_L_law p l e (mRm mt_L_law) s m #[Value.ref b] below meth c (fun q => s.heap.size ≤ q) (lw_Z below #[Value.ref b] s) SC_430 := by
    refine sx_person X hst hXK (show CF[0]? = some (.inr (10, _)) from rfl) (e_none_ok rx_person) (xs_person (fun S hS => ?_)) (by decide) (by decide) sa430
    simp only [SX_person, List.mem_cons, List.not_mem_nil, or_false] at hS
    exact ⟨_, _, _, _, hS, by decide, by decide⟩
  have sa962 := go [] _ SA_962 (fun q hq => dall q (e_suf_in q hq)) rn_962 noc
  have sc962 : Safe (dC, dI) cy ν b [] [] mt_L_law p l e (mRm mt_L_law) s m #[Value.ref b] below meth c (fun q => s.heap.size ≤ q) (lw_Z below #[Value.ref b] s) SC_962 := by
    refine sx_slip X hst hXK (show CF[0]? = some (.inr (10, _)) from rfl) (e_none_ok rx_slip) (xs_slip (fun S hS => ?_)) (by decide) (by decide) sa962
    simp only [SX_slip, List.mem_cons, List.not_mem_nil, or_false] at hS
    rcases hS with hS | hS
    · exact ⟨_, _, _, _, Or.inl hS, by decide, by decide⟩
    · exact ⟨_, _, _, _, Or.inr hS, by decide, by decide⟩
  have hcuts : ∀ S' ∈ CUTS, Safe (dC, dI) cy ν b [] [] mt_L_law p l e (mRm mt_L_law) s m #[Value.ref b] below meth c (fun q => s.heap.size ≤ q) (lw_Z below #[Value.ref b] s) S' := by
    intro S' h
    simp only [CUTS, List.mem_cons, List.not_mem_nil, or_false] at h
    rcases h with rfl | rfl | rfl | rfl | rfl | rfl
    · exact sc362
    · exact sc430
    · exact sc962
    · exact s778_0
    · exact s778_1
    · exact s778_2
  have hk : ∀ t ∈ TGT, Safe (dC, dI) cy ν b [] [] mt_L_law p l e (mRm mt_L_law) s m #[Value.ref b] below meth c (fun q => s.heap.size ≤ q) (lw_Z below #[Value.ref b] s) (SK t) := by
    intro t ht
    simp only [TGT, List.mem_cons, List.not_mem_nil, or_false] at ht
    rcases ht with rfl | rfl | rfl | rfl | rfl | rfl | rfl | rfl | rfl | rfl | rfl | rfl | rfl | rfl | rfl | rfl | rfl | rfl | rfl | rfl | rfl | rfl | rfl | rfl | rfl | rfl | rfl | rfl | rfl | rfl | rfl | rfl | rfl | rfl | rfl | rfl | rfl | rfl | rfl | rfl | rfl | rfl
    · exact go CUTS _ (SK 224) (fun q hq => dall q (e_suf_in q hq)) rn_k224 hcuts
    · exact go CUTS _ (SK 297) (fun q hq => dall q (e_suf_in q hq)) rn_k297 hcuts
    · exact go CUTS _ (SK 322) (fun q hq => dall q (e_suf_in q hq)) rn_k322 hcuts
    · exact go CUTS _ (SK 335) (fun q hq => dall q (e_suf_in q hq)) rn_k335 hcuts
    · exact go CUTS _ (SK 348) (fun q hq => dall q (e_suf_in q hq)) rn_k348 hcuts
    · exact go CUTS _ (SK 416) (fun q hq => dall q (e_suf_in q hq)) rn_k416 hcuts
    · exact go CUTS _ (SK 484) (fun q hq => dall q (e_suf_in q hq)) rn_k484 hcuts
    · exact go CUTS _ (SK 509) (fun q hq => dall q (e_suf_in q hq)) rn_k509 hcuts
    · exact go CUTS _ (SK 534) (fun q hq => dall q (e_suf_in q hq)) rn_k534 hcuts
    · exact go CUTS _ (SK 571) (fun q hq => dall q (e_suf_in q hq)) rn_k571 hcuts
    · exact go CUTS _ (SK 620) (fun q hq => dall q (e_suf_in q hq)) rn_k620 hcuts
    · exact go CUTS _ (SK 657) (fun q hq => dall q (e_suf_in q hq)) rn_k657 hcuts
    · exact go CUTS _ (SK 694) (fun q hq => dall q (e_suf_in q hq)) rn_k694 hcuts
    · exact go CUTS _ (SK 731) (fun q hq => dall q (e_suf_in q hq)) rn_k731 hcuts
    · exact go CUTS _ (SK 768) (fun q hq => dall q (e_suf_in q hq)) rn_k768 hcuts
    · exact go CUTS _ (SK 793) (fun q hq => dall q (e_suf_in q hq)) rn_k793 hcuts
    · exact go CUTS _ (SK 806) (fun q hq => dall q (e_suf_in q hq)) rn_k806 hcuts
    · exact go CUTS _ (SK 855) (fun q hq => dall q (e_suf_in q hq)) rn_k855 hcuts
    · exact go CUTS _ (SK 892) (fun q hq => dall q (e_suf_in q hq)) rn_k892 hcuts
    · exact go CUTS _ (SK 905) (fun q hq => dall q (e_suf_in q hq)) rn_k905 hcuts
    · exact go CUTS _ (SK 942) (fun q hq => dall q (e_suf_in q hq)) rn_k942 hcuts
    · exact go CUTS _ (SK 1022) (fun q hq => dall q (e_suf_in q hq)) rn_k1022 hcuts
    · exact go CUTS _ (SK 1047) (fun q hq => dall q (e_suf_in q hq)) rn_k1047 hcuts
    · exact go CUTS _ (SK 1060) (fun q hq => dall q (e_suf_in q hq)) rn_k1060 hcuts
    · exact go CUTS _ (SK 1073) (fun q hq => dall q (e_suf_in q hq)) rn_k1073 hcuts
    · exact go CUTS _ (SK 1086) (fun q hq => dall q (e_suf_in q hq)) rn_k1086 hcuts
    · exact go CUTS _ (SK 1099) (fun q hq => dall q (e_suf_in q hq)) rn_k1099 hcuts
    · exact go CUTS _ (SK 1160) (fun q hq => dall q (e_suf_in q hq)) rn_k1160 hcuts
    · exact go CUTS _ (SK 1173) (fun q hq => dall q (e_suf_in q hq)) rn_k1173 hcuts
    · exact go CUTS _ (SK 1198) (fun q hq => dall q (e_suf_in q hq)) rn_k1198 hcuts
    · exact go CUTS _ (SK 1223) (fun q hq => dall q (e_suf_in q hq)) rn_k1223 hcuts
    · exact go CUTS _ (SK 1248) (fun q hq => dall q (e_suf_in q hq)) rn_k1248 hcuts
    · exact go CUTS _ (SK 1273) (fun q hq => dall q (e_suf_in q hq)) rn_k1273 hcuts
    · exact go CUTS _ (SK 1298) (fun q hq => dall q (e_suf_in q hq)) rn_k1298 hcuts
    · exact go CUTS _ (SK 1335) (fun q hq => dall q (e_suf_in q hq)) rn_k1335 hcuts
    · exact go CUTS _ (SK 1384) (fun q hq => dall q (e_suf_in q hq)) rn_k1384 hcuts
    · exact go CUTS _ (SK 1409) (fun q hq => dall q (e_suf_in q hq)) rn_k1409 hcuts
    · exact go CUTS _ (SK 1434) (fun q hq => dall q (e_suf_in q hq)) rn_k1434 hcuts
    · exact go CUTS _ (SK 1447) (fun q hq => dall q (e_suf_in q hq)) rn_k1447 hcuts
    · exact go CUTS _ (SK 1472) (fun q hq => dall q (e_suf_in q hq)) rn_k1472 hcuts
    · exact go CUTS _ (SK 1497) (fun q hq => dall q (e_suf_in q hq)) rn_k1497 hcuts
    · exact go CUTS _ (SK 1522) (fun q hq => dall q (e_suf_in q hq)) rn_k1522 hcuts
  have dK : ∀ q ∈ e_tag tb_L_law, decode (mC mt_L_lawK) q.1 = .ok (q.2.2.1, q.2.2.2) := by
    intro q hq
    obtain ⟨q0, h1, rfl⟩ := List.mem_map.mp hq
    have h2 := dall q0 h1
    split
    · exact h2
    · exact h2
  have XK9 : Ctx OWN (dC, dI) cy ν b mt_L_lawK RL p (mRm mt_L_law) s m #[Value.ref b] meth c (fun q => s.heap.size ≤ q) true := ⟨hx, hb, hml, by decide +kernel, hown, fun w hw => hts w (big_in w hw), hKK, fun _ h => h, fun h => absurd h (by decide), rfl, ⟨dK, fun h => absurd h (by decide)⟩, fun _ => scr⟩
  have s0 : Safe (dC, dI) cy ν b [] [] mt_L_lawK p l e (mRm mt_L_law) s m #[Value.ref b] below meth c (fun q => s.heap.size ≤ q) (lw_Z below #[Value.ref b] s) ST0 := by
    obtain ⟨outs, h4, h5⟩ := e_good_ok rn_law
    refine e_sound pok 30000 true true mt_L_lawK _ ST0 outs h4 dK [] RL p e _ s m #[Value.ref b] below meth c _ _ XK9 (ret_law hx hb hr hlocks h5) (fun _ S' h => ?_)
    obtain ⟨t, ht, rfl⟩ := List.mem_map.mp h
    exact hk t ht
  have hl := lv_entry ([.ref b]) (n := 7) (Nat.le_of_ble_eq_true rfl)
  rw [lg_entry_eq]
  generalize (lg_sl ([.ref b]) ++ List.replicate (7 - (lg_sl ([.ref b])).length) Slot.unset).toArray = ls at hl ⊢
  have hE : genv ν EV0 := by
    intro k q hk
    have r := fun j => fb_rng (xs j)
    match k, hk with
    | 0, hk => cases hk; rw [hν 0 (by omega)]; have := r 0; exact ⟨by omega, by omega⟩
    | 1, hk => cases hk; rw [hν 1 (by omega)]; have := r 1; exact ⟨by omega, by omega⟩
    | 2, hk => cases hk; rw [hν 2 (by omega)]; have := r 2; exact ⟨by omega, by omega⟩
    | 3, hk => cases hk; rw [hν 3 (by omega)]; have := r 3; exact ⟨by omega, by omega⟩
    | 4, hk => cases hk; rw [hν 4 (by omega)]; have := r 4; exact ⟨by omega, by omega⟩
    | 5, hk => cases hk; rw [hν 5 (by omega)]; have := r 5; exact ⟨by omega, by omega⟩
    | 6, hk => cases hk; rw [hν6]; exact ⟨by omega, by omega⟩
    | k + 7, hk => simp [EV0] at hk
  exact s0 s.heap [] ls [(0, .ref b)] [] [] hl ⟨⟨rfl, rfl⟩, trivial⟩ trivial hE ⟨⟨rfl, fun i c h => by simp [ST0] at h⟩, fun k q h => by simp at h, ⟨fun i j p q h => by simp at h, fun k q h => by simp at h⟩, va_S.rf⟩ ⟨[], rfl⟩
-- ===== YOUR PART ENDS =====
set_option maxHeartbeats 4000000 in
theorem lw_walk (l : Launch) (hfl : l.flags = flags0) (b : Addr) (xs : List Int32) : MetFree l x (headSpec (Jvm.Cond.code x code maxLocals ret :: tables_1) room_1) (lw_P b xs) (fun _ _ _ _ _ => True) lw_Q := by
  refine MetFree.of_bodyS (code := code) (maxLocals := maxLocals) (ret := ret) (by decide) ?_ ?_
  · intro args s m h hn
    obtain ⟨meth, c, h1, h2, h3, h4, h5, h6, -, -⟩ := Cond.code_spec hn (atoms_spec (ws := Jvm.Cond.code x code maxLocals ret :: tables_1) h _ List.mem_cons_self)
    exact ⟨meth, c, h1, h2, h3, h4, h5, h6⟩
  · intro p e s m args below meth c s₁ B hml0 hP _
    obtain ⟨rfl, hx, hbd, hgv⟩ := hP
    obtain ⟨scr, harrAt, hlist, hof, hsmall⟩ := hx
    obtain ⟨hcb, hkn, -, -⟩ := State.arrayAt?_spec harrAt
    have hown : s.vm.findClass R_law = some m.cls := findClass_of_methodNamed B.named
    have hts0 : ∀ c ∈ (Jvm.Cond.code x code maxLocals ret :: tables_1), c.before #[Value.ref b] s = true := atoms_spec (ws := Jvm.Cond.code x code maxLocals ret :: tables_1) B.pre
    have hts : ∀ w ∈ lw_tbl, w.before #[Value.ref b] s = true := k2_hts_sels lw_privs (fun w hw => hts0 w (List.mem_cons_of_mem _ hw)) lw_privs_ok
    have hml : c.maxLocals = 7 := B.maxLocals_eq (hts0 _ List.mem_cons_self)
    have X₀ : Stand p l e room_1 s m #[Value.ref b] below meth c s₁ [] 0 0 := Stand.of_body B
    have hh0 : s₁.heap = s.heap := by rw [B.state]; rfl
    have hsz : scr.slots.size = xs.length := by rw [← Array.length_toList, hlist, List.length_map]
    have hval : ∀ j : Nat, j < xs.length → scr.slots[j]? = some (.int (xs.getD j 0)) := fun j hj => by
      rw [← Array.getElem?_toList, hlist]
      simp [hj]
    have hbl : b < s.heap.size := (Array.getElem?_eq_some_iff.mp hcb).1
    have hX : va_X b xs.length (fun j => xs.getD j 0) s s.heap := ⟨scr, hcb, hof, hkn, hsz, hval⟩
    have K : W p l e room_1 s m #[Value.ref b] below meth c s₁.heap [] 0 0 (lw_Z below #[Value.ref b] s) (entryFrame m ([Value.ref b] : List Value).toArray 7) := by
      rw [hh0]
      exact whole_start l hfl hbd ⟨B.exec, B.bytes, B.returns, hml, hown, hts, hX, hbl, B.notSynchronized, hgv⟩
    obtain ⟨t, a1, o, b1, b2, b3⟩ := K s₁ rfl X₀
    exact ⟨t, o, a1, b1, b2, b3⟩
theorem lw_pre_spec {args : Array Value} {s : State} (h : (Jvm.Cond.and given_1 narrow_1).before args s = true) (hr : rest_1_c.before args s = true) : ∃ (b : Addr) (xs : List Int32), lw_P b xs args s := by
  have hs := flat_of_before _ h
  have hq := flat_of_before _ hr
  have hc : (Cond.count 1).before args s = true := hs _ (by decide +kernel)
  have harr : (Cond.arrayOf (.arg 0) .int).before args s = true := hs _ (by decide +kernel)
  have hle : (Cond.le (.length (.arg 0)) (.int 6)).before args s = true := hs _ (by decide +kernel)
  have hlen : (Cond.isInt (.length (.arg 0))).before args s = true := hq _ (by decide +kernel)
  have hall : (Cond.all (.arg 0) (.isInt (.elem (.arg 0) (.index 0)))).before args s = true := hq _ (by decide +kernel)
  obtain ⟨b, xs, hb, hx⟩ := State.ints_of_pre rfl harr hlen hall
  have hsm : xs.length < 2 ^ 31 := hx.choose_spec.2.2.2
  have hev : (Term.length (.arg 0)).eval args s none [] s = some (.int xs.length.toInt32) := hx.length_eval hb
  have hv := Cond.le_ints hev (show (Term.int 6).eval args s none [] s = some (.int 6) from rfl)
  have hd : xs.length.toInt32 ≤ 6 := by
    simpa [Cond.before, Cond.holds, hv] using hle
  have hN : xs.length ≤ 6 := (Int32.ofNat_le_ofNat hsm (by decide)).mp (show Int32.ofNat xs.length ≤ Int32.ofNat 6 from hd)
  exact ⟨b, xs, Cond.one_arg hc (show args[0]? = some (.ref b) from hb), hx, hN, h⟩
theorem lw_comes (l : Launch) (hfl : l.flags = flags0) : Comes l x (Jvm.Cond.code x code maxLocals ret :: tables_1) room_1 (fun tb e args s => Calls_1 tb e args s ∧ rest_1 tb e args s ∧ Pre_1 tb e args s)
    (fun _ _ args s o t => lw_Q args s o t) := by
  intro p e ha hc hk s m args below hf hfit hheap happ hpre
  obtain ⟨b, xs, hP⟩ := lw_pre_spec hpre.2.2 hpre.2.1
  obtain ⟨k, o, h1, h2, h3, hQ⟩ := lw_walk l hfl b xs p e ha hc hk s m args below hf ((Spec.applies_iff_loose hf).mp happ).1 hP trivial
  exact ⟨k, o, h1, h2, h3, hQ⟩
theorem lw_frame {s t : State} {o : Outcome} {args : Array Value} (h : Framed s o t [] 600002 7302232) :
    Framed s o t (fieldLocs frame_1_writes args s ++ arrayLocs frame_1_arrays args s ++ staticLocs frame_1_statics s) 600002 7302232 := h
theorem lw_limb (L : Cond) (hL : ∀ (args : Array Value) (s t : State), L.after args s (.returned (some (.int 1))) t = true) :
    ArmFor flags0 classFile x code maxLocals ret World_1 tables_1 room_1 Calls_1 rest_1 Pre_1
      (fun tb e a s o t => postC L tb e a s o t ∧ Framed s o t (fieldLocs frame_1_writes a s ++ arrayLocs frame_1_arrays a s ++ staticLocs frame_1_statics s) 600002 7302232) := by
  intro l hfl _ _ p e ha hc hk s m args below hf hfit hheap happ hpre
  obtain ⟨k, o, h1, h2, h3, rfl, hF⟩ := lw_comes l hfl p e ha hc hk s m args below hf hfit hheap happ hpre
  exact ⟨k, _, h1, h2, h3, hL args s _, lw_frame hF⟩
theorem i_vc : Claimed_1_1 ∧ Claimed_1_2 := ⟨lw_limb limb_1_1 (fun args s t => by simp [limb_1_1, Cond.after, Cond.holds, Cond.value]), lw_limb limb_1_2 (fun args s t => Cond.after_iff.mpr (by
  first | (rw [show limb_1_2 = Cond.eq .result (.int 1) from rfl, Cond.eq_ints (x := 1) (y := 1) rfl rfl]; simp; done) | (simp [limb_1_2, Cond.value, Term.eval]; done)))⟩
end
