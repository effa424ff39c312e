section
-- ===== PART A: goes FIRST, ahead of the names: the tables' words, and 'selects' of the private methods out of them =====
/-- a private method of a class that the tables say can be made, by its rows of tables_1 -/
def lw_okq (q : MethodName × Nat) : Prop := (q.1.cls ≠ "java/lang/invoke/MethodHandle" ∧ q.1.cls ≠ "java/lang/invoke/VarHandle") ∧ Cond.instantiable q.1.cls q.2 ∈ tables_1 ∧ Cond.privateMethod q.1 ∈ tables_1 ∧ Cond.instanceMethod q.1 ∈ tables_1
theorem lw_p0 : lw_okq (⟨"NounFast$Text", "behindBlanks", "(I)I"⟩, 11) := ⟨⟨by decide +kernel, by decide +kernel⟩, List.mem_of_getElem? (i := 51) (by decide +kernel), List.mem_of_getElem? (i := 368) (by decide +kernel), List.mem_of_getElem? (i := 369) (by decide +kernel)⟩
theorem lw_p1 : lw_okq (⟨"NounFast$Text", "readToken", "(I)I"⟩, 11) := ⟨⟨by decide +kernel, by decide +kernel⟩, List.mem_of_getElem? (i := 51) (by decide +kernel), List.mem_of_getElem? (i := 379) (by decide +kernel), List.mem_of_getElem? (i := 380) (by decide +kernel)⟩
theorem lw_p2 : lw_okq (⟨"NounFast$Text", "readRun", "(I)I"⟩, 11) := ⟨⟨by decide +kernel, by decide +kernel⟩, List.mem_of_getElem? (i := 51) (by decide +kernel), List.mem_of_getElem? (i := 389) (by decide +kernel), List.mem_of_getElem? (i := 390) (by decide +kernel)⟩
theorem lw_p3 : lw_okq (⟨"NounFast$Text", "wordNumber", "(II)I"⟩, 11) := ⟨⟨by decide +kernel, by decide +kernel⟩, List.mem_of_getElem? (i := 51) (by decide +kernel), List.mem_of_getElem? (i := 393) (by decide +kernel), List.mem_of_getElem? (i := 394) (by decide +kernel)⟩
theorem lw_p4 : lw_okq (⟨"NounFast$Text", "wordIn", "(Ljava/lang/String;II)I"⟩, 11) := ⟨⟨by decide +kernel, by decide +kernel⟩, List.mem_of_getElem? (i := 51) (by decide +kernel), List.mem_of_getElem? (i := 398) (by decide +kernel), List.mem_of_getElem? (i := 399) (by decide +kernel)⟩
theorem lw_p5 : lw_okq (⟨"NounFast$Text", "isSpelled", "(Ljava/lang/String;III)Z"⟩, 11) := ⟨⟨by decide +kernel, by decide +kernel⟩, List.mem_of_getElem? (i := 51) (by decide +kernel), List.mem_of_getElem? (i := 412) (by decide +kernel), List.mem_of_getElem? (i := 413) (by decide +kernel)⟩
theorem lw_p6 : lw_okq (⟨"NounFast$City", "readLine", "(LNounFast$Text;)V"⟩, 9) := ⟨⟨by decide +kernel, by decide +kernel⟩, List.mem_of_getElem? (i := 101) (by decide +kernel), List.mem_of_getElem? (i := 464) (by decide +kernel), List.mem_of_getElem? (i := 465) (by decide +kernel)⟩
theorem lw_p7 : lw_okq (⟨"NounFast$City", "readNew", "(LNounFast$Text;I)V"⟩, 9) := ⟨⟨by decide +kernel, by decide +kernel⟩, List.mem_of_getElem? (i := 101) (by decide +kernel), List.mem_of_getElem? (i := 472) (by decide +kernel), List.mem_of_getElem? (i := 473) (by decide +kernel)⟩
theorem lw_p8 : lw_okq (⟨"NounFast$City", "find", "(J)I"⟩, 9) := ⟨⟨by decide +kernel, by decide +kernel⟩, List.mem_of_getElem? (i := 101) (by decide +kernel), List.mem_of_getElem? (i := 483) (by decide +kernel), List.mem_of_getElem? (i := 484) (by decide +kernel)⟩
theorem lw_p9 : lw_okq (⟨"NounFast$City", "readPerson", "(LNounFast$Text;I)V"⟩, 9) := ⟨⟨by decide +kernel, by decide +kernel⟩, List.mem_of_getElem? (i := 101) (by decide +kernel), List.mem_of_getElem? (i := 491) (by decide +kernel), List.mem_of_getElem? (i := 492) (by decide +kernel)⟩
theorem lw_p10 : lw_okq (⟨"NounFast$City", "readPair", "(LNounFast$Text;I[I)V"⟩, 9) := ⟨⟨by decide +kernel, by decide +kernel⟩, List.mem_of_getElem? (i := 101) (by decide +kernel), List.mem_of_getElem? (i := 504) (by decide +kernel), List.mem_of_getElem? (i := 505) (by decide +kernel)⟩
theorem lw_p11 : lw_okq (⟨"NounFast$City", "readSetting", "(LNounFast$Text;I)V"⟩, 9) := ⟨⟨by decide +kernel, by decide +kernel⟩, List.mem_of_getElem? (i := 101) (by decide +kernel), List.mem_of_getElem? (i := 508) (by decide +kernel), List.mem_of_getElem? (i := 509) (by decide +kernel)⟩
theorem lw_p12 : lw_okq (⟨"NounFast", "closeText", "()V"⟩, 18) := ⟨⟨by decide +kernel, by decide +kernel⟩, List.mem_of_getElem? (i := 26) (by decide +kernel), List.mem_of_getElem? (i := 520) (by decide +kernel), List.mem_of_getElem? (i := 521) (by decide +kernel)⟩
theorem lw_p13 : lw_okq (⟨"NounFast$History", "slot", "(I)I"⟩, 3) := ⟨⟨by decide +kernel, by decide +kernel⟩, List.mem_of_getElem? (i := 205) (by decide +kernel), List.mem_of_getElem? (i := 582) (by decide +kernel), List.mem_of_getElem? (i := 583) (by decide +kernel)⟩
theorem lw_p14 : lw_okq (⟨"NounFast", "kept", "(I)I"⟩, 18) := ⟨⟨by decide +kernel, by decide +kernel⟩, List.mem_of_getElem? (i := 26) (by decide +kernel), List.mem_of_getElem? (i := 596) (by decide +kernel), List.mem_of_getElem? (i := 597) (by decide +kernel)⟩
theorem lw_p15 : lw_okq (⟨"NounFast$Scene", "areTogether", "(II)Z"⟩, 10) := ⟨⟨by decide +kernel, by decide +kernel⟩, List.mem_of_getElem? (i := 99) (by decide +kernel), List.mem_of_getElem? (i := 616) (by decide +kernel), List.mem_of_getElem? (i := 617) (by decide +kernel)⟩
def lw_privs_1 : List (MethodName × Nat) := [(⟨"NounFast$Text", "behindBlanks", "(I)I"⟩, 11), (⟨"NounFast$Text", "readToken", "(I)I"⟩, 11), (⟨"NounFast$Text", "readRun", "(I)I"⟩, 11), (⟨"NounFast$Text", "wordNumber", "(II)I"⟩, 11), (⟨"NounFast$Text", "wordIn", "(Ljava/lang/String;II)I"⟩, 11), (⟨"NounFast$Text", "isSpelled", "(Ljava/lang/String;III)Z"⟩, 11), (⟨"NounFast$City", "readLine", "(LNounFast$Text;)V"⟩, 9), (⟨"NounFast$City", "readNew", "(LNounFast$Text;I)V"⟩, 9), (⟨"NounFast$City", "find", "(J)I"⟩, 9), (⟨"NounFast$City", "readPerson", "(LNounFast$Text;I)V"⟩, 9), (⟨"NounFast$City", "readPair", "(LNounFast$Text;I[I)V"⟩, 9), (⟨"NounFast$City", "readSetting", "(LNounFast$Text;I)V"⟩, 9), (⟨"NounFast", "closeText", "()V"⟩, 18), (⟨"NounFast$History", "slot", "(I)I"⟩, 3), (⟨"NounFast", "kept", "(I)I"⟩, 18), (⟨"NounFast$Scene", "areTogether", "(II)Z"⟩, 10)]
theorem lw_r1 : ∀ q ∈ lw_privs_1, lw_okq q := List.forall_mem_cons.mpr ⟨lw_p0, List.forall_mem_cons.mpr ⟨lw_p1, List.forall_mem_cons.mpr ⟨lw_p2, List.forall_mem_cons.mpr ⟨lw_p3, List.forall_mem_cons.mpr ⟨lw_p4, List.forall_mem_cons.mpr ⟨lw_p5, List.forall_mem_cons.mpr ⟨lw_p6, List.forall_mem_cons.mpr ⟨lw_p7, List.forall_mem_cons.mpr ⟨lw_p8, List.forall_mem_cons.mpr ⟨lw_p9, List.forall_mem_cons.mpr ⟨lw_p10, List.forall_mem_cons.mpr ⟨lw_p11, List.forall_mem_cons.mpr ⟨lw_p12, List.forall_mem_cons.mpr ⟨lw_p13, List.forall_mem_cons.mpr ⟨lw_p14, List.forall_mem_cons.mpr ⟨lw_p15, fun _ h => absurd h List.not_mem_nil⟩⟩⟩⟩⟩⟩⟩⟩⟩⟩⟩⟩⟩⟩⟩⟩
theorem lw_p16 : lw_okq (⟨"NounFast$Scene", "liesBefore", "(II)Z"⟩, 10) := ⟨⟨by decide +kernel, by decide +kernel⟩, List.mem_of_getElem? (i := 99) (by decide +kernel), List.mem_of_getElem? (i := 650) (by decide +kernel), List.mem_of_getElem? (i := 651) (by decide +kernel)⟩
theorem lw_p17 : lw_okq (⟨"NounFast", "keptDays", "(I)I"⟩, 18) := ⟨⟨by decide +kernel, by decide +kernel⟩, List.mem_of_getElem? (i := 26) (by decide +kernel), List.mem_of_getElem? (i := 699) (by decide +kernel), List.mem_of_getElem? (i := 700) (by decide +kernel)⟩
theorem lw_p18 : lw_okq (⟨"NounFast$Clue", "countFitting", "(LNounFast$Scene;II)V"⟩, 3) := ⟨⟨by decide +kernel, by decide +kernel⟩, List.mem_of_getElem? (i := 262) (by decide +kernel), List.mem_of_getElem? (i := 783) (by decide +kernel), List.mem_of_getElem? (i := 784) (by decide +kernel)⟩
theorem lw_p19 : lw_okq (⟨"NounFast$Clue", "mostTelling", "(LNounFast$Scene;I)I"⟩, 3) := ⟨⟨by decide +kernel, by decide +kernel⟩, List.mem_of_getElem? (i := 262) (by decide +kernel), List.mem_of_getElem? (i := 787) (by decide +kernel), List.mem_of_getElem? (i := 788) (by decide +kernel)⟩
theorem lw_p20 : lw_okq (⟨"NounFast$Rest", "sayThings", "(LNounFast$Scene;I)Z"⟩, 2) := ⟨⟨by decide +kernel, by decide +kernel⟩, List.mem_of_getElem? (i := 248) (by decide +kernel), List.mem_of_getElem? (i := 826) (by decide +kernel), List.mem_of_getElem? (i := 827) (by decide +kernel)⟩
theorem lw_p21 : lw_okq (⟨"NounFast$Rest", "leastOwning", "(II)I"⟩, 2) := ⟨⟨by decide +kernel, by decide +kernel⟩, List.mem_of_getElem? (i := 248) (by decide +kernel), List.mem_of_getElem? (i := 830) (by decide +kernel), List.mem_of_getElem? (i := 831) (by decide +kernel)⟩
theorem lw_p22 : lw_okq (⟨"NounFast$Rest", "giveMarks", "(LNounFast$Scene;I)Z"⟩, 2) := ⟨⟨by decide +kernel, by decide +kernel⟩, List.mem_of_getElem? (i := 248) (by decide +kernel), List.mem_of_getElem? (i := 834) (by decide +kernel), List.mem_of_getElem? (i := 835) (by decide +kernel)⟩
theorem lw_p23 : lw_okq (⟨"NounFast$Rest", "firstSaid", "(II)I"⟩, 2) := ⟨⟨by decide +kernel, by decide +kernel⟩, List.mem_of_getElem? (i := 248) (by decide +kernel), List.mem_of_getElem? (i := 838) (by decide +kernel), List.mem_of_getElem? (i := 839) (by decide +kernel)⟩
theorem lw_p24 : lw_okq (⟨"NounFast", "spellRoundabout", "(I)V"⟩, 18) := ⟨⟨by decide +kernel, by decide +kernel⟩, List.mem_of_getElem? (i := 26) (by decide +kernel), List.mem_of_getElem? (i := 863) (by decide +kernel), List.mem_of_getElem? (i := 864) (by decide +kernel)⟩
theorem lw_p25 : lw_okq (⟨"NounFast", "spellByte", "(I)V"⟩, 18) := ⟨⟨by decide +kernel, by decide +kernel⟩, List.mem_of_getElem? (i := 26) (by decide +kernel), List.mem_of_getElem? (i := 867) (by decide +kernel), List.mem_of_getElem? (i := 868) (by decide +kernel)⟩
theorem lw_p26 : lw_okq (⟨"NounFast", "spellName", "(J)V"⟩, 18) := ⟨⟨by decide +kernel, by decide +kernel⟩, List.mem_of_getElem? (i := 26) (by decide +kernel), List.mem_of_getElem? (i := 876) (by decide +kernel), List.mem_of_getElem? (i := 877) (by decide +kernel)⟩
theorem lw_p27 : lw_okq (⟨"NounFast$Dice", "takeTurn", "(LNounFast$Scene;I)V"⟩, 1) := ⟨⟨by decide +kernel, by decide +kernel⟩, List.mem_of_getElem? (i := 280) (by decide +kernel), List.mem_of_getElem? (i := 896) (by decide +kernel), List.mem_of_getElem? (i := 897) (by decide +kernel)⟩
theorem lw_p28 : lw_okq (⟨"NounFast$Dice", "draw", "(I)I"⟩, 1) := ⟨⟨by decide +kernel, by decide +kernel⟩, List.mem_of_getElem? (i := 280) (by decide +kernel), List.mem_of_getElem? (i := 900) (by decide +kernel), List.mem_of_getElem? (i := 901) (by decide +kernel)⟩
theorem lw_p29 : lw_okq (⟨"NounFast$Book", "readLine", "(LNounFast$Text;LNounFast$City;)V"⟩, 6) := ⟨⟨by decide +kernel, by decide +kernel⟩, List.mem_of_getElem? (i := 223) (by decide +kernel), List.mem_of_getElem? (i := 932) (by decide +kernel), List.mem_of_getElem? (i := 933) (by decide +kernel)⟩
theorem lw_p30 : lw_okq (⟨"NounFast$Book", "readAct", "(LNounFast$Text;LNounFast$City;)V"⟩, 6) := ⟨⟨by decide +kernel, by decide +kernel⟩, List.mem_of_getElem? (i := 223) (by decide +kernel), List.mem_of_getElem? (i := 941) (by decide +kernel), List.mem_of_getElem? (i := 942) (by decide +kernel)⟩
theorem lw_p31 : lw_okq (⟨"NounFast$Book", "liveLine", "(LNounFast$Scene;I)I"⟩, 6) := ⟨⟨by decide +kernel, by decide +kernel⟩, List.mem_of_getElem? (i := 223) (by decide +kernel), List.mem_of_getElem? (i := 957) (by decide +kernel), List.mem_of_getElem? (i := 958) (by decide +kernel)⟩
def lw_privs_2 : List (MethodName × Nat) := [(⟨"NounFast$Scene", "liesBefore", "(II)Z"⟩, 10), (⟨"NounFast", "keptDays", "(I)I"⟩, 18), (⟨"NounFast$Clue", "countFitting", "(LNounFast$Scene;II)V"⟩, 3), (⟨"NounFast$Clue", "mostTelling", "(LNounFast$Scene;I)I"⟩, 3), (⟨"NounFast$Rest", "sayThings", "(LNounFast$Scene;I)Z"⟩, 2), (⟨"NounFast$Rest", "leastOwning", "(II)I"⟩, 2), (⟨"NounFast$Rest", "giveMarks", "(LNounFast$Scene;I)Z"⟩, 2), (⟨"NounFast$Rest", "firstSaid", "(II)I"⟩, 2), (⟨"NounFast", "spellRoundabout", "(I)V"⟩, 18), (⟨"NounFast", "spellByte", "(I)V"⟩, 18), (⟨"NounFast", "spellName", "(J)V"⟩, 18), (⟨"NounFast$Dice", "takeTurn", "(LNounFast$Scene;I)V"⟩, 1), (⟨"NounFast$Dice", "draw", "(I)I"⟩, 1), (⟨"NounFast$Book", "readLine", "(LNounFast$Text;LNounFast$City;)V"⟩, 6), (⟨"NounFast$Book", "readAct", "(LNounFast$Text;LNounFast$City;)V"⟩, 6), (⟨"NounFast$Book", "liveLine", "(LNounFast$Scene;I)I"⟩, 6)]
theorem lw_r2 : ∀ q ∈ lw_privs_2, lw_okq q := List.forall_mem_cons.mpr ⟨lw_p16, List.forall_mem_cons.mpr ⟨lw_p17, List.forall_mem_cons.mpr ⟨lw_p18, List.forall_mem_cons.mpr ⟨lw_p19, List.forall_mem_cons.mpr ⟨lw_p20, List.forall_mem_cons.mpr ⟨lw_p21, List.forall_mem_cons.mpr ⟨lw_p22, List.forall_mem_cons.mpr ⟨lw_p23, List.forall_mem_cons.mpr ⟨lw_p24, List.forall_mem_cons.mpr ⟨lw_p25, List.forall_mem_cons.mpr ⟨lw_p26, List.forall_mem_cons.mpr ⟨lw_p27, List.forall_mem_cons.mpr ⟨lw_p28, List.forall_mem_cons.mpr ⟨lw_p29, List.forall_mem_cons.mpr ⟨lw_p30, List.forall_mem_cons.mpr ⟨lw_p31, fun _ h => absurd h List.not_mem_nil⟩⟩⟩⟩⟩⟩⟩⟩⟩⟩⟩⟩⟩⟩⟩⟩
theorem lw_p32 : lw_okq (⟨"NounFast$Sentence", "readAll", "(LNounFast$Text;LNounFast$City;I)V"⟩, 6) := ⟨⟨by decide +kernel, by decide +kernel⟩, List.mem_of_getElem? (i := 987) (by decide +kernel), List.mem_of_getElem? (i := 1017) (by decide +kernel), List.mem_of_getElem? (i := 1018) (by decide +kernel)⟩
theorem lw_p33 : lw_okq (⟨"NounFast$Sentence", "readOne", "(LNounFast$Text;LNounFast$City;I)V"⟩, 6) := ⟨⟨by decide +kernel, by decide +kernel⟩, List.mem_of_getElem? (i := 987) (by decide +kernel), List.mem_of_getElem? (i := 1021) (by decide +kernel), List.mem_of_getElem? (i := 1022) (by decide +kernel)⟩
theorem lw_p34 : lw_okq (⟨"NounFast$Sentence", "add", "(III)V"⟩, 6) := ⟨⟨by decide +kernel, by decide +kernel⟩, List.mem_of_getElem? (i := 987) (by decide +kernel), List.mem_of_getElem? (i := 1030) (by decide +kernel), List.mem_of_getElem? (i := 1031) (by decide +kernel)⟩
theorem lw_p35 : lw_okq (⟨"NounFast$Sentence", "readPlain", "(LNounFast$Text;LNounFast$City;I)V"⟩, 6) := ⟨⟨by decide +kernel, by decide +kernel⟩, List.mem_of_getElem? (i := 987) (by decide +kernel), List.mem_of_getElem? (i := 1034) (by decide +kernel), List.mem_of_getElem? (i := 1035) (by decide +kernel)⟩
theorem lw_p36 : lw_okq (⟨"NounFast$Sentence", "thingsOfPart", "(LNounFast$Scene;I)I"⟩, 6) := ⟨⟨by decide +kernel, by decide +kernel⟩, List.mem_of_getElem? (i := 987) (by decide +kernel), List.mem_of_getElem? (i := 1056) (by decide +kernel), List.mem_of_getElem? (i := 1057) (by decide +kernel)⟩
theorem lw_p37 : lw_okq (⟨"NounFast$Sentence", "holds", "(LNounFast$Scene;II)Z"⟩, 6) := ⟨⟨by decide +kernel, by decide +kernel⟩, List.mem_of_getElem? (i := 987) (by decide +kernel), List.mem_of_getElem? (i := 1060) (by decide +kernel), List.mem_of_getElem? (i := 1061) (by decide +kernel)⟩
theorem lw_p38 : lw_okq (⟨"java/lang/Throwable", "fillInStackTrace", "(I)Ljava/lang/Throwable;"⟩, 6) := ⟨⟨by decide +kernel, by decide +kernel⟩, List.mem_of_getElem? (i := 1131) (by decide +kernel), List.mem_of_getElem? (i := 1129) (by decide +kernel), List.mem_of_getElem? (i := 1130) (by decide +kernel)⟩
theorem lw_p39 : lw_okq (⟨"NounFastModel", "four", "(I)V"⟩, 53) := ⟨⟨by decide +kernel, by decide +kernel⟩, List.mem_of_getElem? (i := 1198) (by decide +kernel), List.mem_of_getElem? (i := 1196) (by decide +kernel), List.mem_of_getElem? (i := 1197) (by decide +kernel)⟩
theorem lw_p40 : lw_okq (⟨"NounFastModel", "clears", "()V"⟩, 53) := ⟨⟨by decide +kernel, by decide +kernel⟩, List.mem_of_getElem? (i := 1198) (by decide +kernel), List.mem_of_getElem? (i := 1239) (by decide +kernel), List.mem_of_getElem? (i := 1240) (by decide +kernel)⟩
theorem lw_p41 : lw_okq (⟨"NounFastModel", "taken", "(I)V"⟩, 53) := ⟨⟨by decide +kernel, by decide +kernel⟩, List.mem_of_getElem? (i := 1198) (by decide +kernel), List.mem_of_getElem? (i := 1408) (by decide +kernel), List.mem_of_getElem? (i := 1409) (by decide +kernel)⟩
theorem lw_p42 : lw_okq (⟨"NounFastModel", "next", "()V"⟩, 53) := ⟨⟨by decide +kernel, by decide +kernel⟩, List.mem_of_getElem? (i := 1198) (by decide +kernel), List.mem_of_getElem? (i := 1412) (by decide +kernel), List.mem_of_getElem? (i := 1413) (by decide +kernel)⟩
theorem lw_p43 : lw_okq (⟨"NounFastModel", "peek", "()I"⟩, 53) := ⟨⟨by decide +kernel, by decide +kernel⟩, List.mem_of_getElem? (i := 1198) (by decide +kernel), List.mem_of_getElem? (i := 1416) (by decide +kernel), List.mem_of_getElem? (i := 1417) (by decide +kernel)⟩
theorem lw_p44 : lw_okq (⟨"NounFastModel", "line", "()Z"⟩, 53) := ⟨⟨by decide +kernel, by decide +kernel⟩, List.mem_of_getElem? (i := 1198) (by decide +kernel), List.mem_of_getElem? (i := 1426) (by decide +kernel), List.mem_of_getElem? (i := 1427) (by decide +kernel)⟩
theorem lw_p45 : lw_okq (⟨"NounFastModel", "isWord", "(J)Z"⟩, 53) := ⟨⟨by decide +kernel, by decide +kernel⟩, List.mem_of_getElem? (i := 1198) (by decide +kernel), List.mem_of_getElem? (i := 1430) (by decide +kernel), List.mem_of_getElem? (i := 1431) (by decide +kernel)⟩
theorem lw_p46 : lw_okq (⟨"NounFastModel", "readNew", "(III)Z"⟩, 53) := ⟨⟨by decide +kernel, by decide +kernel⟩, List.mem_of_getElem? (i := 1198) (by decide +kernel), List.mem_of_getElem? (i := 1434) (by decide +kernel), List.mem_of_getElem? (i := 1435) (by decide +kernel)⟩
theorem lw_p47 : lw_okq (⟨"NounFastModel", "bad", "(I)Z"⟩, 53) := ⟨⟨by decide +kernel, by decide +kernel⟩, List.mem_of_getElem? (i := 1198) (by decide +kernel), List.mem_of_getElem? (i := 1438) (by decide +kernel), List.mem_of_getElem? (i := 1439) (by decide +kernel)⟩
def lw_privs_3 : List (MethodName × Nat) := [(⟨"NounFast$Sentence", "readAll", "(LNounFast$Text;LNounFast$City;I)V"⟩, 6), (⟨"NounFast$Sentence", "readOne", "(LNounFast$Text;LNounFast$City;I)V"⟩, 6), (⟨"NounFast$Sentence", "add", "(III)V"⟩, 6), (⟨"NounFast$Sentence", "readPlain", "(LNounFast$Text;LNounFast$City;I)V"⟩, 6), (⟨"NounFast$Sentence", "thingsOfPart", "(LNounFast$Scene;I)I"⟩, 6), (⟨"NounFast$Sentence", "holds", "(LNounFast$Scene;II)Z"⟩, 6), (⟨"java/lang/Throwable", "fillInStackTrace", "(I)Ljava/lang/Throwable;"⟩, 6), (⟨"NounFastModel", "four", "(I)V"⟩, 53), (⟨"NounFastModel", "clears", "()V"⟩, 53), (⟨"NounFastModel", "taken", "(I)V"⟩, 53), (⟨"NounFastModel", "next", "()V"⟩, 53), (⟨"NounFastModel", "peek", "()I"⟩, 53), (⟨"NounFastModel", "line", "()Z"⟩, 53), (⟨"NounFastModel", "isWord", "(J)Z"⟩, 53), (⟨"NounFastModel", "readNew", "(III)Z"⟩, 53), (⟨"NounFastModel", "bad", "(I)Z"⟩, 53)]
theorem lw_r3 : ∀ q ∈ lw_privs_3, lw_okq q := List.forall_mem_cons.mpr ⟨lw_p32, List.forall_mem_cons.mpr ⟨lw_p33, List.forall_mem_cons.mpr ⟨lw_p34, List.forall_mem_cons.mpr ⟨lw_p35, List.forall_mem_cons.mpr ⟨lw_p36, List.forall_mem_cons.mpr ⟨lw_p37, List.forall_mem_cons.mpr ⟨lw_p38, List.forall_mem_cons.mpr ⟨lw_p39, List.forall_mem_cons.mpr ⟨lw_p40, List.forall_mem_cons.mpr ⟨lw_p41, List.forall_mem_cons.mpr ⟨lw_p42, List.forall_mem_cons.mpr ⟨lw_p43, List.forall_mem_cons.mpr ⟨lw_p44, List.forall_mem_cons.mpr ⟨lw_p45, List.forall_mem_cons.mpr ⟨lw_p46, List.forall_mem_cons.mpr ⟨lw_p47, fun _ h => absurd h List.not_mem_nil⟩⟩⟩⟩⟩⟩⟩⟩⟩⟩⟩⟩⟩⟩⟩⟩
theorem lw_p48 : lw_okq (⟨"NounFastModel", "fresh", "(I)Z"⟩, 53) := ⟨⟨by decide +kernel, by decide +kernel⟩, List.mem_of_getElem? (i := 1198) (by decide +kernel), List.mem_of_getElem? (i := 1442) (by decide +kernel), List.mem_of_getElem? (i := 1443) (by decide +kernel)⟩
theorem lw_p49 : lw_okq (⟨"NounFastModel", "isName", "()Z"⟩, 53) := ⟨⟨by decide +kernel, by decide +kernel⟩, List.mem_of_getElem? (i := 1198) (by decide +kernel), List.mem_of_getElem? (i := 1446) (by decide +kernel), List.mem_of_getElem? (i := 1447) (by decide +kernel)⟩
theorem lw_p50 : lw_okq (⟨"NounFastModel", "find", "(II)I"⟩, 53) := ⟨⟨by decide +kernel, by decide +kernel⟩, List.mem_of_getElem? (i := 1198) (by decide +kernel), List.mem_of_getElem? (i := 1450) (by decide +kernel), List.mem_of_getElem? (i := 1451) (by decide +kernel)⟩
theorem lw_p51 : lw_okq (⟨"NounFastModel", "readThing", "()Z"⟩, 53) := ⟨⟨by decide +kernel, by decide +kernel⟩, List.mem_of_getElem? (i := 1198) (by decide +kernel), List.mem_of_getElem? (i := 1454) (by decide +kernel), List.mem_of_getElem? (i := 1455) (by decide +kernel)⟩
theorem lw_p52 : lw_okq (⟨"NounFastModel", "takesName", "(II)Z"⟩, 53) := ⟨⟨by decide +kernel, by decide +kernel⟩, List.mem_of_getElem? (i := 1198) (by decide +kernel), List.mem_of_getElem? (i := 1458) (by decide +kernel), List.mem_of_getElem? (i := 1459) (by decide +kernel)⟩
theorem lw_p53 : lw_okq (⟨"NounFastModel", "looksAt", "(II)Z"⟩, 53) := ⟨⟨by decide +kernel, by decide +kernel⟩, List.mem_of_getElem? (i := 1198) (by decide +kernel), List.mem_of_getElem? (i := 1462) (by decide +kernel), List.mem_of_getElem? (i := 1463) (by decide +kernel)⟩
theorem lw_p54 : lw_okq (⟨"NounFastModel", "readTie", "(III)Z"⟩, 53) := ⟨⟨by decide +kernel, by decide +kernel⟩, List.mem_of_getElem? (i := 1198) (by decide +kernel), List.mem_of_getElem? (i := 1466) (by decide +kernel), List.mem_of_getElem? (i := 1467) (by decide +kernel)⟩
theorem lw_p55 : lw_okq (⟨"NounFastModel", "readPerson", "()Z"⟩, 53) := ⟨⟨by decide +kernel, by decide +kernel⟩, List.mem_of_getElem? (i := 1198) (by decide +kernel), List.mem_of_getElem? (i := 1473) (by decide +kernel), List.mem_of_getElem? (i := 1474) (by decide +kernel)⟩
theorem lw_p56 : lw_okq (⟨"NounFastModel", "puts", "(III)Z"⟩, 53) := ⟨⟨by decide +kernel, by decide +kernel⟩, List.mem_of_getElem? (i := 1198) (by decide +kernel), List.mem_of_getElem? (i := 1477) (by decide +kernel), List.mem_of_getElem? (i := 1478) (by decide +kernel)⟩
theorem lw_p57 : lw_okq (⟨"NounFastModel", "takes", "(II)Z"⟩, 53) := ⟨⟨by decide +kernel, by decide +kernel⟩, List.mem_of_getElem? (i := 1198) (by decide +kernel), List.mem_of_getElem? (i := 1481) (by decide +kernel), List.mem_of_getElem? (i := 1482) (by decide +kernel)⟩
theorem lw_p58 : lw_okq (⟨"NounFastModel", "once", "(IIII)Z"⟩, 53) := ⟨⟨by decide +kernel, by decide +kernel⟩, List.mem_of_getElem? (i := 1198) (by decide +kernel), List.mem_of_getElem? (i := 1488) (by decide +kernel), List.mem_of_getElem? (i := 1489) (by decide +kernel)⟩
theorem lw_p59 : lw_okq (⟨"NounFastModel", "sign", "(I)Z"⟩, 53) := ⟨⟨by decide +kernel, by decide +kernel⟩, List.mem_of_getElem? (i := 1198) (by decide +kernel), List.mem_of_getElem? (i := 1492) (by decide +kernel), List.mem_of_getElem? (i := 1493) (by decide +kernel)⟩
theorem lw_p60 : lw_okq (⟨"NounFastModel", "isSign", "(I)Z"⟩, 53) := ⟨⟨by decide +kernel, by decide +kernel⟩, List.mem_of_getElem? (i := 1198) (by decide +kernel), List.mem_of_getElem? (i := 1496) (by decide +kernel), List.mem_of_getElem? (i := 1497) (by decide +kernel)⟩
theorem lw_p61 : lw_okq (⟨"NounFastModel", "isThing", "(I)Z"⟩, 53) := ⟨⟨by decide +kernel, by decide +kernel⟩, List.mem_of_getElem? (i := 1198) (by decide +kernel), List.mem_of_getElem? (i := 1508) (by decide +kernel), List.mem_of_getElem? (i := 1509) (by decide +kernel)⟩
theorem lw_p62 : lw_okq (⟨"NounFastModel", "throwsIf", "(Z)Z"⟩, 53) := ⟨⟨by decide +kernel, by decide +kernel⟩, List.mem_of_getElem? (i := 1198) (by decide +kernel), List.mem_of_getElem? (i := 1512) (by decide +kernel), List.mem_of_getElem? (i := 1513) (by decide +kernel)⟩
theorem lw_p63 : lw_okq (⟨"NounFastModel", "placeOf", "(I)I"⟩, 53) := ⟨⟨by decide +kernel, by decide +kernel⟩, List.mem_of_getElem? (i := 1198) (by decide +kernel), List.mem_of_getElem? (i := 1516) (by decide +kernel), List.mem_of_getElem? (i := 1517) (by decide +kernel)⟩
def lw_privs_4 : List (MethodName × Nat) := [(⟨"NounFastModel", "fresh", "(I)Z"⟩, 53), (⟨"NounFastModel", "isName", "()Z"⟩, 53), (⟨"NounFastModel", "find", "(II)I"⟩, 53), (⟨"NounFastModel", "readThing", "()Z"⟩, 53), (⟨"NounFastModel", "takesName", "(II)Z"⟩, 53), (⟨"NounFastModel", "looksAt", "(II)Z"⟩, 53), (⟨"NounFastModel", "readTie", "(III)Z"⟩, 53), (⟨"NounFastModel", "readPerson", "()Z"⟩, 53), (⟨"NounFastModel", "puts", "(III)Z"⟩, 53), (⟨"NounFastModel", "takes", "(II)Z"⟩, 53), (⟨"NounFastModel", "once", "(IIII)Z"⟩, 53), (⟨"NounFastModel", "sign", "(I)Z"⟩, 53), (⟨"NounFastModel", "isSign", "(I)Z"⟩, 53), (⟨"NounFastModel", "isThing", "(I)Z"⟩, 53), (⟨"NounFastModel", "throwsIf", "(Z)Z"⟩, 53), (⟨"NounFastModel", "placeOf", "(I)I"⟩, 53)]
theorem lw_r4 : ∀ q ∈ lw_privs_4, lw_okq q := List.forall_mem_cons.mpr ⟨lw_p48, List.forall_mem_cons.mpr ⟨lw_p49, List.forall_mem_cons.mpr ⟨lw_p50, List.forall_mem_cons.mpr ⟨lw_p51, List.forall_mem_cons.mpr ⟨lw_p52, List.forall_mem_cons.mpr ⟨lw_p53, List.forall_mem_cons.mpr ⟨lw_p54, List.forall_mem_cons.mpr ⟨lw_p55, List.forall_mem_cons.mpr ⟨lw_p56, List.forall_mem_cons.mpr ⟨lw_p57, List.forall_mem_cons.mpr ⟨lw_p58, List.forall_mem_cons.mpr ⟨lw_p59, List.forall_mem_cons.mpr ⟨lw_p60, List.forall_mem_cons.mpr ⟨lw_p61, List.forall_mem_cons.mpr ⟨lw_p62, List.forall_mem_cons.mpr ⟨lw_p63, fun _ h => absurd h List.not_mem_nil⟩⟩⟩⟩⟩⟩⟩⟩⟩⟩⟩⟩⟩⟩⟩⟩
theorem lw_p64 : lw_okq (⟨"NounFastModel", "isCarried", "(I)Z"⟩, 53) := ⟨⟨by decide +kernel, by decide +kernel⟩, List.mem_of_getElem? (i := 1198) (by decide +kernel), List.mem_of_getElem? (i := 1520) (by decide +kernel), List.mem_of_getElem? (i := 1521) (by decide +kernel)⟩
theorem lw_p65 : lw_okq (⟨"NounFastModel", "isPerson", "(I)Z"⟩, 53) := ⟨⟨by decide +kernel, by decide +kernel⟩, List.mem_of_getElem? (i := 1198) (by decide +kernel), List.mem_of_getElem? (i := 1528) (by decide +kernel), List.mem_of_getElem? (i := 1529) (by decide +kernel)⟩
theorem lw_p66 : lw_okq (⟨"NounFastModel", "carriedBy", "(I)I"⟩, 53) := ⟨⟨by decide +kernel, by decide +kernel⟩, List.mem_of_getElem? (i := 1198) (by decide +kernel), List.mem_of_getElem? (i := 1532) (by decide +kernel), List.mem_of_getElem? (i := 1533) (by decide +kernel)⟩
theorem lw_p67 : lw_okq (⟨"NounFastModel", "isPlace", "(I)Z"⟩, 53) := ⟨⟨by decide +kernel, by decide +kernel⟩, List.mem_of_getElem? (i := 1198) (by decide +kernel), List.mem_of_getElem? (i := 1540) (by decide +kernel), List.mem_of_getElem? (i := 1541) (by decide +kernel)⟩
theorem lw_p68 : lw_okq (⟨"NounFastModel", "lyingAt", "(I)I"⟩, 53) := ⟨⟨by decide +kernel, by decide +kernel⟩, List.mem_of_getElem? (i := 1198) (by decide +kernel), List.mem_of_getElem? (i := 1544) (by decide +kernel), List.mem_of_getElem? (i := 1545) (by decide +kernel)⟩
theorem lw_p69 : lw_okq (⟨"NounFastModel", "isFast", "()Z"⟩, 53) := ⟨⟨by decide +kernel, by decide +kernel⟩, List.mem_of_getElem? (i := 1198) (by decide +kernel), List.mem_of_getElem? (i := 1552) (by decide +kernel), List.mem_of_getElem? (i := 1553) (by decide +kernel)⟩
theorem lw_p70 : lw_okq (⟨"NounFastModel", "carriedSet", "()I"⟩, 53) := ⟨⟨by decide +kernel, by decide +kernel⟩, List.mem_of_getElem? (i := 1198) (by decide +kernel), List.mem_of_getElem? (i := 1556) (by decide +kernel), List.mem_of_getElem? (i := 1557) (by decide +kernel)⟩
theorem lw_p71 : lw_okq (⟨"NounFastModel", "keep", "()V"⟩, 53) := ⟨⟨by decide +kernel, by decide +kernel⟩, List.mem_of_getElem? (i := 1198) (by decide +kernel), List.mem_of_getElem? (i := 1564) (by decide +kernel), List.mem_of_getElem? (i := 1565) (by decide +kernel)⟩
theorem lw_p72 : lw_okq (⟨"NounFastModel", "isSaying", "(I)Z"⟩, 53) := ⟨⟨by decide +kernel, by decide +kernel⟩, List.mem_of_getElem? (i := 1198) (by decide +kernel), List.mem_of_getElem? (i := 1572) (by decide +kernel), List.mem_of_getElem? (i := 1573) (by decide +kernel)⟩
theorem lw_p73 : lw_okq (⟨"NounFastModel", "whyAsk", "(III)I"⟩, 53) := ⟨⟨by decide +kernel, by decide +kernel⟩, List.mem_of_getElem? (i := 1198) (by decide +kernel), List.mem_of_getElem? (i := 1576) (by decide +kernel), List.mem_of_getElem? (i := 1577) (by decide +kernel)⟩
theorem lw_p74 : lw_okq (⟨"NounFastModel", "areApart", "(II)Z"⟩, 53) := ⟨⟨by decide +kernel, by decide +kernel⟩, List.mem_of_getElem? (i := 1198) (by decide +kernel), List.mem_of_getElem? (i := 1580) (by decide +kernel), List.mem_of_getElem? (i := 1581) (by decide +kernel)⟩
theorem lw_p75 : lw_okq (⟨"NounFastModel", "fitting", "(II)I"⟩, 53) := ⟨⟨by decide +kernel, by decide +kernel⟩, List.mem_of_getElem? (i := 1198) (by decide +kernel), List.mem_of_getElem? (i := 1584) (by decide +kernel), List.mem_of_getElem? (i := 1585) (by decide +kernel)⟩
theorem lw_p76 : lw_okq (⟨"NounFastModel", "hasAll", "(II)Z"⟩, 53) := ⟨⟨by decide +kernel, by decide +kernel⟩, List.mem_of_getElem? (i := 1198) (by decide +kernel), List.mem_of_getElem? (i := 1588) (by decide +kernel), List.mem_of_getElem? (i := 1589) (by decide +kernel)⟩
theorem lw_p77 : lw_okq (⟨"NounFastModel", "asks", "(III)V"⟩, 53) := ⟨⟨by decide +kernel, by decide +kernel⟩, List.mem_of_getElem? (i := 1198) (by decide +kernel), List.mem_of_getElem? (i := 1592) (by decide +kernel), List.mem_of_getElem? (i := 1593) (by decide +kernel)⟩
theorem lw_p78 : lw_okq (⟨"NounFastModel", "whyName", "(II)I"⟩, 53) := ⟨⟨by decide +kernel, by decide +kernel⟩, List.mem_of_getElem? (i := 1198) (by decide +kernel), List.mem_of_getElem? (i := 1606) (by decide +kernel), List.mem_of_getElem? (i := 1607) (by decide +kernel)⟩
theorem lw_p79 : lw_okq (⟨"NounFastModel", "isNear", "(II)Z"⟩, 53) := ⟨⟨by decide +kernel, by decide +kernel⟩, List.mem_of_getElem? (i := 1198) (by decide +kernel), List.mem_of_getElem? (i := 1610) (by decide +kernel), List.mem_of_getElem? (i := 1611) (by decide +kernel)⟩
def lw_privs_5 : List (MethodName × Nat) := [(⟨"NounFastModel", "isCarried", "(I)Z"⟩, 53), (⟨"NounFastModel", "isPerson", "(I)Z"⟩, 53), (⟨"NounFastModel", "carriedBy", "(I)I"⟩, 53), (⟨"NounFastModel", "isPlace", "(I)Z"⟩, 53), (⟨"NounFastModel", "lyingAt", "(I)I"⟩, 53), (⟨"NounFastModel", "isFast", "()Z"⟩, 53), (⟨"NounFastModel", "carriedSet", "()I"⟩, 53), (⟨"NounFastModel", "keep", "()V"⟩, 53), (⟨"NounFastModel", "isSaying", "(I)Z"⟩, 53), (⟨"NounFastModel", "whyAsk", "(III)I"⟩, 53), (⟨"NounFastModel", "areApart", "(II)Z"⟩, 53), (⟨"NounFastModel", "fitting", "(II)I"⟩, 53), (⟨"NounFastModel", "hasAll", "(II)Z"⟩, 53), (⟨"NounFastModel", "asks", "(III)V"⟩, 53), (⟨"NounFastModel", "whyName", "(II)I"⟩, 53), (⟨"NounFastModel", "isNear", "(II)Z"⟩, 53)]
theorem lw_r5 : ∀ q ∈ lw_privs_5, lw_okq q := List.forall_mem_cons.mpr ⟨lw_p64, List.forall_mem_cons.mpr ⟨lw_p65, List.forall_mem_cons.mpr ⟨lw_p66, List.forall_mem_cons.mpr ⟨lw_p67, List.forall_mem_cons.mpr ⟨lw_p68, List.forall_mem_cons.mpr ⟨lw_p69, List.forall_mem_cons.mpr ⟨lw_p70, List.forall_mem_cons.mpr ⟨lw_p71, List.forall_mem_cons.mpr ⟨lw_p72, List.forall_mem_cons.mpr ⟨lw_p73, List.forall_mem_cons.mpr ⟨lw_p74, List.forall_mem_cons.mpr ⟨lw_p75, List.forall_mem_cons.mpr ⟨lw_p76, List.forall_mem_cons.mpr ⟨lw_p77, List.forall_mem_cons.mpr ⟨lw_p78, List.forall_mem_cons.mpr ⟨lw_p79, fun _ h => absurd h List.not_mem_nil⟩⟩⟩⟩⟩⟩⟩⟩⟩⟩⟩⟩⟩⟩⟩⟩
theorem lw_p80 : lw_okq (⟨"NounFastModel", "isFined", "(I)Z"⟩, 53) := ⟨⟨by decide +kernel, by decide +kernel⟩, List.mem_of_getElem? (i := 1198) (by decide +kernel), List.mem_of_getElem? (i := 1614) (by decide +kernel), List.mem_of_getElem? (i := 1615) (by decide +kernel)⟩
theorem lw_p81 : lw_okq (⟨"NounFastModel", "namesOne", "(II)V"⟩, 53) := ⟨⟨by decide +kernel, by decide +kernel⟩, List.mem_of_getElem? (i := 1198) (by decide +kernel), List.mem_of_getElem? (i := 1618) (by decide +kernel), List.mem_of_getElem? (i := 1619) (by decide +kernel)⟩
theorem lw_p82 : lw_okq (⟨"NounFastModel", "whyPoint", "(II)I"⟩, 53) := ⟨⟨by decide +kernel, by decide +kernel⟩, List.mem_of_getElem? (i := 1198) (by decide +kernel), List.mem_of_getElem? (i := 1626) (by decide +kernel), List.mem_of_getElem? (i := 1627) (by decide +kernel)⟩
theorem lw_p83 : lw_okq (⟨"NounFastModel", "pointsAt", "(II)V"⟩, 53) := ⟨⟨by decide +kernel, by decide +kernel⟩, List.mem_of_getElem? (i := 1198) (by decide +kernel), List.mem_of_getElem? (i := 1630) (by decide +kernel), List.mem_of_getElem? (i := 1631) (by decide +kernel)⟩
theorem lw_p84 : lw_okq (⟨"NounFastModel", "putsDown", "(II)V"⟩, 53) := ⟨⟨by decide +kernel, by decide +kernel⟩, List.mem_of_getElem? (i := 1198) (by decide +kernel), List.mem_of_getElem? (i := 1638) (by decide +kernel), List.mem_of_getElem? (i := 1639) (by decide +kernel)⟩
theorem lw_p85 : lw_okq (⟨"NounFastModel", "whyLearn", "(II)I"⟩, 53) := ⟨⟨by decide +kernel, by decide +kernel⟩, List.mem_of_getElem? (i := 1198) (by decide +kernel), List.mem_of_getElem? (i := 1646) (by decide +kernel), List.mem_of_getElem? (i := 1647) (by decide +kernel)⟩
theorem lw_p86 : lw_okq (⟨"NounFastModel", "learnsOne", "(II)V"⟩, 53) := ⟨⟨by decide +kernel, by decide +kernel⟩, List.mem_of_getElem? (i := 1198) (by decide +kernel), List.mem_of_getElem? (i := 1650) (by decide +kernel), List.mem_of_getElem? (i := 1651) (by decide +kernel)⟩
theorem lw_p87 : lw_okq (⟨"NounFastModel", "goesOn", "(I)I"⟩, 53) := ⟨⟨by decide +kernel, by decide +kernel⟩, List.mem_of_getElem? (i := 1198) (by decide +kernel), List.mem_of_getElem? (i := 1658) (by decide +kernel), List.mem_of_getElem? (i := 1659) (by decide +kernel)⟩
theorem lw_p88 : lw_okq (⟨"NounFastModel", "day", "()V"⟩, 53) := ⟨⟨by decide +kernel, by decide +kernel⟩, List.mem_of_getElem? (i := 1198) (by decide +kernel), List.mem_of_getElem? (i := 1662) (by decide +kernel), List.mem_of_getElem? (i := 1663) (by decide +kernel)⟩
theorem lw_p89 : lw_okq (⟨"NounFastModel", "twinsOf", "(II)I"⟩, 53) := ⟨⟨by decide +kernel, by decide +kernel⟩, List.mem_of_getElem? (i := 1198) (by decide +kernel), List.mem_of_getElem? (i := 1689) (by decide +kernel), List.mem_of_getElem? (i := 1690) (by decide +kernel)⟩
theorem lw_p90 : lw_okq (⟨"NounFastModel", "isCover", "(II)Z"⟩, 53) := ⟨⟨by decide +kernel, by decide +kernel⟩, List.mem_of_getElem? (i := 1198) (by decide +kernel), List.mem_of_getElem? (i := 1701) (by decide +kernel), List.mem_of_getElem? (i := 1702) (by decide +kernel)⟩
theorem lw_p91 : lw_okq (⟨"NounFastModel", "octet", "(I)I"⟩, 53) := ⟨⟨by decide +kernel, by decide +kernel⟩, List.mem_of_getElem? (i := 1198) (by decide +kernel), List.mem_of_getElem? (i := 1713) (by decide +kernel), List.mem_of_getElem? (i := 1714) (by decide +kernel)⟩
theorem lw_p92 : lw_okq (⟨"NounFastModel", "isSpoken", "(I)Z"⟩, 53) := ⟨⟨by decide +kernel, by decide +kernel⟩, List.mem_of_getElem? (i := 1198) (by decide +kernel), List.mem_of_getElem? (i := 1717) (by decide +kernel), List.mem_of_getElem? (i := 1718) (by decide +kernel)⟩
theorem lw_p93 : lw_okq (⟨"NounFastModel", "isFit", "(II)Z"⟩, 53) := ⟨⟨by decide +kernel, by decide +kernel⟩, List.mem_of_getElem? (i := 1198) (by decide +kernel), List.mem_of_getElem? (i := 1721) (by decide +kernel), List.mem_of_getElem? (i := 1722) (by decide +kernel)⟩
theorem lw_p94 : lw_okq (⟨"NounFastModel", "saysAnew", "(I)Z"⟩, 53) := ⟨⟨by decide +kernel, by decide +kernel⟩, List.mem_of_getElem? (i := 1198) (by decide +kernel), List.mem_of_getElem? (i := 1749) (by decide +kernel), List.mem_of_getElem? (i := 1750) (by decide +kernel)⟩
theorem lw_p95 : lw_okq (⟨"NounFastModel", "meansAnew", "(I)Z"⟩, 53) := ⟨⟨by decide +kernel, by decide +kernel⟩, List.mem_of_getElem? (i := 1198) (by decide +kernel), List.mem_of_getElem? (i := 1753) (by decide +kernel), List.mem_of_getElem? (i := 1754) (by decide +kernel)⟩
def lw_privs_6 : List (MethodName × Nat) := [(⟨"NounFastModel", "isFined", "(I)Z"⟩, 53), (⟨"NounFastModel", "namesOne", "(II)V"⟩, 53), (⟨"NounFastModel", "whyPoint", "(II)I"⟩, 53), (⟨"NounFastModel", "pointsAt", "(II)V"⟩, 53), (⟨"NounFastModel", "putsDown", "(II)V"⟩, 53), (⟨"NounFastModel", "whyLearn", "(II)I"⟩, 53), (⟨"NounFastModel", "learnsOne", "(II)V"⟩, 53), (⟨"NounFastModel", "goesOn", "(I)I"⟩, 53), (⟨"NounFastModel", "day", "()V"⟩, 53), (⟨"NounFastModel", "twinsOf", "(II)I"⟩, 53), (⟨"NounFastModel", "isCover", "(II)Z"⟩, 53), (⟨"NounFastModel", "octet", "(I)I"⟩, 53), (⟨"NounFastModel", "isSpoken", "(I)Z"⟩, 53), (⟨"NounFastModel", "isFit", "(II)Z"⟩, 53), (⟨"NounFastModel", "saysAnew", "(I)Z"⟩, 53), (⟨"NounFastModel", "meansAnew", "(I)Z"⟩, 53)]
theorem lw_r6 : ∀ q ∈ lw_privs_6, lw_okq q := List.forall_mem_cons.mpr ⟨lw_p80, List.forall_mem_cons.mpr ⟨lw_p81, List.forall_mem_cons.mpr ⟨lw_p82, List.forall_mem_cons.mpr ⟨lw_p83, List.forall_mem_cons.mpr ⟨lw_p84, List.forall_mem_cons.mpr ⟨lw_p85, List.forall_mem_cons.mpr ⟨lw_p86, List.forall_mem_cons.mpr ⟨lw_p87, List.forall_mem_cons.mpr ⟨lw_p88, List.forall_mem_cons.mpr ⟨lw_p89, List.forall_mem_cons.mpr ⟨lw_p90, List.forall_mem_cons.mpr ⟨lw_p91, List.forall_mem_cons.mpr ⟨lw_p92, List.forall_mem_cons.mpr ⟨lw_p93, List.forall_mem_cons.mpr ⟨lw_p94, List.forall_mem_cons.mpr ⟨lw_p95, fun _ h => absurd h List.not_mem_nil⟩⟩⟩⟩⟩⟩⟩⟩⟩⟩⟩⟩⟩⟩⟩⟩
theorem lw_p96 : lw_okq (⟨"NounFastModel", "meantBy", "(II)I"⟩, 53) := ⟨⟨by decide +kernel, by decide +kernel⟩, List.mem_of_getElem? (i := 1198) (by decide +kernel), List.mem_of_getElem? (i := 1757) (by decide +kernel), List.mem_of_getElem? (i := 1758) (by decide +kernel)⟩
theorem lw_p97 : lw_okq (⟨"NounFastModel", "spells", "(J)V"⟩, 53) := ⟨⟨by decide +kernel, by decide +kernel⟩, List.mem_of_getElem? (i := 1198) (by decide +kernel), List.mem_of_getElem? (i := 1773) (by decide +kernel), List.mem_of_getElem? (i := 1774) (by decide +kernel)⟩
theorem lw_p98 : lw_okq (⟨"NounFastModel", "lays", "(I)V"⟩, 53) := ⟨⟨by decide +kernel, by decide +kernel⟩, List.mem_of_getElem? (i := 1198) (by decide +kernel), List.mem_of_getElem? (i := 1778) (by decide +kernel), List.mem_of_getElem? (i := 1779) (by decide +kernel)⟩
theorem lw_p99 : lw_okq (⟨"NounFastModel", "says", "(J)V"⟩, 53) := ⟨⟨by decide +kernel, by decide +kernel⟩, List.mem_of_getElem? (i := 1198) (by decide +kernel), List.mem_of_getElem? (i := 1783) (by decide +kernel), List.mem_of_getElem? (i := 1784) (by decide +kernel)⟩
theorem lw_p100 : lw_okq (⟨"NounFastModel", "draws", "(II)I"⟩, 53) := ⟨⟨by decide +kernel, by decide +kernel⟩, List.mem_of_getElem? (i := 1198) (by decide +kernel), List.mem_of_getElem? (i := 1796) (by decide +kernel), List.mem_of_getElem? (i := 1797) (by decide +kernel)⟩
theorem lw_p101 : lw_okq (⟨"NounFastModel", "drawPerson", "(I)V"⟩, 53) := ⟨⟨by decide +kernel, by decide +kernel⟩, List.mem_of_getElem? (i := 1198) (by decide +kernel), List.mem_of_getElem? (i := 1800) (by decide +kernel), List.mem_of_getElem? (i := 1801) (by decide +kernel)⟩
theorem lw_p102 : lw_okq (⟨"NounFastModel", "draw", "(I)I"⟩, 53) := ⟨⟨by decide +kernel, by decide +kernel⟩, List.mem_of_getElem? (i := 1198) (by decide +kernel), List.mem_of_getElem? (i := 1804) (by decide +kernel), List.mem_of_getElem? (i := 1805) (by decide +kernel)⟩
theorem lw_p103 : lw_okq (⟨"NounFastModel", "tries", "()V"⟩, 53) := ⟨⟨by decide +kernel, by decide +kernel⟩, List.mem_of_getElem? (i := 1198) (by decide +kernel), List.mem_of_getElem? (i := 1813) (by decide +kernel), List.mem_of_getElem? (i := 1814) (by decide +kernel)⟩
theorem lw_p104 : lw_okq (⟨"NounFastModel", "back", "()V"⟩, 53) := ⟨⟨by decide +kernel, by decide +kernel⟩, List.mem_of_getElem? (i := 1198) (by decide +kernel), List.mem_of_getElem? (i := 1817) (by decide +kernel), List.mem_of_getElem? (i := 1818) (by decide +kernel)⟩
theorem lw_p105 : lw_okq (⟨"NounFastModel", "bookLine", "()Z"⟩, 53) := ⟨⟨by decide +kernel, by decide +kernel⟩, List.mem_of_getElem? (i := 1198) (by decide +kernel), List.mem_of_getElem? (i := 1825) (by decide +kernel), List.mem_of_getElem? (i := 1826) (by decide +kernel)⟩
theorem lw_p106 : lw_okq (⟨"NounFastModel", "takesMarks", "(I)Z"⟩, 53) := ⟨⟨by decide +kernel, by decide +kernel⟩, List.mem_of_getElem? (i := 1198) (by decide +kernel), List.mem_of_getElem? (i := 1829) (by decide +kernel), List.mem_of_getElem? (i := 1830) (by decide +kernel)⟩
theorem lw_p107 : lw_okq (⟨"NounFastModel", "does", "(IIII)I"⟩, 53) := ⟨⟨by decide +kernel, by decide +kernel⟩, List.mem_of_getElem? (i := 1198) (by decide +kernel), List.mem_of_getElem? (i := 1833) (by decide +kernel), List.mem_of_getElem? (i := 1834) (by decide +kernel)⟩
theorem lw_p108 : lw_okq (⟨"NounFastModel", "nots", "()V"⟩, 53) := ⟨⟨by decide +kernel, by decide +kernel⟩, List.mem_of_getElem? (i := 1198) (by decide +kernel), List.mem_of_getElem? (i := 1845) (by decide +kernel), List.mem_of_getElem? (i := 1846) (by decide +kernel)⟩
theorem lw_p109 : lw_okq (⟨"NounFastModel", "code", "(III)V"⟩, 53) := ⟨⟨by decide +kernel, by decide +kernel⟩, List.mem_of_getElem? (i := 1198) (by decide +kernel), List.mem_of_getElem? (i := 1849) (by decide +kernel), List.mem_of_getElem? (i := 1850) (by decide +kernel)⟩
theorem lw_p110 : lw_okq (⟨"NounFastModel", "joins", "(I)V"⟩, 53) := ⟨⟨by decide +kernel, by decide +kernel⟩, List.mem_of_getElem? (i := 1198) (by decide +kernel), List.mem_of_getElem? (i := 1853) (by decide +kernel), List.mem_of_getElem? (i := 1854) (by decide +kernel)⟩
theorem lw_p111 : lw_okq (⟨"NounFastModel", "behind", "()Z"⟩, 53) := ⟨⟨by decide +kernel, by decide +kernel⟩, List.mem_of_getElem? (i := 1198) (by decide +kernel), List.mem_of_getElem? (i := 1857) (by decide +kernel), List.mem_of_getElem? (i := 1858) (by decide +kernel)⟩
def lw_privs_7 : List (MethodName × Nat) := [(⟨"NounFastModel", "meantBy", "(II)I"⟩, 53), (⟨"NounFastModel", "spells", "(J)V"⟩, 53), (⟨"NounFastModel", "lays", "(I)V"⟩, 53), (⟨"NounFastModel", "says", "(J)V"⟩, 53), (⟨"NounFastModel", "draws", "(II)I"⟩, 53), (⟨"NounFastModel", "drawPerson", "(I)V"⟩, 53), (⟨"NounFastModel", "draw", "(I)I"⟩, 53), (⟨"NounFastModel", "tries", "()V"⟩, 53), (⟨"NounFastModel", "back", "()V"⟩, 53), (⟨"NounFastModel", "bookLine", "()Z"⟩, 53), (⟨"NounFastModel", "takesMarks", "(I)Z"⟩, 53), (⟨"NounFastModel", "does", "(IIII)I"⟩, 53), (⟨"NounFastModel", "nots", "()V"⟩, 53), (⟨"NounFastModel", "code", "(III)V"⟩, 53), (⟨"NounFastModel", "joins", "(I)V"⟩, 53), (⟨"NounFastModel", "behind", "()Z"⟩, 53)]
theorem lw_r7 : ∀ q ∈ lw_privs_7, lw_okq q := List.forall_mem_cons.mpr ⟨lw_p96, List.forall_mem_cons.mpr ⟨lw_p97, List.forall_mem_cons.mpr ⟨lw_p98, List.forall_mem_cons.mpr ⟨lw_p99, List.forall_mem_cons.mpr ⟨lw_p100, List.forall_mem_cons.mpr ⟨lw_p101, List.forall_mem_cons.mpr ⟨lw_p102, List.forall_mem_cons.mpr ⟨lw_p103, List.forall_mem_cons.mpr ⟨lw_p104, List.forall_mem_cons.mpr ⟨lw_p105, List.forall_mem_cons.mpr ⟨lw_p106, List.forall_mem_cons.mpr ⟨lw_p107, List.forall_mem_cons.mpr ⟨lw_p108, List.forall_mem_cons.mpr ⟨lw_p109, List.forall_mem_cons.mpr ⟨lw_p110, List.forall_mem_cons.mpr ⟨lw_p111, fun _ h => absurd h List.not_mem_nil⟩⟩⟩⟩⟩⟩⟩⟩⟩⟩⟩⟩⟩⟩⟩⟩
theorem lw_p112 : lw_okq (⟨"NounFastModel", "operand", "()Z"⟩, 53) := ⟨⟨by decide +kernel, by decide +kernel⟩, List.mem_of_getElem? (i := 1198) (by decide +kernel), List.mem_of_getElem? (i := 1861) (by decide +kernel), List.mem_of_getElem? (i := 1862) (by decide +kernel)⟩
theorem lw_p113 : lw_okq (⟨"NounFastModel", "leafOf", "()I"⟩, 53) := ⟨⟨by decide +kernel, by decide +kernel⟩, List.mem_of_getElem? (i := 1198) (by decide +kernel), List.mem_of_getElem? (i := 1865) (by decide +kernel), List.mem_of_getElem? (i := 1866) (by decide +kernel)⟩
theorem lw_p114 : lw_okq (⟨"NounFastModel", "isSaid", "(I)Z"⟩, 53) := ⟨⟨by decide +kernel, by decide +kernel⟩, List.mem_of_getElem? (i := 1198) (by decide +kernel), List.mem_of_getElem? (i := 1873) (by decide +kernel), List.mem_of_getElem? (i := 1874) (by decide +kernel)⟩
theorem lw_p115 : lw_okq (⟨"NounFastModel", "isLeaf", "(IIII)Z"⟩, 53) := ⟨⟨by decide +kernel, by decide +kernel⟩, List.mem_of_getElem? (i := 1198) (by decide +kernel), List.mem_of_getElem? (i := 1877) (by decide +kernel), List.mem_of_getElem? (i := 1878) (by decide +kernel)⟩
def lw_privs_8 : List (MethodName × Nat) := [(⟨"NounFastModel", "operand", "()Z"⟩, 53), (⟨"NounFastModel", "leafOf", "()I"⟩, 53), (⟨"NounFastModel", "isSaid", "(I)Z"⟩, 53), (⟨"NounFastModel", "isLeaf", "(IIII)Z"⟩, 53)]
theorem lw_r8 : ∀ q ∈ lw_privs_8, lw_okq q := List.forall_mem_cons.mpr ⟨lw_p112, List.forall_mem_cons.mpr ⟨lw_p113, List.forall_mem_cons.mpr ⟨lw_p114, List.forall_mem_cons.mpr ⟨lw_p115, fun _ h => absurd h List.not_mem_nil⟩⟩⟩⟩
def lw_privs : List (MethodName × Nat) := lw_privs_1 ++ (lw_privs_2 ++ (lw_privs_3 ++ (lw_privs_4 ++ (lw_privs_5 ++ (lw_privs_6 ++ (lw_privs_7 ++ (lw_privs_8)))))))
def lw_tbl : List Cond := k2_sels lw_privs ++ tables_1
theorem lw_privs_ok : ∀ q ∈ lw_privs, lw_okq q := by
  show ∀ q ∈ lw_privs_1 ++ (lw_privs_2 ++ (lw_privs_3 ++ (lw_privs_4 ++ (lw_privs_5 ++ (lw_privs_6 ++ (lw_privs_7 ++ (lw_privs_8))))))), lw_okq q
  exact List.forall_mem_append.mpr ⟨lw_r1, List.forall_mem_append.mpr ⟨lw_r2, List.forall_mem_append.mpr ⟨lw_r3, List.forall_mem_append.mpr ⟨lw_r4, List.forall_mem_append.mpr ⟨lw_r5, List.forall_mem_append.mpr ⟨lw_r6, List.forall_mem_append.mpr ⟨lw_r7, lw_r8⟩⟩⟩⟩⟩⟩⟩
end
section
def RX0 : String := "NounFast$Book"
def TX0 : u_T := fun k => match k with
  | 0 => ("NounFast$Book", "verbs", "[I", true)
  | 1 => ("NounFast$Book", "actors", "[I", true)
  | 2 => ("NounFast$Book", "objects", "[I", true)
  | 3 => ("NounFast$Book", "sayings", "[I", true)
  | 4 => ("NounFast$Book", "lines", "I", false)
  | _ => ("NounFast$Book", "report", "[I", true)
def tyX0 : Nat → FieldType := fun k => match k with
  | 0 => .array .int
  | 1 => .array .int
  | 2 => .array .int
  | 3 => .array .int
  | 4 => .int
  | _ => .array .int
theorem nmX0 : ∀ a, a < 6 → ∀ b, b < 6 → a ≠ b → (TX0 a).2.1 ≠ (TX0 b).2.1 := by decide +kernel
theorem tyX0_ok : ∀ k, k < 6 → parseFieldDescriptor (TX0 k).2.2.1 = some (tyX0 k) := by decide +kernel
abbrev cX0_init : ByteArray := prog_2_method_1_code
def yX0_init : MethodName := ⟨RX0, "<init>", "()V"⟩
abbrev cX0_read : ByteArray := prog_2_method_2_code
def yX0_read : MethodName := ⟨RX0, "read", "(LNounFast$Text;LNounFast$City;)V"⟩
abbrev cX0_readLine : ByteArray := prog_2_method_3_code
def yX0_readLine : MethodName := ⟨RX0, "readLine", "(LNounFast$Text;LNounFast$City;)V"⟩
abbrev cX0_readAct : ByteArray := prog_2_method_4_code
def yX0_readAct : MethodName := ⟨RX0, "readAct", "(LNounFast$Text;LNounFast$City;)V"⟩
abbrev cX0_sortBehind : ByteArray := prog_2_method_5_code
def yX0_sortBehind : MethodName := ⟨RX0, "sortBehind", "(I)I"⟩
abbrev cX0_readSaying : ByteArray := prog_2_method_6_code
def yX0_readSaying : MethodName := ⟨RX0, "readSaying", "(LNounFast$Text;LNounFast$City;)I"⟩
abbrev cX0_judge : ByteArray := prog_2_method_7_code
def yX0_judge : MethodName := ⟨RX0, "judge", "(LNounFast$Scene;)I"⟩
abbrev cX0_liveLine : ByteArray := prog_2_method_8_code
def yX0_liveLine : MethodName := ⟨RX0, "liveLine", "(LNounFast$Scene;I)I"⟩
abbrev cX0_because : ByteArray := prog_2_method_9_code
def yX0_because : MethodName := ⟨RX0, "because", "(II)I"⟩
abbrev cX0_liveDays : ByteArray := prog_2_method_10_code
def yX0_liveDays : MethodName := ⟨RX0, "liveDays", "(LNounFast$Scene;I)I"⟩
abbrev cX0_tell : ByteArray := prog_2_method_11_code
def yX0_tell : MethodName := ⟨RX0, "tell", "(I)I"⟩
def RX1 : String := "NounFast$City"
def TX1 : u_T := fun k => match k with
  | 0 => ("NounFast$City", "counts", "[I", true)
  | 1 => ("NounFast$City", "names", "[J", true)
  | 2 => ("NounFast$City", "marks", "[I", true)
  | 3 => ("NounFast$City", "thingPlace", "[I", true)
  | 4 => ("NounFast$City", "personPlace", "[I", true)
  | 5 => ("NounFast$City", "coins", "[I", true)
  | 6 => ("NounFast$City", "knows", "[I", true)
  | 7 => ("NounFast$City", "foreigners", "I", false)
  | _ => ("NounFast$City", "settled", "I", false)
def tyX1 : Nat → FieldType := fun k => match k with
  | 0 => .array .int
  | 1 => .array .long
  | 2 => .array .int
  | 3 => .array .int
  | 4 => .array .int
  | 5 => .array .int
  | 6 => .array .int
  | 7 => .int
  | _ => .int
theorem nmX1 : ∀ a, a < 9 → ∀ b, b < 9 → a ≠ b → (TX1 a).2.1 ≠ (TX1 b).2.1 := by decide +kernel
theorem tyX1_ok : ∀ k, k < 9 → parseFieldDescriptor (TX1 k).2.2.1 = some (tyX1 k) := by decide +kernel
abbrev cX1_init : ByteArray := prog_3_method_1_code
def yX1_init : MethodName := ⟨RX1, "<init>", "()V"⟩
abbrev cX1_has : ByteArray := prog_3_method_2_code
def yX1_has : MethodName := ⟨RX1, "has", "(II)Z"⟩
abbrev cX1_hasMarks : ByteArray := prog_3_method_3_code
def yX1_hasMarks : MethodName := ⟨RX1, "hasMarks", "(I)Z"⟩
abbrev cX1_isForeign : ByteArray := prog_3_method_4_code
def yX1_isForeign : MethodName := ⟨RX1, "isForeign", "(I)Z"⟩
abbrev cX1_nameOf : ByteArray := prog_3_method_5_code
def yX1_nameOf : MethodName := ⟨RX1, "nameOf", "(II)J"⟩
abbrev cX1_find : ByteArray := prog_3_method_6_code
def yX1_find : MethodName := ⟨RX1, "find", "(J)I"⟩
abbrev cX1_toldHere : ByteArray := prog_3_method_7_code
def yX1_toldHere : MethodName := ⟨RX1, "toldHere", "(LNounFast$Text;I)I"⟩
abbrev cX1_read : ByteArray := prog_3_method_8_code
def yX1_read : MethodName := ⟨RX1, "read", "(LNounFast$Text;)I"⟩
abbrev cX1_readLine : ByteArray := prog_3_method_9_code
def yX1_readLine : MethodName := ⟨RX1, "readLine", "(LNounFast$Text;)V"⟩
abbrev cX1_readNew : ByteArray := prog_3_method_10_code
def yX1_readNew : MethodName := ⟨RX1, "readNew", "(LNounFast$Text;I)V"⟩
abbrev cX1_readPerson : ByteArray := prog_3_method_11_code
def yX1_readPerson : MethodName := ⟨RX1, "readPerson", "(LNounFast$Text;I)V"⟩
abbrev cX1_readPair : ByteArray := prog_3_method_12_code
def yX1_readPair : MethodName := ⟨RX1, "readPair", "(LNounFast$Text;I[I)V"⟩
abbrev cX1_readSetting : ByteArray := prog_3_method_13_code
def yX1_readSetting : MethodName := ⟨RX1, "readSetting", "(LNounFast$Text;I)V"⟩
def RX2 : String := "NounFast$Clue"
def TX2 : u_T := fun k => match k with
  | 0 => ("NounFast$Clue", "fitted", "[I", true)
  | 1 => ("NounFast$Clue", "sure", "I", false)
  | _ => ("NounFast$Clue", "next", "I", false)
def tyX2 : Nat → FieldType := fun k => match k with
  | 0 => .array .int
  | 1 => .int
  | _ => .int
theorem nmX2 : ∀ a, a < 3 → ∀ b, b < 3 → a ≠ b → (TX2 a).2.1 ≠ (TX2 b).2.1 := by decide +kernel
theorem tyX2_ok : ∀ k, k < 3 → parseFieldDescriptor (TX2 k).2.2.1 = some (tyX2 k) := by decide +kernel
abbrev cX2_init : ByteArray := prog_4_method_1_code
def yX2_init : MethodName := ⟨RX2, "<init>", "()V"⟩
abbrev cX2_hear : ByteArray := prog_4_method_2_code
def yX2_hear : MethodName := ⟨RX2, "hear", "(LNounFast$Tape;LNounFast$Scene;)I"⟩
abbrev cX2_isTold : ByteArray := prog_4_method_3_code
def yX2_isTold : MethodName := ⟨RX2, "isTold", "(LNounFast$Tape;LNounFast$Scene;)Z"⟩
abbrev cX2_isJustSo : ByteArray := prog_4_method_4_code
def yX2_isJustSo : MethodName := ⟨RX2, "isJustSo", "(LNounFast$Tape;LNounFast$Scene;II)Z"⟩
abbrev cX2_countFitting : ByteArray := prog_4_method_5_code
def yX2_countFitting : MethodName := ⟨RX2, "countFitting", "(LNounFast$Scene;II)V"⟩
abbrev cX2_mostTelling : ByteArray := prog_4_method_6_code
def yX2_mostTelling : MethodName := ⟨RX2, "mostTelling", "(LNounFast$Scene;I)I"⟩
def RX3 : String := "NounFast$Dice"
def TX3 : u_T := fun k => match k with
  | _ => ("NounFast$Dice", "x", "I", false)
def tyX3 : Nat → FieldType := fun k => match k with
  | _ => .int
theorem nmX3 : ∀ a, a < 1 → ∀ b, b < 1 → a ≠ b → (TX3 a).2.1 ≠ (TX3 b).2.1 := by decide +kernel
theorem tyX3_ok : ∀ k, k < 1 → parseFieldDescriptor (TX3 k).2.2.1 = some (tyX3 k) := by decide +kernel
abbrev cX3_init : ByteArray := prog_5_method_1_code
def yX3_init : MethodName := ⟨RX3, "<init>", "()V"⟩
abbrev cX3_draw : ByteArray := prog_5_method_2_code
def yX3_draw : MethodName := ⟨RX3, "draw", "(I)I"⟩
abbrev cX3_live : ByteArray := prog_5_method_3_code
def yX3_live : MethodName := ⟨RX3, "live", "(LNounFast$Scene;I)I"⟩
abbrev cX3_takeTurn : ByteArray := prog_5_method_4_code
def yX3_takeTurn : MethodName := ⟨RX3, "takeTurn", "(LNounFast$Scene;I)V"⟩
abbrev cX3_dropFirst : ByteArray := prog_5_method_5_code
def yX3_dropFirst : MethodName := ⟨RX3, "dropFirst", "(LNounFast$Scene;I)V"⟩
def RX4 : String := "NounFast$History"
def TX4 : u_T := fun k => match k with
  | 0 => ("NounFast$History", "scenes", "[LNounFast$Scene;", true)
  | 1 => ("NounFast$History", "first", "I", false)
  | _ => ("NounFast$History", "size", "I", false)
def tyX4 : Nat → FieldType := fun k => match k with
  | 0 => .array (.object "NounFast$Scene")
  | 1 => .int
  | _ => .int
theorem nmX4 : ∀ a, a < 3 → ∀ b, b < 3 → a ≠ b → (TX4 a).2.1 ≠ (TX4 b).2.1 := by decide +kernel
theorem tyX4_ok : ∀ k, k < 3 → parseFieldDescriptor (TX4 k).2.2.1 = some (tyX4 k) := by decide +kernel
abbrev cX4_init : ByteArray := prog_6_method_1_code
def yX4_init : MethodName := ⟨RX4, "<init>", "()V"⟩
abbrev cX4_slot : ByteArray := prog_6_method_2_code
def yX4_slot : MethodName := ⟨RX4, "slot", "(I)I"⟩
abbrev cX4_clear : ByteArray := prog_6_method_3_code
def yX4_clear : MethodName := ⟨RX4, "clear", "()V"⟩
abbrev cX4_prepare : ByteArray := prog_6_method_4_code
def yX4_prepare : MethodName := ⟨RX4, "prepare", "(LNounFast$Scene;)V"⟩
abbrev cX4_keep : ByteArray := prog_6_method_5_code
def yX4_keep : MethodName := ⟨RX4, "keep", "()V"⟩
abbrev cX4_takeBack : ByteArray := prog_6_method_6_code
def yX4_takeBack : MethodName := ⟨RX4, "takeBack", "(LNounFast$Scene;)I"⟩
def RX5 : String := "NounFast$Minds"
def TX5 : u_T := fun k => match k with
  | _ => ("", "", "", false)
def tyX5 : Nat → FieldType := fun k => match k with
  | _ => .int
theorem nmX5 : ∀ a, a < 0 → ∀ b, b < 0 → a ≠ b → (TX5 a).2.1 ≠ (TX5 b).2.1 := by decide +kernel
theorem tyX5_ok : ∀ k, k < 0 → parseFieldDescriptor (TX5 k).2.2.1 = some (tyX5 k) := by decide +kernel
abbrev cX5_leastSaying : ByteArray := prog_7_method_2_code
def yX5_leastSaying : MethodName := ⟨RX5, "leastSaying", "(LNounFast$Scene;II)I"⟩
abbrev cX5_isShorter : ByteArray := prog_7_method_3_code
def yX5_isShorter : MethodName := ⟨RX5, "isShorter", "(II)Z"⟩
abbrev cX5_twinOf : ByteArray := prog_7_method_4_code
def yX5_twinOf : MethodName := ⟨RX5, "twinOf", "(LNounFast$Scene;III)I"⟩
abbrev cX5_slips : ByteArray := prog_7_method_5_code
def yX5_slips : MethodName := ⟨RX5, "slips", "(LNounFast$Scene;II)I"⟩
abbrev cX5_leastCover : ByteArray := prog_7_method_6_code
def yX5_leastCover : MethodName := ⟨RX5, "leastCover", "(LNounFast$Scene;I)I"⟩
abbrev cX5_hasTwins : ByteArray := prog_7_method_7_code
def yX5_hasTwins : MethodName := ⟨RX5, "hasTwins", "(LNounFast$Scene;II)Z"⟩
abbrev cX5_leastCant : ByteArray := prog_7_method_8_code
def yX5_leastCant : MethodName := ⟨RX5, "leastCant", "(LNounFast$Scene;IIII)I"⟩
abbrev cX5_hoursOfNews : ByteArray := prog_7_method_9_code
def yX5_hoursOfNews : MethodName := ⟨RX5, "hoursOfNews", "(LNounFast$Scene;I)I"⟩
abbrev cX5_toldBy : ByteArray := prog_7_method_10_code
def yX5_toldBy : MethodName := ⟨RX5, "toldBy", "(LNounFast$Scene;I)I"⟩
abbrev cX5_hearersOf : ByteArray := prog_7_method_11_code
def yX5_hearersOf : MethodName := ⟨RX5, "hearersOf", "(LNounFast$Scene;I)I"⟩
def RX6 : String := "NounFast$Rest"
def TX6 : u_T := fun k => match k with
  | 0 => ("NounFast$Rest", "saidBy", "[I", true)
  | _ => ("NounFast$Rest", "owner", "[I", true)
def tyX6 : Nat → FieldType := fun k => match k with
  | 0 => .array .int
  | _ => .array .int
theorem nmX6 : ∀ a, a < 2 → ∀ b, b < 2 → a ≠ b → (TX6 a).2.1 ≠ (TX6 b).2.1 := by decide +kernel
theorem tyX6_ok : ∀ k, k < 2 → parseFieldDescriptor (TX6 k).2.2.1 = some (tyX6 k) := by decide +kernel
abbrev cX6_init : ByteArray := prog_8_method_1_code
def yX6_init : MethodName := ⟨RX6, "<init>", "()V"⟩
abbrev cX6_settle : ByteArray := prog_8_method_2_code
def yX6_settle : MethodName := ⟨RX6, "settle", "(LNounFast$Scene;I)I"⟩
abbrev cX6_havingMark : ByteArray := prog_8_method_3_code
def yX6_havingMark : MethodName := ⟨RX6, "havingMark", "(LNounFast$Scene;II)I"⟩
abbrev cX6_sayThings : ByteArray := prog_8_method_4_code
def yX6_sayThings : MethodName := ⟨RX6, "sayThings", "(LNounFast$Scene;I)Z"⟩
abbrev cX6_leastOwning : ByteArray := prog_8_method_5_code
def yX6_leastOwning : MethodName := ⟨RX6, "leastOwning", "(II)I"⟩
abbrev cX6_giveMarks : ByteArray := prog_8_method_6_code
def yX6_giveMarks : MethodName := ⟨RX6, "giveMarks", "(LNounFast$Scene;I)Z"⟩
abbrev cX6_firstSaid : ByteArray := prog_8_method_7_code
def yX6_firstSaid : MethodName := ⟨RX6, "firstSaid", "(II)I"⟩
def RX7 : String := "NounFast$Scene"
def TX7 : u_T := fun k => match k with
  | 0 => ("NounFast$Scene", "city", "LNounFast$City;", false)
  | 1 => ("NounFast$Scene", "thingPlace", "[I", true)
  | 2 => ("NounFast$Scene", "carrier", "[I", true)
  | 3 => ("NounFast$Scene", "named", "[I", true)
  | 4 => ("NounFast$Scene", "personPlace", "[I", true)
  | 5 => ("NounFast$Scene", "coins", "[I", true)
  | 6 => ("NounFast$Scene", "knows", "[I", true)
  | 7 => ("NounFast$Scene", "day", "I", false)
  | 8 => ("NounFast$Scene", "guesses", "I", false)
  | _ => ("NounFast$Scene", "fines", "I", false)
def tyX7 : Nat → FieldType := fun k => match k with
  | 0 => .object "NounFast$City"
  | 1 => .array .int
  | 2 => .array .int
  | 3 => .array .int
  | 4 => .array .int
  | 5 => .array .int
  | 6 => .array .int
  | 7 => .int
  | 8 => .int
  | _ => .int
theorem nmX7 : ∀ a, a < 10 → ∀ b, b < 10 → a ≠ b → (TX7 a).2.1 ≠ (TX7 b).2.1 := by decide +kernel
theorem tyX7_ok : ∀ k, k < 10 → parseFieldDescriptor (TX7 k).2.2.1 = some (tyX7 k) := by decide +kernel
abbrev cX7_init : ByteArray := prog_9_method_1_code
def yX7_init : MethodName := ⟨RX7, "<init>", "(LNounFast$City;)V"⟩
abbrev cX7_begin : ByteArray := prog_9_method_2_code
def yX7_begin : MethodName := ⟨RX7, "begin", "(LNounFast$City;)V"⟩
abbrev cX7_copyFrom : ByteArray := prog_9_method_3_code
def yX7_copyFrom : MethodName := ⟨RX7, "copyFrom", "(LNounFast$Scene;)V"⟩
abbrev cX7_has : ByteArray := prog_9_method_4_code
def yX7_has : MethodName := ⟨RX7, "has", "(II)Z"⟩
abbrev cX7_isFast : ByteArray := prog_9_method_5_code
def yX7_isFast : MethodName := ⟨RX7, "isFast", "()Z"⟩
abbrev cX7_isLying : ByteArray := prog_9_method_6_code
def yX7_isLying : MethodName := ⟨RX7, "isLying", "(I)Z"⟩
abbrev cX7_placeOf : ByteArray := prog_9_method_7_code
def yX7_placeOf : MethodName := ⟨RX7, "placeOf", "(I)I"⟩
abbrev cX7_lyingAt : ByteArray := prog_9_method_8_code
def yX7_lyingAt : MethodName := ⟨RX7, "lyingAt", "(I)I"⟩
abbrev cX7_carriedBy : ByteArray := prog_9_method_9_code
def yX7_carriedBy : MethodName := ⟨RX7, "carriedBy", "(I)I"⟩
abbrev cX7_allCarried : ByteArray := prog_9_method_10_code
def yX7_allCarried : MethodName := ⟨RX7, "allCarried", "()I"⟩
abbrev cX7_allCoins : ByteArray := prog_9_method_11_code
def yX7_allCoins : MethodName := ⟨RX7, "allCoins", "()I"⟩
abbrev cX7_isFitting : ByteArray := prog_9_method_12_code
def yX7_isFitting : MethodName := ⟨RX7, "isFitting", "(III)Z"⟩
abbrev cX7_fitting : ByteArray := prog_9_method_13_code
def yX7_fitting : MethodName := ⟨RX7, "fitting", "(III)I"⟩
abbrev cX7_areTogether : ByteArray := prog_9_method_14_code
def yX7_areTogether : MethodName := ⟨RX7, "areTogether", "(II)Z"⟩
abbrev cX7_liesBefore : ByteArray := prog_9_method_15_code
def yX7_liesBefore : MethodName := ⟨RX7, "liesBefore", "(II)Z"⟩
abbrev cX7_walk : ByteArray := prog_9_method_16_code
def yX7_walk : MethodName := ⟨RX7, "walk", "(II)I"⟩
abbrev cX7_request : ByteArray := prog_9_method_17_code
def yX7_request : MethodName := ⟨RX7, "request", "(III)I"⟩
abbrev cX7_callByName : ByteArray := prog_9_method_18_code
def yX7_callByName : MethodName := ⟨RX7, "callByName", "(II)I"⟩
abbrev cX7_pointAt : ByteArray := prog_9_method_19_code
def yX7_pointAt : MethodName := ⟨RX7, "pointAt", "(II)I"⟩
abbrev cX7_drop : ByteArray := prog_9_method_20_code
def yX7_drop : MethodName := ⟨RX7, "drop", "(II)I"⟩
abbrev cX7_study : ByteArray := prog_9_method_21_code
def yX7_study : MethodName := ⟨RX7, "study", "(II)I"⟩
abbrev cX7_daysLeft : ByteArray := prog_9_method_22_code
def yX7_daysLeft : MethodName := ⟨RX7, "daysLeft", "()I"⟩
abbrev cX7_passDays : ByteArray := prog_9_method_23_code
def yX7_passDays : MethodName := ⟨RX7, "passDays", "(I)I"⟩
abbrev cX7_passDay : ByteArray := prog_9_method_24_code
def yX7_passDay : MethodName := ⟨RX7, "passDay", "()V"⟩
def RX8 : String := "NounFast$Sentence"
def TX8 : u_T := fun k => match k with
  | 0 => ("NounFast$Sentence", "parts", "[I", true)
  | 1 => ("NounFast$Sentence", "objects", "[I", true)
  | 2 => ("NounFast$Sentence", "signs", "[I", true)
  | 3 => ("NounFast$Sentence", "stack", "[I", true)
  | 4 => ("NounFast$Sentence", "size", "I", false)
  | _ => ("NounFast$Sentence", "ones", "I", false)
def tyX8 : Nat → FieldType := fun k => match k with
  | 0 => .array .int
  | 1 => .array .int
  | 2 => .array .int
  | 3 => .array .int
  | 4 => .int
  | _ => .int
theorem nmX8 : ∀ a, a < 6 → ∀ b, b < 6 → a ≠ b → (TX8 a).2.1 ≠ (TX8 b).2.1 := by decide +kernel
theorem tyX8_ok : ∀ k, k < 6 → parseFieldDescriptor (TX8 k).2.2.1 = some (tyX8 k) := by decide +kernel
abbrev cX8_init : ByteArray := prog_10_method_1_code
def yX8_init : MethodName := ⟨RX8, "<init>", "()V"⟩
abbrev cX8_readCondition : ByteArray := prog_10_method_2_code
def yX8_readCondition : MethodName := ⟨RX8, "readCondition", "(LNounFast$Text;LNounFast$City;I)V"⟩
abbrev cX8_readAll : ByteArray := prog_10_method_3_code
def yX8_readAll : MethodName := ⟨RX8, "readAll", "(LNounFast$Text;LNounFast$City;I)V"⟩
abbrev cX8_readOne : ByteArray := prog_10_method_4_code
def yX8_readOne : MethodName := ⟨RX8, "readOne", "(LNounFast$Text;LNounFast$City;I)V"⟩
abbrev cX8_readPlain : ByteArray := prog_10_method_5_code
def yX8_readPlain : MethodName := ⟨RX8, "readPlain", "(LNounFast$Text;LNounFast$City;I)V"⟩
abbrev cX8_sortBehind : ByteArray := prog_10_method_6_code
def yX8_sortBehind : MethodName := ⟨RX8, "sortBehind", "(I)I"⟩
abbrev cX8_add : ByteArray := prog_10_method_7_code
def yX8_add : MethodName := ⟨RX8, "add", "(III)V"⟩
abbrev cX8_thingsIn : ByteArray := prog_10_method_8_code
def yX8_thingsIn : MethodName := ⟨RX8, "thingsIn", "(LNounFast$Scene;)I"⟩
abbrev cX8_thingsOfPart : ByteArray := prog_10_method_9_code
def yX8_thingsOfPart : MethodName := ⟨RX8, "thingsOfPart", "(LNounFast$Scene;I)I"⟩
abbrev cX8_holds : ByteArray := prog_10_method_10_code
def yX8_holds : MethodName := ⟨RX8, "holds", "(LNounFast$Scene;II)Z"⟩
abbrev cX8_isSo : ByteArray := prog_10_method_11_code
def yX8_isSo : MethodName := ⟨RX8, "isSo", "(III)Z"⟩
def RX9 : String := "NounFast$Tape"
def TX9 : u_T := fun k => match k with
  | 0 => ("NounFast$Tape", "bytes", "[B", true)
  | _ => ("NounFast$Tape", "length", "I", false)
def tyX9 : Nat → FieldType := fun k => match k with
  | 0 => .array .byte
  | _ => .int
theorem nmX9 : ∀ a, a < 2 → ∀ b, b < 2 → a ≠ b → (TX9 a).2.1 ≠ (TX9 b).2.1 := by decide +kernel
theorem tyX9_ok : ∀ k, k < 2 → parseFieldDescriptor (TX9 k).2.2.1 = some (tyX9 k) := by decide +kernel
abbrev cX9_init : ByteArray := prog_11_method_1_code
def yX9_init : MethodName := ⟨RX9, "<init>", "()V"⟩
abbrev cX9_append : ByteArray := prog_11_method_2_code
def yX9_append : MethodName := ⟨RX9, "append", "(I)V"⟩
abbrev cX9_at : ByteArray := prog_11_method_3_code
def yX9_at : MethodName := ⟨RX9, "at", "(I)I"⟩
def RX10 : String := "NounFast$Text"
def TX10 : u_T := fun k => match k with
  | 0 => ("NounFast$Text", "tape", "LNounFast$Tape;", true)
  | 1 => ("NounFast$Text", "kinds", "[I", true)
  | 2 => ("NounFast$Text", "starts", "[I", true)
  | 3 => ("NounFast$Text", "values", "[J", true)
  | 4 => ("NounFast$Text", "size", "I", false)
  | 5 => ("NounFast$Text", "index", "I", false)
  | 6 => ("NounFast$Text", "kind", "I", false)
  | 7 => ("NounFast$Text", "start", "I", false)
  | 8 => ("NounFast$Text", "value", "J", false)
  | 9 => ("NounFast$Text", "fault", "I", false)
  | _ => ("NounFast$Text", "faultPlace", "I", false)
def tyX10 : Nat → FieldType := fun k => match k with
  | 0 => .object "NounFast$Tape"
  | 1 => .array .int
  | 2 => .array .int
  | 3 => .array .long
  | 4 => .int
  | 5 => .int
  | 6 => .int
  | 7 => .int
  | 8 => .long
  | 9 => .int
  | _ => .int
theorem nmX10 : ∀ a, a < 11 → ∀ b, b < 11 → a ≠ b → (TX10 a).2.1 ≠ (TX10 b).2.1 := by decide +kernel
theorem tyX10_ok : ∀ k, k < 11 → parseFieldDescriptor (TX10 k).2.2.1 = some (tyX10 k) := by decide +kernel
abbrev cX10_init : ByteArray := prog_12_method_1_code
def yX10_init : MethodName := ⟨RX10, "<init>", "(LNounFast$Tape;)V"⟩
abbrev cX10_open : ByteArray := prog_12_method_2_code
def yX10_open : MethodName := ⟨RX10, "open", "(I)V"⟩
abbrev cX10_behindBlanks : ByteArray := prog_12_method_3_code
def yX10_behindBlanks : MethodName := ⟨RX10, "behindBlanks", "(I)I"⟩
abbrev cX10_readToken : ByteArray := prog_12_method_4_code
def yX10_readToken : MethodName := ⟨RX10, "readToken", "(I)I"⟩
abbrev cX10_readRun : ByteArray := prog_12_method_5_code
def yX10_readRun : MethodName := ⟨RX10, "readRun", "(I)I"⟩
abbrev cX10_wordNumber : ByteArray := prog_12_method_6_code
def yX10_wordNumber : MethodName := ⟨RX10, "wordNumber", "(II)I"⟩
abbrev cX10_wordIn : ByteArray := prog_12_method_7_code
def yX10_wordIn : MethodName := ⟨RX10, "wordIn", "(Ljava/lang/String;II)I"⟩
abbrev cX10_isSpelled : ByteArray := prog_12_method_8_code
def yX10_isSpelled : MethodName := ⟨RX10, "isSpelled", "(Ljava/lang/String;III)Z"⟩
abbrev cX10_isLetter : ByteArray := prog_12_method_9_code
def yX10_isLetter : MethodName := ⟨RX10, "isLetter", "(I)Z"⟩
abbrev cX10_isDigit : ByteArray := prog_12_method_10_code
def yX10_isDigit : MethodName := ⟨RX10, "isDigit", "(I)Z"⟩
abbrev cX10_step : ByteArray := prog_12_method_11_code
def yX10_step : MethodName := ⟨RX10, "step", "()V"⟩
abbrev cX10_fail : ByteArray := prog_12_method_12_code
def yX10_fail : MethodName := ⟨RX10, "fail", "(I)V"⟩
abbrev cX10_isWord : ByteArray := prog_12_method_13_code
def yX10_isWord : MethodName := ⟨RX10, "isWord", "(I)Z"⟩
abbrev cX10_plainWord : ByteArray := prog_12_method_14_code
def yX10_plainWord : MethodName := ⟨RX10, "plainWord", "()I"⟩
abbrev cX10_takeEnd : ByteArray := prog_12_method_15_code
def yX10_takeEnd : MethodName := ⟨RX10, "takeEnd", "()V"⟩
abbrev cX10_takeSign : ByteArray := prog_12_method_16_code
def yX10_takeSign : MethodName := ⟨RX10, "takeSign", "(I)V"⟩
abbrev cX10_takeNumber : ByteArray := prog_12_method_17_code
def yX10_takeNumber : MethodName := ⟨RX10, "takeNumber", "(II)I"⟩
def RX11 : String := "NounFast"
def TX11 : u_T := fun k => match k with
  | 0 => ("NounFast", "tape", "LNounFast$Tape;", true)
  | 1 => ("NounFast", "text", "LNounFast$Text;", true)
  | 2 => ("NounFast", "scene", "LNounFast$Scene;", true)
  | 3 => ("NounFast", "trial", "LNounFast$Scene;", true)
  | 4 => ("NounFast", "history", "LNounFast$History;", true)
  | 5 => ("NounFast", "reader", "LNounFast$Book;", true)
  | 6 => ("NounFast", "calm", "LNounFast$Rest;", true)
  | 7 => ("NounFast", "clue", "LNounFast$Clue;", true)
  | 8 => ("NounFast", "dice", "LNounFast$Dice;", true)
  | 9 => ("NounFast", "imageScenes", "[LNounFast$Scene;", true)
  | 10 => ("NounFast", "imageSentences", "[LNounFast$Sentence;", true)
  | 11 => ("NounFast", "phraseBytes", "[B", true)
  | 12 => ("NounFast", "phraseLength", "I", false)
  | 13 => ("NounFast", "judgement", "LNounFast$Sentence;", false)
  | 14 => ("NounFast", "latestFault", "I", false)
  | 15 => ("NounFast", "latestSaying", "I", false)
  | 16 => ("NounFast", "latestCovering", "I", false)
  | _ => ("NounFast", "latestCanting", "I", false)
def tyX11 : Nat → FieldType := fun k => match k with
  | 0 => .object "NounFast$Tape"
  | 1 => .object "NounFast$Text"
  | 2 => .object "NounFast$Scene"
  | 3 => .object "NounFast$Scene"
  | 4 => .object "NounFast$History"
  | 5 => .object "NounFast$Book"
  | 6 => .object "NounFast$Rest"
  | 7 => .object "NounFast$Clue"
  | 8 => .object "NounFast$Dice"
  | 9 => .array (.object "NounFast$Scene")
  | 10 => .array (.object "NounFast$Sentence")
  | 11 => .array .byte
  | 12 => .int
  | 13 => .object "NounFast$Sentence"
  | 14 => .int
  | 15 => .int
  | 16 => .int
  | _ => .int
theorem nmX11 : ∀ a, a < 18 → ∀ b, b < 18 → a ≠ b → (TX11 a).2.1 ≠ (TX11 b).2.1 := by decide +kernel
theorem tyX11_ok : ∀ k, k < 18 → parseFieldDescriptor (TX11 k).2.2.1 = some (tyX11 k) := by decide +kernel
abbrev cX11_init : ByteArray := prog_1_method_1_code
def yX11_init : MethodName := ⟨RX11, "<init>", "()V"⟩
abbrev cX11_feed : ByteArray := prog_1_method_2_code
def yX11_feed : MethodName := ⟨RX11, "feed", "(IIIII)I"⟩
abbrev cX11_end : ByteArray := prog_1_method_3_code
def yX11_end : MethodName := ⟨RX11, "end", "(I)Z"⟩
abbrev cX11_city : ByteArray := prog_1_method_4_code
def yX11_city : MethodName := ⟨RX11, "city", "()I"⟩
abbrev cX11_fault : ByteArray := prog_1_method_5_code
def yX11_fault : MethodName := ⟨RX11, "fault", "()I"⟩
abbrev cX11_thing : ByteArray := prog_1_method_6_code
def yX11_thing : MethodName := ⟨RX11, "thing", "(II)I"⟩
abbrev cX11_person : ByteArray := prog_1_method_7_code
def yX11_person : MethodName := ⟨RX11, "person", "(II)I"⟩
abbrev cX11_lies : ByteArray := prog_1_method_8_code
def yX11_lies : MethodName := ⟨RX11, "lies", "(I)I"⟩
abbrev cX11_now : ByteArray := prog_1_method_9_code
def yX11_now : MethodName := ⟨RX11, "now", "(I)I"⟩
abbrev cX11_go : ByteArray := prog_1_method_10_code
def yX11_go : MethodName := ⟨RX11, "go", "(II)I"⟩
abbrev cX11_ask : ByteArray := prog_1_method_11_code
def yX11_ask : MethodName := ⟨RX11, "ask", "(III)I"⟩
abbrev cX11_name : ByteArray := prog_1_method_12_code
def yX11_name : MethodName := ⟨RX11, "name", "(II)I"⟩
abbrev cX11_point : ByteArray := prog_1_method_13_code
def yX11_point : MethodName := ⟨RX11, "point", "(II)I"⟩
abbrev cX11_put : ByteArray := prog_1_method_14_code
def yX11_put : MethodName := ⟨RX11, "put", "(II)I"⟩
abbrev cX11_learn : ByteArray := prog_1_method_15_code
def yX11_learn : MethodName := ⟨RX11, "learn", "(II)I"⟩
abbrev cX11_days : ByteArray := prog_1_method_16_code
def yX11_days : MethodName := ⟨RX11, "days", "(I)I"⟩
abbrev cX11_undo : ByteArray := prog_1_method_17_code
def yX11_undo : MethodName := ⟨RX11, "undo", "()I"⟩
abbrev cX11_fits : ByteArray := prog_1_method_18_code
def yX11_fits : MethodName := ⟨RX11, "fits", "(III)I"⟩
abbrev cX11_say : ByteArray := prog_1_method_19_code
def yX11_say : MethodName := ⟨RX11, "say", "(II)I"⟩
abbrev cX11_saying : ByteArray := prog_1_method_20_code
def yX11_saying : MethodName := ⟨RX11, "saying", "()I"⟩
abbrev cX11_twin : ByteArray := prog_1_method_21_code
def yX11_twin : MethodName := ⟨RX11, "twin", "(II)I"⟩
abbrev cX11_slip : ByteArray := prog_1_method_22_code
def yX11_slip : MethodName := ⟨RX11, "slip", "(III)I"⟩
abbrev cX11_cover : ByteArray := prog_1_method_23_code
def yX11_cover : MethodName := ⟨RX11, "cover", "(I)I"⟩
abbrev cX11_covering : ByteArray := prog_1_method_24_code
def yX11_covering : MethodName := ⟨RX11, "covering", "()I"⟩
abbrev cX11_spoken : ByteArray := prog_1_method_25_code
def yX11_spoken : MethodName := ⟨RX11, "spoken", "()I"⟩
abbrev cX11_surely : ByteArray := prog_1_method_26_code
def yX11_surely : MethodName := ⟨RX11, "surely", "()I"⟩
abbrev cX11_show : ByteArray := prog_1_method_27_code
def yX11_show : MethodName := ⟨RX11, "show", "()I"⟩
abbrev cX11_cant : ByteArray := prog_1_method_28_code
def yX11_cant : MethodName := ⟨RX11, "cant", "(IIII)I"⟩
abbrev cX11_canting : ByteArray := prog_1_method_29_code
def yX11_canting : MethodName := ⟨RX11, "canting", "()I"⟩
abbrev cX11_rest : ByteArray := prog_1_method_30_code
def yX11_rest : MethodName := ⟨RX11, "rest", "(I)I"⟩
abbrev cX11_rested : ByteArray := prog_1_method_31_code
def yX11_rested : MethodName := ⟨RX11, "rested", "(I)I"⟩
abbrev cX11_news : ByteArray := prog_1_method_32_code
def yX11_news : MethodName := ⟨RX11, "news", "(I)I"⟩
abbrev cX11_phrase : ByteArray := prog_1_method_33_code
def yX11_phrase : MethodName := ⟨RX11, "phrase", "(I)I"⟩
abbrev cX11_byteAt : ByteArray := prog_1_method_34_code
def yX11_byteAt : MethodName := ⟨RX11, "byteAt", "(I)I"⟩
abbrev cX11_drawn : ByteArray := prog_1_method_35_code
def yX11_drawn : MethodName := ⟨RX11, "drawn", "(II)I"⟩
abbrev cX11_odds : ByteArray := prog_1_method_36_code
def yX11_odds : MethodName := ⟨RX11, "odds", "(III)I"⟩
abbrev cX11_book : ByteArray := prog_1_method_37_code
def yX11_book : MethodName := ⟨RX11, "book", "(I)I"⟩
abbrev cX11_told : ByteArray := prog_1_method_38_code
def yX11_told : MethodName := ⟨RX11, "told", "(I)I"⟩
abbrev cX11_sentence : ByteArray := prog_1_method_39_code
def yX11_sentence : MethodName := ⟨RX11, "sentence", "()I"⟩
abbrev cX11_said : ByteArray := prog_1_method_40_code
def yX11_said : MethodName := ⟨RX11, "said", "(I)I"⟩
abbrev cX11_image : ByteArray := prog_1_method_41_code
def yX11_image : MethodName := ⟨RX11, "image", "(I)Z"⟩
abbrev cX11_restore : ByteArray := prog_1_method_42_code
def yX11_restore : MethodName := ⟨RX11, "restore", "(I)Z"⟩
abbrev cX11_count : ByteArray := prog_1_method_43_code
def yX11_count : MethodName := ⟨RX11, "count", "(I)I"⟩
abbrev cX11_closeText : ByteArray := prog_1_method_44_code
def yX11_closeText : MethodName := ⟨RX11, "closeText", "()V"⟩
abbrev cX11_kept : ByteArray := prog_1_method_45_code
def yX11_kept : MethodName := ⟨RX11, "kept", "(I)I"⟩
abbrev cX11_keptDays : ByteArray := prog_1_method_46_code
def yX11_keptDays : MethodName := ⟨RX11, "keptDays", "(I)I"⟩
abbrev cX11_spellRoundabout : ByteArray := prog_1_method_47_code
def yX11_spellRoundabout : MethodName := ⟨RX11, "spellRoundabout", "(I)V"⟩
abbrev cX11_spellName : ByteArray := prog_1_method_48_code
def yX11_spellName : MethodName := ⟨RX11, "spellName", "(J)V"⟩
abbrev cX11_spellByte : ByteArray := prog_1_method_49_code
def yX11_spellByte : MethodName := ⟨RX11, "spellByte", "(I)V"⟩
abbrev cX11_greatestShared : ByteArray := prog_1_method_50_code
def yX11_greatestShared : MethodName := ⟨RX11, "greatestShared", "(II)I"⟩
abbrev cX11_bitAt : ByteArray := prog_1_method_51_code
def yX11_bitAt : MethodName := ⟨RX11, "bitAt", "(II)I"⟩
abbrev cX11_firstBit : ByteArray := prog_1_method_52_code
def yX11_firstBit : MethodName := ⟨RX11, "firstBit", "(I)I"⟩
def RX12 : String := "NounFastModel"
def TX12 : u_T := fun k => match k with
  | 0 => ("NounFastModel", "thrown", "I", false)
  | 1 => ("NounFastModel", "tape", "[B", true)
  | 2 => ("NounFastModel", "length", "I", false)
  | 3 => ("NounFastModel", "size", "I", false)
  | 4 => ("NounFastModel", "p", "I", false)
  | 5 => ("NounFastModel", "limit", "I", false)
  | 6 => ("NounFastModel", "s", "[I", true)
  | 7 => ("NounFastModel", "h", "[I", true)
  | 8 => ("NounFastModel", "read", "[I", true)
  | 9 => ("NounFastModel", "names", "[J", true)
  | 10 => ("NounFastModel", "reserved", "[J", true)
  | 11 => ("NounFastModel", "token", "I", false)
  | 12 => ("NounFastModel", "at", "I", false)
  | 13 => ("NounFastModel", "span", "I", false)
  | 14 => ("NounFastModel", "number", "I", false)
  | 15 => ("NounFastModel", "fault", "I", false)
  | 16 => ("NounFastModel", "faultAt", "I", false)
  | 17 => ("NounFastModel", "word", "J", false)
  | 18 => ("NounFastModel", "got", "I", false)
  | 19 => ("NounFastModel", "lines", "I", false)
  | 20 => ("NounFastModel", "onces", "I", false)
  | 21 => ("NounFastModel", "undone", "[I", true)
  | 22 => ("NounFastModel", "before", "[I", true)
  | 23 => ("NounFastModel", "undoMany", "I", false)
  | 24 => ("NounFastModel", "sayingSet", "I", false)
  | 25 => ("NounFastModel", "coverSet", "I", false)
  | 26 => ("NounFastModel", "cantSet", "I", false)
  | 27 => ("NounFastModel", "hasSaying", "Z", false)
  | 28 => ("NounFastModel", "hasCover", "Z", false)
  | 29 => ("NounFastModel", "hasCant", "Z", false)
  | 30 => ("NounFastModel", "surelySet", "I", false)
  | 31 => ("NounFastModel", "showThing", "I", false)
  | 32 => ("NounFastModel", "hasSpoken", "Z", false)
  | 33 => ("NounFastModel", "means", "[I", true)
  | 34 => ("NounFastModel", "said0", "[I", true)
  | 35 => ("NounFastModel", "restedRow", "[I", true)
  | 36 => ("NounFastModel", "hasRest", "Z", false)
  | 37 => ("NounFastModel", "text", "[B", true)
  | 38 => ("NounFastModel", "textMany", "I", false)
  | 39 => ("NounFastModel", "seed", "I", false)
  | 40 => ("NounFastModel", "toldMany", "I", false)
  | 41 => ("NounFastModel", "toldAt", "[I", true)
  | 42 => ("NounFastModel", "hasTold", "Z", false)
  | 43 => ("NounFastModel", "stack", "[I", true)
  | 44 => ("NounFastModel", "codes", "I", false)
  | 45 => ("NounFastModel", "ones", "I", false)
  | 46 => ("NounFastModel", "top", "I", false)
  | 47 => ("NounFastModel", "deep", "I", false)
  | 48 => ("NounFastModel", "isWhole", "Z", false)
  | 49 => ("NounFastModel", "truths", "[Z", true)
  | 50 => ("NounFastModel", "imaged", "[I", true)
  | 51 => ("NounFastModel", "namesKept", "[J", true)
  | _ => ("NounFastModel", "areKept", "[Z", true)
def tyX12 : Nat → FieldType := fun k => match k with
  | 0 => .int
  | 1 => .array .byte
  | 2 => .int
  | 3 => .int
  | 4 => .int
  | 5 => .int
  | 6 => .array .int
  | 7 => .array .int
  | 8 => .array .int
  | 9 => .array .long
  | 10 => .array .long
  | 11 => .int
  | 12 => .int
  | 13 => .int
  | 14 => .int
  | 15 => .int
  | 16 => .int
  | 17 => .long
  | 18 => .int
  | 19 => .int
  | 20 => .int
  | 21 => .array .int
  | 22 => .array .int
  | 23 => .int
  | 24 => .int
  | 25 => .int
  | 26 => .int
  | 27 => .boolean
  | 28 => .boolean
  | 29 => .boolean
  | 30 => .int
  | 31 => .int
  | 32 => .boolean
  | 33 => .array .int
  | 34 => .array .int
  | 35 => .array .int
  | 36 => .boolean
  | 37 => .array .byte
  | 38 => .int
  | 39 => .int
  | 40 => .int
  | 41 => .array .int
  | 42 => .boolean
  | 43 => .array .int
  | 44 => .int
  | 45 => .int
  | 46 => .int
  | 47 => .int
  | 48 => .boolean
  | 49 => .array .boolean
  | 50 => .array .int
  | 51 => .array .long
  | _ => .array .boolean
theorem nmX12 : ∀ a, a < 53 → ∀ b, b < 53 → a ≠ b → (TX12 a).2.1 ≠ (TX12 b).2.1 := by decide +kernel
theorem tyX12_ok : ∀ k, k < 53 → parseFieldDescriptor (TX12 k).2.2.1 = some (tyX12 k) := by decide +kernel
abbrev cX12_thrown : ByteArray := prog_14_method_1_code
def yX12_thrown : MethodName := ⟨RX12, "thrown", "()I"⟩
abbrev cX12_throwsIf : ByteArray := prog_14_method_2_code
def yX12_throwsIf : MethodName := ⟨RX12, "throwsIf", "(Z)Z"⟩
abbrev cX12_feed : ByteArray := prog_14_method_3_code
def yX12_feed : MethodName := ⟨RX12, "feed", "(IIIII)I"⟩
abbrev cX12_four : ByteArray := prog_14_method_4_code
def yX12_four : MethodName := ⟨RX12, "four", "(I)V"⟩
abbrev cX12_end : ByteArray := prog_14_method_5_code
def yX12_end : MethodName := ⟨RX12, "end", "(I)Z"⟩
abbrev cX12_taken : ByteArray := prog_14_method_6_code
def yX12_taken : MethodName := ⟨RX12, "taken", "(I)V"⟩
abbrev cX12_isIn : ByteArray := prog_14_method_7_code
def yX12_isIn : MethodName := ⟨RX12, "isIn", "(III)Z"⟩
abbrev cX12_bitOf : ByteArray := prog_14_method_8_code
def yX12_bitOf : MethodName := ⟨RX12, "bitOf", "(II)Z"⟩
abbrev cX12_lesser : ByteArray := prog_14_method_9_code
def yX12_lesser : MethodName := ⟨RX12, "lesser", "(II)I"⟩
abbrev cX12_greater : ByteArray := prog_14_method_10_code
def yX12_greater : MethodName := ⟨RX12, "greater", "(II)I"⟩
abbrev cX12_bits : ByteArray := prog_14_method_11_code
def yX12_bits : MethodName := ⟨RX12, "bits", "(I)I"⟩
abbrev cX12_firstOf : ByteArray := prog_14_method_12_code
def yX12_firstOf : MethodName := ⟨RX12, "firstOf", "(I)I"⟩
abbrev cX12_octet : ByteArray := prog_14_method_13_code
def yX12_octet : MethodName := ⟨RX12, "octet", "(I)I"⟩
abbrev cX12_init : ByteArray := prog_14_method_14_code
def yX12_init : MethodName := ⟨RX12, "<init>", "()V"⟩
abbrev cX12_clears : ByteArray := prog_14_method_15_code
def yX12_clears : MethodName := ⟨RX12, "clears", "()V"⟩
abbrev cX12_peek : ByteArray := prog_14_method_16_code
def yX12_peek : MethodName := ⟨RX12, "peek", "()I"⟩
abbrev cX12_isSmall : ByteArray := prog_14_method_17_code
def yX12_isSmall : MethodName := ⟨RX12, "isSmall", "(I)Z"⟩
abbrev cX12_isDigit : ByteArray := prog_14_method_18_code
def yX12_isDigit : MethodName := ⟨RX12, "isDigit", "(I)Z"⟩
abbrev cX12_next : ByteArray := prog_14_method_19_code
def yX12_next : MethodName := ⟨RX12, "next", "()V"⟩
abbrev cX12_bad : ByteArray := prog_14_method_20_code
def yX12_bad : MethodName := ⟨RX12, "bad", "(I)Z"⟩
abbrev cX12_isWord : ByteArray := prog_14_method_21_code
def yX12_isWord : MethodName := ⟨RX12, "isWord", "(J)Z"⟩
abbrev cX12_isSign : ByteArray := prog_14_method_22_code
def yX12_isSign : MethodName := ⟨RX12, "isSign", "(I)Z"⟩
abbrev cX12_sign : ByteArray := prog_14_method_23_code
def yX12_sign : MethodName := ⟨RX12, "sign", "(I)Z"⟩
abbrev cX12_isName : ByteArray := prog_14_method_24_code
def yX12_isName : MethodName := ⟨RX12, "isName", "()Z"⟩
abbrev cX12_takes : ByteArray := prog_14_method_25_code
def yX12_takes : MethodName := ⟨RX12, "takes", "(II)Z"⟩
abbrev cX12_puts : ByteArray := prog_14_method_26_code
def yX12_puts : MethodName := ⟨RX12, "puts", "(III)Z"⟩
abbrev cX12_find : ByteArray := prog_14_method_27_code
def yX12_find : MethodName := ⟨RX12, "find", "(II)I"⟩
abbrev cX12_fresh : ByteArray := prog_14_method_28_code
def yX12_fresh : MethodName := ⟨RX12, "fresh", "(I)Z"⟩
abbrev cX12_looksAt : ByteArray := prog_14_method_29_code
def yX12_looksAt : MethodName := ⟨RX12, "looksAt", "(II)Z"⟩
abbrev cX12_takesName : ByteArray := prog_14_method_30_code
def yX12_takesName : MethodName := ⟨RX12, "takesName", "(II)Z"⟩
abbrev cX12_once : ByteArray := prog_14_method_31_code
def yX12_once : MethodName := ⟨RX12, "once", "(IIII)Z"⟩
abbrev cX12_line : ByteArray := prog_14_method_32_code
def yX12_line : MethodName := ⟨RX12, "line", "()Z"⟩
abbrev cX12_readNew : ByteArray := prog_14_method_33_code
def yX12_readNew : MethodName := ⟨RX12, "readNew", "(III)Z"⟩
abbrev cX12_readThing : ByteArray := prog_14_method_34_code
def yX12_readThing : MethodName := ⟨RX12, "readThing", "()Z"⟩
abbrev cX12_readPerson : ByteArray := prog_14_method_35_code
def yX12_readPerson : MethodName := ⟨RX12, "readPerson", "()Z"⟩
abbrev cX12_readTie : ByteArray := prog_14_method_36_code
def yX12_readTie : MethodName := ⟨RX12, "readTie", "(III)Z"⟩
abbrev cX12_city : ByteArray := prog_14_method_37_code
def yX12_city : MethodName := ⟨RX12, "city", "()I"⟩
abbrev cX12_fault : ByteArray := prog_14_method_38_code
def yX12_fault : MethodName := ⟨RX12, "fault", "()I"⟩
abbrev cX12_isThing : ByteArray := prog_14_method_39_code
def yX12_isThing : MethodName := ⟨RX12, "isThing", "(I)Z"⟩
abbrev cX12_isPerson : ByteArray := prog_14_method_40_code
def yX12_isPerson : MethodName := ⟨RX12, "isPerson", "(I)Z"⟩
abbrev cX12_isPlace : ByteArray := prog_14_method_41_code
def yX12_isPlace : MethodName := ⟨RX12, "isPlace", "(I)Z"⟩
abbrev cX12_isSaying : ByteArray := prog_14_method_42_code
def yX12_isSaying : MethodName := ⟨RX12, "isSaying", "(I)Z"⟩
abbrev cX12_isCarried : ByteArray := prog_14_method_43_code
def yX12_isCarried : MethodName := ⟨RX12, "isCarried", "(I)Z"⟩
abbrev cX12_placeOf : ByteArray := prog_14_method_44_code
def yX12_placeOf : MethodName := ⟨RX12, "placeOf", "(I)I"⟩
abbrev cX12_lyingAt : ByteArray := prog_14_method_45_code
def yX12_lyingAt : MethodName := ⟨RX12, "lyingAt", "(I)I"⟩
abbrev cX12_hasAll : ByteArray := prog_14_method_46_code
def yX12_hasAll : MethodName := ⟨RX12, "hasAll", "(II)Z"⟩
abbrev cX12_fitting : ByteArray := prog_14_method_47_code
def yX12_fitting : MethodName := ⟨RX12, "fitting", "(II)I"⟩
abbrev cX12_carriedBy : ByteArray := prog_14_method_48_code
def yX12_carriedBy : MethodName := ⟨RX12, "carriedBy", "(I)I"⟩
abbrev cX12_isFast : ByteArray := prog_14_method_49_code
def yX12_isFast : MethodName := ⟨RX12, "isFast", "()Z"⟩
abbrev cX12_carriedSet : ByteArray := prog_14_method_50_code
def yX12_carriedSet : MethodName := ⟨RX12, "carriedSet", "()I"⟩
abbrev cX12_thing : ByteArray := prog_14_method_51_code
def yX12_thing : MethodName := ⟨RX12, "thing", "(II)I"⟩
abbrev cX12_person : ByteArray := prog_14_method_52_code
def yX12_person : MethodName := ⟨RX12, "person", "(II)I"⟩
abbrev cX12_lies : ByteArray := prog_14_method_53_code
def yX12_lies : MethodName := ⟨RX12, "lies", "(I)I"⟩
abbrev cX12_now : ByteArray := prog_14_method_54_code
def yX12_now : MethodName := ⟨RX12, "now", "(I)I"⟩
abbrev cX12_areApart : ByteArray := prog_14_method_55_code
def yX12_areApart : MethodName := ⟨RX12, "areApart", "(II)Z"⟩
abbrev cX12_whyAsk : ByteArray := prog_14_method_56_code
def yX12_whyAsk : MethodName := ⟨RX12, "whyAsk", "(III)I"⟩
abbrev cX12_asks : ByteArray := prog_14_method_57_code
def yX12_asks : MethodName := ⟨RX12, "asks", "(III)V"⟩
abbrev cX12_isNear : ByteArray := prog_14_method_58_code
def yX12_isNear : MethodName := ⟨RX12, "isNear", "(II)Z"⟩
abbrev cX12_isFined : ByteArray := prog_14_method_59_code
def yX12_isFined : MethodName := ⟨RX12, "isFined", "(I)Z"⟩
abbrev cX12_whyName : ByteArray := prog_14_method_60_code
def yX12_whyName : MethodName := ⟨RX12, "whyName", "(II)I"⟩
abbrev cX12_namesOne : ByteArray := prog_14_method_61_code
def yX12_namesOne : MethodName := ⟨RX12, "namesOne", "(II)V"⟩
abbrev cX12_whyPoint : ByteArray := prog_14_method_62_code
def yX12_whyPoint : MethodName := ⟨RX12, "whyPoint", "(II)I"⟩
abbrev cX12_pointsAt : ByteArray := prog_14_method_63_code
def yX12_pointsAt : MethodName := ⟨RX12, "pointsAt", "(II)V"⟩
abbrev cX12_putsDown : ByteArray := prog_14_method_64_code
def yX12_putsDown : MethodName := ⟨RX12, "putsDown", "(II)V"⟩
abbrev cX12_whyLearn : ByteArray := prog_14_method_65_code
def yX12_whyLearn : MethodName := ⟨RX12, "whyLearn", "(II)I"⟩
abbrev cX12_learnsOne : ByteArray := prog_14_method_66_code
def yX12_learnsOne : MethodName := ⟨RX12, "learnsOne", "(II)V"⟩
abbrev cX12_day : ByteArray := prog_14_method_67_code
def yX12_day : MethodName := ⟨RX12, "day", "()V"⟩
abbrev cX12_goesOn : ByteArray := prog_14_method_68_code
def yX12_goesOn : MethodName := ⟨RX12, "goesOn", "(I)I"⟩
abbrev cX12_go : ByteArray := prog_14_method_69_code
def yX12_go : MethodName := ⟨RX12, "go", "(II)I"⟩
abbrev cX12_ask : ByteArray := prog_14_method_70_code
def yX12_ask : MethodName := ⟨RX12, "ask", "(III)I"⟩
abbrev cX12_name : ByteArray := prog_14_method_71_code
def yX12_name : MethodName := ⟨RX12, "name", "(II)I"⟩
abbrev cX12_point : ByteArray := prog_14_method_72_code
def yX12_point : MethodName := ⟨RX12, "point", "(II)I"⟩
abbrev cX12_put : ByteArray := prog_14_method_73_code
def yX12_put : MethodName := ⟨RX12, "put", "(II)I"⟩
abbrev cX12_learn : ByteArray := prog_14_method_74_code
def yX12_learn : MethodName := ⟨RX12, "learn", "(II)I"⟩
abbrev cX12_days : ByteArray := prog_14_method_75_code
def yX12_days : MethodName := ⟨RX12, "days", "(I)I"⟩
abbrev cX12_keep : ByteArray := prog_14_method_76_code
def yX12_keep : MethodName := ⟨RX12, "keep", "()V"⟩
abbrev cX12_undo : ByteArray := prog_14_method_77_code
def yX12_undo : MethodName := ⟨RX12, "undo", "()I"⟩
abbrev cX12_tries : ByteArray := prog_14_method_78_code
def yX12_tries : MethodName := ⟨RX12, "tries", "()V"⟩
abbrev cX12_back : ByteArray := prog_14_method_79_code
def yX12_back : MethodName := ⟨RX12, "back", "()V"⟩
abbrev cX12_fits : ByteArray := prog_14_method_80_code
def yX12_fits : MethodName := ⟨RX12, "fits", "(III)I"⟩
abbrev cX12_say : ByteArray := prog_14_method_81_code
def yX12_say : MethodName := ⟨RX12, "say", "(II)I"⟩
abbrev cX12_saying : ByteArray := prog_14_method_82_code
def yX12_saying : MethodName := ⟨RX12, "saying", "()I"⟩
abbrev cX12_twinsOf : ByteArray := prog_14_method_83_code
def yX12_twinsOf : MethodName := ⟨RX12, "twinsOf", "(II)I"⟩
abbrev cX12_twin : ByteArray := prog_14_method_84_code
def yX12_twin : MethodName := ⟨RX12, "twin", "(II)I"⟩
abbrev cX12_slip : ByteArray := prog_14_method_85_code
def yX12_slip : MethodName := ⟨RX12, "slip", "(III)I"⟩
abbrev cX12_isCover : ByteArray := prog_14_method_86_code
def yX12_isCover : MethodName := ⟨RX12, "isCover", "(II)Z"⟩
abbrev cX12_cover : ByteArray := prog_14_method_87_code
def yX12_cover : MethodName := ⟨RX12, "cover", "(I)I"⟩
abbrev cX12_covering : ByteArray := prog_14_method_88_code
def yX12_covering : MethodName := ⟨RX12, "covering", "()I"⟩
abbrev cX12_isFit : ByteArray := prog_14_method_89_code
def yX12_isFit : MethodName := ⟨RX12, "isFit", "(II)Z"⟩
abbrev cX12_isSpoken : ByteArray := prog_14_method_90_code
def yX12_isSpoken : MethodName := ⟨RX12, "isSpoken", "(I)Z"⟩
abbrev cX12_spoken : ByteArray := prog_14_method_91_code
def yX12_spoken : MethodName := ⟨RX12, "spoken", "()I"⟩
abbrev cX12_surely : ByteArray := prog_14_method_92_code
def yX12_surely : MethodName := ⟨RX12, "surely", "()I"⟩
abbrev cX12_show : ByteArray := prog_14_method_93_code
def yX12_show : MethodName := ⟨RX12, "show", "()I"⟩
abbrev cX12_cant : ByteArray := prog_14_method_94_code
def yX12_cant : MethodName := ⟨RX12, "cant", "(IIII)I"⟩
abbrev cX12_canting : ByteArray := prog_14_method_95_code
def yX12_canting : MethodName := ⟨RX12, "canting", "()I"⟩
abbrev cX12_saysAnew : ByteArray := prog_14_method_96_code
def yX12_saysAnew : MethodName := ⟨RX12, "saysAnew", "(I)Z"⟩
abbrev cX12_meantBy : ByteArray := prog_14_method_97_code
def yX12_meantBy : MethodName := ⟨RX12, "meantBy", "(II)I"⟩
abbrev cX12_meansAnew : ByteArray := prog_14_method_98_code
def yX12_meansAnew : MethodName := ⟨RX12, "meansAnew", "(I)Z"⟩
abbrev cX12_rest : ByteArray := prog_14_method_99_code
def yX12_rest : MethodName := ⟨RX12, "rest", "(I)I"⟩
abbrev cX12_rested : ByteArray := prog_14_method_100_code
def yX12_rested : MethodName := ⟨RX12, "rested", "(I)I"⟩
abbrev cX12_news : ByteArray := prog_14_method_101_code
def yX12_news : MethodName := ⟨RX12, "news", "(I)I"⟩
abbrev cX12_lays : ByteArray := prog_14_method_102_code
def yX12_lays : MethodName := ⟨RX12, "lays", "(I)V"⟩
abbrev cX12_spells : ByteArray := prog_14_method_103_code
def yX12_spells : MethodName := ⟨RX12, "spells", "(J)V"⟩
abbrev cX12_says : ByteArray := prog_14_method_104_code
def yX12_says : MethodName := ⟨RX12, "says", "(J)V"⟩
abbrev cX12_phrase : ByteArray := prog_14_method_105_code
def yX12_phrase : MethodName := ⟨RX12, "phrase", "(I)I"⟩
abbrev cX12_byteAt : ByteArray := prog_14_method_106_code
def yX12_byteAt : MethodName := ⟨RX12, "byteAt", "(I)I"⟩
abbrev cX12_draw : ByteArray := prog_14_method_107_code
def yX12_draw : MethodName := ⟨RX12, "draw", "(I)I"⟩
abbrev cX12_drawPerson : ByteArray := prog_14_method_108_code
def yX12_drawPerson : MethodName := ⟨RX12, "drawPerson", "(I)V"⟩
abbrev cX12_draws : ByteArray := prog_14_method_109_code
def yX12_draws : MethodName := ⟨RX12, "draws", "(II)I"⟩
abbrev cX12_drawn : ByteArray := prog_14_method_110_code
def yX12_drawn : MethodName := ⟨RX12, "drawn", "(II)I"⟩
abbrev cX12_odds : ByteArray := prog_14_method_111_code
def yX12_odds : MethodName := ⟨RX12, "odds", "(III)I"⟩
abbrev cX12_bookLine : ByteArray := prog_14_method_112_code
def yX12_bookLine : MethodName := ⟨RX12, "bookLine", "()Z"⟩
abbrev cX12_takesMarks : ByteArray := prog_14_method_113_code
def yX12_takesMarks : MethodName := ⟨RX12, "takesMarks", "(I)Z"⟩
abbrev cX12_does : ByteArray := prog_14_method_114_code
def yX12_does : MethodName := ⟨RX12, "does", "(IIII)I"⟩
abbrev cX12_book : ByteArray := prog_14_method_115_code
def yX12_book : MethodName := ⟨RX12, "book", "(I)I"⟩
abbrev cX12_told : ByteArray := prog_14_method_116_code
def yX12_told : MethodName := ⟨RX12, "told", "(I)I"⟩
abbrev cX12_code : ByteArray := prog_14_method_117_code
def yX12_code : MethodName := ⟨RX12, "code", "(III)V"⟩
abbrev cX12_joins : ByteArray := prog_14_method_118_code
def yX12_joins : MethodName := ⟨RX12, "joins", "(I)V"⟩
abbrev cX12_nots : ByteArray := prog_14_method_119_code
def yX12_nots : MethodName := ⟨RX12, "nots", "()V"⟩
abbrev cX12_leafOf : ByteArray := prog_14_method_120_code
def yX12_leafOf : MethodName := ⟨RX12, "leafOf", "()I"⟩
abbrev cX12_operand : ByteArray := prog_14_method_121_code
def yX12_operand : MethodName := ⟨RX12, "operand", "()Z"⟩
abbrev cX12_behind : ByteArray := prog_14_method_122_code
def yX12_behind : MethodName := ⟨RX12, "behind", "()Z"⟩
abbrev cX12_sentence : ByteArray := prog_14_method_123_code
def yX12_sentence : MethodName := ⟨RX12, "sentence", "()I"⟩
abbrev cX12_isLeaf : ByteArray := prog_14_method_124_code
def yX12_isLeaf : MethodName := ⟨RX12, "isLeaf", "(IIII)Z"⟩
abbrev cX12_isSaid : ByteArray := prog_14_method_125_code
def yX12_isSaid : MethodName := ⟨RX12, "isSaid", "(I)Z"⟩
abbrev cX12_said : ByteArray := prog_14_method_126_code
def yX12_said : MethodName := ⟨RX12, "said", "(I)I"⟩
abbrev cX12_image : ByteArray := prog_14_method_127_code
def yX12_image : MethodName := ⟨RX12, "image", "(I)Z"⟩
abbrev cX12_restore : ByteArray := prog_14_method_128_code
def yX12_restore : MethodName := ⟨RX12, "restore", "(I)Z"⟩
abbrev cX12_count : ByteArray := prog_14_method_129_code
def yX12_count : MethodName := ⟨RX12, "count", "(I)I"⟩
def RJx145de : String := "java/io/Serializable"
def TJx145de : u_T := fun k => match k with
  | _ => ("", "", "", false)
def tyJx145de : Nat → FieldType := fun k => match k with
  | _ => .int
theorem nmJx145de : ∀ a, a < 0 → ∀ b, b < 0 → a ≠ b → (TJx145de a).2.1 ≠ (TJx145de b).2.1 := by decide +kernel
theorem tyJx145de_ok : ∀ k, k < 0 → parseFieldDescriptor (TJx145de k).2.2.1 = some (tyJx145de k) := by decide +kernel
def RJx9f9b0 : String := "java/lang/CharSequence"
def TJx9f9b0 : u_T := fun k => match k with
  | _ => ("", "", "", false)
def tyJx9f9b0 : Nat → FieldType := fun k => match k with
  | _ => .int
theorem nmJx9f9b0 : ∀ a, a < 0 → ∀ b, b < 0 → a ≠ b → (TJx9f9b0 a).2.1 ≠ (TJx9f9b0 b).2.1 := by decide +kernel
theorem tyJx9f9b0_ok : ∀ k, k < 0 → parseFieldDescriptor (TJx9f9b0 k).2.2.1 = some (tyJx9f9b0 k) := by decide +kernel
def RJxb160c : String := "java/lang/Comparable"
def TJxb160c : u_T := fun k => match k with
  | _ => ("", "", "", false)
def tyJxb160c : Nat → FieldType := fun k => match k with
  | _ => .int
theorem nmJxb160c : ∀ a, a < 0 → ∀ b, b < 0 → a ≠ b → (TJxb160c a).2.1 ≠ (TJxb160c b).2.1 := by decide +kernel
theorem tyJxb160c_ok : ∀ k, k < 0 → parseFieldDescriptor (TJxb160c k).2.2.1 = some (tyJxb160c k) := by decide +kernel
def RJ6 : String := "java/lang/Integer"
def TJ6 : u_T := fun k => match k with
  | _ => ("", "", "", false)
def tyJ6 : Nat → FieldType := fun k => match k with
  | _ => .int
theorem nmJ6 : ∀ a, a < 0 → ∀ b, b < 0 → a ≠ b → (TJ6 a).2.1 ≠ (TJ6 b).2.1 := by decide +kernel
theorem tyJ6_ok : ∀ k, k < 0 → parseFieldDescriptor (TJ6 k).2.2.1 = some (tyJ6 k) := by decide +kernel
abbrev cJ6_lowestOneBit_0f7a4 : ByteArray := prog_19_method_46_code
def yJ6_lowestOneBit_0f7a4 : MethodName := ⟨RJ6, "lowestOneBit", "(I)I"⟩
abbrev cJ6_numberOfTrailingZeros_0f7a4 : ByteArray := prog_19_method_48_code
def yJ6_numberOfTrailingZeros_0f7a4 : MethodName := ⟨RJ6, "numberOfTrailingZeros", "(I)I"⟩
abbrev cJ6_bitCount_0f7a4 : ByteArray := prog_19_method_49_code
def yJ6_bitCount_0f7a4 : MethodName := ⟨RJ6, "bitCount", "(I)I"⟩
def RJ9 : String := "java/lang/Math"
def TJ9 : u_T := fun k => match k with
  | _ => ("", "", "", false)
def tyJ9 : Nat → FieldType := fun k => match k with
  | _ => .int
theorem nmJ9 : ∀ a, a < 0 → ∀ b, b < 0 → a ≠ b → (TJ9 a).2.1 ≠ (TJ9 b).2.1 := by decide +kernel
theorem tyJ9_ok : ∀ k, k < 0 → parseFieldDescriptor (TJ9 k).2.2.1 = some (tyJ9 k) := by decide +kernel
abbrev cJ9_floorMod_7cf53 : ByteArray := prog_20_method_50_code
def yJ9_floorMod_7cf53 : MethodName := ⟨RJ9, "floorMod", "(II)I"⟩
abbrev cJ9_max_7cf53 : ByteArray := prog_20_method_65_code
def yJ9_max_7cf53 : MethodName := ⟨RJ9, "max", "(II)I"⟩
abbrev cJ9_min_7cf53 : ByteArray := prog_20_method_69_code
def yJ9_min_7cf53 : MethodName := ⟨RJ9, "min", "(II)I"⟩
def RJ0 : String := "java/lang/String"
def TJ0 : u_T := fun k => match k with
  | _ => ("", "", "", false)
def tyJ0 : Nat → FieldType := fun k => match k with
  | _ => .int
theorem nmJ0 : ∀ a, a < 0 → ∀ b, b < 0 → a ≠ b → (TJ0 a).2.1 ≠ (TJ0 b).2.1 := by decide +kernel
theorem tyJ0_ok : ∀ k, k < 0 → parseFieldDescriptor (TJ0 k).2.2.1 = some (tyJ0 k) := by decide +kernel
abbrev cJ0_length_8abf5 : ByteArray := prog_22_method_54_code
def yJ0_length_8abf5 : MethodName := ⟨RJ0, "length", "()I"⟩
abbrev cJ0_charAt_5068e : ByteArray := prog_22_method_56_code
def yJ0_charAt_5068e : MethodName := ⟨RJ0, "charAt", "(I)C"⟩
abbrev cJ0_coder_7d493 : ByteArray := prog_22_method_152_code
def yJ0_coder_7d493 : MethodName := ⟨RJ0, "coder", "()B"⟩
abbrev cJ0_isLatin1_aae02 : ByteArray := prog_22_method_154_code
def yJ0_isLatin1_aae02 : MethodName := ⟨RJ0, "isLatin1", "()Z"⟩
abbrev cJ0_checkIndex_df160 : ByteArray := prog_22_method_155_code
def yJ0_checkIndex_df160 : MethodName := ⟨RJ0, "checkIndex", "(II)V"⟩
def RJ1 : String := "java/lang/StringLatin1"
def TJ1 : u_T := fun k => match k with
  | _ => ("", "", "", false)
def tyJ1 : Nat → FieldType := fun k => match k with
  | _ => .int
theorem nmJ1 : ∀ a, a < 0 → ∀ b, b < 0 → a ≠ b → (TJ1 a).2.1 ≠ (TJ1 b).2.1 := by decide +kernel
theorem tyJ1_ok : ∀ k, k < 0 → parseFieldDescriptor (TJ1 k).2.2.1 = some (tyJ1 k) := by decide +kernel
abbrev cJ1_charAt_3b067 : ByteArray := prog_23_method_2_code
def yJ1_charAt_3b067 : MethodName := ⟨RJ1, "charAt", "([BI)C"⟩
def RJ2 : String := "java/lang/StringUTF16"
def TJ2 : u_T := fun k => match k with
  | _ => ("", "", "", false)
def tyJ2 : Nat → FieldType := fun k => match k with
  | _ => .int
theorem nmJ2 : ∀ a, a < 0 → ∀ b, b < 0 → a ≠ b → (TJ2 a).2.1 ≠ (TJ2 b).2.1 := by decide +kernel
theorem tyJ2_ok : ∀ k, k < 0 → parseFieldDescriptor (TJ2 k).2.2.1 = some (tyJ2 k) := by decide +kernel
abbrev cJ2_getChar_3b067 : ByteArray := prog_24_method_5_code
def yJ2_getChar_3b067 : MethodName := ⟨RJ2, "getChar", "([BI)C"⟩
abbrev cJ2_length_9d52b : ByteArray := prog_24_method_6_code
def yJ2_length_9d52b : MethodName := ⟨RJ2, "length", "([B)I"⟩
abbrev cJ2_charAt_3b067 : ByteArray := prog_24_method_83_code
def yJ2_charAt_3b067 : MethodName := ⟨RJ2, "charAt", "([BI)C"⟩
abbrev cJ2_checkIndex_2214a : ByteArray := prog_24_method_91_code
def yJ2_checkIndex_2214a : MethodName := ⟨RJ2, "checkIndex", "(I[B)V"⟩
def RJ10 : String := "java/lang/System"
def TJ10 : u_T := fun k => match k with
  | _ => ("", "", "", false)
def tyJ10 : Nat → FieldType := fun k => match k with
  | _ => .int
theorem nmJ10 : ∀ a, a < 0 → ∀ b, b < 0 → a ≠ b → (TJ10 a).2.1 ≠ (TJ10 b).2.1 := by decide +kernel
theorem tyJ10_ok : ∀ k, k < 0 → parseFieldDescriptor (TJ10 k).2.2.1 = some (tyJ10 k) := by decide +kernel
def RJxfd54e : String := "java/lang/constant/Constable"
def TJxfd54e : u_T := fun k => match k with
  | _ => ("", "", "", false)
def tyJxfd54e : Nat → FieldType := fun k => match k with
  | _ => .int
theorem nmJxfd54e : ∀ a, a < 0 → ∀ b, b < 0 → a ≠ b → (TJxfd54e a).2.1 ≠ (TJxfd54e b).2.1 := by decide +kernel
theorem tyJxfd54e_ok : ∀ k, k < 0 → parseFieldDescriptor (TJxfd54e k).2.2.1 = some (tyJxfd54e k) := by decide +kernel
def RJx3cf43 : String := "java/lang/constant/ConstantDesc"
def TJx3cf43 : u_T := fun k => match k with
  | _ => ("", "", "", false)
def tyJx3cf43 : Nat → FieldType := fun k => match k with
  | _ => .int
theorem nmJx3cf43 : ∀ a, a < 0 → ∀ b, b < 0 → a ≠ b → (TJx3cf43 a).2.1 ≠ (TJx3cf43 b).2.1 := by decide +kernel
theorem tyJx3cf43_ok : ∀ k, k < 0 → parseFieldDescriptor (TJx3cf43 k).2.2.1 = some (tyJx3cf43 k) := by decide +kernel
def RJ3 : String := "jdk/internal/util/Preconditions"
def TJ3 : u_T := fun k => match k with
  | _ => ("", "", "", false)
def tyJ3 : Nat → FieldType := fun k => match k with
  | _ => .int
theorem nmJ3 : ∀ a, a < 0 → ∀ b, b < 0 → a ≠ b → (TJ3 a).2.1 ≠ (TJ3 b).2.1 := by decide +kernel
theorem tyJ3_ok : ∀ k, k < 0 → parseFieldDescriptor (TJ3 k).2.2.1 = some (tyJ3 k) := by decide +kernel
abbrev cJ3_checkIndex_8e157 : ByteArray := prog_30_method_11_code
def yJ3_checkIndex_8e157 : MethodName := ⟨RJ3, "checkIndex", "(IILjava/util/function/BiFunction;)I"⟩
def RL : String := "NounFastLaw"
abbrev cL_thing : ByteArray := method_3_code
def yL_thing : MethodName := ⟨RL, "thing", "(LNounFast;II[J)I"⟩
abbrev cL_person : ByteArray := method_4_code
def yL_person : MethodName := ⟨RL, "person", "(LNounFast;II[J)I"⟩
abbrev cL_slip : ByteArray := method_5_code
def yL_slip : MethodName := ⟨RL, "slip", "(LNounFast;III[J)I"⟩
abbrev cL_law : ByteArray := code
def yL_law : MethodName := ⟨RL, "law", "([I)Z"⟩
abbrev vwCl : List vw_C := [(RX0, TX0, 6), (RX1, TX1, 9), (RX2, TX2, 3), (RX3, TX3, 1), (RX4, TX4, 3), (RX6, TX6, 2), (RX7, TX7, 10), (RX8, TX8, 6), (RX9, TX9, 2), (RX10, TX10, 11), (RX11, TX11, 18), (RX12, TX12, 53)]
theorem inX0 : ∀ w ∈ u_ws RX0 TX0 6, w ∈ lw_tbl := by decide +kernel
theorem inX1 : ∀ w ∈ u_ws RX1 TX1 9, w ∈ lw_tbl := by decide +kernel
theorem inX2 : ∀ w ∈ u_ws RX2 TX2 3, w ∈ lw_tbl := by decide +kernel
theorem inX3 : ∀ w ∈ u_ws RX3 TX3 1, w ∈ lw_tbl := by decide +kernel
theorem inX4 : ∀ w ∈ u_ws RX4 TX4 3, w ∈ lw_tbl := by decide +kernel
theorem inX6 : ∀ w ∈ u_ws RX6 TX6 2, w ∈ lw_tbl := by decide +kernel
theorem inX7 : ∀ w ∈ u_ws RX7 TX7 10, w ∈ lw_tbl := by decide +kernel
theorem inX8 : ∀ w ∈ u_ws RX8 TX8 6, w ∈ lw_tbl := by decide +kernel
theorem inX9 : ∀ w ∈ u_ws RX9 TX9 2, w ∈ lw_tbl := by decide +kernel
theorem inX10 : ∀ w ∈ u_ws RX10 TX10 11, w ∈ lw_tbl := by decide +kernel
theorem inX11 : ∀ w ∈ u_ws RX11 TX11 18, w ∈ lw_tbl := by decide +kernel
theorem inX12 : ∀ w ∈ u_ws RX12 TX12 53, w ∈ lw_tbl := by decide +kernel
end
section
/-! the engine: values, cells, states, one step at a time -/
/-- an abstract value: an int between two numbers; an int that is a named number and a constant; a long between two numbers; a reference to a cell by its place, or null; the script -/
abbrev AV : Type := (Int × Int) ⊕ ((Nat × Int) ⊕ ((Int × Int) ⊕ ((Option Nat) ⊕ Unit)))
/-- an abstract cell: an array (its type's number, its length, what it holds but for some places, these places) or an object (its kind, its fields) -/
abbrev AC : Type := (Nat × Nat × AV × List (Nat × AV)) ⊕ (Nat × List AV)
abbrev EV : Type := List (Int × Int)
/-- pc, locals, stack, named numbers, cells, cells made, slots made -/
abbrev ST : Type := Nat × List (Nat × AV) × List AV × EV × List AC × Nat × Nat
abbrev OUT : Type := Option AV × EV × List AC
abbrev aI (n : Int) : AV := .inl (n, n)
abbrev aTop : AV := .inl (-2147483648, 2147483647)
abbrev aL (lo hi : Int) : AV := .inr (.inr (.inl (lo, hi)))
abbrev aLtop : AV := .inr (.inr (.inl (-9223372036854775808, 9223372036854775807)))
abbrev aV (k : Nat) (c : Int) : AV := .inr (.inl (k, c))
abbrev aR (a : Nat) : AV := .inr (.inr (.inr (.inl (some a))))
abbrev aN : AV := .inr (.inr (.inr (.inl none)))
abbrev aS : AV := .inr (.inr (.inr (.inr ())))
def e_iv (E : EV) (a : AV) : Option (Int × Int) := match a with
  | .inl q => some q
  | .inr (.inl (k, c)) => (match E[k]? with | some (lo, hi) => some (lo + c, hi + c) | none => none)
  | .inr (.inr _) => none
def e_mk (lo hi : Int) : AV := if (decide (-2147483648 ≤ lo) && decide (hi ≤ 2147483647)) = true then .inl (lo, hi) else aTop
def e_find (lo : List (Nat × AV)) (i : Nat) : Option AV := match lo with
  | [] => none
  | (j, a) :: r => if Nat.beq j i = true then some a else e_find r i
def e_isL (a : AV) : Bool := match a with
  | .inr (.inr (.inl _)) => true
  | _ => false
def e_st1 (lo : List (Nat × AV)) (i : Nat) (a : AV) : List (Nat × AV) := (i, a) :: lo.filter (fun q => !(q.1 == i) && !(q.1 + 1 == i && e_isL q.2))
def e_st2 (lo : List (Nat × AV)) (i : Nat) (a : AV) : List (Nat × AV) := (i, a) :: lo.filter (fun q => !(q.1 == i) && (!(q.1 == i + 1) && !(q.1 + 1 == i && e_isL q.2)))
def e_isI (a : AV) : Bool := match a with
  | .inl _ => true
  | .inr (.inl _) => true
  | _ => false
def e_isR (a : AV) : Bool := match a with
  | .inr (.inr (.inr _)) => true
  | _ => false
/-- a sum -/
def e_add (E : EV) (a b : AV) : Option AV := match e_iv E a, e_iv E b with
  | some (la, ha), some (lb, hb) =>
    (match a with
    | .inr (.inl (k, c)) => if (decide (lb = hb) && (decide (-2147483648 ≤ la + lb) && decide (ha + lb ≤ 2147483647))) = true then some (aV k (c + lb)) else some (e_mk (la + lb) (ha + hb))
    | _ => some (e_mk (la + lb) (ha + hb)))
  | _, _ => none
def e_sub (E : EV) (a b : AV) : Option AV := match e_iv E a, e_iv E b with
  | some (la, ha), some (lb, hb) =>
    (match a with
    | .inr (.inl (k, c)) => if (decide (lb = hb) && (decide (-2147483648 ≤ la - lb) && decide (ha - lb ≤ 2147483647))) = true then some (aV k (c - lb)) else some (e_mk (la - hb) (ha - lb))
    | _ => some (e_mk (la - hb) (ha - lb)))
  | _, _ => none
def e_mul (E : EV) (a b : AV) : Option AV := match e_iv E a, e_iv E b with
  | some (la, ha), some (lb, hb) => if (decide (0 ≤ la) && decide (0 ≤ lb)) = true then some (e_mk (la * lb) (ha * hb)) else some aTop
  | _, _ => none
/-- exact where both are known and not negative -/
def e_bit (f : Nat → Nat → Nat) (E : EV) (a b : AV) (other : AV) : AV := match e_iv E a, e_iv E b with
  | some (la, ha), some (lb, hb) => if (decide (la = ha) && (decide (lb = hb) && (decide (0 ≤ la) && decide (0 ≤ lb)))) = true then aI ((f la.toNat lb.toNat : Nat) : Int) else other
  | _, _ => other
def e_and (E : EV) (a b : AV) : Option AV := match e_iv E a, e_iv E b with
  | some (la, ha), some (lb, hb) => some (e_bit (fun x y => x &&& y) E a b (if decide (0 ≤ lb) = true then .inl (0, hb) else if decide (0 ≤ la) = true then .inl (0, ha) else aTop))
  | _, _ => none
def e_or (E : EV) (a b : AV) : Option AV := match e_iv E a, e_iv E b with
  | some _, some _ => some (e_bit (fun x y => x ||| y) E a b aTop)
  | _, _ => none
def e_xor (E : EV) (a b : AV) : Option AV := match e_iv E a, e_iv E b with
  | some _, some _ => some (e_bit (fun x y => x ^^^ y) E a b aTop)
  | _, _ => none
def e_shl (E : EV) (a b : AV) : Option AV := match e_iv E a, e_iv E b with
  | some (la, ha), some (lb, hb) => if (decide (lb = hb) && (decide (0 ≤ lb) && (decide (lb < 32) && decide (0 ≤ la)))) = true then some (e_mk (la * 2 ^ lb.toNat) (ha * 2 ^ lb.toNat)) else some aTop
  | _, _ => none
def e_shr (E : EV) (a b : AV) : Option AV := match e_iv E a, e_iv E b with
  | some (la, ha), some (lb, hb) => if (decide (lb = hb) && (decide (0 ≤ lb) && (decide (lb < 32) && decide (0 ≤ la)))) = true then some (.inl (0, ha)) else some aTop
  | _, _ => none
def e_top2 (E : EV) (a b : AV) : Option AV := match e_iv E a, e_iv E b with
  | some _, some _ => some aTop
  | _, _ => none
/-- a remainder by a known number above 0 -/
def e_rem (E : EV) (a b : AV) : Option AV := match e_iv E a, e_iv E b with
  | some (la, ha), some (lb, hb) => if (decide (lb = hb) && (decide (0 < lb) && decide (0 ≤ la))) = true then (if decide (ha < lb) = true then some (.inl (la, ha)) else if decide (la = ha) = true then some (aI (la % lb)) else some (.inl (0, lb - 1))) else none
  | _, _ => none
def e_div (E : EV) (a b : AV) : Option AV := match e_iv E a, e_iv E b with
  | some (la, ha), some (lb, hb) => if (decide (lb = hb) && (decide (0 < lb) && decide (0 ≤ la))) = true then some (.inl (la / lb, ha / lb)) else none
  | _, _ => none
def e_bin (i : Instr) (E : EV) (a b : AV) : Option AV := match i with
  | .iadd => e_add E a b
  | .isub => e_sub E a b
  | .imul => e_mul E a b
  | .iand => e_and E a b
  | .ior => e_or E a b
  | .ixor => e_xor E a b
  | .ishl => e_shl E a b
  | .ishr => e_shr E a b
  | .iushr => e_top2 E a b
  | .irem => e_rem E a b
  | .idiv => e_div E a b
  | _ => none
def e_un (i : Instr) (E : EV) (a : AV) : Option AV := match i with
  | .ineg => (match e_iv E a with | some (la, ha) => some (e_mk (-ha) (-la)) | none => none)
  | .i2b => (match e_iv E a with | some (la, ha) => if (decide (-128 ≤ la) && decide (ha ≤ 127)) = true then some a else some (.inl (-128, 127)) | none => none)
  | .i2l => (match e_iv E a with | some (la, ha) => some (aL la ha) | none => none)
  | _ => none
/-- the array's value at a place -/
def e_get (d : AV) (x : List (Nat × AV)) (j : Nat) : AV := match x with
  | [] => d
  | (i, a) :: r => if Nat.beq i j = true then a else e_get d r j
def e_put (d : AV) (x : List (Nat × AV)) (j : Nat) (a : AV) : List (Nat × AV) := if a = d then x.filter (fun q => !(Nat.beq q.1 j)) else (j, a) :: x.filter (fun q => !(Nat.beq q.1 j))
/-- an int is between two numbers: the named numbers then; none if it can't be -/
def e_clamp (E : EV) (a : AV) (lo hi : Int) : Option EV := match a with
  | .inl (la, ha) => if (decide (la ≤ hi) && decide (lo ≤ ha)) = true then some E else none
  | .inr (.inl (k, c)) => (match E[k]? with
    | some (la, ha) => if (decide (max la (lo - c) ≤ min ha (hi - c))) = true then some (E.set k (max la (lo - c), min ha (hi - c))) else none
    | none => none)
  | _ => none
def e_clamp2 (E : EV) (a : AV) (la ha : Int) (b : AV) (lb hb : Int) : Option EV := match e_clamp E a la ha with
  | some E1 => e_clamp E1 b lb hb
  | none => none
abbrev iMin : Int := -2147483648
abbrev iMax : Int := 2147483647
/-- the named numbers where two ints are so: 0 equal, 1 not, 2 less, 3 not less -/
def e_rel (E : EV) (r : Nat) (a b : AV) : Option (Option EV) := match e_iv E a, e_iv E b with
  | some (la, ha), some (lb, hb) =>
    (match r with
    | 0 => some (e_clamp2 E a lb hb b la ha)
    | 1 => if (decide (la = ha) && (decide (lb = hb) && decide (la = lb))) = true then some none else
        (match a, b with
        | .inr (.inl (k, c)), .inr (.inl (k', c')) => if (Nat.beq k k' && decide (c = c')) = true then some none else some (some E)
        | _, _ => if (decide (lb = hb) && decide (la = lb)) = true then some (e_clamp E a (lb + 1) iMax) else if (decide (lb = hb) && decide (ha = lb)) = true then some (e_clamp E a iMin (lb - 1)) else some (some E))
    | 2 => some (e_clamp2 E a iMin (hb - 1) b (la + 1) iMax)
    | _ => some (e_clamp2 E a lb iMax b iMin ha))
  | _, _ => none
def e_o2l (x : Option EV) (f : EV → ST) : List ST := match x with
  | some E => [f E]
  | none => []
/-- the cell that a reference names -/
def e_cell (C : List AC) (a : AV) : Option (Nat × AC) := match a with
  | .inr (.inr (.inr (.inl (some i)))) => (match C[i]? with | some c => some (i, c) | none => none)
  | _ => none
end
