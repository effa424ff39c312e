section
-- ===== PART A: goes FIRST, ahead of the names: the tables' words, and 'selects' of the private methods out of them =====
/-- a private method of a class that the tables say can be made, by its rows of tables_1 -/
def lw_okq (q : MethodName × Nat) : Prop := (q.1.cls ≠ "java/lang/invoke/MethodHandle" ∧ q.1.cls ≠ "java/lang/invoke/VarHandle") ∧ Cond.instantiable q.1.cls q.2 ∈ tables_1 ∧ Cond.privateMethod q.1 ∈ tables_1 ∧ Cond.instanceMethod q.1 ∈ tables_1
theorem lw_p0 : lw_okq (⟨"NounFast$Text", "behindBlanks", "(I)I"⟩, 11) := ⟨⟨by decide +kernel, by decide +kernel⟩, List.mem_of_getElem? (i := 51) (by decide +kernel), List.mem_of_getElem? (i := 368) (by decide +kernel), List.mem_of_getElem? (i := 369) (by decide +kernel)⟩
theorem lw_p1 : lw_okq (⟨"NounFast$Text", "readToken", "(I)I"⟩, 11) := ⟨⟨by decide +kernel, by decide +kernel⟩, List.mem_of_getElem? (i := 51) (by decide +kernel), List.mem_of_getElem? (i := 379) (by decide +kernel), List.mem_of_getElem? (i := 380) (by decide +kernel)⟩
theorem lw_p2 : lw_okq (⟨"NounFast$Text", "readRun", "(I)I"⟩, 11) := ⟨⟨by decide +kernel, by decide +kernel⟩, List.mem_of_getElem? (i := 51) (by decide +kernel), List.mem_of_getElem? (i := 389) (by decide +kernel), List.mem_of_getElem? (i := 390) (by decide +kernel)⟩
theorem lw_p3 : lw_okq (⟨"NounFast$Text", "wordNumber", "(II)I"⟩, 11) := ⟨⟨by decide +kernel, by decide +kernel⟩, List.mem_of_getElem? (i := 51) (by decide +kernel), List.mem_of_getElem? (i := 393) (by decide +kernel), List.mem_of_getElem? (i := 394) (by decide +kernel)⟩
theorem lw_p4 : lw_okq (⟨"NounFast$Text", "wordIn", "(Ljava/lang/String;II)I"⟩, 11) := ⟨⟨by decide +kernel, by decide +kernel⟩, List.mem_of_getElem? (i := 51) (by decide +kernel), List.mem_of_getElem? (i := 398) (by decide +kernel), List.mem_of_getElem? (i := 399) (by decide +kernel)⟩
theorem lw_p5 : lw_okq (⟨"NounFast$Text", "isSpelled", "(Ljava/lang/String;III)Z"⟩, 11) := ⟨⟨by decide +kernel, by decide +kernel⟩, List.mem_of_getElem? (i := 51) (by decide +kernel), List.mem_of_getElem? (i := 412) (by decide +kernel), List.mem_of_getElem? (i := 413) (by decide +kernel)⟩
theorem lw_p6 : lw_okq (⟨"NounFast$City", "readLine", "(LNounFast$Text;)V"⟩, 9) := ⟨⟨by decide +kernel, by decide +kernel⟩, List.mem_of_getElem? (i := 101) (by decide +kernel), List.mem_of_getElem? (i := 464) (by decide +kernel), List.mem_of_getElem? (i := 465) (by decide +kernel)⟩
theorem lw_p7 : lw_okq (⟨"NounFast$City", "readNew", "(LNounFast$Text;I)V"⟩, 9) := ⟨⟨by decide +kernel, by decide +kernel⟩, List.mem_of_getElem? (i := 101) (by decide +kernel), List.mem_of_getElem? (i := 472) (by decide +kernel), List.mem_of_getElem? (i := 473) (by decide +kernel)⟩
theorem lw_p8 : lw_okq (⟨"NounFast$City", "find", "(J)I"⟩, 9) := ⟨⟨by decide +kernel, by decide +kernel⟩, List.mem_of_getElem? (i := 101) (by decide +kernel), List.mem_of_getElem? (i := 483) (by decide +kernel), List.mem_of_getElem? (i := 484) (by decide +kernel)⟩
theorem lw_p9 : lw_okq (⟨"NounFast$City", "readPerson", "(LNounFast$Text;I)V"⟩, 9) := ⟨⟨by decide +kernel, by decide +kernel⟩, List.mem_of_getElem? (i := 101) (by decide +kernel), List.mem_of_getElem? (i := 491) (by decide +kernel), List.mem_of_getElem? (i := 492) (by decide +kernel)⟩
theorem lw_p10 : lw_okq (⟨"NounFast$City", "readPair", "(LNounFast$Text;I[I)V"⟩, 9) := ⟨⟨by decide +kernel, by decide +kernel⟩, List.mem_of_getElem? (i := 101) (by decide +kernel), List.mem_of_getElem? (i := 504) (by decide +kernel), List.mem_of_getElem? (i := 505) (by decide +kernel)⟩
theorem lw_p11 : lw_okq (⟨"NounFast$City", "readSetting", "(LNounFast$Text;I)V"⟩, 9) := ⟨⟨by decide +kernel, by decide +kernel⟩, List.mem_of_getElem? (i := 101) (by decide +kernel), List.mem_of_getElem? (i := 508) (by decide +kernel), List.mem_of_getElem? (i := 509) (by decide +kernel)⟩
theorem lw_p12 : lw_okq (⟨"NounFast", "closeText", "()V"⟩, 18) := ⟨⟨by decide +kernel, by decide +kernel⟩, List.mem_of_getElem? (i := 26) (by decide +kernel), List.mem_of_getElem? (i := 520) (by decide +kernel), List.mem_of_getElem? (i := 521) (by decide +kernel)⟩
theorem lw_p13 : lw_okq (⟨"NounFast$History", "slot", "(I)I"⟩, 3) := ⟨⟨by decide +kernel, by decide +kernel⟩, List.mem_of_getElem? (i := 205) (by decide +kernel), List.mem_of_getElem? (i := 582) (by decide +kernel), List.mem_of_getElem? (i := 583) (by decide +kernel)⟩
theorem lw_p14 : lw_okq (⟨"NounFast", "kept", "(I)I"⟩, 18) := ⟨⟨by decide +kernel, by decide +kernel⟩, List.mem_of_getElem? (i := 26) (by decide +kernel), List.mem_of_getElem? (i := 596) (by decide +kernel), List.mem_of_getElem? (i := 597) (by decide +kernel)⟩
theorem lw_p15 : lw_okq (⟨"NounFast$Scene", "areTogether", "(II)Z"⟩, 10) := ⟨⟨by decide +kernel, by decide +kernel⟩, List.mem_of_getElem? (i := 99) (by decide +kernel), List.mem_of_getElem? (i := 616) (by decide +kernel), List.mem_of_getElem? (i := 617) (by decide +kernel)⟩
def lw_privs_1 : List (MethodName × Nat) := [(⟨"NounFast$Text", "behindBlanks", "(I)I"⟩, 11), (⟨"NounFast$Text", "readToken", "(I)I"⟩, 11), (⟨"NounFast$Text", "readRun", "(I)I"⟩, 11), (⟨"NounFast$Text", "wordNumber", "(II)I"⟩, 11), (⟨"NounFast$Text", "wordIn", "(Ljava/lang/String;II)I"⟩, 11), (⟨"NounFast$Text", "isSpelled", "(Ljava/lang/String;III)Z"⟩, 11), (⟨"NounFast$City", "readLine", "(LNounFast$Text;)V"⟩, 9), (⟨"NounFast$City", "readNew", "(LNounFast$Text;I)V"⟩, 9), (⟨"NounFast$City", "find", "(J)I"⟩, 9), (⟨"NounFast$City", "readPerson", "(LNounFast$Text;I)V"⟩, 9), (⟨"NounFast$City", "readPair", "(LNounFast$Text;I[I)V"⟩, 9), (⟨"NounFast$City", "readSetting", "(LNounFast$Text;I)V"⟩, 9), (⟨"NounFast", "closeText", "()V"⟩, 18), (⟨"NounFast$History", "slot", "(I)I"⟩, 3), (⟨"NounFast", "kept", "(I)I"⟩, 18), (⟨"NounFast$Scene", "areTogether", "(II)Z"⟩, 10)]
theorem lw_r1 : ∀ q ∈ lw_privs_1, lw_okq q := List.forall_mem_cons.mpr ⟨lw_p0, List.forall_mem_cons.mpr ⟨lw_p1, List.forall_mem_cons.mpr ⟨lw_p2, List.forall_mem_cons.mpr ⟨lw_p3, List.forall_mem_cons.mpr ⟨lw_p4, List.forall_mem_cons.mpr ⟨lw_p5, List.forall_mem_cons.mpr ⟨lw_p6, List.forall_mem_cons.mpr ⟨lw_p7, List.forall_mem_cons.mpr ⟨lw_p8, List.forall_mem_cons.mpr ⟨lw_p9, List.forall_mem_cons.mpr ⟨lw_p10, List.forall_mem_cons.mpr ⟨lw_p11, List.forall_mem_cons.mpr ⟨lw_p12, List.forall_mem_cons.mpr ⟨lw_p13, List.forall_mem_cons.mpr ⟨lw_p14, List.forall_mem_cons.mpr ⟨lw_p15, fun _ h => absurd h List.not_mem_nil⟩⟩⟩⟩⟩⟩⟩⟩⟩⟩⟩⟩⟩⟩⟩⟩
theorem lw_p16 : lw_okq (⟨"NounFast$Scene", "liesBefore", "(II)Z"⟩, 10) := ⟨⟨by decide +kernel, by decide +kernel⟩, List.mem_of_getElem? (i := 99) (by decide +kernel), List.mem_of_getElem? (i := 650) (by decide +kernel), List.mem_of_getElem? (i := 651) (by decide +kernel)⟩
theorem lw_p17 : lw_okq (⟨"NounFast", "keptDays", "(I)I"⟩, 18) := ⟨⟨by decide +kernel, by decide +kernel⟩, List.mem_of_getElem? (i := 26) (by decide +kernel), List.mem_of_getElem? (i := 699) (by decide +kernel), List.mem_of_getElem? (i := 700) (by decide +kernel)⟩
theorem lw_p18 : lw_okq (⟨"NounFast$Clue", "countFitting", "(LNounFast$Scene;II)V"⟩, 3) := ⟨⟨by decide +kernel, by decide +kernel⟩, List.mem_of_getElem? (i := 262) (by decide +kernel), List.mem_of_getElem? (i := 783) (by decide +kernel), List.mem_of_getElem? (i := 784) (by decide +kernel)⟩
theorem lw_p19 : lw_okq (⟨"NounFast$Clue", "mostTelling", "(LNounFast$Scene;I)I"⟩, 3) := ⟨⟨by decide +kernel, by decide +kernel⟩, List.mem_of_getElem? (i := 262) (by decide +kernel), List.mem_of_getElem? (i := 787) (by decide +kernel), List.mem_of_getElem? (i := 788) (by decide +kernel)⟩
theorem lw_p20 : lw_okq (⟨"NounFast$Rest", "sayThings", "(LNounFast$Scene;I)Z"⟩, 2) := ⟨⟨by decide +kernel, by decide +kernel⟩, List.mem_of_getElem? (i := 248) (by decide +kernel), List.mem_of_getElem? (i := 826) (by decide +kernel), List.mem_of_getElem? (i := 827) (by decide +kernel)⟩
theorem lw_p21 : lw_okq (⟨"NounFast$Rest", "leastOwning", "(II)I"⟩, 2) := ⟨⟨by decide +kernel, by decide +kernel⟩, List.mem_of_getElem? (i := 248) (by decide +kernel), List.mem_of_getElem? (i := 830) (by decide +kernel), List.mem_of_getElem? (i := 831) (by decide +kernel)⟩
theorem lw_p22 : lw_okq (⟨"NounFast$Rest", "giveMarks", "(LNounFast$Scene;I)Z"⟩, 2) := ⟨⟨by decide +kernel, by decide +kernel⟩, List.mem_of_getElem? (i := 248) (by decide +kernel), List.mem_of_getElem? (i := 834) (by decide +kernel), List.mem_of_getElem? (i := 835) (by decide +kernel)⟩
theorem lw_p23 : lw_okq (⟨"NounFast$Rest", "firstSaid", "(II)I"⟩, 2) := ⟨⟨by decide +kernel, by decide +kernel⟩, List.mem_of_getElem? (i := 248) (by decide +kernel), List.mem_of_getElem? (i := 838) (by decide +kernel), List.mem_of_getElem? (i := 839) (by decide +kernel)⟩
theorem lw_p24 : lw_okq (⟨"NounFast", "spellRoundabout", "(I)V"⟩, 18) := ⟨⟨by decide +kernel, by decide +kernel⟩, List.mem_of_getElem? (i := 26) (by decide +kernel), List.mem_of_getElem? (i := 863) (by decide +kernel), List.mem_of_getElem? (i := 864) (by decide +kernel)⟩
theorem lw_p25 : lw_okq (⟨"NounFast", "spellByte", "(I)V"⟩, 18) := ⟨⟨by decide +kernel, by decide +kernel⟩, List.mem_of_getElem? (i := 26) (by decide +kernel), List.mem_of_getElem? (i := 867) (by decide +kernel), List.mem_of_getElem? (i := 868) (by decide +kernel)⟩
theorem lw_p26 : lw_okq (⟨"NounFast", "spellName", "(J)V"⟩, 18) := ⟨⟨by decide +kernel, by decide +kernel⟩, List.mem_of_getElem? (i := 26) (by decide +kernel), List.mem_of_getElem? (i := 876) (by decide +kernel), List.mem_of_getElem? (i := 877) (by decide +kernel)⟩
theorem lw_p27 : lw_okq (⟨"NounFast$Dice", "takeTurn", "(LNounFast$Scene;I)V"⟩, 1) := ⟨⟨by decide +kernel, by decide +kernel⟩, List.mem_of_getElem? (i := 280) (by decide +kernel), List.mem_of_getElem? (i := 896) (by decide +kernel), List.mem_of_getElem? (i := 897) (by decide +kernel)⟩
theorem lw_p28 : lw_okq (⟨"NounFast$Dice", "draw", "(I)I"⟩, 1) := ⟨⟨by decide +kernel, by decide +kernel⟩, List.mem_of_getElem? (i := 280) (by decide +kernel), List.mem_of_getElem? (i := 900) (by decide +kernel), List.mem_of_getElem? (i := 901) (by decide +kernel)⟩
theorem lw_p29 : lw_okq (⟨"NounFast$Book", "readLine", "(LNounFast$Text;LNounFast$City;)V"⟩, 6) := ⟨⟨by decide +kernel, by decide +kernel⟩, List.mem_of_getElem? (i := 223) (by decide +kernel), List.mem_of_getElem? (i := 932) (by decide +kernel), List.mem_of_getElem? (i := 933) (by decide +kernel)⟩
theorem lw_p30 : lw_okq (⟨"NounFast$Book", "readAct", "(LNounFast$Text;LNounFast$City;)V"⟩, 6) := ⟨⟨by decide +kernel, by decide +kernel⟩, List.mem_of_getElem? (i := 223) (by decide +kernel), List.mem_of_getElem? (i := 941) (by decide +kernel), List.mem_of_getElem? (i := 942) (by decide +kernel)⟩
theorem lw_p31 : lw_okq (⟨"NounFast$Book", "liveLine", "(LNounFast$Scene;I)I"⟩, 6) := ⟨⟨by decide +kernel, by decide +kernel⟩, List.mem_of_getElem? (i := 223) (by decide +kernel), List.mem_of_getElem? (i := 957) (by decide +kernel), List.mem_of_getElem? (i := 958) (by decide +kernel)⟩
def lw_privs_2 : List (MethodName × Nat) := [(⟨"NounFast$Scene", "liesBefore", "(II)Z"⟩, 10), (⟨"NounFast", "keptDays", "(I)I"⟩, 18), (⟨"NounFast$Clue", "countFitting", "(LNounFast$Scene;II)V"⟩, 3), (⟨"NounFast$Clue", "mostTelling", "(LNounFast$Scene;I)I"⟩, 3), (⟨"NounFast$Rest", "sayThings", "(LNounFast$Scene;I)Z"⟩, 2), (⟨"NounFast$Rest", "leastOwning", "(II)I"⟩, 2), (⟨"NounFast$Rest", "giveMarks", "(LNounFast$Scene;I)Z"⟩, 2), (⟨"NounFast$Rest", "firstSaid", "(II)I"⟩, 2), (⟨"NounFast", "spellRoundabout", "(I)V"⟩, 18), (⟨"NounFast", "spellByte", "(I)V"⟩, 18), (⟨"NounFast", "spellName", "(J)V"⟩, 18), (⟨"NounFast$Dice", "takeTurn", "(LNounFast$Scene;I)V"⟩, 1), (⟨"NounFast$Dice", "draw", "(I)I"⟩, 1), (⟨"NounFast$Book", "readLine", "(LNounFast$Text;LNounFast$City;)V"⟩, 6), (⟨"NounFast$Book", "readAct", "(LNounFast$Text;LNounFast$City;)V"⟩, 6), (⟨"NounFast$Book", "liveLine", "(LNounFast$Scene;I)I"⟩, 6)]
theorem lw_r2 : ∀ q ∈ lw_privs_2, lw_okq q := List.forall_mem_cons.mpr ⟨lw_p16, List.forall_mem_cons.mpr ⟨lw_p17, List.forall_mem_cons.mpr ⟨lw_p18, List.forall_mem_cons.mpr ⟨lw_p19, List.forall_mem_cons.mpr ⟨lw_p20, List.forall_mem_cons.mpr ⟨lw_p21, List.forall_mem_cons.mpr ⟨lw_p22, List.forall_mem_cons.mpr ⟨lw_p23, List.forall_mem_cons.mpr ⟨lw_p24, List.forall_mem_cons.mpr ⟨lw_p25, List.forall_mem_cons.mpr ⟨lw_p26, List.forall_mem_cons.mpr ⟨lw_p27, List.forall_mem_cons.mpr ⟨lw_p28, List.forall_mem_cons.mpr ⟨lw_p29, List.forall_mem_cons.mpr ⟨lw_p30, List.forall_mem_cons.mpr ⟨lw_p31, fun _ h => absurd h List.not_mem_nil⟩⟩⟩⟩⟩⟩⟩⟩⟩⟩⟩⟩⟩⟩⟩⟩
theorem lw_p32 : lw_okq (⟨"NounFast$Sentence", "readAll", "(LNounFast$Text;LNounFast$City;I)V"⟩, 6) := ⟨⟨by decide +kernel, by decide +kernel⟩, List.mem_of_getElem? (i := 987) (by decide +kernel), List.mem_of_getElem? (i := 1017) (by decide +kernel), List.mem_of_getElem? (i := 1018) (by decide +kernel)⟩
theorem lw_p33 : lw_okq (⟨"NounFast$Sentence", "readOne", "(LNounFast$Text;LNounFast$City;I)V"⟩, 6) := ⟨⟨by decide +kernel, by decide +kernel⟩, List.mem_of_getElem? (i := 987) (by decide +kernel), List.mem_of_getElem? (i := 1021) (by decide +kernel), List.mem_of_getElem? (i := 1022) (by decide +kernel)⟩
theorem lw_p34 : lw_okq (⟨"NounFast$Sentence", "add", "(III)V"⟩, 6) := ⟨⟨by decide +kernel, by decide +kernel⟩, List.mem_of_getElem? (i := 987) (by decide +kernel), List.mem_of_getElem? (i := 1030) (by decide +kernel), List.mem_of_getElem? (i := 1031) (by decide +kernel)⟩
theorem lw_p35 : lw_okq (⟨"NounFast$Sentence", "readPlain", "(LNounFast$Text;LNounFast$City;I)V"⟩, 6) := ⟨⟨by decide +kernel, by decide +kernel⟩, List.mem_of_getElem? (i := 987) (by decide +kernel), List.mem_of_getElem? (i := 1034) (by decide +kernel), List.mem_of_getElem? (i := 1035) (by decide +kernel)⟩
theorem lw_p36 : lw_okq (⟨"NounFast$Sentence", "thingsOfPart", "(LNounFast$Scene;I)I"⟩, 6) := ⟨⟨by decide +kernel, by decide +kernel⟩, List.mem_of_getElem? (i := 987) (by decide +kernel), List.mem_of_getElem? (i := 1056) (by decide +kernel), List.mem_of_getElem? (i := 1057) (by decide +kernel)⟩
theorem lw_p37 : lw_okq (⟨"NounFast$Sentence", "holds", "(LNounFast$Scene;II)Z"⟩, 6) := ⟨⟨by decide +kernel, by decide +kernel⟩, List.mem_of_getElem? (i := 987) (by decide +kernel), List.mem_of_getElem? (i := 1060) (by decide +kernel), List.mem_of_getElem? (i := 1061) (by decide +kernel)⟩
theorem lw_p38 : lw_okq (⟨"java/lang/Throwable", "fillInStackTrace", "(I)Ljava/lang/Throwable;"⟩, 6) := ⟨⟨by decide +kernel, by decide +kernel⟩, List.mem_of_getElem? (i := 1131) (by decide +kernel), List.mem_of_getElem? (i := 1129) (by decide +kernel), List.mem_of_getElem? (i := 1130) (by decide +kernel)⟩
theorem lw_p39 : lw_okq (⟨"NounFastModel", "four", "(I)V"⟩, 53) := ⟨⟨by decide +kernel, by decide +kernel⟩, List.mem_of_getElem? (i := 1194) (by decide +kernel), List.mem_of_getElem? (i := 1192) (by decide +kernel), List.mem_of_getElem? (i := 1193) (by decide +kernel)⟩
theorem lw_p40 : lw_okq (⟨"NounFastModel", "clears", "()V"⟩, 53) := ⟨⟨by decide +kernel, by decide +kernel⟩, List.mem_of_getElem? (i := 1194) (by decide +kernel), List.mem_of_getElem? (i := 1235) (by decide +kernel), List.mem_of_getElem? (i := 1236) (by decide +kernel)⟩
theorem lw_p41 : lw_okq (⟨"NounFastModel", "taken", "(I)V"⟩, 53) := ⟨⟨by decide +kernel, by decide +kernel⟩, List.mem_of_getElem? (i := 1194) (by decide +kernel), List.mem_of_getElem? (i := 1404) (by decide +kernel), List.mem_of_getElem? (i := 1405) (by decide +kernel)⟩
theorem lw_p42 : lw_okq (⟨"NounFastModel", "next", "()V"⟩, 53) := ⟨⟨by decide +kernel, by decide +kernel⟩, List.mem_of_getElem? (i := 1194) (by decide +kernel), List.mem_of_getElem? (i := 1408) (by decide +kernel), List.mem_of_getElem? (i := 1409) (by decide +kernel)⟩
theorem lw_p43 : lw_okq (⟨"NounFastModel", "peek", "()I"⟩, 53) := ⟨⟨by decide +kernel, by decide +kernel⟩, List.mem_of_getElem? (i := 1194) (by decide +kernel), List.mem_of_getElem? (i := 1412) (by decide +kernel), List.mem_of_getElem? (i := 1413) (by decide +kernel)⟩
theorem lw_p44 : lw_okq (⟨"NounFastModel", "line", "()Z"⟩, 53) := ⟨⟨by decide +kernel, by decide +kernel⟩, List.mem_of_getElem? (i := 1194) (by decide +kernel), List.mem_of_getElem? (i := 1422) (by decide +kernel), List.mem_of_getElem? (i := 1423) (by decide +kernel)⟩
theorem lw_p45 : lw_okq (⟨"NounFastModel", "isWord", "(J)Z"⟩, 53) := ⟨⟨by decide +kernel, by decide +kernel⟩, List.mem_of_getElem? (i := 1194) (by decide +kernel), List.mem_of_getElem? (i := 1426) (by decide +kernel), List.mem_of_getElem? (i := 1427) (by decide +kernel)⟩
theorem lw_p46 : lw_okq (⟨"NounFastModel", "readNew", "(III)Z"⟩, 53) := ⟨⟨by decide +kernel, by decide +kernel⟩, List.mem_of_getElem? (i := 1194) (by decide +kernel), List.mem_of_getElem? (i := 1430) (by decide +kernel), List.mem_of_getElem? (i := 1431) (by decide +kernel)⟩
theorem lw_p47 : lw_okq (⟨"NounFastModel", "bad", "(I)Z"⟩, 53) := ⟨⟨by decide +kernel, by decide +kernel⟩, List.mem_of_getElem? (i := 1194) (by decide +kernel), List.mem_of_getElem? (i := 1434) (by decide +kernel), List.mem_of_getElem? (i := 1435) (by decide +kernel)⟩
def lw_privs_3 : List (MethodName × Nat) := [(⟨"NounFast$Sentence", "readAll", "(LNounFast$Text;LNounFast$City;I)V"⟩, 6), (⟨"NounFast$Sentence", "readOne", "(LNounFast$Text;LNounFast$City;I)V"⟩, 6), (⟨"NounFast$Sentence", "add", "(III)V"⟩, 6), (⟨"NounFast$Sentence", "readPlain", "(LNounFast$Text;LNounFast$City;I)V"⟩, 6), (⟨"NounFast$Sentence", "thingsOfPart", "(LNounFast$Scene;I)I"⟩, 6), (⟨"NounFast$Sentence", "holds", "(LNounFast$Scene;II)Z"⟩, 6), (⟨"java/lang/Throwable", "fillInStackTrace", "(I)Ljava/lang/Throwable;"⟩, 6), (⟨"NounFastModel", "four", "(I)V"⟩, 53), (⟨"NounFastModel", "clears", "()V"⟩, 53), (⟨"NounFastModel", "taken", "(I)V"⟩, 53), (⟨"NounFastModel", "next", "()V"⟩, 53), (⟨"NounFastModel", "peek", "()I"⟩, 53), (⟨"NounFastModel", "line", "()Z"⟩, 53), (⟨"NounFastModel", "isWord", "(J)Z"⟩, 53), (⟨"NounFastModel", "readNew", "(III)Z"⟩, 53), (⟨"NounFastModel", "bad", "(I)Z"⟩, 53)]
theorem lw_r3 : ∀ q ∈ lw_privs_3, lw_okq q := List.forall_mem_cons.mpr ⟨lw_p32, List.forall_mem_cons.mpr ⟨lw_p33, List.forall_mem_cons.mpr ⟨lw_p34, List.forall_mem_cons.mpr ⟨lw_p35, List.forall_mem_cons.mpr ⟨lw_p36, List.forall_mem_cons.mpr ⟨lw_p37, List.forall_mem_cons.mpr ⟨lw_p38, List.forall_mem_cons.mpr ⟨lw_p39, List.forall_mem_cons.mpr ⟨lw_p40, List.forall_mem_cons.mpr ⟨lw_p41, List.forall_mem_cons.mpr ⟨lw_p42, List.forall_mem_cons.mpr ⟨lw_p43, List.forall_mem_cons.mpr ⟨lw_p44, List.forall_mem_cons.mpr ⟨lw_p45, List.forall_mem_cons.mpr ⟨lw_p46, List.forall_mem_cons.mpr ⟨lw_p47, fun _ h => absurd h List.not_mem_nil⟩⟩⟩⟩⟩⟩⟩⟩⟩⟩⟩⟩⟩⟩⟩⟩
theorem lw_p48 : lw_okq (⟨"NounFastModel", "fresh", "(I)Z"⟩, 53) := ⟨⟨by decide +kernel, by decide +kernel⟩, List.mem_of_getElem? (i := 1194) (by decide +kernel), List.mem_of_getElem? (i := 1438) (by decide +kernel), List.mem_of_getElem? (i := 1439) (by decide +kernel)⟩
theorem lw_p49 : lw_okq (⟨"NounFastModel", "isName", "()Z"⟩, 53) := ⟨⟨by decide +kernel, by decide +kernel⟩, List.mem_of_getElem? (i := 1194) (by decide +kernel), List.mem_of_getElem? (i := 1442) (by decide +kernel), List.mem_of_getElem? (i := 1443) (by decide +kernel)⟩
theorem lw_p50 : lw_okq (⟨"NounFastModel", "find", "(II)I"⟩, 53) := ⟨⟨by decide +kernel, by decide +kernel⟩, List.mem_of_getElem? (i := 1194) (by decide +kernel), List.mem_of_getElem? (i := 1446) (by decide +kernel), List.mem_of_getElem? (i := 1447) (by decide +kernel)⟩
theorem lw_p51 : lw_okq (⟨"NounFastModel", "readThing", "()Z"⟩, 53) := ⟨⟨by decide +kernel, by decide +kernel⟩, List.mem_of_getElem? (i := 1194) (by decide +kernel), List.mem_of_getElem? (i := 1450) (by decide +kernel), List.mem_of_getElem? (i := 1451) (by decide +kernel)⟩
theorem lw_p52 : lw_okq (⟨"NounFastModel", "takesName", "(II)Z"⟩, 53) := ⟨⟨by decide +kernel, by decide +kernel⟩, List.mem_of_getElem? (i := 1194) (by decide +kernel), List.mem_of_getElem? (i := 1454) (by decide +kernel), List.mem_of_getElem? (i := 1455) (by decide +kernel)⟩
theorem lw_p53 : lw_okq (⟨"NounFastModel", "looksAt", "(II)Z"⟩, 53) := ⟨⟨by decide +kernel, by decide +kernel⟩, List.mem_of_getElem? (i := 1194) (by decide +kernel), List.mem_of_getElem? (i := 1458) (by decide +kernel), List.mem_of_getElem? (i := 1459) (by decide +kernel)⟩
theorem lw_p54 : lw_okq (⟨"NounFastModel", "readTie", "(III)Z"⟩, 53) := ⟨⟨by decide +kernel, by decide +kernel⟩, List.mem_of_getElem? (i := 1194) (by decide +kernel), List.mem_of_getElem? (i := 1462) (by decide +kernel), List.mem_of_getElem? (i := 1463) (by decide +kernel)⟩
theorem lw_p55 : lw_okq (⟨"NounFastModel", "readPerson", "()Z"⟩, 53) := ⟨⟨by decide +kernel, by decide +kernel⟩, List.mem_of_getElem? (i := 1194) (by decide +kernel), List.mem_of_getElem? (i := 1469) (by decide +kernel), List.mem_of_getElem? (i := 1470) (by decide +kernel)⟩
theorem lw_p56 : lw_okq (⟨"NounFastModel", "puts", "(III)Z"⟩, 53) := ⟨⟨by decide +kernel, by decide +kernel⟩, List.mem_of_getElem? (i := 1194) (by decide +kernel), List.mem_of_getElem? (i := 1473) (by decide +kernel), List.mem_of_getElem? (i := 1474) (by decide +kernel)⟩
theorem lw_p57 : lw_okq (⟨"NounFastModel", "takes", "(II)Z"⟩, 53) := ⟨⟨by decide +kernel, by decide +kernel⟩, List.mem_of_getElem? (i := 1194) (by decide +kernel), List.mem_of_getElem? (i := 1477) (by decide +kernel), List.mem_of_getElem? (i := 1478) (by decide +kernel)⟩
theorem lw_p58 : lw_okq (⟨"NounFastModel", "once", "(IIII)Z"⟩, 53) := ⟨⟨by decide +kernel, by decide +kernel⟩, List.mem_of_getElem? (i := 1194) (by decide +kernel), List.mem_of_getElem? (i := 1484) (by decide +kernel), List.mem_of_getElem? (i := 1485) (by decide +kernel)⟩
theorem lw_p59 : lw_okq (⟨"NounFastModel", "sign", "(I)Z"⟩, 53) := ⟨⟨by decide +kernel, by decide +kernel⟩, List.mem_of_getElem? (i := 1194) (by decide +kernel), List.mem_of_getElem? (i := 1488) (by decide +kernel), List.mem_of_getElem? (i := 1489) (by decide +kernel)⟩
theorem lw_p60 : lw_okq (⟨"NounFastModel", "isSign", "(I)Z"⟩, 53) := ⟨⟨by decide +kernel, by decide +kernel⟩, List.mem_of_getElem? (i := 1194) (by decide +kernel), List.mem_of_getElem? (i := 1492) (by decide +kernel), List.mem_of_getElem? (i := 1493) (by decide +kernel)⟩
theorem lw_p61 : lw_okq (⟨"NounFastModel", "isThing", "(I)Z"⟩, 53) := ⟨⟨by decide +kernel, by decide +kernel⟩, List.mem_of_getElem? (i := 1194) (by decide +kernel), List.mem_of_getElem? (i := 1504) (by decide +kernel), List.mem_of_getElem? (i := 1505) (by decide +kernel)⟩
theorem lw_p62 : lw_okq (⟨"NounFastModel", "throwsIf", "(Z)Z"⟩, 53) := ⟨⟨by decide +kernel, by decide +kernel⟩, List.mem_of_getElem? (i := 1194) (by decide +kernel), List.mem_of_getElem? (i := 1508) (by decide +kernel), List.mem_of_getElem? (i := 1509) (by decide +kernel)⟩
theorem lw_p63 : lw_okq (⟨"NounFastModel", "placeOf", "(I)I"⟩, 53) := ⟨⟨by decide +kernel, by decide +kernel⟩, List.mem_of_getElem? (i := 1194) (by decide +kernel), List.mem_of_getElem? (i := 1512) (by decide +kernel), List.mem_of_getElem? (i := 1513) (by decide +kernel)⟩
def lw_privs_4 : List (MethodName × Nat) := [(⟨"NounFastModel", "fresh", "(I)Z"⟩, 53), (⟨"NounFastModel", "isName", "()Z"⟩, 53), (⟨"NounFastModel", "find", "(II)I"⟩, 53), (⟨"NounFastModel", "readThing", "()Z"⟩, 53), (⟨"NounFastModel", "takesName", "(II)Z"⟩, 53), (⟨"NounFastModel", "looksAt", "(II)Z"⟩, 53), (⟨"NounFastModel", "readTie", "(III)Z"⟩, 53), (⟨"NounFastModel", "readPerson", "()Z"⟩, 53), (⟨"NounFastModel", "puts", "(III)Z"⟩, 53), (⟨"NounFastModel", "takes", "(II)Z"⟩, 53), (⟨"NounFastModel", "once", "(IIII)Z"⟩, 53), (⟨"NounFastModel", "sign", "(I)Z"⟩, 53), (⟨"NounFastModel", "isSign", "(I)Z"⟩, 53), (⟨"NounFastModel", "isThing", "(I)Z"⟩, 53), (⟨"NounFastModel", "throwsIf", "(Z)Z"⟩, 53), (⟨"NounFastModel", "placeOf", "(I)I"⟩, 53)]
theorem lw_r4 : ∀ q ∈ lw_privs_4, lw_okq q := List.forall_mem_cons.mpr ⟨lw_p48, List.forall_mem_cons.mpr ⟨lw_p49, List.forall_mem_cons.mpr ⟨lw_p50, List.forall_mem_cons.mpr ⟨lw_p51, List.forall_mem_cons.mpr ⟨lw_p52, List.forall_mem_cons.mpr ⟨lw_p53, List.forall_mem_cons.mpr ⟨lw_p54, List.forall_mem_cons.mpr ⟨lw_p55, List.forall_mem_cons.mpr ⟨lw_p56, List.forall_mem_cons.mpr ⟨lw_p57, List.forall_mem_cons.mpr ⟨lw_p58, List.forall_mem_cons.mpr ⟨lw_p59, List.forall_mem_cons.mpr ⟨lw_p60, List.forall_mem_cons.mpr ⟨lw_p61, List.forall_mem_cons.mpr ⟨lw_p62, List.forall_mem_cons.mpr ⟨lw_p63, fun _ h => absurd h List.not_mem_nil⟩⟩⟩⟩⟩⟩⟩⟩⟩⟩⟩⟩⟩⟩⟩⟩
theorem lw_p64 : lw_okq (⟨"NounFastModel", "isCarried", "(I)Z"⟩, 53) := ⟨⟨by decide +kernel, by decide +kernel⟩, List.mem_of_getElem? (i := 1194) (by decide +kernel), List.mem_of_getElem? (i := 1516) (by decide +kernel), List.mem_of_getElem? (i := 1517) (by decide +kernel)⟩
theorem lw_p65 : lw_okq (⟨"NounFastModel", "isPerson", "(I)Z"⟩, 53) := ⟨⟨by decide +kernel, by decide +kernel⟩, List.mem_of_getElem? (i := 1194) (by decide +kernel), List.mem_of_getElem? (i := 1524) (by decide +kernel), List.mem_of_getElem? (i := 1525) (by decide +kernel)⟩
theorem lw_p66 : lw_okq (⟨"NounFastModel", "carriedBy", "(I)I"⟩, 53) := ⟨⟨by decide +kernel, by decide +kernel⟩, List.mem_of_getElem? (i := 1194) (by decide +kernel), List.mem_of_getElem? (i := 1528) (by decide +kernel), List.mem_of_getElem? (i := 1529) (by decide +kernel)⟩
theorem lw_p67 : lw_okq (⟨"NounFastModel", "isPlace", "(I)Z"⟩, 53) := ⟨⟨by decide +kernel, by decide +kernel⟩, List.mem_of_getElem? (i := 1194) (by decide +kernel), List.mem_of_getElem? (i := 1536) (by decide +kernel), List.mem_of_getElem? (i := 1537) (by decide +kernel)⟩
theorem lw_p68 : lw_okq (⟨"NounFastModel", "lyingAt", "(I)I"⟩, 53) := ⟨⟨by decide +kernel, by decide +kernel⟩, List.mem_of_getElem? (i := 1194) (by decide +kernel), List.mem_of_getElem? (i := 1540) (by decide +kernel), List.mem_of_getElem? (i := 1541) (by decide +kernel)⟩
theorem lw_p69 : lw_okq (⟨"NounFastModel", "isFast", "()Z"⟩, 53) := ⟨⟨by decide +kernel, by decide +kernel⟩, List.mem_of_getElem? (i := 1194) (by decide +kernel), List.mem_of_getElem? (i := 1548) (by decide +kernel), List.mem_of_getElem? (i := 1549) (by decide +kernel)⟩
theorem lw_p70 : lw_okq (⟨"NounFastModel", "carriedSet", "()I"⟩, 53) := ⟨⟨by decide +kernel, by decide +kernel⟩, List.mem_of_getElem? (i := 1194) (by decide +kernel), List.mem_of_getElem? (i := 1552) (by decide +kernel), List.mem_of_getElem? (i := 1553) (by decide +kernel)⟩
theorem lw_p71 : lw_okq (⟨"NounFastModel", "keep", "()V"⟩, 53) := ⟨⟨by decide +kernel, by decide +kernel⟩, List.mem_of_getElem? (i := 1194) (by decide +kernel), List.mem_of_getElem? (i := 1560) (by decide +kernel), List.mem_of_getElem? (i := 1561) (by decide +kernel)⟩
theorem lw_p72 : lw_okq (⟨"NounFastModel", "isSaying", "(I)Z"⟩, 53) := ⟨⟨by decide +kernel, by decide +kernel⟩, List.mem_of_getElem? (i := 1194) (by decide +kernel), List.mem_of_getElem? (i := 1568) (by decide +kernel), List.mem_of_getElem? (i := 1569) (by decide +kernel)⟩
theorem lw_p73 : lw_okq (⟨"NounFastModel", "whyAsk", "(III)I"⟩, 53) := ⟨⟨by decide +kernel, by decide +kernel⟩, List.mem_of_getElem? (i := 1194) (by decide +kernel), List.mem_of_getElem? (i := 1572) (by decide +kernel), List.mem_of_getElem? (i := 1573) (by decide +kernel)⟩
theorem lw_p74 : lw_okq (⟨"NounFastModel", "areApart", "(II)Z"⟩, 53) := ⟨⟨by decide +kernel, by decide +kernel⟩, List.mem_of_getElem? (i := 1194) (by decide +kernel), List.mem_of_getElem? (i := 1576) (by decide +kernel), List.mem_of_getElem? (i := 1577) (by decide +kernel)⟩
theorem lw_p75 : lw_okq (⟨"NounFastModel", "fitting", "(II)I"⟩, 53) := ⟨⟨by decide +kernel, by decide +kernel⟩, List.mem_of_getElem? (i := 1194) (by decide +kernel), List.mem_of_getElem? (i := 1580) (by decide +kernel), List.mem_of_getElem? (i := 1581) (by decide +kernel)⟩
theorem lw_p76 : lw_okq (⟨"NounFastModel", "hasAll", "(II)Z"⟩, 53) := ⟨⟨by decide +kernel, by decide +kernel⟩, List.mem_of_getElem? (i := 1194) (by decide +kernel), List.mem_of_getElem? (i := 1584) (by decide +kernel), List.mem_of_getElem? (i := 1585) (by decide +kernel)⟩
theorem lw_p77 : lw_okq (⟨"NounFastModel", "asks", "(III)V"⟩, 53) := ⟨⟨by decide +kernel, by decide +kernel⟩, List.mem_of_getElem? (i := 1194) (by decide +kernel), List.mem_of_getElem? (i := 1588) (by decide +kernel), List.mem_of_getElem? (i := 1589) (by decide +kernel)⟩
theorem lw_p78 : lw_okq (⟨"NounFastModel", "whyName", "(II)I"⟩, 53) := ⟨⟨by decide +kernel, by decide +kernel⟩, List.mem_of_getElem? (i := 1194) (by decide +kernel), List.mem_of_getElem? (i := 1602) (by decide +kernel), List.mem_of_getElem? (i := 1603) (by decide +kernel)⟩
theorem lw_p79 : lw_okq (⟨"NounFastModel", "isNear", "(II)Z"⟩, 53) := ⟨⟨by decide +kernel, by decide +kernel⟩, List.mem_of_getElem? (i := 1194) (by decide +kernel), List.mem_of_getElem? (i := 1606) (by decide +kernel), List.mem_of_getElem? (i := 1607) (by decide +kernel)⟩
def lw_privs_5 : List (MethodName × Nat) := [(⟨"NounFastModel", "isCarried", "(I)Z"⟩, 53), (⟨"NounFastModel", "isPerson", "(I)Z"⟩, 53), (⟨"NounFastModel", "carriedBy", "(I)I"⟩, 53), (⟨"NounFastModel", "isPlace", "(I)Z"⟩, 53), (⟨"NounFastModel", "lyingAt", "(I)I"⟩, 53), (⟨"NounFastModel", "isFast", "()Z"⟩, 53), (⟨"NounFastModel", "carriedSet", "()I"⟩, 53), (⟨"NounFastModel", "keep", "()V"⟩, 53), (⟨"NounFastModel", "isSaying", "(I)Z"⟩, 53), (⟨"NounFastModel", "whyAsk", "(III)I"⟩, 53), (⟨"NounFastModel", "areApart", "(II)Z"⟩, 53), (⟨"NounFastModel", "fitting", "(II)I"⟩, 53), (⟨"NounFastModel", "hasAll", "(II)Z"⟩, 53), (⟨"NounFastModel", "asks", "(III)V"⟩, 53), (⟨"NounFastModel", "whyName", "(II)I"⟩, 53), (⟨"NounFastModel", "isNear", "(II)Z"⟩, 53)]
theorem lw_r5 : ∀ q ∈ lw_privs_5, lw_okq q := List.forall_mem_cons.mpr ⟨lw_p64, List.forall_mem_cons.mpr ⟨lw_p65, List.forall_mem_cons.mpr ⟨lw_p66, List.forall_mem_cons.mpr ⟨lw_p67, List.forall_mem_cons.mpr ⟨lw_p68, List.forall_mem_cons.mpr ⟨lw_p69, List.forall_mem_cons.mpr ⟨lw_p70, List.forall_mem_cons.mpr ⟨lw_p71, List.forall_mem_cons.mpr ⟨lw_p72, List.forall_mem_cons.mpr ⟨lw_p73, List.forall_mem_cons.mpr ⟨lw_p74, List.forall_mem_cons.mpr ⟨lw_p75, List.forall_mem_cons.mpr ⟨lw_p76, List.forall_mem_cons.mpr ⟨lw_p77, List.forall_mem_cons.mpr ⟨lw_p78, List.forall_mem_cons.mpr ⟨lw_p79, fun _ h => absurd h List.not_mem_nil⟩⟩⟩⟩⟩⟩⟩⟩⟩⟩⟩⟩⟩⟩⟩⟩
theorem lw_p80 : lw_okq (⟨"NounFastModel", "isFined", "(I)Z"⟩, 53) := ⟨⟨by decide +kernel, by decide +kernel⟩, List.mem_of_getElem? (i := 1194) (by decide +kernel), List.mem_of_getElem? (i := 1610) (by decide +kernel), List.mem_of_getElem? (i := 1611) (by decide +kernel)⟩
theorem lw_p81 : lw_okq (⟨"NounFastModel", "namesOne", "(II)V"⟩, 53) := ⟨⟨by decide +kernel, by decide +kernel⟩, List.mem_of_getElem? (i := 1194) (by decide +kernel), List.mem_of_getElem? (i := 1614) (by decide +kernel), List.mem_of_getElem? (i := 1615) (by decide +kernel)⟩
theorem lw_p82 : lw_okq (⟨"NounFastModel", "whyPoint", "(II)I"⟩, 53) := ⟨⟨by decide +kernel, by decide +kernel⟩, List.mem_of_getElem? (i := 1194) (by decide +kernel), List.mem_of_getElem? (i := 1622) (by decide +kernel), List.mem_of_getElem? (i := 1623) (by decide +kernel)⟩
theorem lw_p83 : lw_okq (⟨"NounFastModel", "pointsAt", "(II)V"⟩, 53) := ⟨⟨by decide +kernel, by decide +kernel⟩, List.mem_of_getElem? (i := 1194) (by decide +kernel), List.mem_of_getElem? (i := 1626) (by decide +kernel), List.mem_of_getElem? (i := 1627) (by decide +kernel)⟩
theorem lw_p84 : lw_okq (⟨"NounFastModel", "putsDown", "(II)V"⟩, 53) := ⟨⟨by decide +kernel, by decide +kernel⟩, List.mem_of_getElem? (i := 1194) (by decide +kernel), List.mem_of_getElem? (i := 1634) (by decide +kernel), List.mem_of_getElem? (i := 1635) (by decide +kernel)⟩
theorem lw_p85 : lw_okq (⟨"NounFastModel", "whyLearn", "(II)I"⟩, 53) := ⟨⟨by decide +kernel, by decide +kernel⟩, List.mem_of_getElem? (i := 1194) (by decide +kernel), List.mem_of_getElem? (i := 1642) (by decide +kernel), List.mem_of_getElem? (i := 1643) (by decide +kernel)⟩
theorem lw_p86 : lw_okq (⟨"NounFastModel", "learnsOne", "(II)V"⟩, 53) := ⟨⟨by decide +kernel, by decide +kernel⟩, List.mem_of_getElem? (i := 1194) (by decide +kernel), List.mem_of_getElem? (i := 1646) (by decide +kernel), List.mem_of_getElem? (i := 1647) (by decide +kernel)⟩
theorem lw_p87 : lw_okq (⟨"NounFastModel", "goesOn", "(I)I"⟩, 53) := ⟨⟨by decide +kernel, by decide +kernel⟩, List.mem_of_getElem? (i := 1194) (by decide +kernel), List.mem_of_getElem? (i := 1654) (by decide +kernel), List.mem_of_getElem? (i := 1655) (by decide +kernel)⟩
theorem lw_p88 : lw_okq (⟨"NounFastModel", "day", "()V"⟩, 53) := ⟨⟨by decide +kernel, by decide +kernel⟩, List.mem_of_getElem? (i := 1194) (by decide +kernel), List.mem_of_getElem? (i := 1658) (by decide +kernel), List.mem_of_getElem? (i := 1659) (by decide +kernel)⟩
theorem lw_p89 : lw_okq (⟨"NounFastModel", "twinsOf", "(II)I"⟩, 53) := ⟨⟨by decide +kernel, by decide +kernel⟩, List.mem_of_getElem? (i := 1194) (by decide +kernel), List.mem_of_getElem? (i := 1685) (by decide +kernel), List.mem_of_getElem? (i := 1686) (by decide +kernel)⟩
theorem lw_p90 : lw_okq (⟨"NounFastModel", "isCover", "(II)Z"⟩, 53) := ⟨⟨by decide +kernel, by decide +kernel⟩, List.mem_of_getElem? (i := 1194) (by decide +kernel), List.mem_of_getElem? (i := 1697) (by decide +kernel), List.mem_of_getElem? (i := 1698) (by decide +kernel)⟩
theorem lw_p91 : lw_okq (⟨"NounFastModel", "octet", "(I)I"⟩, 53) := ⟨⟨by decide +kernel, by decide +kernel⟩, List.mem_of_getElem? (i := 1194) (by decide +kernel), List.mem_of_getElem? (i := 1709) (by decide +kernel), List.mem_of_getElem? (i := 1710) (by decide +kernel)⟩
theorem lw_p92 : lw_okq (⟨"NounFastModel", "isSpoken", "(I)Z"⟩, 53) := ⟨⟨by decide +kernel, by decide +kernel⟩, List.mem_of_getElem? (i := 1194) (by decide +kernel), List.mem_of_getElem? (i := 1713) (by decide +kernel), List.mem_of_getElem? (i := 1714) (by decide +kernel)⟩
theorem lw_p93 : lw_okq (⟨"NounFastModel", "isFit", "(II)Z"⟩, 53) := ⟨⟨by decide +kernel, by decide +kernel⟩, List.mem_of_getElem? (i := 1194) (by decide +kernel), List.mem_of_getElem? (i := 1717) (by decide +kernel), List.mem_of_getElem? (i := 1718) (by decide +kernel)⟩
theorem lw_p94 : lw_okq (⟨"NounFastModel", "saysAnew", "(I)Z"⟩, 53) := ⟨⟨by decide +kernel, by decide +kernel⟩, List.mem_of_getElem? (i := 1194) (by decide +kernel), List.mem_of_getElem? (i := 1745) (by decide +kernel), List.mem_of_getElem? (i := 1746) (by decide +kernel)⟩
theorem lw_p95 : lw_okq (⟨"NounFastModel", "meansAnew", "(I)Z"⟩, 53) := ⟨⟨by decide +kernel, by decide +kernel⟩, List.mem_of_getElem? (i := 1194) (by decide +kernel), List.mem_of_getElem? (i := 1749) (by decide +kernel), List.mem_of_getElem? (i := 1750) (by decide +kernel)⟩
def lw_privs_6 : List (MethodName × Nat) := [(⟨"NounFastModel", "isFined", "(I)Z"⟩, 53), (⟨"NounFastModel", "namesOne", "(II)V"⟩, 53), (⟨"NounFastModel", "whyPoint", "(II)I"⟩, 53), (⟨"NounFastModel", "pointsAt", "(II)V"⟩, 53), (⟨"NounFastModel", "putsDown", "(II)V"⟩, 53), (⟨"NounFastModel", "whyLearn", "(II)I"⟩, 53), (⟨"NounFastModel", "learnsOne", "(II)V"⟩, 53), (⟨"NounFastModel", "goesOn", "(I)I"⟩, 53), (⟨"NounFastModel", "day", "()V"⟩, 53), (⟨"NounFastModel", "twinsOf", "(II)I"⟩, 53), (⟨"NounFastModel", "isCover", "(II)Z"⟩, 53), (⟨"NounFastModel", "octet", "(I)I"⟩, 53), (⟨"NounFastModel", "isSpoken", "(I)Z"⟩, 53), (⟨"NounFastModel", "isFit", "(II)Z"⟩, 53), (⟨"NounFastModel", "saysAnew", "(I)Z"⟩, 53), (⟨"NounFastModel", "meansAnew", "(I)Z"⟩, 53)]
theorem lw_r6 : ∀ q ∈ lw_privs_6, lw_okq q := List.forall_mem_cons.mpr ⟨lw_p80, List.forall_mem_cons.mpr ⟨lw_p81, List.forall_mem_cons.mpr ⟨lw_p82, List.forall_mem_cons.mpr ⟨lw_p83, List.forall_mem_cons.mpr ⟨lw_p84, List.forall_mem_cons.mpr ⟨lw_p85, List.forall_mem_cons.mpr ⟨lw_p86, List.forall_mem_cons.mpr ⟨lw_p87, List.forall_mem_cons.mpr ⟨lw_p88, List.forall_mem_cons.mpr ⟨lw_p89, List.forall_mem_cons.mpr ⟨lw_p90, List.forall_mem_cons.mpr ⟨lw_p91, List.forall_mem_cons.mpr ⟨lw_p92, List.forall_mem_cons.mpr ⟨lw_p93, List.forall_mem_cons.mpr ⟨lw_p94, List.forall_mem_cons.mpr ⟨lw_p95, fun _ h => absurd h List.not_mem_nil⟩⟩⟩⟩⟩⟩⟩⟩⟩⟩⟩⟩⟩⟩⟩⟩
theorem lw_p96 : lw_okq (⟨"NounFastModel", "meantBy", "(II)I"⟩, 53) := ⟨⟨by decide +kernel, by decide +kernel⟩, List.mem_of_getElem? (i := 1194) (by decide +kernel), List.mem_of_getElem? (i := 1753) (by decide +kernel), List.mem_of_getElem? (i := 1754) (by decide +kernel)⟩
theorem lw_p97 : lw_okq (⟨"NounFastModel", "spells", "(J)V"⟩, 53) := ⟨⟨by decide +kernel, by decide +kernel⟩, List.mem_of_getElem? (i := 1194) (by decide +kernel), List.mem_of_getElem? (i := 1769) (by decide +kernel), List.mem_of_getElem? (i := 1770) (by decide +kernel)⟩
theorem lw_p98 : lw_okq (⟨"NounFastModel", "lays", "(I)V"⟩, 53) := ⟨⟨by decide +kernel, by decide +kernel⟩, List.mem_of_getElem? (i := 1194) (by decide +kernel), List.mem_of_getElem? (i := 1774) (by decide +kernel), List.mem_of_getElem? (i := 1775) (by decide +kernel)⟩
theorem lw_p99 : lw_okq (⟨"NounFastModel", "says", "(J)V"⟩, 53) := ⟨⟨by decide +kernel, by decide +kernel⟩, List.mem_of_getElem? (i := 1194) (by decide +kernel), List.mem_of_getElem? (i := 1779) (by decide +kernel), List.mem_of_getElem? (i := 1780) (by decide +kernel)⟩
theorem lw_p100 : lw_okq (⟨"NounFastModel", "draws", "(II)I"⟩, 53) := ⟨⟨by decide +kernel, by decide +kernel⟩, List.mem_of_getElem? (i := 1194) (by decide +kernel), List.mem_of_getElem? (i := 1792) (by decide +kernel), List.mem_of_getElem? (i := 1793) (by decide +kernel)⟩
theorem lw_p101 : lw_okq (⟨"NounFastModel", "drawPerson", "(I)V"⟩, 53) := ⟨⟨by decide +kernel, by decide +kernel⟩, List.mem_of_getElem? (i := 1194) (by decide +kernel), List.mem_of_getElem? (i := 1796) (by decide +kernel), List.mem_of_getElem? (i := 1797) (by decide +kernel)⟩
theorem lw_p102 : lw_okq (⟨"NounFastModel", "draw", "(I)I"⟩, 53) := ⟨⟨by decide +kernel, by decide +kernel⟩, List.mem_of_getElem? (i := 1194) (by decide +kernel), List.mem_of_getElem? (i := 1800) (by decide +kernel), List.mem_of_getElem? (i := 1801) (by decide +kernel)⟩
theorem lw_p103 : lw_okq (⟨"NounFastModel", "tries", "()V"⟩, 53) := ⟨⟨by decide +kernel, by decide +kernel⟩, List.mem_of_getElem? (i := 1194) (by decide +kernel), List.mem_of_getElem? (i := 1809) (by decide +kernel), List.mem_of_getElem? (i := 1810) (by decide +kernel)⟩
theorem lw_p104 : lw_okq (⟨"NounFastModel", "back", "()V"⟩, 53) := ⟨⟨by decide +kernel, by decide +kernel⟩, List.mem_of_getElem? (i := 1194) (by decide +kernel), List.mem_of_getElem? (i := 1813) (by decide +kernel), List.mem_of_getElem? (i := 1814) (by decide +kernel)⟩
theorem lw_p105 : lw_okq (⟨"NounFastModel", "bookLine", "()Z"⟩, 53) := ⟨⟨by decide +kernel, by decide +kernel⟩, List.mem_of_getElem? (i := 1194) (by decide +kernel), List.mem_of_getElem? (i := 1821) (by decide +kernel), List.mem_of_getElem? (i := 1822) (by decide +kernel)⟩
theorem lw_p106 : lw_okq (⟨"NounFastModel", "takesMarks", "(I)Z"⟩, 53) := ⟨⟨by decide +kernel, by decide +kernel⟩, List.mem_of_getElem? (i := 1194) (by decide +kernel), List.mem_of_getElem? (i := 1825) (by decide +kernel), List.mem_of_getElem? (i := 1826) (by decide +kernel)⟩
theorem lw_p107 : lw_okq (⟨"NounFastModel", "does", "(IIII)I"⟩, 53) := ⟨⟨by decide +kernel, by decide +kernel⟩, List.mem_of_getElem? (i := 1194) (by decide +kernel), List.mem_of_getElem? (i := 1829) (by decide +kernel), List.mem_of_getElem? (i := 1830) (by decide +kernel)⟩
theorem lw_p108 : lw_okq (⟨"NounFastModel", "nots", "()V"⟩, 53) := ⟨⟨by decide +kernel, by decide +kernel⟩, List.mem_of_getElem? (i := 1194) (by decide +kernel), List.mem_of_getElem? (i := 1841) (by decide +kernel), List.mem_of_getElem? (i := 1842) (by decide +kernel)⟩
theorem lw_p109 : lw_okq (⟨"NounFastModel", "code", "(III)V"⟩, 53) := ⟨⟨by decide +kernel, by decide +kernel⟩, List.mem_of_getElem? (i := 1194) (by decide +kernel), List.mem_of_getElem? (i := 1845) (by decide +kernel), List.mem_of_getElem? (i := 1846) (by decide +kernel)⟩
theorem lw_p110 : lw_okq (⟨"NounFastModel", "joins", "(I)V"⟩, 53) := ⟨⟨by decide +kernel, by decide +kernel⟩, List.mem_of_getElem? (i := 1194) (by decide +kernel), List.mem_of_getElem? (i := 1849) (by decide +kernel), List.mem_of_getElem? (i := 1850) (by decide +kernel)⟩
theorem lw_p111 : lw_okq (⟨"NounFastModel", "behind", "()Z"⟩, 53) := ⟨⟨by decide +kernel, by decide +kernel⟩, List.mem_of_getElem? (i := 1194) (by decide +kernel), List.mem_of_getElem? (i := 1853) (by decide +kernel), List.mem_of_getElem? (i := 1854) (by decide +kernel)⟩
def lw_privs_7 : List (MethodName × Nat) := [(⟨"NounFastModel", "meantBy", "(II)I"⟩, 53), (⟨"NounFastModel", "spells", "(J)V"⟩, 53), (⟨"NounFastModel", "lays", "(I)V"⟩, 53), (⟨"NounFastModel", "says", "(J)V"⟩, 53), (⟨"NounFastModel", "draws", "(II)I"⟩, 53), (⟨"NounFastModel", "drawPerson", "(I)V"⟩, 53), (⟨"NounFastModel", "draw", "(I)I"⟩, 53), (⟨"NounFastModel", "tries", "()V"⟩, 53), (⟨"NounFastModel", "back", "()V"⟩, 53), (⟨"NounFastModel", "bookLine", "()Z"⟩, 53), (⟨"NounFastModel", "takesMarks", "(I)Z"⟩, 53), (⟨"NounFastModel", "does", "(IIII)I"⟩, 53), (⟨"NounFastModel", "nots", "()V"⟩, 53), (⟨"NounFastModel", "code", "(III)V"⟩, 53), (⟨"NounFastModel", "joins", "(I)V"⟩, 53), (⟨"NounFastModel", "behind", "()Z"⟩, 53)]
theorem lw_r7 : ∀ q ∈ lw_privs_7, lw_okq q := List.forall_mem_cons.mpr ⟨lw_p96, List.forall_mem_cons.mpr ⟨lw_p97, List.forall_mem_cons.mpr ⟨lw_p98, List.forall_mem_cons.mpr ⟨lw_p99, List.forall_mem_cons.mpr ⟨lw_p100, List.forall_mem_cons.mpr ⟨lw_p101, List.forall_mem_cons.mpr ⟨lw_p102, List.forall_mem_cons.mpr ⟨lw_p103, List.forall_mem_cons.mpr ⟨lw_p104, List.forall_mem_cons.mpr ⟨lw_p105, List.forall_mem_cons.mpr ⟨lw_p106, List.forall_mem_cons.mpr ⟨lw_p107, List.forall_mem_cons.mpr ⟨lw_p108, List.forall_mem_cons.mpr ⟨lw_p109, List.forall_mem_cons.mpr ⟨lw_p110, List.forall_mem_cons.mpr ⟨lw_p111, fun _ h => absurd h List.not_mem_nil⟩⟩⟩⟩⟩⟩⟩⟩⟩⟩⟩⟩⟩⟩⟩⟩
theorem lw_p112 : lw_okq (⟨"NounFastModel", "operand", "()Z"⟩, 53) := ⟨⟨by decide +kernel, by decide +kernel⟩, List.mem_of_getElem? (i := 1194) (by decide +kernel), List.mem_of_getElem? (i := 1857) (by decide +kernel), List.mem_of_getElem? (i := 1858) (by decide +kernel)⟩
theorem lw_p113 : lw_okq (⟨"NounFastModel", "leafOf", "()I"⟩, 53) := ⟨⟨by decide +kernel, by decide +kernel⟩, List.mem_of_getElem? (i := 1194) (by decide +kernel), List.mem_of_getElem? (i := 1861) (by decide +kernel), List.mem_of_getElem? (i := 1862) (by decide +kernel)⟩
theorem lw_p114 : lw_okq (⟨"NounFastModel", "isSaid", "(I)Z"⟩, 53) := ⟨⟨by decide +kernel, by decide +kernel⟩, List.mem_of_getElem? (i := 1194) (by decide +kernel), List.mem_of_getElem? (i := 1869) (by decide +kernel), List.mem_of_getElem? (i := 1870) (by decide +kernel)⟩
theorem lw_p115 : lw_okq (⟨"NounFastModel", "isLeaf", "(IIII)Z"⟩, 53) := ⟨⟨by decide +kernel, by decide +kernel⟩, List.mem_of_getElem? (i := 1194) (by decide +kernel), List.mem_of_getElem? (i := 1873) (by decide +kernel), List.mem_of_getElem? (i := 1874) (by decide +kernel)⟩
def lw_privs_8 : List (MethodName × Nat) := [(⟨"NounFastModel", "operand", "()Z"⟩, 53), (⟨"NounFastModel", "leafOf", "()I"⟩, 53), (⟨"NounFastModel", "isSaid", "(I)Z"⟩, 53), (⟨"NounFastModel", "isLeaf", "(IIII)Z"⟩, 53)]
theorem lw_r8 : ∀ q ∈ lw_privs_8, lw_okq q := List.forall_mem_cons.mpr ⟨lw_p112, List.forall_mem_cons.mpr ⟨lw_p113, List.forall_mem_cons.mpr ⟨lw_p114, List.forall_mem_cons.mpr ⟨lw_p115, fun _ h => absurd h List.not_mem_nil⟩⟩⟩⟩
def lw_privs : List (MethodName × Nat) := lw_privs_1 ++ (lw_privs_2 ++ (lw_privs_3 ++ (lw_privs_4 ++ (lw_privs_5 ++ (lw_privs_6 ++ (lw_privs_7 ++ (lw_privs_8)))))))
def lw_tbl : List Cond := k2_sels lw_privs ++ tables_1
theorem lw_privs_ok : ∀ q ∈ lw_privs, lw_okq q := by
  show ∀ q ∈ lw_privs_1 ++ (lw_privs_2 ++ (lw_privs_3 ++ (lw_privs_4 ++ (lw_privs_5 ++ (lw_privs_6 ++ (lw_privs_7 ++ (lw_privs_8))))))), lw_okq q
  exact List.forall_mem_append.mpr ⟨lw_r1, List.forall_mem_append.mpr ⟨lw_r2, List.forall_mem_append.mpr ⟨lw_r3, List.forall_mem_append.mpr ⟨lw_r4, List.forall_mem_append.mpr ⟨lw_r5, List.forall_mem_append.mpr ⟨lw_r6, List.forall_mem_append.mpr ⟨lw_r7, lw_r8⟩⟩⟩⟩⟩⟩⟩
end
section
def RX0 : String := "NounFast$Book"
def TX0 : u_T := fun k => match k with
  | 0 => ("NounFast$Book", "verbs", "[I", true)
  | 1 => ("NounFast$Book", "actors", "[I", true)
  | 2 => ("NounFast$Book", "objects", "[I", true)
  | 3 => ("NounFast$Book", "sayings", "[I", true)
  | 4 => ("NounFast$Book", "lines", "I", false)
  | _ => ("NounFast$Book", "report", "[I", true)
def tyX0 : Nat → FieldType := fun k => match k with
  | 0 => .array .int
  | 1 => .array .int
  | 2 => .array .int
  | 3 => .array .int
  | 4 => .int
  | _ => .array .int
theorem nmX0 : ∀ a, a < 6 → ∀ b, b < 6 → a ≠ b → (TX0 a).2.1 ≠ (TX0 b).2.1 := by decide +kernel
theorem tyX0_ok : ∀ k, k < 6 → parseFieldDescriptor (TX0 k).2.2.1 = some (tyX0 k) := by decide +kernel
abbrev cX0_init : ByteArray := prog_2_method_1_code
def yX0_init : MethodName := ⟨RX0, "<init>", "()V"⟩
abbrev cX0_read : ByteArray := prog_2_method_2_code
def yX0_read : MethodName := ⟨RX0, "read", "(LNounFast$Text;LNounFast$City;)V"⟩
abbrev cX0_readLine : ByteArray := prog_2_method_3_code
def yX0_readLine : MethodName := ⟨RX0, "readLine", "(LNounFast$Text;LNounFast$City;)V"⟩
abbrev cX0_readAct : ByteArray := prog_2_method_4_code
def yX0_readAct : MethodName := ⟨RX0, "readAct", "(LNounFast$Text;LNounFast$City;)V"⟩
abbrev cX0_sortBehind : ByteArray := prog_2_method_5_code
def yX0_sortBehind : MethodName := ⟨RX0, "sortBehind", "(I)I"⟩
abbrev cX0_readSaying : ByteArray := prog_2_method_6_code
def yX0_readSaying : MethodName := ⟨RX0, "readSaying", "(LNounFast$Text;LNounFast$City;)I"⟩
abbrev cX0_judge : ByteArray := prog_2_method_7_code
def yX0_judge : MethodName := ⟨RX0, "judge", "(LNounFast$Scene;)I"⟩
abbrev cX0_liveLine : ByteArray := prog_2_method_8_code
def yX0_liveLine : MethodName := ⟨RX0, "liveLine", "(LNounFast$Scene;I)I"⟩
abbrev cX0_because : ByteArray := prog_2_method_9_code
def yX0_because : MethodName := ⟨RX0, "because", "(II)I"⟩
abbrev cX0_liveDays : ByteArray := prog_2_method_10_code
def yX0_liveDays : MethodName := ⟨RX0, "liveDays", "(LNounFast$Scene;I)I"⟩
abbrev cX0_tell : ByteArray := prog_2_method_11_code
def yX0_tell : MethodName := ⟨RX0, "tell", "(I)I"⟩
def RX1 : String := "NounFast$City"
def TX1 : u_T := fun k => match k with
  | 0 => ("NounFast$City", "counts", "[I", true)
  | 1 => ("NounFast$City", "names", "[J", true)
  | 2 => ("NounFast$City", "marks", "[I", true)
  | 3 => ("NounFast$City", "thingPlace", "[I", true)
  | 4 => ("NounFast$City", "personPlace", "[I", true)
  | 5 => ("NounFast$City", "coins", "[I", true)
  | 6 => ("NounFast$City", "knows", "[I", true)
  | 7 => ("NounFast$City", "foreigners", "I", false)
  | _ => ("NounFast$City", "settled", "I", false)
def tyX1 : Nat → FieldType := fun k => match k with
  | 0 => .array .int
  | 1 => .array .long
  | 2 => .array .int
  | 3 => .array .int
  | 4 => .array .int
  | 5 => .array .int
  | 6 => .array .int
  | 7 => .int
  | _ => .int
theorem nmX1 : ∀ a, a < 9 → ∀ b, b < 9 → a ≠ b → (TX1 a).2.1 ≠ (TX1 b).2.1 := by decide +kernel
theorem tyX1_ok : ∀ k, k < 9 → parseFieldDescriptor (TX1 k).2.2.1 = some (tyX1 k) := by decide +kernel
abbrev cX1_init : ByteArray := prog_3_method_1_code
def yX1_init : MethodName := ⟨RX1, "<init>", "()V"⟩
abbrev cX1_has : ByteArray := prog_3_method_2_code
def yX1_has : MethodName := ⟨RX1, "has", "(II)Z"⟩
abbrev cX1_hasMarks : ByteArray := prog_3_method_3_code
def yX1_hasMarks : MethodName := ⟨RX1, "hasMarks", "(I)Z"⟩
abbrev cX1_isForeign : ByteArray := prog_3_method_4_code
def yX1_isForeign : MethodName := ⟨RX1, "isForeign", "(I)Z"⟩
abbrev cX1_nameOf : ByteArray := prog_3_method_5_code
def yX1_nameOf : MethodName := ⟨RX1, "nameOf", "(II)J"⟩
abbrev cX1_find : ByteArray := prog_3_method_6_code
def yX1_find : MethodName := ⟨RX1, "find", "(J)I"⟩
abbrev cX1_toldHere : ByteArray := prog_3_method_7_code
def yX1_toldHere : MethodName := ⟨RX1, "toldHere", "(LNounFast$Text;I)I"⟩
abbrev cX1_read : ByteArray := prog_3_method_8_code
def yX1_read : MethodName := ⟨RX1, "read", "(LNounFast$Text;)I"⟩
abbrev cX1_readLine : ByteArray := prog_3_method_9_code
def yX1_readLine : MethodName := ⟨RX1, "readLine", "(LNounFast$Text;)V"⟩
abbrev cX1_readNew : ByteArray := prog_3_method_10_code
def yX1_readNew : MethodName := ⟨RX1, "readNew", "(LNounFast$Text;I)V"⟩
abbrev cX1_readPerson : ByteArray := prog_3_method_11_code
def yX1_readPerson : MethodName := ⟨RX1, "readPerson", "(LNounFast$Text;I)V"⟩
abbrev cX1_readPair : ByteArray := prog_3_method_12_code
def yX1_readPair : MethodName := ⟨RX1, "readPair", "(LNounFast$Text;I[I)V"⟩
abbrev cX1_readSetting : ByteArray := prog_3_method_13_code
def yX1_readSetting : MethodName := ⟨RX1, "readSetting", "(LNounFast$Text;I)V"⟩
def RX2 : String := "NounFast$Clue"
def TX2 : u_T := fun k => match k with
  | 0 => ("NounFast$Clue", "fitted", "[I", true)
  | 1 => ("NounFast$Clue", "sure", "I", false)
  | _ => ("NounFast$Clue", "next", "I", false)
def tyX2 : Nat → FieldType := fun k => match k with
  | 0 => .array .int
  | 1 => .int
  | _ => .int
theorem nmX2 : ∀ a, a < 3 → ∀ b, b < 3 → a ≠ b → (TX2 a).2.1 ≠ (TX2 b).2.1 := by decide +kernel
theorem tyX2_ok : ∀ k, k < 3 → parseFieldDescriptor (TX2 k).2.2.1 = some (tyX2 k) := by decide +kernel
abbrev cX2_init : ByteArray := prog_4_method_1_code
def yX2_init : MethodName := ⟨RX2, "<init>", "()V"⟩
abbrev cX2_hear : ByteArray := prog_4_method_2_code
def yX2_hear : MethodName := ⟨RX2, "hear", "(LNounFast$Tape;LNounFast$Scene;)I"⟩
abbrev cX2_isTold : ByteArray := prog_4_method_3_code
def yX2_isTold : MethodName := ⟨RX2, "isTold", "(LNounFast$Tape;LNounFast$Scene;)Z"⟩
abbrev cX2_isJustSo : ByteArray := prog_4_method_4_code
def yX2_isJustSo : MethodName := ⟨RX2, "isJustSo", "(LNounFast$Tape;LNounFast$Scene;II)Z"⟩
abbrev cX2_countFitting : ByteArray := prog_4_method_5_code
def yX2_countFitting : MethodName := ⟨RX2, "countFitting", "(LNounFast$Scene;II)V"⟩
abbrev cX2_mostTelling : ByteArray := prog_4_method_6_code
def yX2_mostTelling : MethodName := ⟨RX2, "mostTelling", "(LNounFast$Scene;I)I"⟩
def RX3 : String := "NounFast$Dice"
def TX3 : u_T := fun k => match k with
  | _ => ("NounFast$Dice", "x", "I", false)
def tyX3 : Nat → FieldType := fun k => match k with
  | _ => .int
theorem nmX3 : ∀ a, a < 1 → ∀ b, b < 1 → a ≠ b → (TX3 a).2.1 ≠ (TX3 b).2.1 := by decide +kernel
theorem tyX3_ok : ∀ k, k < 1 → parseFieldDescriptor (TX3 k).2.2.1 = some (tyX3 k) := by decide +kernel
abbrev cX3_init : ByteArray := prog_5_method_1_code
def yX3_init : MethodName := ⟨RX3, "<init>", "()V"⟩
abbrev cX3_draw : ByteArray := prog_5_method_2_code
def yX3_draw : MethodName := ⟨RX3, "draw", "(I)I"⟩
abbrev cX3_live : ByteArray := prog_5_method_3_code
def yX3_live : MethodName := ⟨RX3, "live", "(LNounFast$Scene;I)I"⟩
abbrev cX3_takeTurn : ByteArray := prog_5_method_4_code
def yX3_takeTurn : MethodName := ⟨RX3, "takeTurn", "(LNounFast$Scene;I)V"⟩
abbrev cX3_dropFirst : ByteArray := prog_5_method_5_code
def yX3_dropFirst : MethodName := ⟨RX3, "dropFirst", "(LNounFast$Scene;I)V"⟩
def RX4 : String := "NounFast$History"
def TX4 : u_T := fun k => match k with
  | 0 => ("NounFast$History", "scenes", "[LNounFast$Scene;", true)
  | 1 => ("NounFast$History", "first", "I", false)
  | _ => ("NounFast$History", "size", "I", false)
def tyX4 : Nat → FieldType := fun k => match k with
  | 0 => .array (.object "NounFast$Scene")
  | 1 => .int
  | _ => .int
theorem nmX4 : ∀ a, a < 3 → ∀ b, b < 3 → a ≠ b → (TX4 a).2.1 ≠ (TX4 b).2.1 := by decide +kernel
theorem tyX4_ok : ∀ k, k < 3 → parseFieldDescriptor (TX4 k).2.2.1 = some (tyX4 k) := by decide +kernel
abbrev cX4_init : ByteArray := prog_6_method_1_code
def yX4_init : MethodName := ⟨RX4, "<init>", "()V"⟩
abbrev cX4_slot : ByteArray := prog_6_method_2_code
def yX4_slot : MethodName := ⟨RX4, "slot", "(I)I"⟩
abbrev cX4_clear : ByteArray := prog_6_method_3_code
def yX4_clear : MethodName := ⟨RX4, "clear", "()V"⟩
abbrev cX4_prepare : ByteArray := prog_6_method_4_code
def yX4_prepare : MethodName := ⟨RX4, "prepare", "(LNounFast$Scene;)V"⟩
abbrev cX4_keep : ByteArray := prog_6_method_5_code
def yX4_keep : MethodName := ⟨RX4, "keep", "()V"⟩
abbrev cX4_takeBack : ByteArray := prog_6_method_6_code
def yX4_takeBack : MethodName := ⟨RX4, "takeBack", "(LNounFast$Scene;)I"⟩
def RX5 : String := "NounFast$Minds"
def TX5 : u_T := fun k => match k with
  | _ => ("", "", "", false)
def tyX5 : Nat → FieldType := fun k => match k with
  | _ => .int
theorem nmX5 : ∀ a, a < 0 → ∀ b, b < 0 → a ≠ b → (TX5 a).2.1 ≠ (TX5 b).2.1 := by decide +kernel
theorem tyX5_ok : ∀ k, k < 0 → parseFieldDescriptor (TX5 k).2.2.1 = some (tyX5 k) := by decide +kernel
abbrev cX5_leastSaying : ByteArray := prog_7_method_2_code
def yX5_leastSaying : MethodName := ⟨RX5, "leastSaying", "(LNounFast$Scene;II)I"⟩
abbrev cX5_isShorter : ByteArray := prog_7_method_3_code
def yX5_isShorter : MethodName := ⟨RX5, "isShorter", "(II)Z"⟩
abbrev cX5_twinOf : ByteArray := prog_7_method_4_code
def yX5_twinOf : MethodName := ⟨RX5, "twinOf", "(LNounFast$Scene;III)I"⟩
abbrev cX5_slips : ByteArray := prog_7_method_5_code
def yX5_slips : MethodName := ⟨RX5, "slips", "(LNounFast$Scene;II)I"⟩
abbrev cX5_leastCover : ByteArray := prog_7_method_6_code
def yX5_leastCover : MethodName := ⟨RX5, "leastCover", "(LNounFast$Scene;I)I"⟩
abbrev cX5_hasTwins : ByteArray := prog_7_method_7_code
def yX5_hasTwins : MethodName := ⟨RX5, "hasTwins", "(LNounFast$Scene;II)Z"⟩
abbrev cX5_leastCant : ByteArray := prog_7_method_8_code
def yX5_leastCant : MethodName := ⟨RX5, "leastCant", "(LNounFast$Scene;IIII)I"⟩
abbrev cX5_hoursOfNews : ByteArray := prog_7_method_9_code
def yX5_hoursOfNews : MethodName := ⟨RX5, "hoursOfNews", "(LNounFast$Scene;I)I"⟩
abbrev cX5_toldBy : ByteArray := prog_7_method_10_code
def yX5_toldBy : MethodName := ⟨RX5, "toldBy", "(LNounFast$Scene;I)I"⟩
abbrev cX5_hearersOf : ByteArray := prog_7_method_11_code
def yX5_hearersOf : MethodName := ⟨RX5, "hearersOf", "(LNounFast$Scene;I)I"⟩
def RX6 : String := "NounFast$Rest"
def TX6 : u_T := fun k => match k with
  | 0 => ("NounFast$Rest", "saidBy", "[I", true)
  | _ => ("NounFast$Rest", "owner", "[I", true)
def tyX6 : Nat → FieldType := fun k => match k with
  | 0 => .array .int
  | _ => .array .int
theorem nmX6 : ∀ a, a < 2 → ∀ b, b < 2 → a ≠ b → (TX6 a).2.1 ≠ (TX6 b).2.1 := by decide +kernel
theorem tyX6_ok : ∀ k, k < 2 → parseFieldDescriptor (TX6 k).2.2.1 = some (tyX6 k) := by decide +kernel
abbrev cX6_init : ByteArray := prog_8_method_1_code
def yX6_init : MethodName := ⟨RX6, "<init>", "()V"⟩
abbrev cX6_settle : ByteArray := prog_8_method_2_code
def yX6_settle : MethodName := ⟨RX6, "settle", "(LNounFast$Scene;I)I"⟩
abbrev cX6_havingMark : ByteArray := prog_8_method_3_code
def yX6_havingMark : MethodName := ⟨RX6, "havingMark", "(LNounFast$Scene;II)I"⟩
abbrev cX6_sayThings : ByteArray := prog_8_method_4_code
def yX6_sayThings : MethodName := ⟨RX6, "sayThings", "(LNounFast$Scene;I)Z"⟩
abbrev cX6_leastOwning : ByteArray := prog_8_method_5_code
def yX6_leastOwning : MethodName := ⟨RX6, "leastOwning", "(II)I"⟩
abbrev cX6_giveMarks : ByteArray := prog_8_method_6_code
def yX6_giveMarks : MethodName := ⟨RX6, "giveMarks", "(LNounFast$Scene;I)Z"⟩
abbrev cX6_firstSaid : ByteArray := prog_8_method_7_code
def yX6_firstSaid : MethodName := ⟨RX6, "firstSaid", "(II)I"⟩
def RX7 : String := "NounFast$Scene"
def TX7 : u_T := fun k => match k with
  | 0 => ("NounFast$Scene", "city", "LNounFast$City;", false)
  | 1 => ("NounFast$Scene", "thingPlace", "[I", true)
  | 2 => ("NounFast$Scene", "carrier", "[I", true)
  | 3 => ("NounFast$Scene", "named", "[I", true)
  | 4 => ("NounFast$Scene", "personPlace", "[I", true)
  | 5 => ("NounFast$Scene", "coins", "[I", true)
  | 6 => ("NounFast$Scene", "knows", "[I", true)
  | 7 => ("NounFast$Scene", "day", "I", false)
  | 8 => ("NounFast$Scene", "guesses", "I", false)
  | _ => ("NounFast$Scene", "fines", "I", false)
def tyX7 : Nat → FieldType := fun k => match k with
  | 0 => .object "NounFast$City"
  | 1 => .array .int
  | 2 => .array .int
  | 3 => .array .int
  | 4 => .array .int
  | 5 => .array .int
  | 6 => .array .int
  | 7 => .int
  | 8 => .int
  | _ => .int
theorem nmX7 : ∀ a, a < 10 → ∀ b, b < 10 → a ≠ b → (TX7 a).2.1 ≠ (TX7 b).2.1 := by decide +kernel
theorem tyX7_ok : ∀ k, k < 10 → parseFieldDescriptor (TX7 k).2.2.1 = some (tyX7 k) := by decide +kernel
abbrev cX7_init : ByteArray := prog_9_method_1_code
def yX7_init : MethodName := ⟨RX7, "<init>", "(LNounFast$City;)V"⟩
abbrev cX7_begin : ByteArray := prog_9_method_2_code
def yX7_begin : MethodName := ⟨RX7, "begin", "(LNounFast$City;)V"⟩
abbrev cX7_copyFrom : ByteArray := prog_9_method_3_code
def yX7_copyFrom : MethodName := ⟨RX7, "copyFrom", "(LNounFast$Scene;)V"⟩
abbrev cX7_has : ByteArray := prog_9_method_4_code
def yX7_has : MethodName := ⟨RX7, "has", "(II)Z"⟩
abbrev cX7_isFast : ByteArray := prog_9_method_5_code
def yX7_isFast : MethodName := ⟨RX7, "isFast", "()Z"⟩
abbrev cX7_isLying : ByteArray := prog_9_method_6_code
def yX7_isLying : MethodName := ⟨RX7, "isLying", "(I)Z"⟩
abbrev cX7_placeOf : ByteArray := prog_9_method_7_code
def yX7_placeOf : MethodName := ⟨RX7, "placeOf", "(I)I"⟩
abbrev cX7_lyingAt : ByteArray := prog_9_method_8_code
def yX7_lyingAt : MethodName := ⟨RX7, "lyingAt", "(I)I"⟩
abbrev cX7_carriedBy : ByteArray := prog_9_method_9_code
def yX7_carriedBy : MethodName := ⟨RX7, "carriedBy", "(I)I"⟩
abbrev cX7_allCarried : ByteArray := prog_9_method_10_code
def yX7_allCarried : MethodName := ⟨RX7, "allCarried", "()I"⟩
abbrev cX7_allCoins : ByteArray := prog_9_method_11_code
def yX7_allCoins : MethodName := ⟨RX7, "allCoins", "()I"⟩
abbrev cX7_isFitting : ByteArray := prog_9_method_12_code
def yX7_isFitting : MethodName := ⟨RX7, "isFitting", "(III)Z"⟩
abbrev cX7_fitting : ByteArray := prog_9_method_13_code
def yX7_fitting : MethodName := ⟨RX7, "fitting", "(III)I"⟩
abbrev cX7_areTogether : ByteArray := prog_9_method_14_code
def yX7_areTogether : MethodName := ⟨RX7, "areTogether", "(II)Z"⟩
abbrev cX7_liesBefore : ByteArray := prog_9_method_15_code
def yX7_liesBefore : MethodName := ⟨RX7, "liesBefore", "(II)Z"⟩
abbrev cX7_walk : ByteArray := prog_9_method_16_code
def yX7_walk : MethodName := ⟨RX7, "walk", "(II)I"⟩
abbrev cX7_request : ByteArray := prog_9_method_17_code
def yX7_request : MethodName := ⟨RX7, "request", "(III)I"⟩
abbrev cX7_callByName : ByteArray := prog_9_method_18_code
def yX7_callByName : MethodName := ⟨RX7, "callByName", "(II)I"⟩
abbrev cX7_pointAt : ByteArray := prog_9_method_19_code
def yX7_pointAt : MethodName := ⟨RX7, "pointAt", "(II)I"⟩
abbrev cX7_drop : ByteArray := prog_9_method_20_code
def yX7_drop : MethodName := ⟨RX7, "drop", "(II)I"⟩
abbrev cX7_study : ByteArray := prog_9_method_21_code
def yX7_study : MethodName := ⟨RX7, "study", "(II)I"⟩
abbrev cX7_daysLeft : ByteArray := prog_9_method_22_code
def yX7_daysLeft : MethodName := ⟨RX7, "daysLeft", "()I"⟩
abbrev cX7_passDays : ByteArray := prog_9_method_23_code
def yX7_passDays : MethodName := ⟨RX7, "passDays", "(I)I"⟩
abbrev cX7_passDay : ByteArray := prog_9_method_24_code
def yX7_passDay : MethodName := ⟨RX7, "passDay", "()V"⟩
def RX8 : String := "NounFast$Sentence"
def TX8 : u_T := fun k => match k with
  | 0 => ("NounFast$Sentence", "parts", "[I", true)
  | 1 => ("NounFast$Sentence", "objects", "[I", true)
  | 2 => ("NounFast$Sentence", "signs", "[I", true)
  | 3 => ("NounFast$Sentence", "stack", "[I", true)
  | 4 => ("NounFast$Sentence", "size", "I", false)
  | _ => ("NounFast$Sentence", "ones", "I", false)
def tyX8 : Nat → FieldType := fun k => match k with
  | 0 => .array .int
  | 1 => .array .int
  | 2 => .array .int
  | 3 => .array .int
  | 4 => .int
  | _ => .int
theorem nmX8 : ∀ a, a < 6 → ∀ b, b < 6 → a ≠ b → (TX8 a).2.1 ≠ (TX8 b).2.1 := by decide +kernel
theorem tyX8_ok : ∀ k, k < 6 → parseFieldDescriptor (TX8 k).2.2.1 = some (tyX8 k) := by decide +kernel
abbrev cX8_init : ByteArray := prog_10_method_1_code
def yX8_init : MethodName := ⟨RX8, "<init>", "()V"⟩
abbrev cX8_readCondition : ByteArray := prog_10_method_2_code
def yX8_readCondition : MethodName := ⟨RX8, "readCondition", "(LNounFast$Text;LNounFast$City;I)V"⟩
abbrev cX8_readAll : ByteArray := prog_10_method_3_code
def yX8_readAll : MethodName := ⟨RX8, "readAll", "(LNounFast$Text;LNounFast$City;I)V"⟩
abbrev cX8_readOne : ByteArray := prog_10_method_4_code
def yX8_readOne : MethodName := ⟨RX8, "readOne", "(LNounFast$Text;LNounFast$City;I)V"⟩
abbrev cX8_readPlain : ByteArray := prog_10_method_5_code
def yX8_readPlain : MethodName := ⟨RX8, "readPlain", "(LNounFast$Text;LNounFast$City;I)V"⟩
abbrev cX8_sortBehind : ByteArray := prog_10_method_6_code
def yX8_sortBehind : MethodName := ⟨RX8, "sortBehind", "(I)I"⟩
abbrev cX8_add : ByteArray := prog_10_method_7_code
def yX8_add : MethodName := ⟨RX8, "add", "(III)V"⟩
abbrev cX8_thingsIn : ByteArray := prog_10_method_8_code
def yX8_thingsIn : MethodName := ⟨RX8, "thingsIn", "(LNounFast$Scene;)I"⟩
abbrev cX8_thingsOfPart : ByteArray := prog_10_method_9_code
def yX8_thingsOfPart : MethodName := ⟨RX8, "thingsOfPart", "(LNounFast$Scene;I)I"⟩
abbrev cX8_holds : ByteArray := prog_10_method_10_code
def yX8_holds : MethodName := ⟨RX8, "holds", "(LNounFast$Scene;II)Z"⟩
abbrev cX8_isSo : ByteArray := prog_10_method_11_code
def yX8_isSo : MethodName := ⟨RX8, "isSo", "(III)Z"⟩
def RX9 : String := "NounFast$Tape"
def TX9 : u_T := fun k => match k with
  | 0 => ("NounFast$Tape", "bytes", "[B", true)
  | _ => ("NounFast$Tape", "length", "I", false)
def tyX9 : Nat → FieldType := fun k => match k with
  | 0 => .array .byte
  | _ => .int
theorem nmX9 : ∀ a, a < 2 → ∀ b, b < 2 → a ≠ b → (TX9 a).2.1 ≠ (TX9 b).2.1 := by decide +kernel
theorem tyX9_ok : ∀ k, k < 2 → parseFieldDescriptor (TX9 k).2.2.1 = some (tyX9 k) := by decide +kernel
abbrev cX9_init : ByteArray := prog_11_method_1_code
def yX9_init : MethodName := ⟨RX9, "<init>", "()V"⟩
abbrev cX9_append : ByteArray := prog_11_method_2_code
def yX9_append : MethodName := ⟨RX9, "append", "(I)V"⟩
abbrev cX9_at : ByteArray := prog_11_method_3_code
def yX9_at : MethodName := ⟨RX9, "at", "(I)I"⟩
def RX10 : String := "NounFast$Text"
def TX10 : u_T := fun k => match k with
  | 0 => ("NounFast$Text", "tape", "LNounFast$Tape;", true)
  | 1 => ("NounFast$Text", "kinds", "[I", true)
  | 2 => ("NounFast$Text", "starts", "[I", true)
  | 3 => ("NounFast$Text", "values", "[J", true)
  | 4 => ("NounFast$Text", "size", "I", false)
  | 5 => ("NounFast$Text", "index", "I", false)
  | 6 => ("NounFast$Text", "kind", "I", false)
  | 7 => ("NounFast$Text", "start", "I", false)
  | 8 => ("NounFast$Text", "value", "J", false)
  | 9 => ("NounFast$Text", "fault", "I", false)
  | _ => ("NounFast$Text", "faultPlace", "I", false)
def tyX10 : Nat → FieldType := fun k => match k with
  | 0 => .object "NounFast$Tape"
  | 1 => .array .int
  | 2 => .array .int
  | 3 => .array .long
  | 4 => .int
  | 5 => .int
  | 6 => .int
  | 7 => .int
  | 8 => .long
  | 9 => .int
  | _ => .int
theorem nmX10 : ∀ a, a < 11 → ∀ b, b < 11 → a ≠ b → (TX10 a).2.1 ≠ (TX10 b).2.1 := by decide +kernel
theorem tyX10_ok : ∀ k, k < 11 → parseFieldDescriptor (TX10 k).2.2.1 = some (tyX10 k) := by decide +kernel
abbrev cX10_init : ByteArray := prog_12_method_1_code
def yX10_init : MethodName := ⟨RX10, "<init>", "(LNounFast$Tape;)V"⟩
abbrev cX10_open : ByteArray := prog_12_method_2_code
def yX10_open : MethodName := ⟨RX10, "open", "(I)V"⟩
abbrev cX10_behindBlanks : ByteArray := prog_12_method_3_code
def yX10_behindBlanks : MethodName := ⟨RX10, "behindBlanks", "(I)I"⟩
abbrev cX10_readToken : ByteArray := prog_12_method_4_code
def yX10_readToken : MethodName := ⟨RX10, "readToken", "(I)I"⟩
abbrev cX10_readRun : ByteArray := prog_12_method_5_code
def yX10_readRun : MethodName := ⟨RX10, "readRun", "(I)I"⟩
abbrev cX10_wordNumber : ByteArray := prog_12_method_6_code
def yX10_wordNumber : MethodName := ⟨RX10, "wordNumber", "(II)I"⟩
abbrev cX10_wordIn : ByteArray := prog_12_method_7_code
def yX10_wordIn : MethodName := ⟨RX10, "wordIn", "(Ljava/lang/String;II)I"⟩
abbrev cX10_isSpelled : ByteArray := prog_12_method_8_code
def yX10_isSpelled : MethodName := ⟨RX10, "isSpelled", "(Ljava/lang/String;III)Z"⟩
abbrev cX10_isLetter : ByteArray := prog_12_method_9_code
def yX10_isLetter : MethodName := ⟨RX10, "isLetter", "(I)Z"⟩
abbrev cX10_isDigit : ByteArray := prog_12_method_10_code
def yX10_isDigit : MethodName := ⟨RX10, "isDigit", "(I)Z"⟩
abbrev cX10_step : ByteArray := prog_12_method_11_code
def yX10_step : MethodName := ⟨RX10, "step", "()V"⟩
abbrev cX10_fail : ByteArray := prog_12_method_12_code
def yX10_fail : MethodName := ⟨RX10, "fail", "(I)V"⟩
abbrev cX10_isWord : ByteArray := prog_12_method_13_code
def yX10_isWord : MethodName := ⟨RX10, "isWord", "(I)Z"⟩
abbrev cX10_plainWord : ByteArray := prog_12_method_14_code
def yX10_plainWord : MethodName := ⟨RX10, "plainWord", "()I"⟩
abbrev cX10_takeEnd : ByteArray := prog_12_method_15_code
def yX10_takeEnd : MethodName := ⟨RX10, "takeEnd", "()V"⟩
abbrev cX10_takeSign : ByteArray := prog_12_method_16_code
def yX10_takeSign : MethodName := ⟨RX10, "takeSign", "(I)V"⟩
abbrev cX10_takeNumber : ByteArray := prog_12_method_17_code
def yX10_takeNumber : MethodName := ⟨RX10, "takeNumber", "(II)I"⟩
def RX11 : String := "NounFast"
def TX11 : u_T := fun k => match k with
  | 0 => ("NounFast", "tape", "LNounFast$Tape;", true)
  | 1 => ("NounFast", "text", "LNounFast$Text;", true)
  | 2 => ("NounFast", "scene", "LNounFast$Scene;", true)
  | 3 => ("NounFast", "trial", "LNounFast$Scene;", true)
  | 4 => ("NounFast", "history", "LNounFast$History;", true)
  | 5 => ("NounFast", "reader", "LNounFast$Book;", true)
  | 6 => ("NounFast", "calm", "LNounFast$Rest;", true)
  | 7 => ("NounFast", "clue", "LNounFast$Clue;", true)
  | 8 => ("NounFast", "dice", "LNounFast$Dice;", true)
  | 9 => ("NounFast", "imageScenes", "[LNounFast$Scene;", true)
  | 10 => ("NounFast", "imageSentences", "[LNounFast$Sentence;", true)
  | 11 => ("NounFast", "phraseBytes", "[B", true)
  | 12 => ("NounFast", "phraseLength", "I", false)
  | 13 => ("NounFast", "judgement", "LNounFast$Sentence;", false)
  | 14 => ("NounFast", "latestFault", "I", false)
  | 15 => ("NounFast", "latestSaying", "I", false)
  | 16 => ("NounFast", "latestCovering", "I", false)
  | _ => ("NounFast", "latestCanting", "I", false)
def tyX11 : Nat → FieldType := fun k => match k with
  | 0 => .object "NounFast$Tape"
  | 1 => .object "NounFast$Text"
  | 2 => .object "NounFast$Scene"
  | 3 => .object "NounFast$Scene"
  | 4 => .object "NounFast$History"
  | 5 => .object "NounFast$Book"
  | 6 => .object "NounFast$Rest"
  | 7 => .object "NounFast$Clue"
  | 8 => .object "NounFast$Dice"
  | 9 => .array (.object "NounFast$Scene")
  | 10 => .array (.object "NounFast$Sentence")
  | 11 => .array .byte
  | 12 => .int
  | 13 => .object "NounFast$Sentence"
  | 14 => .int
  | 15 => .int
  | 16 => .int
  | _ => .int
theorem nmX11 : ∀ a, a < 18 → ∀ b, b < 18 → a ≠ b → (TX11 a).2.1 ≠ (TX11 b).2.1 := by decide +kernel
theorem tyX11_ok : ∀ k, k < 18 → parseFieldDescriptor (TX11 k).2.2.1 = some (tyX11 k) := by decide +kernel
abbrev cX11_init : ByteArray := prog_1_method_1_code
def yX11_init : MethodName := ⟨RX11, "<init>", "()V"⟩
abbrev cX11_feed : ByteArray := prog_1_method_2_code
def yX11_feed : MethodName := ⟨RX11, "feed", "(IIIII)I"⟩
abbrev cX11_end : ByteArray := prog_1_method_3_code
def yX11_end : MethodName := ⟨RX11, "end", "(I)Z"⟩
abbrev cX11_city : ByteArray := prog_1_method_4_code
def yX11_city : MethodName := ⟨RX11, "city", "()I"⟩
abbrev cX11_fault : ByteArray := prog_1_method_5_code
def yX11_fault : MethodName := ⟨RX11, "fault", "()I"⟩
abbrev cX11_thing : ByteArray := prog_1_method_6_code
def yX11_thing : MethodName := ⟨RX11, "thing", "(II)I"⟩
abbrev cX11_person : ByteArray := prog_1_method_7_code
def yX11_person : MethodName := ⟨RX11, "person", "(II)I"⟩
abbrev cX11_lies : ByteArray := prog_1_method_8_code
def yX11_lies : MethodName := ⟨RX11, "lies", "(I)I"⟩
abbrev cX11_now : ByteArray := prog_1_method_9_code
def yX11_now : MethodName := ⟨RX11, "now", "(I)I"⟩
abbrev cX11_go : ByteArray := prog_1_method_10_code
def yX11_go : MethodName := ⟨RX11, "go", "(II)I"⟩
abbrev cX11_ask : ByteArray := prog_1_method_11_code
def yX11_ask : MethodName := ⟨RX11, "ask", "(III)I"⟩
abbrev cX11_name : ByteArray := prog_1_method_12_code
def yX11_name : MethodName := ⟨RX11, "name", "(II)I"⟩
abbrev cX11_point : ByteArray := prog_1_method_13_code
def yX11_point : MethodName := ⟨RX11, "point", "(II)I"⟩
abbrev cX11_put : ByteArray := prog_1_method_14_code
def yX11_put : MethodName := ⟨RX11, "put", "(II)I"⟩
abbrev cX11_learn : ByteArray := prog_1_method_15_code
def yX11_learn : MethodName := ⟨RX11, "learn", "(II)I"⟩
abbrev cX11_days : ByteArray := prog_1_method_16_code
def yX11_days : MethodName := ⟨RX11, "days", "(I)I"⟩
abbrev cX11_undo : ByteArray := prog_1_method_17_code
def yX11_undo : MethodName := ⟨RX11, "undo", "()I"⟩
abbrev cX11_fits : ByteArray := prog_1_method_18_code
def yX11_fits : MethodName := ⟨RX11, "fits", "(III)I"⟩
abbrev cX11_say : ByteArray := prog_1_method_19_code
def yX11_say : MethodName := ⟨RX11, "say", "(II)I"⟩
abbrev cX11_saying : ByteArray := prog_1_method_20_code
def yX11_saying : MethodName := ⟨RX11, "saying", "()I"⟩
abbrev cX11_twin : ByteArray := prog_1_method_21_code
def yX11_twin : MethodName := ⟨RX11, "twin", "(II)I"⟩
abbrev cX11_slip : ByteArray := prog_1_method_22_code
def yX11_slip : MethodName := ⟨RX11, "slip", "(III)I"⟩
abbrev cX11_cover : ByteArray := prog_1_method_23_code
def yX11_cover : MethodName := ⟨RX11, "cover", "(I)I"⟩
abbrev cX11_covering : ByteArray := prog_1_method_24_code
def yX11_covering : MethodName := ⟨RX11, "covering", "()I"⟩
abbrev cX11_spoken : ByteArray := prog_1_method_25_code
def yX11_spoken : MethodName := ⟨RX11, "spoken", "()I"⟩
abbrev cX11_surely : ByteArray := prog_1_method_26_code
def yX11_surely : MethodName := ⟨RX11, "surely", "()I"⟩
abbrev cX11_show : ByteArray := prog_1_method_27_code
def yX11_show : MethodName := ⟨RX11, "show", "()I"⟩
abbrev cX11_cant : ByteArray := prog_1_method_28_code
def yX11_cant : MethodName := ⟨RX11, "cant", "(IIII)I"⟩
abbrev cX11_canting : ByteArray := prog_1_method_29_code
def yX11_canting : MethodName := ⟨RX11, "canting", "()I"⟩
abbrev cX11_rest : ByteArray := prog_1_method_30_code
def yX11_rest : MethodName := ⟨RX11, "rest", "(I)I"⟩
abbrev cX11_rested : ByteArray := prog_1_method_31_code
def yX11_rested : MethodName := ⟨RX11, "rested", "(I)I"⟩
abbrev cX11_news : ByteArray := prog_1_method_32_code
def yX11_news : MethodName := ⟨RX11, "news", "(I)I"⟩
abbrev cX11_phrase : ByteArray := prog_1_method_33_code
def yX11_phrase : MethodName := ⟨RX11, "phrase", "(I)I"⟩
abbrev cX11_byteAt : ByteArray := prog_1_method_34_code
def yX11_byteAt : MethodName := ⟨RX11, "byteAt", "(I)I"⟩
abbrev cX11_drawn : ByteArray := prog_1_method_35_code
def yX11_drawn : MethodName := ⟨RX11, "drawn", "(II)I"⟩
abbrev cX11_odds : ByteArray := prog_1_method_36_code
def yX11_odds : MethodName := ⟨RX11, "odds", "(III)I"⟩
abbrev cX11_book : ByteArray := prog_1_method_37_code
def yX11_book : MethodName := ⟨RX11, "book", "(I)I"⟩
abbrev cX11_told : ByteArray := prog_1_method_38_code
def yX11_told : MethodName := ⟨RX11, "told", "(I)I"⟩
abbrev cX11_sentence : ByteArray := prog_1_method_39_code
def yX11_sentence : MethodName := ⟨RX11, "sentence", "()I"⟩
abbrev cX11_said : ByteArray := prog_1_method_40_code
def yX11_said : MethodName := ⟨RX11, "said", "(I)I"⟩
abbrev cX11_image : ByteArray := prog_1_method_41_code
def yX11_image : MethodName := ⟨RX11, "image", "(I)Z"⟩
abbrev cX11_restore : ByteArray := prog_1_method_42_code
def yX11_restore : MethodName := ⟨RX11, "restore", "(I)Z"⟩
abbrev cX11_count : ByteArray := prog_1_method_43_code
def yX11_count : MethodName := ⟨RX11, "count", "(I)I"⟩
abbrev cX11_closeText : ByteArray := prog_1_method_44_code
def yX11_closeText : MethodName := ⟨RX11, "closeText", "()V"⟩
abbrev cX11_kept : ByteArray := prog_1_method_45_code
def yX11_kept : MethodName := ⟨RX11, "kept", "(I)I"⟩
abbrev cX11_keptDays : ByteArray := prog_1_method_46_code
def yX11_keptDays : MethodName := ⟨RX11, "keptDays", "(I)I"⟩
abbrev cX11_spellRoundabout : ByteArray := prog_1_method_47_code
def yX11_spellRoundabout : MethodName := ⟨RX11, "spellRoundabout", "(I)V"⟩
abbrev cX11_spellName : ByteArray := prog_1_method_48_code
def yX11_spellName : MethodName := ⟨RX11, "spellName", "(J)V"⟩
abbrev cX11_spellByte : ByteArray := prog_1_method_49_code
def yX11_spellByte : MethodName := ⟨RX11, "spellByte", "(I)V"⟩
abbrev cX11_greatestShared : ByteArray := prog_1_method_50_code
def yX11_greatestShared : MethodName := ⟨RX11, "greatestShared", "(II)I"⟩
abbrev cX11_bitAt : ByteArray := prog_1_method_51_code
def yX11_bitAt : MethodName := ⟨RX11, "bitAt", "(II)I"⟩
abbrev cX11_firstBit : ByteArray := prog_1_method_52_code
def yX11_firstBit : MethodName := ⟨RX11, "firstBit", "(I)I"⟩
def RX12 : String := "NounFastModel"
def TX12 : u_T := fun k => match k with
  | 0 => ("NounFastModel", "thrown", "I", false)
  | 1 => ("NounFastModel", "tape", "[B", true)
  | 2 => ("NounFastModel", "length", "I", false)
  | 3 => ("NounFastModel", "size", "I", false)
  | 4 => ("NounFastModel", "p", "I", false)
  | 5 => ("NounFastModel", "limit", "I", false)
  | 6 => ("NounFastModel", "s", "[I", true)
  | 7 => ("NounFastModel", "h", "[I", true)
  | 8 => ("NounFastModel", "read", "[I", true)
  | 9 => ("NounFastModel", "names", "[J", true)
  | 10 => ("NounFastModel", "reserved", "[J", true)
  | 11 => ("NounFastModel", "token", "I", false)
  | 12 => ("NounFastModel", "at", "I", false)
  | 13 => ("NounFastModel", "span", "I", false)
  | 14 => ("NounFastModel", "number", "I", false)
  | 15 => ("NounFastModel", "fault", "I", false)
  | 16 => ("NounFastModel", "faultAt", "I", false)
  | 17 => ("NounFastModel", "word", "J", false)
  | 18 => ("NounFastModel", "got", "I", false)
  | 19 => ("NounFastModel", "lines", "I", false)
  | 20 => ("NounFastModel", "onces", "I", false)
  | 21 => ("NounFastModel", "undone", "[I", true)
  | 22 => ("NounFastModel", "before", "[I", true)
  | 23 => ("NounFastModel", "undoMany", "I", false)
  | 24 => ("NounFastModel", "sayingSet", "I", false)
  | 25 => ("NounFastModel", "coverSet", "I", false)
  | 26 => ("NounFastModel", "cantSet", "I", false)
  | 27 => ("NounFastModel", "hasSaying", "Z", false)
  | 28 => ("NounFastModel", "hasCover", "Z", false)
  | 29 => ("NounFastModel", "hasCant", "Z", false)
  | 30 => ("NounFastModel", "surelySet", "I", false)
  | 31 => ("NounFastModel", "showThing", "I", false)
  | 32 => ("NounFastModel", "hasSpoken", "Z", false)
  | 33 => ("NounFastModel", "means", "[I", true)
  | 34 => ("NounFastModel", "said0", "[I", true)
  | 35 => ("NounFastModel", "restedRow", "[I", true)
  | 36 => ("NounFastModel", "hasRest", "Z", false)
  | 37 => ("NounFastModel", "text", "[B", true)
  | 38 => ("NounFastModel", "textMany", "I", false)
  | 39 => ("NounFastModel", "seed", "I", false)
  | 40 => ("NounFastModel", "toldMany", "I", false)
  | 41 => ("NounFastModel", "toldAt", "[I", true)
  | 42 => ("NounFastModel", "hasTold", "Z", false)
  | 43 => ("NounFastModel", "stack", "[I", true)
  | 44 => ("NounFastModel", "codes", "I", false)
  | 45 => ("NounFastModel", "ones", "I", false)
  | 46 => ("NounFastModel", "top", "I", false)
  | 47 => ("NounFastModel", "deep", "I", false)
  | 48 => ("NounFastModel", "isWhole", "Z", false)
  | 49 => ("NounFastModel", "truths", "[Z", true)
  | 50 => ("NounFastModel", "imaged", "[I", true)
  | 51 => ("NounFastModel", "namesKept", "[J", true)
  | _ => ("NounFastModel", "areKept", "[Z", true)
def tyX12 : Nat → FieldType := fun k => match k with
  | 0 => .int
  | 1 => .array .byte
  | 2 => .int
  | 3 => .int
  | 4 => .int
  | 5 => .int
  | 6 => .array .int
  | 7 => .array .int
  | 8 => .array .int
  | 9 => .array .long
  | 10 => .array .long
  | 11 => .int
  | 12 => .int
  | 13 => .int
  | 14 => .int
  | 15 => .int
  | 16 => .int
  | 17 => .long
  | 18 => .int
  | 19 => .int
  | 20 => .int
  | 21 => .array .int
  | 22 => .array .int
  | 23 => .int
  | 24 => .int
  | 25 => .int
  | 26 => .int
  | 27 => .boolean
  | 28 => .boolean
  | 29 => .boolean
  | 30 => .int
  | 31 => .int
  | 32 => .boolean
  | 33 => .array .int
  | 34 => .array .int
  | 35 => .array .int
  | 36 => .boolean
  | 37 => .array .byte
  | 38 => .int
  | 39 => .int
  | 40 => .int
  | 41 => .array .int
  | 42 => .boolean
  | 43 => .array .int
  | 44 => .int
  | 45 => .int
  | 46 => .int
  | 47 => .int
  | 48 => .boolean
  | 49 => .array .boolean
  | 50 => .array .int
  | 51 => .array .long
  | _ => .array .boolean
theorem nmX12 : ∀ a, a < 53 → ∀ b, b < 53 → a ≠ b → (TX12 a).2.1 ≠ (TX12 b).2.1 := by decide +kernel
theorem tyX12_ok : ∀ k, k < 53 → parseFieldDescriptor (TX12 k).2.2.1 = some (tyX12 k) := by decide +kernel
abbrev cX12_throwsIf : ByteArray := prog_14_method_2_code
def yX12_throwsIf : MethodName := ⟨RX12, "throwsIf", "(Z)Z"⟩
abbrev cX12_feed : ByteArray := prog_14_method_3_code
def yX12_feed : MethodName := ⟨RX12, "feed", "(IIIII)I"⟩
abbrev cX12_four : ByteArray := prog_14_method_4_code
def yX12_four : MethodName := ⟨RX12, "four", "(I)V"⟩
abbrev cX12_end : ByteArray := prog_14_method_5_code
def yX12_end : MethodName := ⟨RX12, "end", "(I)Z"⟩
abbrev cX12_taken : ByteArray := prog_14_method_6_code
def yX12_taken : MethodName := ⟨RX12, "taken", "(I)V"⟩
abbrev cX12_isIn : ByteArray := prog_14_method_7_code
def yX12_isIn : MethodName := ⟨RX12, "isIn", "(III)Z"⟩
abbrev cX12_bitOf : ByteArray := prog_14_method_8_code
def yX12_bitOf : MethodName := ⟨RX12, "bitOf", "(II)Z"⟩
abbrev cX12_lesser : ByteArray := prog_14_method_9_code
def yX12_lesser : MethodName := ⟨RX12, "lesser", "(II)I"⟩
abbrev cX12_greater : ByteArray := prog_14_method_10_code
def yX12_greater : MethodName := ⟨RX12, "greater", "(II)I"⟩
abbrev cX12_bits : ByteArray := prog_14_method_11_code
def yX12_bits : MethodName := ⟨RX12, "bits", "(I)I"⟩
abbrev cX12_firstOf : ByteArray := prog_14_method_12_code
def yX12_firstOf : MethodName := ⟨RX12, "firstOf", "(I)I"⟩
abbrev cX12_octet : ByteArray := prog_14_method_13_code
def yX12_octet : MethodName := ⟨RX12, "octet", "(I)I"⟩
abbrev cX12_init : ByteArray := prog_14_method_14_code
def yX12_init : MethodName := ⟨RX12, "<init>", "()V"⟩
abbrev cX12_clears : ByteArray := prog_14_method_15_code
def yX12_clears : MethodName := ⟨RX12, "clears", "()V"⟩
abbrev cX12_peek : ByteArray := prog_14_method_16_code
def yX12_peek : MethodName := ⟨RX12, "peek", "()I"⟩
abbrev cX12_isSmall : ByteArray := prog_14_method_17_code
def yX12_isSmall : MethodName := ⟨RX12, "isSmall", "(I)Z"⟩
abbrev cX12_isDigit : ByteArray := prog_14_method_18_code
def yX12_isDigit : MethodName := ⟨RX12, "isDigit", "(I)Z"⟩
abbrev cX12_next : ByteArray := prog_14_method_19_code
def yX12_next : MethodName := ⟨RX12, "next", "()V"⟩
abbrev cX12_bad : ByteArray := prog_14_method_20_code
def yX12_bad : MethodName := ⟨RX12, "bad", "(I)Z"⟩
abbrev cX12_isWord : ByteArray := prog_14_method_21_code
def yX12_isWord : MethodName := ⟨RX12, "isWord", "(J)Z"⟩
abbrev cX12_isSign : ByteArray := prog_14_method_22_code
def yX12_isSign : MethodName := ⟨RX12, "isSign", "(I)Z"⟩
abbrev cX12_sign : ByteArray := prog_14_method_23_code
def yX12_sign : MethodName := ⟨RX12, "sign", "(I)Z"⟩
abbrev cX12_isName : ByteArray := prog_14_method_24_code
def yX12_isName : MethodName := ⟨RX12, "isName", "()Z"⟩
abbrev cX12_takes : ByteArray := prog_14_method_25_code
def yX12_takes : MethodName := ⟨RX12, "takes", "(II)Z"⟩
abbrev cX12_puts : ByteArray := prog_14_method_26_code
def yX12_puts : MethodName := ⟨RX12, "puts", "(III)Z"⟩
abbrev cX12_find : ByteArray := prog_14_method_27_code
def yX12_find : MethodName := ⟨RX12, "find", "(II)I"⟩
abbrev cX12_fresh : ByteArray := prog_14_method_28_code
def yX12_fresh : MethodName := ⟨RX12, "fresh", "(I)Z"⟩
abbrev cX12_looksAt : ByteArray := prog_14_method_29_code
def yX12_looksAt : MethodName := ⟨RX12, "looksAt", "(II)Z"⟩
abbrev cX12_takesName : ByteArray := prog_14_method_30_code
def yX12_takesName : MethodName := ⟨RX12, "takesName", "(II)Z"⟩
abbrev cX12_once : ByteArray := prog_14_method_31_code
def yX12_once : MethodName := ⟨RX12, "once", "(IIII)Z"⟩
abbrev cX12_line : ByteArray := prog_14_method_32_code
def yX12_line : MethodName := ⟨RX12, "line", "()Z"⟩
abbrev cX12_readNew : ByteArray := prog_14_method_33_code
def yX12_readNew : MethodName := ⟨RX12, "readNew", "(III)Z"⟩
abbrev cX12_readThing : ByteArray := prog_14_method_34_code
def yX12_readThing : MethodName := ⟨RX12, "readThing", "()Z"⟩
abbrev cX12_readPerson : ByteArray := prog_14_method_35_code
def yX12_readPerson : MethodName := ⟨RX12, "readPerson", "()Z"⟩
abbrev cX12_readTie : ByteArray := prog_14_method_36_code
def yX12_readTie : MethodName := ⟨RX12, "readTie", "(III)Z"⟩
abbrev cX12_city : ByteArray := prog_14_method_37_code
def yX12_city : MethodName := ⟨RX12, "city", "()I"⟩
abbrev cX12_fault : ByteArray := prog_14_method_38_code
def yX12_fault : MethodName := ⟨RX12, "fault", "()I"⟩
abbrev cX12_isThing : ByteArray := prog_14_method_39_code
def yX12_isThing : MethodName := ⟨RX12, "isThing", "(I)Z"⟩
abbrev cX12_isPerson : ByteArray := prog_14_method_40_code
def yX12_isPerson : MethodName := ⟨RX12, "isPerson", "(I)Z"⟩
abbrev cX12_isPlace : ByteArray := prog_14_method_41_code
def yX12_isPlace : MethodName := ⟨RX12, "isPlace", "(I)Z"⟩
abbrev cX12_isSaying : ByteArray := prog_14_method_42_code
def yX12_isSaying : MethodName := ⟨RX12, "isSaying", "(I)Z"⟩
abbrev cX12_isCarried : ByteArray := prog_14_method_43_code
def yX12_isCarried : MethodName := ⟨RX12, "isCarried", "(I)Z"⟩
abbrev cX12_placeOf : ByteArray := prog_14_method_44_code
def yX12_placeOf : MethodName := ⟨RX12, "placeOf", "(I)I"⟩
abbrev cX12_lyingAt : ByteArray := prog_14_method_45_code
def yX12_lyingAt : MethodName := ⟨RX12, "lyingAt", "(I)I"⟩
abbrev cX12_hasAll : ByteArray := prog_14_method_46_code
def yX12_hasAll : MethodName := ⟨RX12, "hasAll", "(II)Z"⟩
abbrev cX12_fitting : ByteArray := prog_14_method_47_code
def yX12_fitting : MethodName := ⟨RX12, "fitting", "(II)I"⟩
abbrev cX12_carriedBy : ByteArray := prog_14_method_48_code
def yX12_carriedBy : MethodName := ⟨RX12, "carriedBy", "(I)I"⟩
abbrev cX12_isFast : ByteArray := prog_14_method_49_code
def yX12_isFast : MethodName := ⟨RX12, "isFast", "()Z"⟩
abbrev cX12_carriedSet : ByteArray := prog_14_method_50_code
def yX12_carriedSet : MethodName := ⟨RX12, "carriedSet", "()I"⟩
abbrev cX12_thing : ByteArray := prog_14_method_51_code
def yX12_thing : MethodName := ⟨RX12, "thing", "(II)I"⟩
abbrev cX12_person : ByteArray := prog_14_method_52_code
def yX12_person : MethodName := ⟨RX12, "person", "(II)I"⟩
abbrev cX12_lies : ByteArray := prog_14_method_53_code
def yX12_lies : MethodName := ⟨RX12, "lies", "(I)I"⟩
abbrev cX12_now : ByteArray := prog_14_method_54_code
def yX12_now : MethodName := ⟨RX12, "now", "(I)I"⟩
abbrev cX12_areApart : ByteArray := prog_14_method_55_code
def yX12_areApart : MethodName := ⟨RX12, "areApart", "(II)Z"⟩
abbrev cX12_whyAsk : ByteArray := prog_14_method_56_code
def yX12_whyAsk : MethodName := ⟨RX12, "whyAsk", "(III)I"⟩
abbrev cX12_asks : ByteArray := prog_14_method_57_code
def yX12_asks : MethodName := ⟨RX12, "asks", "(III)V"⟩
abbrev cX12_isNear : ByteArray := prog_14_method_58_code
def yX12_isNear : MethodName := ⟨RX12, "isNear", "(II)Z"⟩
abbrev cX12_isFined : ByteArray := prog_14_method_59_code
def yX12_isFined : MethodName := ⟨RX12, "isFined", "(I)Z"⟩
abbrev cX12_whyName : ByteArray := prog_14_method_60_code
def yX12_whyName : MethodName := ⟨RX12, "whyName", "(II)I"⟩
abbrev cX12_namesOne : ByteArray := prog_14_method_61_code
def yX12_namesOne : MethodName := ⟨RX12, "namesOne", "(II)V"⟩
abbrev cX12_whyPoint : ByteArray := prog_14_method_62_code
def yX12_whyPoint : MethodName := ⟨RX12, "whyPoint", "(II)I"⟩
abbrev cX12_pointsAt : ByteArray := prog_14_method_63_code
def yX12_pointsAt : MethodName := ⟨RX12, "pointsAt", "(II)V"⟩
abbrev cX12_putsDown : ByteArray := prog_14_method_64_code
def yX12_putsDown : MethodName := ⟨RX12, "putsDown", "(II)V"⟩
abbrev cX12_whyLearn : ByteArray := prog_14_method_65_code
def yX12_whyLearn : MethodName := ⟨RX12, "whyLearn", "(II)I"⟩
abbrev cX12_learnsOne : ByteArray := prog_14_method_66_code
def yX12_learnsOne : MethodName := ⟨RX12, "learnsOne", "(II)V"⟩
abbrev cX12_day : ByteArray := prog_14_method_67_code
def yX12_day : MethodName := ⟨RX12, "day", "()V"⟩
abbrev cX12_goesOn : ByteArray := prog_14_method_68_code
def yX12_goesOn : MethodName := ⟨RX12, "goesOn", "(I)I"⟩
abbrev cX12_go : ByteArray := prog_14_method_69_code
def yX12_go : MethodName := ⟨RX12, "go", "(II)I"⟩
abbrev cX12_ask : ByteArray := prog_14_method_70_code
def yX12_ask : MethodName := ⟨RX12, "ask", "(III)I"⟩
abbrev cX12_name : ByteArray := prog_14_method_71_code
def yX12_name : MethodName := ⟨RX12, "name", "(II)I"⟩
abbrev cX12_point : ByteArray := prog_14_method_72_code
def yX12_point : MethodName := ⟨RX12, "point", "(II)I"⟩
abbrev cX12_put : ByteArray := prog_14_method_73_code
def yX12_put : MethodName := ⟨RX12, "put", "(II)I"⟩
abbrev cX12_learn : ByteArray := prog_14_method_74_code
def yX12_learn : MethodName := ⟨RX12, "learn", "(II)I"⟩
abbrev cX12_days : ByteArray := prog_14_method_75_code
def yX12_days : MethodName := ⟨RX12, "days", "(I)I"⟩
abbrev cX12_keep : ByteArray := prog_14_method_76_code
def yX12_keep : MethodName := ⟨RX12, "keep", "()V"⟩
abbrev cX12_undo : ByteArray := prog_14_method_77_code
def yX12_undo : MethodName := ⟨RX12, "undo", "()I"⟩
abbrev cX12_tries : ByteArray := prog_14_method_78_code
def yX12_tries : MethodName := ⟨RX12, "tries", "()V"⟩
abbrev cX12_back : ByteArray := prog_14_method_79_code
def yX12_back : MethodName := ⟨RX12, "back", "()V"⟩
abbrev cX12_fits : ByteArray := prog_14_method_80_code
def yX12_fits : MethodName := ⟨RX12, "fits", "(III)I"⟩
abbrev cX12_say : ByteArray := prog_14_method_81_code
def yX12_say : MethodName := ⟨RX12, "say", "(II)I"⟩
abbrev cX12_saying : ByteArray := prog_14_method_82_code
def yX12_saying : MethodName := ⟨RX12, "saying", "()I"⟩
abbrev cX12_twinsOf : ByteArray := prog_14_method_83_code
def yX12_twinsOf : MethodName := ⟨RX12, "twinsOf", "(II)I"⟩
abbrev cX12_twin : ByteArray := prog_14_method_84_code
def yX12_twin : MethodName := ⟨RX12, "twin", "(II)I"⟩
abbrev cX12_slip : ByteArray := prog_14_method_85_code
def yX12_slip : MethodName := ⟨RX12, "slip", "(III)I"⟩
abbrev cX12_isCover : ByteArray := prog_14_method_86_code
def yX12_isCover : MethodName := ⟨RX12, "isCover", "(II)Z"⟩
abbrev cX12_cover : ByteArray := prog_14_method_87_code
def yX12_cover : MethodName := ⟨RX12, "cover", "(I)I"⟩
abbrev cX12_covering : ByteArray := prog_14_method_88_code
def yX12_covering : MethodName := ⟨RX12, "covering", "()I"⟩
abbrev cX12_isFit : ByteArray := prog_14_method_89_code
def yX12_isFit : MethodName := ⟨RX12, "isFit", "(II)Z"⟩
abbrev cX12_isSpoken : ByteArray := prog_14_method_90_code
def yX12_isSpoken : MethodName := ⟨RX12, "isSpoken", "(I)Z"⟩
abbrev cX12_spoken : ByteArray := prog_14_method_91_code
def yX12_spoken : MethodName := ⟨RX12, "spoken", "()I"⟩
abbrev cX12_surely : ByteArray := prog_14_method_92_code
def yX12_surely : MethodName := ⟨RX12, "surely", "()I"⟩
abbrev cX12_show : ByteArray := prog_14_method_93_code
def yX12_show : MethodName := ⟨RX12, "show", "()I"⟩
abbrev cX12_cant : ByteArray := prog_14_method_94_code
def yX12_cant : MethodName := ⟨RX12, "cant", "(IIII)I"⟩
abbrev cX12_canting : ByteArray := prog_14_method_95_code
def yX12_canting : MethodName := ⟨RX12, "canting", "()I"⟩
abbrev cX12_saysAnew : ByteArray := prog_14_method_96_code
def yX12_saysAnew : MethodName := ⟨RX12, "saysAnew", "(I)Z"⟩
abbrev cX12_meantBy : ByteArray := prog_14_method_97_code
def yX12_meantBy : MethodName := ⟨RX12, "meantBy", "(II)I"⟩
abbrev cX12_meansAnew : ByteArray := prog_14_method_98_code
def yX12_meansAnew : MethodName := ⟨RX12, "meansAnew", "(I)Z"⟩
abbrev cX12_rest : ByteArray := prog_14_method_99_code
def yX12_rest : MethodName := ⟨RX12, "rest", "(I)I"⟩
abbrev cX12_rested : ByteArray := prog_14_method_100_code
def yX12_rested : MethodName := ⟨RX12, "rested", "(I)I"⟩
abbrev cX12_news : ByteArray := prog_14_method_101_code
def yX12_news : MethodName := ⟨RX12, "news", "(I)I"⟩
abbrev cX12_lays : ByteArray := prog_14_method_102_code
def yX12_lays : MethodName := ⟨RX12, "lays", "(I)V"⟩
abbrev cX12_spells : ByteArray := prog_14_method_103_code
def yX12_spells : MethodName := ⟨RX12, "spells", "(J)V"⟩
abbrev cX12_says : ByteArray := prog_14_method_104_code
def yX12_says : MethodName := ⟨RX12, "says", "(J)V"⟩
abbrev cX12_phrase : ByteArray := prog_14_method_105_code
def yX12_phrase : MethodName := ⟨RX12, "phrase", "(I)I"⟩
abbrev cX12_byteAt : ByteArray := prog_14_method_106_code
def yX12_byteAt : MethodName := ⟨RX12, "byteAt", "(I)I"⟩
abbrev cX12_draw : ByteArray := prog_14_method_107_code
def yX12_draw : MethodName := ⟨RX12, "draw", "(I)I"⟩
abbrev cX12_drawPerson : ByteArray := prog_14_method_108_code
def yX12_drawPerson : MethodName := ⟨RX12, "drawPerson", "(I)V"⟩
abbrev cX12_draws : ByteArray := prog_14_method_109_code
def yX12_draws : MethodName := ⟨RX12, "draws", "(II)I"⟩
abbrev cX12_drawn : ByteArray := prog_14_method_110_code
def yX12_drawn : MethodName := ⟨RX12, "drawn", "(II)I"⟩
abbrev cX12_odds : ByteArray := prog_14_method_111_code
def yX12_odds : MethodName := ⟨RX12, "odds", "(III)I"⟩
abbrev cX12_bookLine : ByteArray := prog_14_method_112_code
def yX12_bookLine : MethodName := ⟨RX12, "bookLine", "()Z"⟩
abbrev cX12_takesMarks : ByteArray := prog_14_method_113_code
def yX12_takesMarks : MethodName := ⟨RX12, "takesMarks", "(I)Z"⟩
abbrev cX12_does : ByteArray := prog_14_method_114_code
def yX12_does : MethodName := ⟨RX12, "does", "(IIII)I"⟩
abbrev cX12_book : ByteArray := prog_14_method_115_code
def yX12_book : MethodName := ⟨RX12, "book", "(I)I"⟩
abbrev cX12_told : ByteArray := prog_14_method_116_code
def yX12_told : MethodName := ⟨RX12, "told", "(I)I"⟩
abbrev cX12_code : ByteArray := prog_14_method_117_code
def yX12_code : MethodName := ⟨RX12, "code", "(III)V"⟩
abbrev cX12_joins : ByteArray := prog_14_method_118_code
def yX12_joins : MethodName := ⟨RX12, "joins", "(I)V"⟩
abbrev cX12_nots : ByteArray := prog_14_method_119_code
def yX12_nots : MethodName := ⟨RX12, "nots", "()V"⟩
abbrev cX12_leafOf : ByteArray := prog_14_method_120_code
def yX12_leafOf : MethodName := ⟨RX12, "leafOf", "()I"⟩
abbrev cX12_operand : ByteArray := prog_14_method_121_code
def yX12_operand : MethodName := ⟨RX12, "operand", "()Z"⟩
abbrev cX12_behind : ByteArray := prog_14_method_122_code
def yX12_behind : MethodName := ⟨RX12, "behind", "()Z"⟩
abbrev cX12_sentence : ByteArray := prog_14_method_123_code
def yX12_sentence : MethodName := ⟨RX12, "sentence", "()I"⟩
abbrev cX12_isLeaf : ByteArray := prog_14_method_124_code
def yX12_isLeaf : MethodName := ⟨RX12, "isLeaf", "(IIII)Z"⟩
abbrev cX12_isSaid : ByteArray := prog_14_method_125_code
def yX12_isSaid : MethodName := ⟨RX12, "isSaid", "(I)Z"⟩
abbrev cX12_said : ByteArray := prog_14_method_126_code
def yX12_said : MethodName := ⟨RX12, "said", "(I)I"⟩
abbrev cX12_image : ByteArray := prog_14_method_127_code
def yX12_image : MethodName := ⟨RX12, "image", "(I)Z"⟩
abbrev cX12_restore : ByteArray := prog_14_method_128_code
def yX12_restore : MethodName := ⟨RX12, "restore", "(I)Z"⟩
abbrev cX12_count : ByteArray := prog_14_method_129_code
def yX12_count : MethodName := ⟨RX12, "count", "(I)I"⟩
def RJx145de : String := "java/io/Serializable"
def TJx145de : u_T := fun k => match k with
  | _ => ("", "", "", false)
def tyJx145de : Nat → FieldType := fun k => match k with
  | _ => .int
theorem nmJx145de : ∀ a, a < 0 → ∀ b, b < 0 → a ≠ b → (TJx145de a).2.1 ≠ (TJx145de b).2.1 := by decide +kernel
theorem tyJx145de_ok : ∀ k, k < 0 → parseFieldDescriptor (TJx145de k).2.2.1 = some (tyJx145de k) := by decide +kernel
def RJx9f9b0 : String := "java/lang/CharSequence"
def TJx9f9b0 : u_T := fun k => match k with
  | _ => ("", "", "", false)
def tyJx9f9b0 : Nat → FieldType := fun k => match k with
  | _ => .int
theorem nmJx9f9b0 : ∀ a, a < 0 → ∀ b, b < 0 → a ≠ b → (TJx9f9b0 a).2.1 ≠ (TJx9f9b0 b).2.1 := by decide +kernel
theorem tyJx9f9b0_ok : ∀ k, k < 0 → parseFieldDescriptor (TJx9f9b0 k).2.2.1 = some (tyJx9f9b0 k) := by decide +kernel
def RJxb160c : String := "java/lang/Comparable"
def TJxb160c : u_T := fun k => match k with
  | _ => ("", "", "", false)
def tyJxb160c : Nat → FieldType := fun k => match k with
  | _ => .int
theorem nmJxb160c : ∀ a, a < 0 → ∀ b, b < 0 → a ≠ b → (TJxb160c a).2.1 ≠ (TJxb160c b).2.1 := by decide +kernel
theorem tyJxb160c_ok : ∀ k, k < 0 → parseFieldDescriptor (TJxb160c k).2.2.1 = some (tyJxb160c k) := by decide +kernel
def RJ6 : String := "java/lang/Integer"
def TJ6 : u_T := fun k => match k with
  | _ => ("", "", "", false)
def tyJ6 : Nat → FieldType := fun k => match k with
  | _ => .int
theorem nmJ6 : ∀ a, a < 0 → ∀ b, b < 0 → a ≠ b → (TJ6 a).2.1 ≠ (TJ6 b).2.1 := by decide +kernel
theorem tyJ6_ok : ∀ k, k < 0 → parseFieldDescriptor (TJ6 k).2.2.1 = some (tyJ6 k) := by decide +kernel
abbrev cJ6_lowestOneBit_0f7a4 : ByteArray := prog_19_method_46_code
def yJ6_lowestOneBit_0f7a4 : MethodName := ⟨RJ6, "lowestOneBit", "(I)I"⟩
abbrev cJ6_numberOfTrailingZeros_0f7a4 : ByteArray := prog_19_method_48_code
def yJ6_numberOfTrailingZeros_0f7a4 : MethodName := ⟨RJ6, "numberOfTrailingZeros", "(I)I"⟩
abbrev cJ6_bitCount_0f7a4 : ByteArray := prog_19_method_49_code
def yJ6_bitCount_0f7a4 : MethodName := ⟨RJ6, "bitCount", "(I)I"⟩
def RJ9 : String := "java/lang/Math"
def TJ9 : u_T := fun k => match k with
  | _ => ("", "", "", false)
def tyJ9 : Nat → FieldType := fun k => match k with
  | _ => .int
theorem nmJ9 : ∀ a, a < 0 → ∀ b, b < 0 → a ≠ b → (TJ9 a).2.1 ≠ (TJ9 b).2.1 := by decide +kernel
theorem tyJ9_ok : ∀ k, k < 0 → parseFieldDescriptor (TJ9 k).2.2.1 = some (tyJ9 k) := by decide +kernel
abbrev cJ9_floorMod_7cf53 : ByteArray := prog_20_method_50_code
def yJ9_floorMod_7cf53 : MethodName := ⟨RJ9, "floorMod", "(II)I"⟩
abbrev cJ9_max_7cf53 : ByteArray := prog_20_method_65_code
def yJ9_max_7cf53 : MethodName := ⟨RJ9, "max", "(II)I"⟩
abbrev cJ9_min_7cf53 : ByteArray := prog_20_method_69_code
def yJ9_min_7cf53 : MethodName := ⟨RJ9, "min", "(II)I"⟩
def RJ0 : String := "java/lang/String"
def TJ0 : u_T := fun k => match k with
  | _ => ("", "", "", false)
def tyJ0 : Nat → FieldType := fun k => match k with
  | _ => .int
theorem nmJ0 : ∀ a, a < 0 → ∀ b, b < 0 → a ≠ b → (TJ0 a).2.1 ≠ (TJ0 b).2.1 := by decide +kernel
theorem tyJ0_ok : ∀ k, k < 0 → parseFieldDescriptor (TJ0 k).2.2.1 = some (tyJ0 k) := by decide +kernel
abbrev cJ0_length_8abf5 : ByteArray := prog_22_method_54_code
def yJ0_length_8abf5 : MethodName := ⟨RJ0, "length", "()I"⟩
abbrev cJ0_charAt_5068e : ByteArray := prog_22_method_56_code
def yJ0_charAt_5068e : MethodName := ⟨RJ0, "charAt", "(I)C"⟩
abbrev cJ0_coder_7d493 : ByteArray := prog_22_method_152_code
def yJ0_coder_7d493 : MethodName := ⟨RJ0, "coder", "()B"⟩
abbrev cJ0_isLatin1_aae02 : ByteArray := prog_22_method_154_code
def yJ0_isLatin1_aae02 : MethodName := ⟨RJ0, "isLatin1", "()Z"⟩
abbrev cJ0_checkIndex_df160 : ByteArray := prog_22_method_155_code
def yJ0_checkIndex_df160 : MethodName := ⟨RJ0, "checkIndex", "(II)V"⟩
def RJ1 : String := "java/lang/StringLatin1"
def TJ1 : u_T := fun k => match k with
  | _ => ("", "", "", false)
def tyJ1 : Nat → FieldType := fun k => match k with
  | _ => .int
theorem nmJ1 : ∀ a, a < 0 → ∀ b, b < 0 → a ≠ b → (TJ1 a).2.1 ≠ (TJ1 b).2.1 := by decide +kernel
theorem tyJ1_ok : ∀ k, k < 0 → parseFieldDescriptor (TJ1 k).2.2.1 = some (tyJ1 k) := by decide +kernel
abbrev cJ1_charAt_3b067 : ByteArray := prog_23_method_2_code
def yJ1_charAt_3b067 : MethodName := ⟨RJ1, "charAt", "([BI)C"⟩
def RJ2 : String := "java/lang/StringUTF16"
def TJ2 : u_T := fun k => match k with
  | _ => ("", "", "", false)
def tyJ2 : Nat → FieldType := fun k => match k with
  | _ => .int
theorem nmJ2 : ∀ a, a < 0 → ∀ b, b < 0 → a ≠ b → (TJ2 a).2.1 ≠ (TJ2 b).2.1 := by decide +kernel
theorem tyJ2_ok : ∀ k, k < 0 → parseFieldDescriptor (TJ2 k).2.2.1 = some (tyJ2 k) := by decide +kernel
abbrev cJ2_getChar_3b067 : ByteArray := prog_24_method_5_code
def yJ2_getChar_3b067 : MethodName := ⟨RJ2, "getChar", "([BI)C"⟩
abbrev cJ2_length_9d52b : ByteArray := prog_24_method_6_code
def yJ2_length_9d52b : MethodName := ⟨RJ2, "length", "([B)I"⟩
abbrev cJ2_charAt_3b067 : ByteArray := prog_24_method_83_code
def yJ2_charAt_3b067 : MethodName := ⟨RJ2, "charAt", "([BI)C"⟩
abbrev cJ2_checkIndex_2214a : ByteArray := prog_24_method_91_code
def yJ2_checkIndex_2214a : MethodName := ⟨RJ2, "checkIndex", "(I[B)V"⟩
def RJ10 : String := "java/lang/System"
def TJ10 : u_T := fun k => match k with
  | _ => ("", "", "", false)
def tyJ10 : Nat → FieldType := fun k => match k with
  | _ => .int
theorem nmJ10 : ∀ a, a < 0 → ∀ b, b < 0 → a ≠ b → (TJ10 a).2.1 ≠ (TJ10 b).2.1 := by decide +kernel
theorem tyJ10_ok : ∀ k, k < 0 → parseFieldDescriptor (TJ10 k).2.2.1 = some (tyJ10 k) := by decide +kernel
def RJxfd54e : String := "java/lang/constant/Constable"
def TJxfd54e : u_T := fun k => match k with
  | _ => ("", "", "", false)
def tyJxfd54e : Nat → FieldType := fun k => match k with
  | _ => .int
theorem nmJxfd54e : ∀ a, a < 0 → ∀ b, b < 0 → a ≠ b → (TJxfd54e a).2.1 ≠ (TJxfd54e b).2.1 := by decide +kernel
theorem tyJxfd54e_ok : ∀ k, k < 0 → parseFieldDescriptor (TJxfd54e k).2.2.1 = some (tyJxfd54e k) := by decide +kernel
def RJx3cf43 : String := "java/lang/constant/ConstantDesc"
def TJx3cf43 : u_T := fun k => match k with
  | _ => ("", "", "", false)
def tyJx3cf43 : Nat → FieldType := fun k => match k with
  | _ => .int
theorem nmJx3cf43 : ∀ a, a < 0 → ∀ b, b < 0 → a ≠ b → (TJx3cf43 a).2.1 ≠ (TJx3cf43 b).2.1 := by decide +kernel
theorem tyJx3cf43_ok : ∀ k, k < 0 → parseFieldDescriptor (TJx3cf43 k).2.2.1 = some (tyJx3cf43 k) := by decide +kernel
def RJ3 : String := "jdk/internal/util/Preconditions"
def TJ3 : u_T := fun k => match k with
  | _ => ("", "", "", false)
def tyJ3 : Nat → FieldType := fun k => match k with
  | _ => .int
theorem nmJ3 : ∀ a, a < 0 → ∀ b, b < 0 → a ≠ b → (TJ3 a).2.1 ≠ (TJ3 b).2.1 := by decide +kernel
theorem tyJ3_ok : ∀ k, k < 0 → parseFieldDescriptor (TJ3 k).2.2.1 = some (tyJ3 k) := by decide +kernel
abbrev cJ3_checkIndex_8e157 : ByteArray := prog_30_method_11_code
def yJ3_checkIndex_8e157 : MethodName := ⟨RJ3, "checkIndex", "(IILjava/util/function/BiFunction;)I"⟩
def RL : String := "NounFastLaw"
abbrev cL_thing : ByteArray := method_3_code
def yL_thing : MethodName := ⟨RL, "thing", "(LNounFast;II[J)I"⟩
abbrev cL_person : ByteArray := method_4_code
def yL_person : MethodName := ⟨RL, "person", "(LNounFast;II[J)I"⟩
abbrev cL_slip : ByteArray := method_5_code
def yL_slip : MethodName := ⟨RL, "slip", "(LNounFast;III[J)I"⟩
abbrev cL_law : ByteArray := code
def yL_law : MethodName := ⟨RL, "law", "([I)Z"⟩
abbrev vwCl : List vw_C := [(RX0, TX0, 6), (RX1, TX1, 9), (RX2, TX2, 3), (RX3, TX3, 1), (RX4, TX4, 3), (RX6, TX6, 2), (RX7, TX7, 10), (RX8, TX8, 6), (RX9, TX9, 2), (RX10, TX10, 11), (RX11, TX11, 18), (RX12, TX12, 53)]
theorem inX0 : ∀ w ∈ u_ws RX0 TX0 6, w ∈ lw_tbl := by decide +kernel
theorem inX1 : ∀ w ∈ u_ws RX1 TX1 9, w ∈ lw_tbl := by decide +kernel
theorem inX2 : ∀ w ∈ u_ws RX2 TX2 3, w ∈ lw_tbl := by decide +kernel
theorem inX3 : ∀ w ∈ u_ws RX3 TX3 1, w ∈ lw_tbl := by decide +kernel
theorem inX4 : ∀ w ∈ u_ws RX4 TX4 3, w ∈ lw_tbl := by decide +kernel
theorem inX6 : ∀ w ∈ u_ws RX6 TX6 2, w ∈ lw_tbl := by decide +kernel
theorem inX7 : ∀ w ∈ u_ws RX7 TX7 10, w ∈ lw_tbl := by decide +kernel
theorem inX8 : ∀ w ∈ u_ws RX8 TX8 6, w ∈ lw_tbl := by decide +kernel
theorem inX9 : ∀ w ∈ u_ws RX9 TX9 2, w ∈ lw_tbl := by decide +kernel
theorem inX10 : ∀ w ∈ u_ws RX10 TX10 11, w ∈ lw_tbl := by decide +kernel
theorem inX11 : ∀ w ∈ u_ws RX11 TX11 18, w ∈ lw_tbl := by decide +kernel
theorem inX12 : ∀ w ∈ u_ws RX12 TX12 53, w ∈ lw_tbl := by decide +kernel
end
section
/-! the law's instructions, decoded -/
/-- pc, sort of step, instruction, its length -/
abbrev INS : Type := Nat × Nat × Instr × Nat
def d_chkL (cc : ByteArray) (x : List INS) : Bool := x.all (fun q => match decode cc q.1 with | .ok r => decide (r = (q.2.2.1, q.2.2.2)) | .error _ => false)
theorem d_app {cc : ByteArray} {x y : List INS} (h1 : d_chkL cc x = true) (h2 : d_chkL cc y = true) : d_chkL cc (x ++ y) = true := by
  unfold d_chkL at h1 h2 ⊢
  rw [List.all_append, h1, h2]; rfl
end
section
/-! plain facts on numbers and arrays, to paste: each family by itself; over the kit's rows on nI and upd -/
/-! ===== order of ints, in all its forms, and through longs ===== -/
theorem fa_lt (a b : Int32) : a < b ↔ a.toInt < b.toInt := Int32.lt_iff_toInt_lt
theorem fa_le (a b : Int32) : a ≤ b ↔ a.toInt ≤ b.toInt := Int32.le_iff_toInt_le
theorem fa_eq (a b : Int32) : a = b ↔ a.toInt = b.toInt := Int32.toInt_inj.symm
theorem fa_lt64 (a b : Int64) : a < b ↔ a.toInt < b.toInt := Int64.lt_iff_toInt_lt
theorem fa_le64 (a b : Int64) : a ≤ b ↔ a.toInt ≤ b.toInt := Int64.le_iff_toInt_le
theorem fa_eq64 (a b : Int64) : a = b ↔ a.toInt = b.toInt := Int64.toInt_inj.symm
/-- a comparison of two ints taken as longs -/
theorem fa_wide_lt (a b : Int32) : a.toInt64 < b.toInt64 ↔ a < b := by rw [fa_lt64, fa_lt, Int32.toInt_toInt64, Int32.toInt_toInt64]
theorem fa_wide_le (a b : Int32) : a.toInt64 ≤ b.toInt64 ↔ a ≤ b := by rw [fa_le64, fa_le, Int32.toInt_toInt64, Int32.toInt_toInt64]
theorem fa_wide_eq (a b : Int32) : a.toInt64 = b.toInt64 ↔ a = b := by rw [fa_eq64, fa_eq, Int32.toInt_toInt64, Int32.toInt_toInt64]
/-- one strict comparison gives all the others -/
theorem fa_of_lt {a b : Int32} (h : a < b) : a ≤ b ∧ ¬ b ≤ a ∧ ¬ b < a ∧ a ≠ b ∧ b ≠ a := by
  rw [fa_lt] at h
  refine ⟨?_, ?_, ?_, ?_, ?_⟩
  · rw [fa_le]; omega
  · rw [fa_le]; omega
  · rw [fa_lt]; omega
  · intro e; rw [fa_eq] at e; omega
  · intro e; rw [fa_eq] at e; omega
theorem fa_of_nlt {a b : Int32} (h : ¬ a < b) : b ≤ a := by
  rw [fa_lt] at h
  rw [fa_le]
  omega
theorem fa_of_nle {a b : Int32} (h : ¬ a ≤ b) : b < a := by
  rw [fa_le] at h
  rw [fa_lt]
  omega
theorem fa_le_ne {a b : Int32} (h : a ≤ b) (h2 : a ≠ b) : a < b := by
  rw [fa_le] at h
  rw [fa_lt]
  have h3 : a.toInt ≠ b.toInt := fun e => h2 ((fa_eq a b).mpr e)
  omega
theorem fa_three (a b : Int32) : a < b ∨ a = b ∨ b < a := by
  rw [fa_lt, fa_lt, fa_eq]
  omega
theorem fa_trans {a b c : Int32} (h : a < b) (h2 : b ≤ c) : a < c := by
  rw [fa_lt] at *
  rw [fa_le] at h2
  omega
/-! ===== small literals as numbers ===== -/
theorem fa_lit (n : Nat) : (OfNat.ofNat n : Int32) = nI n := rfl
theorem fa_litL (n : Nat) : (OfNat.ofNat n : Int64) = lN n := rfl
/-! ===== bits of a number: 'or', masks, one bit ===== -/
theorem fa_and (a b : Nat) : nI a &&& nI b = nI (a &&& b) := by
  apply Int32.toBitVec_inj.1
  show BitVec.ofNat 32 a &&& BitVec.ofNat 32 b = BitVec.ofNat 32 (a &&& b)
  apply BitVec.eq_of_getLsbD_eq
  intro i hi
  simp [hi]
theorem fa_or (a b : Nat) : nI a ||| nI b = nI (a ||| b) := by
  apply Int32.toBitVec_inj.1
  show BitVec.ofNat 32 a ||| BitVec.ofNat 32 b = BitVec.ofNat 32 (a ||| b)
  apply BitVec.eq_of_getLsbD_eq
  intro i hi
  simp [hi]
/-- a remainder by a power of two, as a mask -/
theorem fa_mask (n k : Nat) : nI n &&& nI (2 ^ k - 1) = nI (n % 2 ^ k) := by rw [fa_and, Nat.and_two_pow_sub_one_eq_mod]
/-- 'or' of a high part and a low one that don't meet is their sum -/
theorem fa_or_sum {a k : Nat} (b : Nat) (h : a < 2 ^ k) : nI (2 ^ k * b) ||| nI a = nI (2 ^ k * b + a) := by rw [fa_or, Nat.two_pow_add_eq_or_of_lt h]
/-- one bit, by 'and' with a power of two -/
theorem fa_bit {n j : Nat} (hj : j < 31) : nI n &&& nI (2 ^ j) = 0 ↔ n.testBit j = false := by
  have h2 : (2 : Nat) ^ j < 2 ^ 31 := Nat.pow_lt_pow_right (by decide) hj
  have hle : n &&& 2 ^ j ≤ 2 ^ j := Nat.and_le_right
  have e : n &&& 2 ^ j = 0 ↔ n.testBit j = false := by
    constructor
    · intro h
      have h1 : (n &&& 2 ^ j).testBit j = false := by rw [h]; simp
      rw [Nat.testBit_and] at h1
      first | simpa using h1 | simpa [Nat.testBit_two_pow_self] using h1 | simpa [Nat.testBit_two_pow] using h1
    · intro h
      apply Nat.eq_of_testBit_eq
      intro i
      rw [Nat.testBit_and]
      by_cases hi : j = i
      · subst hi; simp [h]
      · first | (simp [Nat.testBit_two_pow, hi]; done) | (simp [Nat.testBit_two_pow_of_ne hi]; done)
  rw [fa_and]
  constructor
  · intro h
    apply e.mp
    rcases Nat.eq_zero_or_pos (n &&& 2 ^ j) with z | z
    · exact z
    · exact absurd h (nI_ne0 z (Nat.lt_of_le_of_lt hle h2))
  · intro h
    rw [e.mpr h]; exact nI_0
/-- a remainder by a power of two of a number that isn't negative, as Java divides -/
theorem fa_rem {a k : Nat} (ha : a < 2 ^ 31) (hk : k < 31) : nI a - nI a / nI (2 ^ k) * nI (2 ^ k) = nI (a % 2 ^ k) := pk_rem ha (Nat.two_pow_pos k) (Nat.pow_lt_pow_right (by decide) hk)
/-! ===== cuts to a byte, a short ===== -/
theorem fa_byte_xor (x y : Int32) : (x ^^^ y).toInt8 = x.toInt8 ^^^ y.toInt8 := by
  apply Int8.toBitVec_inj.1
  apply BitVec.eq_of_getLsbD_eq
  intro i hi
  first | (simp [hi]; done) | (simp [hi, BitVec.getLsbD_setWidth, BitVec.getLsbD_signExtend]; done)
theorem fa_short_xor (x y : Int32) : (x ^^^ y).toInt16 = x.toInt16 ^^^ y.toInt16 := by
  apply Int16.toBitVec_inj.1
  apply BitVec.eq_of_getLsbD_eq
  intro i hi
  first | (simp [hi]; done) | (simp [hi, BitVec.getLsbD_setWidth, BitVec.getLsbD_signExtend]; done)
/-- the cut to a byte sees the low byte alone -/
theorem fa_byte_low (x : Int32) : (x &&& 255).toInt8 = x.toInt8 := by
  apply Int8.toBitVec_inj.1
  apply BitVec.eq_of_getLsbD_eq
  intro i hi
  have h2 : (255 : Int32).toBitVec.getLsbD i = true := by
    have : ∀ j : Fin 8, (255 : Int32).toBitVec.getLsbD j.val = true := by decide +kernel
    exact this ⟨i, hi⟩
  have h4 : (x &&& 255).toBitVec.getLsbD i = x.toBitVec.getLsbD i := by
    show (x.toBitVec &&& (255 : Int32).toBitVec).getLsbD i = _
    rw [BitVec.getLsbD_and, h2, Bool.and_true]
  have h3 : i < 32 := by omega
  first
    | (show (((x &&& 255).toBitVec).signExtend 8).getLsbD i = (x.toBitVec.signExtend 8).getLsbD i; rw [BitVec.getLsbD_signExtend, BitVec.getLsbD_signExtend, if_pos h3, if_pos h3, h4])
    | (show (((x &&& 255).toBitVec).setWidth 8).getLsbD i = (x.toBitVec.setWidth 8).getLsbD i; rw [BitVec.getLsbD_setWidth, BitVec.getLsbD_setWidth, h4])
    | (simp [hi, h3, h4]; done)
theorem fa_short_low (x : Int32) : (x &&& 65535).toInt16 = x.toInt16 := by
  apply Int16.toBitVec_inj.1
  apply BitVec.eq_of_getLsbD_eq
  intro i hi
  have h2 : (65535 : Int32).toBitVec.getLsbD i = true := by
    have : ∀ j : Fin 16, (65535 : Int32).toBitVec.getLsbD j.val = true := by decide +kernel
    exact this ⟨i, hi⟩
  have h4 : (x &&& 65535).toBitVec.getLsbD i = x.toBitVec.getLsbD i := by
    show (x.toBitVec &&& (65535 : Int32).toBitVec).getLsbD i = _
    rw [BitVec.getLsbD_and, h2, Bool.and_true]
  have h3 : i < 32 := by omega
  first
    | (show (((x &&& 65535).toBitVec).signExtend 16).getLsbD i = (x.toBitVec.signExtend 16).getLsbD i; rw [BitVec.getLsbD_signExtend, BitVec.getLsbD_signExtend, if_pos h3, if_pos h3, h4])
    | (show (((x &&& 65535).toBitVec).setWidth 16).getLsbD i = (x.toBitVec.setWidth 16).getLsbD i; rw [BitVec.getLsbD_setWidth, BitVec.getLsbD_setWidth, h4])
    | (simp [hi, h3, h4]; done)
/-- a small number is its own byte, its own short -/
theorem fa_byte_small {n : Nat} (h : n < 128) : (nI n).toInt8.toInt32 = nI n := by
  have : ∀ j : Fin 128, (nI j.val).toInt8.toInt32 = nI j.val := by decide +kernel
  exact this ⟨n, h⟩
/-! ===== absolute difference ===== -/
theorem fa_absdiff {a b : Nat} (ha : a < 2 ^ 31) (hb : b < 2 ^ 31) : (if nI a < nI b then nI b - nI a else nI a - nI b) = nI (if a < b then b - a else a - b) := by
  by_cases h : a < b
  · rw [if_pos (nI_lt h hb), if_pos h]
    exact pk_sub (Nat.le_of_lt h)
  · rw [if_neg (nI_nlt (Nat.le_of_not_lt h) ha), if_neg h]
    exact pk_sub (Nat.le_of_not_lt h)
/-! ===== an array behind i stores, a conditional store, a row copied ===== -/
/-- f where k < i, what stood there else -/
def fa_fill {α : Type} (f g : Nat → α) (i : Nat) : Nat → α := fun k => if k < i then f k else g k
theorem fa_fill_0 {α : Type} (f g : Nat → α) : fa_fill f g 0 = g := funext fun k => if_neg (Nat.not_lt_zero k)
theorem fa_fill_in {α : Type} {f g : Nat → α} {i k : Nat} (h : k < i) : fa_fill f g i k = f k := if_pos h
theorem fa_fill_out {α : Type} {f g : Nat → α} {i k : Nat} (h : i ≤ k) : fa_fill f g i k = g k := if_neg (Nat.not_lt.mpr h)
theorem fa_fill_succ (f g : Nat → Int32) (i : Nat) : upd (fa_fill f g i) i (f i) = fa_fill f g (i + 1) := by
  funext k
  by_cases e : k = i
  · subst e
    rw [pk_us]
    exact (if_pos (Nat.lt_succ_self k)).symm
  · rw [pk_un e]
    by_cases h : k < i
    · rw [fa_fill_in h, fa_fill_in (Nat.lt_succ_of_lt h)]
    · rw [fa_fill_out (Nat.le_of_not_lt h), fa_fill_out (by omega)]
/-- a store that changes nothing -/
theorem fa_upd_same {f : Nat → Int32} {i : Nat} {x : Int32} (h : f i = x) : upd f i x = f := by
  funext k
  by_cases e : k = i
  · subst e
    rw [pk_us, h]
  · rw [pk_un e]
/-- a store under a condition, told as one -/
theorem fa_upd_if (c : Prop) [Decidable c] (f : Nat → Int32) (i : Nat) (x : Int32) : (if c then upd f i x else f) = upd f i (if c then x else f i) := by
  by_cases h : c
  · rw [if_pos h, if_pos h]
  · rw [if_neg h, if_neg h, fa_upd_same rfl]
/-- two stores at one place, at two -/
theorem fa_upd_twice (f : Nat → Int32) (i : Nat) (x y : Int32) : upd (upd f i x) i y = upd f i y := by
  funext k
  by_cases e : k = i
  · subst e
    rw [pk_us, pk_us]
  · rw [pk_un e, pk_un e, pk_un e]
theorem fa_upd_swap (f : Nat → Int32) {i j : Nat} (h : i ≠ j) (x y : Int32) : upd (upd f i x) j y = upd (upd f j y) i x := by
  funext k
  by_cases e : k = i
  · subst e
    rw [pk_un h, pk_us, pk_us]
  · by_cases e2 : k = j
    · subst e2
      rw [pk_us, pk_un e, pk_us]
    · rw [pk_un e2, pk_un e, pk_un e, pk_un e2]
/-! ===== the first index with a property; a count ===== -/
/-- the first k < n with p k, n if there is none -/
def fa_first (p : Nat → Bool) : Nat → Nat
  | 0 => 0
  | n + 1 => if fa_first p n < n then fa_first p n else if p n then n else n + 1
theorem fa_first_le (p : Nat → Bool) : ∀ n, fa_first p n ≤ n
  | 0 => Nat.le_refl 0
  | n + 1 => by
    have ih := fa_first_le p n
    unfold fa_first
    split
    · omega
    · split
      · omega
      · omega
theorem fa_first_no (p : Nat → Bool) : ∀ n k, k < fa_first p n → p k = false
  | 0, k, h => absurd h (Nat.not_lt_zero k)
  | n + 1, k, h => by
    have ih := fa_first_no p n
    have hl := fa_first_le p n
    unfold fa_first at h
    split at h
    · exact ih k h
    · rename_i h1
      split at h
      · exact ih k (by omega)
      · rename_i h2
        by_cases e : k = n
        · subst e
          exact Bool.eq_false_iff.mpr h2
        · exact ih k (by omega)
theorem fa_first_yes (p : Nat → Bool) : ∀ n, fa_first p n < n → p (fa_first p n) = true
  | 0, h => absurd h (Nat.not_lt_zero _)
  | n + 1, h => by
    have ih := fa_first_yes p n
    have hl := fa_first_le p n
    unfold fa_first at h ⊢
    split at h
    · rename_i h1
      rw [if_pos h1]
      exact ih h1
    · rename_i h1
      rw [if_neg h1]
      split at h
      · rename_i h2
        rw [if_pos h2]
        exact h2
      · omega
/-- how many k < n have p k -/
def fa_cnt (p : Nat → Bool) : Nat → Nat
  | 0 => 0
  | n + 1 => fa_cnt p n + if p n then 1 else 0
theorem fa_cnt_le (p : Nat → Bool) : ∀ n, fa_cnt p n ≤ n
  | 0 => Nat.le_refl 0
  | n + 1 => by
    have ih := fa_cnt_le p n
    unfold fa_cnt
    split
    · omega
    · omega
theorem fa_cnt_yes {p : Nat → Bool} {n : Nat} (h : p n = true) : fa_cnt p (n + 1) = fa_cnt p n + 1 := by rw [fa_cnt, if_pos h]
theorem fa_cnt_no {p : Nat → Bool} {n : Nat} (h : p n = false) : fa_cnt p (n + 1) = fa_cnt p n := by rw [fa_cnt, if_neg (by rw [h]; decide)]; rfl
theorem fa_cnt_cong {p q : Nat → Bool} : ∀ {n : Nat}, (∀ k, k < n → p k = q k) → fa_cnt p n = fa_cnt q n
  | 0, _ => rfl
  | n + 1, h => by rw [fa_cnt, fa_cnt, fa_cnt_cong (fun k hk => h k (Nat.lt_succ_of_lt hk)), h n (Nat.lt_succ_self n)]
/-! ===== an answer carried into a post; a branch on a boolean answer ===== -/
theorem fa_post {α : Type} {P : α → Prop} {x y : α} (h : x = y) (hp : P y) : P x := h ▸ hp
theorem fa_post2 {α β : Type} {P : α → β → Prop} {x y : α} {u v : β} (h : x = y) (h2 : u = v) (hp : P y v) : P x u := h ▸ h2 ▸ hp
theorem fa_bool {r : Int32} {b : Bool} (h : r = if b then 1 else 0) : (r = 0 ↔ b = false) ∧ (¬ r = 0 ↔ b = true) := by
  subst h
  cases b
  · exact ⟨⟨fun _ => rfl, fun _ => rfl⟩, ⟨fun h => absurd rfl h, fun h => absurd h (by decide)⟩⟩
  · exact ⟨⟨fun h => absurd h (by decide), fun h => absurd h (by decide)⟩, ⟨fun _ => rfl, fun _ => by decide⟩⟩
/-- a boolean's narrowing changes nothing -/
theorem fa_bool_and {r : Int32} (h : r = 0 ∨ r = 1) : r &&& 1 = r := by
  rcases h with rfl | rfl
  · decide
  · decide
theorem fa_bool_prop {c : Prop} [Decidable c] {r : Int32} (h : r = if c then 1 else 0) : (r = 0 ↔ ¬ c) ∧ (¬ r = 0 ↔ c) := by
  subst h
  by_cases hc : c
  · rw [if_pos hc]
    exact ⟨⟨fun h => absurd h (by decide), fun h => absurd hc h⟩, ⟨fun _ => hc, fun _ => by decide⟩⟩
  · rw [if_neg hc]
    exact ⟨⟨fun _ => hc, fun _ => rfl⟩, ⟨fun h => absurd rfl h, fun h => absurd h hc⟩⟩
/-! plain facts to paste, each family by itself; over the kit's nI, lN and upd -/
/-! ===== drawers: more things than places ===== -/
theorem fb_holes : ∀ (m n : Nat) (f : Nat → Nat), (∀ i, i < n → f i < m) → (∀ i j, i < j → j < n → f i ≠ f j) → n ≤ m := by
  intro m
  induction m with
  | zero =>
    intro n f h1 _
    rcases Nat.eq_zero_or_pos n with h | h
    · omega
    · exact absurd (h1 0 h) (Nat.not_lt_zero _)
  | succ m ih =>
    intro n f h1 h2
    by_cases hx : ∃ i, i < n ∧ f i = m
    · obtain ⟨a, ha, hfa⟩ := hx
      have hg := ih (n - 1) (fun i => if i < a then f i else f (i + 1)) (by
        intro i hi
        by_cases q : i < a
        · simp only [if_pos q]
          have b1 := h1 i (by omega)
          have b2 := h2 i a q ha
          omega
        · simp only [if_neg q]
          have b1 := h1 (i + 1) (by omega)
          have b2 := h2 a (i + 1) (by omega) (by omega)
          omega) (by
        intro i j hij hj
        by_cases q : i < a
        · by_cases r : j < a
          · simp only [if_pos q, if_pos r]
            exact h2 i j hij (by omega)
          · simp only [if_pos q, if_neg r]
            exact h2 i (j + 1) (by omega) (by omega)
        · have r : ¬ j < a := by omega
          simp only [if_neg q, if_neg r]
          exact h2 (i + 1) (j + 1) (by omega) (by omega))
      omega
    · have hg := ih n f (fun i hi => by
        have b1 := h1 i hi
        have b2 : f i ≠ m := fun e => hx ⟨i, hi, e⟩
        omega) h2
      omega
/-- two of them in one place -/
theorem fb_twice {m n : Nat} {f : Nat → Nat} (h : ∀ i, i < n → f i < m) (hm : m < n) : ∃ i j, i < j ∧ j < n ∧ f i = f j := by
  refine Classical.byContradiction fun hx => ?_
  have := fb_holes m n f h (fun i j hij hj e => hx ⟨i, j, hij, hj, e⟩)
  omega
/-- as many as places, none twice: each place is taken -/
theorem fb_onto {n : Nat} {f : Nat → Nat} (h : ∀ i, i < n → f i < n) (h2 : ∀ i j, i < j → j < n → f i ≠ f j) {y : Nat} (hy : y < n) : ∃ i, i < n ∧ f i = y := by
  refine Classical.byContradiction fun hx => ?_
  have hne : ∀ i, i < n → f i ≠ y := fun i hi e => hx ⟨i, hi, e⟩
  have := fb_holes (n - 1) n (fun i => if f i < y then f i else f i - 1) (by
    intro i hi
    have b1 := h i hi
    have b2 := hne i hi
    by_cases q : f i < y
    · simp only [if_pos q]; omega
    · simp only [if_neg q]; omega) (by
    intro i j hij hj
    have b1 := hne i (by omega)
    have b2 := hne j hj
    have b3 := h2 i j hij hj
    by_cases q : f i < y
    · by_cases r : f j < y
      · simp only [if_pos q, if_pos r]; exact b3
      · simp only [if_pos q, if_neg r]; omega
    · by_cases r : f j < y
      · simp only [if_neg q, if_pos r]; omega
      · simp only [if_neg q, if_neg r]; omega)
  omega
/-! ===== how many places have a property ===== -/
def fb_ct (p : Nat → Bool) : Nat → Nat
  | 0 => 0
  | n + 1 => fb_ct p n + (if p n then 1 else 0)
theorem fb_ct_succ (p : Nat → Bool) (n : Nat) : fb_ct p (n + 1) = fb_ct p n + (if p n then 1 else 0) := rfl
theorem fb_ct_le (p : Nat → Bool) : ∀ n, fb_ct p n ≤ n
  | 0 => Nat.le_refl _
  | n + 1 => by
    have h := fb_ct_le p n
    rw [fb_ct_succ]
    split <;> omega
theorem fb_ct_step (p : Nat → Bool) (m : Nat) : ∀ n, fb_ct p m ≤ fb_ct p (m + n)
  | 0 => Nat.le_refl _
  | n + 1 => by
    have h := fb_ct_step p m n
    show fb_ct p m ≤ fb_ct p (m + n + 1)
    rw [fb_ct_succ]
    omega
theorem fb_ct_mono (p : Nat → Bool) {m n : Nat} (h : m ≤ n) : fb_ct p m ≤ fb_ct p n := by
  have := fb_ct_step p m (n - m)
  rwa [Nat.add_sub_cancel' h] at this
theorem fb_ct_cong {p q : Nat → Bool} : ∀ {n : Nat}, (∀ k, k < n → p k = q k) → fb_ct p n = fb_ct q n
  | 0, _ => rfl
  | n + 1, h => by
    rw [fb_ct_succ, fb_ct_succ, fb_ct_cong (fun k hk => h k (by omega)), h n (by omega)]
/-- one place changed -/
theorem fb_ct_out (p : Nat → Bool) (b : Bool) {i n : Nat} (h : n ≤ i) : fb_ct (fun k => if k = i then b else p k) n = fb_ct p n :=
  fb_ct_cong fun k hk => if_neg (by omega)
theorem fb_ct_upd (p : Nat → Bool) (b : Bool) {i : Nat} : ∀ {n : Nat}, i < n → fb_ct (fun k => if k = i then b else p k) n + (if p i then 1 else 0) = fb_ct p n + (if b then 1 else 0)
  | 0, h => absurd h (Nat.not_lt_zero i)
  | n + 1, h => by
    rw [fb_ct_succ, fb_ct_succ]
    rcases Nat.lt_or_ge i n with q | q
    · have := fb_ct_upd p b q
      have e : (if n = i then b else p n) = p n := if_neg (by omega)
      rw [e]
      omega
    · have e : i = n := by omega
      subst e
      rw [fb_ct_out p b (Nat.le_refl _)]
      simp only [if_true]
      omega
theorem fb_ct_sub {p q : Nat → Bool} : ∀ {n : Nat}, (∀ k, k < n → p k = true → q k = true) → fb_ct p n ≤ fb_ct q n
  | 0, _ => Nat.le_refl _
  | n + 1, h => by
    have h1 := fb_ct_sub (n := n) (p := p) (q := q) (fun k hk => h k (by omega))
    have h2 := h n (by omega)
    rw [fb_ct_succ, fb_ct_succ]
    cases hp : p n <;> cases hq : q n <;> simp_all <;> omega
theorem fb_ct_or {p q : Nat → Bool} : ∀ {n : Nat}, (∀ k, k < n → ¬ (p k = true ∧ q k = true)) → fb_ct (fun k => p k || q k) n = fb_ct p n + fb_ct q n
  | 0, _ => rfl
  | n + 1, h => by
    have h1 := fb_ct_or (n := n) (p := p) (q := q) (fun k hk => h k (by omega))
    have h2 := h n (by omega)
    rw [fb_ct_succ, fb_ct_succ, fb_ct_succ, h1]
    cases hp : p n <;> cases hq : q n <;> simp_all <;> omega
theorem fb_ct_not (p : Nat → Bool) : ∀ n, fb_ct p n + fb_ct (fun k => !p k) n = n
  | 0 => rfl
  | n + 1 => by
    have h := fb_ct_not p n
    rw [fb_ct_succ, fb_ct_succ]
    cases p n <;> simp <;> omega
theorem fb_ct_split (p : Nat → Bool) (m : Nat) : ∀ n, fb_ct p (m + n) = fb_ct p m + fb_ct (fun k => p (m + k)) n
  | 0 => rfl
  | n + 1 => by
    have h := fb_ct_split p m n
    show fb_ct p (m + n + 1) = _
    rw [fb_ct_succ, fb_ct_succ, h, Nat.add_assoc]
theorem fb_ct_zero {p : Nat → Bool} : ∀ {n : Nat}, fb_ct p n = 0 ↔ ∀ k, k < n → p k = false
  | 0 => ⟨fun _ k hk => absurd hk (Nat.not_lt_zero k), fun _ => rfl⟩
  | n + 1 => by
    have h := fb_ct_zero (p := p) (n := n)
    rw [fb_ct_succ]
    constructor
    · intro e k hk
      have e1 : fb_ct p n = 0 := by omega
      rcases Nat.lt_or_ge k n with q | q
      · exact h.mp e1 k q
      · have ek : k = n := by omega
        subst ek
        cases hp : p k
        · rfl
        · simp [hp] at e
    · intro a
      rw [h.mpr (fun k hk => a k (by omega)), a n (by omega)]
      rfl
theorem fb_ct_pos {p : Nat → Bool} {n : Nat} : 0 < fb_ct p n ↔ ∃ k, k < n ∧ p k = true := by
  constructor
  · intro h
    refine Classical.byContradiction fun hx => ?_
    have := fb_ct_zero.mpr (fun k hk => by
      cases hp : p k
      · rfl
      · exact absurd ⟨k, hk, hp⟩ hx : ∀ k, k < n → p k = false)
    omega
  · rintro ⟨k, hk, hp⟩
    rcases Nat.eq_zero_or_pos (fb_ct p n) with e | e
    · have := fb_ct_zero.mp e k hk
      rw [this] at hp
      cases hp
    · exact e
theorem fb_ct_all {p : Nat → Bool} {n : Nat} : fb_ct p n = n ↔ ∀ k, k < n → p k = true := by
  have h := fb_ct_not p n
  constructor
  · intro e k hk
    have z : fb_ct (fun k => !p k) n = 0 := by omega
    have := fb_ct_zero.mp z k hk
    cases hp : p k
    · simp [hp] at this
    · rfl
  · intro a
    have z : fb_ct (fun k => !p k) n = 0 := fb_ct_zero.mpr (fun k hk => by simp [a k hk])
    omega
/-- the k-th place with the property -/
theorem fb_ct_kth {p : Nat → Bool} {k : Nat} : ∀ {n : Nat}, k < fb_ct p n → ∃ i, i < n ∧ p i = true ∧ fb_ct p i = k
  | 0, h => absurd h (Nat.not_lt_zero k)
  | n + 1, h => by
    rcases Nat.lt_or_ge k (fb_ct p n) with q | q
    · obtain ⟨i, h1, h2⟩ := fb_ct_kth q
      exact ⟨i, by omega, h2⟩
    · rw [fb_ct_succ] at h
      cases hp : p n
      · simp [hp] at h; omega
      · simp [hp] at h
        exact ⟨n, by omega, hp, by omega⟩
theorem fb_ct_kth_one {p : Nat → Bool} {i j : Nat} (hi : p i = true) (hj : p j = true) (e : fb_ct p i = fb_ct p j) : i = j := by
  have key : ∀ a b : Nat, a < b → p a = true → fb_ct p a < fb_ct p b := by
    intro a b hab ha
    have h := fb_ct_mono p (show a + 1 ≤ b from hab)
    rw [fb_ct_succ, ha] at h
    simp at h
    omega
  rcases Nat.lt_trichotomy i j with q | q | q
  · have := key i j q hi; omega
  · exact q
  · have := key j i q hj; omega
/-! ===== sums over a range: one place changed, parts, bounds ===== -/
def fb_sm (f : Nat → Nat) : Nat → Nat
  | 0 => 0
  | n + 1 => fb_sm f n + f n
theorem fb_sm_succ (f : Nat → Nat) (n : Nat) : fb_sm f (n + 1) = fb_sm f n + f n := rfl
theorem fb_sm_cong {f g : Nat → Nat} : ∀ {n : Nat}, (∀ k, k < n → f k = g k) → fb_sm f n = fb_sm g n
  | 0, _ => rfl
  | n + 1, h => by rw [fb_sm_succ, fb_sm_succ, fb_sm_cong (fun k hk => h k (by omega)), h n (by omega)]
theorem fb_sm_out (f : Nat → Nat) (v : Nat) {i n : Nat} (h : n ≤ i) : fb_sm (fun k => if k = i then v else f k) n = fb_sm f n :=
  fb_sm_cong fun k hk => if_neg (by omega)
theorem fb_sm_upd (f : Nat → Nat) (v : Nat) {i : Nat} : ∀ {n : Nat}, i < n → fb_sm (fun k => if k = i then v else f k) n + f i = fb_sm f n + v
  | 0, h => absurd h (Nat.not_lt_zero i)
  | n + 1, h => by
    rw [fb_sm_succ, fb_sm_succ]
    rcases Nat.lt_or_ge i n with q | q
    · have := fb_sm_upd f v q
      have e : (if n = i then v else f n) = f n := if_neg (by omega)
      rw [e]
      omega
    · have e : i = n := by omega
      subst e
      rw [fb_sm_out f v (Nat.le_refl _)]
      simp only [if_true]
      omega
theorem fb_sm_add (f g : Nat → Nat) : ∀ n, fb_sm (fun k => f k + g k) n = fb_sm f n + fb_sm g n
  | 0 => rfl
  | n + 1 => by
    have h := fb_sm_add f g n
    rw [fb_sm_succ, fb_sm_succ, fb_sm_succ, h]
    omega
theorem fb_sm_le {f g : Nat → Nat} : ∀ {n : Nat}, (∀ k, k < n → f k ≤ g k) → fb_sm f n ≤ fb_sm g n
  | 0, _ => Nat.le_refl _
  | n + 1, h => by
    have h1 := fb_sm_le (n := n) (f := f) (g := g) (fun k hk => h k (by omega))
    have h2 := h n (by omega)
    rw [fb_sm_succ, fb_sm_succ]
    omega
theorem fb_sm_const (c : Nat) : ∀ n, fb_sm (fun _ => c) n = n * c
  | 0 => by rw [Nat.zero_mul]; rfl
  | n + 1 => by rw [fb_sm_succ, fb_sm_const c n, Nat.succ_mul]
theorem fb_sm_bound {f : Nat → Nat} {c n : Nat} (h : ∀ k, k < n → f k ≤ c) : fb_sm f n ≤ n * c := by
  rw [← fb_sm_const c n]
  exact fb_sm_le h
theorem fb_sm_mono (f : Nat → Nat) (m : Nat) : ∀ n, fb_sm f m ≤ fb_sm f (m + n)
  | 0 => Nat.le_refl _
  | n + 1 => by
    have h := fb_sm_mono f m n
    show fb_sm f m ≤ fb_sm f (m + n + 1)
    rw [fb_sm_succ]
    omega
theorem fb_sm_part (f : Nat → Nat) {i n : Nat} (h : i < n) : fb_sm f i + f i ≤ fb_sm f n := by
  have := fb_sm_mono f (i + 1) (n - (i + 1))
  rw [fb_sm_succ, show i + 1 + (n - (i + 1)) = n by omega] at this
  exact this
theorem fb_sm_split (f : Nat → Nat) (m : Nat) : ∀ n, fb_sm f (m + n) = fb_sm f m + fb_sm (fun k => f (m + k)) n
  | 0 => rfl
  | n + 1 => by
    have h := fb_sm_split f m n
    show fb_sm f (m + n + 1) = _
    rw [fb_sm_succ, fb_sm_succ, h, Nat.add_assoc]
theorem fb_sm_zero {f : Nat → Nat} {n : Nat} (h : fb_sm f n = 0) : ∀ k, k < n → f k = 0 := fun k hk => by
  have := fb_sm_part f hk
  omega
/-- the same over whole numbers -/
def fb_si (f : Nat → Int) : Nat → Int
  | 0 => 0
  | n + 1 => fb_si f n + f n
theorem fb_si_succ (f : Nat → Int) (n : Nat) : fb_si f (n + 1) = fb_si f n + f n := rfl
theorem fb_si_cong {f g : Nat → Int} : ∀ {n : Nat}, (∀ k, k < n → f k = g k) → fb_si f n = fb_si g n
  | 0, _ => rfl
  | n + 1, h => by rw [fb_si_succ, fb_si_succ, fb_si_cong (fun k hk => h k (by omega)), h n (by omega)]
theorem fb_si_out (f : Nat → Int) (v : Int) {i n : Nat} (h : n ≤ i) : fb_si (fun k => if k = i then v else f k) n = fb_si f n :=
  fb_si_cong fun k hk => if_neg (by omega)
theorem fb_si_upd (f : Nat → Int) (v : Int) {i : Nat} : ∀ {n : Nat}, i < n → fb_si (fun k => if k = i then v else f k) n = fb_si f n - f i + v
  | 0, h => absurd h (Nat.not_lt_zero i)
  | n + 1, h => by
    rw [fb_si_succ, fb_si_succ]
    rcases Nat.lt_or_ge i n with q | q
    · have := fb_si_upd f v q
      have e : (if n = i then v else f n) = f n := if_neg (by omega)
      rw [e]
      omega
    · have e : i = n := by omega
      subst e
      rw [fb_si_out f v (Nat.le_refl _)]
      simp only [if_true]
      omega
theorem fb_si_add (f g : Nat → Int) : ∀ n, fb_si (fun k => f k + g k) n = fb_si f n + fb_si g n
  | 0 => rfl
  | n + 1 => by
    have h := fb_si_add f g n
    rw [fb_si_succ, fb_si_succ, fb_si_succ, h]
    omega
theorem fb_si_sub (f g : Nat → Int) : ∀ n, fb_si (fun k => f k - g k) n = fb_si f n - fb_si g n
  | 0 => rfl
  | n + 1 => by
    have h := fb_si_sub f g n
    rw [fb_si_succ, fb_si_succ, fb_si_succ, h]
    omega
theorem fb_si_mul (c : Int) (f : Nat → Int) : ∀ n, fb_si (fun k => c * f k) n = c * fb_si f n
  | 0 => (Int.mul_zero c).symm
  | n + 1 => by
    have h := fb_si_mul c f n
    rw [fb_si_succ, fb_si_succ, h, Int.mul_add]
theorem fb_si_split (f : Nat → Int) (m : Nat) : ∀ n, fb_si f (m + n) = fb_si f m + fb_si (fun k => f (m + k)) n
  | 0 => (Int.add_zero _).symm
  | n + 1 => by
    have h := fb_si_split f m n
    show fb_si f (m + n + 1) = _
    rw [fb_si_succ, fb_si_succ, h, Int.add_assoc]
theorem fb_si_nat (f : Nat → Nat) : ∀ n, fb_si (fun k => (f k : Int)) n = (fb_sm f n : Int)
  | 0 => rfl
  | n + 1 => by
    have h := fb_si_nat f n
    rw [fb_si_succ, fb_sm_succ, h]
    omega
theorem fb_si_bound {f : Nat → Int} {c : Int} (hc : 0 ≤ c) : ∀ {n : Nat}, (∀ k, k < n → -c ≤ f k ∧ f k ≤ c) → -(n * c) ≤ fb_si f n ∧ fb_si f n ≤ n * c
  | 0, _ => by simp [fb_si]
  | n + 1, h => by
    have h1 := fb_si_bound (n := n) (f := f) hc (fun k hk => h k (by omega))
    have h2 := h n (by omega)
    have e : ((n + 1 : Nat) : Int) * c = n * c + c := by rw [Int.natCast_add, Int.add_mul]; simp
    rw [fb_si_succ, e]
    omega
/-! ===== bits of a long that isn't negative ===== -/
theorem fb_andL (a b : Nat) : lN a &&& lN b = lN (a &&& b) := by
  apply Int64.toBitVec_inj.1
  show BitVec.ofNat 64 a &&& BitVec.ofNat 64 b = BitVec.ofNat 64 (a &&& b)
  apply BitVec.eq_of_getLsbD_eq
  intro i hi
  simp [hi]
theorem fb_orL (a b : Nat) : lN a ||| lN b = lN (a ||| b) := by
  apply Int64.toBitVec_inj.1
  show BitVec.ofNat 64 a ||| BitVec.ofNat 64 b = BitVec.ofNat 64 (a ||| b)
  apply BitVec.eq_of_getLsbD_eq
  intro i hi
  simp [hi]
theorem fb_xorL (a b : Nat) : lN a ^^^ lN b = lN (a ^^^ b) := by
  apply Int64.toBitVec_inj.1
  show BitVec.ofNat 64 a ^^^ BitVec.ofNat 64 b = BitVec.ofNat 64 (a ^^^ b)
  apply BitVec.eq_of_getLsbD_eq
  intro i hi
  simp [hi]
theorem fb_xorI (a b : Nat) : nI a ^^^ nI b = nI (a ^^^ b) := by
  apply Int32.toBitVec_inj.1
  show BitVec.ofNat 32 a ^^^ BitVec.ofNat 32 b = BitVec.ofNat 32 (a ^^^ b)
  apply BitVec.eq_of_getLsbD_eq
  intro i hi
  simp [hi]
theorem fb_maskL (n k : Nat) : lN n &&& lN (2 ^ k - 1) = lN (n % 2 ^ k) := by rw [fb_andL, Nat.and_two_pow_sub_one_eq_mod]
theorem fb_or_sumL {a k : Nat} (b : Nat) (h : a < 2 ^ k) : lN (2 ^ k * b) ||| lN a = lN (2 ^ k * b + a) := by rw [fb_orL, Nat.two_pow_add_eq_or_of_lt h]
theorem fb_lN_inj {a b : Nat} (ha : a < 2 ^ 63) (hb : b < 2 ^ 63) : lN a = lN b ↔ a = b := by
  constructor
  · intro h
    have h1 : (BitVec.ofNat 64 a).toNat = (BitVec.ofNat 64 b).toNat := congrArg (fun x : Int64 => x.toBitVec.toNat) h
    rw [BitVec.toNat_ofNat, BitVec.toNat_ofNat, Nat.mod_eq_of_lt (by omega), Nat.mod_eq_of_lt (by omega)] at h1
    exact h1
  · rintro rfl; rfl
theorem fb_bit_nat (n j : Nat) : n &&& 2 ^ j = 0 ↔ n.testBit j = false := by
  constructor
  · intro h
    have h1 : (n &&& 2 ^ j).testBit j = false := by rw [h]; simp
    rw [Nat.testBit_and] at h1
    simpa using h1
  · intro h
    apply Nat.eq_of_testBit_eq
    intro i
    rw [Nat.testBit_and]
    by_cases hi : j = i
    · subst hi; simp [h]
    · first | (simp [Nat.testBit_two_pow, hi]; done) | (simp [Nat.testBit_two_pow_of_ne hi]; done)
/-- one bit of a long -/
theorem fb_bitL {n j : Nat} (hj : j < 63) : lN n &&& lN (2 ^ j) = 0 ↔ n.testBit j = false := by
  have h2 : (2 : Nat) ^ j < 2 ^ 63 := Nat.pow_lt_pow_right (by decide) hj
  have hle : n &&& 2 ^ j ≤ 2 ^ j := Nat.and_le_right
  rw [fb_andL, ← fb_bit_nat, show (0 : Int64) = lN 0 from rfl]
  exact fb_lN_inj (by omega) (by decide)
/-- a bit set, a bit taken off -/
theorem fb_bit_set (n j i : Nat) : (n ||| 2 ^ j).testBit i = (n.testBit i || decide (i = j)) := by
  rw [Nat.testBit_or]
  by_cases h : j = i
  · subst h; simp
  · have h2 : ¬ i = j := fun e => h e.symm
    first | (simp [Nat.testBit_two_pow, h, h2]; done) | (simp [Nat.testBit_two_pow_of_ne h, h2]; done)
theorem fb_bit_flip (n j i : Nat) : (n ^^^ 2 ^ j).testBit i = (n.testBit i ^^ decide (i = j)) := by
  rw [Nat.testBit_xor]
  by_cases h : j = i
  · subst h; simp
  · have h2 : ¬ i = j := fun e => h e.symm
    first | (simp [Nat.testBit_two_pow, h, h2]; done) | (simp [Nat.testBit_two_pow_of_ne h, h2]; done)
/-! ===== a stretch of an array written over by a function ===== -/
def fb_put {α : Type} (f g : Nat → α) (a n : Nat) : Nat → α := fun k => if a ≤ k ∧ k < a + n then g (k - a) else f k
theorem fb_put_0 {α : Type} (f g : Nat → α) (a : Nat) : fb_put f g a 0 = f := funext fun k => if_neg (by omega)
theorem fb_put_in {α : Type} {f g : Nat → α} {a n k : Nat} (h1 : a ≤ k) (h2 : k < a + n) : fb_put f g a n k = g (k - a) := if_pos ⟨h1, h2⟩
theorem fb_put_out {α : Type} {f g : Nat → α} {a n k : Nat} (h : k < a ∨ a + n ≤ k) : fb_put f g a n k = f k := if_neg (by omega)
theorem fb_put_succ (f g : Nat → Int32) (a n : Nat) : upd (fb_put f g a n) (a + n) (g n) = fb_put f g a (n + 1) := by
  funext k
  by_cases h : k = a + n
  · subst h
    simp [upd, fb_put]
  · by_cases h1 : a ≤ k ∧ k < a + n
    · have h2 : a ≤ k ∧ k < a + (n + 1) := by omega
      simp only [upd, fb_put, if_neg h, if_pos h1, if_pos h2]
    · have h2 : ¬ (a ≤ k ∧ k < a + (n + 1)) := by omega
      simp only [upd, fb_put, if_neg h, if_neg h1, if_neg h2]
/-- .. from the far end down -/
theorem fb_put_down (f g : Nat → Int32) {a n m : Nat} (h : m < n) : upd (fb_put f (fun k => g (k + (m + 1))) (a + (m + 1)) (n - (m + 1))) (a + m) (g m) = fb_put f (fun k => g (k + m)) (a + m) (n - m) := by
  funext k
  by_cases h0 : k = a + m
  · subst h0
    simp only [upd, if_true]
    rw [fb_put_in (by omega) (by omega)]
    exact congrArg g (by omega)
  · simp only [upd, if_neg h0]
    by_cases h1 : a + (m + 1) ≤ k ∧ k < a + (m + 1) + (n - (m + 1))
    · rw [fb_put_in h1.1 h1.2, fb_put_in (by omega) (by omega)]
      exact congrArg g (by omega)
    · rw [fb_put_out (by omega), fb_put_out (by omega)]
theorem fb_put_cong {α : Type} {f f2 g g2 : Nat → α} {a n : Nat} (hf : ∀ k, (k < a ∨ a + n ≤ k) → f k = f2 k) (hg : ∀ k, k < n → g k = g2 k) : fb_put f g a n = fb_put f2 g2 a n := by
  funext k
  by_cases h : a ≤ k ∧ k < a + n
  · rw [fb_put_in h.1 h.2, fb_put_in h.1 h.2, hg _ (by omega)]
  · rw [fb_put_out (by omega), fb_put_out (by omega), hf _ (by omega)]
/-! ===== the least, the first, the best so far; that there is one alone ===== -/
theorem fb_first {p : Nat → Prop} [DecidablePred p] : ∀ {n : Nat}, (∃ i, i < n ∧ p i) → ∃ i, i < n ∧ p i ∧ ∀ j, j < i → ¬ p j
  | 0, h => by obtain ⟨i, hi, -⟩ := h; exact absurd hi (Nat.not_lt_zero i)
  | n + 1, h => by
    by_cases q : ∃ i, i < n ∧ p i
    · obtain ⟨i, h1, h2⟩ := fb_first q
      exact ⟨i, by omega, h2⟩
    · obtain ⟨i, h1, h2⟩ := h
      have e : i = n := by
        rcases Nat.lt_or_ge i n with r | r
        · exact absurd ⟨i, r, h2⟩ q
        · omega
      subst e
      exact ⟨i, by omega, h2, fun j hj hp => q ⟨j, hj, hp⟩⟩
theorem fb_first_one {p : Nat → Prop} {i j : Nat} (hi : p i) (hi2 : ∀ k, k < i → ¬ p k) (hj : p j) (hj2 : ∀ k, k < j → ¬ p k) : i = j := by
  rcases Nat.lt_trichotomy i j with q | q | q
  · exact absurd hi (hj2 i q)
  · exact q
  · exact absurd hj (hi2 j q)
theorem fb_last {p : Nat → Prop} [DecidablePred p] : ∀ {n : Nat}, (∃ i, i < n ∧ p i) → ∃ i, i < n ∧ p i ∧ ∀ j, i < j → j < n → ¬ p j
  | 0, h => by obtain ⟨i, hi, -⟩ := h; exact absurd hi (Nat.not_lt_zero i)
  | n + 1, h => by
    by_cases q : p n
    · exact ⟨n, by omega, q, fun j h1 h2 => by omega⟩
    · obtain ⟨i, h1, h2⟩ := h
      have hi : i < n := by
        rcases Nat.lt_or_ge i n with r | r
        · exact r
        · have e : i = n := by omega
          subst e
          exact absurd h2 q
      obtain ⟨i2, a1, a2, a3⟩ := fb_last (n := n) ⟨i, hi, h2⟩
      refine ⟨i2, by omega, a2, fun j b1 b2 => ?_⟩
      rcases Nat.lt_or_ge j n with r | r
      · exact a3 j b1 r
      · have e : j = n := by omega
        subst e
        exact q
/-- the first greatest -/
theorem fb_best (f : Nat → Int) : ∀ {n : Nat}, 0 < n → ∃ i, i < n ∧ (∀ j, j < n → f j ≤ f i) ∧ ∀ j, j < i → f j < f i
  | 0, h => absurd h (Nat.lt_irrefl 0)
  | 1, _ => ⟨0, by omega, fun j hj => by have e : j = 0 := by omega
                                         subst e; exact Int.le_refl _, fun j hj => absurd hj (Nat.not_lt_zero j)⟩
  | n + 2, _ => by
    obtain ⟨i, h1, h2, h3⟩ := fb_best f (n := n + 1) (by omega)
    by_cases q : f i < f (n + 1)
    · refine ⟨n + 1, by omega, fun j hj => ?_, fun j hj => ?_⟩
      · rcases Nat.lt_or_ge j (n + 1) with r | r
        · have := h2 j r; omega
        · have e : j = n + 1 := by omega
          subst e; exact Int.le_refl _
      · have := h2 j hj; omega
    · refine ⟨i, by omega, fun j hj => ?_, h3⟩
      rcases Nat.lt_or_ge j (n + 1) with r | r
      · exact h2 j r
      · have e : j = n + 1 := by omega
        subst e; omega
theorem fb_best_one {f : Nat → Int} {n i j : Nat} (hi : i < n) (hi2 : ∀ k, k < n → f k ≤ f i) (hi3 : ∀ k, k < i → f k < f i) (hj : j < n) (hj2 : ∀ k, k < n → f k ≤ f j) (hj3 : ∀ k, k < j → f k < f j) : i = j := by
  rcases Nat.lt_trichotomy i j with q | q | q
  · have a := hj3 i q
    have b := hi2 j hj
    omega
  · exact q
  · have a := hi3 j q
    have b := hj2 i hi
    omega
/-- the first least -/
theorem fb_low (f : Nat → Int) {n : Nat} (h : 0 < n) : ∃ i, i < n ∧ (∀ j, j < n → f i ≤ f j) ∧ ∀ j, j < i → f i < f j := by
  obtain ⟨i, h1, h2, h3⟩ := fb_best (fun k => -f k) h
  exact ⟨i, h1, fun j hj => by have := h2 j hj; omega, fun j hj => by have := h3 j hj; omega⟩
/-! ===== signed ints as whole numbers, within bounds ===== -/
theorem fb_rng (x : Int32) : -2147483648 ≤ x.toInt ∧ x.toInt < 2147483648 := by
  have h1 := Int32.le_toInt x
  have h2 := Int32.toInt_lt x
  omega
theorem fb_bmod {z : Int} (h1 : -2147483648 ≤ z) (h2 : z < 2147483648) : z.bmod (2 ^ 32) = z := by
  rw [Int.bmod_eq_of_le (by omega) (by omega)]
theorem fb_addI {x y : Int32} (h1 : -2147483648 ≤ x.toInt + y.toInt) (h2 : x.toInt + y.toInt < 2147483648) : (x + y).toInt = x.toInt + y.toInt := by
  rw [Int32.toInt_add, fb_bmod h1 h2]
theorem fb_subI {x y : Int32} (h1 : -2147483648 ≤ x.toInt - y.toInt) (h2 : x.toInt - y.toInt < 2147483648) : (x - y).toInt = x.toInt - y.toInt := by
  rw [Int32.toInt_sub, fb_bmod h1 h2]
theorem fb_mulI {x y : Int32} (h1 : -2147483648 ≤ x.toInt * y.toInt) (h2 : x.toInt * y.toInt < 2147483648) : (x * y).toInt = x.toInt * y.toInt := by
  rw [Int32.toInt_mul, fb_bmod h1 h2]
theorem fb_negI {x : Int32} (h : x.toInt ≠ -2147483648) : (-x).toInt = -x.toInt := by
  have := fb_rng x
  rw [Int32.toInt_neg, fb_bmod (by omega) (by omega)]
theorem fb_ofI {z : Int} (h1 : -2147483648 ≤ z) (h2 : z < 2147483648) : (Int32.ofInt z).toInt = z := by
  rw [Int32.toInt_ofInt, fb_bmod h1 h2]
theorem fb_asI (x : Int32) : Int32.ofInt x.toInt = x := Int32.ofInt_toInt x
theorem fb_rngL (x : Int64) : -9223372036854775808 ≤ x.toInt ∧ x.toInt < 9223372036854775808 := by
  have h1 := Int64.le_toInt x
  have h2 := Int64.toInt_lt x
  omega
theorem fb_bmodL {z : Int} (h1 : -9223372036854775808 ≤ z) (h2 : z < 9223372036854775808) : z.bmod (2 ^ 64) = z := by
  rw [Int.bmod_eq_of_le (by omega) (by omega)]
theorem fb_addL {x y : Int64} (h1 : -9223372036854775808 ≤ x.toInt + y.toInt) (h2 : x.toInt + y.toInt < 9223372036854775808) : (x + y).toInt = x.toInt + y.toInt := by
  rw [Int64.toInt_add, fb_bmodL h1 h2]
theorem fb_subL {x y : Int64} (h1 : -9223372036854775808 ≤ x.toInt - y.toInt) (h2 : x.toInt - y.toInt < 9223372036854775808) : (x - y).toInt = x.toInt - y.toInt := by
  rw [Int64.toInt_sub, fb_bmodL h1 h2]
theorem fb_mulL {x y : Int64} (h1 : -9223372036854775808 ≤ x.toInt * y.toInt) (h2 : x.toInt * y.toInt < 9223372036854775808) : (x * y).toInt = x.toInt * y.toInt := by
  rw [Int64.toInt_mul, fb_bmodL h1 h2]
/-! ===== cuts of what is narrow already ===== -/
theorem fb_byte {x : Int32} (h1 : -128 ≤ x.toInt) (h2 : x.toInt < 128) : x.toInt8.toInt32 = x := by
  apply Int32.toInt_inj.1
  rw [Int8.toInt_toInt32, Int32.toInt_toInt8, Int.bmod_eq_of_le (by omega) (by omega)]
theorem fb_short {x : Int32} (h1 : -32768 ≤ x.toInt) (h2 : x.toInt < 32768) : x.toInt16.toInt32 = x := by
  apply Int32.toInt_inj.1
  rw [Int16.toInt_toInt32, Int32.toInt_toInt16, Int.bmod_eq_of_le (by omega) (by omega)]
theorem fb_byte_rng (x : Int32) : -128 ≤ x.toInt8.toInt32.toInt ∧ x.toInt8.toInt32.toInt < 128 := by
  rw [Int8.toInt_toInt32]
  have h1 := Int8.le_toInt x.toInt8
  have h2 := Int8.toInt_lt x.toInt8
  omega
theorem fb_short_rng (x : Int32) : -32768 ≤ x.toInt16.toInt32.toInt ∧ x.toInt16.toInt32.toInt < 32768 := by
  rw [Int16.toInt_toInt32]
  have h1 := Int16.le_toInt x.toInt16
  have h2 := Int16.toInt_lt x.toInt16
  omega
theorem fb_byte_twice (x : Int32) : x.toInt8.toInt32.toInt8.toInt32 = x.toInt8.toInt32 := fb_byte (fb_byte_rng x).1 (fb_byte_rng x).2
theorem fb_short_twice (x : Int32) : x.toInt16.toInt32.toInt16.toInt32 = x.toInt16.toInt32 := fb_short (fb_short_rng x).1 (fb_short_rng x).2
theorem fb_char {n : Nat} (h : n < 65536) : (nI n).toUInt32.toUInt16.toUInt32.toInt32 = nI n := by
  apply Int32.toBitVec_inj.1
  apply BitVec.eq_of_toNat_eq
  have e1 : (nI n).toBitVec.toNat = n := by
    show (BitVec.ofNat 32 n).toNat = n
    rw [BitVec.toNat_ofNat, Nat.mod_eq_of_lt (by omega)]
  have e2 : ((nI n).toUInt32.toUInt16.toUInt32).toNat = n := by
    rw [UInt16.toNat_toUInt32, UInt32.toNat_toUInt16]
    show (nI n).toBitVec.toNat % 2 ^ 16 = n
    rw [e1, Nat.mod_eq_of_lt (by omega)]
  rw [e1]
  exact e2
end
section
/-! ===== BEGIN exceptions that leave a method, and their catching by the caller (launches without stack traces) ===== -/
section VXA
/-! The laws vx_back, vx_callV, vx_callS, vx_callSW, vx_throw0, vx_throwS follow proofs of the library, with one case more: JvmDerived/Free/Laws.lean (Back.of_free), Shelf42/LK1.lean (callV, callS), Shelf/KitTraced.lean (throwNew0V, throwNewS). -/
/-- where a method has thrown q: the class by its name, the cell, what was written, the world -/
def vx_T (XC : String → State → State → Prop) (st : State) (q : Addr) (t : State) (mc ms : Nat) (free : Addr → Prop) : Prop :=
  ∃ (E : String) (ce : Cell) (L : List Loc), XC E st t ∧ t.heap[q]? = some ce ∧ ce.vm = .none ∧ st.vm.findClass E = some ce.cls ∧ st.WarmedH t.vm ∧ st.sameButNew ({ t with vm := st.vm } : State) L mc ms ∧ ∀ z ∈ L, free z.base
def vx_Q (Qc : Array Value → State → Outcome → State → Prop) (XC : String → State → State → Prop) (mc ms : Nat) (free : Addr → Prop) : Array Value → State → Outcome → State → Prop := fun a st o t =>
  (Qc a st o t ∧ ∃ L, FrameEnd st o t L mc ms ∧ ∀ q ∈ L, free q.base) ∨ ∃ q, o = .threw q ∧ vx_T XC st q t mc ms free
/-- a callee that returns or throws -/
def vx_Met (l : Launch) (y : MethodName) (ws : List Cond) (rm : Room) (Pc : Array Value → State → Prop) (Qc : Array Value → State → Outcome → State → Prop) (XC : String → State → State → Prop) (mc ms : Nat) (free : Addr → Prop) : Prop :=
  MetFree l y (headSpec ws rm) Pc (fun _ _ _ _ _ => True) (vx_Q Qc XC mc ms free)
def vx_Post (XC : String → State → State → Prop) (mc ms : Nat) (free : Addr → Prop) : Pt → Array Value → Addr → Pt → Prop := fun A a q B =>
  ∃ (g : JFrame) (mk : MethodId) (t : State) (L : List Loc) (E : String) (ce : Cell), B.U.heap = t.heap ∧ B.U.vm = t.vm ∧ XC E (A.U.calling g mk a) t ∧ t.heap[q]? = some ce ∧ ce.vm = .none ∧ A.U.vm.findClass E = some ce.cls ∧ B.locs = A.locs ++ L ∧ (∀ z ∈ L, free z.base) ∧ B.cells = A.cells + mc ∧ B.slots = A.slots + ms
def vx_Back (l : Launch) (R : Room) (p : Program) (e : Env) (below : List Frame) (s : State) (sargs : Array Value) (y : MethodName) (len W9 : Nat)
    (Pre : Pt → Array Value → Prop) (Post : Pt → Array Value → Option Value → Pt → Prop) (PostX : Pt → Array Value → Addr → Pt → Prop) : Prop :=
  ∀ (m : MethodId) (meth : Method) (c : Code) (A : Pt) (g : JFrame) (ig : Instr) (mk : MethodId) (a : Array Value),
    Stand p l e R s m sargs below meth c A.U A.locs A.cells A.slots → g.method = m → g.locals.size = c.maxLocals → decode c.code g.pc = .ok (ig, len) →
    2 * g.monitorRoom + (g.stack.map fun v => v.category).sum ≤ W9 → A.U.methodNamed? y = some mk → Pre A a →
    (∃ (v : Option Value) (B : Pt), Stand p l e R s m sargs below meth c B.U B.locs B.cells B.slots ∧ Post A a v B ∧
      Steps p.tables e below (doInvoke e (A.U.setTop g) [] mk a).1 (B.U.setTop { g with pc := g.pc + len, stack := v.toList ++ g.stack })) ∨
    (∃ (q : Addr) (B : Pt), Stand p l e R s m sargs below meth c B.U B.locs B.cells B.slots ∧ PostX A a q B ∧
      Steps p.tables e below (doInvoke e (A.U.setTop g) [] mk a).1 ((B.U.setTop g).pushFrame (.throwing q)))
section Payer
variable {l : Launch} {R : Room} {p : Program} {e : Env} {below : List Frame} {s : State} {sargs : Array Value} {y : MethodName} {len W9 : Nat}
theorem vx_back {ws : List Cond} {rm : Room} {Pc : Array Value → State → Prop} {Qc : Array Value → State → Outcome → State → Prop} {XC : String → State → State → Prop} {mc ms : Nat} {free : Addr → Prop} {bytes : ByteArray} {maxL : Nat} {ret : Option FieldType}
    (hM : vx_Met l y ws rm Pc Qc XC mc ms free) (hblind : FrameBlind Pc) (hrc : rm.cells = mc) (hrs : rm.slots = ms)
    (hframes : rm.frames + 1 ≤ R.frames) (hlocals : W9 + (maxL + 11) + rm.locals ≤ R.locals)
    (hws : ∀ w ∈ ws, ∀ a' U, s.WarmedH U.vm → w.before a' U = true) (hcode : Cond.code y bytes maxL ret ∈ ws) (hinit : ∀ a' U, s.WarmedH U.vm → (Cond.initialized y.cls).before a' U = true) :
    vx_Back l R p e below s sargs y len W9 (PreOf R mc ms Pc) (PostOf Qc mc ms free) (vx_Post XC mc ms free) := by
  intro m meth c A g ig mk a X hg hsize hdg hW hn hp
  have h1 : (headSpec ws rm).pre.before a A.U = true := atoms_intro fun w hw => hws w hw _ _ X.warmed
  have h2 : (Cond.code y bytes maxL ret).before a A.U = true := hws _ hcode _ _ X.warmed
  have h3 : (Cond.initialized y.cls).before a A.U = true := hinit _ _ X.warmed
  have h4 : A.cells + (headSpec ws rm).room.cells ≤ R.cells := by rw [show (headSpec ws rm).room.cells = mc from hrc]; exact hp.1
  have h5 : A.slots + (headSpec ws rm).room.slots ≤ R.slots := by rw [show (headSpec ws rm).room.slots = ms from hrs]; exact hp.2.1
  have hPc : Pc a (A.U.calling g mk a) := hblind _ _ _ _ hp.2.2
  obtain ⟨U, Ls, c0, s0⟩ := A
  dsimp only [Pt.U, Pt.locs, Pt.cells, Pt.slots] at h1 h2 h3 h4 h5 X hn hPc ⊢
  obtain ⟨methY, cY, hmY, hcY, -, hlY, -, -, -, -⟩ := Cond.code_spec hn h2
  obtain ⟨kY, hkY, -⟩ := className_of_methodNamed hn
  have hinitY : kY.init = .initialized := Cond.initialized_spec (findClass_of_methodNamed hn) hkY h3
  have h : At U g.method c below := by rw [hg]; exact X.here
  have hlocals9 : W9 + (maxL + 11) + (headSpec ws rm).room.locals ≤ R.locals := hlocals
  have happ : (headSpec ws rm).appliesLoose y e.platform (U.calling g mk a) = true :=
    Spec.appliesLoose_calling (g := g) h hdg hn hkY hinitY
      (X.room_calling (g := g) (R' := (headSpec ws rm).room) hsize hmY hcY hframes (by rw [hlY]; omega) h4 h5) h1
  obtain ⟨mid, hmid⟩ := h.above
  have hfr : (U.setTop g).frames = (.java g :: mid) ++ below := by rw [State.frames_setTop' g h.top, hmid]; rfl
  obtain ⟨o, s₂, hsteps, -, hend, hq⟩ := Steps.callFree hM p X.admits X.cas X.clock (acts := []) hfr happ hPc trivial
  have hq' : vx_Q Qc XC mc ms free a (U.calling g mk a) o s₂ := hq
  rw [State.frames_setTop' g h.top] at hend
  obtain ⟨g₀, hg0⟩ := Option.isSome_iff_exists.mp h.top
  obtain ⟨r, hr⟩ := State.topJava?_eq_some.mp hg0
  have hr' : (({ U with heap := s₂.heap, slotsUsed := s₂.slotsUsed } : State).setVm s₂.vm).frames = .java g₀ :: r := hr
  rcases hq' with ⟨hqc, L, hfe, hL⟩ | ⟨q, rfl, E, ce, L, hx, hce, hcv, hcl, hW₂, hsm, hL⟩
  · obtain ⟨⟨v, rfl⟩, hW₂, e2, q2, q3, q4, q5, q6⟩ := id hfe
    have e3 : s₂ = ({ (U.calling g mk a).setFrames s₂.frames with heap := s₂.heap, slotsUsed := s₂.slotsUsed } : State).setVm s₂.vm := by
      have : s₂ = ({ s₂ with vm := (U.calling g mk a).vm } : State).setVm s₂.vm := rfl
      rw [e2] at this
      exact this
    obtain ⟨c₂, i₂, len₂, hc₂, hd₂, hf₂⟩ := hend
    have hW' : U.WarmedH s₂.vm := hW₂
    have hcc : c₂ = c := by
      have h1 : s₂.code? g.method = U.code? g.method := by
        rw [State.code?_eq, State.code?_eq, hW'.alike.method?]
      exact Option.some.inj (hc₂.symm.trans (h1.trans h.code))
    subst hcc
    have hlen : len₂ = len := by rw [hdg] at hd₂; cases hd₂; rfl
    subst hlen
    have hs₂ : s₂ = (({ U with heap := s₂.heap, slotsUsed := s₂.slotsUsed } : State).setVm s₂.vm).setTop { g with pc := g.pc + len₂, stack := v.toList ++ g.stack } := by
      refine e3.trans ?_
      rw [hf₂, State.calling_eq h.top, State.setFrames_setFrames, State.setTop_of_frames _ hr', hr]
      rfl
    have hsame : U.sameButNew ({ U with heap := s₂.heap, slotsUsed := s₂.slotsUsed } : State) L mc ms := by
      refine ⟨?_, q2, q3, q4, q5, q6⟩
      obtain ⟨t, ht, -⟩ := State.frames_cons hr
      show ({ U with heap := s₂.heap, slotsUsed := s₂.slotsUsed } : State) = { U.setFrames U.frames with heap := s₂.heap, slotsUsed := s₂.slotsUsed }
      rw [State.setFrames_self ht]
    subst hg
    refine Or.inl ⟨v, ⟨(({ U with heap := s₂.heap, slotsUsed := s₂.slotsUsed } : State).setVm s₂.vm), Ls ++ L, c0 + mc, s0 + ms⟩,
      ⟨X.admits, X.cas, X.clock, X.frames, X.room, X.hears, X.method, X.code, (X.here.setHeapUsed s₂.heap s₂.slotsUsed).setVm hW'.alike, X.tail, State.WarmedH.trans X.warmed hW', X.limits, X.bytes, X.same.trans (hsame.setVm s.vm)⟩,
      ⟨g, mk, s₂, L, rfl, rfl, hqc, rfl, hL, rfl, rfl⟩, ?_⟩
    show Steps p.tables e below _ ((({ U with heap := s₂.heap, slotsUsed := s₂.slotsUsed } : State).setVm s₂.vm).setTop { g with pc := g.pc + len₂, stack := v.toList ++ g.stack })
    rw [← hs₂]
    exact hsteps
  · obtain ⟨e2, q2, q3, q4, q5, q6⟩ := id hsm
    have e3 : s₂ = ({ (U.calling g mk a).setFrames s₂.frames with heap := s₂.heap, slotsUsed := s₂.slotsUsed } : State).setVm s₂.vm := by
      have : s₂ = ({ s₂ with vm := (U.calling g mk a).vm } : State).setVm s₂.vm := rfl
      rw [e2] at this
      exact this
    have hf₂ : s₂.frames = .throwing q :: .java g :: U.frames.tail := hend
    have hW' : U.WarmedH s₂.vm := hW₂
    have hs₂ : s₂ = ((({ U with heap := s₂.heap, slotsUsed := s₂.slotsUsed } : State).setVm s₂.vm).setTop g).pushFrame (.throwing q) := by
      refine e3.trans ?_
      rw [hf₂, State.calling_eq h.top, State.setFrames_setFrames, State.pushFrame, State.frames_setTop _ hr', State.setTop_of_frames _ hr', State.setFrames_setFrames, hr]
      rfl
    have hsame : U.sameButNew ({ U with heap := s₂.heap, slotsUsed := s₂.slotsUsed } : State) L mc ms := by
      refine ⟨?_, q2, q3, q4, q5, q6⟩
      obtain ⟨t, ht, -⟩ := State.frames_cons hr
      show ({ U with heap := s₂.heap, slotsUsed := s₂.slotsUsed } : State) = { U.setFrames U.frames with heap := s₂.heap, slotsUsed := s₂.slotsUsed }
      rw [State.setFrames_self ht]
    subst hg
    refine Or.inr ⟨q, ⟨(({ U with heap := s₂.heap, slotsUsed := s₂.slotsUsed } : State).setVm s₂.vm), Ls ++ L, c0 + mc, s0 + ms⟩,
      ⟨X.admits, X.cas, X.clock, X.frames, X.room, X.hears, X.method, X.code, (X.here.setHeapUsed s₂.heap s₂.slotsUsed).setVm hW'.alike, X.tail, State.WarmedH.trans X.warmed hW', X.limits, X.bytes, X.same.trans (hsame.setVm s.vm)⟩,
      ⟨g, mk, s₂, L, E, ce, rfl, rfl, hx, hce, hcv, hcl, rfl, hL, rfl, rfl⟩, ?_⟩
    show Steps p.tables e below _ (((({ U with heap := s₂.heap, slotsUsed := s₂.slotsUsed } : State).setVm s₂.vm).setTop g).pushFrame (.throwing q))
    rw [← hs₂]
    exact hsteps
end Payer
section Calls
variable {p : Program} {l : Launch} {e : Env} {R : Room} {s : State} {m : MethodId} {args : Array Value} {below : List Frame} {meth : Method} {c : Code} {T : State} {locs : List Loc} {cells slots : Nat}
theorem vx_callV (X : Stand p l e R s m args below meth c T locs cells slots) (hexec : p.tables.exec = Jvm.exec) {own C : String} {index : Nat} {y : MethodName} {bytes : ByteArray} {maxL : Nat} {ret : Option FieldType}
    (hown : s.vm.findClass own = some m.cls) (hlink : (Cond.methodLink own index y).before args s = true) (hinst : (Cond.instanceMethod y).before args s = true) (hsel : (Cond.selects C y y).before args s = true)
    (hcode : (Cond.code y bytes maxL ret).before args s = true) (hy : y.cls ≠ "java/lang/invoke/MethodHandle" ∧ y.cls ≠ "java/lang/invoke/VarHandle")
    {W9 : Nat} {Pre : Pt → Array Value → Prop} {Post : Pt → Array Value → Option Value → Pt → Prop} {PostX : Pt → Array Value → Addr → Pt → Prop} (hK : vx_Back l R p e below s args y 3 W9 Pre Post PostX)
    {b : Addr} {cellB : Cell} (hcell : T.heap[b]? = some cellB) (hobj : cellB.vm.isStatics = false) (hcls : s.vm.findClass C = some cellB.cls)
    {g : JFrame} (hg : g.method = m) (hsize : g.locals.size = c.maxLocals) {argsL rest : List Value} (hlen : ∀ sig, parseMethodDescriptor y.desc = some sig → argsL.length = sig.parameters.length)
    (hstack : g.stack = argsL.reverse ++ .ref b :: rest) (hW : 2 * g.monitorRoom + (rest.map fun v => v.category).sum ≤ W9) (hdg : decode c.code g.pc = .ok (.invokevirtual index, 3))
    (hpre : ∀ vm₁, s.WarmedH vm₁ → Pre ⟨T.setVm vm₁, locs, cells, slots⟩ (Value.ref b :: argsL).toArray) :
    (∃ (v : Option Value) (vm₁ : Vm) (B : Pt), s.WarmedH vm₁ ∧ Stand p l e R s m args below meth c B.U B.locs B.cells B.slots ∧ Post ⟨T.setVm vm₁, locs, cells, slots⟩ (Value.ref b :: argsL).toArray v B ∧
      ∀ target, Steps p.tables e below (B.U.setTop { g with pc := g.pc + 3, stack := v.toList ++ rest }) target → Steps p.tables e below (T.setTop g) target) ∨
    (∃ (q : Addr) (vm₁ : Vm) (B : Pt), s.WarmedH vm₁ ∧ Stand p l e R s m args below meth c B.U B.locs B.cells B.slots ∧ PostX ⟨T.setVm vm₁, locs, cells, slots⟩ (Value.ref b :: argsL).toArray q B ∧
      Steps p.tables e below (T.setTop g) ((B.U.setTop { g with stack := rest }).pushFrame (.throwing q))) := by
  obtain ⟨mk, methM, hnamed, hmethM, hstM, habM⟩ := Cond.instanceMethod_spec hinst
  obtain ⟨methM', cM, hmethM', -, -, -, -, -, -, hsigM⟩ := Cond.code_spec hnamed hcode
  cases hmethM.symm.trans hmethM'
  obtain ⟨c2, r2, m2, q1, q2, q3, q4, kP, hkP, hkPi⟩ := Cond.selects_spec hsel
  cases hcls.symm.trans q1
  cases (State.methodFound?_of_named hnamed hy).symm.trans q2
  cases hnamed.symm.trans q3
  have hselP : selectMethod e.platform s.vm cellB.cls mk = .method mk := by rw [Launch.admits_selectMethod X.admits]; exact q4
  obtain ⟨vm₁, X₁, hstep₁⟩ := X.invokevirtual hexec hown hlink hnamed hmethM hstM hkP hkPi hy (a := b) (cell := cellB) hcell
    (fun z h => by rw [h] at hobj; cases hobj) hselP hmethM habM hkP hkPi (g := g) hg (argsL := argsL) (rest := rest) (hlen _ hsigM) hstack hdg
  rcases hK m meth c ⟨T.setVm vm₁, locs, cells, slots⟩ { g with stack := rest } (.invokevirtual index) mk (Value.ref b :: argsL).toArray X₁ hg hsize hdg hW (X₁.named hnamed) (hpre vm₁ X₁.warmed) with ⟨v, B, X', hpost, hsteps⟩ | ⟨q, B, X', hpost, hsteps⟩
  · exact Or.inl ⟨v, vm₁, B, X₁.warmed, X', hpost, fun target h => hstep₁ _ fun acts => by rw [doInvoke_state]; exact hsteps.trans h⟩
  · exact Or.inr ⟨q, vm₁, B, X₁.warmed, X', hpost, hstep₁ _ fun acts => by rw [doInvoke_state]; exact hsteps⟩
theorem vx_callS (X : Stand p l e R s m args below meth c T locs cells slots) (hexec : p.tables.exec = Jvm.exec) {own : String} {index : Nat} {y : MethodName} {bytes : ByteArray} {maxL : Nat} {ret : Option FieldType}
    (hown : s.vm.findClass own = some m.cls) (hlink : (Cond.methodLink own index y).before args s = true) (hstat : (Cond.static y).before args s = true) (hinit : (Cond.initialized y.cls).before args s = true)
    (hcode : (Cond.code y bytes maxL ret).before args s = true) (hy : y.cls ≠ "java/lang/invoke/MethodHandle" ∧ y.cls ≠ "java/lang/invoke/VarHandle")
    {W9 : Nat} {Pre : Pt → Array Value → Prop} {Post : Pt → Array Value → Option Value → Pt → Prop} {PostX : Pt → Array Value → Addr → Pt → Prop} (hK : vx_Back l R p e below s args y 3 W9 Pre Post PostX)
    {g : JFrame} (hg : g.method = m) (hsize : g.locals.size = c.maxLocals) {argsL rest : List Value} (hlen : ∀ sig, parseMethodDescriptor y.desc = some sig → argsL.length = sig.parameters.length)
    (hstack : g.stack = argsL.reverse ++ rest) (hW : 2 * g.monitorRoom + (rest.map fun v => v.category).sum ≤ W9) (hdg : decode c.code g.pc = .ok (.invokestatic index, 3))
    (hpre : ∀ vm₁, s.WarmedH vm₁ → Pre ⟨T.setVm vm₁, locs, cells, slots⟩ argsL.toArray) :
    (∃ (v : Option Value) (vm₁ : Vm) (B : Pt), s.WarmedH vm₁ ∧ Stand p l e R s m args below meth c B.U B.locs B.cells B.slots ∧ Post ⟨T.setVm vm₁, locs, cells, slots⟩ argsL.toArray v B ∧
      ∀ target, Steps p.tables e below (B.U.setTop { g with pc := g.pc + 3, stack := v.toList ++ rest }) target → Steps p.tables e below (T.setTop g) target) ∨
    (∃ (q : Addr) (vm₁ : Vm) (B : Pt), s.WarmedH vm₁ ∧ Stand p l e R s m args below meth c B.U B.locs B.cells B.slots ∧ PostX ⟨T.setVm vm₁, locs, cells, slots⟩ argsL.toArray q B ∧
      Steps p.tables e below (T.setTop g) ((B.U.setTop { g with stack := rest }).pushFrame (.throwing q))) := by
  obtain ⟨mk, hnamed⟩ := Cond.code_named hcode
  obtain ⟨methM, cM, hmethM, -, -, -, -, -, -, hsigM⟩ := Cond.code_spec hnamed hcode
  have hstatic : methM.isStatic = true := Cond.static_spec hnamed hmethM hstat
  obtain ⟨kP, hkP, -⟩ := className_of_methodNamed hnamed
  have hinitP : kP.init = .initialized := Cond.initialized_spec (findClass_of_methodNamed hnamed) hkP hinit
  obtain ⟨vm₁, X₁, hstep₁⟩ := X.invokestatic hexec hown hlink hnamed hmethM hstatic hkP hinitP hy (g := g) hg (argsL := argsL) (rest := rest) (hlen _ hsigM) hstack hdg
  rcases hK m meth c ⟨T.setVm vm₁, locs, cells, slots⟩ { g with stack := rest } (.invokestatic index) mk argsL.toArray X₁ hg hsize hdg hW (X₁.named hnamed) (hpre vm₁ X₁.warmed) with ⟨v, B, X', hpost, hsteps⟩ | ⟨q, B, X', hpost, hsteps⟩
  · exact Or.inl ⟨v, vm₁, B, X₁.warmed, X', hpost, fun target h => hstep₁ _ fun acts => by rw [doInvoke_state]; exact hsteps.trans h⟩
  · exact Or.inr ⟨q, vm₁, B, X₁.warmed, X', hpost, hstep₁ _ fun acts => by rw [doInvoke_state]; exact hsteps⟩
end Calls
theorem vx_cls {s : State} {T : State} {vm₁ : Vm} {E : String} {k : ClassId} (hW : s.WarmedH vm₁) (h : (T.setVm vm₁).vm.findClass E = some k) : s.vm.findClass E = some k := by
  have h1 : vm₁.findClass E = some k := h
  rw [hW.alike.findClass] at h1
  exact h1
/-- the method's frame g, with q thrown over it -/
def vx_W (p : Program) (l : Launch) (e : Env) (R : Room) (s : State) (m : MethodId) (args : Array Value) (below : List Frame) (meth : Method) (c : Code) (H : Heap) (locs : List Loc) (cells slots : Nat) (Q : State → Prop) (g : JFrame) (q : Addr) : Prop :=
  ∀ T : State, T.heap = H → Stand p l e R s m args below meth c T locs cells slots → ∃ t, Steps p.tables e below ((T.setTop g).pushFrame (.throwing q)) t ∧ Q t
def vx_Run (p : Program) (l : Launch) (e : Env) (R : Room) (s : State) (m : MethodId) (args : Array Value) (below : List Frame) (meth : Method) (c : Code) (H : Heap) (locs : List Loc) (cells slots mc ms : Nat) (g : JFrame) (rest : List Value) (Qa : State → Outcome → State → Prop) (XC : String → State → State → Prop) (free : Addr → Prop) : Prop :=
  ∀ T : State, T.heap = H → Stand p l e R s m args below meth c T locs cells slots →
    (∃ (v : Option Value) (st₀ t T' : State) (L : List Loc), st₀.heap = H ∧ Stand p l e R s m args below meth c T' (locs ++ L) (cells + mc) (slots + ms) ∧ (∀ q ∈ L, free q.base) ∧ T'.heap = t.heap ∧ T'.vm = t.vm ∧ Qa st₀ (.returned v) t ∧
      Goes p e below T g T' { g with pc := g.pc + 3, stack := v.toList ++ rest }) ∨
    (∃ (q : Addr) (st₀ t T' : State) (L : List Loc) (E : String) (ce : Cell), st₀.heap = H ∧ Stand p l e R s m args below meth c T' (locs ++ L) (cells + mc) (slots + ms) ∧ (∀ z ∈ L, free z.base) ∧ T'.heap = t.heap ∧ T'.vm = t.vm ∧ XC E st₀ t ∧ t.heap[q]? = some ce ∧ ce.vm = .none ∧ s.vm.findClass E = some ce.cls ∧
      Steps p.tables e below (T.setTop g) ((T'.setTop { g with stack := rest }).pushFrame (.throwing q)))
def vx_X {S : Type} (px : S → Prop) (B : String → S → State → Prop) (A : Nat → Prop) : String → State → State → Prop := fun E st t => ∃ u : S, px u ∧ B E u t ∧ va_F A st t
section Runs
variable {p : Program} {l : Launch} {e : Env} {R : Room} {s : State} {m : MethodId} {args : Array Value} {below : List Frame} {meth : Method} {c : Code} {H : Heap} {locs : List Loc} {cells slots : Nat}
variable {y : MethodName} {bytes cc : ByteArray} {maxL nL mc ms n index : Nat} {ret : Option FieldType} {ws : List Cond} {rm : Room} {Pc : Array Value → State → Prop} {Qc : Array Value → State → Outcome → State → Prop} {XC : String → State → State → Prop} {free : Addr → Prop} {Ts : List Cond} {own C : String} {b : Addr} {As rest : List Value} {g : JFrame}
theorem vx_callBack (cb : CallB R s args own index y bytes maxL ret ws rm mc ms n) (hM : vx_Met l y ws rm Pc Qc XC mc ms free) (hbl : FrameBlind Pc) : vx_Back l R p e below s args y 3 8 (PreOf R mc ms Pc) (PostOf Qc mc ms free) (vx_Post XC mc ms free) := by
  obtain ⟨hrc, hrs, hfr, hlo, hws, hcw, -, hini, -⟩ := cb
  exact vx_back (bytes := bytes) (maxL := maxL) (ret := ret) hM hbl hrc hrs hfr hlo hws hcw (fun a' U hW => word_at hW (Or.inl (by first | rfl | simp [Cond.onTables, Cond.keeps, Cond.steady])) hini)
theorem vx_runV (S : CallFix p m c cc nL s args Ts own) (hM : vx_Met l y ws rm Pc Qc XC mc ms free) (cw : CallW R s args own C index y bytes maxL ret ws rm mc ms n) (hp : PreV s H C b Pc As)
    (hg : g.method = m) (hn : As.length = n) (hsize : g.locals.size = nL) (hstack : g.stack = As.reverse ++ .ref b :: rest) (hW : 2 * g.monitorRoom + (rest.map fun v => v.category).sum ≤ 8) (hdg : decode cc g.pc = .ok (.invokevirtual index, 3)) (hf : cells + mc ≤ R.cells ∧ slots + ms ≤ R.slots) :
    vx_Run p l e R s m args below meth c H locs cells slots mc ms g rest (Qc (Value.ref b :: As).toArray) XC free := by
  have hK : vx_Back l R p e below s args y 3 8 (PreOf R mc ms Pc) (PostOf Qc mc ms free) (vx_Post XC mc ms free) := vx_callBack cw.1 hM hp.1
  obtain ⟨⟨-, -, -, -, -, -, hcode, -, hy, hlen, hl⟩, hin, hse⟩ := cw
  obtain ⟨hx, hb, hml, ho, -⟩ := S
  obtain ⟨-, ⟨cellB, hcB, hoB, hclB⟩, hPc⟩ := hp
  intro T hT X
  rcases vx_callV X hx (C := C) (bytes := bytes) (maxL := maxL) (ret := ret) ho hl hin hse hcode hy hK (by rw [hT]; exact hcB) hoB hclB hg (hsize.trans hml.symm) (argsL := As) (rest := rest) (fun sig h => hn.trans (hlen sig h)) hstack hW (by rw [hb]; exact hdg)
    (fun vm₁ hW₁ => ⟨hf.1, hf.2, hPc (T.setVm vm₁) hT hW₁⟩) with ⟨v, vm₁, ⟨U', l2, c2, s2⟩, hW₁, X', ⟨g', mk, t, L, e1, e2, hq, h1, hL, h2, h3⟩, st⟩ | ⟨q, vm₁, ⟨U', l2, c2, s2⟩, hW₁, X', ⟨g', mk, t, L, E, ce, e1, e2, hq, hce, hcv, hcl, h1, hL, h2, h3⟩, st⟩
  · dsimp only [Pt.U, Pt.locs, Pt.cells, Pt.slots] at X' e1 e2 h1 h2 h3 st
    subst h1; subst h2; subst h3
    exact Or.inl ⟨v, (T.setVm vm₁).calling g' mk (Value.ref b :: As).toArray, t, U', L, hT, X', hL, e1, e2, hq, st⟩
  · dsimp only [Pt.U, Pt.locs, Pt.cells, Pt.slots] at X' e1 e2 h1 h2 h3 st hcl
    subst h1; subst h2; subst h3
    exact Or.inr ⟨q, (T.setVm vm₁).calling g' mk (Value.ref b :: As).toArray, t, U', L, E, ce, hT, X', hL, e1, e2, hq, hce, hcv, vx_cls hW₁ hcl, st⟩
theorem vx_runS (S : CallFix p m c cc nL s args Ts own) (hM : vx_Met l y ws rm Pc Qc XC mc ms free) (cw : CallB R s args own index y bytes maxL ret ws rm mc ms n ∧ (Cond.static y).before args s = true) (hp : PreS s H Pc As)
    (hg : g.method = m) (hn : As.length = n) (hsize : g.locals.size = nL) (hstack : g.stack = As.reverse ++ rest) (hW : 2 * g.monitorRoom + (rest.map fun v => v.category).sum ≤ 8) (hdg : decode cc g.pc = .ok (.invokestatic index, 3)) (hf : cells + mc ≤ R.cells ∧ slots + ms ≤ R.slots) :
    vx_Run p l e R s m args below meth c H locs cells slots mc ms g rest (Qc As.toArray) XC free := by
  have hK : vx_Back l R p e below s args y 3 8 (PreOf R mc ms Pc) (PostOf Qc mc ms free) (vx_Post XC mc ms free) := vx_callBack cw.1 hM hp.1
  obtain ⟨⟨-, -, -, -, -, -, hcode, hini, hy, hlen, hl⟩, hstt⟩ := cw
  obtain ⟨hx, hb, hml, ho, -⟩ := S
  intro T hT X
  rcases vx_callS X hx (bytes := bytes) (maxL := maxL) (ret := ret) ho hl hstt hini hcode hy hK hg (hsize.trans hml.symm) (argsL := As) (rest := rest) (fun sig h => hn.trans (hlen sig h)) hstack hW (by rw [hb]; exact hdg)
    (fun vm₁ hW₁ => ⟨hf.1, hf.2, hp.2 (T.setVm vm₁) hT hW₁⟩) with ⟨v, vm₁, ⟨U', l2, c2, s2⟩, hW₁, X', ⟨g', mk, t, L, e1, e2, hq, h1, hL, h2, h3⟩, st⟩ | ⟨q, vm₁, ⟨U', l2, c2, s2⟩, hW₁, X', ⟨g', mk, t, L, E, ce, e1, e2, hq, hce, hcv, hcl, h1, hL, h2, h3⟩, st⟩
  · dsimp only [Pt.U, Pt.locs, Pt.cells, Pt.slots] at X' e1 e2 h1 h2 h3 st
    subst h1; subst h2; subst h3
    exact Or.inl ⟨v, (T.setVm vm₁).calling g' mk As.toArray, t, U', L, hT, X', hL, e1, e2, hq, st⟩
  · dsimp only [Pt.U, Pt.locs, Pt.cells, Pt.slots] at X' e1 e2 h1 h2 h3 st hcl
    subst h1; subst h2; subst h3
    exact Or.inr ⟨q, (T.setVm vm₁).calling g' mk As.toArray, t, U', L, E, ce, hT, X', hL, e1, e2, hq, hce, hcv, vx_cls hW₁ hcl, st⟩
end Runs
section Rows
variable {p : Program} {l : Launch} {e : Env} {R : Room} {s : State} {m : MethodId} {args : Array Value} {below : List Frame} {meth : Method} {c : Code} {H : Heap} {locs : List Loc} {cells slots : Nat} {Q : State → Prop}
variable {mc ms : Nat} {free : Addr → Prop} {A0 A1 : Nat → Prop} {H0 : Heap} {a : Array Value} {pc : Nat} {ls : Array Slot} {st0 rest : List Value}
theorem vx_keep {st₀ t T' : State} {L : List Loc} (h0 : st₀.heap = H) (e1 : T'.heap = t.heap) (hS : va_S A0 H0 H locs) (hA : ∀ q, q < H.size → A1 q → A0 q) (hf : ∀ q, free q → A0 q) (hL : ∀ q ∈ L, free q.base) (hF : va_F A1 st₀ t) :
    H.size ≤ T'.heap.size ∧ (∀ q : Nat, q < H.size → ¬ A1 q → T'.heap[q]? = H[q]?) ∧ va_S A0 H0 T'.heap (locs ++ L) := by
  obtain ⟨hz, hk⟩ := hF
  rw [h0] at hz hk
  exact ⟨by rw [e1]; exact hz, fun q h1 h2 => by rw [e1]; exact hk q h1 h2,
    ⟨Nat.le_trans hS.1 (by rw [e1]; exact hz), fun q h1 h2 => by rw [e1, hk q (Nat.lt_of_lt_of_le h1 hS.1) (fun z => h2 (hA q (Nat.lt_of_lt_of_le h1 hS.1) z))]; exact hS.2.1 q h1 h2, fun q hq => by
      rcases List.mem_append.mp hq with h | h
      · exact hS.2.2 q h
      · exact hf _ (hL q h)⟩⟩
theorem vx_calli {S SX : Type} {post : Int32 → S → Prop} {px : SX → Prop} {B : S → State → Prop} {BX : String → SX → State → Prop} {AX : Nat → Prop} (hr : vx_Run p l e R s m args below meth c H locs cells slots mc ms (F0 m pc ls st0) rest (va_Qi post B A1 a) (vx_X px BX AX) free) (hS : va_S A0 H0 H locs) (hA : ∀ q, q < H.size → A1 q → A0 q) (hf : ∀ q, free q → A0 q) (hAX : ∀ q, q < H.size → AX q → A0 q)
    (kx : ∀ (E : String) (ce : Cell) (q9 : Addr) (u : SX) (t : State) (H1 : Heap) (locs1 : List Loc), t.heap = H1 → s.vm.Alike t.vm → px u → BX E u t → H.size ≤ H1.size → (∀ q : Nat, q < H.size → ¬ AX q → H1[q]? = H[q]?) → va_S A0 H0 H1 locs1 → H1[q9]? = some ce → ce.vm = .none → s.vm.findClass E = some ce.cls → vx_W p l e R s m args below meth c H1 locs1 (cells + mc) (slots + ms) Q (F0 m pc ls rest) q9)
    (kk : ∀ (r : Int32) (u : S) (t : State) (H1 : Heap) (locs1 : List Loc), t.heap = H1 → s.vm.Alike t.vm → post r u → B u t → H.size ≤ H1.size → (∀ q : Nat, q < H.size → ¬ A1 q → H1[q]? = H[q]?) → va_S A0 H0 H1 locs1 → W p l e R s m args below meth c H1 locs1 (cells + mc) (slots + ms) Q (F0 m (pc + 3) ls (.int r :: rest))) : W p l e R s m args below meth c H locs cells slots Q (F0 m pc ls st0) := by
  intro T hT X
  rcases hr T hT X with ⟨v, st₀, t, T', L, h0, X', hL, e1, e2, ⟨⟨r, u, hv, hp, hb⟩, hF⟩, st⟩ | ⟨q, st₀, t, T', L, E, ce, h0, X', hL, e1, e2, ⟨u, hp, hb, hF⟩, hce, hcv, hcl, st⟩
  · cases hv
    obtain ⟨k1, k2, k3⟩ := vx_keep h0 e1 hS hA hf hL hF
    obtain ⟨t2, a1, b1⟩ := kk r u t T'.heap (locs ++ L) e1.symm (by rw [← e2]; exact X'.warmed.alike) hp hb k1 k2 k3 T' rfl X'
    exact ⟨t2, st t2 a1, b1⟩
  · obtain ⟨k1, k2, k3⟩ := vx_keep h0 e1 hS hAX hf hL hF
    obtain ⟨t2, a1, b1⟩ := kx E ce q u t T'.heap (locs ++ L) e1.symm (by rw [← e2]; exact X'.warmed.alike) hp hb k1 k2 k3 (by rw [e1]; exact hce) hcv hcl T' rfl X'
    exact ⟨t2, st.trans a1, b1⟩
theorem vx_calll {S SX : Type} {post : Int64 → S → Prop} {px : SX → Prop} {B : S → State → Prop} {BX : String → SX → State → Prop} {AX : Nat → Prop} (hr : vx_Run p l e R s m args below meth c H locs cells slots mc ms (F0 m pc ls st0) rest (va_Ql post B A1 a) (vx_X px BX AX) free) (hS : va_S A0 H0 H locs) (hA : ∀ q, q < H.size → A1 q → A0 q) (hf : ∀ q, free q → A0 q) (hAX : ∀ q, q < H.size → AX q → A0 q)
    (kx : ∀ (E : String) (ce : Cell) (q9 : Addr) (u : SX) (t : State) (H1 : Heap) (locs1 : List Loc), t.heap = H1 → s.vm.Alike t.vm → px u → BX E u t → H.size ≤ H1.size → (∀ q : Nat, q < H.size → ¬ AX q → H1[q]? = H[q]?) → va_S A0 H0 H1 locs1 → H1[q9]? = some ce → ce.vm = .none → s.vm.findClass E = some ce.cls → vx_W p l e R s m args below meth c H1 locs1 (cells + mc) (slots + ms) Q (F0 m pc ls rest) q9)
    (kk : ∀ (r : Int64) (u : S) (t : State) (H1 : Heap) (locs1 : List Loc), t.heap = H1 → s.vm.Alike t.vm → post r u → B u t → H.size ≤ H1.size → (∀ q : Nat, q < H.size → ¬ A1 q → H1[q]? = H[q]?) → va_S A0 H0 H1 locs1 → W p l e R s m args below meth c H1 locs1 (cells + mc) (slots + ms) Q (F0 m (pc + 3) ls (.long r :: rest))) : W p l e R s m args below meth c H locs cells slots Q (F0 m pc ls st0) := by
  intro T hT X
  rcases hr T hT X with ⟨v, st₀, t, T', L, h0, X', hL, e1, e2, ⟨⟨r, u, hv, hp, hb⟩, hF⟩, st⟩ | ⟨q, st₀, t, T', L, E, ce, h0, X', hL, e1, e2, ⟨u, hp, hb, hF⟩, hce, hcv, hcl, st⟩
  · cases hv
    obtain ⟨k1, k2, k3⟩ := vx_keep h0 e1 hS hA hf hL hF
    obtain ⟨t2, a1, b1⟩ := kk r u t T'.heap (locs ++ L) e1.symm (by rw [← e2]; exact X'.warmed.alike) hp hb k1 k2 k3 T' rfl X'
    exact ⟨t2, st t2 a1, b1⟩
  · obtain ⟨k1, k2, k3⟩ := vx_keep h0 e1 hS hAX hf hL hF
    obtain ⟨t2, a1, b1⟩ := kx E ce q u t T'.heap (locs ++ L) e1.symm (by rw [← e2]; exact X'.warmed.alike) hp hb k1 k2 k3 (by rw [e1]; exact hce) hcv hcl T' rfl X'
    exact ⟨t2, st.trans a1, b1⟩
theorem vx_callf {S SX : Type} {post : UInt32 → S → Prop} {px : SX → Prop} {B : S → State → Prop} {BX : String → SX → State → Prop} {AX : Nat → Prop} (hr : vx_Run p l e R s m args below meth c H locs cells slots mc ms (F0 m pc ls st0) rest (va_Qf post B A1 a) (vx_X px BX AX) free) (hS : va_S A0 H0 H locs) (hA : ∀ q, q < H.size → A1 q → A0 q) (hf : ∀ q, free q → A0 q) (hAX : ∀ q, q < H.size → AX q → A0 q)
    (kx : ∀ (E : String) (ce : Cell) (q9 : Addr) (u : SX) (t : State) (H1 : Heap) (locs1 : List Loc), t.heap = H1 → s.vm.Alike t.vm → px u → BX E u t → H.size ≤ H1.size → (∀ q : Nat, q < H.size → ¬ AX q → H1[q]? = H[q]?) → va_S A0 H0 H1 locs1 → H1[q9]? = some ce → ce.vm = .none → s.vm.findClass E = some ce.cls → vx_W p l e R s m args below meth c H1 locs1 (cells + mc) (slots + ms) Q (F0 m pc ls rest) q9)
    (kk : ∀ (r : UInt32) (u : S) (t : State) (H1 : Heap) (locs1 : List Loc), t.heap = H1 → s.vm.Alike t.vm → post r u → B u t → H.size ≤ H1.size → (∀ q : Nat, q < H.size → ¬ A1 q → H1[q]? = H[q]?) → va_S A0 H0 H1 locs1 → W p l e R s m args below meth c H1 locs1 (cells + mc) (slots + ms) Q (F0 m (pc + 3) ls (.float r :: rest))) : W p l e R s m args below meth c H locs cells slots Q (F0 m pc ls st0) := by
  intro T hT X
  rcases hr T hT X with ⟨v, st₀, t, T', L, h0, X', hL, e1, e2, ⟨⟨r, u, hv, hp, hb⟩, hF⟩, st⟩ | ⟨q, st₀, t, T', L, E, ce, h0, X', hL, e1, e2, ⟨u, hp, hb, hF⟩, hce, hcv, hcl, st⟩
  · cases hv
    obtain ⟨k1, k2, k3⟩ := vx_keep h0 e1 hS hA hf hL hF
    obtain ⟨t2, a1, b1⟩ := kk r u t T'.heap (locs ++ L) e1.symm (by rw [← e2]; exact X'.warmed.alike) hp hb k1 k2 k3 T' rfl X'
    exact ⟨t2, st t2 a1, b1⟩
  · obtain ⟨k1, k2, k3⟩ := vx_keep h0 e1 hS hAX hf hL hF
    obtain ⟨t2, a1, b1⟩ := kx E ce q u t T'.heap (locs ++ L) e1.symm (by rw [← e2]; exact X'.warmed.alike) hp hb k1 k2 k3 (by rw [e1]; exact hce) hcv hcl T' rfl X'
    exact ⟨t2, st.trans a1, b1⟩
theorem vx_calld {S SX : Type} {post : UInt64 → S → Prop} {px : SX → Prop} {B : S → State → Prop} {BX : String → SX → State → Prop} {AX : Nat → Prop} (hr : vx_Run p l e R s m args below meth c H locs cells slots mc ms (F0 m pc ls st0) rest (va_Qd post B A1 a) (vx_X px BX AX) free) (hS : va_S A0 H0 H locs) (hA : ∀ q, q < H.size → A1 q → A0 q) (hf : ∀ q, free q → A0 q) (hAX : ∀ q, q < H.size → AX q → A0 q)
    (kx : ∀ (E : String) (ce : Cell) (q9 : Addr) (u : SX) (t : State) (H1 : Heap) (locs1 : List Loc), t.heap = H1 → s.vm.Alike t.vm → px u → BX E u t → H.size ≤ H1.size → (∀ q : Nat, q < H.size → ¬ AX q → H1[q]? = H[q]?) → va_S A0 H0 H1 locs1 → H1[q9]? = some ce → ce.vm = .none → s.vm.findClass E = some ce.cls → vx_W p l e R s m args below meth c H1 locs1 (cells + mc) (slots + ms) Q (F0 m pc ls rest) q9)
    (kk : ∀ (r : UInt64) (u : S) (t : State) (H1 : Heap) (locs1 : List Loc), t.heap = H1 → s.vm.Alike t.vm → post r u → B u t → H.size ≤ H1.size → (∀ q : Nat, q < H.size → ¬ A1 q → H1[q]? = H[q]?) → va_S A0 H0 H1 locs1 → W p l e R s m args below meth c H1 locs1 (cells + mc) (slots + ms) Q (F0 m (pc + 3) ls (.double r :: rest))) : W p l e R s m args below meth c H locs cells slots Q (F0 m pc ls st0) := by
  intro T hT X
  rcases hr T hT X with ⟨v, st₀, t, T', L, h0, X', hL, e1, e2, ⟨⟨r, u, hv, hp, hb⟩, hF⟩, st⟩ | ⟨q, st₀, t, T', L, E, ce, h0, X', hL, e1, e2, ⟨u, hp, hb, hF⟩, hce, hcv, hcl, st⟩
  · cases hv
    obtain ⟨k1, k2, k3⟩ := vx_keep h0 e1 hS hA hf hL hF
    obtain ⟨t2, a1, b1⟩ := kk r u t T'.heap (locs ++ L) e1.symm (by rw [← e2]; exact X'.warmed.alike) hp hb k1 k2 k3 T' rfl X'
    exact ⟨t2, st t2 a1, b1⟩
  · obtain ⟨k1, k2, k3⟩ := vx_keep h0 e1 hS hAX hf hL hF
    obtain ⟨t2, a1, b1⟩ := kx E ce q u t T'.heap (locs ++ L) e1.symm (by rw [← e2]; exact X'.warmed.alike) hp hb k1 k2 k3 (by rw [e1]; exact hce) hcv hcl T' rfl X'
    exact ⟨t2, st.trans a1, b1⟩
theorem vx_callv {S SX : Type} {post : S → Prop} {px : SX → Prop} {B : S → State → Prop} {BX : String → SX → State → Prop} {AX : Nat → Prop} (hr : vx_Run p l e R s m args below meth c H locs cells slots mc ms (F0 m pc ls st0) rest (va_Qv post B A1 a) (vx_X px BX AX) free) (hS : va_S A0 H0 H locs) (hA : ∀ q, q < H.size → A1 q → A0 q) (hf : ∀ q, free q → A0 q) (hAX : ∀ q, q < H.size → AX q → A0 q)
    (kx : ∀ (E : String) (ce : Cell) (q9 : Addr) (u : SX) (t : State) (H1 : Heap) (locs1 : List Loc), t.heap = H1 → s.vm.Alike t.vm → px u → BX E u t → H.size ≤ H1.size → (∀ q : Nat, q < H.size → ¬ AX q → H1[q]? = H[q]?) → va_S A0 H0 H1 locs1 → H1[q9]? = some ce → ce.vm = .none → s.vm.findClass E = some ce.cls → vx_W p l e R s m args below meth c H1 locs1 (cells + mc) (slots + ms) Q (F0 m pc ls rest) q9)
    (kk : ∀ (u : S) (t : State) (H1 : Heap) (locs1 : List Loc), t.heap = H1 → s.vm.Alike t.vm → post u → B u t → H.size ≤ H1.size → (∀ q : Nat, q < H.size → ¬ A1 q → H1[q]? = H[q]?) → va_S A0 H0 H1 locs1 → W p l e R s m args below meth c H1 locs1 (cells + mc) (slots + ms) Q (F0 m (pc + 3) ls (rest))) : W p l e R s m args below meth c H locs cells slots Q (F0 m pc ls st0) := by
  intro T hT X
  rcases hr T hT X with ⟨v, st₀, t, T', L, h0, X', hL, e1, e2, ⟨⟨u, hv, hp, hb⟩, hF⟩, st⟩ | ⟨q, st₀, t, T', L, E, ce, h0, X', hL, e1, e2, ⟨u, hp, hb, hF⟩, hce, hcv, hcl, st⟩
  · cases hv
    obtain ⟨k1, k2, k3⟩ := vx_keep h0 e1 hS hA hf hL hF
    obtain ⟨t2, a1, b1⟩ := kk u t T'.heap (locs ++ L) e1.symm (by rw [← e2]; exact X'.warmed.alike) hp hb k1 k2 k3 T' rfl X'
    exact ⟨t2, st t2 a1, b1⟩
  · obtain ⟨k1, k2, k3⟩ := vx_keep h0 e1 hS hAX hf hL hF
    obtain ⟨t2, a1, b1⟩ := kx E ce q u t T'.heap (locs ++ L) e1.symm (by rw [← e2]; exact X'.warmed.alike) hp hb k1 k2 k3 (by rw [e1]; exact hce) hcv hcl T' rfl X'
    exact ⟨t2, st.trans a1, b1⟩
/-- caught by the row x of this method's table; the rows ahead don't take it -/
theorem vx_catch {own name : String} {E : String} {ce : Cell} {q : Addr} (hown : s.vm.findClass own = some m.cls) (pre : List ExceptionTableEntry) (x : ExceptionTableEntry) (suf : List ExceptionTableEntry) (hsplit : c.exceptionTable.toList = pre ++ x :: suf)
    (hpass : ∀ z ∈ pre, covers z pc = false ∨ (z.catchType ≠ 0 ∧ ∃ nm : String, (Cond.classLink own z.catchType nm).before args s = true ∧ va_Nc E nm s)) (hx : covers x pc = true) (h0 : x.catchType ≠ 0)
    (hlink : (Cond.classLink own x.catchType name).before args s = true) (hcast : (Cond.castable E name).before args s = true) (hcell : H[q]? = some ce) (hv : ce.vm = .none) (hcl : s.vm.findClass E = some ce.cls)
    (kk : W p l e R s m args below meth c H locs cells slots Q (F0 m x.handlerPc ls [.ref q])) : vx_W p l e R s m args below meth c H locs cells slots Q (F0 m pc ls rest) q := by
  intro T hT X
  have hpl : e.platform.magicAccessors = ({} : Platform).magicAccessors := by rw [X.admits.platform]
  obtain ⟨c3, c4, hc3, hc4, hasg⟩ := Cond.castable_spec hcast
  cases Option.some.inj (hc3.symm.trans hcl)
  obtain ⟨c5, hc5, hcl5⟩ := Cond.classLink_spec hown hlink e.platform hpl
  cases Option.some.inj (hc4.symm.trans hc5)
  obtain ⟨vm', X', st⟩ := Stand.thenCaughtThrough X q (g := F0 m pc ls rest) rfl (Steps.refl _) (by rw [hT]; exact hcell) (by rw [hv]; rfl) (by obtain ⟨k9, h9, -⟩ := Vm.findClass_spec hcl; exact ⟨k9, h9⟩) pre x suf hsplit
    (fun z hz => by
      rcases hpass z hz with h | ⟨hz0, nm, hl1, hn1⟩
      · exact Or.inl h
      · obtain ⟨c6, hc6, hcl6⟩ := Cond.classLink_spec hown hl1 e.platform hpl
        obtain ⟨a8, b8, h1, h2, h3⟩ := hn1
        cases Option.some.inj (h1.symm.trans hcl)
        cases Option.some.inj (h2.symm.trans hc6)
        exact Or.inr ⟨hz0, _, hcl6, h3⟩) hx (Or.inr ⟨h0, c4, hcl5, hasg⟩)
  obtain ⟨t, a1, b1⟩ := kk (T.setVm vm') hT X'
  exact ⟨t, st.trans a1, b1⟩
end Rows
section Ends
variable {p : Program} {l : Launch} {e : Env} {R : Room} {s : State} {m : MethodId} {args : Array Value} {below : List Frame} {meth : Method} {c : Code} {H : Heap} {locs : List Loc} {cells slots : Nat} {Q : State → Prop}
variable {mc ms : Nat} {free : Addr → Prop} {A0 A1 : Nat → Prop} {H0 : Heap} {a : Array Value} {ls : Array Slot} {st0 rest : List Value}
variable {Qc : Array Value → State → Outcome → State → Prop} {XC : String → State → State → Prop}
/-- what a body that may throw owes at its end -/
def vx_MQ (below : List Frame) (Qc : Array Value → State → Outcome → State → Prop) (XC : String → State → State → Prop) (a : Array Value) (s : State) (mc ms : Nat) (free : Addr → Prop) : State → Prop := fun t =>
  ∃ o, t.status = .running ∧ Ended t below o ∧ vx_Q Qc XC mc ms free a s o t
theorem vx_ret {g : JFrame} {mc ms : Nat} (k : W p l e R s m args below meth c H locs cells slots (MQ below Qc args s mc ms free) g) : W p l e R s m args below meth c H locs cells slots (vx_MQ below Qc XC args s mc ms free) g := by
  intro T hT X
  obtain ⟨t, a1, o, b1, b2, b3, b4⟩ := k T hT X
  exact ⟨t, a1, o, b1, b2, Or.inl ⟨b3, b4⟩⟩
/-- not caught here: it goes on to the caller -/
theorem vx_widen {g : JFrame} {q : Addr} {k n : Nat} (h1 : cells ≤ k) (h2 : slots ≤ n) (kk : vx_W p l e R s m args below meth c H locs k n Q g q) : vx_W p l e R s m args below meth c H locs cells slots Q g q := fun T hT X => kk T hT (stand_widen X h1 h2)
theorem vx_out {pc : Nat} {E : String} {ce : Cell} {q : Addr} {mc ms : Nat} (hout : ∀ x ∈ c.exceptionTable.toList, covers x pc = false) (hlocks : meth.locks = false) (hcell : H[q]? = some ce) (hv : ce.vm = .none) (hcl : s.vm.findClass E = some ce.cls)
    (hx : ∀ t : State, t.heap = H → s.vm.Alike t.vm → XC E s t) (hf : ∀ z ∈ locs, free z.base) (hc : cells ≤ mc) (hs : slots ≤ ms) :
    vx_W p l e R s m args below meth c H locs cells slots (vx_MQ below Qc XC args s mc ms free) (F0 m pc ls rest) q := by
  intro T hT X
  obtain ⟨st1, hrun, hend, hW, hsm⟩ := X.leaveThrown q (g := F0 m pc ls rest) rfl rfl rfl hout hlocks
  have hcell9 : (T.setFrames (.throwing q :: below)).heap[q]? = some ce := by
    show T.heap[q]? = some ce
    rw [hT]; exact hcell
  exact ⟨_, st1, .threw q, hrun, hend, Or.inr ⟨q, rfl, E, ce, locs, hx _ hT hW.alike, hcell9, hv, hcl, hW, hsm.mono hc hs, hf⟩⟩
theorem vx_frame {U : State} {k n : Nat} (h : s.sameButNew ({ U with vm := s.vm } : State) locs k n) : s.heap.size ≤ U.heap.size ∧ ∀ q : Nat, q < s.heap.size → (∀ z ∈ locs, z.base ≠ q) → U.heap[q]? = s.heap[q]? := by
  obtain ⟨-, h2, -, -, -, h6⟩ := h
  refine ⟨h2, fun q hq hz => ?_⟩
  obtain ⟨c9, e1, e2, e3, e4⟩ := h6 q _ (Array.getElem?_eq_getElem hq)
  have hs : c9.slots = (s.heap[q]).slots := Array.ext_getElem? fun i => e4 i fun hm => hz _ hm rfl
  have h9 : c9 = s.heap[q] := by
    rw [hs] at e2
    exact e2
  have e5 : U.heap[q]? = some c9 := e1
  rw [e5, h9, Array.getElem?_eq_getElem hq]
/-- the words of a throw but the four that speak of the heap -/
def vx_no (w : Cond) : Bool := decide (w ≠ .isRef (.static Bundle.tN "UNASSIGNED_STACK" Bundle.steD)) && decide (w ≠ .isRef (.static Bundle.tN "SUPPRESSED_SENTINEL" Bundle.listD)) && decide (w ≠ .laysStatic Bundle.tN "UNASSIGNED_STACK" Bundle.steD) && decide (w ≠ .laysStatic Bundle.tN "SUPPRESSED_SENTINEL" Bundle.listD)
def vx_at0 (own : String) (ic : Nat) (X : String) (names : List String) : List Cond := (Bundle.ownAtoms0 own ic X names).filter vx_no
def vx_atS (own : String) (ic : Nat) (X : String) (names : List String) : List Cond := (Bundle.ownAtoms own ic X names).filter vx_no
/-- a word that the tables alone decide, or a good one -/
def vx_ot (w : Cond) : Bool := w.onTables || goodWord w
theorem vx_ot_at {args a' : Array Value} {s U : State} {w : Cond} (hW : s.WarmedH U.vm) (hvm : s.vm = U.vm) (hg : vx_ot w = true) (h : w.before args s = true) : w.before a' U = true := by
  simp only [vx_ot, Bool.or_eq_true] at hg
  rcases hg with hg | hg
  · exact va_tabs hg hvm h
  · exact word_at hW (good_of_word hg) h
/-- a list's words: the good ones out of the method's own list, the others by premises of their own -/
theorem vx_hat {args : Array Value} {s : State} {L B : List Cond} (h1 : ∀ w ∈ L.filter goodWord, w.before args s = true) (h2 : ∀ w ∈ L.filter (fun w => !goodWord w), w ∈ B) (h3 : ∀ w ∈ B, w.before args s = true) : ∀ w ∈ L, w.before args s = true := by
  intro w hw
  by_cases g : goodWord w = true
  · exact h1 w (List.mem_filter.mpr ⟨hw, g⟩)
  · refine h3 w (h2 w (List.mem_filter.mpr ⟨hw, ?_⟩))
    show (!goodWord w) = true
    cases hgw : goodWord w
    · rfl
    · exact absurd hgw g
theorem vx_c {args : Array Value} {s : State} {w : Cond} {B : List Cond} (h : w.before args s = true) (t : ∀ w ∈ B, w.before args s = true) : ∀ w' ∈ w :: B, w'.before args s = true := fun w' h' => (List.mem_cons.mp h').elim (fun e => by rw [e]; exact h) (t w')
theorem vx_n {args : Array Value} {s : State} : ∀ w ∈ ([] : List Cond), w.before args s = true := fun _ h => nomatch h
theorem vx_own {args : Array Value} {s : State} {L : List Cond} (h1 : ∀ w ∈ L.filter vx_no, w.before args s = true)
    (hU : (Cond.isRef (.static Bundle.tN "UNASSIGNED_STACK" Bundle.steD)).before args s = true) (hN : (Cond.isRef (.static Bundle.tN "SUPPRESSED_SENTINEL" Bundle.listD)).before args s = true)
    (lU : (Cond.laysStatic Bundle.tN "UNASSIGNED_STACK" Bundle.steD).before args s = true) (lN : (Cond.laysStatic Bundle.tN "SUPPRESSED_SENTINEL" Bundle.listD).before args s = true) : ∀ w ∈ L, w.before args s = true := by
  intro w hw
  by_cases e1 : w = .isRef (.static Bundle.tN "UNASSIGNED_STACK" Bundle.steD)
  · rw [e1]; exact hU
  · by_cases e2 : w = .isRef (.static Bundle.tN "SUPPRESSED_SENTINEL" Bundle.listD)
    · rw [e2]; exact hN
    · by_cases e3 : w = .laysStatic Bundle.tN "UNASSIGNED_STACK" Bundle.steD
      · rw [e3]; exact lU
      · by_cases e4 : w = .laysStatic Bundle.tN "SUPPRESSED_SENTINEL" Bundle.listD
        · rw [e4]; exact lN
        · exact h1 w (List.mem_filter.mpr ⟨hw, by unfold vx_no; rw [decide_eq_true e1, decide_eq_true e2, decide_eq_true e3, decide_eq_true e4]; rfl⟩)
/-- where a static field lies, its class's statics cell in H -/
def vx_L (C n d : String) (A : Nat → Prop) (U : State) (H : Heap) : Prop := ∃ (c : ClassId) (k : Class) (i : Nat) (f : Field) (a : Nat) (cell : Cell), U.vm.findClass C = some c ∧ U.fieldFound? C n d = some (c, k, i, f) ∧ f.isStatic = true ∧ k.statics = some a ∧ H[a]? = some cell ∧ cell.vm.isStatics = true ∧ cell.cls = c ∧ f.slot < cell.slots.size ∧ k.staticTypes[f.slot]? = some f.type ∧ ¬ A a
theorem vx_L.moved {C n d : String} {A : Nat → Prop} {u U : State} {H : Heap} (hvm : u.vm.Alike U.vm) (h : vx_L C n d A u H) : vx_L C n d A U H := by
  obtain ⟨c, k, i, f, a, cell, h1, h2, h3, h4, h5, h6, h7, h8, h9, h10⟩ := h
  obtain ⟨k', hi', he⟩ := State.fieldFound?_setVm hvm h2
  exact ⟨c, k', i, f, a, cell, by rw [hvm.findClass]; exact h1, hi', h3, by rw [he]; exact h4, h5, h6, h7, h8, by rw [he]; exact h9, h10⟩
theorem vx_L.kept {C n d : String} {A : Nat → Prop} {U : State} {H H1 : Heap} (h : vx_L C n d A U H) (hq : ∀ a : Nat, a < H.size → ¬ A a → H1[a]? = H[a]?) : vx_L C n d A U H1 := by
  obtain ⟨c, k, i, f, a, cell, h1, h2, h3, h4, h5, h6, h7, h8, h9, h10⟩ := h
  exact ⟨c, k, i, f, a, cell, h1, h2, h3, h4, by rw [hq a (Array.getElem?_eq_some_iff.mp h5).1 h10]; exact h5, h6, h7, h8, h9, h10⟩
theorem vx_L.narrow {C n d : String} {A B : Nat → Prop} {U : State} {H : Heap} (h : vx_L C n d A U H) (hAB : ∀ q, B q → A q) : vx_L C n d B U H := by
  obtain ⟨c, k, i, f, a, cell, h1, h2, h3, h4, h5, h6, h7, h8, h9, h10⟩ := h
  exact ⟨c, k, i, f, a, cell, h1, h2, h3, h4, h5, h6, h7, h8, h9, fun z => h10 (hAB _ z)⟩
theorem vx_L.word {C n d : String} {A : Nat → Prop} {s : State} {args : Array Value} (h : vx_L C n d A s s.heap) : (Cond.laysStatic C n d).before args s = true := by
  obtain ⟨c, k, i, f, a, cell, h1, h2, h3, h4, h5, h6, h7, h8, h9, -⟩ := h
  show (Cond.laysStatic C n d).holds args s none s [] = true
  exact Cond.laysStatic_of h1 h2 h3 h4 h5 h6 h7 h8 h9
/-- .. and what it holds: null or some reference -/
def vx_Zq (C n d : String) (A : Nat → Prop) (U : State) (H : Heap) : Prop := va_Zq C n d A U H ∧ vx_L C n d A U H
theorem vx_Zq.moved {C n d : String} {A : Nat → Prop} {u U : State} {H : Heap} (hvm : u.vm.Alike U.vm) (h : vx_Zq C n d A u H) : vx_Zq C n d A U H := ⟨va_Zq.moved hvm h.1, vx_L.moved hvm h.2⟩
theorem vx_Zq.kept {C n d : String} {A : Nat → Prop} {U : State} {H H1 : Heap} (h : vx_Zq C n d A U H) (hq : ∀ a : Nat, a < H.size → ¬ A a → H1[a]? = H[a]?) : vx_Zq C n d A U H1 := ⟨va_Zq.kept h.1 hq, vx_L.kept h.2 hq⟩
theorem vx_Zq.narrow {C n d : String} {A B : Nat → Prop} {U : State} {H : Heap} (h : vx_Zq C n d A U H) (hAB : ∀ q, B q → A q) : vx_Zq C n d B U H := ⟨va_Zq.narrow h.1 hAB, vx_L.narrow h.2 hAB⟩
theorem vx_Zqof {args : Array Value} {s : State} {C n d : String} {A : Nat → Prop} (hl : (Cond.laysStatic C n d).before args s = true) (hini : (Cond.initialized C).before args s = true) (h : (Cond.isRef (.static C n d)).before args s = true) (hA : ∀ a : Nat, a < s.heap.size → ¬ A a) : vx_Zq C n d A s s.heap := by
  refine ⟨va_Zqof hl hini h hA, ?_⟩
  obtain ⟨c, k, i, f, a, cell, h1, h2, h3, h4, h5, h6, h7, h8, h9⟩ := Cond.laysStatic_spec hl
  exact ⟨c, k, i, f, a, cell, h1, h2, h3, h4, h5, h6, h7, h8, h9, hA a (Array.getElem?_eq_some_iff.mp h5).1⟩
theorem vx_isRef {C n d : String} {v : Value} {A : Nat → Prop} {s : State} {args : Array Value} (h : va_Z C n d v A s s.heap) (hv : v.isRef = true) : (Cond.isRef (.static C n d)).before args s = true := by
  obtain ⟨cf, kf, fi, f, a, cell, h1, h2, h3, h4, h5, h6, h7, -⟩ := h
  have he : (Term.static C n d).eval args s none [] s = some v := by
    simp [Term.eval, State.fieldNamed?, h1, h2, h4, h5, h6, h7]
  simp only [Cond.before, Cond.holds, Cond.value, he]
  cases v <;> simp_all [Value.isRef]
theorem vx_isRefq {C n d : String} {A : Nat → Prop} {s : State} {args : Array Value} (h : va_Zq C n d A s s.heap) : (Cond.isRef (.static C n d)).before args s = true := by
  rcases h with h | ⟨t, h⟩
  · exact vx_isRef h rfl
  · exact vx_isRef h rfl
/-- the same frame, seen from here: as if the method were called anew in this heap -/
theorem vx_rebase {T : State} (X : Stand p l e R s m args below meth c T locs cells slots) {R' : Room} (hf : R'.frames ≤ R.frames) (hl : R'.locals ≤ R.locals) (hc : cells + R'.cells ≤ R.cells) (hs : slots + R'.slots ≤ R.slots) :
    Stand p l e R' ((T.setVm s.vm).setFrames (.invoking m args :: below)) m args below meth c T [] 0 0 := by
  have htop : (T.setVm s.vm).topJava?.isSome := X.here.top
  have hF : ((T.setVm s.vm).setFrames (.invoking m args :: below)).frames = .invoking m args :: below := State.frames_setFrames _ (State.cur_lt_of_top htop)
  obtain ⟨g₀, hg0⟩ := Option.isSome_iff_exists.mp htop
  obtain ⟨r, hr⟩ := State.topJava?_eq_some.mp hg0
  have hl9 : e.platform.stackLimits (T.setVm s.vm).me = e.platform.stackLimits s.me := X.limits
  have hb9 : (T.setVm s.vm).me.stackBytes = s.me.stackBytes := X.bytes
  refine ⟨X.admits, X.cas, X.clock, hF, ?_, X.hears, X.method, X.code, X.here, X.tail, X.warmed, ?_, ?_, ?_⟩
  · have h := X.room
    have hU : ((T.setVm s.vm).setFrames (.invoking m args :: below)).localsInUse = s.localsInUse := by
      rw [State.localsInUse_invoking hF (meth := meth) (c := c) X.method X.code, State.localsInUse_invoking X.frames X.method X.code]
    simp only [State.hasRoom, Bool.and_eq_true, decide_eq_true_eq] at h ⊢
    obtain ⟨⟨⟨⟨h1, h2, h3, h4, h5, h6⟩, h7⟩, h8⟩, h9⟩ := h
    rw [X.frames, List.length_cons] at h2 h3
    have q1 := X.heapSize
    have q2 := X.used
    simp only [hF, hU, List.length_cons, State.stackLimits_setFrames, State.stackBytes_setFrames, hl9, hb9]
    refine ⟨⟨⟨⟨by omega, by omega, by omega, by omega, by omega, h6⟩, ?_⟩, ?_⟩, X.book⟩
    · show T.heap.size + R'.cells ≤ e.platform.maxCells
      omega
    · show T.slotsUsed + R'.slots ≤ e.platform.maxSlots
      omega
  · rw [State.stackLimits_setFrames]; rfl
  · rw [State.stackBytes_setFrames]; rfl
  · refine ⟨?_, Nat.le_refl _, Nat.le_refl _, ?_, ?_, fun a c9 h9 => ⟨c9, h9, rfl, rfl, fun _ _ => rfl⟩⟩
    · obtain ⟨t, ht, -⟩ := State.frames_cons hr
      show T.setVm s.vm = { ((T.setVm s.vm).setFrames (.invoking m args :: below)).setFrames (T.setVm s.vm).frames with heap := T.heap, slotsUsed := T.slotsUsed }
      rw [State.setFrames_setFrames, State.setFrames_self ht]
      rfl
    · show T.slotsUsed = T.slotsUsed + ((T.heap.toList.drop T.heap.size).map (·.slots.size)).sum
      rw [List.drop_eq_nil_of_le (Nat.le_of_eq Array.length_toList)]
      rfl
    · show ((T.heap.toList.drop T.heap.size).map (·.slots.size)).sum ≤ 0
      rw [List.drop_eq_nil_of_le (Nat.le_of_eq Array.length_toList)]
      exact Nat.le_refl _
/-- 'throw new E()': new; dup; invokespecial; athrow -/
theorem vx_throw0 {cc : ByteArray} {pc : Nat} (hexec : p.tables.exec = Jvm.exec) (hb : c.code = cc) (hl : l.stackTraces = false) {own cls : String} {names : List String} {ik ic mc ms : Nat} {A : Nat → Prop}
    (hown : s.vm.findClass own = some m.cls) (hcls : Bundle.fit cls = true) (hnames : ∀ n ∈ names, Bundle.fit n = true)
    (hk : (Cond.classLink own ik cls).before args s = true) (hini : (Cond.initialized cls).before args s = true) (hat : ∀ w ∈ vx_at0 own ic cls names, w.before args s = true)
    (hgood : ∀ w ∈ Cond.classLink own ik cls :: Cond.initialized cls :: vx_at0 own ic cls names, vx_ot w = true)
    (hU : vx_Zq Bundle.tN "UNASSIGNED_STACK" Bundle.steD A s s.heap) (hN : vx_Zq Bundle.tN "SUPPRESSED_SENTINEL" Bundle.listD A s s.heap) (hS : va_S A s.heap H locs) (hsize : ls.size = c.maxLocals)
    (d0 : decode cc pc = .ok (.new ik, 3)) (d3 : decode cc (pc + 3) = .ok (.dup, 1)) (d4 : decode cc (pc + 4) = .ok (.invokespecial ic, 3)) (d7 : decode cc (pc + 7) = .ok (.athrow, 1))
    (hout : ∀ x ∈ c.exceptionTable.toList, covers x (pc + 7) = false)
    (hRframes : names.length + 3 < R.frames) (hRlocals : (rest.map fun v => v.category).sum + (13 * (names.length + 1) + 42) ≤ R.locals) (hRcells : cells + 1 ≤ R.cells) (hRslots : slots + 6 ≤ R.slots) (hlocks : meth.locks = false)
    (hx : ∀ t : State, s.vm.Alike t.vm → H.size ≤ t.heap.size → (∀ q : Nat, q < H.size → t.heap[q]? = H[q]?) → XC cls s t)
    (hf : ∀ z ∈ locs, free z.base) (hc : cells + 1 ≤ mc) (hs : slots + 6 ≤ ms) :
    W p l e R s m args below meth c H locs cells slots (vx_MQ below Qc XC args s mc ms free) (F0 m pc ls rest) := by
  intro T hT X
  have htr : e.platform.stackTraces = false := (show e.platform.stackTraces = l.stackTraces by rw [X.admits.platform]).trans hl
  have Y := vx_rebase X (R' := { frames := R.frames, locals := R.locals, cells := 1, slots := 6 }) (Nat.le_refl _) (Nat.le_refl _) hRcells hRslots
  obtain ⟨s', hA⟩ : ∃ z, z = (T.setVm s.vm).setFrames (.invoking m args :: below) := ⟨_, rfl⟩
  rw [← hA] at Y
  have hvm : s'.vm = s.vm := by rw [hA]; rfl
  have hhp : s'.heap = H := by rw [hA]; exact hT
  have hW0 : s.WarmedH s'.vm := by rw [hvm]; exact State.WarmedH.refl s
  have hat' : ∀ w ∈ vx_at0 own ic cls names, w.before args s' = true := fun w hw => vx_ot_at hW0 hvm.symm (hgood w (List.mem_cons_of_mem _ (List.mem_cons_of_mem _ hw))) (hat w hw)
  have hk' : (Cond.classLink own ik cls).before args s' = true := vx_ot_at hW0 hvm.symm (hgood _ List.mem_cons_self) hk
  have hini' : (Cond.initialized cls).before args s' = true := vx_ot_at hW0 hvm.symm (hgood _ (List.mem_cons_of_mem _ List.mem_cons_self)) hini
  have hU' : vx_Zq Bundle.tN "UNASSIGNED_STACK" Bundle.steD A s' s'.heap := by rw [hhp]; exact vx_Zq.moved hW0.alike (hU.kept hS.2.1)
  have hN' : vx_Zq Bundle.tN "SUPPRESSED_SENTINEL" Bundle.listD A s' s'.heap := by rw [hhp]; exact vx_Zq.moved hW0.alike (hN.kept hS.2.1)
  have h : ∀ w ∈ Bundle.ownAtoms0 own ic cls names, w.before args s' = true := vx_own hat' (vx_isRefq hU'.1) (vx_isRefq hN'.1) hU'.2.word hN'.2.word
  have hown' : s'.vm.findClass own = some m.cls := by rw [hvm]; exact hown
  have hins : (Cond.instantiable cls 6).before args s' = true := h _ (by simp [Bundle.ownAtoms0])
  obtain ⟨vm₁, cX, kX, hfX, hkX, -, -, X₁, st1⟩ := Y.newCold hexec (own := own) (C := cls) (index := ik) (n := 6) hown' hk' hins hini'
    (g := F0 m pc ls rest) rfl (by rw [hb]; exact d0) (Nat.le_refl _) (Nat.le_refl _)
  generalize hT1 : (T.setVm vm₁).pushCell { cls := cX, slots := kX.instanceTypes.map defaultValue, vm := .none } = T1 at X₁ st1
  have hcat : (Value.ref T.heap.size).category = 1 := rfl
  have hcellA : T1.heap[T.heap.size]? = some (freshCell cX kX) := by rw [← hT1]; exact State.heap_pushCell_size _ _
  have d3' : decode c.code (pc + 3) = .ok (.dup, 1) := by rw [hb]; exact d3
  obtain ⟨U, hsteps, hrun, hend, hW, hsame, ce, hce, hO⟩ := X₁.ctorThrow0 hexec htr (own := own) (cls := cls) (names := names) (ic := ic) hown' hcls hnames h (fun x hx => nomatch hx) hfX hkX hcellA (by rw [hhp, hT]; exact Nat.le_refl _)
    (g := { method := m, pc := pc + 4, locals := ls, stack := .ref T.heap.size :: .ref T.heap.size :: rest, locked := none }) rfl hsize rfl rfl (rest := rest) rfl
    (by rw [hb]; exact d4) (by rw [hb]; exact d7) hout hRframes (by simp only [List.map_cons, List.sum_cons, hcat]; omega) hlocks
  obtain ⟨f1, f2⟩ := vx_frame hsame
  rw [hhp] at f1 f2
  have hWs : s.WarmedH U.vm := State.WarmedH.trans hW0 hW
  have hcl : s.vm.findClass cls = some ce.cls := by
    have h9 := hO.cls
    rw [hvm] at h9
    exact h9
  have hall : s.sameButNew ({ U with vm := s.vm } : State) locs mc ms := by
    subst hA
    obtain ⟨e1, e2⟩ := hsame
    rw [State.setFrames_setFrames] at e1
    have h2 : (T.setVm s.vm).sameButNew ({ U with vm := s.vm } : State) [] (0 + 1) (0 + 6) := ⟨e1, e2⟩
    have h3 := X.same.trans h2
    rw [List.append_nil] at h3
    exact h3.mono hc hs
  refine ⟨U, ?_, .threw T.heap.size, hrun, hend, Or.inr ⟨T.heap.size, rfl, cls, ce, locs, hx U hWs.alike f1 (fun q hq => f2 q hq (fun z hz => nomatch hz)), hce, hO.vm, hcl, hWs, hall, hf⟩⟩
  refine st1 _ ?_
  show Steps p.tables e below (T1.setTop { method := m, pc := pc + 3, locals := ls, stack := .ref T.heap.size :: rest, locked := none }) _
  jvm_step X₁.here [X₁.here.top, hexec, d3', Value.category]
  exact hsteps
/-- 'throw new E("text")': new; dup; ldc; invokespecial; athrow -/
theorem vx_throwS {cc : ByteArray} {pc : Nat} (hexec : p.tables.exec = Jvm.exec) (hb : c.code = cc) (hl : l.stackTraces = false) {own cls text : String} {names : List String} {ik is ic mc ms sa : Nat} {A : Nat → Prop}
    (hown : s.vm.findClass own = some m.cls) (hcls : Bundle.fit cls = true) (hnames : ∀ n ∈ names, Bundle.fit n = true)
    (hk : (Cond.classLink own ik cls).before args s = true) (hini : (Cond.initialized cls).before args s = true) (hstr : vk_R own is text sa s) (hat : ∀ w ∈ vx_atS own ic cls names, w.before args s = true)
    (hgood : ∀ w ∈ Cond.classLink own ik cls :: Cond.initialized cls :: vx_atS own ic cls names, vx_ot w = true)
    (hU : vx_Zq Bundle.tN "UNASSIGNED_STACK" Bundle.steD A s s.heap) (hN : vx_Zq Bundle.tN "SUPPRESSED_SENTINEL" Bundle.listD A s s.heap) (hS : va_S A s.heap H locs) (hsize : ls.size = c.maxLocals)
    (d0 : decode cc pc = .ok (.new ik, 3)) (d3 : decode cc (pc + 3) = .ok (.dup, 1)) (d4 : decode cc (pc + 4) = .ok (.ldc is, 2)) (d6 : decode cc (pc + 6) = .ok (.invokespecial ic, 3)) (d9 : decode cc (pc + 9) = .ok (.athrow, 1))
    (hout : ∀ x ∈ c.exceptionTable.toList, covers x (pc + 9) = false)
    (hRframes : names.length + 3 < R.frames) (hRlocals : (rest.map fun v => v.category).sum + (13 * (names.length + 1) + 43) ≤ R.locals) (hRcells : cells + 1 ≤ R.cells) (hRslots : slots + 6 ≤ R.slots) (hlocks : meth.locks = false)
    (hx : ∀ t : State, s.vm.Alike t.vm → H.size ≤ t.heap.size → (∀ q : Nat, q < H.size → t.heap[q]? = H[q]?) → XC cls s t)
    (hf : ∀ z ∈ locs, free z.base) (hc : cells + 1 ≤ mc) (hs : slots + 6 ≤ ms) :
    W p l e R s m args below meth c H locs cells slots (vx_MQ below Qc XC args s mc ms free) (F0 m pc ls rest) := by
  intro T hT X
  have htr : e.platform.stackTraces = false := (show e.platform.stackTraces = l.stackTraces by rw [X.admits.platform]).trans hl
  have Y := vx_rebase X (R' := { frames := R.frames, locals := R.locals, cells := 1, slots := 6 }) (Nat.le_refl _) (Nat.le_refl _) hRcells hRslots
  obtain ⟨s', hA⟩ : ∃ z, z = (T.setVm s.vm).setFrames (.invoking m args :: below) := ⟨_, rfl⟩
  rw [← hA] at Y
  have hvm : s'.vm = s.vm := by rw [hA]; rfl
  have hhp : s'.heap = H := by rw [hA]; exact hT
  have hW0 : s.WarmedH s'.vm := by rw [hvm]; exact State.WarmedH.refl s
  have hat' : ∀ w ∈ vx_atS own ic cls names, w.before args s' = true := fun w hw => vx_ot_at hW0 hvm.symm (hgood w (List.mem_cons_of_mem _ (List.mem_cons_of_mem _ hw))) (hat w hw)
  have hk' : (Cond.classLink own ik cls).before args s' = true := vx_ot_at hW0 hvm.symm (hgood _ List.mem_cons_self) hk
  have hini' : (Cond.initialized cls).before args s' = true := vx_ot_at hW0 hvm.symm (hgood _ (List.mem_cons_of_mem _ List.mem_cons_self)) hini
  have hU' : vx_Zq Bundle.tN "UNASSIGNED_STACK" Bundle.steD A s' s'.heap := by rw [hhp]; exact vx_Zq.moved hW0.alike (hU.kept hS.2.1)
  have hN' : vx_Zq Bundle.tN "SUPPRESSED_SENTINEL" Bundle.listD A s' s'.heap := by rw [hhp]; exact vx_Zq.moved hW0.alike (hN.kept hS.2.1)
  have h : ∀ w ∈ Bundle.ownAtoms own ic cls names, w.before args s' = true := vx_own hat' (vx_isRefq hU'.1) (vx_isRefq hN'.1) hU'.2.word hN'.2.word
  have hown' : s'.vm.findClass own = some m.cls := by rw [hvm]; exact hown
  have hins : (Cond.instantiable cls 6).before args s' = true := h _ (by simp [Bundle.ownAtoms])
  obtain ⟨vm₁, cX, kX, hfX, hkX, -, -, X₁, st1⟩ := Y.newCold hexec (own := own) (C := cls) (index := ik) (n := 6) hown' hk' hins hini'
    (g := F0 m pc ls rest) rfl (by rw [hb]; exact d0) (Nat.le_refl _) (Nat.le_refl _)
  generalize hT1 : (T.setVm vm₁).pushCell { cls := cX, slots := kX.instanceTypes.map defaultValue, vm := .none } = T1 at X₁ st1
  have hcat : (Value.ref T.heap.size).category = 1 := rfl
  have hcellA : T1.heap[T.heap.size]? = some (freshCell cX kX) := by rw [← hT1]; exact State.heap_pushCell_size _ _
  have d3' : decode c.code (pc + 3) = .ok (.dup, 1) := by rw [hb]; exact d3
  have d4' : decode c.code (pc + 4) = .ok (.ldc is, 2) := by rw [hb]; exact d4
  have hstr' : vk_R own is text sa s' := vk_R.warm hW0 hstr
  obtain ⟨U, hsteps, hrun, hend, hW, hsame, ce, hce, hO⟩ := X₁.ctorThrowS hexec htr (own := own) (cls := cls) (names := names) (ic := ic) hown' hcls hnames h (fun x hx => nomatch hx) hfX hkX hcellA (by rw [hhp, hT]; exact Nat.le_refl _) (msg := .ref sa) rfl
    (g := { method := m, pc := pc + 6, locals := ls, stack := .ref sa :: .ref T.heap.size :: .ref T.heap.size :: rest, locked := none }) rfl hsize rfl rfl (rest := rest) rfl
    (by rw [hb]; exact d6) (by rw [hb]; exact d9) hout hRframes (by simp only [List.map_cons, List.sum_cons, hcat]; omega) hlocks
  obtain ⟨f1, f2⟩ := vx_frame hsame
  rw [hhp] at f1 f2
  have hWs : s.WarmedH U.vm := State.WarmedH.trans hW0 hW
  have hcl : s.vm.findClass cls = some ce.cls := by
    have h9 := hO.cls
    rw [hvm] at h9
    exact h9
  have hall : s.sameButNew ({ U with vm := s.vm } : State) locs mc ms := by
    subst hA
    obtain ⟨e1, e2⟩ := hsame
    rw [State.setFrames_setFrames] at e1
    have h2 : (T.setVm s.vm).sameButNew ({ U with vm := s.vm } : State) [] (0 + 1) (0 + 6) := ⟨e1, e2⟩
    have h3 := X.same.trans h2
    rw [List.append_nil] at h3
    exact h3.mono hc hs
  refine ⟨U, ?_, .threw T.heap.size, hrun, hend, Or.inr ⟨T.heap.size, rfl, cls, ce, locs, hx U hWs.alike f1 (fun q hq => f2 q hq (fun z hz => nomatch hz)), hce, hO.vm, hcl, hWs, hall, hf⟩⟩
  refine st1 _ ?_
  show Steps p.tables e below (T1.setTop { method := m, pc := pc + 3, locals := ls, stack := .ref T.heap.size :: rest, locked := none }) _
  jvm_step X₁.here [X₁.here.top, hexec, d3', Value.category]
  exact X₁.ldcString hexec (own := own) (text := text) (index := is) (a := sa) hown' hstr'.1 hstr'.2
    (g := { method := m, pc := pc + 4, locals := ls, stack := .ref T.heap.size :: .ref T.heap.size :: rest, locked := none }) rfl d4' _ hsteps
/-- 'throw new E("text")', the text by a wide index -/
theorem vx_throwSW {cc : ByteArray} {pc : Nat} (hexec : p.tables.exec = Jvm.exec) (hb : c.code = cc) (hl : l.stackTraces = false) {own cls text : String} {names : List String} {ik is ic mc ms sa : Nat} {A : Nat → Prop}
    (hown : s.vm.findClass own = some m.cls) (hcls : Bundle.fit cls = true) (hnames : ∀ n ∈ names, Bundle.fit n = true)
    (hk : (Cond.classLink own ik cls).before args s = true) (hini : (Cond.initialized cls).before args s = true) (hstr : vk_R own is text sa s) (hat : ∀ w ∈ vx_atS own ic cls names, w.before args s = true)
    (hgood : ∀ w ∈ Cond.classLink own ik cls :: Cond.initialized cls :: vx_atS own ic cls names, vx_ot w = true)
    (hU : vx_Zq Bundle.tN "UNASSIGNED_STACK" Bundle.steD A s s.heap) (hN : vx_Zq Bundle.tN "SUPPRESSED_SENTINEL" Bundle.listD A s s.heap) (hS : va_S A s.heap H locs) (hsize : ls.size = c.maxLocals)
    (d0 : decode cc pc = .ok (.new ik, 3)) (d3 : decode cc (pc + 3) = .ok (.dup, 1)) (d4 : decode cc (pc + 4) = .ok (.ldc_w is, 3)) (d7 : decode cc (pc + 7) = .ok (.invokespecial ic, 3)) (d10 : decode cc (pc + 10) = .ok (.athrow, 1))
    (hout : ∀ x ∈ c.exceptionTable.toList, covers x (pc + 10) = false)
    (hRframes : names.length + 3 < R.frames) (hRlocals : (rest.map fun v => v.category).sum + (13 * (names.length + 1) + 43) ≤ R.locals) (hRcells : cells + 1 ≤ R.cells) (hRslots : slots + 6 ≤ R.slots) (hlocks : meth.locks = false)
    (hx : ∀ t : State, s.vm.Alike t.vm → H.size ≤ t.heap.size → (∀ q : Nat, q < H.size → t.heap[q]? = H[q]?) → XC cls s t)
    (hf : ∀ z ∈ locs, free z.base) (hc : cells + 1 ≤ mc) (hs : slots + 6 ≤ ms) :
    W p l e R s m args below meth c H locs cells slots (vx_MQ below Qc XC args s mc ms free) (F0 m pc ls rest) := by
  intro T hT X
  have htr : e.platform.stackTraces = false := (show e.platform.stackTraces = l.stackTraces by rw [X.admits.platform]).trans hl
  have Y := vx_rebase X (R' := { frames := R.frames, locals := R.locals, cells := 1, slots := 6 }) (Nat.le_refl _) (Nat.le_refl _) hRcells hRslots
  obtain ⟨s', hA⟩ : ∃ z, z = (T.setVm s.vm).setFrames (.invoking m args :: below) := ⟨_, rfl⟩
  rw [← hA] at Y
  have hvm : s'.vm = s.vm := by rw [hA]; rfl
  have hhp : s'.heap = H := by rw [hA]; exact hT
  have hW0 : s.WarmedH s'.vm := by rw [hvm]; exact State.WarmedH.refl s
  have hat' : ∀ w ∈ vx_atS own ic cls names, w.before args s' = true := fun w hw => vx_ot_at hW0 hvm.symm (hgood w (List.mem_cons_of_mem _ (List.mem_cons_of_mem _ hw))) (hat w hw)
  have hk' : (Cond.classLink own ik cls).before args s' = true := vx_ot_at hW0 hvm.symm (hgood _ List.mem_cons_self) hk
  have hini' : (Cond.initialized cls).before args s' = true := vx_ot_at hW0 hvm.symm (hgood _ (List.mem_cons_of_mem _ List.mem_cons_self)) hini
  have hU' : vx_Zq Bundle.tN "UNASSIGNED_STACK" Bundle.steD A s' s'.heap := by rw [hhp]; exact vx_Zq.moved hW0.alike (hU.kept hS.2.1)
  have hN' : vx_Zq Bundle.tN "SUPPRESSED_SENTINEL" Bundle.listD A s' s'.heap := by rw [hhp]; exact vx_Zq.moved hW0.alike (hN.kept hS.2.1)
  have h : ∀ w ∈ Bundle.ownAtoms own ic cls names, w.before args s' = true := vx_own hat' (vx_isRefq hU'.1) (vx_isRefq hN'.1) hU'.2.word hN'.2.word
  have hown' : s'.vm.findClass own = some m.cls := by rw [hvm]; exact hown
  have hins : (Cond.instantiable cls 6).before args s' = true := h _ (by simp [Bundle.ownAtoms])
  obtain ⟨vm₁, cX, kX, hfX, hkX, -, -, X₁, st1⟩ := Y.newCold hexec (own := own) (C := cls) (index := ik) (n := 6) hown' hk' hins hini'
    (g := F0 m pc ls rest) rfl (by rw [hb]; exact d0) (Nat.le_refl _) (Nat.le_refl _)
  generalize hT1 : (T.setVm vm₁).pushCell { cls := cX, slots := kX.instanceTypes.map defaultValue, vm := .none } = T1 at X₁ st1
  have hcat : (Value.ref T.heap.size).category = 1 := rfl
  have hcellA : T1.heap[T.heap.size]? = some (freshCell cX kX) := by rw [← hT1]; exact State.heap_pushCell_size _ _
  have d3' : decode c.code (pc + 3) = .ok (.dup, 1) := by rw [hb]; exact d3
  have d4' : decode c.code (pc + 4) = .ok (.ldc_w is, 3) := by rw [hb]; exact d4
  have hstr' : vk_R own is text sa s' := vk_R.warm hW0 hstr
  obtain ⟨U, hsteps, hrun, hend, hW, hsame, ce, hce, hO⟩ := X₁.ctorThrowS hexec htr (own := own) (cls := cls) (names := names) (ic := ic) hown' hcls hnames h (fun x hx => nomatch hx) hfX hkX hcellA (by rw [hhp, hT]; exact Nat.le_refl _) (msg := .ref sa) rfl
    (g := { method := m, pc := pc + 7, locals := ls, stack := .ref sa :: .ref T.heap.size :: .ref T.heap.size :: rest, locked := none }) rfl hsize rfl rfl (rest := rest) rfl
    (by rw [hb]; exact d7) (by rw [hb]; exact d10) hout hRframes (by simp only [List.map_cons, List.sum_cons, hcat]; omega) hlocks
  obtain ⟨f1, f2⟩ := vx_frame hsame
  rw [hhp] at f1 f2
  have hWs : s.WarmedH U.vm := State.WarmedH.trans hW0 hW
  have hcl : s.vm.findClass cls = some ce.cls := by
    have h9 := hO.cls
    rw [hvm] at h9
    exact h9
  have hall : s.sameButNew ({ U with vm := s.vm } : State) locs mc ms := by
    subst hA
    obtain ⟨e1, e2⟩ := hsame
    rw [State.setFrames_setFrames] at e1
    have h2 : (T.setVm s.vm).sameButNew ({ U with vm := s.vm } : State) [] (0 + 1) (0 + 6) := ⟨e1, e2⟩
    have h3 := X.same.trans h2
    rw [List.append_nil] at h3
    exact h3.mono hc hs
  refine ⟨U, ?_, .threw T.heap.size, hrun, hend, Or.inr ⟨T.heap.size, rfl, cls, ce, locs, hx U hWs.alike f1 (fun q hq => f2 q hq (fun z hz => nomatch hz)), hce, hO.vm, hcl, hWs, hall, hf⟩⟩
  refine st1 _ ?_
  show Steps p.tables e below (T1.setTop { method := m, pc := pc + 3, locals := ls, stack := .ref T.heap.size :: rest, locked := none }) _
  jvm_step X₁.here [X₁.here.top, hexec, d3', Value.category]
  exact X₁.ldcStringW hexec (own := own) (text := text) (index := is) (a := sa) hown' hstr'.1 hstr'.2
    (g := { method := m, pc := pc + 4, locals := ls, stack := .ref T.heap.size :: .ref T.heap.size :: rest, locked := none }) rfl d4' _ hsteps
end Ends
section Bodies
variable {l : Launch}
theorem vx_ofW {y : MethodName} {ws ws' : List Cond} {rm : Room} {Pc : Array Value → State → Prop} {Qc : Array Value → State → Outcome → State → Prop} {XC : String → State → State → Prop} {mc ms : Nat} {free : Addr → Prop} {cc : ByteArray} {maxL : Nat} {ret : Option FieldType}
    (hy : plainName y.cls = true) (hw : ws = Cond.code y cc maxL ret :: ws')
    (body : ∀ p e s m args below meth c s₁, BodyLoose p l y (headSpec ws rm) cc maxL ret e s m args below meth c s₁ → c.maxLocals = maxL → (∀ x ∈ c.exceptionTable.toList, False) → Pc args s →
      W p l e (headSpec ws rm).room s m args below meth c s.heap [] 0 0 (vx_MQ below Qc XC args s mc ms free) (entryFrame m args maxL)) : vx_Met l y ws rm Pc Qc XC mc ms free := by
  refine MetFree.of_bodyS (code := cc) (maxLocals := maxL) (ret := ret) hy ?_ ?_
  · intro args s m h hn
    obtain ⟨meth, c, h1, h2, h3, h4, h5, h6, -, -⟩ := Cond.code_spec hn (atoms_spec (ws := ws) h _ (by rw [hw]; exact List.mem_cons_self))
    exact ⟨meth, c, h1, h2, h3, h4, h5, h6⟩
  · intro p e s m args below meth c s₁ B hml hP _
    have hh0 : s₁.heap = s.heap := by rw [B.state]; rfl
    have ht : ∀ x ∈ c.exceptionTable.toList, False := by
      obtain ⟨meth9, c9, h1, h2, -, -, -, -, h7, -⟩ := Cond.code_spec B.named (atoms_spec (ws := ws) B.pre _ (by rw [hw]; exact List.mem_cons_self))
      cases Option.some.inj (h1.symm.trans B.method)
      cases Option.some.inj (h2.symm.trans (Stand.of_body B).code)
      intro x hx
      rw [Array.isEmpty_iff.mp h7] at hx
      cases hx
    obtain ⟨t, a1, o, b1, b2, b3⟩ := body p e s m args below meth c s₁ B hml ht hP s₁ hh0 (Stand.of_body B)
    exact ⟨t, o, a1, b1, b2, b3⟩
/-- the table of a body with handlers -/
theorem vx_table {p : Program} {x y : MethodName} {S : Spec} {cc bytes : ByteArray} {maxL maxL' : Nat} {ret ret' : Option FieldType} {e : Env} {s s₁ : State} {m : MethodId} {args : Array Value} {below : List Frame} {meth : Method} {c : Code} {hh : List (Nat × Nat × Nat × Nat)}
    (B : BodyLoose p l y S cc maxL ret e s m args below meth c s₁) (h : (Cond.codeWith y bytes maxL' ret' hh).before args s = true) : c.exceptionTable.toList = tableOf hh := by
  obtain ⟨m9, meth9, c9, hn9, h1, h2, -, -, h6, -⟩ := Cond.codeWith_spec h
  cases Option.some.inj (hn9.symm.trans B.named)
  cases Option.some.inj (h1.symm.trans B.method)
  cases Option.some.inj (h2.symm.trans (Stand.of_body B).code)
  rw [← h6, table_eq]
end Bodies
end VXA
/-! ===== END ===== -/
/-! ===== BEGIN a static call of a method with an exception table ===== -/
section VXS
variable {p : Program} {l : Launch} {e : Env} {R : Room} {s : State} {m : MethodId} {args : Array Value} {below : List Frame} {meth : Method} {c : Code} {T : State} {H : Heap} {locs : List Loc} {cells slots : Nat}
abbrev vx_CSW (R : Room) (s : State) (args : Array Value) (own : String) (index : Nat) (y : MethodName) (bytes : ByteArray) (maxL : Nat) (ret : Option FieldType) (hh : List (Nat × Nat × Nat × Nat)) (ws : List Cond) (rm : Room) (mc ms n : Nat) : Prop :=
  (rm.cells = mc ∧ rm.slots = ms ∧ rm.frames + 1 ≤ R.frames ∧ 8 + (maxL + 11) + rm.locals ≤ R.locals ∧ (∀ w ∈ ws, ∀ (a' : Array Value) (U : State), s.WarmedH U.vm → w.before a' U = true) ∧ Cond.codeWith y bytes maxL ret hh ∈ ws) ∧
  (Cond.codeWith y bytes maxL ret hh).before args s = true ∧ (Cond.initialized y.cls).before args s = true ∧ (y.cls ≠ "java/lang/invoke/MethodHandle" ∧ y.cls ≠ "java/lang/invoke/VarHandle") ∧
  (∀ sig, parseMethodDescriptor y.desc = some sig → n = sig.parameters.length) ∧ (Cond.methodLink own index y).before args s = true ∧ (Cond.static y).before args s = true
theorem vx_cwSW {own : String} {index maxL mc ms : Nat} {y : MethodName} {bytes : ByteArray} {ret : Option FieldType} {hh : List (Nat × Nat × Nat × Nat)} {Ts ws ws' : List Cond} {rm : Room} (n : Nat) (ht : ∀ w ∈ Ts, w.before args s = true) (hT : GoodIn Ts (va_wsS own index y ws)) (hw : ws = Cond.codeWith y bytes maxL ret hh :: ws') (hrc : rm.cells = mc) (hrs : rm.slots = ms)
    (hd : y.cls ≠ "java/lang/invoke/MethodHandle" ∧ y.cls ≠ "java/lang/invoke/VarHandle" ∧ (parseMethodDescriptor y.desc).map (fun d => d.parameters.length) = some n) (hR : rm.frames + 1 ≤ R.frames ∧ 8 + (maxL + 11) + rm.locals ≤ R.locals) :
    vx_CSW R s args own index y bytes maxL ret hh ws rm mc ms n := by
  have ok : ∀ w ∈ va_wsS own index y ws, w.before args s = true := fun w h => ht w (hT w h).1
  have hG : GoodIn Ts ws := fun w h => hT w (by unfold va_wsS; exact List.mem_append_right _ h)
  have hc : Cond.codeWith y bytes maxL ret hh ∈ ws := by rw [hw]; exact List.mem_cons_self
  refine ⟨⟨hrc, hrs, hR.1, hR.2, pay_in ht hG, hc⟩, ht _ (hG _ hc).1, ok _ (by simp [va_wsS]), ⟨hd.1, hd.2.1⟩, fun sig h => ?_, ok _ (by simp [va_wsS]), ok _ (by simp [va_wsS])⟩
  have h2 := hd.2.2
  rw [h] at h2
  exact (Option.some.inj h2).symm
theorem vx_callSW (X : Stand p l e R s m args below meth c T locs cells slots) (hexec : p.tables.exec = Jvm.exec) {own : String} {index : Nat} {y : MethodName} {bytes : ByteArray} {maxL : Nat} {ret : Option FieldType} {hh : List (Nat × Nat × Nat × Nat)}
    (hown : s.vm.findClass own = some m.cls) (hlink : (Cond.methodLink own index y).before args s = true) (hstat : (Cond.static y).before args s = true) (hinit : (Cond.initialized y.cls).before args s = true)
    (hcode : (Cond.codeWith y bytes maxL ret hh).before args s = true) (hy : y.cls ≠ "java/lang/invoke/MethodHandle" ∧ y.cls ≠ "java/lang/invoke/VarHandle")
    {W9 : Nat} {Pre : Pt → Array Value → Prop} {Post : Pt → Array Value → Option Value → Pt → Prop} (hK : Back l R p e below s args y 3 W9 Pre Post)
    {g : JFrame} (hg : g.method = m) (hsize : g.locals.size = c.maxLocals) {argsL rest : List Value} (hlen : ∀ sig, parseMethodDescriptor y.desc = some sig → argsL.length = sig.parameters.length)
    (hstack : g.stack = argsL.reverse ++ rest) (hW : 2 * g.monitorRoom + (rest.map fun v => v.category).sum ≤ W9) (hdg : decode c.code g.pc = .ok (.invokestatic index, 3))
    (hpre : ∀ vm₁, s.WarmedH vm₁ → Pre ⟨T.setVm vm₁, locs, cells, slots⟩ argsL.toArray) :
    ∃ (v : Option Value) (vm₁ : Vm) (B : Pt), s.WarmedH vm₁ ∧ Stand p l e R s m args below meth c B.U B.locs B.cells B.slots ∧ Post ⟨T.setVm vm₁, locs, cells, slots⟩ argsL.toArray v B ∧
      ∀ target, Steps p.tables e below (B.U.setTop { g with pc := g.pc + 3, stack := v.toList ++ rest }) target → Steps p.tables e below (T.setTop g) target := by
  obtain ⟨mk, methM, cM, hnamed, hmethM, -, -, -, -, -, -, hsigM⟩ := Cond.codeWith_spec hcode
  have hstatic : methM.isStatic = true := Cond.static_spec hnamed hmethM hstat
  obtain ⟨kP, hkP, -⟩ := className_of_methodNamed hnamed
  have hinitP : kP.init = .initialized := Cond.initialized_spec (findClass_of_methodNamed hnamed) hkP hinit
  obtain ⟨vm₁, X₁, hstep₁⟩ := X.invokestatic hexec hown hlink hnamed hmethM hstatic hkP hinitP hy (g := g) hg (argsL := argsL) (rest := rest) (hlen _ hsigM) hstack hdg
  obtain ⟨v, B, X', hpost, hsteps⟩ := hK m meth c ⟨T.setVm vm₁, locs, cells, slots⟩ { g with stack := rest } (.invokestatic index) mk argsL.toArray X₁ hg hsize hdg hW (X₁.named hnamed) (hpre vm₁ X₁.warmed)
  exact ⟨v, vm₁, B, X₁.warmed, X', hpost, fun target h => hstep₁ _ fun acts => by rw [doInvoke_state]; exact hsteps.trans h⟩
theorem vx_runSW {y : MethodName} {bytes cc : ByteArray} {maxL nL mc ms n index : Nat} {ret : Option FieldType} {hh : List (Nat × Nat × Nat × Nat)} {ws : List Cond} {rm : Room} {Pc : Array Value → State → Prop} {Qc : Array Value → State → Outcome → State → Prop} {free : Addr → Prop} {Ts : List Cond} {own : String} {As rest : List Value} {g : JFrame}
    (S : CallFix p m c cc nL s args Ts own) (hM : Met l y ws rm Pc Qc mc ms free) (cw : vx_CSW R s args own index y bytes maxL ret hh ws rm mc ms n) (hp : PreS s H Pc As)
    (hg : g.method = m) (hn : As.length = n) (hsize : g.locals.size = nL) (hstack : g.stack = As.reverse ++ rest) (hW : 2 * g.monitorRoom + (rest.map fun v => v.category).sum ≤ 8) (hdg : decode cc g.pc = .ok (.invokestatic index, 3)) (hf : cells + mc ≤ R.cells ∧ slots + ms ≤ R.slots) :
    va_Run p l e R s m args below meth c H locs cells slots mc ms g rest (Qc As.toArray) (free) := by
  obtain ⟨⟨hrc, hrs, hfr, hlo, hws, hcw⟩, hcode, hini, hy, hlen, hl, hstt⟩ := cw
  have hK : Back l R p e below s args y 3 8 (PreOf R mc ms Pc) (PostOf Qc mc ms free) := va_backW (hh := hh) (bytes := bytes) (maxL := maxL) (ret := ret) hM hp.1 hrc hrs hfr hlo hws hcw (fun a' U hW => word_at hW (Or.inl (by first | rfl | simp [Cond.onTables, Cond.keeps, Cond.steady])) hini)
  obtain ⟨hx, hb, hml, ho, -⟩ := S
  intro T hT X
  obtain ⟨v, vm₁, ⟨U', l2, c2, s2⟩, hW₁, X', ⟨g', mk, t, L, e1, e2, hq, h1, hL, h2, h3⟩, st⟩ := vx_callSW X hx (hh := hh) (bytes := bytes) (maxL := maxL) (ret := ret) ho hl hstt hini hcode hy hK hg (hsize.trans hml.symm) (argsL := As) (rest := rest) (fun sig h => hn.trans (hlen sig h)) hstack hW (by rw [hb]; exact hdg)
    (fun vm₁ hW₁ => ⟨hf.1, hf.2, hp.2 (T.setVm vm₁) hT hW₁⟩)
  dsimp only [Pt.U, Pt.locs, Pt.cells, Pt.slots] at X' e1 e2 h1 h2 h3 st
  subst h1; subst h2; subst h3
  exact ⟨v, (T.setVm vm₁).calling g' mk As.toArray, t, U', L, hT, X', hL, e1, e2, hq, st⟩
/-- not caught here, past rows that name other classes: it goes on to the caller -/
theorem vx_outP {p : Program} {l : Launch} {e : Env} {R : Room} {s : State} {m : MethodId} {args : Array Value} {below : List Frame} {meth : Method} {c : Code} {H : Heap} {locs : List Loc} {cells slots : Nat} {free : Addr → Prop} {ls : Array Slot} {rest : List Value} {Qc : Array Value → State → Outcome → State → Prop} {XC : String → State → State → Prop}
    {pc : Nat} {own E : String} {ce : Cell} {q : Addr} {mc ms : Nat} (hown : s.vm.findClass own = some m.cls) (hlocks : meth.locks = false)
    (hpass : ∀ z ∈ c.exceptionTable.toList, covers z pc = false ∨ (z.catchType ≠ 0 ∧ ∃ nm : String, (Cond.classLink own z.catchType nm).before args s = true ∧ va_Nc E nm s)) (hcell : H[q]? = some ce) (hv : ce.vm = .none) (hcl : s.vm.findClass E = some ce.cls)
    (hx : ∀ t : State, t.heap = H → s.vm.Alike t.vm → XC E s t) (hf : ∀ z ∈ locs, free z.base) (hc : cells ≤ mc) (hs : slots ≤ ms) :
    vx_W p l e R s m args below meth c H locs cells slots (vx_MQ below Qc XC args s mc ms free) (F0 m pc ls rest) q := by
  intro T hT X
  have hpl : e.platform.magicAccessors = ({} : Platform).magicAccessors := by rw [X.admits.platform]
  obtain ⟨vm', hW', X', st⟩ := Stand.outThrough X hlocks q (g := F0 m pc ls rest) rfl rfl rfl (cell := ce) (by rw [hT]; exact hcell) (by rw [hv]; rfl)
    (by obtain ⟨k9, h9, -⟩ := Vm.findClass_spec hcl; exact ⟨k9, h9⟩) (fun z hz => by
      rcases hpass z hz with h | ⟨hz0, nm, hl1, hn1⟩
      · exact Or.inl h
      · obtain ⟨c6, hc6, hcl6⟩ := Cond.classLink_spec hown hl1 e.platform hpl
        obtain ⟨a8, b8, h1, h2, h3⟩ := hn1
        cases Option.some.inj (h1.symm.trans hcl)
        cases Option.some.inj (h2.symm.trans hc6)
        exact Or.inr ⟨hz0, _, hcl6, h3⟩)
  obtain ⟨g₀, hfr⟩ := X'.frames_eq
  have hcell9 : ((T.setVm vm').setFrames (.throwing q :: below)).heap[q]? = some ce := by
    show T.heap[q]? = some ce
    rw [hT]; exact hcell
  have hend : Ended ((T.setVm vm').setFrames (.throwing q :: below)) below (.threw q) := State.frames_setFrames _ (State.cur_lt_of_frames hfr)
  refine ⟨(T.setVm vm').setFrames (.throwing q :: below), ?_, .threw q, X'.here.running, hend, Or.inr ⟨q, rfl, E, ce, locs, hx _ hT (X'.ends _).1.alike, hcell9, hv, hcl, (X'.ends _).1, (X'.ends _).2.mono hc hs, hf⟩⟩
  rw [X.pushThrowing_eq]
  exact st
/-- a thing of a world lies in the heap -/
theorem vx_lt {D : va_G} {cl : List vw_C} {ws : va_W} {H1 : Heap} (h : va_P D cl ws H1) {k : Nat} {q : Nat × va_E} (hk : ws[k]? = some q) : q.1 < H1.size := (h k q hk).lt
end VXS
/-! ===== END ===== -/
/-! ===== BEGIN methods with a table of their own: called by a name, returning or throwing ===== -/
section VXH
/-! vx_backW, vx_callVX, vx_callSX, vx_callVW, vx_runVW, vx_runVX, vx_runSX, vx_ofWH follow the same proofs as their sisters above (Free/Laws.lean, Shelf42/LK1.lean); vx_outP calls Shelf42/NT130.lean (outThrough). -/
section
variable {l : Launch} {R : Room} {p : Program} {e : Env} {below : List Frame} {s : State} {sargs : Array Value} {y : MethodName} {len W9 : Nat}
theorem vx_backW {ws : List Cond} {rm : Room} {Pc : Array Value → State → Prop} {Qc : Array Value → State → Outcome → State → Prop} {XC : String → State → State → Prop} {mc ms : Nat} {free : Addr → Prop} {bytes : ByteArray} {maxL : Nat} {ret : Option FieldType} {hh : List (Nat × Nat × Nat × Nat)}
    (hM : vx_Met l y ws rm Pc Qc XC mc ms free) (hblind : FrameBlind Pc) (hrc : rm.cells = mc) (hrs : rm.slots = ms)
    (hframes : rm.frames + 1 ≤ R.frames) (hlocals : W9 + (maxL + 11) + rm.locals ≤ R.locals)
    (hws : ∀ w ∈ ws, ∀ a' U, s.WarmedH U.vm → w.before a' U = true) (hcode : Cond.codeWith y bytes maxL ret hh ∈ ws) (hinit : ∀ a' U, s.WarmedH U.vm → (Cond.initialized y.cls).before a' U = true) :
    vx_Back l R p e below s sargs y len W9 (PreOf R mc ms Pc) (PostOf Qc mc ms free) (vx_Post XC mc ms free) := by
  intro m meth c A g ig mk a X hg hsize hdg hW hn hp
  have h1 : (headSpec ws rm).pre.before a A.U = true := atoms_intro fun w hw => hws w hw _ _ X.warmed
  have h2 : (Cond.codeWith y bytes maxL ret hh).before a A.U = true := hws _ hcode _ _ X.warmed
  have h3 : (Cond.initialized y.cls).before a A.U = true := hinit _ _ X.warmed
  have h4 : A.cells + (headSpec ws rm).room.cells ≤ R.cells := by rw [show (headSpec ws rm).room.cells = mc from hrc]; exact hp.1
  have h5 : A.slots + (headSpec ws rm).room.slots ≤ R.slots := by rw [show (headSpec ws rm).room.slots = ms from hrs]; exact hp.2.1
  have hPc : Pc a (A.U.calling g mk a) := hblind _ _ _ _ hp.2.2
  obtain ⟨U, Ls, c0, s0⟩ := A
  dsimp only [Pt.U, Pt.locs, Pt.cells, Pt.slots] at h1 h2 h3 h4 h5 X hn hPc ⊢
  obtain ⟨m9, methY, cY, hn9, hmY, hcY, -, hlY, -⟩ := Cond.codeWith_spec h2
  cases Option.some.inj (hn9.symm.trans hn)
  obtain ⟨kY, hkY, -⟩ := className_of_methodNamed hn
  have hinitY : kY.init = .initialized := Cond.initialized_spec (findClass_of_methodNamed hn) hkY h3
  have h : At U g.method c below := by rw [hg]; exact X.here
  have hlocals9 : W9 + (maxL + 11) + (headSpec ws rm).room.locals ≤ R.locals := hlocals
  have happ : (headSpec ws rm).appliesLoose y e.platform (U.calling g mk a) = true :=
    Spec.appliesLoose_calling (g := g) h hdg hn hkY hinitY
      (X.room_calling (g := g) (R' := (headSpec ws rm).room) hsize hmY hcY hframes (by rw [hlY]; omega) h4 h5) h1
  obtain ⟨mid, hmid⟩ := h.above
  have hfr : (U.setTop g).frames = (.java g :: mid) ++ below := by rw [State.frames_setTop' g h.top, hmid]; rfl
  obtain ⟨o, s₂, hsteps, -, hend, hq⟩ := Steps.callFree hM p X.admits X.cas X.clock (acts := []) hfr happ hPc trivial
  have hq' : vx_Q Qc XC mc ms free a (U.calling g mk a) o s₂ := hq
  rw [State.frames_setTop' g h.top] at hend
  obtain ⟨g₀, hg0⟩ := Option.isSome_iff_exists.mp h.top
  obtain ⟨r, hr⟩ := State.topJava?_eq_some.mp hg0
  have hr' : (({ U with heap := s₂.heap, slotsUsed := s₂.slotsUsed } : State).setVm s₂.vm).frames = .java g₀ :: r := hr
  rcases hq' with ⟨hqc, L, hfe, hL⟩ | ⟨q, rfl, E, ce, L, hx, hce, hcv, hcl, hW₂, hsm, hL⟩
  · obtain ⟨⟨v, rfl⟩, hW₂, e2, q2, q3, q4, q5, q6⟩ := id hfe
    have e3 : s₂ = ({ (U.calling g mk a).setFrames s₂.frames with heap := s₂.heap, slotsUsed := s₂.slotsUsed } : State).setVm s₂.vm := by
      have : s₂ = ({ s₂ with vm := (U.calling g mk a).vm } : State).setVm s₂.vm := rfl
      rw [e2] at this
      exact this
    obtain ⟨c₂, i₂, len₂, hc₂, hd₂, hf₂⟩ := hend
    have hW' : U.WarmedH s₂.vm := hW₂
    have hcc : c₂ = c := by
      have h1 : s₂.code? g.method = U.code? g.method := by
        rw [State.code?_eq, State.code?_eq, hW'.alike.method?]
      exact Option.some.inj (hc₂.symm.trans (h1.trans h.code))
    subst hcc
    have hlen : len₂ = len := by rw [hdg] at hd₂; cases hd₂; rfl
    subst hlen
    have hs₂ : s₂ = (({ U with heap := s₂.heap, slotsUsed := s₂.slotsUsed } : State).setVm s₂.vm).setTop { g with pc := g.pc + len₂, stack := v.toList ++ g.stack } := by
      refine e3.trans ?_
      rw [hf₂, State.calling_eq h.top, State.setFrames_setFrames, State.setTop_of_frames _ hr', hr]
      rfl
    have hsame : U.sameButNew ({ U with heap := s₂.heap, slotsUsed := s₂.slotsUsed } : State) L mc ms := by
      refine ⟨?_, q2, q3, q4, q5, q6⟩
      obtain ⟨t, ht, -⟩ := State.frames_cons hr
      show ({ U with heap := s₂.heap, slotsUsed := s₂.slotsUsed } : State) = { U.setFrames U.frames with heap := s₂.heap, slotsUsed := s₂.slotsUsed }
      rw [State.setFrames_self ht]
    subst hg
    refine Or.inl ⟨v, ⟨(({ U with heap := s₂.heap, slotsUsed := s₂.slotsUsed } : State).setVm s₂.vm), Ls ++ L, c0 + mc, s0 + ms⟩,
      ⟨X.admits, X.cas, X.clock, X.frames, X.room, X.hears, X.method, X.code, (X.here.setHeapUsed s₂.heap s₂.slotsUsed).setVm hW'.alike, X.tail, State.WarmedH.trans X.warmed hW', X.limits, X.bytes, X.same.trans (hsame.setVm s.vm)⟩,
      ⟨g, mk, s₂, L, rfl, rfl, hqc, rfl, hL, rfl, rfl⟩, ?_⟩
    show Steps p.tables e below _ ((({ U with heap := s₂.heap, slotsUsed := s₂.slotsUsed } : State).setVm s₂.vm).setTop { g with pc := g.pc + len₂, stack := v.toList ++ g.stack })
    rw [← hs₂]
    exact hsteps
  · obtain ⟨e2, q2, q3, q4, q5, q6⟩ := id hsm
    have e3 : s₂ = ({ (U.calling g mk a).setFrames s₂.frames with heap := s₂.heap, slotsUsed := s₂.slotsUsed } : State).setVm s₂.vm := by
      have : s₂ = ({ s₂ with vm := (U.calling g mk a).vm } : State).setVm s₂.vm := rfl
      rw [e2] at this
      exact this
    have hf₂ : s₂.frames = .throwing q :: .java g :: U.frames.tail := hend
    have hW' : U.WarmedH s₂.vm := hW₂
    have hs₂ : s₂ = ((({ U with heap := s₂.heap, slotsUsed := s₂.slotsUsed } : State).setVm s₂.vm).setTop g).pushFrame (.throwing q) := by
      refine e3.trans ?_
      rw [hf₂, State.calling_eq h.top, State.setFrames_setFrames, State.pushFrame, State.frames_setTop _ hr', State.setTop_of_frames _ hr', State.setFrames_setFrames, hr]
      rfl
    have hsame : U.sameButNew ({ U with heap := s₂.heap, slotsUsed := s₂.slotsUsed } : State) L mc ms := by
      refine ⟨?_, q2, q3, q4, q5, q6⟩
      obtain ⟨t, ht, -⟩ := State.frames_cons hr
      show ({ U with heap := s₂.heap, slotsUsed := s₂.slotsUsed } : State) = { U.setFrames U.frames with heap := s₂.heap, slotsUsed := s₂.slotsUsed }
      rw [State.setFrames_self ht]
    subst hg
    refine Or.inr ⟨q, ⟨(({ U with heap := s₂.heap, slotsUsed := s₂.slotsUsed } : State).setVm s₂.vm), Ls ++ L, c0 + mc, s0 + ms⟩,
      ⟨X.admits, X.cas, X.clock, X.frames, X.room, X.hears, X.method, X.code, (X.here.setHeapUsed s₂.heap s₂.slotsUsed).setVm hW'.alike, X.tail, State.WarmedH.trans X.warmed hW', X.limits, X.bytes, X.same.trans (hsame.setVm s.vm)⟩,
      ⟨g, mk, s₂, L, E, ce, rfl, rfl, hx, hce, hcv, hcl, rfl, hL, rfl, rfl⟩, ?_⟩
    show Steps p.tables e below _ (((({ U with heap := s₂.heap, slotsUsed := s₂.slotsUsed } : State).setVm s₂.vm).setTop g).pushFrame (.throwing q))
    rw [← hs₂]
    exact hsteps
end
variable {p : Program} {l : Launch} {e : Env} {R : Room} {s : State} {m : MethodId} {args : Array Value} {below : List Frame} {meth : Method} {c : Code} {T : State} {H : Heap} {locs : List Loc} {cells slots : Nat}
theorem vx_callVX (X : Stand p l e R s m args below meth c T locs cells slots) (hexec : p.tables.exec = Jvm.exec) {own C : String} {index : Nat} {y : MethodName} {bytes : ByteArray} {maxL : Nat} {ret : Option FieldType} {hh : List (Nat × Nat × Nat × Nat)}
    (hown : s.vm.findClass own = some m.cls) (hlink : (Cond.methodLink own index y).before args s = true) (hinst : (Cond.instanceMethod y).before args s = true) (hsel : (Cond.selects C y y).before args s = true)
    (hcode : (Cond.codeWith y bytes maxL ret hh).before args s = true) (hy : y.cls ≠ "java/lang/invoke/MethodHandle" ∧ y.cls ≠ "java/lang/invoke/VarHandle")
    {W9 : Nat} {Pre : Pt → Array Value → Prop} {Post : Pt → Array Value → Option Value → Pt → Prop} {PostX : Pt → Array Value → Addr → Pt → Prop} (hK : vx_Back l R p e below s args y 3 W9 Pre Post PostX)
    {b : Addr} {cellB : Cell} (hcell : T.heap[b]? = some cellB) (hobj : cellB.vm.isStatics = false) (hcls : s.vm.findClass C = some cellB.cls)
    {g : JFrame} (hg : g.method = m) (hsize : g.locals.size = c.maxLocals) {argsL rest : List Value} (hlen : ∀ sig, parseMethodDescriptor y.desc = some sig → argsL.length = sig.parameters.length)
    (hstack : g.stack = argsL.reverse ++ .ref b :: rest) (hW : 2 * g.monitorRoom + (rest.map fun v => v.category).sum ≤ W9) (hdg : decode c.code g.pc = .ok (.invokevirtual index, 3))
    (hpre : ∀ vm₁, s.WarmedH vm₁ → Pre ⟨T.setVm vm₁, locs, cells, slots⟩ (Value.ref b :: argsL).toArray) :
    (∃ (v : Option Value) (vm₁ : Vm) (B : Pt), s.WarmedH vm₁ ∧ Stand p l e R s m args below meth c B.U B.locs B.cells B.slots ∧ Post ⟨T.setVm vm₁, locs, cells, slots⟩ (Value.ref b :: argsL).toArray v B ∧
      ∀ target, Steps p.tables e below (B.U.setTop { g with pc := g.pc + 3, stack := v.toList ++ rest }) target → Steps p.tables e below (T.setTop g) target) ∨
    (∃ (q : Addr) (vm₁ : Vm) (B : Pt), s.WarmedH vm₁ ∧ Stand p l e R s m args below meth c B.U B.locs B.cells B.slots ∧ PostX ⟨T.setVm vm₁, locs, cells, slots⟩ (Value.ref b :: argsL).toArray q B ∧
      Steps p.tables e below (T.setTop g) ((B.U.setTop { g with stack := rest }).pushFrame (.throwing q))) := by
  obtain ⟨mk, methM, hnamed, hmethM, hstM, habM⟩ := Cond.instanceMethod_spec hinst
  obtain ⟨m8, methM', cM, hn8, hmethM', -, -, -, -, -, -, hsigM⟩ := Cond.codeWith_spec hcode
  cases Option.some.inj (hn8.symm.trans hnamed)
  cases hmethM.symm.trans hmethM'
  obtain ⟨c2, r2, m2, q1, q2, q3, q4, kP, hkP, hkPi⟩ := Cond.selects_spec hsel
  cases hcls.symm.trans q1
  cases (State.methodFound?_of_named hnamed hy).symm.trans q2
  cases hnamed.symm.trans q3
  have hselP : selectMethod e.platform s.vm cellB.cls mk = .method mk := by rw [Launch.admits_selectMethod X.admits]; exact q4
  obtain ⟨vm₁, X₁, hstep₁⟩ := X.invokevirtual hexec hown hlink hnamed hmethM hstM hkP hkPi hy (a := b) (cell := cellB) hcell
    (fun z h => by rw [h] at hobj; cases hobj) hselP hmethM habM hkP hkPi (g := g) hg (argsL := argsL) (rest := rest) (hlen _ hsigM) hstack hdg
  rcases hK m meth c ⟨T.setVm vm₁, locs, cells, slots⟩ { g with stack := rest } (.invokevirtual index) mk (Value.ref b :: argsL).toArray X₁ hg hsize hdg hW (X₁.named hnamed) (hpre vm₁ X₁.warmed) with ⟨v, B, X', hpost, hsteps⟩ | ⟨q, B, X', hpost, hsteps⟩
  · exact Or.inl ⟨v, vm₁, B, X₁.warmed, X', hpost, fun target h => hstep₁ _ fun acts => by rw [doInvoke_state]; exact hsteps.trans h⟩
  · exact Or.inr ⟨q, vm₁, B, X₁.warmed, X', hpost, hstep₁ _ fun acts => by rw [doInvoke_state]; exact hsteps⟩
theorem vx_callSX (X : Stand p l e R s m args below meth c T locs cells slots) (hexec : p.tables.exec = Jvm.exec) {own : String} {index : Nat} {y : MethodName} {bytes : ByteArray} {maxL : Nat} {ret : Option FieldType} {hh : List (Nat × Nat × Nat × Nat)}
    (hown : s.vm.findClass own = some m.cls) (hlink : (Cond.methodLink own index y).before args s = true) (hstat : (Cond.static y).before args s = true) (hinit : (Cond.initialized y.cls).before args s = true)
    (hcode : (Cond.codeWith y bytes maxL ret hh).before args s = true) (hy : y.cls ≠ "java/lang/invoke/MethodHandle" ∧ y.cls ≠ "java/lang/invoke/VarHandle")
    {W9 : Nat} {Pre : Pt → Array Value → Prop} {Post : Pt → Array Value → Option Value → Pt → Prop} {PostX : Pt → Array Value → Addr → Pt → Prop} (hK : vx_Back l R p e below s args y 3 W9 Pre Post PostX)
    {g : JFrame} (hg : g.method = m) (hsize : g.locals.size = c.maxLocals) {argsL rest : List Value} (hlen : ∀ sig, parseMethodDescriptor y.desc = some sig → argsL.length = sig.parameters.length)
    (hstack : g.stack = argsL.reverse ++ rest) (hW : 2 * g.monitorRoom + (rest.map fun v => v.category).sum ≤ W9) (hdg : decode c.code g.pc = .ok (.invokestatic index, 3))
    (hpre : ∀ vm₁, s.WarmedH vm₁ → Pre ⟨T.setVm vm₁, locs, cells, slots⟩ argsL.toArray) :
    (∃ (v : Option Value) (vm₁ : Vm) (B : Pt), s.WarmedH vm₁ ∧ Stand p l e R s m args below meth c B.U B.locs B.cells B.slots ∧ Post ⟨T.setVm vm₁, locs, cells, slots⟩ argsL.toArray v B ∧
      ∀ target, Steps p.tables e below (B.U.setTop { g with pc := g.pc + 3, stack := v.toList ++ rest }) target → Steps p.tables e below (T.setTop g) target) ∨
    (∃ (q : Addr) (vm₁ : Vm) (B : Pt), s.WarmedH vm₁ ∧ Stand p l e R s m args below meth c B.U B.locs B.cells B.slots ∧ PostX ⟨T.setVm vm₁, locs, cells, slots⟩ argsL.toArray q B ∧
      Steps p.tables e below (T.setTop g) ((B.U.setTop { g with stack := rest }).pushFrame (.throwing q))) := by
  obtain ⟨mk, methM, cM, hnamed, hmethM, -, -, -, -, -, -, hsigM⟩ := Cond.codeWith_spec hcode
  have hstatic : methM.isStatic = true := Cond.static_spec hnamed hmethM hstat
  obtain ⟨kP, hkP, -⟩ := className_of_methodNamed hnamed
  have hinitP : kP.init = .initialized := Cond.initialized_spec (findClass_of_methodNamed hnamed) hkP hinit
  obtain ⟨vm₁, X₁, hstep₁⟩ := X.invokestatic hexec hown hlink hnamed hmethM hstatic hkP hinitP hy (g := g) hg (argsL := argsL) (rest := rest) (hlen _ hsigM) hstack hdg
  rcases hK m meth c ⟨T.setVm vm₁, locs, cells, slots⟩ { g with stack := rest } (.invokestatic index) mk argsL.toArray X₁ hg hsize hdg hW (X₁.named hnamed) (hpre vm₁ X₁.warmed) with ⟨v, B, X', hpost, hsteps⟩ | ⟨q, B, X', hpost, hsteps⟩
  · exact Or.inl ⟨v, vm₁, B, X₁.warmed, X', hpost, fun target h => hstep₁ _ fun acts => by rw [doInvoke_state]; exact hsteps.trans h⟩
  · exact Or.inr ⟨q, vm₁, B, X₁.warmed, X', hpost, hstep₁ _ fun acts => by rw [doInvoke_state]; exact hsteps⟩
theorem vx_callVW (X : Stand p l e R s m args below meth c T locs cells slots) (hexec : p.tables.exec = Jvm.exec) {own C : String} {index : Nat} {y : MethodName} {bytes : ByteArray} {maxL : Nat} {ret : Option FieldType} {hh : List (Nat × Nat × Nat × Nat)}
    (hown : s.vm.findClass own = some m.cls) (hlink : (Cond.methodLink own index y).before args s = true) (hinst : (Cond.instanceMethod y).before args s = true) (hsel : (Cond.selects C y y).before args s = true)
    (hcode : (Cond.codeWith y bytes maxL ret hh).before args s = true) (hy : y.cls ≠ "java/lang/invoke/MethodHandle" ∧ y.cls ≠ "java/lang/invoke/VarHandle")
    {W9 : Nat} {Pre : Pt → Array Value → Prop} {Post : Pt → Array Value → Option Value → Pt → Prop} (hK : Back l R p e below s args y 3 W9 Pre Post)
    {b : Addr} {cellB : Cell} (hcell : T.heap[b]? = some cellB) (hobj : cellB.vm.isStatics = false) (hcls : s.vm.findClass C = some cellB.cls)
    {g : JFrame} (hg : g.method = m) (hsize : g.locals.size = c.maxLocals) {argsL rest : List Value} (hlen : ∀ sig, parseMethodDescriptor y.desc = some sig → argsL.length = sig.parameters.length)
    (hstack : g.stack = argsL.reverse ++ .ref b :: rest) (hW : 2 * g.monitorRoom + (rest.map fun v => v.category).sum ≤ W9) (hdg : decode c.code g.pc = .ok (.invokevirtual index, 3))
    (hpre : ∀ vm₁, s.WarmedH vm₁ → Pre ⟨T.setVm vm₁, locs, cells, slots⟩ (Value.ref b :: argsL).toArray) :
    ∃ (v : Option Value) (vm₁ : Vm) (B : Pt), s.WarmedH vm₁ ∧ Stand p l e R s m args below meth c B.U B.locs B.cells B.slots ∧ Post ⟨T.setVm vm₁, locs, cells, slots⟩ (Value.ref b :: argsL).toArray v B ∧
      ∀ target, Steps p.tables e below (B.U.setTop { g with pc := g.pc + 3, stack := v.toList ++ rest }) target → Steps p.tables e below (T.setTop g) target := by
  obtain ⟨mk, methM, hnamed, hmethM, hstM, habM⟩ := Cond.instanceMethod_spec hinst
  obtain ⟨m8, methM', cM, hn8, hmethM', -, -, -, -, -, -, hsigM⟩ := Cond.codeWith_spec hcode
  cases Option.some.inj (hn8.symm.trans hnamed)
  cases hmethM.symm.trans hmethM'
  obtain ⟨c2, r2, m2, q1, q2, q3, q4, kP, hkP, hkPi⟩ := Cond.selects_spec hsel
  cases hcls.symm.trans q1
  cases (State.methodFound?_of_named hnamed hy).symm.trans q2
  cases hnamed.symm.trans q3
  have hselP : selectMethod e.platform s.vm cellB.cls mk = .method mk := by rw [Launch.admits_selectMethod X.admits]; exact q4
  obtain ⟨vm₁, X₁, hstep₁⟩ := X.invokevirtual hexec hown hlink hnamed hmethM hstM hkP hkPi hy (a := b) (cell := cellB) hcell
    (fun z h => by rw [h] at hobj; cases hobj) hselP hmethM habM hkP hkPi (g := g) hg (argsL := argsL) (rest := rest) (hlen _ hsigM) hstack hdg
  obtain ⟨v, B, X', hpost, hsteps⟩ := hK m meth c ⟨T.setVm vm₁, locs, cells, slots⟩ { g with stack := rest } (.invokevirtual index) mk (Value.ref b :: argsL).toArray X₁ hg hsize hdg hW (X₁.named hnamed) (hpre vm₁ X₁.warmed)
  exact ⟨v, vm₁, B, X₁.warmed, X', hpost, fun target h => hstep₁ _ fun acts => by rw [doInvoke_state]; exact hsteps.trans h⟩
abbrev vx_CVW (R : Room) (s : State) (args : Array Value) (own C : String) (index : Nat) (y : MethodName) (bytes : ByteArray) (maxL : Nat) (ret : Option FieldType) (hh : List (Nat × Nat × Nat × Nat)) (ws : List Cond) (rm : Room) (mc ms n : Nat) : Prop :=
  (rm.cells = mc ∧ rm.slots = ms ∧ rm.frames + 1 ≤ R.frames ∧ 8 + (maxL + 11) + rm.locals ≤ R.locals ∧ (∀ w ∈ ws, ∀ (a' : Array Value) (U : State), s.WarmedH U.vm → w.before a' U = true) ∧ Cond.codeWith y bytes maxL ret hh ∈ ws) ∧
  (Cond.codeWith y bytes maxL ret hh).before args s = true ∧ (Cond.initialized y.cls).before args s = true ∧ (y.cls ≠ "java/lang/invoke/MethodHandle" ∧ y.cls ≠ "java/lang/invoke/VarHandle") ∧
  (∀ sig, parseMethodDescriptor y.desc = some sig → n = sig.parameters.length) ∧ (Cond.methodLink own index y).before args s = true ∧ (Cond.instanceMethod y).before args s = true ∧ (Cond.selects C y y).before args s = true
theorem vx_cwVW {own C : String} {index maxL mc ms : Nat} {y : MethodName} {bytes : ByteArray} {ret : Option FieldType} {hh : List (Nat × Nat × Nat × Nat)} {Ts ws ws' : List Cond} {rm : Room} (n : Nat) (ht : ∀ w ∈ Ts, w.before args s = true) (hT : GoodIn Ts (wsV own index C y ws)) (hw : ws = Cond.codeWith y bytes maxL ret hh :: ws') (hrc : rm.cells = mc) (hrs : rm.slots = ms)
    (hd : y.cls = C ∧ y.cls ≠ "java/lang/invoke/MethodHandle" ∧ y.cls ≠ "java/lang/invoke/VarHandle" ∧ (parseMethodDescriptor y.desc).map (fun d => d.parameters.length) = some n) (hR : rm.frames + 1 ≤ R.frames ∧ 8 + (maxL + 11) + rm.locals ≤ R.locals) :
    vx_CVW R s args own C index y bytes maxL ret hh ws rm mc ms n := by
  obtain ⟨hC, hd⟩ := hd
  subst hC
  have ok : ∀ w ∈ wsV own index y.cls y ws, w.before args s = true := fun w h => ht w (hT w h).1
  have hG : GoodIn Ts ws := fun w h => hT w (by unfold wsV; exact List.mem_append_right _ h)
  have hc : Cond.codeWith y bytes maxL ret hh ∈ ws := by rw [hw]; exact List.mem_cons_self
  refine ⟨⟨hrc, hrs, hR.1, hR.2, pay_in ht hG, hc⟩, ht _ (hG _ hc).1, ok _ (by simp [wsV]), ⟨hd.1, hd.2.1⟩, fun sig h => ?_, ok _ (by simp [wsV]), ok _ (by simp [wsV]), ok _ (by simp [wsV])⟩
  have h2 := hd.2.2
  rw [h] at h2
  exact (Option.some.inj h2).symm
theorem vx_runVW {y : MethodName} {bytes cc : ByteArray} {maxL nL mc ms n index : Nat} {ret : Option FieldType} {hh : List (Nat × Nat × Nat × Nat)} {ws : List Cond} {rm : Room} {Pc : Array Value → State → Prop} {Qc : Array Value → State → Outcome → State → Prop} {free : Addr → Prop} {Ts : List Cond} {own C : String} {b : Addr} {As rest : List Value} {g : JFrame}
    (S : CallFix p m c cc nL s args Ts own) (hM : Met l y ws rm Pc Qc mc ms free) (cw : vx_CVW R s args own C index y bytes maxL ret hh ws rm mc ms n) (hp : PreV s H C b Pc As)
    (hg : g.method = m) (hn : As.length = n) (hsize : g.locals.size = nL) (hstack : g.stack = As.reverse ++ .ref b :: rest) (hW : 2 * g.monitorRoom + (rest.map fun v => v.category).sum ≤ 8) (hdg : decode cc g.pc = .ok (.invokevirtual index, 3)) (hf : cells + mc ≤ R.cells ∧ slots + ms ≤ R.slots) :
    va_Run p l e R s m args below meth c H locs cells slots mc ms g rest (Qc (Value.ref b :: As).toArray) free := by
  obtain ⟨⟨hrc, hrs, hfr, hlo, hws, hcw⟩, hcode, hini, hy, hlen, hl, hin, hse⟩ := cw
  have hK : Back l R p e below s args y 3 8 (PreOf R mc ms Pc) (PostOf Qc mc ms free) := va_backW (hh := hh) (bytes := bytes) (maxL := maxL) (ret := ret) hM hp.1 hrc hrs hfr hlo hws hcw (fun a' U hW => word_at hW (Or.inl (by first | rfl | simp [Cond.onTables, Cond.keeps, Cond.steady])) hini)
  obtain ⟨hx, hb, hml, ho, -⟩ := S
  obtain ⟨-, ⟨cellB, hcB, hoB, hclB⟩, hPc⟩ := hp
  intro T hT X
  obtain ⟨v, vm₁, ⟨U', l2, c2, s2⟩, hW₁, X', ⟨g', mk, t, L, e1, e2, hq, h1, hL, h2, h3⟩, st⟩ := vx_callVW X hx (C := C) (hh := hh) (bytes := bytes) (maxL := maxL) (ret := ret) ho hl hin hse hcode hy hK (by rw [hT]; exact hcB) hoB hclB hg (hsize.trans hml.symm) (argsL := As) (rest := rest) (fun sig h => hn.trans (hlen sig h)) hstack hW (by rw [hb]; exact hdg)
    (fun vm₁ hW₁ => ⟨hf.1, hf.2, hPc (T.setVm vm₁) hT hW₁⟩)
  dsimp only [Pt.U, Pt.locs, Pt.cells, Pt.slots] at X' e1 e2 h1 h2 h3 st
  subst h1; subst h2; subst h3
  exact ⟨v, (T.setVm vm₁).calling g' mk (Value.ref b :: As).toArray, t, U', L, hT, X', hL, e1, e2, hq, st⟩
section
variable {y : MethodName} {bytes cc : ByteArray} {maxL nL mc ms n index : Nat} {ret : Option FieldType} {ws : List Cond} {rm : Room} {Pc : Array Value → State → Prop} {Qc : Array Value → State → Outcome → State → Prop} {XC : String → State → State → Prop} {free : Addr → Prop} {Ts : List Cond} {own C : String} {b : Addr} {As rest : List Value} {g : JFrame}
theorem vx_runVX {hh : List (Nat × Nat × Nat × Nat)} (S : CallFix p m c cc nL s args Ts own) (hM : vx_Met l y ws rm Pc Qc XC mc ms free) (cw : vx_CVW R s args own C index y bytes maxL ret hh ws rm mc ms n) (hp : PreV s H C b Pc As)
    (hg : g.method = m) (hn : As.length = n) (hsize : g.locals.size = nL) (hstack : g.stack = As.reverse ++ .ref b :: rest) (hW : 2 * g.monitorRoom + (rest.map fun v => v.category).sum ≤ 8) (hdg : decode cc g.pc = .ok (.invokevirtual index, 3)) (hf : cells + mc ≤ R.cells ∧ slots + ms ≤ R.slots) :
    vx_Run p l e R s m args below meth c H locs cells slots mc ms g rest (Qc (Value.ref b :: As).toArray) XC free := by
  obtain ⟨⟨hrc, hrs, hfr, hlo, hws, hcw⟩, hcode, hini, hy, hlen, hl, hin, hse⟩ := cw
  have hK : vx_Back l R p e below s args y 3 8 (PreOf R mc ms Pc) (PostOf Qc mc ms free) (vx_Post XC mc ms free) := vx_backW (hh := hh) (bytes := bytes) (maxL := maxL) (ret := ret) hM hp.1 hrc hrs hfr hlo hws hcw (fun a' U hW => word_at hW (Or.inl (by first | rfl | simp [Cond.onTables, Cond.keeps, Cond.steady])) hini)
  obtain ⟨hx, hb, hml, ho, -⟩ := S
  obtain ⟨-, ⟨cellB, hcB, hoB, hclB⟩, hPc⟩ := hp
  intro T hT X
  rcases vx_callVX X hx (C := C) (hh := hh) (bytes := bytes) (maxL := maxL) (ret := ret) ho hl hin hse hcode hy hK (by rw [hT]; exact hcB) hoB hclB hg (hsize.trans hml.symm) (argsL := As) (rest := rest) (fun sig h => hn.trans (hlen sig h)) hstack hW (by rw [hb]; exact hdg)
    (fun vm₁ hW₁ => ⟨hf.1, hf.2, hPc (T.setVm vm₁) hT hW₁⟩) with ⟨v, vm₁, ⟨U', l2, c2, s2⟩, hW₁, X', ⟨g', mk, t, L, e1, e2, hq, h1, hL, h2, h3⟩, st⟩ | ⟨q, vm₁, ⟨U', l2, c2, s2⟩, hW₁, X', ⟨g', mk, t, L, E, ce, e1, e2, hq, hce, hcv, hcl, h1, hL, h2, h3⟩, st⟩
  · dsimp only [Pt.U, Pt.locs, Pt.cells, Pt.slots] at X' e1 e2 h1 h2 h3 st
    subst h1; subst h2; subst h3
    exact Or.inl ⟨v, (T.setVm vm₁).calling g' mk (Value.ref b :: As).toArray, t, U', L, hT, X', hL, e1, e2, hq, st⟩
  · dsimp only [Pt.U, Pt.locs, Pt.cells, Pt.slots] at X' e1 e2 h1 h2 h3 st hcl
    subst h1; subst h2; subst h3
    exact Or.inr ⟨q, (T.setVm vm₁).calling g' mk (Value.ref b :: As).toArray, t, U', L, E, ce, hT, X', hL, e1, e2, hq, hce, hcv, vx_cls hW₁ hcl, st⟩
theorem vx_runSX {hh : List (Nat × Nat × Nat × Nat)} (S : CallFix p m c cc nL s args Ts own) (hM : vx_Met l y ws rm Pc Qc XC mc ms free) (cw : vx_CSW R s args own index y bytes maxL ret hh ws rm mc ms n) (hp : PreS s H Pc As)
    (hg : g.method = m) (hn : As.length = n) (hsize : g.locals.size = nL) (hstack : g.stack = As.reverse ++ rest) (hW : 2 * g.monitorRoom + (rest.map fun v => v.category).sum ≤ 8) (hdg : decode cc g.pc = .ok (.invokestatic index, 3)) (hf : cells + mc ≤ R.cells ∧ slots + ms ≤ R.slots) :
    vx_Run p l e R s m args below meth c H locs cells slots mc ms g rest (Qc As.toArray) XC free := by
  obtain ⟨⟨hrc, hrs, hfr, hlo, hws, hcw⟩, hcode, hini, hy, hlen, hl, hstt⟩ := cw
  have hK : vx_Back l R p e below s args y 3 8 (PreOf R mc ms Pc) (PostOf Qc mc ms free) (vx_Post XC mc ms free) := vx_backW (hh := hh) (bytes := bytes) (maxL := maxL) (ret := ret) hM hp.1 hrc hrs hfr hlo hws hcw (fun a' U hW => word_at hW (Or.inl (by first | rfl | simp [Cond.onTables, Cond.keeps, Cond.steady])) hini)
  obtain ⟨hx, hb, hml, ho, -⟩ := S
  intro T hT X
  rcases vx_callSX X hx (hh := hh) (bytes := bytes) (maxL := maxL) (ret := ret) ho hl hstt hini hcode hy hK hg (hsize.trans hml.symm) (argsL := As) (rest := rest) (fun sig h => hn.trans (hlen sig h)) hstack hW (by rw [hb]; exact hdg)
    (fun vm₁ hW₁ => ⟨hf.1, hf.2, hp.2 (T.setVm vm₁) hT hW₁⟩) with ⟨v, vm₁, ⟨U', l2, c2, s2⟩, hW₁, X', ⟨g', mk, t, L, e1, e2, hq, h1, hL, h2, h3⟩, st⟩ | ⟨q, vm₁, ⟨U', l2, c2, s2⟩, hW₁, X', ⟨g', mk, t, L, E, ce, e1, e2, hq, hce, hcv, hcl, h1, hL, h2, h3⟩, st⟩
  · dsimp only [Pt.U, Pt.locs, Pt.cells, Pt.slots] at X' e1 e2 h1 h2 h3 st
    subst h1; subst h2; subst h3
    exact Or.inl ⟨v, (T.setVm vm₁).calling g' mk As.toArray, t, U', L, hT, X', hL, e1, e2, hq, st⟩
  · dsimp only [Pt.U, Pt.locs, Pt.cells, Pt.slots] at X' e1 e2 h1 h2 h3 st hcl
    subst h1; subst h2; subst h3
    exact Or.inr ⟨q, (T.setVm vm₁).calling g' mk As.toArray, t, U', L, E, ce, hT, X', hL, e1, e2, hq, hce, hcv, vx_cls hW₁ hcl, st⟩
end
end VXH
theorem vx_ofWH {l : Launch} {y : MethodName} {ws ws' : List Cond} {rm : Room} {Pc : Array Value → State → Prop} {Qc : Array Value → State → Outcome → State → Prop} {XC : String → State → State → Prop} {mc ms : Nat} {free : Addr → Prop} {cc : ByteArray} {maxL : Nat} {ret : Option FieldType} {hh : List (Nat × Nat × Nat × Nat)}
    (hy : plainName y.cls = true) (hw : ws = Cond.codeWith y cc maxL ret hh :: ws')
    (body : ∀ p e s m args below meth c s₁, BodyLoose p l y (headSpec ws rm) cc maxL ret e s m args below meth c s₁ → c.maxLocals = maxL → Pc args s →
      W p l e (headSpec ws rm).room s m args below meth c s.heap [] 0 0 (vx_MQ below Qc XC args s mc ms free) (entryFrame m args maxL)) : vx_Met l y ws rm Pc Qc XC mc ms free := by
  refine MetFree.of_bodyS (code := cc) (maxLocals := maxL) (ret := ret) hy ?_ ?_
  · intro args s m h hn
    obtain ⟨m9, meth, c, hn9, h1, h2, h3, h4, -, h5, h6, -⟩ := Cond.codeWith_spec (atoms_spec (ws := ws) h _ (by rw [hw]; exact List.mem_cons_self))
    cases hn.symm.trans hn9
    exact ⟨meth, c, h1, h2, h3, h4, h5, h6⟩
  · intro p e s m args below meth c s₁ B hml hP _
    have hh0 : s₁.heap = s.heap := by rw [B.state]; rfl
    obtain ⟨t, a1, o, b1, b2, b3⟩ := body p e s m args below meth c s₁ B hml hP s₁ hh0 (Stand.of_body B)
    exact ⟨t, o, a1, b1, b2, b3⟩
/-! ===== END ===== -/
end
section
/-! the engine: values, cells, states, one step at a time -/
/-- an abstract value: an int between two numbers; an int that is a named number and a constant; a long between two numbers; a reference to a cell by its place, or null; the script -/
abbrev AV : Type := (Int × Int) ⊕ ((Nat × Int) ⊕ ((Int × Int) ⊕ ((Option Nat) ⊕ Unit)))
/-- an abstract cell: an array (its type's number, its length, what it holds but for some places, these places) or an object (its kind, its fields) -/
abbrev AC : Type := (Nat × Nat × AV × List (Nat × AV)) ⊕ (Nat × List AV)
abbrev EV : Type := List (Int × Int)
/-- pc, locals, stack, named numbers, cells, cells made, slots made -/
abbrev ST : Type := Nat × List (Nat × AV) × List AV × EV × List AC × Nat × Nat
abbrev OUT : Type := Option AV × EV × List AC
abbrev aI (n : Int) : AV := .inl (n, n)
abbrev aTop : AV := .inl (-2147483648, 2147483647)
abbrev aL (lo hi : Int) : AV := .inr (.inr (.inl (lo, hi)))
abbrev aLtop : AV := .inr (.inr (.inl (-9223372036854775808, 9223372036854775807)))
abbrev aV (k : Nat) (c : Int) : AV := .inr (.inl (k, c))
abbrev aR (a : Nat) : AV := .inr (.inr (.inr (.inl (some a))))
abbrev aN : AV := .inr (.inr (.inr (.inl none)))
abbrev aS : AV := .inr (.inr (.inr (.inr ())))
def e_iv (E : EV) (a : AV) : Option (Int × Int) := match a with
  | .inl q => some q
  | .inr (.inl (k, c)) => (match E[k]? with | some (lo, hi) => some (lo + c, hi + c) | none => none)
  | .inr (.inr _) => none
def e_mk (lo hi : Int) : AV := if (decide (-2147483648 ≤ lo) && decide (hi ≤ 2147483647)) = true then .inl (lo, hi) else aTop
def e_find (lo : List (Nat × AV)) (i : Nat) : Option AV := match lo with
  | [] => none
  | (j, a) :: r => if Nat.beq j i = true then some a else e_find r i
def e_isL (a : AV) : Bool := match a with
  | .inr (.inr (.inl _)) => true
  | _ => false
def e_st1 (lo : List (Nat × AV)) (i : Nat) (a : AV) : List (Nat × AV) := (i, a) :: lo.filter (fun q => !(q.1 == i) && !(q.1 + 1 == i && e_isL q.2))
def e_st2 (lo : List (Nat × AV)) (i : Nat) (a : AV) : List (Nat × AV) := (i, a) :: lo.filter (fun q => !(q.1 == i) && (!(q.1 == i + 1) && !(q.1 + 1 == i && e_isL q.2)))
def e_isI (a : AV) : Bool := match a with
  | .inl _ => true
  | .inr (.inl _) => true
  | _ => false
def e_isR (a : AV) : Bool := match a with
  | .inr (.inr (.inr _)) => true
  | _ => false
/-- a sum -/
def e_add (E : EV) (a b : AV) : Option AV := match e_iv E a, e_iv E b with
  | some (la, ha), some (lb, hb) =>
    (match a with
    | .inr (.inl (k, c)) => if (decide (lb = hb) && (decide (-2147483648 ≤ la + lb) && decide (ha + lb ≤ 2147483647))) = true then some (aV k (c + lb)) else some (e_mk (la + lb) (ha + hb))
    | _ => some (e_mk (la + lb) (ha + hb)))
  | _, _ => none
def e_sub (E : EV) (a b : AV) : Option AV := match e_iv E a, e_iv E b with
  | some (la, ha), some (lb, hb) =>
    (match a with
    | .inr (.inl (k, c)) => if (decide (lb = hb) && (decide (-2147483648 ≤ la - lb) && decide (ha - lb ≤ 2147483647))) = true then some (aV k (c - lb)) else some (e_mk (la - hb) (ha - lb))
    | _ => some (e_mk (la - hb) (ha - lb)))
  | _, _ => none
def e_mul (E : EV) (a b : AV) : Option AV := match e_iv E a, e_iv E b with
  | some (la, ha), some (lb, hb) => if (decide (0 ≤ la) && decide (0 ≤ lb)) = true then some (e_mk (la * lb) (ha * hb)) else some aTop
  | _, _ => none
/-- exact where both are known and not negative -/
def e_bit (f : Nat → Nat → Nat) (E : EV) (a b : AV) (other : AV) : AV := match e_iv E a, e_iv E b with
  | some (la, ha), some (lb, hb) => if (decide (la = ha) && (decide (lb = hb) && (decide (0 ≤ la) && decide (0 ≤ lb)))) = true then aI ((f la.toNat lb.toNat : Nat) : Int) else other
  | _, _ => other
def e_and (E : EV) (a b : AV) : Option AV := match e_iv E a, e_iv E b with
  | some (la, ha), some (lb, hb) => some (e_bit (fun x y => x &&& y) E a b (if decide (0 ≤ lb) = true then .inl (0, hb) else if decide (0 ≤ la) = true then .inl (0, ha) else aTop))
  | _, _ => none
def e_or (E : EV) (a b : AV) : Option AV := match e_iv E a, e_iv E b with
  | some _, some _ => some (e_bit (fun x y => x ||| y) E a b aTop)
  | _, _ => none
def e_xor (E : EV) (a b : AV) : Option AV := match e_iv E a, e_iv E b with
  | some _, some _ => some (e_bit (fun x y => x ^^^ y) E a b aTop)
  | _, _ => none
def e_shl (E : EV) (a b : AV) : Option AV := match e_iv E a, e_iv E b with
  | some (la, ha), some (lb, hb) => if (decide (lb = hb) && (decide (0 ≤ lb) && (decide (lb < 32) && decide (0 ≤ la)))) = true then some (e_mk (la * 2 ^ lb.toNat) (ha * 2 ^ lb.toNat)) else some aTop
  | _, _ => none
def e_shr (E : EV) (a b : AV) : Option AV := match e_iv E a, e_iv E b with
  | some (la, ha), some (lb, hb) => if (decide (lb = hb) && (decide (0 ≤ lb) && (decide (lb < 32) && decide (0 ≤ la)))) = true then some (.inl (0, ha)) else some aTop
  | _, _ => none
def e_top2 (E : EV) (a b : AV) : Option AV := match e_iv E a, e_iv E b with
  | some _, some _ => some aTop
  | _, _ => none
/-- a remainder by a known number above 0 -/
def e_rem (E : EV) (a b : AV) : Option AV := match e_iv E a, e_iv E b with
  | some (la, ha), some (lb, hb) => if (decide (lb = hb) && (decide (0 < lb) && decide (0 ≤ la))) = true then (if decide (ha < lb) = true then some (.inl (la, ha)) else if decide (la = ha) = true then some (aI (la % lb)) else some (.inl (0, lb - 1))) else none
  | _, _ => none
def e_div (E : EV) (a b : AV) : Option AV := match e_iv E a, e_iv E b with
  | some (la, ha), some (lb, hb) => if (decide (lb = hb) && decide (0 < lb)) = true then (if decide (0 ≤ la) = true then some (.inl (la / lb, ha / lb)) else some aTop) else none
  | _, _ => none
def e_bin (i : Instr) (E : EV) (a b : AV) : Option AV := match i with
  | .iadd => e_add E a b
  | .isub => e_sub E a b
  | .imul => e_mul E a b
  | .iand => e_and E a b
  | .ior => e_or E a b
  | .ixor => e_xor E a b
  | .ishl => e_shl E a b
  | .ishr => e_shr E a b
  | .iushr => e_top2 E a b
  | .irem => e_rem E a b
  | .idiv => e_div E a b
  | _ => none
def e_un (i : Instr) (E : EV) (a : AV) : Option AV := match i with
  | .ineg => (match e_iv E a with | some (la, ha) => some (e_mk (-ha) (-la)) | none => none)
  | .i2b => (match e_iv E a with | some (la, ha) => if (decide (-128 ≤ la) && decide (ha ≤ 127)) = true then some a else some (.inl (-128, 127)) | none => none)
  | .i2l => (match e_iv E a with | some (la, ha) => some (aL la ha) | none => none)
  | _ => none
/-- the array's value at a place -/
def e_get (d : AV) (x : List (Nat × AV)) (j : Nat) : AV := match x with
  | [] => d
  | (i, a) :: r => if Nat.beq i j = true then a else e_get d r j
def e_put (d : AV) (x : List (Nat × AV)) (j : Nat) (a : AV) : List (Nat × AV) := if a = d then x.filter (fun q => !(Nat.beq q.1 j)) else (j, a) :: x.filter (fun q => !(Nat.beq q.1 j))
/-- an int is between two numbers: the named numbers then; none if it can't be -/
def e_clamp (E : EV) (a : AV) (lo hi : Int) : Option EV := match a with
  | .inl (la, ha) => if (decide (la ≤ hi) && decide (lo ≤ ha)) = true then some E else none
  | .inr (.inl (k, c)) => (match E[k]? with
    | some (la, ha) => if (decide (max la (lo - c) ≤ min ha (hi - c))) = true then some (E.set k (max la (lo - c), min ha (hi - c))) else none
    | none => none)
  | _ => none
def e_clamp2 (E : EV) (a : AV) (la ha : Int) (b : AV) (lb hb : Int) : Option EV := match e_clamp E a la ha with
  | some E1 => e_clamp E1 b lb hb
  | none => none
/-- the named numbers where two ints are so: 0 equal, 1 not, 2 less, 3 not less -/
def e_rel (E : EV) (r : Nat) (a b : AV) : Option (List EV) := match e_iv E a, e_iv E b with
  | some (la, ha), some (lb, hb) =>
    (match r with
    | 0 => some (e_clamp2 E a lb hb b la ha).toList
    | 1 => if (decide (la = ha) && (decide (lb = hb) && decide (la = lb))) = true then some [] else
        (match a, b with
        | .inr (.inl (k, c)), .inr (.inl (k', c')) => if (Nat.beq k k' && decide (c = c')) = true then some [] else some [E]
        | _, _ => if decide (lb = hb) = true then some ((e_clamp E a (-2147483648) (lb - 1)).toList ++ (e_clamp E a (lb + 1) 2147483647).toList) else some [E])
    | 2 => some (e_clamp2 E a (-2147483648) (hb - 1) b (la + 1) 2147483647).toList
    | _ => some (e_clamp2 E a lb 2147483647 b (-2147483648) ha).toList)
  | _, _ => none
def e_o2l (x : Option EV) (f : EV → ST) : List ST := match x with
  | some E => [f E]
  | none => []
/-- the cell that a reference names -/
def e_cell (C : List AC) (a : AV) : Option (Nat × AC) := match a with
  | .inr (.inr (.inr (.inl (some i)))) => (match C[i]? with | some c => some (i, c) | none => none)
  | _ => none
end
section
/-! what abstract values mean; the laws of the numbers -/
def gv (ν : Nat → Int) (al : List Nat) (b : Nat) (a : AV) (v : Value) : Prop := match a with
  | .inl (lo, hi) => ∃ x : Int32, v = .int x ∧ lo ≤ x.toInt ∧ x.toInt ≤ hi
  | .inr (.inl (k, c)) => ∃ x : Int32, v = .int x ∧ x.toInt = ν k + c
  | .inr (.inr (.inl (lo, hi))) => ∃ x : Int64, v = .long x ∧ lo ≤ x.toInt ∧ x.toInt ≤ hi
  | .inr (.inr (.inr (.inl none))) => v = .null
  | .inr (.inr (.inr (.inl (some i)))) => ∃ q : Nat, al[i]? = some q ∧ v = .ref q
  | .inr (.inr (.inr (.inr _))) => v = .ref b
def gvs (ν : Nat → Int) (al : List Nat) (b : Nat) : List AV → List Value → Prop
  | [], [] => True
  | a :: as, v :: vs => gv ν al b a v ∧ gvs ν al b as vs
  | _, _ => False
def glv (ν : Nat → Int) (al : List Nat) (b : Nat) : List (Nat × AV) → List (Nat × Value) → Prop
  | [], [] => True
  | a :: as, v :: vs => (a.1 = v.1 ∧ gv ν al b a.2 v.2) ∧ glv ν al b as vs
  | _, _ => False
def genv (ν : Nat → Int) (E : EV) : Prop := ∀ (k : Nat) (q : Int × Int), E[k]? = some q → q.1 ≤ ν k ∧ ν k ≤ q.2
section REL
variable {ν : Nat → Int} {al : List Nat} {b : Nat} {E : EV}
theorem gv_int {a : AV} {v : Value} {lo hi : Int} (hE : genv ν E) (h : gv ν al b a v) (hi9 : e_iv E a = some (lo, hi)) : ∃ x : Int32, v = .int x ∧ lo ≤ x.toInt ∧ x.toInt ≤ hi := by
  rcases a with ⟨l0, h0⟩ | ⟨k, c⟩ | ⟨l0, h0⟩ | (_ | i) | _
  · simp only [e_iv, Option.some.injEq, Prod.mk.injEq] at hi9
    obtain ⟨rfl, rfl⟩ := hi9
    exact h
  · obtain ⟨x, rfl, hx⟩ := h
    simp only [e_iv] at hi9
    cases hk : E[k]? with
    | none => rw [hk] at hi9; cases hi9
    | some q =>
      rw [hk] at hi9
      obtain ⟨l1, h1⟩ := q
      simp only [Option.some.injEq, Prod.mk.injEq] at hi9
      obtain ⟨rfl, rfl⟩ := hi9
      have := hE k _ hk
      exact ⟨x, rfl, by simp only at this; omega, by simp only at this; omega⟩
  all_goals (simp only [e_iv] at hi9; cases hi9)
theorem gv_int2 {a : AV} {x : Int32} {lo hi : Int} (hE : genv ν E) (h : gv ν al b a (.int x)) (hi9 : e_iv E a = some (lo, hi)) : lo ≤ x.toInt ∧ x.toInt ≤ hi := by
  obtain ⟨y, e, h1, h2⟩ := gv_int hE h hi9
  cases e
  exact ⟨h1, h2⟩
theorem gv_isI {a : AV} {v : Value} (h : gv ν al b a v) (hi9 : e_isI a = true) : ∃ x : Int32, v = .int x := by
  rcases a with ⟨l0, h0⟩ | ⟨k, c⟩ | ⟨l0, h0⟩ | (_ | i) | _
  · obtain ⟨x, e, -⟩ := h; exact ⟨x, e⟩
  · obtain ⟨x, e, -⟩ := h; exact ⟨x, e⟩
  all_goals cases hi9
theorem gv_isL {a : AV} {v : Value} (h : gv ν al b a v) (hi9 : e_isL a = true) : ∃ x : Int64, v = .long x := by
  rcases a with ⟨l0, h0⟩ | ⟨k, c⟩ | ⟨l0, h0⟩ | (_ | i) | _
  · cases hi9
  · cases hi9
  · obtain ⟨x, e, -⟩ := h; exact ⟨x, e⟩
  all_goals cases hi9
theorem gv_isR {a : AV} {v : Value} (h : gv ν al b a v) (hi9 : e_isR a = true) : v = .null ∨ ∃ q : Nat, v = .ref q := by
  rcases a with ⟨l0, h0⟩ | ⟨k, c⟩ | ⟨l0, h0⟩ | (_ | i) | _
  · cases hi9
  · cases hi9
  · cases hi9
  · exact Or.inl h
  · obtain ⟨q, -, e⟩ := h; exact Or.inr ⟨q, e⟩
  · exact Or.inr ⟨b, h⟩
theorem gv_cat {a : AV} {v : Value} (h : gv ν al b a v) : (v.category == 2) = e_isL a := by
  rcases a with ⟨l0, h0⟩ | ⟨k, c⟩ | ⟨l0, h0⟩ | (_ | i) | _
  · obtain ⟨x, rfl, -⟩ := h; rfl
  · obtain ⟨x, rfl, -⟩ := h; rfl
  · obtain ⟨x, rfl, -⟩ := h; rfl
  · rw [show v = .null from h]; rfl
  · obtain ⟨q, -, rfl⟩ := h; rfl
  · rw [show v = .ref b from h]; rfl
theorem gv_cat1 {a : AV} {v : Value} (h : gv ν al b a v) (hn : e_isL a = false) : v.category = 1 := by
  have := gv_cat h
  rw [hn] at this
  rcases lv_cat v with q | q
  · exact q
  · rw [q] at this; cases this
theorem gv_cat2 {a : AV} {v : Value} (h : gv ν al b a v) (hn : e_isL a = true) : v.category = 2 := by
  have := gv_cat h
  rw [hn] at this
  exact eq_of_beq this
theorem gv_app {a : AV} {v : Value} (m : List Nat) (h : gv ν al b a v) : gv ν (al ++ m) b a v := by
  rcases a with ⟨l0, h0⟩ | ⟨k, c⟩ | ⟨l0, h0⟩ | (_ | i) | _
  · exact h
  · exact h
  · exact h
  · exact h
  · obtain ⟨q, e, rfl⟩ := h
    refine ⟨q, ?_, rfl⟩
    have hlt := (List.getElem?_eq_some_iff.mp e).1
    rw [List.getElem?_append_left hlt]; exact e
  · exact h
theorem gvs_app {as : List AV} {vs : List Value} (m : List Nat) (h : gvs ν al b as vs) : gvs ν (al ++ m) b as vs := by
  induction as generalizing vs with
  | nil => cases vs with
    | nil => trivial
    | cons => exact h
  | cons a as ih => cases vs with
    | nil => exact h
    | cons v vs => exact ⟨gv_app m h.1, ih h.2⟩
theorem glv_app {as : List (Nat × AV)} {vs : List (Nat × Value)} (m : List Nat) (h : glv ν al b as vs) : glv ν (al ++ m) b as vs := by
  induction as generalizing vs with
  | nil => cases vs with
    | nil => trivial
    | cons => exact h
  | cons a as ih => cases vs with
    | nil => exact h
    | cons v vs => exact ⟨⟨h.1.1, gv_app m h.1.2⟩, ih h.2⟩
theorem gvs_cons {a : AV} {as : List AV} {vs : List Value} (h : gvs ν al b (a :: as) vs) : ∃ v vs', vs = v :: vs' ∧ gv ν al b a v ∧ gvs ν al b as vs' := by
  cases vs with
  | nil => exact absurd h id
  | cons v vs => exact ⟨v, vs, rfl, h.1, h.2⟩
theorem gvs_nil {vs : List Value} (h : gvs ν al b [] vs) : vs = [] := by
  cases vs with
  | nil => rfl
  | cons v vs => exact absurd h id
theorem e_find_ok {lo : List (Nat × AV)} {lv : List (Nat × Value)} {i : Nat} {a : AV} (h : glv ν al b lo lv) (hf : e_find lo i = some a) : ∃ (k : Nat) (v : Value), lv[k]? = some (i, v) ∧ gv ν al b a v := by
  induction lo generalizing lv with
  | nil => cases hf
  | cons q r ih =>
    cases lv with
    | nil => exact absurd h id
    | cons w ws =>
      obtain ⟨j, a0⟩ := q
      obtain ⟨j', v0⟩ := w
      obtain ⟨⟨h1, h2⟩, h3⟩ := h
      simp only at h1 h2
      subst h1
      simp only [e_find] at hf
      by_cases hj : Nat.beq j i = true
      · rw [if_pos hj] at hf
        cases hf
        have := Nat.eq_of_beq_eq_true hj
        subst this
        exact ⟨0, v0, rfl, h2⟩
      · rw [if_neg hj] at hf
        obtain ⟨k, v, e, g⟩ := ih h3 hf
        exact ⟨k + 1, v, e, g⟩
theorem glv_filter {lo : List (Nat × AV)} {lv : List (Nat × Value)} (f : Nat × AV → Bool) (g : Nat × Value → Bool) (h : glv ν al b lo lv) (hfg : ∀ i a v, gv ν al b a v → f (i, a) = g (i, v)) : glv ν al b (lo.filter f) (lv.filter g) := by
  induction lo generalizing lv with
  | nil => cases lv with
    | nil => exact h
    | cons => exact absurd h id
  | cons q r ih => cases lv with
    | nil => exact absurd h id
    | cons w ws =>
      obtain ⟨j, a0⟩ := q
      obtain ⟨j', v0⟩ := w
      obtain ⟨⟨h1, h2⟩, h3⟩ := h
      simp only at h1 h2
      subst h1
      have e := hfg j a0 v0 h2
      rw [List.filter_cons, List.filter_cons, e]
      by_cases hg : g (j, v0) = true
      · rw [if_pos hg, if_pos hg]
        exact ⟨⟨rfl, h2⟩, ih h3⟩
      · rw [if_neg hg, if_neg hg]
        exact ih h3
theorem glv_st1 {lo : List (Nat × AV)} {lv : List (Nat × Value)} {i : Nat} {a : AV} {v : Value} (h : glv ν al b lo lv) (ha : gv ν al b a v) : glv ν al b (e_st1 lo i a) ((i, v) :: lv.filter (fun q => !(q.1 == i) && !(q.1 + 1 == i && q.2.category == 2))) := by
  refine ⟨⟨rfl, ha⟩, glv_filter _ _ h fun j a v hv => ?_⟩
  simp only [gv_cat hv]
theorem glv_st2 {lo : List (Nat × AV)} {lv : List (Nat × Value)} {i : Nat} {a : AV} {v : Value} (h : glv ν al b lo lv) (ha : gv ν al b a v) : glv ν al b (e_st2 lo i a) ((i, v) :: lv.filter (fun q => !(q.1 == i) && (!(q.1 == i + 1) && !(q.1 + 1 == i && q.2.category == 2)))) := by
  refine ⟨⟨rfl, ha⟩, glv_filter _ _ h fun j a v hv => ?_⟩
  simp only [gv_cat hv]
/-! numbers -/
theorem gv_top (x : Int32) : gv ν al b aTop (.int x) := ⟨x, rfl, (fb_rng x).1, by have := (fb_rng x).2; omega⟩
theorem gv_Ltop (x : Int64) : gv ν al b aLtop (.long x) := ⟨x, rfl, (fb_rngL x).1, by have := (fb_rngL x).2; omega⟩
theorem gv_mk {x : Int32} {lo hi : Int} (h1 : lo ≤ x.toInt) (h2 : x.toInt ≤ hi) : gv ν al b (e_mk lo hi) (.int x) := by
  unfold e_mk
  split
  · exact ⟨x, rfl, h1, h2⟩
  · exact gv_top x
/-- the number z (mod 2^32), where it is between lo and hi -/
theorem gv_mkw {x : Int32} {z lo hi : Int} (hx : -2147483648 ≤ z → z < 2147483648 → x.toInt = z) (h1 : lo ≤ z) (h2 : z ≤ hi) : gv ν al b (e_mk lo hi) (.int x) := by
  unfold e_mk
  split
  · rename_i h
    simp only [Bool.and_eq_true, decide_eq_true_eq] at h
    have e := hx (by omega) (by omega)
    exact ⟨x, rfl, by omega, by omega⟩
  · exact gv_top x
theorem e_add_ok {a c r : AV} {x y : Int32} (hE : genv ν E) (ha : gv ν al b a (.int x)) (hc : gv ν al b c (.int y)) (h : e_add E a c = some r) : gv ν al b r (.int (x + y)) := by
  unfold e_add at h
  split at h
  · rename_i la ha1 lb hb1 e1 e2
    have p1 := gv_int2 hE ha e1
    have p2 := gv_int2 hE hc e2
    have g := gv_mkw (ν := ν) (al := al) (b := b) (x := x + y) (z := x.toInt + y.toInt) (lo := la + lb) (hi := ha1 + hb1) (fun h1 h2 => fb_addI h1 h2) (by omega) (by omega)
    split at h
    · rename_i k c0
      split at h
      · rename_i hc0
        simp only [Bool.and_eq_true, decide_eq_true_eq] at hc0
        cases h
        obtain ⟨x', e', hx'⟩ := ha
        cases e'
        refine ⟨x + y, rfl, ?_⟩
        rw [fb_addI (by omega) (by omega)]
        omega
      · cases h; exact g
    · cases h; exact g
  · cases h
theorem e_sub_ok {a c r : AV} {x y : Int32} (hE : genv ν E) (ha : gv ν al b a (.int x)) (hc : gv ν al b c (.int y)) (h : e_sub E a c = some r) : gv ν al b r (.int (x - y)) := by
  unfold e_sub at h
  split at h
  · rename_i la ha1 lb hb1 e1 e2
    have p1 := gv_int2 hE ha e1
    have p2 := gv_int2 hE hc e2
    have g := gv_mkw (ν := ν) (al := al) (b := b) (x := x - y) (z := x.toInt - y.toInt) (lo := la - hb1) (hi := ha1 - lb) (fun h1 h2 => fb_subI h1 h2) (by omega) (by omega)
    split at h
    · rename_i k c0
      split at h
      · rename_i hc0
        simp only [Bool.and_eq_true, decide_eq_true_eq] at hc0
        cases h
        obtain ⟨x', e', hx'⟩ := ha
        cases e'
        refine ⟨x - y, rfl, ?_⟩
        rw [fb_subI (by omega) (by omega)]
        omega
      · cases h; exact g
    · cases h; exact g
  · cases h
end REL
end
section
section NUM
variable {ν : Nat → Int} {al : List Nat} {b : Nat} {E : EV}
theorem en_of {x : Int32} {n : Int} (h : x.toInt = n) (h0 : 0 ≤ n) : x = nI n.toNat ∧ n.toNat < 2147483648 := by
  have r := fb_rng x
  have h1 : n.toNat < 2147483648 := by omega
  refine ⟨(fa_eq _ _).mpr ?_, h1⟩
  rw [nI_toInt (by omega)]
  omega
theorem en_nn {x : Int32} (h : 0 ≤ x.toInt) : ∃ n : Nat, x = nI n ∧ n < 2147483648 ∧ x.toInt = (n : Int) := by
  obtain ⟨h1, h2⟩ := en_of rfl h
  exact ⟨x.toInt.toNat, h1, h2, by omega⟩
theorem e_mul_ok {a c r : AV} {x y : Int32} (hE : genv ν E) (ha : gv ν al b a (.int x)) (hc : gv ν al b c (.int y)) (h : e_mul E a c = some r) : gv ν al b r (.int (x * y)) := by
  unfold e_mul at h
  split at h
  · rename_i la ha1 lb hb1 e1 e2
    have p1 := gv_int2 hE ha e1
    have p2 := gv_int2 hE hc e2
    split at h
    · rename_i hc0
      simp only [Bool.and_eq_true, decide_eq_true_eq] at hc0
      cases h
      refine gv_mkw (z := x.toInt * y.toInt) (fun h1 h2 => fb_mulI h1 h2) ?_ ?_
      · exact Int.mul_le_mul p1.1 p2.1 hc0.2 (by omega)
      · exact Int.mul_le_mul p1.2 p2.2 (by omega) (by omega)
    · cases h; exact gv_top _
  · cases h
theorem e_bit_ok {f : Nat → Nat → Nat} {op : Int32 → Int32 → Int32} (hop : ∀ m n : Nat, op (nI m) (nI n) = nI (f m n)) (hlt : ∀ m n : Nat, m < 2147483648 → n < 2147483648 → f m n < 2147483648) {a c o : AV} {x y : Int32} (hE : genv ν E) (ha : gv ν al b a (.int x)) (hc : gv ν al b c (.int y)) (ho : gv ν al b o (.int (op x y))) : gv ν al b (e_bit f E a c o) (.int (op x y)) := by
  unfold e_bit
  split
  · rename_i la ha1 lb hb1 e1 e2
    have p1 := gv_int2 hE ha e1
    have p2 := gv_int2 hE hc e2
    split
    · rename_i hc0
      simp only [Bool.and_eq_true, decide_eq_true_eq] at hc0
      obtain ⟨c1, c2, c3, c4⟩ := hc0
      obtain ⟨q1, q2⟩ := en_of (x := x) (n := la) (by omega) c3
      obtain ⟨q3, q4⟩ := en_of (x := y) (n := lb) (by omega) c4
      have e : (op x y).toInt = ((f la.toNat lb.toNat : Nat) : Int) := by
        rw [q1, q3, hop, nI_toInt (hlt _ _ q2 q4)]
      exact ⟨op x y, rfl, by omega, by omega⟩
    · exact ho
  · exact ho
theorem en_and_lt {m n : Nat} (h : n < 2147483648) : m &&& n < 2147483648 := Nat.lt_of_le_of_lt Nat.and_le_right h
theorem en_andr {x y : Int32} (h : 0 ≤ y.toInt) : 0 ≤ (x &&& y).toInt ∧ (x &&& y).toInt ≤ y.toInt := by
  obtain ⟨n, rfl, hn, e⟩ := en_nn h
  have hx : x = nI x.toBitVec.toNat := by
    apply Int32.toBitVec_inj.mp
    show x.toBitVec = (Int32.ofNat x.toBitVec.toNat).toBitVec
    simp
  rw [hx, fa_and, nI_toInt (en_and_lt hn), e]
  have : x.toBitVec.toNat &&& n ≤ n := Nat.and_le_right
  omega
theorem en_andc (x y : Int32) : x &&& y = y &&& x := by
  apply Int32.toBitVec_inj.mp
  simp only [Int32.toBitVec_and]
  exact BitVec.and_comm _ _
theorem e_and_ok {a c r : AV} {x y : Int32} (hE : genv ν E) (ha : gv ν al b a (.int x)) (hc : gv ν al b c (.int y)) (h : e_and E a c = some r) : gv ν al b r (.int (x &&& y)) := by
  unfold e_and at h
  split at h
  · rename_i la ha1 lb hb1 e1 e2
    have p1 := gv_int2 hE ha e1
    have p2 := gv_int2 hE hc e2
    cases h
    refine e_bit_ok (op := fun x y => x &&& y) (fun m n => fa_and m n) (fun m n _ hn => en_and_lt hn) hE ha hc ?_
    split
    · rename_i q
      have q := of_decide_eq_true q
      have w := en_andr (x := x) (y := y) (by omega)
      exact ⟨x &&& y, rfl, w.1, by omega⟩
    · split
      · rename_i q
        have q := of_decide_eq_true q
        have w := en_andr (x := y) (y := x) (by omega)
        rw [en_andc y x] at w
        exact ⟨x &&& y, rfl, w.1, by omega⟩
      · exact gv_top _
  · cases h
theorem en_or_lt {m n : Nat} (h1 : m < 2147483648) (h : n < 2147483648) : m ||| n < 2147483648 := Nat.or_lt_two_pow (n := 31) h1 h
theorem en_xor_lt {m n : Nat} (h1 : m < 2147483648) (h : n < 2147483648) : m ^^^ n < 2147483648 := Nat.xor_lt_two_pow (n := 31) h1 h
theorem e_or_ok {a c r : AV} {x y : Int32} (hE : genv ν E) (ha : gv ν al b a (.int x)) (hc : gv ν al b c (.int y)) (h : e_or E a c = some r) : gv ν al b r (.int (x ||| y)) := by
  unfold e_or at h
  split at h
  · cases h
    exact e_bit_ok (op := fun x y => x ||| y) (fun m n => fa_or m n) (fun m n hm hn => en_or_lt hm hn) hE ha hc (gv_top _)
  · cases h
theorem e_xor_ok {a c r : AV} {x y : Int32} (hE : genv ν E) (ha : gv ν al b a (.int x)) (hc : gv ν al b c (.int y)) (h : e_xor E a c = some r) : gv ν al b r (.int (x ^^^ y)) := by
  unfold e_xor at h
  split at h
  · cases h
    exact e_bit_ok (op := fun x y => x ^^^ y) (fun m n => fb_xorI m n) (fun m n hm hn => en_xor_lt hm hn) hE ha hc (gv_top _)
  · cases h
theorem en_cnt : ∀ k : Nat, k < 32 → ((nI k &&& 31).toBitVec.smod 32).toNat = k := by decide +kernel
theorem e_shl_ok {a c r : AV} {x y : Int32} (hE : genv ν E) (ha : gv ν al b a (.int x)) (hc : gv ν al b c (.int y)) (h : e_shl E a c = some r) : gv ν al b r (.int (x <<< (y &&& 31))) := by
  unfold e_shl at h
  split at h
  · rename_i la ha1 lb hb1 e1 e2
    have p1 := gv_int2 hE ha e1
    have p2 := gv_int2 hE hc e2
    split at h
    · rename_i hc0
      simp only [Bool.and_eq_true, decide_eq_true_eq] at hc0
      obtain ⟨c1, c2, c3, c4⟩ := hc0
      cases h
      obtain ⟨q3, q4⟩ := en_of (x := y) (n := lb) (by omega) c2
      obtain ⟨m, rfl, hm, em⟩ := en_nn (x := x) (by omega)
      have hk : lb.toNat < 32 := by omega
      refine gv_mkw (z := (m : Int) * 2 ^ lb.toNat) (fun h1 h2 => ?_) ?_ ?_
      · have h3 : m * 2 ^ lb.toNat < 2147483648 := by
          have : ((m * 2 ^ lb.toNat : Nat) : Int) < 2147483648 := by rw [Int.natCast_mul, Int.natCast_pow]; exact h2
          omega
        rw [q3, pk_shlN (nI lb.toNat &&& 31) lb.toNat (en_cnt _ hk) (by omega), nI_toInt (by omega), Int.natCast_mul, Int.natCast_pow]
        rfl
      · exact Int.mul_le_mul_of_nonneg_right (by omega) (Int.le_of_lt (Int.pow_pos (by omega)))
      · exact Int.mul_le_mul_of_nonneg_right (by omega) (Int.le_of_lt (Int.pow_pos (by omega)))
    · cases h; exact gv_top _
  · cases h
theorem e_shr_ok {a c r : AV} {x y : Int32} (hE : genv ν E) (ha : gv ν al b a (.int x)) (hc : gv ν al b c (.int y)) (h : e_shr E a c = some r) : gv ν al b r (.int (x >>> (y &&& 31))) := by
  unfold e_shr at h
  split at h
  · rename_i la ha1 lb hb1 e1 e2
    have p1 := gv_int2 hE ha e1
    have p2 := gv_int2 hE hc e2
    split at h
    · rename_i hc0
      simp only [Bool.and_eq_true, decide_eq_true_eq] at hc0
      obtain ⟨c1, c2, c3, c4⟩ := hc0
      cases h
      obtain ⟨q3, q4⟩ := en_of (x := y) (n := lb) (by omega) c2
      obtain ⟨m, rfl, hm, em⟩ := en_nn (x := x) (by omega)
      have hk : lb.toNat < 32 := by omega
      have e : (nI m >>> (y &&& 31)).toInt = ((m / 2 ^ lb.toNat : Nat) : Int) := by
        rw [q3, pk_shrN (by omega) (nI lb.toNat &&& 31) lb.toNat (en_cnt _ hk)]
        have := Nat.div_le_self m (2 ^ lb.toNat)
        rw [nI_toInt (by omega)]
      have h9 := Nat.div_le_self m (2 ^ lb.toNat)
      generalize m / 2 ^ lb.toNat = d at e h9
      exact ⟨_, rfl, by rw [e]; omega, by rw [e]; omega⟩
    · cases h; exact gv_top _
  · cases h
theorem e_top2_ok {a c r : AV} {z : Int32} (h : e_top2 E a c = some r) : gv ν al b r (.int z) := by
  unfold e_top2 at h
  split at h
  · cases h; exact gv_top _
  · cases h
theorem e_rem_ok {a c r : AV} {x y : Int32} (hE : genv ν E) (ha : gv ν al b a (.int x)) (hc : gv ν al b c (.int y)) (h : e_rem E a c = some r) : ¬ y = 0 ∧ gv ν al b r (.int (x - x / y * y)) := by
  unfold e_rem at h
  split at h
  · rename_i la ha1 lb hb1 e1 e2
    have p1 := gv_int2 hE ha e1
    have p2 := gv_int2 hE hc e2
    split at h
    · rename_i hc0
      simp only [Bool.and_eq_true, decide_eq_true_eq] at hc0
      obtain ⟨c1, c2, c3⟩ := hc0
      obtain ⟨n, hy, hn, en⟩ := en_nn (x := y) (by omega)
      obtain ⟨m, hx, hm, em⟩ := en_nn (x := x) (by omega)
      have hn0 : 0 < n := by omega
      have hlb : lb = (n : Int) := by omega
      have hmod : (x - x / y * y).toInt = ((m % n : Nat) : Int) := by
        have := Nat.mod_lt m hn0
        rw [hx, hy, pk_rem hm hn0 hn, nI_toInt (by omega)]
      have hlt := Nat.mod_lt m hn0
      refine ⟨fun h0 => ?_, ?_⟩
      · rw [h0] at en
        have : (0 : Int32).toInt = 0 := rfl
        omega
      · split at h
        · rename_i q
          have q := of_decide_eq_true q
          cases h
          have : m % n = m := Nat.mod_eq_of_lt (by omega)
          exact ⟨_, rfl, by rw [hmod, this]; omega, by rw [hmod, this]; omega⟩
        · split at h
          · rename_i q
            have q := of_decide_eq_true q
            cases h
            have : la % lb = ((m % n : Nat) : Int) := by rw [hlb, show la = (m : Int) by omega]; rfl
            exact ⟨_, rfl, by rw [hmod, this]; omega, by rw [hmod, this]; omega⟩
          · cases h
            exact ⟨_, rfl, by rw [hmod]; omega, by rw [hmod]; omega⟩
    · cases h
  · cases h
theorem e_div_ok {a c r : AV} {x y : Int32} (hE : genv ν E) (ha : gv ν al b a (.int x)) (hc : gv ν al b c (.int y)) (h : e_div E a c = some r) : ¬ y = 0 ∧ gv ν al b r (.int (x / y)) := by
  unfold e_div at h
  split at h
  · rename_i la ha1 lb hb1 e1 e2
    have p1 := gv_int2 hE ha e1
    have p2 := gv_int2 hE hc e2
    split at h
    · rename_i hc0
      simp only [Bool.and_eq_true, decide_eq_true_eq] at hc0
      obtain ⟨c1, c2⟩ := hc0
      obtain ⟨n, hy, hn, en⟩ := en_nn (x := y) (by omega)
      have hn0 : 0 < n := by omega
      have hlb : lb = (n : Int) := by omega
      refine ⟨fun h0 => ?_, ?_⟩
      · rw [h0] at en
        have : (0 : Int32).toInt = 0 := rfl
        omega
      · split at h
        · rename_i c3
          have c3 := of_decide_eq_true c3
          obtain ⟨m, hx, hm, em⟩ := en_nn (x := x) (by omega)
          have hdiv : (x / y).toInt = ((m / n : Nat) : Int) := by
            have := Nat.div_le_self m n
            rw [hx, hy, pk_div hm hn0 hn, nI_toInt (by omega)]
          cases h
          refine ⟨_, rfl, ?_, ?_⟩
          · rw [hdiv, hlb, Int.natCast_ediv]; exact Int.ediv_le_ediv (by omega) (by omega)
          · rw [hdiv, hlb, Int.natCast_ediv]; exact Int.ediv_le_ediv (by omega) (by omega)
        · cases h; exact gv_top _
    · cases h
  · cases h
end NUM
end
section
section REL2
variable {ν : Nat → Int} {al : List Nat} {b : Nat} {E : EV}
theorem en_i8 {x : Int32} (h1 : -128 ≤ x.toInt) (h2 : x.toInt ≤ 127) : x.toInt8.toInt32 = x := fb_byte h1 (by omega)
theorem en_wide (x : Int32) : x.toInt64.toInt = x.toInt := by simp
theorem genv_set {k : Nat} {q : Int × Int} (hE : genv ν E) (h : q.1 ≤ ν k ∧ ν k ≤ q.2) : genv ν (E.set k q) := by
  intro j r hj
  rw [List.getElem?_set] at hj
  by_cases e : k = j
  · subst e
    rw [if_pos rfl] at hj
    split at hj
    · cases hj; exact h
    · cases hj
  · rw [if_neg e] at hj
    exact hE j r hj
theorem e_clamp_ok {a : AV} {x : Int32} {lo hi : Int} (hE : genv ν E) (ha : gv ν al b a (.int x)) (hk : ∃ q, e_iv E a = some q) (h1 : lo ≤ x.toInt) (h2 : x.toInt ≤ hi) : ∃ E1, e_clamp E a lo hi = some E1 ∧ genv ν E1 ∧ ∀ (c : AV) q, e_iv E c = some q → ∃ q', e_iv E1 c = some q' := by
  rcases a with ⟨l0, h0⟩ | ⟨k, c⟩ | ⟨l0, h0⟩ | (_ | i) | _
  · obtain ⟨x', e, g1, g2⟩ := ha
    cases e
    refine ⟨E, ?_, hE, fun c q hq => ⟨q, hq⟩⟩
    simp only [e_clamp]
    rw [if_pos]
    simp only [Bool.and_eq_true, decide_eq_true_eq]
    omega
  · obtain ⟨x', e, g1⟩ := ha
    cases e
    obtain ⟨q, hq⟩ := hk
    simp only [e_iv] at hq
    cases hkk : E[k]? with
    | none => rw [hkk] at hq; cases hq
    | some r =>
      obtain ⟨la, ha⟩ := r
      have w := hE k _ hkk
      simp only at w
      refine ⟨E.set k (max la (lo - c), min ha (hi - c)), ?_, genv_set hE ⟨by simp only; omega, by simp only; omega⟩, fun d q hq => ?_⟩
      · simp only [e_clamp, hkk]
        rw [if_pos]
        simp only [decide_eq_true_eq]
        omega
      · rcases d with ⟨l1, h1⟩ | ⟨k1, c1⟩ | ⟨l1, h1⟩ | (_ | i1) | _
        · exact ⟨_, rfl⟩
        · simp only [e_iv] at hq ⊢
          rw [List.getElem?_set]
          by_cases e9 : k = k1
          · subst e9
            have hlt := (List.getElem?_eq_some_iff.mp hkk).1
            rw [if_pos rfl, if_pos hlt]
            exact ⟨_, rfl⟩
          · rw [if_neg e9]
            exact ⟨q, hq⟩
        all_goals (simp only [e_iv] at hq; cases hq)
  all_goals (obtain ⟨q, hq⟩ := hk; simp only [e_iv] at hq; cases hq)
theorem e_clamp2_ok {a c : AV} {x y : Int32} {la ha lb hb : Int} (hE : genv ν E) (hx : gv ν al b a (.int x)) (hy : gv ν al b c (.int y)) (k1 : ∃ q, e_iv E a = some q) (k2 : ∃ q, e_iv E c = some q) (h1 : la ≤ x.toInt) (h2 : x.toInt ≤ ha) (h3 : lb ≤ y.toInt) (h4 : y.toInt ≤ hb) : ∃ E1, e_clamp2 E a la ha c lb hb = some E1 ∧ genv ν E1 := by
  obtain ⟨E1, e1, g1, w1⟩ := e_clamp_ok hE hx k1 h1 h2
  obtain ⟨q, hq⟩ := k2
  obtain ⟨E2, e2, g2, -⟩ := e_clamp_ok g1 hy (w1 _ _ hq) h3 h4
  exact ⟨E2, by simp only [e_clamp2, e1, e2], g2⟩
def e_holds (r : Nat) (x y : Int) : Prop := match r with
  | 0 => x = y
  | 1 => x ≠ y
  | 2 => x < y
  | _ => y ≤ x
theorem mem_toL {x : Option EV} {E1 : EV} (h : x = some E1) : E1 ∈ x.toList := by rw [h]; exact List.mem_cons_self
theorem e_rel_ok {a c : AV} {x y : Int32} {r : Nat} {o : List EV} (hE : genv ν E) (hx : gv ν al b a (.int x)) (hy : gv ν al b c (.int y)) (h : e_rel E r a c = some o) (hr : e_holds r x.toInt y.toInt) : ∃ E1, E1 ∈ o ∧ genv ν E1 := by
  unfold e_rel at h
  split at h
  · rename_i la ha1 lb hb1 e1 e2
    have p1 := gv_int2 hE hx e1
    have p2 := gv_int2 hE hy e2
    have r1 := fb_rng x
    have r2 := fb_rng y
    split at h
    · have hr : x.toInt = y.toInt := hr
      cases h
      obtain ⟨E1, g1, g2⟩ := e_clamp2_ok hE hx hy ⟨_, e1⟩ ⟨_, e2⟩ (show lb ≤ x.toInt by omega) (show x.toInt ≤ hb1 by omega) (show la ≤ y.toInt by omega) (show y.toInt ≤ ha1 by omega)
      exact ⟨E1, mem_toL g1, g2⟩
    · have hr : x.toInt ≠ y.toInt := hr
      split at h
      · rename_i q
        simp only [Bool.and_eq_true, decide_eq_true_eq] at q
        omega
      · split at h
        · split at h
          · rename_i k1 c1 k2 c2 q
            simp only [Bool.and_eq_true, decide_eq_true_eq] at q
            have := Nat.eq_of_beq_eq_true q.1
            subst this
            obtain ⟨x', ex, hx'⟩ := hx
            obtain ⟨y', ey, hy'⟩ := hy
            cases ex
            cases ey
            omega
          · cases h; exact ⟨E, List.mem_cons_self, hE⟩
        · split at h
          · rename_i q
            have q := of_decide_eq_true q
            cases h
            rcases (show x.toInt ≤ lb - 1 ∨ lb + 1 ≤ x.toInt by omega) with w | w
            · obtain ⟨E1, e1, g1, -⟩ := e_clamp_ok (lo := -2147483648) (hi := lb - 1) hE hx ⟨_, e1⟩ (by omega) (by omega)
              exact ⟨E1, List.mem_append_left _ (mem_toL e1), g1⟩
            · obtain ⟨E1, e1, g1, -⟩ := e_clamp_ok (lo := lb + 1) (hi := 2147483647) hE hx ⟨_, e1⟩ (by omega) (by omega)
              exact ⟨E1, List.mem_append_right _ (mem_toL e1), g1⟩
          · cases h; exact ⟨E, List.mem_cons_self, hE⟩
    · have hr : x.toInt < y.toInt := hr
      cases h
      obtain ⟨E1, g1, g2⟩ := e_clamp2_ok hE hx hy ⟨_, e1⟩ ⟨_, e2⟩ (show -2147483648 ≤ x.toInt by omega) (show x.toInt ≤ hb1 - 1 by omega) (show la + 1 ≤ y.toInt by omega) (show y.toInt ≤ 2147483647 by omega)
      exact ⟨E1, mem_toL g1, g2⟩
    · rename_i n0 n1 n2
      have hr : y.toInt ≤ x.toInt := by
        rcases r with _ | _ | _ | r
        · exact absurd rfl n0
        · exact absurd rfl n1
        · exact absurd rfl n2
        · exact hr
      cases h
      obtain ⟨E1, g1, g2⟩ := e_clamp2_ok hE hx hy ⟨_, e1⟩ ⟨_, e2⟩ (show lb ≤ x.toInt by omega) (show x.toInt ≤ 2147483647 by omega) (show -2147483648 ≤ y.toInt by omega) (show y.toInt ≤ ha1 by omega)
      exact ⟨E1, mem_toL g1, g2⟩
  · cases h
theorem e_get_put {d a : AV} {x : List (Nat × AV)} {j i : Nat} : e_get d (e_put d x j a) i = if i = j then a else e_get d x i := by
  have hf : ∀ x : List (Nat × AV), e_get d (x.filter (fun q => !(Nat.beq q.1 j))) i = if i = j then d else e_get d x i := by
    intro x
    induction x with
    | nil => simp [e_get]
    | cons q r ih =>
      obtain ⟨k, c⟩ := q
      rw [List.filter_cons]
      by_cases hk : Nat.beq k j = true
      · have hkj := Nat.eq_of_beq_eq_true hk
        simp only [hk, Bool.not_true, Bool.false_eq_true, if_false]
        rw [ih]
        by_cases hi : i = j
        · rw [if_pos hi, if_pos hi]
        · rw [if_neg hi, if_neg hi]
          simp only [e_get]
          rw [if_neg]
          intro h
          have := Nat.eq_of_beq_eq_true h
          omega
      · have hk' : Nat.beq k j = false := by
          cases hq : Nat.beq k j with
          | true => exact absurd hq hk
          | false => rfl
        simp only [hk', Bool.not_false, if_true]
        simp only [e_get]
        by_cases hki : Nat.beq k i = true
        · rw [if_pos hki, if_pos hki, if_neg]
          intro h
          have := Nat.eq_of_beq_eq_true hki
          rw [this, h] at hk
          exact hk (Nat.beq_refl j)
        · rw [if_neg hki, if_neg hki]
          exact ih
  unfold e_put
  split
  · rename_i h
    rw [hf, h]
  · simp only [e_get]
    by_cases hji : Nat.beq j i = true
    · have := Nat.eq_of_beq_eq_true hji
      rw [if_pos hji, if_pos this.symm]
    · rw [if_neg hji, hf, if_neg]
      · rw [if_neg]
        intro h
        rw [h] at hji
        exact hji (Nat.beq_refl j)
      · intro h
        rw [h] at hji
        exact hji (Nat.beq_refl j)
end REL2
end
section
/-! steps that touch neither heap nor pc -/
def e_rng8 (n : Int) : Bool := decide (-128 ≤ n) && decide (n ≤ 127)
def e_rng16 (n : Int) : Bool := decide (-32768 ≤ n) && decide (n ≤ 32767)
def e_ld (len : Nat) (k : AV → Bool) (lo : List (Nat × AV)) (st : List AV) (i : Nat) : Option (Nat × List (Nat × AV) × List AV) := match e_find lo i with
  | some a => if k a = true then some (len, lo, a :: st) else none
  | none => none
def e_sr (len : Nat) (k : AV → Bool) (nL : Nat) (lo : List (Nat × AV)) (st : List AV) (i : Nat) : Option (Nat × List (Nat × AV) × List AV) := match st with
  | a :: st' => if (k a && decide (i < nL)) = true then some (len, e_st1 lo i a, st') else none
  | [] => none
def e_sr2 (len : Nat) (nL : Nat) (lo : List (Nat × AV)) (st : List AV) (i : Nat) : Option (Nat × List (Nat × AV) × List AV) := match st with
  | a :: st' => if (e_isL a && decide (i + 1 < nL)) = true then some (len, e_st2 lo i a, st') else none
  | [] => none
def e_b2 (ins : Instr) (E : EV) (lo : List (Nat × AV)) (st : List AV) : Option (Nat × List (Nat × AV) × List AV) := match st with
  | y :: x :: st' => (match e_bin ins E x y with | some r => some (1, lo, r :: st') | none => none)
  | _ => none
def e_u1 (ins : Instr) (E : EV) (lo : List (Nat × AV)) (st : List AV) : Option (Nat × List (Nat × AV) × List AV) := match st with
  | x :: st' => (match e_un ins E x with | some r => some (1, lo, r :: st') | none => none)
  | _ => none
def e_simple (nL : Nat) (E : EV) (ins : Instr) (lo : List (Nat × AV)) (st : List AV) : Option (Nat × List (Nat × AV) × List AV) := match ins with
  | .iconst n => if e_rng8 n = true then some (1, lo, aI n :: st) else none
  | .bipush n => if e_rng8 n = true then some (2, lo, aI n :: st) else none
  | .sipush n => if e_rng16 n = true then some (3, lo, aI n :: st) else none
  | .lconst k => some (1, lo, aL (k.val : Int) (k.val : Int) :: st)
  | .aconst_null => some (1, lo, aN :: st)
  | .iload_n k => e_ld 1 e_isI lo st k.val
  | .iload i => e_ld 2 e_isI lo st i
  | .lload_n k => e_ld 1 e_isL lo st k.val
  | .lload i => e_ld 2 e_isL lo st i
  | .aload_n k => e_ld 1 e_isR lo st k.val
  | .aload i => e_ld 2 e_isR lo st i
  | .istore_n k => e_sr 1 e_isI nL lo st k.val
  | .istore i => e_sr 2 e_isI nL lo st i
  | .astore_n k => e_sr 1 e_isR nL lo st k.val
  | .astore i => e_sr 2 e_isR nL lo st i
  | .lstore_n k => e_sr2 1 nL lo st k.val
  | .lstore i => e_sr2 2 nL lo st i
  | .iinc i n => (match e_find lo i with
    | some a => (match e_add E a (aI n) with | some r => if (e_rng16 n && decide (i < nL)) = true then some (3, e_st1 lo i r, st) else none | none => none)
    | none => none)
  | .iadd => e_b2 .iadd E lo st
  | .isub => e_b2 .isub E lo st
  | .imul => e_b2 .imul E lo st
  | .iand => e_b2 .iand E lo st
  | .ior => e_b2 .ior E lo st
  | .ixor => e_b2 .ixor E lo st
  | .ishl => e_b2 .ishl E lo st
  | .ishr => e_b2 .ishr E lo st
  | .iushr => e_b2 .iushr E lo st
  | .irem => e_b2 .irem E lo st
  | .idiv => e_b2 .idiv E lo st
  | .ineg => e_u1 .ineg E lo st
  | .i2b => e_u1 .i2b E lo st
  | .i2l => e_u1 .i2l E lo st
  | .lcmp => (match st with | y :: x :: st' => if (e_isL x && e_isL y) = true then some (1, lo, (match x, y with | .inr (.inr (.inl (lx, hx))), .inr (.inr (.inl (ly, hy))) => if (decide (lx = hx) && (decide (ly = hy) && decide (lx = ly))) = true then aI 0 else .inl (-1, 1) | _, _ => .inl (-1, 1)) :: st') else none | _ => none)
  | .dup => (match st with | a :: st' => if e_isL a = false then some (1, lo, a :: a :: st') else none | _ => none)
  | .dup_x1 => (match st with | a :: c :: st' => if (e_isL a || e_isL c) = false then some (1, lo, a :: c :: a :: st') else none | _ => none)
  | .dup2 => (match st with | a :: c :: st' => if (e_isL a || e_isL c) = false then some (1, lo, a :: c :: a :: c :: st') else none | _ => none)
  | .pop => (match st with | a :: st' => if e_isL a = false then some (1, lo, st') else none | _ => none)
  | _ => none
section SIMPLE
variable {ν : Nat → Int} {al : List Nat} {b : Nat} {E : EV}
variable {p : Program} {l : Launch} {e : Env} {R : Room} {s : State} {m : MethodId} {args : Array Value} {below : List Frame} {meth : Method} {c : Code} {H : Heap} {locs : List Loc} {cells slots : Nat} {Q : State → Prop}
variable {cc : ByteArray} {pc nL : Nat} {ls : Array Slot}
theorem e_bin_ok {ins : Instr} {x y r : AV} {vx vy : Value} {rest : List Value} (hx9 : p.tables.exec = Jvm.exec) (hb : c.code = cc) (hd : decode cc pc = .ok (ins, 1)) (hE : genv ν E) (hx : gv ν al b x vx) (hy : gv ν al b y vy) (h : e_bin ins E x y = some r)
    (kk : ∀ v, gv ν al b r v → W p l e R s m args below meth c H locs cells slots Q (F0 m (pc + 1) ls (v :: rest))) : W p l e R s m args below meth c H locs cells slots Q (F0 m pc ls (vy :: vx :: rest)) := by
  have ix : ∀ {r}, e_add E x y = some r ∨ e_sub E x y = some r ∨ e_mul E x y = some r ∨ e_and E x y = some r ∨ e_or E x y = some r ∨ e_xor E x y = some r ∨ e_shl E x y = some r ∨ e_shr E x y = some r ∨ e_top2 E x y = some r ∨ e_rem E x y = some r ∨ e_div E x y = some r → ∃ i j : Int32, vx = .int i ∧ vy = .int j := by
    intro r h
    have : ∃ q1 q2, e_iv E x = some q1 ∧ e_iv E y = some q2 := by
      unfold e_add e_sub e_mul e_and e_or e_xor e_shl e_shr e_top2 e_rem e_div at h
      rcases h1 : e_iv E x with _ | q1
      · simp [h1] at h
      · rcases h2 : e_iv E y with _ | q2
        · simp [h1, h2] at h
        · exact ⟨q1, q2, rfl, rfl⟩
    obtain ⟨⟨q1, q1'⟩, ⟨q2, q2'⟩, e1, e2⟩ := this
    obtain ⟨i, ei, -⟩ := gv_int hE hx e1
    obtain ⟨j, ej, -⟩ := gv_int hE hy e2
    exact ⟨i, j, ei, ej⟩
  unfold e_bin at h
  split at h
  · obtain ⟨i, j, rfl, rfl⟩ := ix (Or.inl h)
    exact lv_iadd hx9 hb hd (kk _ (e_add_ok hE hx hy h))
  · obtain ⟨i, j, rfl, rfl⟩ := ix (Or.inr (Or.inl h))
    exact lv_isub hx9 hb hd (kk _ (e_sub_ok hE hx hy h))
  · obtain ⟨i, j, rfl, rfl⟩ := ix (Or.inr (Or.inr (Or.inl h)))
    exact lv_imul hx9 hb hd (kk _ (e_mul_ok hE hx hy h))
  · obtain ⟨i, j, rfl, rfl⟩ := ix (Or.inr (Or.inr (Or.inr (Or.inl h))))
    exact lv_iand hx9 hb hd (kk _ (e_and_ok hE hx hy h))
  · obtain ⟨i, j, rfl, rfl⟩ := ix (Or.inr (Or.inr (Or.inr (Or.inr (Or.inl h)))))
    exact lv_ior hx9 hb hd (kk _ (e_or_ok hE hx hy h))
  · obtain ⟨i, j, rfl, rfl⟩ := ix (Or.inr (Or.inr (Or.inr (Or.inr (Or.inr (Or.inl h))))))
    exact lv_ixor hx9 hb hd (kk _ (e_xor_ok hE hx hy h))
  · obtain ⟨i, j, rfl, rfl⟩ := ix (Or.inr (Or.inr (Or.inr (Or.inr (Or.inr (Or.inr (Or.inl h)))))))
    exact lv_ishl hx9 hb hd (kk _ (e_shl_ok hE hx hy h))
  · obtain ⟨i, j, rfl, rfl⟩ := ix (Or.inr (Or.inr (Or.inr (Or.inr (Or.inr (Or.inr (Or.inr (Or.inl h))))))))
    exact lv_ishr hx9 hb hd (kk _ (e_shr_ok hE hx hy h))
  · obtain ⟨i, j, rfl, rfl⟩ := ix (Or.inr (Or.inr (Or.inr (Or.inr (Or.inr (Or.inr (Or.inr (Or.inr (Or.inl h)))))))))
    exact lv_iushr hx9 hb hd rfl (kk _ (e_top2_ok h))
  · obtain ⟨i, j, rfl, rfl⟩ := ix (Or.inr (Or.inr (Or.inr (Or.inr (Or.inr (Or.inr (Or.inr (Or.inr (Or.inr (Or.inl h))))))))))
    exact lv_irem hx9 hb hd (e_rem_ok hE hx hy h).1 (kk _ (e_rem_ok hE hx hy h).2)
  · obtain ⟨i, j, rfl, rfl⟩ := ix (Or.inr (Or.inr (Or.inr (Or.inr (Or.inr (Or.inr (Or.inr (Or.inr (Or.inr (Or.inr h))))))))))
    exact lv_idiv hx9 hb hd (e_div_ok hE hx hy h).1 (kk _ (e_div_ok hE hx hy h).2)
  · cases h
theorem e_un_ok {ins : Instr} {x r : AV} {vx : Value} {rest : List Value} (hx9 : p.tables.exec = Jvm.exec) (hb : c.code = cc) (hd : decode cc pc = .ok (ins, 1)) (hE : genv ν E) (hx : gv ν al b x vx) (h : e_un ins E x = some r)
    (kk : ∀ v, gv ν al b r v → W p l e R s m args below meth c H locs cells slots Q (F0 m (pc + 1) ls (v :: rest))) : W p l e R s m args below meth c H locs cells slots Q (F0 m pc ls (vx :: rest)) := by
  unfold e_un at h
  split at h
  · split at h
    · rename_i la ha e1
      obtain ⟨i, rfl, h1, h2⟩ := gv_int hE hx e1
      cases h
      refine lv_ineg hx9 hb hd (kk _ (gv_mkw (z := -i.toInt) (fun h3 h4 => fb_negI (by omega)) (by omega) (by omega)))
    · cases h
  · split at h
    · rename_i la ha e1
      obtain ⟨i, rfl, h1, h2⟩ := gv_int hE hx e1
      split at h
      · rename_i q
        simp only [Bool.and_eq_true, decide_eq_true_eq] at q
        cases h
        exact lv_i2b hx9 hb hd (en_i8 (by omega) (by omega)) (kk _ hx)
      · cases h
        have w := fb_byte_rng i
        exact lv_i2b hx9 hb hd rfl (kk _ ⟨_, rfl, by omega, by omega⟩)
    · cases h
  · split at h
    · rename_i la ha e1
      obtain ⟨i, rfl, h1, h2⟩ := gv_int hE hx e1
      cases h
      exact lv_i2l hx9 hb hd rfl (kk _ ⟨_, rfl, by rw [en_wide]; exact h1, by rw [en_wide]; exact h2⟩)
    · cases h
  · cases h
end SIMPLE
end
section
section SIMPLE2
variable {ν : Nat → Int} {al : List Nat} {b : Nat} {E : EV}
variable {p : Program} {l : Launch} {e : Env} {R : Room} {s : State} {m : MethodId} {args : Array Value} {below : List Frame} {meth : Method} {c : Code} {H : Heap} {locs : List Loc} {cells slots : Nat} {Q : State → Prop}
variable {cc : ByteArray} {pc nL : Nat} {ls : Array Slot}
theorem en_o32 {n : Int} (h1 : -2147483648 ≤ n) (h2 : n < 2147483648) : (Int32.ofInt n).toInt = n := fb_ofI h1 h2
theorem en_o8 {n : Int} (h1 : -128 ≤ n) (h2 : n ≤ 127) : (Int8.ofInt n).toInt32.toInt = n := by
  rw [Int8.toInt_toInt32, Int8.toInt_ofInt]
  unfold Int.bmod
  simp only [Int8.size] at *
  split <;> omega
theorem en_o16 {n : Int} (h1 : -32768 ≤ n) (h2 : n ≤ 32767) : (Int16.ofInt n).toInt32.toInt = n := by
  rw [Int16.toInt_toInt32, Int16.toInt_ofInt]
  unfold Int.bmod
  simp only [Int16.size] at *
  split <;> omega
theorem en_cmp (x y : Int64) : -1 ≤ (lg_cmp x y).toInt ∧ (lg_cmp x y).toInt ≤ 1 := by
  unfold lg_cmp
  split
  · decide
  · split <;> decide
theorem e_ld_I {len i : Nat} {lo lo' : List (Nat × AV)} {st st' : List AV} {n : Nat} {lv : List (Nat × Value)} (h : e_ld len e_isI lo st i = some (n, lo', st')) (hl : lv_has ls nL lv) (hg : glv ν al b lo lv) : n = len ∧ lo' = lo ∧ ∃ (a : AV) (x : Int32), st' = a :: st ∧ ls[i]? = some (.val (.int x)) ∧ gv ν al b a (.int x) := by
  unfold e_ld at h
  split at h
  · rename_i a ea
    split at h
    · rename_i q
      cases h
      obtain ⟨k, v, e1, g1⟩ := e_find_ok hg ea
      obtain ⟨x, rfl⟩ := gv_isI g1 q
      exact ⟨rfl, rfl, a, x, rfl, lv_at hl k e1, g1⟩
    · cases h
  · cases h
theorem e_ld_L {len i : Nat} {lo lo' : List (Nat × AV)} {st st' : List AV} {n : Nat} {lv : List (Nat × Value)} (h : e_ld len e_isL lo st i = some (n, lo', st')) (hl : lv_has ls nL lv) (hg : glv ν al b lo lv) : n = len ∧ lo' = lo ∧ ∃ (a : AV) (x : Int64), st' = a :: st ∧ ls[i]? = some (.val (.long x)) ∧ gv ν al b a (.long x) := by
  unfold e_ld at h
  split at h
  · rename_i a ea
    split at h
    · rename_i q
      cases h
      obtain ⟨k, v, e1, g1⟩ := e_find_ok hg ea
      obtain ⟨x, rfl⟩ := gv_isL g1 q
      exact ⟨rfl, rfl, a, x, rfl, lv_at hl k e1, g1⟩
    · cases h
  · cases h
theorem e_ld_R {len i : Nat} {lo lo' : List (Nat × AV)} {st st' : List AV} {n : Nat} {lv : List (Nat × Value)} (h : e_ld len e_isR lo st i = some (n, lo', st')) (hl : lv_has ls nL lv) (hg : glv ν al b lo lv) : n = len ∧ lo' = lo ∧ ∃ (a : AV) (v : Value), st' = a :: st ∧ ls[i]? = some (.val v) ∧ gv ν al b a v ∧ (v = .null ∨ ∃ q : Nat, v = .ref q) := by
  unfold e_ld at h
  split at h
  · rename_i a ea
    split at h
    · rename_i q
      cases h
      obtain ⟨k, v, e1, g1⟩ := e_find_ok hg ea
      exact ⟨rfl, rfl, a, v, rfl, lv_at hl k e1, g1, gv_isR g1 q⟩
    · cases h
  · cases h
theorem e_sr_ok {len i : Nat} {k : AV → Bool} {lo lo' : List (Nat × AV)} {st st' : List AV} {n : Nat} (h : e_sr len k nL lo st i = some (n, lo', st')) : n = len ∧ ∃ a, st = a :: st' ∧ k a = true ∧ i < nL ∧ lo' = e_st1 lo i a := by
  unfold e_sr at h
  split at h
  · split at h
    · rename_i a st0 q
      simp only [Bool.and_eq_true, decide_eq_true_eq] at q
      cases h
      exact ⟨rfl, a, rfl, q.1, q.2, rfl⟩
    · cases h
  · cases h
theorem e_sr2_ok {len i : Nat} {lo lo' : List (Nat × AV)} {st st' : List AV} {n : Nat} (h : e_sr2 len nL lo st i = some (n, lo', st')) : n = len ∧ ∃ a, st = a :: st' ∧ e_isL a = true ∧ i + 1 < nL ∧ lo' = e_st2 lo i a := by
  unfold e_sr2 at h
  split at h
  · split at h
    · rename_i a st0 q
      simp only [Bool.and_eq_true, decide_eq_true_eq] at q
      cases h
      exact ⟨rfl, a, rfl, q.1, q.2, rfl⟩
    · cases h
  · cases h
set_option maxHeartbeats 4000000 in
theorem e_simple_ok {ins : Instr} {len : Nat} {lo lo' : List (Nat × AV)} {st st' : List AV} {lv : List (Nat × Value)} {vs : List Value} (hx9 : p.tables.exec = Jvm.exec) (hb : c.code = cc)
    (h : e_simple nL E ins lo st = some (len, lo', st')) (hd : decode cc pc = .ok (ins, len)) (hl : lv_has ls nL lv) (hg : glv ν al b lo lv) (hs : gvs ν al b st vs) (hE : genv ν E)
    (kk : ∀ ls' lv' vs', lv_has ls' nL lv' → glv ν al b lo' lv' → gvs ν al b st' vs' → W p l e R s m args below meth c H locs cells slots Q (F0 m (pc + len) ls' vs')) : W p l e R s m args below meth c H locs cells slots Q (F0 m pc ls vs) := by
  have bin : ∀ {i : Instr}, e_b2 i E lo st = some (len, lo', st') → decode cc pc = .ok (i, len) → W p l e R s m args below meth c H locs cells slots Q (F0 m pc ls vs) := by
    intro i h hd
    unfold e_b2 at h
    split at h
    · split at h
      · rename_i y x st0 r hr
        cases h
        obtain ⟨vy, vs1, rfl, g1, hs⟩ := gvs_cons hs
        obtain ⟨vx, vs2, rfl, g2, hs⟩ := gvs_cons hs
        exact e_bin_ok hx9 hb hd hE g2 g1 hr (fun v hv => kk _ _ _ hl hg ⟨hv, hs⟩)
      · cases h
    · cases h
  have un : ∀ {i : Instr}, e_u1 i E lo st = some (len, lo', st') → decode cc pc = .ok (i, len) → W p l e R s m args below meth c H locs cells slots Q (F0 m pc ls vs) := by
    intro i h hd
    unfold e_u1 at h
    split at h
    · split at h
      · rename_i x st0 r hr
        cases h
        obtain ⟨vx, vs2, rfl, g2, hs⟩ := gvs_cons hs
        exact e_un_ok hx9 hb hd hE g2 hr (fun v hv => kk _ _ _ hl hg ⟨hv, hs⟩)
      · cases h
    · cases h
  unfold e_simple at h
  split at h
  · -- iconst
    split at h
    · rename_i n q
      simp only [e_rng8, Bool.and_eq_true, decide_eq_true_eq] at q
      cases h
      exact lv_iconst hx9 hb hd rfl (kk _ _ _ hl hg ⟨⟨_, rfl, by rw [en_o32 (by omega) (by omega)]; omega, by rw [en_o32 (by omega) (by omega)]; omega⟩, hs⟩)
    · cases h
  · split at h
    · rename_i n q
      simp only [e_rng8, Bool.and_eq_true, decide_eq_true_eq] at q
      cases h
      exact lv_bipush hx9 hb hd rfl (kk _ _ _ hl hg ⟨⟨_, rfl, by rw [en_o8 q.1 q.2]; omega, by rw [en_o8 q.1 q.2]; omega⟩, hs⟩)
    · cases h
  · split at h
    · rename_i n q
      simp only [e_rng16, Bool.and_eq_true, decide_eq_true_eq] at q
      cases h
      exact lv_sipush hx9 hb hd rfl (kk _ _ _ hl hg ⟨⟨_, rfl, by rw [en_o16 q.1 q.2]; omega, by rw [en_o16 q.1 q.2]; omega⟩, hs⟩)
    · cases h
  · rename_i k
    cases h
    have w : (Int64.ofNat k.val).toInt = (k.val : Int) := lN_toInt (by have := k.isLt; omega)
    exact lv_lconst hx9 hb hd rfl (kk _ _ _ hl hg ⟨⟨_, rfl, by rw [w]; omega, by rw [w]; omega⟩, hs⟩)
  · cases h
    exact lv_null hx9 hb hd (kk _ _ _ hl hg ⟨rfl, hs⟩)
  · obtain ⟨rfl, rfl, a, x, rfl, e1, g1⟩ := e_ld_I h hl hg
    exact lv_iload_n hx9 hb hd rfl e1 (kk _ _ _ hl hg ⟨g1, hs⟩)
  · obtain ⟨rfl, rfl, a, x, rfl, e1, g1⟩ := e_ld_I h hl hg
    exact lv_iload hx9 hb hd e1 (kk _ _ _ hl hg ⟨g1, hs⟩)
  · obtain ⟨rfl, rfl, a, x, rfl, e1, g1⟩ := e_ld_L h hl hg
    exact lv_lload_n hx9 hb hd rfl e1 (kk _ _ _ hl hg ⟨g1, hs⟩)
  · obtain ⟨rfl, rfl, a, x, rfl, e1, g1⟩ := e_ld_L h hl hg
    exact lv_lload hx9 hb hd e1 (kk _ _ _ hl hg ⟨g1, hs⟩)
  · obtain ⟨rfl, rfl, a, v, rfl, e1, g1, rfl | ⟨q, rfl⟩⟩ := e_ld_R h hl hg
    · exact lv_aload_nN hx9 hb hd rfl e1 (kk _ _ _ hl hg ⟨g1, hs⟩)
    · exact lv_aload_n hx9 hb hd rfl e1 (kk _ _ _ hl hg ⟨g1, hs⟩)
  · obtain ⟨rfl, rfl, a, v, rfl, e1, g1, rfl | ⟨q, rfl⟩⟩ := e_ld_R h hl hg
    · exact lv_aloadN hx9 hb hd e1 (kk _ _ _ hl hg ⟨g1, hs⟩)
    · exact lv_aload hx9 hb hd e1 (kk _ _ _ hl hg ⟨g1, hs⟩)
  · obtain ⟨rfl, a, rfl, hk, hi, rfl⟩ := e_sr_ok h
    obtain ⟨v, vs1, rfl, g1, hs1⟩ := gvs_cons hs
    obtain ⟨x, rfl⟩ := gv_isI g1 hk
    exact lv_istore_n hx9 hb hd rfl hl hi rfl (fun ls' hl' => kk _ _ _ hl' (glv_st1 hg g1) hs1)
  · obtain ⟨rfl, a, rfl, hk, hi, rfl⟩ := e_sr_ok h
    obtain ⟨v, vs1, rfl, g1, hs1⟩ := gvs_cons hs
    obtain ⟨x, rfl⟩ := gv_isI g1 hk
    exact lv_istore hx9 hb hd hl hi rfl (fun ls' hl' => kk _ _ _ hl' (glv_st1 hg g1) hs1)
  · obtain ⟨rfl, a, rfl, hk, hi, rfl⟩ := e_sr_ok h
    obtain ⟨v, vs1, rfl, g1, hs1⟩ := gvs_cons hs
    rcases gv_isR g1 hk with rfl | ⟨q, rfl⟩
    · exact lv_astore_nN hx9 hb hd rfl hl hi rfl (fun ls' hl' => kk _ _ _ hl' (glv_st1 hg g1) hs1)
    · exact lv_astore_n hx9 hb hd rfl hl hi rfl (fun ls' hl' => kk _ _ _ hl' (glv_st1 hg g1) hs1)
  · obtain ⟨rfl, a, rfl, hk, hi, rfl⟩ := e_sr_ok h
    obtain ⟨v, vs1, rfl, g1, hs1⟩ := gvs_cons hs
    rcases gv_isR g1 hk with rfl | ⟨q, rfl⟩
    · exact lv_astoreN hx9 hb hd hl hi rfl (fun ls' hl' => kk _ _ _ hl' (glv_st1 hg g1) hs1)
    · exact lv_astore hx9 hb hd hl hi rfl (fun ls' hl' => kk _ _ _ hl' (glv_st1 hg g1) hs1)
  · obtain ⟨rfl, a, rfl, hk, hi, rfl⟩ := e_sr2_ok h
    obtain ⟨v, vs1, rfl, g1, hs1⟩ := gvs_cons hs
    obtain ⟨x, rfl⟩ := gv_isL g1 hk
    exact lv_lstore_n hx9 hb hd rfl hl hi rfl (fun ls' hl' => kk _ _ _ hl' (glv_st2 hg g1) hs1)
  · obtain ⟨rfl, a, rfl, hk, hi, rfl⟩ := e_sr2_ok h
    obtain ⟨v, vs1, rfl, g1, hs1⟩ := gvs_cons hs
    obtain ⟨x, rfl⟩ := gv_isL g1 hk
    exact lv_lstore hx9 hb hd hl hi rfl (fun ls' hl' => kk _ _ _ hl' (glv_st2 hg g1) hs1)
  · rename_i i n
    split at h
    · rename_i a ea
      split at h
      · rename_i r hr
        split at h
        · rename_i q
          simp only [e_rng16, Bool.and_eq_true, decide_eq_true_eq] at q
          cases h
          obtain ⟨k, v, e1, g1⟩ := e_find_ok hg ea
          have hv : ∃ x : Int32, v = .int x := by
            have : ∃ q1, e_iv E a = some q1 := by
              unfold e_add at hr
              rcases h1 : e_iv E a with _ | q1
              · simp [h1] at hr
              · exact ⟨q1, rfl⟩
            obtain ⟨⟨q1, q1'⟩, e1⟩ := this
            obtain ⟨i, ei, -⟩ := gv_int hE g1 e1
            exact ⟨i, ei⟩
          obtain ⟨x, rfl⟩ := hv
          have gn : gv ν al b (aI n) (.int (Int32.ofInt n)) := ⟨_, rfl, by rw [en_o32 (by omega) (by omega)]; omega, by rw [en_o32 (by omega) (by omega)]; omega⟩
          exact lv_iinc hx9 hb hd hl e1 rfl q.2 rfl (fun ls' hl' => kk _ _ _ hl' (glv_st1 hg (e_add_ok hE g1 gn hr)) hs)
        · cases h
      · cases h
    · cases h
  · exact bin h hd
  · exact bin h hd
  · exact bin h hd
  · exact bin h hd
  · exact bin h hd
  · exact bin h hd
  · exact bin h hd
  · exact bin h hd
  · exact bin h hd
  · exact bin h hd
  · exact bin h hd
  · exact un h hd
  · exact un h hd
  · exact un h hd
  · -- lcmp
    split at h
    · split at h
      · rename_i y x st0 q
        simp only [Bool.and_eq_true] at q
        cases h
        obtain ⟨vy, vs1, rfl, g1, hs⟩ := gvs_cons hs
        obtain ⟨vx, vs2, rfl, g2, hs3⟩ := gvs_cons hs
        obtain ⟨i, rfl⟩ := gv_isL g2 q.1
        obtain ⟨j, rfl⟩ := gv_isL g1 q.2
        refine W.lcmp hx9 hb hd (kk _ _ _ hl hg ⟨?_, hs3⟩)
        have w := en_cmp i j
        split
        · rename_i lx hx ly hy
          split
          · rename_i q2
            simp only [Bool.and_eq_true, decide_eq_true_eq] at q2
            obtain ⟨i', ei, i1, i2⟩ := g2
            obtain ⟨j', ej, j1, j2⟩ := g1
            cases ei
            cases ej
            have : i = j := (fa_eq64 _ _).mpr (by omega)
            subst this
            have : lg_cmp i i = 0 := by unfold lg_cmp; simp
            exact ⟨_, rfl, by rw [this]; decide, by rw [this]; decide⟩
          · exact ⟨_, rfl, w.1, w.2⟩
        · exact ⟨_, rfl, w.1, w.2⟩
      · cases h
    · cases h
  · split at h
    · split at h
      · rename_i a st0 q
        cases h
        obtain ⟨v, vs1, rfl, g1, hs⟩ := gvs_cons hs
        exact lv_dup hx9 hb hd (gv_cat1 g1 q) (kk _ _ _ hl hg ⟨g1, g1, hs⟩)
      · cases h
    · cases h
  · split at h
    · split at h
      · rename_i a c0 st0 q
        simp only [Bool.or_eq_false_iff] at q
        cases h
        obtain ⟨v, vs1, rfl, g1, hs⟩ := gvs_cons hs
        obtain ⟨v2, vs2, rfl, g2, hs⟩ := gvs_cons hs
        exact lv_dup_x1 hx9 hb hd (gv_cat1 g1 q.1) (gv_cat1 g2 q.2) (kk _ _ _ hl hg ⟨g1, g2, g1, hs⟩)
      · cases h
    · cases h
  · split at h
    · split at h
      · rename_i a c0 st0 q
        simp only [Bool.or_eq_false_iff] at q
        cases h
        obtain ⟨v, vs1, rfl, g1, hs⟩ := gvs_cons hs
        obtain ⟨v2, vs2, rfl, g2, hs⟩ := gvs_cons hs
        exact lv_dup2_11 hx9 hb hd (gv_cat1 g1 q.1) (gv_cat1 g2 q.2) (kk _ _ _ hl hg ⟨g1, g2, g1, g2, hs⟩)
      · cases h
    · cases h
  · split at h
    · split at h
      · rename_i a st0 q
        cases h
        obtain ⟨v, vs1, rfl, g1, hs⟩ := gvs_cons hs
        exact lv_pop hx9 hb hd (gv_cat1 g1 q) (kk _ _ _ hl hg hs)
      · cases h
    · cases h
  · cases h
end SIMPLE2
end
section
/-! the world: cells by their places, behind a pool that stays as it is -/
abbrev alw (ws : va_W) : List Nat := ws.map (fun q => q.1)
def gC (ν : Nat → Int) (al : List Nat) (b : Nat) (cy : Nat → ClassId) (c : AC) (e : va_E) : Prop := match c with
  | .inl (t, n, d, x) =>
    (t ≤ 2 ∧ ∃ f : Nat → Int32, e = .inl (cy t, n, .inl f) ∧ ∀ j, j < n → gv ν al b (e_get d x j) (.int (f j))) ∨
    (t = 3 ∧ ∃ f : Nat → Int64, e = .inl (cy t, n, .inr (.inl f)) ∧ ∀ j, j < n → gv ν al b (e_get d x j) (.long (f j))) ∨
    (4 ≤ t ∧ ∃ f : Nat → Option Nat, e = .inl (cy t, n, .inr (.inr (.inr (.inr f)))) ∧ ∀ j, j < n → gv ν al b (e_get d x j) (va_rf (f j)))
  | .inr (ci, fs) => ∃ vs : List Value, e = .inr (ci, vs) ∧ gvs ν al b fs vs
def gW (ν : Nat → Int) (b : Nat) (cy : Nat → ClassId) (C : List AC) (ws : va_W) : Prop :=
  C.length = ws.length ∧ ∀ (i : Nat) (c : AC), C[i]? = some c → ∃ (q : Nat) (e : va_E), ws[i]? = some (q, e) ∧ gC ν (alw ws) b cy c e
/-- the types of arrays by their numbers -/
def e_aty (t : Nat) : FieldType := match t with
  | 0 => .int
  | 1 => .byte
  | 2 => .boolean
  | 3 => .long
  | 4 => .object "NounFast$Scene"
  | _ => .object "NounFast$Sentence"
/-- the class of what an array of references holds -/
def e_acls (t : Nat) : Nat := match t with
  | 4 => 6
  | _ => 7
def atys (cy : Nat → ClassId) : List (ClassId × FieldType) := [(cy 0, .int), (cy 1, .byte), (cy 2, .boolean), (cy 3, .long), (cy 4, .object "NounFast$Scene"), (cy 5, .object "NounFast$Sentence")]
theorem atys_at (cy : Nat → ClassId) : ∀ t, t < 6 → (atys cy)[t]? = some (cy t, e_aty t) := by
  intro t ht
  rcases (show t = 0 ∨ t = 1 ∨ t = 2 ∨ t = 3 ∨ t = 4 ∨ t = 5 by omega) with rfl | rfl | rfl | rfl | rfl | rfl <;> rfl
def Wd (D : va_G) (cy : Nat → ClassId) (A : Nat → Prop) (H0 : Heap) (pool : va_W) (ν : Nat → Int) (b : Nat) (C : List AC) (ws : va_W) (H : Heap) (locs : List Loc) : Prop :=
  gW ν b cy C ws ∧ va_P D vwCl (pool ++ ws) H ∧ va_D A (pool ++ ws) ∧ va_S A H0 H locs
section WORLD
variable {ν : Nat → Int} {al : List Nat} {b : Nat} {cy : Nat → ClassId} {C : List AC} {ws : va_W}
theorem gvs_len {as : List AV} {vs : List Value} (h : gvs ν al b as vs) : as.length = vs.length := by
  induction as generalizing vs with
  | nil => cases vs with
    | nil => rfl
    | cons => exact absurd h id
  | cons a as ih => cases vs with
    | nil => exact absurd h id
    | cons v vs => simp [ih h.2]
theorem gvs_get {as : List AV} {vs : List Value} {k : Nat} {a : AV} (h : gvs ν al b as vs) (hk : as[k]? = some a) : ∃ v, vs[k]? = some v ∧ gv ν al b a v := by
  induction as generalizing vs k with
  | nil => simp at hk
  | cons a0 as ih => cases vs with
    | nil => exact absurd h id
    | cons v vs =>
      cases k with
      | zero => simp at hk; subst hk; exact ⟨v, rfl, h.1⟩
      | succ k =>
        simp at hk
        obtain ⟨w, h1, h2⟩ := ih h.2 hk
        exact ⟨w, h1, h2⟩
theorem gvs_set {as : List AV} {vs : List Value} {k : Nat} {a : AV} {v : Value} (h : gvs ν al b as vs) (ha : gv ν al b a v) : gvs ν al b (as.set k a) (vs.set k v) := by
  induction as generalizing vs k with
  | nil => cases vs with
    | nil => exact h
    | cons => exact absurd h id
  | cons a0 as ih => cases vs with
    | nil => exact absurd h id
    | cons w vs =>
      cases k with
      | zero => exact ⟨ha, h.2⟩
      | succ k => exact ⟨h.1, ih h.2⟩
theorem gC_app {c : AC} {e : va_E} (m : List Nat) (h : gC ν al b cy c e) : gC ν (al ++ m) b cy c e := by
  rcases c with ⟨t, n, d, x⟩ | ⟨ci, fs⟩
  · rcases h with ⟨h0, f, h1, h2⟩ | ⟨h0, f, h1, h2⟩ | ⟨h0, f, h1, h2⟩
    · exact Or.inl ⟨h0, f, h1, fun j hj => gv_app m (h2 j hj)⟩
    · exact Or.inr (Or.inl ⟨h0, f, h1, fun j hj => gv_app m (h2 j hj)⟩)
    · exact Or.inr (Or.inr ⟨h0, f, h1, fun j hj => gv_app m (h2 j hj)⟩)
  · obtain ⟨vs, h1, h2⟩ := h
    exact ⟨vs, h1, gvs_app m h2⟩
theorem alw_at {i q : Nat} {e : va_E} (h : ws[i]? = some (q, e)) : (alw ws)[i]? = some q := by
  simp [alw, h]
theorem gW_at {i : Nat} {c : AC} (h : gW ν b cy C ws) (hi : C[i]? = some c) : ∃ (q : Nat) (e : va_E), ws[i]? = some (q, e) ∧ (alw ws)[i]? = some q ∧ gC ν (alw ws) b cy c e := by
  obtain ⟨q, e, h1, h2⟩ := h.2 i c hi
  exact ⟨q, e, h1, alw_at h1, h2⟩
theorem alw_set {i q : Nat} {e e1 : va_E} (h : ws[i]? = some (q, e)) : alw (ws.set i (q, e1)) = alw ws := by
  apply List.ext_getElem?
  intro k
  simp only [alw, List.getElem?_map, List.getElem?_set]
  by_cases hk : i = k
  · subst hk
    have hlt := (List.getElem?_eq_some_iff.mp h).1
    rw [if_pos rfl, if_pos hlt, h]
    rfl
  · rw [if_neg hk]
theorem gW_set {i q : Nat} {e e1 : va_E} {c : AC} (h : gW ν b cy C ws) (hi : ws[i]? = some (q, e)) (hc : gC ν (alw ws) b cy c e1) : gW ν b cy (C.set i c) (ws.set i (q, e1)) := by
  refine ⟨by simp [h.1], fun k c1 hk => ?_⟩
  rw [alw_set hi]
  rw [List.getElem?_set] at hk ⊢
  by_cases e9 : i = k
  · subst e9
    have hlt := (List.getElem?_eq_some_iff.mp hi).1
    rw [if_pos rfl, if_pos hlt]
    rw [if_pos rfl, if_pos (by rw [h.1]; exact hlt)] at hk
    cases hk
    exact ⟨q, e1, rfl, hc⟩
  · rw [if_neg e9] at hk ⊢
    exact h.2 k c1 hk
theorem gW_push {q : Nat} {e : va_E} {c : AC} (h : gW ν b cy C ws) (hc : gC ν (alw ws ++ [q]) b cy c e) : gW ν b cy (C ++ [c]) (ws ++ [(q, e)]) := by
  refine ⟨by simp [h.1], fun k c1 hk => ?_⟩
  have ea : alw (ws ++ [(q, e)]) = alw ws ++ [q] := by simp [alw]
  rw [ea]
  by_cases hlt : k < C.length
  · rw [List.getElem?_append_left hlt] at hk
    obtain ⟨q1, e1, h1, h2⟩ := h.2 k c1 hk
    exact ⟨q1, e1, by rw [List.getElem?_append_left (by rw [← h.1]; exact hlt)]; exact h1, gC_app _ h2⟩
  · have hk9 : k = C.length := by
      have := (List.getElem?_eq_some_iff.mp hk).1
      simp at this
      omega
    subst hk9
    rw [List.getElem?_append_right (Nat.le_refl _)] at hk
    simp at hk
    subst hk
    refine ⟨q, e, ?_, hc⟩
    rw [h.1, List.getElem?_append_right (Nat.le_refl _)]
    simp
theorem pw_at {pool ws : va_W} {i : Nat} {x : Nat × va_E} (h : ws[i]? = some x) : (pool ++ ws)[pool.length + i]? = some x := by
  rw [List.getElem?_append_right (by omega), Nat.add_sub_cancel_left]; exact h
theorem pw_set {pool ws : va_W} {i : Nat} {x : Nat × va_E} : (pool ++ ws).set (pool.length + i) x = pool ++ ws.set i x := by
  rw [List.set_append_right _ _ (by omega), Nat.add_sub_cancel_left]
theorem gv_ref {i q : Nat} {v : Value} (h : gv ν al b (aR i) v) (hq : al[i]? = some q) : v = .ref q := by
  obtain ⟨q', h1, rfl⟩ := h
  rw [hq] at h1
  cases h1
  rfl
/-- a number that is known, as a place in a row -/
theorem en_in {x : Int32} {k n : Nat} (h : x.toInt = (k : Int)) (hk : k < n) (hn : n < 2147483648) : vp_in x n ∧ x.toNatClampNeg = k := by
  have e : x = nI k := (fa_eq _ _).mpr (by rw [nI_toInt (by omega)]; exact h)
  subst e
  exact ⟨vp_in_nI hk (by omega), nI_clamp (by omega)⟩
end WORLD
end
section
/-! facts of the classes -/
def BIG : List Cond := lw_tbl.filter goodWord
theorem big_good : ∀ w ∈ BIG, goodWord w = true := fun w h => (List.mem_filter.mp h).2
theorem big_in : ∀ w ∈ BIG, w ∈ lw_tbl := fun w h => (List.mem_filter.mp h).1
theorem inB0 : ∀ w ∈ u_ws RX0 TX0 6, w ∈ BIG := fun w h => List.mem_filter.mpr ⟨inX0 w h, (show ∀ w ∈ u_ws RX0 TX0 6, goodWord w = true by decide +kernel) w h⟩
theorem inB1 : ∀ w ∈ u_ws RX1 TX1 9, w ∈ BIG := fun w h => List.mem_filter.mpr ⟨inX1 w h, (show ∀ w ∈ u_ws RX1 TX1 9, goodWord w = true by decide +kernel) w h⟩
theorem inB2 : ∀ w ∈ u_ws RX2 TX2 3, w ∈ BIG := fun w h => List.mem_filter.mpr ⟨inX2 w h, (show ∀ w ∈ u_ws RX2 TX2 3, goodWord w = true by decide +kernel) w h⟩
theorem inB3 : ∀ w ∈ u_ws RX3 TX3 1, w ∈ BIG := fun w h => List.mem_filter.mpr ⟨inX3 w h, (show ∀ w ∈ u_ws RX3 TX3 1, goodWord w = true by decide +kernel) w h⟩
theorem inB4 : ∀ w ∈ u_ws RX4 TX4 3, w ∈ BIG := fun w h => List.mem_filter.mpr ⟨inX4 w h, (show ∀ w ∈ u_ws RX4 TX4 3, goodWord w = true by decide +kernel) w h⟩
theorem inB6 : ∀ w ∈ u_ws RX6 TX6 2, w ∈ BIG := fun w h => List.mem_filter.mpr ⟨inX6 w h, (show ∀ w ∈ u_ws RX6 TX6 2, goodWord w = true by decide +kernel) w h⟩
theorem inB7 : ∀ w ∈ u_ws RX7 TX7 10, w ∈ BIG := fun w h => List.mem_filter.mpr ⟨inX7 w h, (show ∀ w ∈ u_ws RX7 TX7 10, goodWord w = true by decide +kernel) w h⟩
theorem inB8 : ∀ w ∈ u_ws RX8 TX8 6, w ∈ BIG := fun w h => List.mem_filter.mpr ⟨inX8 w h, (show ∀ w ∈ u_ws RX8 TX8 6, goodWord w = true by decide +kernel) w h⟩
theorem inB9 : ∀ w ∈ u_ws RX9 TX9 2, w ∈ BIG := fun w h => List.mem_filter.mpr ⟨inX9 w h, (show ∀ w ∈ u_ws RX9 TX9 2, goodWord w = true by decide +kernel) w h⟩
theorem inB10 : ∀ w ∈ u_ws RX10 TX10 11, w ∈ BIG := fun w h => List.mem_filter.mpr ⟨inX10 w h, (show ∀ w ∈ u_ws RX10 TX10 11, goodWord w = true by decide +kernel) w h⟩
theorem inB11 : ∀ w ∈ u_ws RX11 TX11 18, w ∈ BIG := fun w h => List.mem_filter.mpr ⟨inX11 w h, (show ∀ w ∈ u_ws RX11 TX11 18, goodWord w = true by decide +kernel) w h⟩
theorem inB12 : ∀ w ∈ u_ws RX12 TX12 53, w ∈ BIG := fun w h => List.mem_filter.mpr ⟨inX12 w h, (show ∀ w ∈ u_ws RX12 TX12 53, goodWord w = true by decide +kernel) w h⟩
def clTy (ci : Nat) : Nat → FieldType := match ci with
  | 0 => tyX0
  | 1 => tyX1
  | 2 => tyX2
  | 3 => tyX3
  | 4 => tyX4
  | 5 => tyX6
  | 6 => tyX7
  | 7 => tyX8
  | 8 => tyX9
  | 9 => tyX10
  | 10 => tyX11
  | _ => tyX12
def cl_good (ci : Nat) (q : vw_C) : Prop := (∀ k, k < q.2.2 → parseFieldDescriptor (q.2.1 k).2.2.1 = some (clTy ci k)) ∧ (∀ a, a < q.2.2 → ∀ b, b < q.2.2 → a ≠ b → (q.2.1 a).2.1 ≠ (q.2.1 b).2.1) ∧ ∀ w ∈ u_ws q.1 q.2.1 q.2.2, w ∈ BIG
theorem cl_ok : ∀ (ci : Nat) (q : vw_C), vwCl[ci]? = some q → cl_good ci q := by
  intro ci q h
  match ci, h with
  | 0, h => cases h; exact ⟨tyX0_ok, nmX0, inB0⟩
  | 1, h => cases h; exact ⟨tyX1_ok, nmX1, inB1⟩
  | 2, h => cases h; exact ⟨tyX2_ok, nmX2, inB2⟩
  | 3, h => cases h; exact ⟨tyX3_ok, nmX3, inB3⟩
  | 4, h => cases h; exact ⟨tyX4_ok, nmX4, inB4⟩
  | 5, h => cases h; exact ⟨tyX6_ok, nmX6, inB6⟩
  | 6, h => cases h; exact ⟨tyX7_ok, nmX7, inB7⟩
  | 7, h => cases h; exact ⟨tyX8_ok, nmX8, inB8⟩
  | 8, h => cases h; exact ⟨tyX9_ok, nmX9, inB9⟩
  | 9, h => cases h; exact ⟨tyX10_ok, nmX10, inB10⟩
  | 10, h => cases h; exact ⟨tyX11_ok, nmX11, inB11⟩
  | 11, h => cases h; exact ⟨tyX12_ok, nmX12, inB12⟩
  | n + 12, h => simp [vwCl] at h
end
section
section HEAP
variable {ν : Nat → Int} {b : Nat} {cy : Nat → ClassId} {C : List AC} {ws pool : va_W} {D : va_G} {A : Nat → Prop} {H0 : Heap}
variable {p : Program} {l : Launch} {e : Env} {R : Room} {s : State} {m : MethodId} {args : Array Value} {below : List Frame} {meth : Method} {c : Code} {H : Heap} {locs : List Loc} {cells slots : Nat} {Q : State → Prop}
variable {cc : ByteArray} {pc nL : Nat} {ls : Array Slot} {rest : List Value} {own : String}
theorem h_get {idx i q ci k : Nat} {fs : List AV} {r : vw_C} {a : AV} (hx9 : p.tables.exec = Jvm.exec) (hb : c.code = cc) (hts : ∀ w ∈ BIG, w.before args s = true) (hown : s.vm.findClass own = some m.cls) (hK : va_K D vwCl (atys cy) s) (hW : Wd D cy A H0 pool ν b C ws H locs)
    (hi : C[i]? = some (.inr (ci, fs))) (hq : (alw ws)[i]? = some q) (hc : vwCl[ci]? = some r) (hk : k < r.2.2) (ha : fs[k]? = some a) (hlink : (Cond.fieldLink own idx (r.2.1 k).1 (r.2.1 k).2.1 (r.2.1 k).2.2.1).before args s = true) (hd : decode cc pc = .ok (.getfield idx, 3))
    (kk : ∀ v, gv ν (alw ws) b a v → W p l e R s m args below meth c H locs cells slots Q (F0 m (pc + 3) ls (v :: rest))) : W p l e R s m args below meth c H locs cells slots Q (F0 m pc ls (.ref q :: rest)) := by
  obtain ⟨q', e', h1, h2, vs, rfl, h3⟩ := gW_at hW.1 hi
  rw [hq] at h2
  cases h2
  obtain ⟨v, hv, gvv⟩ := gvs_get h3 ha
  obtain ⟨r1, r2, r3⟩ := cl_ok ci r hc
  exact va_get (D := D) (ci := ci) (v := v) (C := r.1) (T := r.2.1) (N := r.2.2) hx9 hb hts r3 hown hK hW.2.1 (pool.length + i) (pw_at h1) hc k hk hlink (fun _ h9 => h9) hv hd (kk v gvv)
theorem h_getN {idx i q ci k : Nat} {host : String} {fs : List AV} {r : vw_C} {a : AV} (hx9 : p.tables.exec = Jvm.exec) (hb : c.code = cc) (hts : ∀ w ∈ BIG, w.before args s = true) (hown : s.vm.findClass own = some m.cls) (hK : va_K D vwCl (atys cy) s) (hW : Wd D cy A H0 pool ν b C ws H locs)
    (hi : C[i]? = some (.inr (ci, fs))) (hq : (alw ws)[i]? = some q) (hc : vwCl[ci]? = some r) (hk : k < r.2.2) (ha : fs[k]? = some a) (hlink : (Cond.fieldLinkNest own idx (r.2.1 k).1 (r.2.1 k).2.1 (r.2.1 k).2.2.1 host).before args s = true) (hd : decode cc pc = .ok (.getfield idx, 3))
    (kk : ∀ v, gv ν (alw ws) b a v → W p l e R s m args below meth c H locs cells slots Q (F0 m (pc + 3) ls (v :: rest))) : W p l e R s m args below meth c H locs cells slots Q (F0 m pc ls (.ref q :: rest)) := by
  obtain ⟨q', e', h1, h2, vs, rfl, h3⟩ := gW_at hW.1 hi
  rw [hq] at h2
  cases h2
  obtain ⟨v, hv, gvv⟩ := gvs_get h3 ha
  obtain ⟨r1, r2, r3⟩ := cl_ok ci r hc
  exact va_getN (D := D) (ci := ci) (v := v) (C := r.1) (T := r.2.1) (N := r.2.2) hx9 hb hts r3 hown hK hW.2.1 (pool.length + i) (pw_at h1) hc k hk hlink (fun _ h9 => h9) hv hd (kk v gvv)
/-- may a field of this type hold it -/
def e_fits (E : EV) (ty : FieldType) (a : AV) : Bool := match ty with
  | .int => (match e_iv E a with | some _ => true | none => false)
  | .boolean => (match e_iv E a with | some (lo, hi) => decide (0 ≤ lo) && decide (hi ≤ 1) | none => false)
  | .long => e_isL a
  | .object _ => e_isR a
  | .array _ => e_isR a
  | _ => false
theorem en_b01 {x : Int32} (h1 : 0 ≤ x.toInt) (h2 : x.toInt ≤ 1) : x = 0 ∨ x = 1 := by
  rcases (show x.toInt = 0 ∨ x.toInt = 1 by omega) with h | h
  · exact Or.inl ((fa_eq _ _).mpr h)
  · exact Or.inr ((fa_eq _ _).mpr h)
theorem e_fits_ok {E : EV} {al : List Nat} {ty : FieldType} {a : AV} {v : Value} (hE : genv ν E) (h : gv ν al b a v) (hf : e_fits E ty a = true) : narrow ty v = v ∧ fits ty v = true := by
  unfold e_fits at hf
  split at hf
  · split at hf
    · rename_i q hq
      obtain ⟨x, rfl, -⟩ := gv_int hE h hq
      exact ⟨rfl, rfl⟩
    · cases hf
  · split at hf
    · rename_i lo hi hq
      simp only [Bool.and_eq_true, decide_eq_true_eq] at hf
      obtain ⟨x, rfl, h1, h2⟩ := gv_int hE h hq
      rcases en_b01 (x := x) (by omega) (by omega) with rfl | rfl <;> exact ⟨by decide, by decide⟩
    · cases hf
  · obtain ⟨x, rfl⟩ := gv_isL h hf
    exact ⟨rfl, rfl⟩
  · rcases gv_isR h hf with rfl | ⟨q, rfl⟩ <;> exact ⟨rfl, rfl⟩
  · rcases gv_isR h hf with rfl | ⟨q, rfl⟩ <;> exact ⟨rfl, rfl⟩
  · cases hf
theorem h_put {E : EV} {idx i q ci k : Nat} {fs : List AV} {r : vw_C} {a : AV} {v : Value} (hx9 : p.tables.exec = Jvm.exec) (hb : c.code = cc) (hts : ∀ w ∈ BIG, w.before args s = true) (hown : s.vm.findClass own = some m.cls) (hK : va_K D vwCl (atys cy) s) (hW : Wd D cy A H0 pool ν b C ws H locs) (hE : genv ν E)
    (hi : C[i]? = some (.inr (ci, fs))) (hq : (alw ws)[i]? = some q) (hc : vwCl[ci]? = some r) (hk : k < r.2.2) (hl9 : k < fs.length) (ha : gv ν (alw ws) b a v) (hf : e_fits E (clTy ci k) a = true) (hfin : (r.2.1 k).2.2.2 = false ∨ (meth.name = "<init>" ∧ (r.2.1 k).2.2.2 = true ∧ (r.2.1 k).1 = own)) (hlink : (Cond.fieldLink own idx (r.2.1 k).1 (r.2.1 k).2.1 (r.2.1 k).2.2.1).before args s = true) (hd : decode cc pc = .ok (.putfield idx, 3))
    (kk : ∀ ws' H' locs', alw ws' = alw ws → Wd D cy A H0 pool ν b (C.set i (.inr (ci, fs.set k a))) ws' H' locs' → W p l e R s m args below meth c H' locs' cells slots Q (F0 m (pc + 3) ls rest)) : W p l e R s m args below meth c H locs cells slots Q (F0 m pc ls (v :: .ref q :: rest)) := by
  obtain ⟨q', e', h1, h2, vs, rfl, h3⟩ := gW_at hW.1 hi
  rw [hq] at h2
  cases h2
  obtain ⟨r1, r2, r3⟩ := cl_ok ci r hc
  obtain ⟨f1, f2⟩ := e_fits_ok hE ha hf
  have hlen : k < vs.length := by rw [← gvs_len h3]; exact hl9
  have cont : ∀ (H1 : Heap) (locs1 : List Loc), va_P D vwCl ((pool ++ ws).set (pool.length + i) (q, .inr (ci, vs.set k v))) H1 → va_D A ((pool ++ ws).set (pool.length + i) (q, .inr (ci, vs.set k v))) → va_S A H0 H1 locs1 → W p l e R s m args below meth c H1 locs1 cells slots Q (F0 m (pc + 3) ls rest) := by
    intro H1 locs1 g1 g2 g3
    rw [pw_set] at g1 g2
    exact kk _ H1 locs1 (alw_set h1) ⟨gW_set hW.1 h1 ⟨_, rfl, gvs_set h3 ha⟩, g1, g2, g3⟩
  rcases hfin with hfin | ⟨hi2, hfin, hdecl⟩
  · exact va_put (D := D) (ci := ci) (v := v) (ty := clTy ci k) (C := r.1) (T := r.2.1) (N := r.2.2) hx9 hb hts r3 (clTy ci) r1 r2 hown hK hW.2.1 hW.2.2.1 hW.2.2.2 (pool.length + i) (pw_at h1) hc k hk hlink (fun _ h9 => h9) hfin (r1 k hk) f1 f2 hlen hd cont
  · exact va_putF (D := D) (ci := ci) (v := v) (ty := clTy ci k) (C := r.1) (T := r.2.1) (N := r.2.2) hx9 hb hts r3 (clTy ci) r1 r2 hown hK hW.2.1 hW.2.2.1 hW.2.2.2 (pool.length + i) (pw_at h1) hc k hk hlink (fun _ h9 => h9) hfin hi2 hdecl (r1 k hk) f1 f2 hlen hd cont
/-- a place of a row of ints, bytes, booleans, longs or references is read -/
theorem h_ald {ins : Instr} {i q t n k : Nat} {d : AV} {x : List (Nat × AV)} {j : Int32} (hx9 : p.tables.exec = Jvm.exec) (hb : c.code = cc) (hK : va_K D vwCl (atys cy) s) (hW : Wd D cy A H0 pool ν b C ws H locs)
    (hi : C[i]? = some (.inl (t, n, d, x))) (hq : (alw ws)[i]? = some q) (ht : t < 6) (hj : j.toInt = (k : Int)) (hk : k < n) (hn : n < 2147483648)
    (hins : (ins = .iaload ∧ t = 0) ∨ (ins = .baload ∧ t = 1) ∨ (ins = .baload ∧ t = 2) ∨ (ins = .laload ∧ t = 3) ∨ (ins = .aaload ∧ 4 ≤ t)) (hd : decode cc pc = .ok (ins, 1))
    (kk : ∀ v, gv ν (alw ws) b (e_get d x k) v → W p l e R s m args below meth c H locs cells slots Q (F0 m (pc + 1) ls (v :: rest))) : W p l e R s m args below meth c H locs cells slots Q (F0 m pc ls (.int j :: .ref q :: rest)) := by
  obtain ⟨q', e', h1, h2, h3⟩ := gW_at hW.1 hi
  rw [hq] at h2
  cases h2
  obtain ⟨hin, hcl⟩ := en_in hj hk hn
  have hT := atys_at cy t ht
  rcases h3 with ⟨g0, f, rfl, g2⟩ | ⟨g0, f, rfl, g2⟩ | ⟨g0, f, rfl, g2⟩
  · have g3 := g2 k hk
    rcases hins with ⟨rfl, rfl⟩ | ⟨rfl, rfl⟩ | ⟨rfl, rfl⟩ | ⟨rfl, rfl⟩ | ⟨rfl, h4⟩
    · exact va_iald hx9 hb hK hW.2.1 (pool.length + i) 0 (pw_at h1) hT hin hd (kk _ (by rw [hcl]; exact g3))
    · exact va_bald hx9 hb hK hW.2.1 (pool.length + i) 1 (pw_at h1) hT hin hd (kk _ (by rw [hcl]; exact g3))
    · exact va_zald hx9 hb hK hW.2.1 (pool.length + i) 2 (pw_at h1) hT hin hd (kk _ (by rw [hcl]; exact g3))
    · omega
    · omega
  · have g3 := g2 k hk
    rcases hins with ⟨rfl, h4⟩ | ⟨rfl, h4⟩ | ⟨rfl, h4⟩ | ⟨rfl, h4⟩ | ⟨rfl, h4⟩
    · omega
    · omega
    · omega
    · subst h4
      exact va_lald hx9 hb hK hW.2.1 (pool.length + i) 3 (pw_at h1) hT hin hd (kk _ (by rw [hcl]; exact g3))
    · omega
  · have g3 := g2 k hk
    rcases hins with ⟨rfl, h4⟩ | ⟨rfl, h4⟩ | ⟨rfl, h4⟩ | ⟨rfl, h4⟩ | ⟨rfl, h4⟩
    · omega
    · omega
    · omega
    · omega
    · rcases (show t = 4 ∨ t = 5 by omega) with rfl | rfl
      · exact va_aldq hx9 hb hK hW.2.1 (pool.length + i) 4 (pw_at h1) hT hin hd (kk _ (by rw [hcl]; exact g3))
      · exact va_aldq hx9 hb hK hW.2.1 (pool.length + i) 5 (pw_at h1) hT hin hd (kk _ (by rw [hcl]; exact g3))
end HEAP
end
section
/-! stores into rows, lengths, what is made, rows copied -/
section HEAP2
variable {ν : Nat → Int} {b : Nat} {cy : Nat → ClassId} {C : List AC} {ws pool : va_W} {D : va_G} {A : Nat → Prop} {H0 : Heap}
variable {p : Program} {l : Launch} {e : Env} {R : Room} {s : State} {m : MethodId} {args : Array Value} {below : List Frame} {meth : Method} {c : Code} {H : Heap} {locs : List Loc} {cells slots : Nat} {Q : State → Prop}
variable {cc : ByteArray} {pc nL : Nat} {ls : Array Slot} {rest : List Value} {own : String}
def e_rfits (C : List AC) (t : Nat) (a : AV) : Bool := match a with
  | .inr (.inr (.inr (.inl none))) => true
  | .inr (.inr (.inr (.inl (some i)))) => (match C[i]? with | some (.inr (ci, _)) => Nat.beq ci (e_acls t) | _ => false)
  | _ => false
/-- may a row of this kind hold it -/
def e_afits (E : EV) (C : List AC) (t : Nat) (a : AV) : Bool := match t with
  | 0 => (match e_iv E a with | some _ => true | none => false)
  | 1 => (match e_iv E a with | some (lo, hi) => decide (-128 ≤ lo) && decide (hi ≤ 127) | none => false)
  | 2 => (match e_iv E a with | some (lo, hi) => decide (0 ≤ lo) && decide (hi ≤ 1) | none => false)
  | 3 => e_isL a
  | _ => e_rfits C t a
def e_aop (ins : Instr) (t : Nat) : Bool := match ins with
  | .iastore => Nat.beq t 0
  | .bastore => Nat.beq t 1 || Nat.beq t 2
  | .lastore => Nat.beq t 3
  | .aastore => Nat.ble 4 t
  | _ => false
theorem vwCl_acls : ∀ t, 4 ≤ t → t < 6 → ∃ r : vw_C, vwCl[e_acls t]? = some r ∧ e_aty t = .object r.1 := by
  intro t h1 h2
  rcases (show t = 4 ∨ t = 5 by omega) with rfl | rfl
  · exact ⟨(RX7, TX7, 10), rfl, rfl⟩
  · exact ⟨(RX8, TX8, 6), rfl, rfl⟩
theorem h_ast {E : EV} {ins : Instr} {i q t n k : Nat} {d a : AV} {x : List (Nat × AV)} {j : Int32} {v : Value} (hx9 : p.tables.exec = Jvm.exec) (hb : c.code = cc) (hK : va_K D vwCl (atys cy) s) (hW : Wd D cy A H0 pool ν b C ws H locs) (hE : genv ν E)
    (hi : C[i]? = some (.inl (t, n, d, x))) (hq : (alw ws)[i]? = some q) (ht : t < 6) (hj : j.toInt = (k : Int)) (hk : k < n) (hn : n < 2147483648) (ha : gv ν (alw ws) b a v)
    (hf : e_afits E C t a = true) (hins : e_aop ins t = true) (hd : decode cc pc = .ok (ins, 1))
    (kk : ∀ ws' H' locs', alw ws' = alw ws → Wd D cy A H0 pool ν b (C.set i (.inl (t, n, d, e_put d x k a))) ws' H' locs' → W p l e R s m args below meth c H' locs' cells slots Q (F0 m (pc + 1) ls rest)) : W p l e R s m args below meth c H locs cells slots Q (F0 m pc ls (v :: .int j :: .ref q :: rest)) := by
  obtain ⟨q', e', h1, h2, h3⟩ := gW_at hW.1 hi
  rw [hq] at h2
  cases h2
  obtain ⟨hin, hcl⟩ := en_in hj hk hn
  have hT := atys_at cy t ht
  have cont : ∀ {e1 : va_E}, gC ν (alw ws) b cy (.inl (t, n, d, e_put d x k a)) e1 → ∀ (H1 : Heap) (locs1 : List Loc), va_P D vwCl ((pool ++ ws).set (pool.length + i) (q, e1)) H1 → va_D A ((pool ++ ws).set (pool.length + i) (q, e1)) → va_S A H0 H1 locs1 → W p l e R s m args below meth c H1 locs1 cells slots Q (F0 m (pc + 1) ls rest) := by
    intro e1 hC H1 locs1 g1 g2 g3
    rw [pw_set] at g1 g2
    exact kk _ H1 locs1 (alw_set h1) ⟨gW_set hW.1 h1 hC, g1, g2, g3⟩
  rcases h3 with ⟨g0, f, rfl, g2⟩ | ⟨g0, f, rfl, g2⟩ | ⟨g0, f, rfl, g2⟩
  · have hu : ∀ y : Int32, v = .int y → gC ν (alw ws) b cy (.inl (t, n, d, e_put d x k a)) (.inl (cy t, n, .inl (upd f k y))) := by
      intro y hy
      refine Or.inl ⟨g0, _, rfl, fun j hj => ?_⟩
      rw [e_get_put]
      by_cases e9 : j = k
      · rw [if_pos e9, e9, pk_us, ← hy]; exact ha
      · rw [if_neg e9, pk_un e9]; exact g2 j hj
    rcases (show t = 0 ∨ t = 1 ∨ t = 2 by omega) with rfl | rfl | rfl
    · simp only [e_afits] at hf
      split at hf
      · rename_i qq hq9
        obtain ⟨y, rfl, -⟩ := gv_int hE ha hq9
        cases ins <;> simp [e_aop] at hins
        exact va_iast hx9 hb hK hW.2.1 hW.2.2.1 hW.2.2.2 (pool.length + i) 0 (pw_at h1) hT hin hd (cont (by rw [hcl]; exact hu y rfl))
      · cases hf
    · simp only [e_afits] at hf
      split at hf
      · rename_i lo hi9 hq9
        simp only [Bool.and_eq_true, decide_eq_true_eq] at hf
        obtain ⟨y, rfl, y1, y2⟩ := gv_int hE ha hq9
        have e8 : vp_nar .byte y = y := (vp_nar_byte y).trans (en_i8 (by omega) (by omega))
        cases ins <;> simp [e_aop] at hins
        exact va_bast hx9 hb hK hW.2.1 hW.2.2.1 hW.2.2.2 (pool.length + i) 1 (pw_at h1) hT hin hd (cont (by rw [hcl, e8]; exact hu y rfl))
      · cases hf
    · simp only [e_afits] at hf
      split at hf
      · rename_i lo hi9 hq9
        simp only [Bool.and_eq_true, decide_eq_true_eq] at hf
        obtain ⟨y, rfl, y1, y2⟩ := gv_int hE ha hq9
        have e8 : vp_nar .boolean y = y := by
          rcases en_b01 (x := y) (by omega) (by omega) with rfl | rfl <;> decide
        cases ins <;> simp [e_aop] at hins
        exact va_zast hx9 hb hK hW.2.1 hW.2.2.1 hW.2.2.2 (pool.length + i) 2 (pw_at h1) hT hin hd (cont (by rw [hcl, e8]; exact hu y rfl))
      · cases hf
  · subst g0
    simp only [e_afits] at hf
    obtain ⟨y, rfl⟩ := gv_isL ha hf
    cases ins <;> simp [e_aop] at hins
    refine va_last hx9 hb hK hW.2.1 hW.2.2.1 hW.2.2.2 (pool.length + i) 3 (pw_at h1) hT hin hd (cont ?_)
    rw [hcl]
    refine Or.inr (Or.inl ⟨rfl, _, rfl, fun j hj => ?_⟩)
    rw [e_get_put]
    by_cases e9 : j = k
    · rw [if_pos e9, e9, pk_uLs]; exact ha
    · rw [if_neg e9, pk_uLn e9]; exact g2 j hj
  · obtain ⟨r, hr1, hr2⟩ := vwCl_acls t g0 ht
    have hu : ∀ y : Option Nat, v = va_rf y → gC ν (alw ws) b cy (.inl (t, n, d, e_put d x k a)) (.inl (cy t, n, .inr (.inr (.inr (.inr (va_up f k y)))))) := by
      intro y hy
      refine Or.inr (Or.inr ⟨g0, _, rfl, fun j hj => ?_⟩)
      rw [e_get_put]
      unfold va_up
      by_cases e9 : j = k
      · rw [if_pos e9, if_pos e9, ← hy]; exact ha
      · rw [if_neg e9, if_neg e9]; exact g2 j hj
    rw [hr2] at hT
    have hins2 : ins = .aastore := by
      cases ins <;> simp [e_aop] at hins <;> first | rfl | omega
    subst hins2
    have hf2 : e_rfits C t a = true := by
      rcases (show t = 4 ∨ t = 5 by omega) with rfl | rfl <;> exact hf
    unfold e_rfits at hf2
    split at hf2
    · have hv : v = .null := ha
      subst hv
      exact va_astqN hx9 hb hK hW.2.1 hW.2.2.1 hW.2.2.2 (pool.length + i) t (pw_at h1) hT hin hd (cont (by rw [hcl]; exact hu none rfl))
    · rename_i i2
      split at hf2
      · rename_i ci fs hci
        have := Nat.eq_of_beq_eq_true hf2
        subst this
        obtain ⟨q2, e2, k1, k2, vs2, rfl, -⟩ := gW_at hW.1 hci
        have hv : v = .ref q2 := gv_ref ha k2
        subst hv
        exact va_astq hx9 hb hK hW.2.1 hW.2.2.1 hW.2.2.2 (pool.length + i) t (pool.length + i2) (e_acls t) (pw_at h1) hT (pw_at k1) hr1 hin hd (cont (by rw [hcl]; exact hu (some q2) rfl))
      · cases hf2
    · cases hf2
theorem h_alen {i q t n : Nat} {d : AV} {x : List (Nat × AV)} (hx9 : p.tables.exec = Jvm.exec) (hb : c.code = cc) (hK : va_K D vwCl (atys cy) s) (hW : Wd D cy A H0 pool ν b C ws H locs)
    (hi : C[i]? = some (.inl (t, n, d, x))) (hq : (alw ws)[i]? = some q) (ht : t < 6) (hn : n < 2147483648) (hd : decode cc pc = .ok (.arraylength, 1))
    (kk : ∀ v, gv ν (alw ws) b (aI (n : Int)) v → W p l e R s m args below meth c H locs cells slots Q (F0 m (pc + 1) ls (v :: rest))) : W p l e R s m args below meth c H locs cells slots Q (F0 m pc ls (.ref q :: rest)) := by
  obtain ⟨q', e', h1, h2, h3⟩ := gW_at hW.1 hi
  rw [hq] at h2
  cases h2
  have hT := atys_at cy t ht
  have g : gv ν (alw ws) b (aI (n : Int)) (.int (Int32.ofNat n)) := by
    have := nI_toInt (n := n) hn
    exact ⟨_, rfl, by rw [show Int32.ofNat n = nI n from rfl, this]; omega, by rw [show Int32.ofNat n = nI n from rfl, this]; omega⟩
  rcases h3 with ⟨g0, f, rfl, g2⟩ | ⟨g0, f, rfl, g2⟩ | ⟨g0, f, rfl, g2⟩
  · exact va_alen hx9 hb hK hW.2.1 (pool.length + i) t (pw_at h1) hT rfl hd (kk _ g)
  · exact va_alen hx9 hb hK hW.2.1 (pool.length + i) t (pw_at h1) hT rfl hd (kk _ g)
  · exact va_alen hx9 hb hK hW.2.1 (pool.length + i) t (pw_at h1) hT rfl hd (kk _ g)
end HEAP2
end
section
/-! what is made; rows copied -/
def e_dflt (ty : FieldType) : Option AV := match ty with
  | .int => some (aI 0)
  | .boolean => some (aI 0)
  | .long => some (aL 0 0)
  | .object _ => some aN
  | .array _ => some aN
  | _ => none
def e_dflts (ty : Nat → FieldType) (k n : Nat) : Option (List AV) := match n with
  | 0 => some []
  | n + 1 => (match e_dflt (ty k), e_dflts ty (k + 1) n with
    | some a, some r => some (a :: r)
    | _, _ => none)
def v_dflts (ty : Nat → FieldType) (k n : Nat) : List Value := match n with
  | 0 => []
  | n + 1 => defaultValue (ty k) :: v_dflts ty (k + 1) n
section HEAP3
variable {ν : Nat → Int} {b : Nat} {cy : Nat → ClassId} {C : List AC} {ws pool : va_W} {D : va_G} {A : Nat → Prop} {H0 : Heap}
variable {p : Program} {l : Launch} {e : Env} {R : Room} {s : State} {m : MethodId} {args : Array Value} {below : List Frame} {meth : Method} {c : Code} {H : Heap} {locs : List Loc} {cells slots : Nat} {Q : State → Prop}
variable {cc : ByteArray} {pc nL : Nat} {ls : Array Slot} {rest : List Value} {own : String}
theorem e_dflt_ok {al : List Nat} {ty : FieldType} {a : AV} (h : e_dflt ty = some a) : gv ν al b a (defaultValue ty) := by
  cases ty <;> simp [e_dflt] at h <;> subst h <;> first | exact ⟨0, rfl, by decide, by decide⟩ | rfl
theorem e_dflts_ok {al : List Nat} {ty : Nat → FieldType} : ∀ (n k : Nat) (fs : List AV), e_dflts ty k n = some fs → gvs ν al b fs (v_dflts ty k n) := by
  intro n
  induction n with
  | zero => intro k fs h; cases h; trivial
  | succ n ih =>
    intro k fs h
    simp only [e_dflts] at h
    split at h
    · rename_i a r h1 h2
      cases h
      exact ⟨e_dflt_ok h1, ih _ _ h2⟩
    · cases h
theorem v_dflts_at {ty : Nat → FieldType} : ∀ (n k j : Nat), j < n → vp_V (v_dflts ty k n) j = defaultValue (ty (k + j)) := by
  intro n
  induction n with
  | zero => intro k j h; omega
  | succ n ih =>
    intro k j h
    cases j with
    | zero => rfl
    | succ j =>
      have := ih (k + 1) j (by omega)
      rw [show k + (j + 1) = k + 1 + j by omega, ← this]
      rfl
theorem alw_push {q : Nat} {e1 : va_E} : alw (ws ++ [(q, e1)]) = alw ws ++ [q] := by simp [alw]
theorem gv_new {q : Nat} {e1 : va_E} (h : gW ν b cy C ws) : gv ν (alw (ws ++ [(q, e1)])) b (aR C.length) (.ref q) := by
  refine ⟨q, ?_, rfl⟩
  rw [alw_push, List.getElem?_append_right (by simp [h.1]), h.1]
  simp
theorem h_new {idx ci : Nat} {fs : List AV} {r : vw_C} (hx9 : p.tables.exec = Jvm.exec) (hb : c.code = cc) (hts : ∀ w ∈ BIG, w.before args s = true) (hown : s.vm.findClass own = some m.cls) (hK : va_K D vwCl (atys cy) s) (hW : Wd D cy A H0 pool ν b C ws H locs) (hA : ∀ q, H0.size ≤ q → A q)
    (hc : vwCl[ci]? = some r) (hfs : e_dflts (clTy ci) 0 r.2.2 = some fs) (hcl : (Cond.classLink own idx r.1).before args s = true) (hinst : (Cond.instantiable r.1 r.2.2).before args s = true) (hini : (Cond.initialized r.1).before args s = true) (hcells : cells + 1 ≤ R.cells) (hslots : slots + r.2.2 ≤ R.slots) (hd : decode cc pc = .ok (.new idx, 3))
    (kk : ∀ ws' q H', alw ws' = alw ws ++ [q] → gv ν (alw ws') b (aR C.length) (.ref q) → Wd D cy A H0 pool ν b (C ++ [.inr (ci, fs)]) ws' H' locs → W p l e R s m args below meth c H' locs (cells + 1) (slots + r.2.2) Q (F0 m (pc + 3) ls (.ref q :: rest))) : W p l e R s m args below meth c H locs cells slots Q (F0 m pc ls rest) := by
  obtain ⟨r1, r2, r3⟩ := cl_ok ci r hc
  refine va_new (ci := ci) (fs := v_dflts (clTy ci) 0 r.2.2) (C := r.1) (T := r.2.1) (N := r.2.2) hx9 hb hts r3 (clTy ci) r1 hown hcl hinst hini hK hW.2.1 hW.2.2.1 hW.2.2.2 hA hc (fun j hj => ?_) hcells hslots hd (fun q H1 g1 g2 g3 => ?_)
  · rw [v_dflts_at _ _ _ hj, Nat.zero_add]
  · rw [List.append_assoc] at g1 g2
    exact kk _ q H1 alw_push (gv_new hW.1) ⟨gW_push hW.1 ⟨_, rfl, e_dflts_ok _ _ _ hfs⟩, g1, g2, g3⟩
def e_atype (t : ArrayType) : Option Nat := match t with
  | .int => some 0
  | .byte => some 1
  | .boolean => some 2
  | .long => some 3
  | _ => none
theorem en_len {n : Int32} {k : Nat} (h : n.toInt = (k : Int)) (hk : k < 2147483648) : ¬ n < 0 ∧ n.toNatClampNeg = k := by
  have e : n = nI k := (fa_eq _ _).mpr (by rw [nI_toInt (by omega)]; exact h)
  subst e
  exact ⟨nI_pos (by omega), nI_clamp (by omega)⟩
theorem h_newa {at9 : ArrayType} {t k : Nat} {n : Int32} (hx9 : p.tables.exec = Jvm.exec) (hb : c.code = cc) (harr : (Cond.arrayClass (newarray.typeOf at9)).before args s = true) (hK : va_K D vwCl (atys cy) s) (hW : Wd D cy A H0 pool ν b C ws H locs) (hA : ∀ q, H0.size ≤ q → A q)
    (ht : e_atype at9 = some t) (hn : n.toInt = (k : Int)) (hk : k < 65536) (hcells : cells + 1 ≤ R.cells) (hslots : slots + k ≤ R.slots) (hd : decode cc pc = .ok (.newarray at9, 2))
    (kk : ∀ ws' q H', alw ws' = alw ws ++ [q] → gv ν (alw ws') b (aR C.length) (.ref q) → Wd D cy A H0 pool ν b (C ++ [.inl (t, k, (if t = 3 then aL 0 0 else aI 0), [])]) ws' H' locs → W p l e R s m args below meth c H' locs (cells + 1) (slots + k) Q (F0 m (pc + 2) ls (.ref q :: rest))) : W p l e R s m args below meth c H locs cells slots Q (F0 m pc ls (.int n :: rest)) := by
  obtain ⟨n0, n1⟩ := en_len hn (by omega)
  have key : ∀ {a0 : vp_A} (hty : newarray.typeOf at9 = e_aty t) (ha : ∀ cA : ClassId, vp_cell cA a0 = arrV cA k (fun _ => defaultValue (e_aty t))) (hb8 : k * componentBytes (e_aty t) ≤ 536870912) (hRA : ∀ cA : ClassId, va_RA s cA (e_aty t) → cA = cy t) (hg : gC ν ([] : List Nat) b cy (.inl (t, k, (if t = 3 then aL 0 0 else aI 0), [])) (.inl (cy t, a0))), W p l e R s m args below meth c H locs cells slots Q (F0 m pc ls (.int n :: rest)) := by
    intro a0 hty ha hb8 hRA hg
    refine va_newa (a0 := a0) (N' := k) hx9 hb harr hty hK hW.2.1 hW.2.2.1 hW.2.2.2 hA ha n0 n1 hb8 hcells hslots hd (fun q cA H1 gK g1 g2 g3 => ?_)
    have e9 : cA = cy t := hRA cA (gK.2 6 _ rfl).2
    subst e9
    rw [List.append_assoc] at g1 g2
    refine kk _ q H1 alw_push (gv_new hW.1) ⟨gW_push hW.1 ?_, g1, g2, g3⟩
    have := gC_app (alw ws ++ [q]) hg
    exact this
  have inj : ∀ {ty : FieldType} {i : Nat}, (atys cy)[i]? = some (cy i, ty) → (∀ cA : ClassId, va_RA s cA ty → s.vm.findClass ("[" ++ ty.toString) = some cA) → ∀ cA : ClassId, va_RA s cA ty → cA = cy i := by
    intro ty i h1 h2 cA h3
    have a1 := h2 _ h3
    have a2 := h2 _ (hK.2 i _ h1).2
    rw [a1] at a2
    exact Option.some.inj a2
  cases at9 <;> simp [e_atype] at ht <;> subst ht
  · exact key (a0 := (k, .inl (fun _ => 0))) rfl (fun _ => rfl) (by show k * 1 ≤ _; omega) (inj (i := 2) rfl (fun _ h => h)) (Or.inl ⟨by omega, _, rfl, fun j _ => ⟨0, rfl, by decide, by decide⟩⟩)
  · exact key (a0 := (k, .inl (fun _ => 0))) rfl (fun _ => rfl) (by show k * 1 ≤ _; omega) (inj (i := 1) rfl (fun _ h => h)) (Or.inl ⟨by omega, _, rfl, fun j _ => ⟨0, rfl, by decide, by decide⟩⟩)
  · exact key (a0 := (k, .inl (fun _ => 0))) rfl (fun _ => rfl) (by show k * 4 ≤ _; omega) (inj (i := 0) rfl (fun _ h => h)) (Or.inl ⟨by omega, _, rfl, fun j _ => ⟨0, rfl, by decide, by decide⟩⟩)
  · exact key (a0 := (k, .inr (.inl (fun _ => 0)))) rfl (fun _ => rfl) (by show k * 8 ≤ _; omega) (inj (i := 3) rfl (fun _ h => h)) (Or.inr (Or.inl ⟨rfl, _, rfl, fun j _ => ⟨0, rfl, by decide, by decide⟩⟩))
theorem h_newq {idx t k : Nat} {n : Int32} {r : vw_C} (hx9 : p.tables.exec = Jvm.exec) (hb : c.code = cc) (hown : s.vm.findClass own = some m.cls) (hK : va_K D vwCl (atys cy) s) (hW : Wd D cy A H0 pool ν b C ws H locs) (hA : ∀ q, H0.size ≤ q → A q)
    (ht : 4 ≤ t) (ht6 : t < 6) (hr : vwCl[e_acls t]? = some r) (hcl : (Cond.classLink own idx r.1).before args s = true) (hover : va_AO r.1 s) (hn : n.toInt = (k : Int)) (hk : k < 65536) (hcells : cells + 1 ≤ R.cells) (hslots : slots + k ≤ R.slots) (hd : decode cc pc = .ok (.anewarray idx, 3))
    (kk : ∀ ws' q H', alw ws' = alw ws ++ [q] → gv ν (alw ws') b (aR C.length) (.ref q) → Wd D cy A H0 pool ν b (C ++ [.inl (t, k, aN, [])]) ws' H' locs → W p l e R s m args below meth c H' locs (cells + 1) (slots + k) Q (F0 m (pc + 3) ls (.ref q :: rest))) : W p l e R s m args below meth c H locs cells slots Q (F0 m pc ls (.int n :: rest)) := by
  obtain ⟨n0, n1⟩ := en_len hn (by omega)
  obtain ⟨r', hr1, hr2⟩ := vwCl_acls t ht ht6
  rw [hr] at hr1
  cases hr1
  have hT := atys_at cy t ht6
  rw [hr2] at hT
  refine va_newq (C := r.1) (N' := k) hx9 hb hown hcl hover hK hW.2.1 hW.2.2.1 hW.2.2.2 hA n0 n1 (by omega) hcells hslots hd (fun q cA H1 gK g1 g2 g3 => ?_)
  have e9 : cA = cy t := by
    obtain ⟨k1, c1, -, -, -, f1⟩ := (gK.2 6 _ rfl).2
    obtain ⟨k2, c2, -, -, -, f2⟩ := (hK.2 t _ hT).2
    rw [f1] at f2
    exact Option.some.inj f2
  subst e9
  rw [List.append_assoc] at g1 g2
  exact kk _ q H1 alw_push (gv_new hW.1) ⟨gW_push hW.1 (Or.inr (Or.inr ⟨ht, fun _ => none, rfl, fun j _ => by show va_rf none = Value.null; rfl⟩)), g1, g2, g3⟩
/-- a whole row of ints is copied into another of its length -/
theorem h_copy {idx i0 i1 q0 q1 n : Nat} {d0 d1 : AV} {x0 x1 : List (Nat × AV)} {sp dp nn : Int32} (hx9 : p.tables.exec = Jvm.exec) (hb : c.code = cc) (hml : c.maxLocals = ls.size) (hown : s.vm.findClass own = some m.cls) (hlink : (Cond.methodLink own idx arraycopyName).before args s = true) (hnat : (Cond.native arraycopyName).before args s = true) (hstat : (Cond.static arraycopyName).before args s = true) (hini : (Cond.initialized "java/lang/System").before args s = true) (hK : va_K D vwCl (atys cy) s) (hW : Wd D cy A H0 pool ν b C ws H locs)
    (hi0 : C[i0]? = some (.inl (0, n, d0, x0))) (hq0 : (alw ws)[i0]? = some q0) (hi1 : C[i1]? = some (.inl (0, n, d1, x1))) (hq1 : (alw ws)[i1]? = some q1) (h1 : sp.toInt = 0) (h2 : dp.toInt = 0) (h3 : nn.toInt = (n : Int)) (hn : n < 65536) (hframes : 1 ≤ R.frames) (hlocals : (rest.map fun v => v.category).sum + (nativeFrameWords "java/lang/System" "arraycopy" 5 + 11) ≤ R.locals) (hd : decode cc pc = .ok (.invokestatic idx, 3))
    (kk : ∀ ws' H' locs', alw ws' = alw ws → Wd D cy A H0 pool ν b (C.set i1 (.inl (0, n, d0, x0))) ws' H' locs' → W p l e R s m args below meth c H' locs' cells slots Q (F0 m (pc + 3) ls rest)) : W p l e R s m args below meth c H locs cells slots Q (F0 m pc ls (.int nn :: .int dp :: .ref q1 :: .int sp :: .ref q0 :: rest)) := by
  obtain ⟨s0, s1⟩ := en_len (k := 0) h1 (by omega)
  obtain ⟨t0, t1⟩ := en_len (k := 0) h2 (by omega)
  obtain ⟨u0, u1⟩ := en_len h3 (by omega)
  obtain ⟨q0', e0, a1, a2, a3⟩ := gW_at hW.1 hi0
  obtain ⟨q1', e1, b1, b2, b3⟩ := gW_at hW.1 hi1
  rw [hq0] at a2
  rw [hq1] at b2
  cases a2
  cases b2
  rcases a3 with ⟨-, f, rfl, a4⟩ | ⟨g0, -⟩ | ⟨g0, -⟩
  · rcases b3 with ⟨-, g, rfl, b4⟩ | ⟨g0, -⟩ | ⟨g0, -⟩
    · refine va_copyi hx9 hb hml hown hlink hnat hstat hini hK hW.2.1 hW.2.2.1 hW.2.2.2 (pool.length + i0) (pool.length + i1) 0 0 (pw_at a1) (pw_at b1) rfl rfl rfl s0 t0 u0 (by rw [s1, u1]; omega) (by rw [t1, u1]; omega) (fun i _ => rfl) hframes hlocals hd (fun H1 locs1 g1 g2 g3 => ?_)
      rw [pw_set] at g1 g2
      refine kk _ H1 locs1 (alw_set b1) ⟨gW_set hW.1 b1 (Or.inl ⟨by omega, _, rfl, fun j hj => ?_⟩), g1, g2, g3⟩
      rw [s1, t1, u1, pk_cpy_in (by omega) (by omega)]
      rw [show 0 + (j - 0) = j by omega]
      exact a4 j hj
    · omega
    · omega
  · omega
  · omega
end HEAP3
end
section
/-! branches -/
def e_rc (cnd : Jvm.ClassFile.Cond) : Nat × Nat × Bool := match cnd with
  | .eq => (0, 1, false)
  | .ne => (1, 0, false)
  | .lt => (2, 3, false)
  | .ge => (3, 2, false)
  | .gt => (2, 3, true)
  | .le => (3, 2, true)
/-- the numbers where a branch goes, and where it does not -/
def e_cmp (E : EV) (cnd : Jvm.ClassFile.Cond) (x y : AV) : Option (List EV × List EV) :=
  match (if (e_rc cnd).2.2 = true then e_rel E (e_rc cnd).1 y x else e_rel E (e_rc cnd).1 x y), (if (e_rc cnd).2.2 = true then e_rel E (e_rc cnd).2.1 y x else e_rel E (e_rc cnd).2.1 x y) with
  | some t, some f => some (t, f)
  | _, _ => none
abbrev BR : Type := Nat × EV × List AV
def e_b1 (x : List EV) (pc : Nat) (st : List AV) : List BR := x.map (fun E => (pc, E, st))
def e_tgt (pc : Nat) (off : Int) : Option Nat := if decide (0 ≤ (pc : Int) + off) = true then some ((pc : Int) + off).toNat else none
def e_tab (E : EV) (pc : Nat) (a : AV) (st : List AV) (v : Int) (offs : List Int) : Option (List BR) := match offs with
  | [] => some []
  | o :: r => (match e_tgt pc o, e_tab E pc a st (v + 1) r with
    | some t, some q => some (e_b1 (e_clamp E a v v).toList t st ++ q)
    | _, _ => none)
def e_branch (E : EV) (pc : Nat) (ins : Instr) (len : Nat) (st : List AV) : Option (List BR) := match ins with
  | .goto off => (match e_tgt pc off with | some t => if Nat.beq len 3 = true then some [(t, E, st)] else none | none => none)
  | .ifCond cnd off => (match st with
    | x :: st' => (match e_tgt pc off, e_cmp E cnd x (aI 0) with | some t, some (p, q) => if Nat.beq len 3 = true then some (e_b1 p t st' ++ e_b1 q (pc + 3) st') else none | _, _ => none)
    | _ => none)
  | .if_icmp cnd off => (match st with
    | y :: x :: st' => (match e_tgt pc off, e_cmp E cnd x y with | some t, some (p, q) => if Nat.beq len 3 = true then some (e_b1 p t st' ++ e_b1 q (pc + 3) st') else none | _, _ => none)
    | _ => none)
  | .ifnull off => (match st with
    | .inr (.inr (.inr (.inl none))) :: st' => (match e_tgt pc off with | some t => if Nat.beq len 3 = true then some [(t, E, st')] else none | none => none)
    | .inr (.inr (.inr (.inl (some _)))) :: st' => if Nat.beq len 3 = true then some [(pc + 3, E, st')] else none
    | _ => none)
  | .ifnonnull off => (match st with
    | .inr (.inr (.inr (.inl none))) :: st' => if Nat.beq len 3 = true then some [(pc + 3, E, st')] else none
    | .inr (.inr (.inr (.inl (some _)))) :: st' => (match e_tgt pc off with | some t => if Nat.beq len 3 = true then some [(t, E, st')] else none | none => none)
    | _ => none)
  | .tableswitch d lo hi offs => (match st with
    | x :: st' => (match e_iv E x, e_tgt pc d, e_tab E pc x st' lo offs.toList with
      | some _, some t, some q => if decide (hi = lo + offs.toList.length - 1) = true then some (e_b1 (e_clamp E x (-2147483648) (lo - 1)).toList t st' ++ (e_b1 (e_clamp E x (hi + 1) 2147483647).toList t st' ++ q)) else none
      | _, _, _ => none)
    | _ => none)
  | _ => none
section BRANCH
variable {ν : Nat → Int} {al : List Nat} {b : Nat} {E : EV}
variable {p : Program} {l : Launch} {e : Env} {R : Room} {s : State} {m : MethodId} {args : Array Value} {below : List Frame} {meth : Method} {c : Code} {H : Heap} {locs : List Loc} {cells slots : Nat} {Q : State → Prop}
variable {cc : ByteArray} {pc nL : Nat} {ls : Array Slot}
theorem e_tgt_ok {off : Int} {t : Nat} (h : e_tgt pc off = some t) : (pc : Int) + off = (t : Int) := by
  unfold e_tgt at h
  split at h
  · rename_i q
    have q := of_decide_eq_true q
    cases h
    omega
  · cases h
theorem en_0 : (0 : Int32).toInt = 0 := rfl
theorem h_icmp {cnd : Jvm.ClassFile.Cond} {off : Int} {t : Nat} {x y : Int32} {rest : List Value} (hx9 : p.tables.exec = Jvm.exec) (hb : c.code = cc) (hd : decode cc pc = .ok (.if_icmp cnd off, 3)) (ht : (pc : Int) + off = (t : Int))
    (kt : (if (e_rc cnd).2.2 = true then e_holds (e_rc cnd).1 y.toInt x.toInt else e_holds (e_rc cnd).1 x.toInt y.toInt) → W p l e R s m args below meth c H locs cells slots Q (F0 m t ls rest))
    (kf : (if (e_rc cnd).2.2 = true then e_holds (e_rc cnd).2.1 y.toInt x.toInt else e_holds (e_rc cnd).2.1 x.toInt y.toInt) → W p l e R s m args below meth c H locs cells slots Q (F0 m (pc + 3) ls rest)) : W p l e R s m args below meth c H locs cells slots Q (F0 m pc ls (.int y :: .int x :: rest)) := by
  cases cnd
  · exact lv_icmp_eq hx9 hb hd ht (fun h => kt ((fa_eq _ _).mp h)) (fun h => kf (fun q => h ((fa_eq _ _).mpr q)))
  · exact lv_icmp_ne hx9 hb hd ht (fun h => kt (fun q => h ((fa_eq _ _).mpr q))) (fun h => kf ((fa_eq _ _).mp h))
  · exact lv_icmp_lt hx9 hb hd ht (fun h => kt ((fa_lt _ _).mp h)) (fun h => kf ((fa_le _ _).mp (fa_of_nlt h)))
  · exact lv_icmp_ge hx9 hb hd ht (fun h => kt ((fa_le _ _).mp h)) (fun h => kf ((fa_lt _ _).mp (fa_of_nle h)))
  · exact lv_icmp_gt hx9 hb hd ht (fun h => kt ((fa_lt _ _).mp h)) (fun h => kf ((fa_le _ _).mp (fa_of_nlt h)))
  · exact lv_icmp_le hx9 hb hd ht (fun h => kt ((fa_le _ _).mp h)) (fun h => kf ((fa_lt _ _).mp (fa_of_nle h)))
theorem h_ifc {cnd : Jvm.ClassFile.Cond} {off : Int} {t : Nat} {x : Int32} {rest : List Value} (hx9 : p.tables.exec = Jvm.exec) (hb : c.code = cc) (hd : decode cc pc = .ok (.ifCond cnd off, 3)) (ht : (pc : Int) + off = (t : Int))
    (kt : (if (e_rc cnd).2.2 = true then e_holds (e_rc cnd).1 (0 : Int32).toInt x.toInt else e_holds (e_rc cnd).1 x.toInt (0 : Int32).toInt) → W p l e R s m args below meth c H locs cells slots Q (F0 m t ls rest))
    (kf : (if (e_rc cnd).2.2 = true then e_holds (e_rc cnd).2.1 (0 : Int32).toInt x.toInt else e_holds (e_rc cnd).2.1 x.toInt (0 : Int32).toInt) → W p l e R s m args below meth c H locs cells slots Q (F0 m (pc + 3) ls rest)) : W p l e R s m args below meth c H locs cells slots Q (F0 m pc ls (.int x :: rest)) := by
  cases cnd
  · exact lv_if_eq hx9 hb hd ht (fun h => kt ((fa_eq _ _).mp h)) (fun h => kf (fun q => h ((fa_eq _ _).mpr q)))
  · exact lv_if_ne hx9 hb hd ht (fun h => kt (fun q => h ((fa_eq _ _).mpr q))) (fun h => kf ((fa_eq _ _).mp h))
  · exact lv_if_lt hx9 hb hd ht (fun h => kt ((fa_lt _ _).mp h)) (fun h => kf ((fa_le _ _).mp (fa_of_nlt h)))
  · exact lv_if_ge hx9 hb hd ht (fun h => kt ((fa_le _ _).mp h)) (fun h => kf ((fa_lt _ _).mp (fa_of_nle h)))
  · exact lv_if_gt hx9 hb hd ht (fun h => kt ((fa_lt _ _).mp h)) (fun h => kf ((fa_le _ _).mp (fa_of_nlt h)))
  · exact lv_if_le hx9 hb hd ht (fun h => kt ((fa_le _ _).mp h)) (fun h => kf ((fa_lt _ _).mp (fa_of_nle h)))
theorem e_cmp_ok {cnd : Jvm.ClassFile.Cond} {ax ay : AV} {x y : Int32} {t f : List EV} (hE : genv ν E) (hx : gv ν al b ax (.int x)) (hy : gv ν al b ay (.int y)) (h : e_cmp E cnd ax ay = some (t, f)) :
    ((if (e_rc cnd).2.2 = true then e_holds (e_rc cnd).1 y.toInt x.toInt else e_holds (e_rc cnd).1 x.toInt y.toInt) → ∃ E1, E1 ∈ t ∧ genv ν E1) ∧ ((if (e_rc cnd).2.2 = true then e_holds (e_rc cnd).2.1 y.toInt x.toInt else e_holds (e_rc cnd).2.1 x.toInt y.toInt) → ∃ E1, E1 ∈ f ∧ genv ν E1) := by
  unfold e_cmp at h
  split at h
  · rename_i t1 f1 h1 h2
    cases h
    refine ⟨fun g => ?_, fun g => ?_⟩
    · split at h1 <;> rename_i q
      · rw [if_pos q] at g; exact e_rel_ok hE hy hx h1 g
      · rw [if_neg q] at g; exact e_rel_ok hE hx hy h1 g
    · split at h2 <;> rename_i q
      · rw [if_pos q] at g; exact e_rel_ok hE hy hx h2 g
      · rw [if_neg q] at g; exact e_rel_ok hE hx hy h2 g
  · cases h
theorem e_cmp_iv {cnd : Jvm.ClassFile.Cond} {ax ay : AV} {r : List EV × List EV} (h : e_cmp E cnd ax ay = some r) : (∃ q, e_iv E ax = some q) ∧ ∃ q, e_iv E ay = some q := by
  have key : ∀ {k : Nat} {u v : AV} {o : List EV}, e_rel E k u v = some o → (∃ q, e_iv E u = some q) ∧ ∃ q, e_iv E v = some q := by
    intro k u v o h
    unfold e_rel at h
    split at h
    · rename_i e1 e2
      exact ⟨⟨_, e1⟩, ⟨_, e2⟩⟩
    · cases h
  unfold e_cmp at h
  split at h
  · rename_i t1 f1 h1 h2
    split at h1
    · have := key h1; exact ⟨this.2, this.1⟩
    · exact key h1
  · cases h
theorem mem_b1 {x : List EV} {E1 : EV} {t : Nat} {st : List AV} (h : E1 ∈ x) : (t, E1, st) ∈ e_b1 x t st := List.mem_map.mpr ⟨E1, h, rfl⟩
theorem e_tab_ok {x : Int32} {a : AV} {st : List AV} (hE : genv ν E) (hx : gv ν al b a (.int x)) (hk : ∃ q, e_iv E a = some q) : ∀ (offs : List Int) (v : Int) (q : List BR), e_tab E pc a st v offs = some q → ∀ (k : Nat) (off : Int), offs[k]? = some off → x.toInt = v + (k : Int) → ∃ (t : Nat) (E1 : EV), (pc : Int) + off = (t : Int) ∧ (t, E1, st) ∈ q ∧ genv ν E1 := by
  intro offs
  induction offs with
  | nil => intro v q _ k off h; simp at h
  | cons o r ih =>
    intro v q h k off hk9 hv
    simp only [e_tab] at h
    split at h
    · rename_i t q1 h1 h2
      cases h
      cases k with
      | zero =>
        simp at hk9
        subst hk9
        obtain ⟨E1, e1, g1, -⟩ := e_clamp_ok (lo := v) (hi := v) hE hx hk (by omega) (by omega)
        exact ⟨t, E1, e_tgt_ok h1, List.mem_append_left _ (mem_b1 (mem_toL e1)), g1⟩
      | succ k =>
        simp at hk9
        obtain ⟨t', E1, g1, g2, g3⟩ := ih (v + 1) q1 h2 k off hk9 (by omega)
        exact ⟨t', E1, g1, List.mem_append_right _ g2, g3⟩
    · cases h
theorem e_branch_ok {ins : Instr} {len : Nat} {st : List AV} {vs : List Value} {brs : List BR} (hx9 : p.tables.exec = Jvm.exec) (hb : c.code = cc) (h : e_branch E pc ins len st = some brs) (hd : decode cc pc = .ok (ins, len)) (hs : gvs ν al b st vs) (hE : genv ν E)
    (kk : ∀ br ∈ brs, ∀ vs', genv ν br.2.1 → gvs ν al b br.2.2 vs' → W p l e R s m args below meth c H locs cells slots Q (F0 m br.1 ls vs')) : W p l e R s m args below meth c H locs cells slots Q (F0 m pc ls vs) := by
  unfold e_branch at h
  split at h
  · split at h
    · rename_i ht
      split at h
      · rename_i hlen
        cases h
        have := Nat.eq_of_beq_eq_true hlen
        subst this
        exact lv_goto hx9 hb hd (e_tgt_ok ht) (kk _ List.mem_cons_self _ hE hs)
      · cases h
    · cases h
  · split at h
    · split at h
      · rename_i ht hc
        split at h
        · rename_i hlen
          cases h
          have := Nat.eq_of_beq_eq_true hlen
          subst this
          obtain ⟨vx, vs1, rfl, g1, hs1⟩ := gvs_cons hs
          obtain ⟨⟨q1, e1⟩, -⟩ := e_cmp_iv hc
          obtain ⟨i, rfl, -⟩ := gv_int hE g1 e1
          have g0 : gv ν al b (aI 0) (.int 0) := ⟨0, rfl, by decide, by decide⟩
          obtain ⟨c1, c2⟩ := e_cmp_ok hE g1 g0 hc
          refine h_ifc hx9 hb hd (e_tgt_ok ht) (fun g => ?_) (fun g => ?_)
          · obtain ⟨E1, e9, gE⟩ := c1 g
            exact kk _ (List.mem_append_left _ (mem_b1 e9)) _ gE hs1
          · obtain ⟨E1, e9, gE⟩ := c2 g
            exact kk _ (List.mem_append_right _ (mem_b1 e9)) _ gE hs1
        · cases h
      · cases h
    · cases h
  · split at h
    · split at h
      · rename_i ht hc
        split at h
        · rename_i hlen
          cases h
          have := Nat.eq_of_beq_eq_true hlen
          subst this
          obtain ⟨vy, vs1, rfl, g1, hs1⟩ := gvs_cons hs
          obtain ⟨vx, vs2, rfl, g2, hs2⟩ := gvs_cons hs1
          obtain ⟨⟨q1, e1⟩, ⟨q2, e2⟩⟩ := e_cmp_iv hc
          obtain ⟨i, rfl, -⟩ := gv_int hE g2 e1
          obtain ⟨j, rfl, -⟩ := gv_int hE g1 e2
          obtain ⟨c1, c2⟩ := e_cmp_ok hE g2 g1 hc
          refine h_icmp hx9 hb hd (e_tgt_ok ht) (fun g => ?_) (fun g => ?_)
          · obtain ⟨E1, e9, gE⟩ := c1 g
            exact kk _ (List.mem_append_left _ (mem_b1 e9)) _ gE hs2
          · obtain ⟨E1, e9, gE⟩ := c2 g
            exact kk _ (List.mem_append_right _ (mem_b1 e9)) _ gE hs2
        · cases h
      · cases h
    · cases h
  · split at h
    · split at h
      · rename_i ht
        split at h
        · rename_i hlen
          cases h
          have := Nat.eq_of_beq_eq_true hlen
          subst this
          obtain ⟨v, vs1, rfl, g1, hs1⟩ := gvs_cons hs
          have g1 : v = .null := g1
          subst g1
          exact lv_ifnullN hx9 hb hd (e_tgt_ok ht) (kk _ List.mem_cons_self _ hE hs1)
        · cases h
      · cases h
    · split at h
      · rename_i hlen
        cases h
        have := Nat.eq_of_beq_eq_true hlen
        subst this
        obtain ⟨v, vs1, rfl, g1, hs1⟩ := gvs_cons hs
        obtain ⟨q, -, rfl⟩ := g1
        exact lv_ifnull hx9 hb hd (kk _ List.mem_cons_self _ hE hs1)
      · cases h
    · cases h
  · split at h
    · split at h
      · rename_i hlen
        cases h
        have := Nat.eq_of_beq_eq_true hlen
        subst this
        obtain ⟨v, vs1, rfl, g1, hs1⟩ := gvs_cons hs
        have g1 : v = .null := g1
        subst g1
        exact lv_ifnonnullN hx9 hb hd (kk _ List.mem_cons_self _ hE hs1)
      · cases h
    · split at h
      · rename_i ht
        split at h
        · rename_i hlen
          cases h
          have := Nat.eq_of_beq_eq_true hlen
          subst this
          obtain ⟨v, vs1, rfl, g1, hs1⟩ := gvs_cons hs
          obtain ⟨q, -, rfl⟩ := g1
          exact lv_ifnonnull hx9 hb hd (e_tgt_ok ht) (kk _ List.mem_cons_self _ hE hs1)
        · cases h
      · cases h
    · cases h
  · rename_i d lo hi offs
    split at h
    · split at h
      · rename_i hiv ht hq
        split at h
        · rename_i hh
          have hh := of_decide_eq_true hh
          cases h
          obtain ⟨v, vs1, rfl, g1, hs1⟩ := gvs_cons hs
          obtain ⟨i, rfl, -⟩ := gv_int hE g1 hiv
          have r1 := fb_rng i
          by_cases hlo : i.toInt < lo
          · obtain ⟨E1, e1, gE, -⟩ := e_clamp_ok (lo := -2147483648) (hi := lo - 1) hE g1 ⟨_, hiv⟩ (by omega) (by omega)
            exact lv_tableOut hx9 hb hd (Or.inl hlo) (e_tgt_ok ht) (kk _ (List.mem_append_left _ (mem_b1 (mem_toL e1))) _ gE hs1)
          · by_cases hhi : hi < i.toInt
            · obtain ⟨E1, e1, gE, -⟩ := e_clamp_ok (lo := hi + 1) (hi := 2147483647) hE g1 ⟨_, hiv⟩ (by omega) (by omega)
              exact lv_tableOut hx9 hb hd (Or.inr hhi) (e_tgt_ok ht) (kk _ (List.mem_append_right _ (List.mem_append_left _ (mem_b1 (mem_toL e1)))) _ gE hs1)
            · have hlt : (i.toInt - lo).toNat < offs.toList.length := by omega
              have hget : offs.toList[(i.toInt - lo).toNat]? = some offs.toList[(i.toInt - lo).toNat] := List.getElem?_eq_getElem hlt
              obtain ⟨t', E1, e1, e2, gE⟩ := e_tab_ok hE g1 ⟨_, hiv⟩ offs.toList lo _ hq _ _ hget (by omega)
              exact lv_tableIn hx9 hb hd hlo hhi (by rw [← Array.getElem?_toList]; exact hget) e1 (kk _ (List.mem_append_right _ (List.mem_append_right _ e2)) _ gE hs1)
        · cases h
      · cases h
    · cases h
  · cases h
end BRANCH
end
section
/-! the program as tables, and the run -/
/-- what an entry of the constant pool is: its sort and numbers -/
abbrev RES : Type := Nat × Nat × Nat × Int
/-- name, code, locals, answer; class, sort (0 static, 1 of an object, 2 maker), parameters, kind of the object; room; instructions -/
abbrev MT : Type := MethodName × ByteArray × Nat × Option FieldType × (Nat × Nat × Nat × Nat) × (Nat × Nat × Nat × Nat) × List INS
abbrev mY (M : MT) : MethodName := M.1
abbrev mC (M : MT) : ByteArray := M.2.1
abbrev mL (M : MT) : Nat := M.2.2.1
abbrev mR (M : MT) : Option FieldType := M.2.2.2.1
abbrev mO (M : MT) : Nat := M.2.2.2.2.1.1
abbrev mK (M : MT) : Nat := M.2.2.2.2.1.2.1
abbrev mA (M : MT) : Nat := M.2.2.2.2.1.2.2.1
abbrev mCi (M : MT) : Nat := M.2.2.2.2.1.2.2.2
abbrev mFr (M : MT) : Nat := M.2.2.2.2.2.1.1
abbrev mNc (M : MT) : Nat := M.2.2.2.2.2.1.2.1
abbrev mNs (M : MT) : Nat := M.2.2.2.2.2.1.2.2.1
abbrev mLo (M : MT) : Nat := M.2.2.2.2.2.1.2.2.2
abbrev mT (M : MT) : List INS := M.2.2.2.2.2.2
abbrev mRm (M : MT) : Room := { frames := mFr M, cells := mNc M, slots := mNs M, locals := mLo M }
def e_lk (x : List (Nat × RES)) (i : Nat) : Option RES := match x with
  | [] => none
  | (j, r) :: t => if Nat.beq j i = true then some r else e_lk t i
def e_res (RT : List (List (Nat × RES))) (o i : Nat) : Option RES := match RT[o]? with
  | some x => e_lk x i
  | none => none
/-- a number that is known and not negative -/
def e_known (E : EV) (a : AV) : Option Nat := match e_iv E a with
  | some (lo, hi) => if (decide (lo = hi) && decide (0 ≤ lo)) = true then some lo.toNat else none
  | none => none
def e_cats (st : List AV) : Nat := match st with
  | [] => 0
  | a :: r => (if e_isL a = true then 2 else 1) + e_cats r
def e_ald (ins : Instr) (t : Nat) : Bool := match ins with
  | .iaload => Nat.beq t 0
  | .baload => Nat.beq t 1 || Nat.beq t 2
  | .laload => Nat.beq t 3
  | .aaload => Nat.ble 4 t
  | _ => false
def e_initOk (M : MT) (ci k : Nat) : Bool := match vwCl[ci]? with
  | some r => if Nat.ble r.2.2 k = true then false else if (r.2.1 k).2.2.2 = true then Nat.beq (mK M) 2 && Nat.beq ci (mCi M) else true
  | none => false
/-- steps at the heap, with one end -/
def e_hstep (RT : List (List (Nat × RES))) (M : MT) (sc : Bool) (S : ST) (ins : Instr) (len : Nat) : Option ST := match S with
  | (pc, lo, st, E, C, nc, ns) => (match ins with
    | .getfield i => (match e_res RT (mO M) i, st with
      | some (kd, ci, k, _), a :: st' => (match e_cell C a with
        | some (_, .inr (ci', fs)) => (match fs[k]? with
          | some v => if (Nat.ble kd 1 && (Nat.beq ci ci' && Nat.beq len 3)) = true then some (pc + 3, lo, v :: st', E, C, nc, ns) else none
          | none => none)
        | _ => none)
      | _, _ => none)
    | .putfield i => (match e_res RT (mO M) i, st with
      | some (kd, ci, k, _), v :: a :: st' => (match e_cell C a with
        | some (n, .inr (ci', fs)) => if (Nat.beq kd 0 && (Nat.beq ci ci' && (Nat.beq len 3 && (decide (k < fs.length) && (e_fits E (clTy ci k) v && e_initOk M ci k))))) = true then some (pc + 3, lo, st', E, C.set n (.inr (ci', fs.set k v)), nc, ns) else none
        | _ => none)
      | _, _ => none)
    | .arraylength => (match st with
      | a :: st' => (match e_cell C a with
        | some (_, .inl (t, n, _, _)) => if (Nat.ble t 5 && (decide (n < 65536) && Nat.beq len 1)) = true then some (pc + 1, lo, aI (n : Int) :: st', E, C, nc, ns) else none
        | _ => (match a with
          | .inr (.inr (.inr (.inr _))) => if (sc && Nat.beq len 1) = true then some (pc + 1, lo, aV 6 0 :: st', E, C, nc, ns) else none
          | _ => none))
      | _ => none)
    | .new i => (match e_res RT (mO M) i with
      | some (kd, ci, n, _) => (match e_dflts (clTy ci) 0 n with
        | some fs => if (Nat.beq kd 2 && (Nat.beq len 3 && (Nat.ble (nc + 1) (mNc M) && Nat.ble (ns + n) (mNs M)))) = true then some (pc + 3, lo, aR C.length :: st, E, C ++ [.inr (ci, fs)], nc + 1, ns + n) else none
        | none => none)
      | none => none)
    | .newarray at9 => (match e_atype at9, st with
      | some t, a :: st' => (match e_known E a with
        | some n => if (decide (n < 65536) && (Nat.beq len 2 && (Nat.ble (nc + 1) (mNc M) && Nat.ble (ns + n) (mNs M)))) = true then some (pc + 2, lo, aR C.length :: st', E, C ++ [.inl (t, n, (if t = 3 then aL 0 0 else aI 0), [])], nc + 1, ns + n) else none
        | none => none)
      | _, _ => none)
    | .anewarray i => (match e_res RT (mO M) (i + 100000), st with
      | some (kd, t, _, _), a :: st' => (match e_known E a with
        | some n => if (Nat.beq kd 3 && (Nat.ble 4 t && (Nat.ble t 5 && (decide (n < 65536) && (Nat.beq len 3 && (Nat.ble (nc + 1) (mNc M) && Nat.ble (ns + n) (mNs M))))))) = true then some (pc + 3, lo, aR C.length :: st', E, C ++ [.inl (t, n, aN, [])], nc + 1, ns + n) else none
        | none => none)
      | _, _ => none)
    | .ldc2_w i => (match e_res RT (mO M) i with
      | some (kd, _, _, v) => if (Nat.beq kd 9 && Nat.beq len 3) = true then some (pc + 3, lo, aL v v :: st, E, C, nc, ns) else none
      | none => none)
    | .invokespecial i => (match e_res RT (mO M) i, st with
      | some (kd, _, _, _), (.inr (.inr (.inr (.inl (some _))))) :: st' => if (Nat.beq kd 6 && (Nat.beq len 3 && (Nat.ble 1 (mFr M) && (Nat.ble (e_cats st' + 12) (mLo M))))) = true then some (pc + 3, lo, st', E, C, nc, ns) else none
      | _, _ => none)
    | .invokestatic i => (match e_res RT (mO M) i, st with
      | some (kd, _, _, _), nn :: dp :: r1 :: sp :: r0 :: st' => (match e_cell C r0, e_cell C r1, e_known E nn, e_known E dp, e_known E sp with
        | some (_, .inl (0, n0, d0, x0)), some (i1, .inl (0, n1, _, _)), some n, some 0, some 0 => if (Nat.beq kd 7 && (Nat.beq len 3 && (Nat.beq n0 n && (Nat.beq n1 n && (decide (n < 65536) && (Nat.ble 1 (mFr M) && Nat.ble (e_cats st' + (nativeFrameWords "java/lang/System" "arraycopy" 5 + 11)) (mLo M))))))) = true then some (pc + 3, lo, st', E, C.set i1 (.inl (0, n1, d0, x0)), nc, ns) else none
        | _, _, _, _, _ => none)
      | _, _ => none)
    | _ => none)
/-- steps at a row's place: a place that is not known is told apart first -/
def e_span (E : EV) (k : Nat) (lo : Int) (n : Nat) : List EV := match n with
  | 0 => []
  | n + 1 => E.set k (lo, lo) :: e_span E k (lo + 1) n
def e_astep (M : MT) (sc : Bool) (S : ST) (ins : Instr) (len : Nat) : Option (List ST) := match S with
  | (pc, lo, st, E, C, nc, ns) =>
    (match (match ins with | .iaload => some (0 : Nat) | .baload => some 0 | .laload => some 0 | .aaload => some 0 | .iastore => some 1 | .bastore => some 1 | .lastore => some 1 | .aastore => some 1 | _ => none) with
    | some 0 => (match st with
      | i :: a :: st' => (match e_known E i with
        | some j => (match e_cell C a with
          | some (_, .inl (t, n, d, x)) => if (Nat.ble t 5 && (decide (j < n) && (decide (n < 65536) && (Nat.beq len 1 && e_ald ins t)))) = true then some [(pc + 1, lo, e_get d x j :: st', E, C, nc, ns)] else none
          | _ => (match a with
            | .inr (.inr (.inr (.inr _))) => (match E[6]? with | some (l6, _) => if (sc && (Nat.beq len 1 && (decide (ins = .iaload) && decide ((j : Int) < l6)))) = true then some [(pc + 1, lo, aV j 0 :: st', E, C, nc, ns)] else none | none => none)
            | _ => none))
        | none => (match i with
          | .inr (.inl (k, _)) => (match E[k]? with
            | some (l, h) => if decide (h - l < 64) = true then some ((e_span E k l (h - l + 1).toNat).map (fun E1 => (pc, lo, st, E1, C, nc, ns))) else none
            | none => none)
          | _ => none))
      | _ => none)
    | some _ => (match st with
      | v :: i :: a :: st' => (match e_known E i with
        | some j => (match e_cell C a with
          | some (n0, .inl (t, n, d, x)) => if (Nat.ble t 5 && (decide (j < n) && (decide (n < 65536) && (Nat.beq len 1 && (e_aop ins t && e_afits E C t v))))) = true then some [(pc + 1, lo, st', E, C.set n0 (.inl (t, n, d, e_put d x j v)), nc, ns)] else none
          | _ => none)
        | none => (match i with
          | .inr (.inl (k, _)) => (match E[k]? with
            | some (l, h) => if decide (h - l < 64) = true then some ((e_span E k l (h - l + 1).toNat).map (fun E1 => (pc, lo, st, E1, C, nc, ns))) else none
            | none => none)
          | _ => none))
      | _ => none)
    | none => none)
def e_args (i : Nat) (as : List AV) : List (Nat × AV) := match as with
  | [] => []
  | a :: r => (i, a) :: e_args (if e_isL a = true then i + 2 else i + 1) r
def e_take (n : Nat) (st acc : List AV) : Option (List AV × List AV) := match n with
  | 0 => some (acc, st)
  | n + 1 => (match st with
    | a :: r => e_take n r (a :: acc)
    | [] => none)
/-- a call: the method, its arguments, the state behind it without its answer -/
def e_call (P : List MT) (RT : List (List (Nat × RES))) (M : MT) (S : ST) (ins : Instr) (len : Nat) : Option (MT × Nat × List AV × ST) := match S with
  | (pc, lo, st, E, C, nc, ns) =>
    (match (match ins with | .invokestatic i => some ((0 : Nat), i) | .invokevirtual i => some (1, i) | .invokespecial i => some (2, i) | _ => none) with
    | some (kd, i) => (match e_res RT (mO M) i with
      | some (rk, j, _, _) => (match P[j]? with
        | some M' => (match e_take (mA M') st [] with
          | some (as, rest) => (match (if Nat.beq kd 0 = true then some (as, rest) else (match rest with
              | (.inr (.inr (.inr (.inl (some n))))) :: rest' => (match C[n]? with
                | some (.inr (ci, _)) => if Nat.beq ci (mCi M') = true then some (aR n :: as, rest') else none
                | _ => none)
              | _ => none)) with
            | some (as', rest') => if ((Nat.beq rk 4 || Nat.beq rk 5) && (Nat.beq (mK M') kd && (Nat.beq len 3 && (Nat.ble (e_cats rest') 8 && (Nat.ble (mFr M' + 1) (mFr M) && (Nat.ble (8 + (mL M' + 11) + mLo M') (mLo M) && (Nat.ble (nc + mNc M') (mNc M) && (Nat.ble (ns + mNs M') (mNs M) && Nat.ble (e_cats as') (mL M'))))))))) = true then some (M', j, as', (pc + 3, lo, rest', E, C, nc + mNc M', ns + mNs M')) else none
            | none => none)
          | none => none)
        | none => none)
      | none => none)
    | none => none)
/-- an end: what is answered -/
def e_ret (M : MT) (S : ST) (ins : Instr) (len : Nat) : Option (Option AV) := match S with
  | (_, _, st, E, _, nc, ns) => if (Nat.ble nc (mNc M) && (Nat.ble ns (mNs M) && Nat.beq len 1)) = true then (match ins, st, mR M with
    | .ireturn, [a], some .int => (match e_iv E a with | some _ => some (some a) | none => none)
    | .ireturn, [a], some .boolean => (match e_iv E a with | some (lo, hi) => if (decide (0 ≤ lo) && decide (hi ≤ 1)) = true then some (some a) else none | none => none)
    | .lreturn, [a], some .long => if e_isL a = true then some (some a) else none
    | .return_, [], none => some none
    | _, _, _ => none) else none
def e_suf (T : List INS) (pc : Nat) : List INS := match T with
  | [] => []
  | q :: r => if Nat.beq q.1 pc = true then q :: r else e_suf r pc
def e_next (M : MT) (tl : List INS) (pc : Nat) : List INS := match tl with
  | q :: r => if Nat.beq q.1 pc = true then q :: r else e_suf (mT M) pc
  | [] => e_suf (mT M) pc
def e_cat (f : ST → Option (List OUT)) (x : List ST) : Option (List OUT) := match x with
  | [] => some []
  | S :: r => (match f S with
    | some a => (match e_cat f r with
      | some q => some (a ++ q)
      | none => none)
    | none => none)
/-- behind a call -/
def e_aft (M' : MT) (S : ST) (o : OUT) : ST := match S, o with
  | (pc, lo, rest, _, _, nc, ns), (r, E, C) => (pc, lo, (match r with | some a => a :: rest | none => rest), E, C, nc, ns)
def e_st1p (M : MT) (S : ST) (ins : Instr) (len : Nat) : Option ST := match S with
  | (pc, lo, st, E, C, nc, ns) => (match e_simple (mL M) E ins lo st with
    | some (n, lo', st') => if Nat.beq n len = true then some (pc + n, lo', st', E, C, nc, ns) else none
    | none => none)
def e_bst (S : ST) (ins : Instr) (len : Nat) : Option (List ST) := match S with
  | (pc, lo, st, E, C, nc, ns) => (match e_branch E pc ins len st with
    | some brs => some (brs.map (fun q => (q.1, lo, q.2.2, q.2.1, C, nc, ns)))
    | none => none)
/-! one state lies within another -/
def e_leV (E : EV) (a a' : AV) : Bool := if a = a' then true else (match a' with
  | .inl (l', h') => (match e_iv E a with | some (l, h) => decide (l' ≤ l) && decide (h ≤ h') | none => false)
  | .inr (.inl _) => (match e_iv E a, e_iv E a' with | some (l, h), some (l2, h2) => decide (l = h) && (decide (l2 = h2) && decide (l = l2)) | _, _ => false)
  | .inr (.inr (.inl (l', h'))) => (match a with | .inr (.inr (.inl (l, h))) => decide (l' ≤ l) && decide (h ≤ h') | _ => false)
  | _ => false)
def e_leVs (E : EV) (x y : List AV) : Bool := match x, y with
  | [], [] => true
  | a :: r, a' :: r' => e_leV E a a' && e_leVs E r r'
  | _, _ => false
def e_leL (E : EV) (x y : List (Nat × AV)) : Bool := match y with
  | [] => true
  | (i, a') :: r => (match e_find x i with | some a => e_leV E a a' | none => false) && e_leL E x r
def e_leE (x y : EV) : Bool := match x, y with
  | _, [] => true
  | (l, h) :: r, (l', h') :: r' => decide (l' ≤ l) && (decide (h ≤ h') && e_leE r r')
  | [], _ :: _ => false
def e_leA (E : EV) (d d' : AV) (x x' : List (Nat × AV)) : Bool := e_leV E d d' && (x.all (fun q => e_leV E (e_get d x q.1) (e_get d' x' q.1)) && x'.all (fun q => e_leV E (e_get d x q.1) (e_get d' x' q.1)))
def e_leC (E : EV) (c c' : AC) : Bool := match c, c' with
  | .inl (t, n, d, x), .inl (t', n', d', x') => Nat.beq t t' && (Nat.beq n n' && e_leA E d d' x x')
  | .inr (ci, fs), .inr (ci', fs') => Nat.beq ci ci' && e_leVs E fs fs'
  | _, _ => false
def e_leCs (E : EV) (x y : List AC) : Bool := match x, y with
  | [], [] => true
  | a :: r, a' :: r' => e_leC E a a' && e_leCs E r r'
  | _, _ => false
def e_le (S S' : ST) : Bool := match S, S' with
  | (pc, lo, st, E, C, nc, ns), (pc', lo', st', E', C', nc', ns') => Nat.beq pc pc' && (e_leVs E st st' && (e_leE E E' && (e_leL E lo lo' && (e_leCs E C C' && (Nat.ble nc nc' && Nat.ble ns ns')))))
def e_any (S : ST) (cuts : List ST) : Bool := match cuts with
  | [] => false
  | S2 :: r => if e_le S S2 = true then true else e_any S r
theorem e_any_ok {S : ST} : ∀ {cuts : List ST}, e_any S cuts = true → ∃ S2, S2 ∈ cuts ∧ e_le S S2 = true := by
  intro cuts
  induction cuts with
  | nil => intro h; cases h
  | cons S2 r ih =>
    intro h
    unfold e_any at h
    split at h
    · rename_i h1
      exact ⟨S2, List.mem_cons_self, h1⟩
    · obtain ⟨S3, h1, h2⟩ := ih h
      exact ⟨S3, List.mem_cons_of_mem _ h1, h2⟩
def e_run (P : List MT) (RT : List (List (Nat × RES))) (cuts : List ST) : Nat → Bool → Bool → MT → List INS → ST → Option (List OUT)
  | 0, _, _, _, _, _ => none
  | fuel + 1, tp, sc, M, suf, S => (match suf with
    | [] => none
    | (pc, tag, ins, len) :: tl => if Nat.beq pc S.1 = true then (match tag with
      | 0 => (match e_st1p M S ins len with
        | some S' => e_run P RT cuts fuel tp sc M (e_next M tl S'.1) S'
        | none => none)
      | 1 => (match e_bst S ins len with
        | some x => e_cat (fun S' => e_run P RT cuts fuel tp sc M (e_next M tl S'.1) S') x
        | none => none)
      | 2 => (match e_hstep RT M sc S ins len with
        | some S' => e_run P RT cuts fuel tp sc M (e_next M tl S'.1) S'
        | none => none)
      | 3 => (match e_astep M sc S ins len with
        | some x => e_cat (fun S' => e_run P RT cuts fuel tp sc M (e_next M tl S'.1) S') x
        | none => none)
      | 4 => (match e_call P RT M S ins len with
        | some (M', _, as, S') => (match e_run P RT cuts fuel false false M' (mT M') (0, e_args 0 as, [], S.2.2.2.1, S.2.2.2.2.1, 0, 0) with
          | some outs => e_cat (fun S2 => e_run P RT cuts fuel tp sc M (e_next M tl S2.1) S2) (outs.map (e_aft M' S'))
          | none => none)
        | none => none)
      | 5 => (match e_ret M S ins len with
        | some r => some [(r, S.2.2.2.1, S.2.2.2.2.1)]
        | none => none)
      | _ => if (tp && e_any S cuts) = true then some [] else none) else none)
end
section
/-! what a method's walk stands on -/
def isNest (w : Cond) : Bool := match w with
  | .methodLinkNest _ _ _ _ => true
  | .fieldLinkNest _ _ _ _ _ _ => true
  | _ => false
def NST : List Cond := lw_tbl.filter isNest
def KK (D : va_G) (cy : Nat → ClassId) (U : State) : Prop := va_K D vwCl (atys cy) U ∧ (∀ w ∈ NST, va_Nw w U) ∧ va_AO "NounFast$Scene" U ∧ va_AO "NounFast$Sentence" U
theorem KK.warm {D : va_G} {cy : Nat → ClassId} {s U : State} (hW : s.WarmedH U.vm) (h : KK D cy s) : KK D cy U := by
  refine ⟨va_K.moved hW.alike h.1, fun w hw => ?_, va_AO.moved hW.alike h.2.2.1, va_AO.moved hW.alike h.2.2.2⟩
  have h1 := h.2.1 w hw
  have h2 := (List.mem_filter.mp hw).2
  unfold isNest at h2
  split at h2
  · exact va_Nw.warmM hW h1
  · exact va_Nw.warmF hW h1
  · cases h2
theorem KK.calling {D : va_G} {cy : Nat → ClassId} {U : State} {g : JFrame} {mk : MethodId} {a : Array Value} (h : KK D cy U) : KK D cy (U.calling g mk a) := by
  refine ⟨va_K.moved (u := U) (U := U.calling g mk a) (Vm.Alike.refl U.vm) h.1, fun w hw => ?_, va_AO.moved (u := U) (U := U.calling g mk a) (Vm.Alike.refl U.vm) h.2.2.1, va_AO.moved (u := U) (U := U.calling g mk a) (Vm.Alike.refl U.vm) h.2.2.2⟩
  have h1 := h.2.1 w hw
  have h2 := (List.mem_filter.mp hw).2
  unfold isNest at h2
  split at h2
  · exact va_Nw.same rfl rfl h1
  · exact va_Nw.same rfl rfl h1
  · cases h2
/-- a method as caller: its class, its instructions -/
def TOK (OW : List String) (M : MT) : Prop := (∀ q ∈ mT M, decode (mC M) q.1 = .ok (q.2.2.1, q.2.2.2)) ∧ (mK M = 2 → ∀ r : vw_C, vwCl[mCi M]? = some r → ∀ k, k < r.2.2 → OW[mO M]? = some (r.2.1 k).1)
/-- a method as callee -/
def MOK (M : MT) : Prop := plainFor (mY M) = true ∧ Cond.code (mY M) (mC M) (mL M) (mR M) ∈ BIG ∧ Cond.initialized (mY M).cls ∈ BIG ∧ ((mY M).cls ≠ "java/lang/invoke/MethodHandle" ∧ (mY M).cls ≠ "java/lang/invoke/VarHandle") ∧
  (parseMethodDescriptor (mY M).desc).map (fun d => d.parameters.length) = some (mA M) ∧ (mK M = 0 → Cond.static (mY M) ∈ BIG) ∧ (mK M = 1 → Cond.instanceMethod (mY M) ∈ BIG ∧ Cond.selects (mY M).cls (mY M) (mY M) ∈ BIG ∧ ∃ r : vw_C, vwCl[mCi M]? = some r ∧ r.1 = (mY M).cls) ∧
  (mK M = 2 → (mY M).name = "<init>" ∧ Cond.instanceMethod (mY M) ∈ BIG ∧ mR M = none) ∧ (mR M = none ∨ mR M = some .int ∨ mR M = some .boolean ∨ mR M = some .long)
def ROK (P : List MT) (own : String) (i : Nat) (r : RES) : Prop := match r with
  | (0, ci, k, _) => ∃ q : vw_C, vwCl[ci]? = some q ∧ k < q.2.2 ∧ Cond.fieldLink own i (q.2.1 k).1 (q.2.1 k).2.1 (q.2.1 k).2.2.1 ∈ BIG
  | (1, ci, k, _) => ∃ (q : vw_C) (host : String), vwCl[ci]? = some q ∧ k < q.2.2 ∧ Cond.fieldLinkNest own i (q.2.1 k).1 (q.2.1 k).2.1 (q.2.1 k).2.2.1 host ∈ NST
  | (2, ci, n, _) => ∃ q : vw_C, vwCl[ci]? = some q ∧ q.2.2 = n ∧ Cond.classLink own i q.1 ∈ BIG ∧ Cond.instantiable q.1 n ∈ BIG ∧ Cond.initialized q.1 ∈ BIG
  | (3, t, _, _) => ∃ (q : vw_C) (i' : Nat), vwCl[e_acls t]? = some q ∧ i = i' + 100000 ∧ Cond.classLink own i' q.1 ∈ BIG ∧ (q.1 = "NounFast$Scene" ∨ q.1 = "NounFast$Sentence")
  | (4, j, _, _) => ∃ M : MT, P[j]? = some M ∧ Cond.methodLink own i (mY M) ∈ BIG
  | (5, j, _, _) => ∃ (M : MT) (host : String), P[j]? = some M ∧ Cond.methodLinkNest own i (mY M) host ∈ NST
  | (6, _, _, _) => Cond.methodLink own i Lib.objectInit ∈ BIG
  | (7, _, _, _) => Cond.methodLink own i arraycopyName ∈ BIG
  | (9, _, _, v) => Cond.constantLong own i (Int64.ofInt v) ∈ BIG ∧ -9223372036854775808 ≤ v ∧ v < 9223372036854775808
  | _ => True
def POK (P : List MT) (RT : List (List (Nat × RES))) (OW : List String) : Prop :=
  (∀ (j : Nat) (M : MT), P[j]? = some M → MOK M ∧ TOK OW M ∧ OW[mO M]? = some (mY M).cls) ∧ (∀ (o : Nat) (own : String) (L : List (Nat × RES)), OW[o]? = some own → RT[o]? = some L → ∀ q ∈ L, ROK P own q.1 q.2) ∧
  (Cond.instanceMethod Lib.objectInit ∈ BIG ∧ Cond.code Lib.objectInit ⟨#[0xb1]⟩ 1 none ∈ BIG ∧ Cond.native arraycopyName ∈ BIG ∧ Cond.static arraycopyName ∈ BIG ∧ Cond.initialized "java/lang/System" ∈ BIG ∧ ∀ (a : ArrayType) (t : Nat), e_atype a = some t → Cond.arrayClass (newarray.typeOf a) ∈ BIG)
def Scr (ν : Nat → Int) (b : Nat) (A : Nat → Prop) (s : State) : Prop := ∃ (L : Nat) (xs : Nat → Int32), va_X b L xs s s.heap ∧ b < s.heap.size ∧ ¬ A b ∧ (∀ k, k < L → (xs k).toInt = ν k) ∧ ν 6 = (L : Int) ∧ L < 65536
def Ctx (OW : List String) (D : va_G) (cy : Nat → ClassId) (ν : Nat → Int) (b : Nat) (M : MT) (own : String) (p : Program) (R : Room) (s : State) (m : MethodId) (args : Array Value) (meth : Method) (c : Code) (A : Nat → Prop) (sc : Bool) : Prop :=
  p.tables.exec = Jvm.exec ∧ c.code = mC M ∧ c.maxLocals = mL M ∧ OW[mO M]? = some own ∧ s.vm.findClass own = some m.cls ∧ (∀ w ∈ BIG, w.before args s = true) ∧ KK D cy s ∧ (∀ q, s.heap.size ≤ q → A q) ∧ (mK M = 2 → meth.name = "<init>") ∧ R = mRm M ∧ TOK OW M ∧ (sc = true → Scr ν b A s)
def Safe (D : va_G) (cy : Nat → ClassId) (ν : Nat → Int) (b : Nat) (pool : va_W) (al0 : List Nat) (M : MT) (p : Program) (l : Launch) (e : Env) (R : Room) (s : State) (m : MethodId) (args : Array Value) (below : List Frame) (meth : Method) (c : Code) (A : Nat → Prop) (Q : State → Prop) (S : ST) : Prop :=
  ∀ (H : Heap) (locs : List Loc) (ls : Array Slot) (lv : List (Nat × Value)) (vs : List Value) (ws : va_W), lv_has ls (mL M) lv → glv ν (alw ws) b S.2.1 lv → gvs ν (alw ws) b S.2.2.1 vs → genv ν S.2.2.2.1 → Wd D cy A s.heap pool ν b S.2.2.2.2.1 ws H locs → (∃ more, alw ws = al0 ++ more) →
    W p l e R s m args below meth c H locs S.2.2.2.2.2.1 S.2.2.2.2.2.2 Q (F0 m S.1 ls vs)
def RV (ν : Nat → Int) (al : List Nat) (b : Nat) (M : MT) (ins : Instr) (r : Option AV) (v : Option Value) : Prop :=
  (ins = .ireturn ∧ ∃ (a : AV) (x : Int32) (ty : FieldType), r = some a ∧ v = some (.int x) ∧ gv ν al b a (.int x) ∧ mR M = some ty ∧ (ty = .int ∨ ty = .boolean) ∧ narrow ty (.int x) = .int x) ∨
  (ins = .lreturn ∧ ∃ (a : AV) (x : Int64), r = some a ∧ v = some (.long x) ∧ gv ν al b a (.long x) ∧ mR M = some .long) ∨
  (ins = .return_ ∧ r = none ∧ v = none ∧ mR M = none)
def RetOK (D : va_G) (cy : Nat → ClassId) (ν : Nat → Int) (b : Nat) (pool : va_W) (al0 : List Nat) (M : MT) (p : Program) (l : Launch) (e : Env) (R : Room) (s : State) (m : MethodId) (args : Array Value) (below : List Frame) (meth : Method) (c : Code) (A : Nat → Prop) (Q : State → Prop) (outs : List OUT) : Prop :=
  ∀ o ∈ outs, ∀ (ins : Instr) (pc : Nat) (H : Heap) (locs : List Loc) (ls : Array Slot) (ws : va_W) (v : Option Value), decode (mC M) pc = .ok (ins, 1) → RV ν (alw ws) b M ins o.1 v → genv ν o.2.1 → Wd D cy A s.heap pool ν b o.2.2 ws H locs → (∃ more, alw ws = al0 ++ more) →
    W p l e R s m args below meth c H locs (mNc M) (mNs M) Q (F0 m pc ls v.toList)
section STEPS
variable {RT : List (List (Nat × RES))} {P : List MT} {OW : List String} {ν : Nat → Int} {b : Nat} {cy : Nat → ClassId} {pool : va_W} {D : va_G} {A : Nat → Prop} {al0 : List Nat} {M : MT} {own : String} {sc : Bool}
variable {p : Program} {l : Launch} {e : Env} {R : Room} {s : State} {m : MethodId} {args : Array Value} {below : List Frame} {meth : Method} {c : Code} {Q : State → Prop}
theorem s_simple {S S' : ST} {ins : Instr} {len : Nat} (X : Ctx OW D cy ν b M own p R s m args meth c A sc) (h : e_st1p M S ins len = some S') (hd : decode (mC M) S.1 = .ok (ins, len)) (k : Safe D cy ν b pool al0 M p l e R s m args below meth c A Q S') : Safe D cy ν b pool al0 M p l e R s m args below meth c A Q S := by
  obtain ⟨pc, lo, st, E, C, nc, ns⟩ := S
  unfold e_st1p at h
  simp only at h
  split at h
  · rename_i n lo' st' h1
    split at h
    · rename_i h2
      have h2 := Nat.eq_of_beq_eq_true h2
      cases h
      subst h2
      intro H locs ls lv vs ws a1 a2 a3 a4 a5 a6
      exact e_simple_ok X.1 X.2.1 h1 hd a1 a2 a3 a4 (fun ls' lv' vs' b1 b2 b3 => k H locs ls' lv' vs' ws b1 b2 b3 a4 a5 a6)
    · cases h
  · cases h
theorem s_branch {S : ST} {x : List ST} {ins : Instr} {len : Nat} (X : Ctx OW D cy ν b M own p R s m args meth c A sc) (h : e_bst S ins len = some x) (hd : decode (mC M) S.1 = .ok (ins, len)) (k : ∀ S' ∈ x, Safe D cy ν b pool al0 M p l e R s m args below meth c A Q S') : Safe D cy ν b pool al0 M p l e R s m args below meth c A Q S := by
  obtain ⟨pc, lo, st, E, C, nc, ns⟩ := S
  unfold e_bst at h
  simp only at h
  split at h
  · rename_i brs h1
    cases h
    intro H locs ls lv vs ws a1 a2 a3 a4 a5 a6
    refine e_branch_ok X.1 X.2.1 h1 hd a3 a4 (fun br hbr vs' b1 b2 => ?_)
    exact k _ (List.mem_map.mpr ⟨br, hbr, rfl⟩) H locs ls lv vs' ws a1 a2 b2 b1 a5 a6
  · cases h
end STEPS
end
section
section STEPS2
variable {RT : List (List (Nat × RES))} {P : List MT} {OW : List String} {ν : Nat → Int} {b : Nat} {cy : Nat → ClassId} {pool : va_W} {D : va_G} {A : Nat → Prop} {al0 : List Nat} {M : MT} {own : String} {sc : Bool}
variable {p : Program} {l : Launch} {e : Env} {R : Room} {s : State} {m : MethodId} {args : Array Value} {below : List Frame} {meth : Method} {c : Code} {Q : State → Prop}
theorem e_cell_ok {C : List AC} {a : AV} {i : Nat} {x : AC} (h : e_cell C a = some (i, x)) : a = aR i ∧ C[i]? = some x := by
  unfold e_cell at h
  split at h
  · split at h
    · rename_i h1
      cases h
      exact ⟨rfl, h1⟩
    · cases h
  · cases h
theorem e_known_ok {E : EV} {al : List Nat} {a : AV} {v : Value} {n : Nat} (hE : genv ν E) (hv : gv ν al b a v) (h : e_known E a = some n) : ∃ x : Int32, v = .int x ∧ x.toInt = (n : Int) := by
  unfold e_known at h
  split at h
  · rename_i lo hi h1
    split at h
    · rename_i q
      simp only [Bool.and_eq_true, decide_eq_true_eq] at q
      cases h
      obtain ⟨x, rfl, g1, g2⟩ := gv_int hE hv h1
      exact ⟨x, rfl, by omega⟩
    · cases h
  · cases h
theorem e_lk_ok {x : List (Nat × RES)} {i : Nat} {r : RES} (h : e_lk x i = some r) : (i, r) ∈ x := by
  induction x with
  | nil => cases h
  | cons q t ih =>
    obtain ⟨j, r0⟩ := q
    simp only [e_lk] at h
    split at h
    · rename_i h1
      have := Nat.eq_of_beq_eq_true h1
      cases h
      rw [this]
      exact List.mem_cons_self
    · exact List.mem_cons_of_mem _ (ih h)
theorem e_res_ok {i : Nat} {r : RES} (hP : POK P RT OW) (ho : OW[mO M]? = some own) (h : e_res RT (mO M) i = some r) : ROK P own i r := by
  unfold e_res at h
  split at h
  · rename_i L h1
    exact hP.2.1 _ _ _ ho h1 _ (e_lk_ok h)
  · cases h
theorem cats_ok {al : List Nat} {st : List AV} {vs : List Value} (h : gvs ν al b st vs) : (vs.map fun v => v.category).sum = e_cats st := by
  induction st generalizing vs with
  | nil => rw [gvs_nil h]; rfl
  | cons a r ih =>
    obtain ⟨v, vs', rfl, g1, g2⟩ := gvs_cons h
    simp only [List.map_cons, List.sum_cons, e_cats]
    rw [ih g2]
    cases h9 : e_isL a with
    | true => rw [gv_cat2 g1 h9]; rfl
    | false => rw [gv_cat1 g1 h9]; rfl
theorem alw_more {ws ws' : va_W} {q : Nat} (h : ∃ more, alw ws = al0 ++ more) (e : alw ws' = alw ws ++ [q]) : ∃ more, alw ws' = al0 ++ more := by
  obtain ⟨more, h⟩ := h
  exact ⟨more ++ [q], by rw [e, h, List.append_assoc]⟩
theorem beq3 {a c : Nat} (h : Nat.beq a c = true) : a = c := Nat.eq_of_beq_eq_true h
set_option maxHeartbeats 4000000 in
theorem s_hstep {S S' : ST} {ins : Instr} {len : Nat} (hP : POK P RT OW) (X : Ctx OW D cy ν b M own p R s m args meth c A sc) (h : e_hstep RT M sc S ins len = some S') (hd : decode (mC M) S.1 = .ok (ins, len)) (k : Safe D cy ν b pool al0 M p l e R s m args below meth c A Q S') : Safe D cy ν b pool al0 M p l e R s m args below meth c A Q S := by
  obtain ⟨pc, lo, st, E, C, nc, ns⟩ := S
  obtain ⟨x1, x2, x3, x4, x5, x6, x7, x8, x9, x10, x11, x12⟩ := X
  subst x10
  intro H locs ls lv vs ws a1 a2 a3 a4 a5 a6
  unfold e_hstep at h
  simp only at h a2 a3 a4 a5 hd ⊢
  split at h
  · -- getfield
    split at h
    · rename_i kd ci kf z a st' hr
      split at h
      · rename_i n ci' fs hc
        split at h
        · rename_i v hv
          split at h
          · rename_i q
            simp only [Bool.and_eq_true] at q
            obtain ⟨q1, q2, q3⟩ := q
            have q2 := beq3 q2
            have q3 := beq3 q3
            cases h
            subst q2
            subst q3
            obtain ⟨rfl, hC⟩ := e_cell_ok hc
            obtain ⟨v0, vs1, rfl, g1, g2⟩ := gvs_cons a3
            obtain ⟨qa, gq, rfl⟩ := g1
            have hro := e_res_ok hP x4 hr
            have hk : kd = 0 ∨ kd = 1 := by have := Nat.le_of_ble_eq_true q1; omega
            rcases hk with rfl | rfl
            · obtain ⟨r, r1, r2, r3⟩ := hro
              exact h_get x1 x2 x6 x5 x7.1 a5 hC gq r1 r2 hv (x6 _ r3) hd (fun v gv9 => k H locs ls lv _ ws a1 a2 ⟨gv9, g2⟩ a4 a5 a6)
            · obtain ⟨r, host, r1, r2, r3⟩ := hro
              exact h_getN x1 x2 x6 x5 x7.1 a5 hC gq r1 r2 hv (va_Nw.use rfl (x7.2.1 _ r3)) hd (fun v gv9 => k H locs ls lv _ ws a1 a2 ⟨gv9, g2⟩ a4 a5 a6)
          · cases h
        · cases h
      · cases h
    · cases h
  · -- putfield
    split at h
    · rename_i kd ci kf z v a st' hr
      split at h
      · rename_i n ci' fs hc
        split at h
        · rename_i q
          simp only [Bool.and_eq_true, decide_eq_true_eq] at q
          obtain ⟨q1, q2, q3, q4, q5, q6⟩ := q
          have q1 := beq3 q1
          have q2 := beq3 q2
          have q3 := beq3 q3
          cases h
          subst q1
          subst q2
          subst q3
          obtain ⟨rfl, hC⟩ := e_cell_ok hc
          obtain ⟨v0, vs1, rfl, g1, g2⟩ := gvs_cons a3
          obtain ⟨v1, vs2, rfl, g3, g4⟩ := gvs_cons g2
          obtain ⟨qa, gq, rfl⟩ := g3
          obtain ⟨r, r1, r2, r3⟩ := e_res_ok hP x4 hr
          have hfin : (r.2.1 kf).2.2.2 = false ∨ (meth.name = "<init>" ∧ (r.2.1 kf).2.2.2 = true ∧ (r.2.1 kf).1 = own) := by
            unfold e_initOk at q6
            rw [r1] at q6
            simp only at q6
            split at q6
            · cases q6
            · split at q6
              · rename_i q7
                simp only [Bool.and_eq_true] at q6
                have w1 := beq3 q6.1
                have w2 := beq3 q6.2
                rw [w2] at r1
                have w3 := x11.2 w1 r r1 kf r2
                rw [x4] at w3
                exact Or.inr ⟨x9 w1, q7, (Option.some.inj w3).symm⟩
              · rename_i q7
                left
                cases h7 : (r.2.1 kf).2.2.2 with
                | true => exact absurd h7 q7
                | false => rfl
          exact h_put x1 x2 x6 x5 x7.1 a5 a4 hC gq r1 r2 q4 g1 q5 hfin (x6 _ r3) hd (fun ws' H' locs' e1 w1 => k H' locs' ls lv _ ws' a1 (by rw [e1]; exact a2) (by rw [e1]; exact g4) a4 w1 (by rw [e1]; exact a6))
        · cases h
      · cases h
    · cases h
  · -- arraylength
    split at h
    · rename_i a st'
      split at h
      · rename_i n t n0 d x hc
        split at h
        · rename_i q
          simp only [Bool.and_eq_true, decide_eq_true_eq] at q
          obtain ⟨q1, q2, q3⟩ := q
          have q3 := beq3 q3
          cases h
          subst q3
          obtain ⟨rfl, hC⟩ := e_cell_ok hc
          obtain ⟨v0, vs1, rfl, g1, g2⟩ := gvs_cons a3
          obtain ⟨qa, gq, rfl⟩ := g1
          exact h_alen x1 x2 x7.1 a5 hC gq (by have := Nat.le_of_ble_eq_true q1; omega) (by omega) hd (fun v gv9 => k H locs ls lv _ ws a1 a2 ⟨gv9, g2⟩ a4 a5 a6)
        · cases h
      · split at h
        · split at h
          · rename_i q
            simp only [Bool.and_eq_true] at q
            have q2 := beq3 q.2
            cases h
            subst q2
            obtain ⟨v0, vs1, rfl, g1, g2⟩ := gvs_cons a3
            have g1 : v0 = .ref b := g1
            subst g1
            obtain ⟨L, xs, y1, y2, y3, y4, y5, y6⟩ := x12 q.1
            refine va_slen x1 x2 y1 y2 y3 a5.2.2.2 hd (k H locs ls lv _ ws a1 a2 ⟨⟨_, rfl, ?_⟩, g2⟩ a4 a5 a6)
            have := nI_toInt (n := L) (by omega)
            rw [show Int32.ofNat L = nI L from rfl, this, y5]
            omega
          · cases h
        · cases h
    · cases h
  · -- new
    split at h
    · rename_i kd ci n z hr
      split at h
      · rename_i fs hfs
        split at h
        · rename_i q
          simp only [Bool.and_eq_true] at q
          obtain ⟨q1, q2, q3, q4⟩ := q
          have q1 := beq3 q1
          have q2 := beq3 q2
          cases h
          subst q1
          subst q2
          obtain ⟨r, r1, r2, r3, r4, r5⟩ := e_res_ok hP x4 hr
          subst r2
          exact h_new x1 x2 x6 x5 x7.1 a5 x8 r1 hfs (x6 _ r3) (x6 _ r4) (x6 _ r5) (Nat.le_of_ble_eq_true q3) (Nat.le_of_ble_eq_true q4) hd (fun ws' qa H' e1 g1 w1 => k H' locs ls lv _ ws' a1 (by rw [e1]; exact glv_app _ a2) ⟨g1, by rw [e1]; exact gvs_app _ a3⟩ a4 w1 (alw_more a6 e1))
        · cases h
      · cases h
    · cases h
  · -- newarray
    split at h
    · rename_i at9 t a st' ht
      split at h
      · rename_i n hn
        split at h
        · rename_i q
          simp only [Bool.and_eq_true, decide_eq_true_eq] at q
          obtain ⟨q1, q2, q3, q4⟩ := q
          have q2 := beq3 q2
          cases h
          subst q2
          obtain ⟨v0, vs1, rfl, g1, g2⟩ := gvs_cons a3
          obtain ⟨x, rfl, hx⟩ := e_known_ok a4 g1 hn
          exact h_newa x1 x2 (x6 _ (hP.2.2.2.2.2.2.2 _ _ ht)) x7.1 a5 x8 ht hx q1 (Nat.le_of_ble_eq_true q3) (Nat.le_of_ble_eq_true q4) hd (fun ws' qa H' e1 g3 w1 => k H' locs ls lv _ ws' a1 (by rw [e1]; exact glv_app _ a2) ⟨g3, by rw [e1]; exact gvs_app _ g2⟩ a4 w1 (alw_more a6 e1))
        · cases h
      · cases h
    · cases h
  · -- anewarray
    split at h
    · rename_i kd t z1 z2 a st' hr
      split at h
      · rename_i n hn
        split at h
        · rename_i q
          simp only [Bool.and_eq_true, decide_eq_true_eq] at q
          obtain ⟨q1, q2, q3, q4, q5, q6, q7⟩ := q
          have q1 := beq3 q1
          have q5 := beq3 q5
          cases h
          subst q1
          subst q5
          obtain ⟨v0, vs1, rfl, g1, g2⟩ := gvs_cons a3
          obtain ⟨x, rfl, hx⟩ := e_known_ok a4 g1 hn
          obtain ⟨r, i', r1, r2, r3, r4⟩ := e_res_ok hP x4 hr
          have r2 := Nat.add_right_cancel r2
          subst r2
          have hover : va_AO r.1 s := by
            rcases r4 with r4 | r4 <;> rw [r4]
            · exact x7.2.2.1
            · exact x7.2.2.2
          exact h_newq x1 x2 x5 x7.1 a5 x8 (Nat.le_of_ble_eq_true q2) (by have := Nat.le_of_ble_eq_true q3; omega) r1 (x6 _ r3) hover hx q4 (Nat.le_of_ble_eq_true q6) (Nat.le_of_ble_eq_true q7) hd (fun ws' qa H' e1 g3 w1 => k H' locs ls lv _ ws' a1 (by rw [e1]; exact glv_app _ a2) ⟨g3, by rw [e1]; exact gvs_app _ g2⟩ a4 w1 (alw_more a6 e1))
        · cases h
      · cases h
    · cases h
  · -- ldc2_w
    split at h
    · rename_i kd z1 z2 v hr
      split at h
      · rename_i q
        simp only [Bool.and_eq_true] at q
        have q1 := beq3 q.1
        have q2 := beq3 q.2
        cases h
        subst q1
        subst q2
        obtain ⟨r1, r2, r3⟩ := e_res_ok hP x4 hr
        have w : (Int64.ofInt v).toInt = v := by
          rw [Int64.toInt_ofInt]
          exact fb_bmodL r2 r3
        exact lv_ldc2 x1 x2 x5 (x6 _ r1) hd (k H locs ls lv _ ws a1 a2 ⟨⟨_, rfl, by rw [w]; omega, by rw [w]; omega⟩, a3⟩ a4 a5 a6)
      · cases h
    · cases h
  · -- Object's maker
    split at h
    · rename_i kd z1 z2 z3 n st' hr
      split at h
      · rename_i q
        simp only [Bool.and_eq_true] at q
        obtain ⟨q1, q2, q3, q4⟩ := q
        have q1 := beq3 q1
        have q2 := beq3 q2
        cases h
        subst q1
        subst q2
        have r1 := e_res_ok hP x4 hr
        obtain ⟨v0, vs1, rfl, g1, g2⟩ := gvs_cons a3
        obtain ⟨qa, gq, rfl⟩ := g1
        refine W.objInit x1 x2 x5 (x6 _ r1) (x6 _ hP.2.2.1) (x6 _ hP.2.2.2.1) rfl (by rw [x3]; exact a1.1) rfl hd (Nat.le_of_ble_eq_true q3) ?_ (k H locs ls lv _ ws a1 a2 g2 a4 a5 a6)
        have w1 := cats_ok g2
        have w2 := Nat.le_of_ble_eq_true q4
        show 2 * 0 + (vs1.map fun v => v.category).sum + 12 ≤ mLo M
        rw [w1]; omega
      · cases h
    · cases h
  · -- arraycopy
    split at h
    · rename_i kd z1 z2 z3 nn dp r1 sp r0 st' hr
      split at h
      · rename_i j0 n0 d0 y0 i1 n1 d1 y1 n hc0 hc1 hn hdp hsp
        split at h
        · rename_i q
          simp only [Bool.and_eq_true, decide_eq_true_eq] at q
          obtain ⟨q1, q2, q3, q4, q5, q6, q7⟩ := q
          have q1 := beq3 q1
          have q2 := beq3 q2
          have q3 := beq3 q3
          have q4 := beq3 q4
          cases h
          subst q1
          subst q2
          subst q3
          subst q4
          have w0 := e_res_ok hP x4 hr
          obtain ⟨rfl, hC0⟩ := e_cell_ok hc0
          obtain ⟨rfl, hC1⟩ := e_cell_ok hc1
          obtain ⟨u1, vs1, rfl, g1, a3⟩ := gvs_cons a3
          obtain ⟨u2, vs2, rfl, g2, a3⟩ := gvs_cons a3
          obtain ⟨u3, vs3, rfl, g3, a3⟩ := gvs_cons a3
          obtain ⟨u4, vs4, rfl, g4, a3⟩ := gvs_cons a3
          obtain ⟨u5, vs5, rfl, g5, a3'⟩ := gvs_cons a3
          obtain ⟨x1', rfl, hx1⟩ := e_known_ok a4 g1 hn
          obtain ⟨x2', rfl, hx2⟩ := e_known_ok a4 g2 hdp
          obtain ⟨x4', rfl, hx4⟩ := e_known_ok a4 g4 hsp
          obtain ⟨qa, gq, rfl⟩ := g3
          obtain ⟨qb, gqb, rfl⟩ := g5
          refine h_copy x1 x2 (by rw [x3]; exact a1.1.symm) x5 (x6 _ w0) (x6 _ hP.2.2.2.2.1) (x6 _ hP.2.2.2.2.2.1) (x6 _ hP.2.2.2.2.2.2.1) x7.1 a5 hC0 gqb hC1 gq (by simpa using hx4) (by simpa using hx2) hx1 q5 (Nat.le_of_ble_eq_true q6) ?_ hd (fun ws' H' locs' e1 w1 => k H' locs' ls lv _ ws' a1 (by rw [e1]; exact a2) (by rw [e1]; exact a3') a4 w1 (by rw [e1]; exact a6))
          have w1 := cats_ok a3'
          rw [w1]
          exact Nat.le_of_ble_eq_true q7
        · cases h
      · cases h
    · cases h
  · cases h
end STEPS2
end
section
section STEPS3
variable {RT : List (List (Nat × RES))} {P : List MT} {OW : List String} {ν : Nat → Int} {b : Nat} {cy : Nat → ClassId} {pool : va_W} {D : va_G} {A : Nat → Prop} {al0 : List Nat} {M : MT} {own : String} {sc : Bool}
variable {p : Program} {l : Launch} {e : Env} {R : Room} {s : State} {m : MethodId} {args : Array Value} {below : List Frame} {meth : Method} {c : Code} {Q : State → Prop}
theorem e_span_ok {E : EV} {k : Nat} (hE : genv ν E) : ∀ (n : Nat) (lo : Int), lo ≤ ν k → ν k < lo + (n : Int) → ∃ E1, E1 ∈ e_span E k lo n ∧ genv ν E1 := by
  intro n
  induction n with
  | zero => intro lo h1 h2; omega
  | succ n ih =>
    intro lo h1 h2
    rcases (show ν k = lo ∨ lo + 1 ≤ ν k by omega) with q | q
    · exact ⟨E.set k (lo, lo), List.mem_cons_self, genv_set hE ⟨by simp only; omega, by simp only; omega⟩⟩
    · obtain ⟨E1, m1, g1⟩ := ih (lo + 1) q (by omega)
      exact ⟨E1, List.mem_cons_of_mem _ m1, g1⟩
theorem e_ald_ok {ins : Instr} {t : Nat} (h : e_ald ins t = true) : (ins = .iaload ∧ t = 0) ∨ (ins = .baload ∧ t = 1) ∨ (ins = .baload ∧ t = 2) ∨ (ins = .laload ∧ t = 3) ∨ (ins = .aaload ∧ 4 ≤ t) := by
  unfold e_ald at h
  split at h
  · exact Or.inl ⟨rfl, beq3 h⟩
  · simp only [Bool.or_eq_true] at h
    rcases h with h | h
    · exact Or.inr (Or.inl ⟨rfl, beq3 h⟩)
    · exact Or.inr (Or.inr (Or.inl ⟨rfl, beq3 h⟩))
  · exact Or.inr (Or.inr (Or.inr (Or.inl ⟨rfl, beq3 h⟩)))
  · exact Or.inr (Or.inr (Or.inr (Or.inr ⟨rfl, Nat.le_of_ble_eq_true h⟩)))
  · cases h
set_option maxHeartbeats 4000000 in
theorem s_astep {S : ST} {x : List ST} {ins : Instr} {len : Nat} (X : Ctx OW D cy ν b M own p R s m args meth c A sc) (h : e_astep M sc S ins len = some x) (hd : decode (mC M) S.1 = .ok (ins, len)) (k : ∀ S' ∈ x, Safe D cy ν b pool al0 M p l e R s m args below meth c A Q S') : Safe D cy ν b pool al0 M p l e R s m args below meth c A Q S := by
  obtain ⟨pc, lo, st, E, C, nc, ns⟩ := S
  obtain ⟨x1, x2, x3, x4, x5, x6, x7, x8, x9, x10, x11, x12⟩ := X
  subst x10
  intro H locs ls lv vs ws a1 a2 a3 a4 a5 a6
  have split9 : ∀ {kk : Nat} {lo9 hi9 : Int} {y : List ST}, E[kk]? = some (lo9, hi9) → (if decide (hi9 - lo9 < 64) = true then some ((e_span E kk lo9 (hi9 - lo9 + 1).toNat).map (fun E1 => ((pc, lo, st, E1, C, nc, ns) : ST))) else none) = some y → y = x → W p l e (mRm M) s m args below meth c H locs nc ns Q (F0 m pc ls vs) := by
    intro kk lo9 hi9 y hE h hy
    split at h
    · cases h
      subst hy
      have w := a4 kk _ hE
      simp only at w
      obtain ⟨E1, m1, g1⟩ := e_span_ok a4 (hi9 - lo9 + 1).toNat lo9 w.1 (by omega)
      exact k _ (List.mem_map.mpr ⟨E1, m1, rfl⟩) H locs ls lv vs ws a1 a2 a3 g1 a5 a6
    · cases h
  unfold e_astep at h
  simp only at h a2 a3 a4 a5 hd ⊢
  split at h
  · -- a load
    split at h
    · rename_i i a st'
      split at h
      · rename_i j hj
        split at h
        · rename_i n0 t n d y hc
          split at h
          · rename_i q
            simp only [Bool.and_eq_true, decide_eq_true_eq] at q
            obtain ⟨q1, q2, q3, q4, q5⟩ := q
            have q4 := beq3 q4
            cases h
            subst q4
            obtain ⟨rfl, hC⟩ := e_cell_ok hc
            obtain ⟨v0, vs1, rfl, g1, g2⟩ := gvs_cons a3
            obtain ⟨v1, vs2, rfl, g3, g4⟩ := gvs_cons g2
            obtain ⟨xi, rfl, hxi⟩ := e_known_ok a4 g1 hj
            obtain ⟨qa, gq, rfl⟩ := g3
            exact h_ald x1 x2 x7.1 a5 hC gq (by have := Nat.le_of_ble_eq_true q1; omega) hxi q2 (by omega) (e_ald_ok q5) hd (fun v gv9 => k _ List.mem_cons_self H locs ls lv _ ws a1 a2 ⟨gv9, g4⟩ a4 a5 a6)
          · cases h
        · split at h
          · split at h
            · rename_i l6 z6 h6
              split at h
              · rename_i q
                simp only [Bool.and_eq_true, decide_eq_true_eq] at q
                obtain ⟨q1, q2, q3, q4⟩ := q
                have q2 := beq3 q2
                cases h
                subst q2
                subst q3
                obtain ⟨v0, vs1, rfl, g1, g2⟩ := gvs_cons a3
                obtain ⟨v1, vs2, rfl, g3, g4⟩ := gvs_cons g2
                obtain ⟨xi, rfl, hxi⟩ := e_known_ok a4 g1 hj
                have g3 : v1 = .ref b := g3
                subst g3
                obtain ⟨L, xs, y1, y2, y3, y4, y5, y6⟩ := x12 q1
                have w6 := a4 6 _ h6
                simp only at w6
                have hjL : j < L := by omega
                obtain ⟨hin, hcl⟩ := en_in (n := L) hxi hjL (by omega)
                refine va_sld x1 x2 y1 y2 y3 a5.2.2.2 hin hd (k _ List.mem_cons_self H locs ls lv _ ws a1 a2 ⟨⟨_, rfl, ?_⟩, g4⟩ a4 a5 a6)
                rw [hcl, y4 j hjL]
                omega
              · cases h
            · cases h
          · cases h
      · split at h
        · split at h
          · rename_i hE
            exact split9 hE h rfl
          · cases h
        · cases h
    · cases h
  · -- a store
    split at h
    · rename_i v i a st'
      split at h
      · rename_i j hj
        split at h
        · rename_i n0 t n d y hc
          split at h
          · rename_i q
            simp only [Bool.and_eq_true, decide_eq_true_eq] at q
            obtain ⟨q1, q2, q3, q4, q5, q6⟩ := q
            have q4 := beq3 q4
            cases h
            subst q4
            obtain ⟨rfl, hC⟩ := e_cell_ok hc
            obtain ⟨u0, vs0, rfl, g0, g00⟩ := gvs_cons a3
            obtain ⟨v0, vs1, rfl, g1, g2⟩ := gvs_cons g00
            obtain ⟨v1, vs2, rfl, g3, g4⟩ := gvs_cons g2
            obtain ⟨xi, rfl, hxi⟩ := e_known_ok a4 g1 hj
            obtain ⟨qa, gq, rfl⟩ := g3
            exact h_ast x1 x2 x7.1 a5 a4 hC gq (by have := Nat.le_of_ble_eq_true q1; omega) hxi q2 (by omega) g0 q6 q5 hd (fun ws' H' locs' e1 w1 => k _ List.mem_cons_self H' locs' ls lv _ ws' a1 (by rw [e1]; exact a2) (by rw [e1]; exact g4) a4 w1 (by rw [e1]; exact a6))
          · cases h
        · cases h
      · split at h
        · split at h
          · rename_i hE
            exact split9 hE h rfl
          · cases h
        · cases h
    · cases h
  · cases h
theorem e_cat_ok {f : ST → Option (List OUT)} : ∀ {x : List ST} {outs : List OUT}, e_cat f x = some outs → ∀ S ∈ x, ∃ o1, f S = some o1 ∧ ∀ o ∈ o1, o ∈ outs := by
  intro x
  induction x with
  | nil => intro outs _ S h; cases h
  | cons S0 r ih =>
    intro outs h S hS
    simp only [e_cat] at h
    split at h
    · rename_i a ha
      split at h
      · rename_i q hq
        cases h
        rcases List.mem_cons.mp hS with rfl | hS
        · exact ⟨a, ha, fun o ho => List.mem_append_left _ ho⟩
        · obtain ⟨o1, h1, h2⟩ := ih hq S hS
          exact ⟨o1, h1, fun o ho => List.mem_append_right _ (h2 o ho)⟩
      · cases h
    · cases h
theorem e_suf_in {T : List INS} {pc : Nat} : ∀ q ∈ e_suf T pc, q ∈ T := by
  induction T with
  | nil => intro q h; cases h
  | cons x r ih =>
    intro q h
    simp only [e_suf] at h
    split at h
    · exact h
    · exact List.mem_cons_of_mem _ (ih q h)
theorem e_next_in {tl : List INS} {pc : Nat} (hM : ∀ q ∈ mT M, decode (mC M) q.1 = .ok (q.2.2.1, q.2.2.2)) (h : ∀ q ∈ tl, decode (mC M) q.1 = .ok (q.2.2.1, q.2.2.2)) : ∀ q ∈ e_next M tl pc, decode (mC M) q.1 = .ok (q.2.2.1, q.2.2.2) := by
  unfold e_next
  split
  · split
    · exact h
    · exact fun q hq => hM q (e_suf_in q hq)
  · exact fun q hq => hM q (e_suf_in q hq)
/-- what a call answers, and the world behind it -/
def PO (cy : Nat → ClassId) (ν : Nat → Int) (b : Nat) (al0 : List Nat) (outs : List OUT) (u : va_W × OUT) : Prop := u.2 ∈ outs ∧ genv ν u.2.2.1 ∧ gW ν b cy u.2.2.2 u.1 ∧ ∃ more, alw u.1 = al0 ++ more
def BO (D : va_G) (pool : va_W) (A : Nat → Prop) (u : va_W × OUT) (t : State) : Prop := va_P D vwCl (pool ++ u.1) t.heap ∧ va_D A (pool ++ u.1)
def QJ (D : va_G) (cy : Nat → ClassId) (ν : Nat → Int) (b : Nat) (pool : va_W) (al0 : List Nat) (outs : List OUT) (A : Nat → Prop) (ret : Option FieldType) : Array Value → State → Outcome → State → Prop := match ret with
  | none => va_Qv (fun u : va_W × OUT => PO cy ν b al0 outs u ∧ u.2.1 = none) (BO D pool A) A
  | some .long => va_Ql (fun (r : Int64) (u : va_W × OUT) => PO cy ν b al0 outs u ∧ ∃ a, u.2.1 = some a ∧ gv ν (alw u.1) b a (.long r)) (BO D pool A) A
  | some _ => va_Qi (fun (r : Int32) (u : va_W × OUT) => PO cy ν b al0 outs u ∧ ∃ a, u.2.1 = some a ∧ gv ν (alw u.1) b a (.int r)) (BO D pool A) A
abbrev mW (M : MT) : List Cond := Cond.code (mY M) (mC M) (mL M) (mR M) :: BIG
def PJ (D : va_G) (cy : Nat → ClassId) (pool ws : va_W) (vs : List Value) (sz : Nat) : Array Value → State → Prop := va_Pc vs (fun U => U.heap.size = sz ∧ va_P D vwCl (pool ++ ws) U.heap ∧ KK D cy U ∧ va_D (fun _ => True) (pool ++ ws))
theorem e_args_ok {al : List Nat} : ∀ {as : List AV} {vs : List Value} (i : Nat), gvs ν al b as vs → glv ν al b (e_args i as) (lv_args i vs) := by
  intro as
  induction as with
  | nil => intro vs i h; rw [gvs_nil h]; trivial
  | cons a r ih =>
    intro vs i h
    obtain ⟨v, vs', rfl, g1, g2⟩ := gvs_cons h
    refine ⟨⟨rfl, g1⟩, ?_⟩
    have e9 : (if v.category = 2 then i + 2 else i + 1) = (if e_isL a = true then i + 2 else i + 1) := by
      cases h9 : e_isL a with
      | true => rw [gv_cat2 g1 h9]; rfl
      | false => rw [gv_cat1 g1 h9]; rfl
    show glv ν al b (e_args _ r) (lv_args (if v.category = 2 then i + 2 else i + 1) vs')
    rw [e9]
    exact ih _ g2
theorem lg_len (vs : List Value) : (lg_sl vs).length = (vs.map fun v => v.category).sum := by
  induction vs with
  | nil => rfl
  | cons v r ih =>
    unfold lg_sl at ih ⊢
    rw [List.flatMap_cons, List.length_append, ih, List.map_cons, List.sum_cons]
    rcases lv_cat v with q | q
    · rw [if_neg (by omega), q]; rfl
    · rw [if_pos q, q]; rfl
end STEPS3
end
section
section LE
variable {ν : Nat → Int} {b : Nat} {cy : Nat → ClassId} {E : EV}
theorem e_leV_ok {al : List Nat} {a a' : AV} {v : Value} (hE : genv ν E) (hv : gv ν al b a v) (h : e_leV E a a' = true) : gv ν al b a' v := by
  unfold e_leV at h
  split at h
  · rename_i h0
    rw [← h0]; exact hv
  · rcases a' with ⟨l', h'⟩ | ⟨k, c⟩ | ⟨l', h'⟩ | (_ | i) | _
    · simp only at h
      split at h
      · rename_i l h1 hi
        simp only [Bool.and_eq_true, decide_eq_true_eq] at h
        obtain ⟨x, rfl, g1, g2⟩ := gv_int hE hv hi
        exact ⟨x, rfl, by omega, by omega⟩
      · cases h
    · simp only at h
      split at h
      · rename_i l h1 l2 h2 hi hi2
        simp only [Bool.and_eq_true, decide_eq_true_eq] at h
        obtain ⟨x, rfl, g1, g2⟩ := gv_int hE hv hi
        simp only [e_iv] at hi2
        cases hk : E[k]? with
        | none => rw [hk] at hi2; cases hi2
        | some r =>
          rw [hk] at hi2
          obtain ⟨l3, h3⟩ := r
          simp only [Option.some.injEq, Prod.mk.injEq] at hi2
          have w := hE k _ hk
          simp only at w
          exact ⟨x, rfl, by omega⟩
      · cases h
    · rcases a with ⟨l0, h0⟩ | ⟨k0, c0⟩ | ⟨l0, h0⟩ | (_ | i0) | _
      · cases h
      · cases h
      · simp only [Bool.and_eq_true, decide_eq_true_eq] at h
        obtain ⟨x, rfl, g1, g2⟩ := hv
        exact ⟨x, rfl, by omega, by omega⟩
      · cases h
      · cases h
      · cases h
    · cases h
    · cases h
    · cases h
theorem e_leVs_ok {al : List Nat} (hE : genv ν E) : ∀ {x y : List AV} {vs : List Value}, gvs ν al b x vs → e_leVs E x y = true → gvs ν al b y vs := by
  intro x
  induction x with
  | nil =>
    intro y vs h1 h2
    cases y with
    | nil => exact h1
    | cons => cases h2
  | cons a r ih =>
    intro y vs h1 h2
    cases y with
    | nil => cases h2
    | cons a' r' =>
      simp only [e_leVs, Bool.and_eq_true] at h2
      obtain ⟨v, vs', rfl, g1, g2⟩ := gvs_cons h1
      exact ⟨e_leV_ok hE g1 h2.1, ih g2 h2.2⟩
theorem e_leL_ok {al : List Nat} {ls : Array Slot} {nL : Nat} {x : List (Nat × AV)} {lv : List (Nat × Value)} (hE : genv ν E) (hl : lv_has ls nL lv) (hg : glv ν al b x lv) : ∀ {y : List (Nat × AV)}, e_leL E x y = true → ∃ lv', lv_has ls nL lv' ∧ glv ν al b y lv' := by
  intro y
  induction y with
  | nil => intro _; exact ⟨[], ⟨hl.1, hl.2.1, fun q hq => by cases hq⟩, trivial⟩
  | cons q r ih =>
    intro h
    obtain ⟨i, a'⟩ := q
    simp only [e_leL, Bool.and_eq_true] at h
    obtain ⟨h1, h2⟩ := h
    obtain ⟨lv', g1, g2⟩ := ih h2
    split at h1
    · rename_i a ha
      obtain ⟨k, v, e1, g3⟩ := e_find_ok hg ha
      refine ⟨(i, v) :: lv', ⟨g1.1, g1.2.1, fun q hq => ?_⟩, ⟨rfl, e_leV_ok hE g3 h1⟩, g2⟩
      rcases List.mem_cons.mp hq with rfl | hq
      · exact lv_at hl k e1
      · exact g1.2.2 q hq
    · cases h1
theorem e_leE_ok : ∀ {x y : EV} (ν : Nat → Int), genv ν x → e_leE x y = true → genv ν y := by
  intro x
  induction x with
  | nil =>
    intro y ν h1 h2
    cases y with
    | nil => exact h1
    | cons => cases h2
  | cons q r ih =>
    intro y ν h1 h2
    cases y with
    | nil => intro k q hk; simp at hk
    | cons q' r' =>
      obtain ⟨l, h⟩ := q
      obtain ⟨l', h'⟩ := q'
      simp only [e_leE, Bool.and_eq_true, decide_eq_true_eq] at h2
      intro k z hk
      cases k with
      | zero =>
        simp at hk
        subst hk
        have := h1 0 (l, h) rfl
        simp only at this ⊢
        omega
      | succ k =>
        have := ih (y := r') (fun n => ν (n + 1)) (fun n z hn => h1 (n + 1) z hn) h2.2.2 k z hk
        exact this
theorem e_get_out {d : AV} : ∀ {x : List (Nat × AV)} {j : Nat}, (∀ q ∈ x, q.1 ≠ j) → e_get d x j = d := by
  intro x
  induction x with
  | nil => intro j _; rfl
  | cons q r ih =>
    intro j h
    obtain ⟨i, a⟩ := q
    simp only [e_get]
    rw [if_neg, ih (fun q hq => h q (List.mem_cons_of_mem _ hq))]
    intro h1
    exact h (i, a) List.mem_cons_self (Nat.eq_of_beq_eq_true h1)
theorem e_leA_ok {al : List Nat} {d d' : AV} {x x' : List (Nat × AV)} (hE : genv ν E) (h : e_leA E d d' x x' = true) (j : Nat) {v : Value} (hv : gv ν al b (e_get d x j) v) : gv ν al b (e_get d' x' j) v := by
  simp only [e_leA, Bool.and_eq_true] at h
  obtain ⟨h1, h2, h3⟩ := h
  by_cases m1 : ∃ q ∈ x, q.1 = j
  · obtain ⟨q, hq, rfl⟩ := m1
    exact e_leV_ok hE hv (List.all_eq_true.mp h2 q hq)
  · by_cases m2 : ∃ q ∈ x', q.1 = j
    · obtain ⟨q, hq, rfl⟩ := m2
      exact e_leV_ok hE hv (List.all_eq_true.mp h3 q hq)
    · rw [e_get_out (fun q hq e => m1 ⟨q, hq, e⟩)] at hv
      rw [e_get_out (fun q hq e => m2 ⟨q, hq, e⟩)]
      exact e_leV_ok hE hv h1
theorem e_leC_ok {al : List Nat} {c c' : AC} {e : va_E} (hE : genv ν E) (hc : gC ν al b cy c e) (h : e_leC E c c' = true) : gC ν al b cy c' e := by
  unfold e_leC at h
  split at h
  · simp only [Bool.and_eq_true] at h
    obtain ⟨h1, h2, h3⟩ := h
    have h1 := beq3 h1
    have h2 := beq3 h2
    subst h1
    subst h2
    rcases hc with ⟨g0, f, g1, g2⟩ | ⟨g0, f, g1, g2⟩ | ⟨g0, f, g1, g2⟩
    · exact Or.inl ⟨g0, f, g1, fun j hj => e_leA_ok hE h3 j (g2 j hj)⟩
    · exact Or.inr (Or.inl ⟨g0, f, g1, fun j hj => e_leA_ok hE h3 j (g2 j hj)⟩)
    · exact Or.inr (Or.inr ⟨g0, f, g1, fun j hj => e_leA_ok hE h3 j (g2 j hj)⟩)
  · simp only [Bool.and_eq_true] at h
    have h1 := beq3 h.1
    subst h1
    obtain ⟨vs, g1, g2⟩ := hc
    exact ⟨vs, g1, e_leVs_ok hE g2 h.2⟩
  · cases h
theorem e_leCs_at : ∀ {x y : List AC}, e_leCs E x y = true → x.length = y.length ∧ ∀ (i : Nat) (c' : AC), y[i]? = some c' → ∃ c, x[i]? = some c ∧ e_leC E c c' = true := by
  intro x
  induction x with
  | nil =>
    intro y h
    cases y with
    | nil => exact ⟨rfl, fun i c' h => by simp at h⟩
    | cons => cases h
  | cons a r ih =>
    intro y h
    cases y with
    | nil => cases h
    | cons a' r' =>
      simp only [e_leCs, Bool.and_eq_true] at h
      obtain ⟨h1, h2⟩ := ih h.2
      refine ⟨by simp [h1], fun i c' hi => ?_⟩
      cases i with
      | zero => simp at hi; subst hi; exact ⟨a, rfl, h.1⟩
      | succ i => simp at hi; obtain ⟨c, g1, g2⟩ := h2 i c' hi; exact ⟨c, by simpa using g1, g2⟩
theorem e_leCs_ok {x y : List AC} {ws : va_W} (hE : genv ν E) (h : e_leCs E x y = true) (hW : gW ν b cy x ws) : gW ν b cy y ws := by
  obtain ⟨h1, h2⟩ := e_leCs_at h
  refine ⟨by rw [← h1]; exact hW.1, fun i c' hi => ?_⟩
  obtain ⟨c, g1, g2⟩ := h2 i c' hi
  obtain ⟨q, e, g3, g4⟩ := hW.2 i c g1
  exact ⟨q, e, g3, e_leC_ok hE g4 g2⟩
theorem safe_le {D : va_G} {pool : va_W} {al0 : List Nat} {M : MT} {p : Program} {l : Launch} {e : Env} {R : Room} {s : State} {m : MethodId} {args : Array Value} {below : List Frame} {meth : Method} {c : Code} {A : Nat → Prop} {Q : State → Prop} {S S' : ST} (h : e_le S S' = true) (k : Safe D cy ν b pool al0 M p l e R s m args below meth c A Q S') : Safe D cy ν b pool al0 M p l e R s m args below meth c A Q S := by
  obtain ⟨pc, lo, st, E, C, nc, ns⟩ := S
  obtain ⟨pc', lo', st', E', C', nc', ns'⟩ := S'
  simp only [e_le, Bool.and_eq_true] at h
  obtain ⟨h1, h2, h3, h4, h5, h6, h7⟩ := h
  have h1 := beq3 h1
  subst h1
  intro H locs ls lv vs ws a1 a2 a3 a4 a5 a6
  simp only at a2 a3 a4 a5 ⊢
  obtain ⟨lv', g1, g2⟩ := e_leL_ok a4 a1 a2 h4
  refine W.widen (k := nc') (n := ns') (Nat.le_of_ble_eq_true h6) (Nat.le_of_ble_eq_true h7) ?_
  exact k H locs ls lv' vs ws g1 g2 (e_leVs_ok a4 a3 h2) (e_leE_ok ν a4 h3) ⟨e_leCs_ok a4 h5 a5.1, a5.2⟩ a6
end LE
end
section
section CALL
variable {RT : List (List (Nat × RES))} {P : List MT} {OW : List String} {ν : Nat → Int} {b : Nat} {cy : Nat → ClassId} {pool : va_W} {D : va_G} {A : Nat → Prop} {al0 : List Nat} {M : MT} {own : String} {sc : Bool}
variable {p : Program} {l : Launch} {e : Env} {R : Room} {s : State} {m : MethodId} {args : Array Value} {below : List Frame} {meth : Method} {c : Code} {Q : State → Prop}
/-- a method's contract out of its walk from the entry -/
theorem met_of {M' : MT} {as : List AV} {vs : List Value} {E : EV} {C : List AC} {ws : va_W} {outs : List OUT} (sz : Nat) (hM : MOK M') (hT : TOK OW M') (ho : OW[mO M']? = some (mY M').cls) (hg : gvs ν (alw ws) b as vs) (hE : genv ν E) (hW : gW ν b cy C ws) (hl : e_cats as ≤ mL M')
    (walk : ∀ (p : Program) (e : Env) (s : State) (m : MethodId) (args : Array Value) (below : List Frame) (meth : Method) (c : Code) (A : Nat → Prop) (Q : State → Prop), Ctx OW D cy ν b M' (mY M').cls p (mRm M') s m args meth c A false → RetOK D cy ν b pool (alw ws) M' p l e (mRm M') s m args below meth c A Q outs → Safe D cy ν b pool (alw ws) M' p l e (mRm M') s m args below meth c A Q (0, e_args 0 as, [], E, C, 0, 0)) :
    Met l (mY M') (mW M') (mRm M') (PJ D cy pool ws vs sz) (QJ D cy ν b pool (alw ws) outs (va_A (pool ++ ws) sz) (mR M')) (mNc M') (mNs M') (va_A (pool ++ ws) sz) := by
  obtain ⟨m1, m2, m3, m4, m5, m6, m7, m8, m9⟩ := hM
  refine va_MetF (cc := mC M') (maxL := mL M') (ret := mR M') m1 rfl ?_
  intro p e s m args below meth c s₁ B hml hv
  obtain ⟨rfl, hsz, hP, hK, hD0⟩ := hv
  have hx := B.exec
  have hb := B.bytes
  have hr := B.returns
  have hts := atoms_spec (ws := mW M') B.pre
  have hown : s.vm.findClass (mY M').cls = some m.cls := findClass_of_methodNamed B.named
  have hlocks := B.notSynchronized
  have hname := (name_of_methodNamed B.named B.method).1
  subst hsz
  have hD := hD0.self (sz := s.heap.size)
  generalize hAe : va_A (pool ++ ws) s.heap.size = A at hD ⊢
  have hA : ∀ q : Nat, s.heap.size ≤ q → A q := fun q h => by rw [← hAe]; exact Or.inr h
  have hS : va_S A s.heap s.heap [] := va_S.rf
  have hlen : (lg_sl vs).length ≤ mL M' := by rw [lg_len, cats_ok hg]; exact hl
  have hlv := lv_entry vs (n := mL M') hlen
  rw [lg_entry_eq]
  generalize (lg_sl vs ++ List.replicate (mL M' - (lg_sl vs).length) Slot.unset).toArray = ls at hlv ⊢
  have X : Ctx OW D cy ν b M' (mY M').cls p (mRm M') s m vs.toArray meth c A false := ⟨hx, hb, hml, ho, hown, fun w hw => hts w (List.mem_cons_of_mem _ hw), hK, hA, fun h => hname.trans (m8 h).1, rfl, hT, fun h => by cases h⟩
  refine walk p e s m vs.toArray below meth c A _ X ?_ s.heap [] ls (lv_args 0 vs) [] ws hlv (e_args_ok 0 hg) trivial hE ⟨hW, hP, hD, hS⟩ ⟨[], by simp⟩
  intro o ho9 ins pc H locs ls' ws' v hd hv9 hE' hW' hal
  obtain ⟨w1, w2, w3, w4⟩ := hW'
  have po : PO cy ν b (alw ws) outs (ws', o) := ⟨ho9, hE', w1, hal⟩
  rcases hv9 with ⟨rfl, a, x, ty, e1, rfl, g1, e2, e3, e4⟩ | ⟨rfl, a, x, e1, rfl, g1, e2⟩ | ⟨rfl, e1, rfl, e2⟩
  · have hq : QJ D cy ν b pool (alw ws) outs A (mR M') = va_Qi (fun (r : Int32) (u : va_W × OUT) => PO cy ν b (alw ws) outs u ∧ ∃ a, u.2.1 = some a ∧ gv ν (alw u.1) b a (.int r)) (BO D pool A) A := by
      rw [e2]
      rcases e3 with rfl | rfl <;> rfl
    rw [hq]
    rw [e2] at hr
    exact W.zret hx hb hr e4 (fun t ht hW9 => ⟨⟨x, (ws', o), rfl, ⟨po, a, e1, g1⟩, by rw [BO, ht]; exact ⟨w2, w3⟩⟩, w4.F ht⟩) w4.2.2 hd
  · have hq : QJ D cy ν b pool (alw ws) outs A (mR M') = va_Ql (fun (r : Int64) (u : va_W × OUT) => PO cy ν b (alw ws) outs u ∧ ∃ a, u.2.1 = some a ∧ gv ν (alw u.1) b a (.long r)) (BO D pool A) A := by
      rw [e2]; rfl
    rw [hq]
    rw [e2] at hr
    exact W.lret hx hb hr (fun t ht hW9 => ⟨⟨x, (ws', o), rfl, ⟨po, a, e1, g1⟩, by rw [BO, ht]; exact ⟨w2, w3⟩⟩, w4.F ht⟩) w4.2.2 hd
  · have hq : QJ D cy ν b pool (alw ws) outs A (mR M') = va_Qv (fun u : va_W × OUT => PO cy ν b (alw ws) outs u ∧ u.2.1 = none) (BO D pool A) A := by
      rw [e2]; rfl
    rw [hq]
    rw [e2] at hr
    exact W.vret hx hb hr (fun t ht hW9 => ⟨⟨(ws', o), rfl, ⟨po, e1⟩, by rw [BO, ht]; exact ⟨w2, w3⟩⟩, w4.F ht⟩) w4.2.2 hd
theorem e_take_ok {al : List Nat} : ∀ (n : Nat) {st acc as rest : List AV} {vs vacc : List Value}, e_take n st acc = some (as, rest) → gvs ν al b st vs → gvs ν al b acc vacc → ∃ vas vr, vs = vas ++ vr ∧ vas.length = n ∧ gvs ν al b as (vas.reverse ++ vacc) ∧ gvs ν al b rest vr := by
  intro n
  induction n with
  | zero =>
    intro st acc as rest vs vacc h h1 h2
    simp only [e_take] at h
    cases h
    exact ⟨[], vs, rfl, rfl, h2, h1⟩
  | succ n ih =>
    intro st acc as rest vs vacc h h1 h2
    unfold e_take at h
    cases st with
    | nil => cases h
    | cons a r =>
      simp only at h
      obtain ⟨v, vs', rfl, g1, g2⟩ := gvs_cons h1
      obtain ⟨vas, vr, rfl, e2, g3, g4⟩ := ih h g2 (show gvs ν al b (a :: acc) (v :: vacc) from ⟨g1, h2⟩)
      refine ⟨v :: vas, vr, rfl, by simp [e2], ?_, g4⟩
      simpa using g3
theorem mW_good {M' : MT} (hM : MOK M') : GoodIn BIG (mW M') := by
  intro w hw
  rcases List.mem_cons.mp hw with rfl | hw
  · exact ⟨hM.2.1, good_of_word (big_good _ hM.2.1)⟩
  · exact ⟨hw, good_of_word (big_good _ hw)⟩
theorem pj_blind {ws : va_W} {vs : List Value} {sz : Nat} : FrameBlind (PJ D cy pool ws vs sz) := fun a U g mk q => by
  obtain ⟨q0, q1, qP, qK, qD⟩ := q
  exact ⟨q0, q1, qP, qK.calling, qD⟩
/-- behind a call that has run -/
theorem s_after {M' : MT} {H : Heap} {locs : List Loc} {ls : Array Slot} {lv : List (Nat × Value)} {pc nc ns : Nat} {lo : List (Nat × AV)} {rest : List AV} {E : EV} {C : List AC} {vr : List Value} {ws : va_W} {st0 : List Value} {a0 : Array Value} {outs : List OUT} (X : Ctx OW D cy ν b M own p R s m args meth c A sc) (hr9 : mR M' = none ∨ mR M' = some .int ∨ mR M' = some .boolean ∨ mR M' = some .long)
    (run : va_Run p l e R s m args below meth c H locs nc ns (mNc M') (mNs M') (F0 m pc ls st0) vr (QJ D cy ν b pool (alw ws) outs (va_A (pool ++ ws) H.size) (mR M') a0) (va_A (pool ++ ws) H.size))
    (a1 : lv_has ls (mL M) lv) (a2 : glv ν (alw ws) b lo lv) (g4 : gvs ν (alw ws) b rest vr) (a5 : Wd D cy A s.heap pool ν b C ws H locs) (a6 : ∃ more, alw ws = al0 ++ more)
    (k : ∀ o ∈ outs, Safe D cy ν b pool al0 M p l e R s m args below meth c A Q (e_aft M' (pc + 3, lo, rest, E, C, nc + mNc M', ns + mNs M') o)) : W p l e R s m args below meth c H locs nc ns Q (F0 m pc ls st0) := by
  obtain ⟨x1, x2, x3, x4, x5, x6, x7, x8, x9, x10, x11, x12⟩ := X
  obtain ⟨w1, w2, w3, w4⟩ := a5
  have hF : ∀ q, va_A (pool ++ ws) H.size q → A q := by
    intro q hq
    rcases hq with ⟨kq, eq, h1⟩ | h1
    · exact w3.2 _ _ h1
    · exact x8 q (Nat.le_trans w4.1 h1)
  have fin : ∀ (u : va_W × OUT) (t : State) (H1 : Heap) (locs1 : List Loc), t.heap = H1 → PO cy ν b (alw ws) outs u → BO D pool (va_A (pool ++ ws) H.size) u t → va_S A s.heap H1 locs1 → Wd D cy A s.heap pool ν b u.2.2.2 u.1 H1 locs1 ∧ glv ν (alw u.1) b lo lv ∧ gvs ν (alw u.1) b rest vr ∧ ∃ more, alw u.1 = al0 ++ more := by
    intro u t H1 locs1 ht hpo hbo hS
    obtain ⟨p1, p2, p3, more, p4⟩ := hpo
    refine ⟨⟨p3, by rw [← ht]; exact hbo.1, hbo.2.weaken (fun _ _ _ hq => hF _ hq), hS⟩, by rw [p4]; exact glv_app _ a2, by rw [p4]; exact gvs_app _ g4, ?_⟩
    obtain ⟨more0, e0⟩ := a6
    exact ⟨more0 ++ more, by rw [p4, e0, List.append_assoc]⟩
  rcases hr9 with e9 | e9 | e9 | e9
  · rw [e9] at run
    refine va_callv (a := a0) run w4 (fun q _ hq => hF q hq) hF (fun u t H1 locs1 ht hvm hw hB hz hk hS => ?_)
    obtain ⟨f1, f2, f3, f4⟩ := fin u t H1 locs1 ht hw.1 hB hS
    have := k u.2 hw.1.1
    obtain ⟨uw, r, Eo, Co⟩ := u
    have hn : r = none := hw.2
    subst hn
    exact this H1 locs1 ls lv vr uw a1 f2 f3 hw.1.2.1 f1 f4
  · rw [e9] at run
    refine va_calli (a := a0) run w4 (fun q _ hq => hF q hq) hF (fun r u t H1 locs1 ht hvm hw hB hz hk hS => ?_)
    obtain ⟨f1, f2, f3, f4⟩ := fin u t H1 locs1 ht hw.1 hB hS
    have := k u.2 hw.1.1
    obtain ⟨uw, r', Eo, Co⟩ := u
    obtain ⟨a, ha, ga⟩ := hw.2
    have ha : r' = some a := ha
    subst ha
    exact this H1 locs1 ls lv (.int r :: vr) uw a1 f2 ⟨ga, f3⟩ hw.1.2.1 f1 f4
  · rw [e9] at run
    refine va_calli (a := a0) run w4 (fun q _ hq => hF q hq) hF (fun r u t H1 locs1 ht hvm hw hB hz hk hS => ?_)
    obtain ⟨f1, f2, f3, f4⟩ := fin u t H1 locs1 ht hw.1 hB hS
    have := k u.2 hw.1.1
    obtain ⟨uw, r', Eo, Co⟩ := u
    obtain ⟨a, ha, ga⟩ := hw.2
    have ha : r' = some a := ha
    subst ha
    exact this H1 locs1 ls lv (.int r :: vr) uw a1 f2 ⟨ga, f3⟩ hw.1.2.1 f1 f4
  · rw [e9] at run
    refine va_calll (a := a0) run w4 (fun q _ hq => hF q hq) hF (fun r u t H1 locs1 ht hvm hw hB hz hk hS => ?_)
    obtain ⟨f1, f2, f3, f4⟩ := fin u t H1 locs1 ht hw.1 hB hS
    have := k u.2 hw.1.1
    obtain ⟨uw, r', Eo, Co⟩ := u
    obtain ⟨a, ha, ga⟩ := hw.2
    have ha : r' = some a := ha
    subst ha
    exact this H1 locs1 ls lv (.long r :: vr) uw a1 f2 ⟨ga, f3⟩ hw.1.2.1 f1 f4
end CALL
end
section
section SOUND
variable {RT : List (List (Nat × RES))} {P : List MT} {OW : List String} {ν : Nat → Int} {b : Nat} {cy : Nat → ClassId} {pool : va_W} {D : va_G} {l : Launch} {cuts : List ST}
/-- a call: its words, its run, what is behind it -/
theorem s_call {p : Program} {e : Env} {R : Room} {s : State} {m : MethodId} {args : Array Value} {below : List Frame} {meth : Method} {c : Code} {Q : State → Prop} {A : Nat → Prop} {al0 : List Nat} {M M' : MT} {own : String} {sc : Bool} {S S' : ST} {ins : Instr} {len j : Nat} {as : List AV} {outs : List OUT}
    (hP : POK P RT OW) (X : Ctx OW D cy ν b M own p R s m args meth c A sc) (h : e_call P RT M S ins len = some (M', j, as, S')) (hd : decode (mC M) S.1 = .ok (ins, len))
    (walk : ∀ (al1 : List Nat) (p : Program) (e : Env) (s : State) (m : MethodId) (args : Array Value) (below : List Frame) (meth : Method) (c : Code) (A : Nat → Prop) (Q : State → Prop), Ctx OW D cy ν b M' (mY M').cls p (mRm M') s m args meth c A false → RetOK D cy ν b pool al1 M' p l e (mRm M') s m args below meth c A Q outs → Safe D cy ν b pool al1 M' p l e (mRm M') s m args below meth c A Q (0, e_args 0 as, [], S.2.2.2.1, S.2.2.2.2.1, 0, 0))
    (k : ∀ o ∈ outs, Safe D cy ν b pool al0 M p l e R s m args below meth c A Q (e_aft M' S' o)) : Safe D cy ν b pool al0 M p l e R s m args below meth c A Q S := by
  obtain ⟨pc, lo, st, E, C, nc, ns⟩ := S
  intro H locs ls lv vs ws a1 a2 a3 a4 a5 a6
  unfold e_call at h
  simp only at h a2 a3 a4 a5 hd walk ⊢
  split at h
  · rename_i kd i hki
    split at h
    · rename_i rk j0 z1 z2 hr
      split at h
      · rename_i M0 hj
        split at h
        · rename_i as0 rest0 htk
          split at h
          · rename_i as1 rest1 hrec
            split at h
            · rename_i q
              simp only [Bool.and_eq_true, Bool.or_eq_true] at q
              obtain ⟨q1, q2, q3, q4, q5, q6, q7, q8, q9⟩ := q
              have q2 := beq3 q2
              have q3 := beq3 q3
              have q4 := Nat.le_of_ble_eq_true q4
              have q5 := Nat.le_of_ble_eq_true q5
              have q6 := Nat.le_of_ble_eq_true q6
              have q7 := Nat.le_of_ble_eq_true q7
              have q8 := Nat.le_of_ble_eq_true q8
              have q9 := Nat.le_of_ble_eq_true q9
              cases h
              subst q3
              obtain ⟨mok, tok, ow⟩ := hP.1 _ _ hj
              have hro := e_res_ok hP X.2.2.2.1 hr
              obtain ⟨vas, vr0, rfl, hlen, g1, g2⟩ := e_take_ok _ htk a3 (show gvs ν (alw ws) b [] [] from trivial)
              rw [List.append_nil] at g1
              have hRm : R = mRm M := X.2.2.2.2.2.2.2.2.2.1
              have hx3 := X.2.2.1
              -- the words of the call
              have cb : ∀ w, w ∈ BIG → w.before args s = true := X.2.2.2.2.2.1
              have hd5 : ∀ sig, parseMethodDescriptor (mY M').desc = some sig → mA M' = sig.parameters.length := by
                intro sig hs
                have h2 := mok.2.2.2.2.1
                rw [hs] at h2
                exact (Option.some.inj h2).symm
              have fix : CallFix p m c (mC M) (mL M) s args BIG own := ⟨X.1, X.2.1, X.2.2.1, X.2.2.2.2.1, cb⟩
              have hR : (mRm M').frames + 1 ≤ R.frames ∧ 8 + (mL M' + 11) + (mRm M').locals ≤ R.locals := by rw [hRm]; exact ⟨q5, q6⟩
              have hfin : nc + mNc M' ≤ R.cells ∧ ns + mNs M' ≤ R.slots := by rw [hRm]; exact ⟨q7, q8⟩
              have cB : Cond.methodLink own i (mY M') ∈ BIG → CallB R s args own i (mY M') (mC M') (mL M') (mR M') (mW M') (mRm M') (mNc M') (mNs M') (mA M') := by
                intro hl
                exact callB_of (mA M') cb (mW_good mok) rfl rfl rfl (cb _ mok.2.2.1) (cb _ hl) ⟨mok.2.2.2.1.1, mok.2.2.2.1.2, mok.2.2.2.2.1⟩ hR
              have cN : ∀ host, Cond.methodLinkNest own i (mY M') host ∈ NST → va_CN R s args own i (mY M') host (mC M') (mL M') (mR M') (mW M') (mRm M') (mNc M') (mNs M') (mA M') := by
                intro host hl
                exact va_cnB (mA M') cb (mW_good mok) rfl rfl rfl (X.2.2.2.2.2.2.1.2.1 _ hl) (cb _ mok.2.2.1) ⟨mok.2.2.2.1.1, mok.2.2.2.1.2, mok.2.2.2.2.1⟩ hR
              have hlk : (Cond.methodLink own i (mY M') ∈ BIG) ∨ ∃ host, Cond.methodLinkNest own i (mY M') host ∈ NST := by
                rcases q1 with q1 | q1
                · have q1 := beq3 q1
                  subst q1
                  obtain ⟨M1, h1, h2⟩ := hro
                  rw [hj] at h1
                  cases h1
                  exact Or.inl h2
                · have q1 := beq3 q1
                  subst q1
                  obtain ⟨M1, host, h1, h2⟩ := hro
                  rw [hj] at h1
                  cases h1
                  exact Or.inr ⟨host, h2⟩
              have pre : ∀ (vals : List Value) (U : State), U.heap = H → s.WarmedH U.vm → PJ D cy pool ws vals H.size vals.toArray U := fun vals U hU hW => ⟨rfl, by rw [hU], by rw [hU]; exact a5.2.1, KK.warm hW X.2.2.2.2.2.2.1, a5.2.2.1.weaken (fun _ _ _ _ => trivial)⟩
              have hret9 := mok.2.2.2.2.2.2.2.2
              split at hki
              · -- static
                cases hki
                rw [if_pos (show Nat.beq 0 0 = true from rfl)] at hrec
                cases hrec
                have met := met_of (D := D) (pool := pool) (l := l) H.size mok tok ow g1 a4 a5.1 q9 (fun p e s m args below meth c A Q => walk (alw ws) p e s m args below meth c A Q)
                have hstk : (F0 m pc ls (vas ++ vr0)).stack = (vas.reverse).reverse ++ vr0 := by rw [List.reverse_reverse]
                have hW9 := lv_room (m := m) (pc := pc) (ls := ls) (rest := vas ++ vr0) (st := vr0) (by rw [cats_ok g2]; exact q4)
                have hst := mok.2.2.2.2.2.1 q2
                rcases hlk with hl | ⟨host, hl⟩
                · exact s_after X hret9 (va_runS fix met ⟨cB hl, cb _ hst⟩ ⟨pj_blind, fun U hU hW => pre _ U hU hW⟩ rfl (by rw [List.length_reverse]; exact hlen) a1.1 hstk hW9 hd hfin) a1 a2 g2 a5 a6 k
                · exact s_after X hret9 (va_runSN fix met ⟨cN host hl, cb _ hst, trivial⟩ ⟨pj_blind, fun U hU hW => pre _ U hU hW⟩ rfl (by rw [List.length_reverse]; exact hlen) a1.1 hstk hW9 hd hfin) a1 a2 g2 a5 a6 k
              · -- of an object
                cases hki
                rw [if_neg (by decide)] at hrec
                split at hrec
                · rename_i n rest2
                  split at hrec
                  · rename_i ci fs hci
                    split at hrec
                    · rename_i hci2
                      have hci2 := beq3 hci2
                      cases hrec
                      obtain ⟨v, vr, rfl, g3, g4⟩ := gvs_cons g2
                      obtain ⟨qa, gq, rfl⟩ := g3
                      have g5 : gvs ν (alw ws) b (aR n :: as0) (.ref qa :: vas.reverse) := ⟨⟨qa, gq, rfl⟩, g1⟩
                      have met := met_of (D := D) (pool := pool) (l := l) H.size mok tok ow g5 a4 a5.1 q9 (fun p e s m args below meth c A Q => walk (alw ws) p e s m args below meth c A Q)
                      have hstk : (F0 m pc ls (vas ++ .ref qa :: vr)).stack = (vas.reverse).reverse ++ .ref qa :: vr := by rw [List.reverse_reverse]
                      have hW9 := lv_room (m := m) (pc := pc) (ls := ls) (rest := vas ++ .ref qa :: vr) (st := vr) (by rw [cats_ok g4]; exact q4)
                      obtain ⟨i1, i2, r, r1, r2⟩ := mok.2.2.2.2.2.2.1 q2
                      obtain ⟨q', e', h1, h2, fvs, rfl, h3⟩ := gW_at a5.1 hci
                      rw [gq] at h2
                      cases h2
                      rw [← hci2] at r1
                      have hrecv := va_recv X.2.2.2.2.2.2.1.1 a5.2.1 r1 (pw_at h1)
                      rw [r2] at hrecv
                      rcases hlk with hl | ⟨host, hl⟩
                      · exact s_after X hret9 (va_runV (C := (mY M').cls) fix met ⟨cB hl, cb _ i1, cb _ i2⟩ ⟨pj_blind, hrecv, fun U hU hW => pre _ U hU hW⟩ rfl (by rw [List.length_reverse]; exact hlen) a1.1 hstk hW9 hd hfin) a1 a2 g4 a5 a6 k
                      · exact s_after X hret9 (va_runVN (C := (mY M').cls) fix met ⟨cN host hl, cb _ i1, cb _ i2⟩ ⟨pj_blind, hrecv, fun U hU hW => pre _ U hU hW⟩ rfl (by rw [List.length_reverse]; exact hlen) a1.1 hstk hW9 hd hfin) a1 a2 g4 a5 a6 k
                    · cases hrec
                  · cases hrec
                · cases hrec
              · -- a maker
                cases hki
                rw [if_neg (by decide)] at hrec
                split at hrec
                · rename_i n rest2
                  split at hrec
                  · rename_i ci fs hci
                    split at hrec
                    · cases hrec
                      obtain ⟨v, vr, rfl, g3, g4⟩ := gvs_cons g2
                      obtain ⟨qa, gq, rfl⟩ := g3
                      have g5 : gvs ν (alw ws) b (aR n :: as0) (.ref qa :: vas.reverse) := ⟨⟨qa, gq, rfl⟩, g1⟩
                      have met := met_of (D := D) (pool := pool) (l := l) H.size mok tok ow g5 a4 a5.1 q9 (fun p e s m args below meth c A Q => walk (alw ws) p e s m args below meth c A Q)
                      have hstk : (F0 m pc ls (vas ++ .ref qa :: vr)).stack = (vas.reverse).reverse ++ .ref qa :: vr := by rw [List.reverse_reverse]
                      have hW9 := lv_room (m := m) (pc := pc) (ls := ls) (rest := vas ++ .ref qa :: vr) (st := vr) (by rw [cats_ok g4]; exact q4)
                      obtain ⟨i1, i2, i3⟩ := mok.2.2.2.2.2.2.2.1 q2
                      rcases hlk with hl | ⟨host, hl⟩
                      · have cB' := cB hl
                        rw [i3] at cB'
                        exact s_after X hret9 (va_runI fix met ⟨cB', i1, cb _ i2⟩ ⟨pj_blind, fun U hU hW => pre _ U hU hW⟩ rfl (by rw [List.length_reverse]; exact hlen) a1.1 hstk hW9 hd hfin) a1 a2 g4 a5 a6 k
                      · have cN' := cN host hl
                        rw [i3] at cN'
                        exact s_after X hret9 (va_runIN fix met ⟨cN', i1, cb _ i2⟩ ⟨pj_blind, fun U hU hW => pre _ U hU hW⟩ rfl (by rw [List.length_reverse]; exact hlen) a1.1 hstk hW9 hd hfin) a1 a2 g4 a5 a6 k
                    · cases hrec
                  · cases hrec
                · cases hrec
              · cases hki
            · cases h
          · cases h
        · cases h
      · cases h
    · cases h
  · cases h
end SOUND
end
section
section MAIN
variable {RT : List (List (Nat × RES))} {P : List MT} {OW : List String} {ν : Nat → Int} {b : Nat} {cy : Nat → ClassId} {pool : va_W} {D : va_G} {l : Launch} {cuts : List ST}
theorem s_ret {p : Program} {e : Env} {R : Room} {s : State} {m : MethodId} {args : Array Value} {below : List Frame} {meth : Method} {c : Code} {Q : State → Prop} {A : Nat → Prop} {al0 : List Nat} {M : MT} {S : ST} {ins : Instr} {len : Nat} {r : Option AV} {outs : List OUT}
    (h : e_ret M S ins len = some r) (hd : decode (mC M) S.1 = .ok (ins, len)) (ho : (r, S.2.2.2.1, S.2.2.2.2.1) ∈ outs) (hR : RetOK D cy ν b pool al0 M p l e R s m args below meth c A Q outs) : Safe D cy ν b pool al0 M p l e R s m args below meth c A Q S := by
  obtain ⟨pc, lo, st, E, C, nc, ns⟩ := S
  intro H locs ls lv vs ws a1 a2 a3 a4 a5 a6
  unfold e_ret at h
  simp only at h a2 a3 a4 a5 hd ho ⊢
  split at h
  · rename_i q
    simp only [Bool.and_eq_true] at q
    have q3 := beq3 q.2.2
    subst q3
    refine W.widen (k := mNc M) (n := mNs M) (Nat.le_of_ble_eq_true q.1) (Nat.le_of_ble_eq_true q.2.1) ?_
    split at h
    · rename_i a hr
      split at h
      · rename_i q1 hq1
        cases h
        obtain ⟨v, vs1, rfl, g1, g2⟩ := gvs_cons a3
        rw [gvs_nil g2]
        obtain ⟨x, rfl, -⟩ := gv_int a4 g1 hq1
        exact hR _ ho _ pc H locs ls ws (some (.int x)) hd (Or.inl ⟨rfl, a, x, .int, rfl, rfl, g1, hr, Or.inl rfl, rfl⟩) a4 a5 a6
      · cases h
    · rename_i a hr
      split at h
      · rename_i lo9 hi9 hq1
        split at h
        · rename_i q2
          simp only [Bool.and_eq_true, decide_eq_true_eq] at q2
          cases h
          obtain ⟨v, vs1, rfl, g1, g2⟩ := gvs_cons a3
          rw [gvs_nil g2]
          obtain ⟨x, rfl, y1, y2⟩ := gv_int a4 g1 hq1
          refine hR _ ho _ pc H locs ls ws (some (.int x)) hd (Or.inl ⟨rfl, a, x, .boolean, rfl, rfl, g1, hr, Or.inr rfl, ?_⟩) a4 a5 a6
          rcases en_b01 (x := x) (by omega) (by omega) with rfl | rfl <;> decide
        · cases h
      · cases h
    · rename_i a hr
      split at h
      · rename_i q1
        cases h
        obtain ⟨v, vs1, rfl, g1, g2⟩ := gvs_cons a3
        rw [gvs_nil g2]
        obtain ⟨x, rfl⟩ := gv_isL g1 q1
        exact hR _ ho _ pc H locs ls ws (some (.long x)) hd (Or.inr (Or.inl ⟨rfl, a, x, rfl, rfl, g1, hr⟩)) a4 a5 a6
      · cases h
    · rename_i hr
      cases h
      rw [gvs_nil a3]
      exact hR _ ho _ pc H locs ls ws none hd (Or.inr (Or.inr ⟨rfl, rfl, rfl, hr⟩)) a4 a5 a6
    · cases h
  · cases h
theorem e_sound (hP : POK P RT OW) : ∀ (fuel : Nat) (tp sc : Bool) (M : MT) (suf : List INS) (S : ST) (outs : List OUT), e_run P RT cuts fuel tp sc M suf S = some outs → (∀ q ∈ suf, decode (mC M) q.1 = .ok (q.2.2.1, q.2.2.2)) →
    ∀ (al0 : List Nat) (own : String) (p : Program) (e : Env) (R : Room) (s : State) (m : MethodId) (args : Array Value) (below : List Frame) (meth : Method) (c : Code) (A : Nat → Prop) (Q : State → Prop), Ctx OW D cy ν b M own p R s m args meth c A sc → RetOK D cy ν b pool al0 M p l e R s m args below meth c A Q outs →
      (tp = true → ∀ S' ∈ cuts, Safe D cy ν b pool al0 M p l e R s m args below meth c A Q S') →
      Safe D cy ν b pool al0 M p l e R s m args below meth c A Q S := by
  intro fuel
  induction fuel with
  | zero => intro tp sc M suf S outs h; cases h
  | succ fuel ih =>
    intro tp sc M suf S outs h hsuf al0 own p e R s m args below meth c A Q X hR hcut
    cases suf with
    | nil => simp only [e_run] at h; cases h
    | cons q tl =>
      obtain ⟨pc, tag, ins, len⟩ := q
      simp only [e_run] at h
      split at h
      · rename_i hpc
        have hpc := beq3 hpc
        have h0 : decode (mC M) pc = .ok (ins, len) := hsuf (pc, tag, ins, len) List.mem_cons_self
        have hd : decode (mC M) S.1 = .ok (ins, len) := by rw [hpc] at h0; exact h0
        have hM : ∀ q ∈ mT M, decode (mC M) q.1 = .ok (q.2.2.1, q.2.2.2) := X.2.2.2.2.2.2.2.2.2.2.1.1
        have htl : ∀ q ∈ tl, decode (mC M) q.1 = .ok (q.2.2.1, q.2.2.2) := fun q hq => hsuf q (List.mem_cons_of_mem _ hq)
        have go : ∀ S' outs', e_run P RT cuts fuel tp sc M (e_next M tl S'.1) S' = some outs' → (∀ o ∈ outs', o ∈ outs) → Safe D cy ν b pool al0 M p l e R s m args below meth c A Q S' := by
          intro S' outs' h1 h2
          exact ih tp sc M _ S' outs' h1 (e_next_in hM htl) al0 own p e R s m args below meth c A Q X (fun o ho => hR o (h2 o ho)) hcut
        split at h
        · split at h
          · rename_i S' h1
            exact s_simple X h1 hd (go S' outs h (fun _ h => h))
          · cases h
        · split at h
          · rename_i x h1
            refine s_branch X h1 hd (fun S' hS' => ?_)
            obtain ⟨o1, h2, h3⟩ := e_cat_ok h S' hS'
            exact go S' o1 h2 h3
          · cases h
        · split at h
          · rename_i S' h1
            exact s_hstep hP X h1 hd (go S' outs h (fun _ h => h))
          · cases h
        · split at h
          · rename_i x h1
            refine s_astep X h1 hd (fun S' hS' => ?_)
            obtain ⟨o1, h2, h3⟩ := e_cat_ok h S' hS'
            exact go S' o1 h2 h3
          · cases h
        · split at h
          · rename_i M' j as S' h1
            split at h
            · rename_i outs2 h2
              refine s_call hP X h1 hd (outs := outs2) (fun al1 p' e' s' m' args' below' meth' c' A' Q' X' hR' => ?_) (fun o ho => ?_)
              · exact ih false false M' (mT M') _ outs2 h2 X'.2.2.2.2.2.2.2.2.2.2.1.1 al1 _ p' e' _ s' m' args' below' meth' c' A' Q' X' hR' (fun h => by cases h)
              · obtain ⟨o1, h3, h4⟩ := e_cat_ok h _ (List.mem_map.mpr ⟨o, ho, rfl⟩)
                exact go _ o1 h3 h4
            · cases h
          · cases h
        · split at h
          · rename_i r h1
            cases h
            exact s_ret h1 hd List.mem_cons_self hR
          · cases h
        · split at h
          · rename_i hq
            simp only [Bool.and_eq_true] at hq
            obtain ⟨S2, m2, h2⟩ := e_any_ok hq.2
            exact safe_le h2 (hcut hq.1 S2 m2)
          · cases h
      · cases h
end MAIN
end
section
/-! the second engine: ints are known or have names, cells are told by kinds, facts of cells beside them -/
/-- an int that is known; a named number and a constant; a long between two numbers; null or a reference to a cell of a kind (not null; its name); what lies outside (0 the script, 1 what is being made, 2 .. rows and texts) -/
abbrev BV : Type := Int ⊕ ((Nat × Int) ⊕ ((Int × Int) ⊕ ((Option (Nat × Bool × Option Nat)) ⊕ Nat)))
/-- what the named numbers lie between -/
abbrev EB : Type := List (Nat × Int × Int)
abbrev bI (n : Int) : BV := .inl n
abbrev bV (k : Nat) (c : Int) : BV := .inr (.inl (k, c))
abbrev bL (lo hi : Int) : BV := .inr (.inr (.inl (lo, hi)))
abbrev bN : BV := .inr (.inr (.inr (.inl none)))
abbrev bP (κ : Nat) (nn : Bool) (nm : Option Nat) : BV := .inr (.inr (.inr (.inl (some (κ, nn, nm)))))
abbrev bX (j : Nat) : BV := .inr (.inr (.inr (.inr j)))
abbrev iMin : Int := -2147483648
abbrev iMax : Int := 2147483647
abbrev lMin : Int := -9223372036854775808
abbrev lMax : Int := 9223372036854775807
def f_lk (E : EB) (k : Nat) : Option (Int × Int) := match E with
  | [] => none
  | (j, q) :: r => if Nat.beq j k = true then some q else f_lk r k
def f_iv (E : EB) (a : BV) : Option (Int × Int) := match a with
  | .inl n => some (n, n)
  | .inr (.inl (k, c)) => (match f_lk E k with | some (lo, hi) => some (lo + c, hi + c) | none => none)
  | .inr (.inr _) => none
/-- a reckoned int: one that is known or named, or between two numbers -/
abbrev RB : Type := BV ⊕ (Int × Int)
def f_mk (lo hi : Int) : RB := if (decide (iMin ≤ lo) && decide (hi ≤ iMax)) = true then (if decide (lo = hi) = true then .inl (bI lo) else .inr (lo, hi)) else .inr (iMin, iMax)
abbrev f_top : RB := .inr (iMin, iMax)
def f_isI (a : BV) : Bool := match a with
  | .inl _ => true
  | .inr (.inl _) => true
  | _ => false
def f_isL (a : BV) : Bool := match a with
  | .inr (.inr (.inl _)) => true
  | _ => false
def f_isR (a : BV) : Bool := match a with
  | .inr (.inr (.inr _)) => true
  | _ => false
def f_off (a : BV) (d : Int) : BV := match a with
  | .inl n => .inl (n + d)
  | .inr (.inl (k, c)) => .inr (.inl (k, c + d))
  | x => x
def f_add (E : EB) (a b : BV) : Option RB := match f_iv E a, f_iv E b with
  | some (la, ha), some (lb, hb) =>
    if (decide (iMin ≤ la + lb) && decide (ha + hb ≤ iMax)) = true then
      (if decide (lb = hb) = true then some (.inl (f_off a lb)) else if decide (la = ha) = true then some (.inl (f_off b la)) else some (.inr (la + lb, ha + hb)))
    else some f_top
  | _, _ => none
def f_sub (E : EB) (a b : BV) : Option RB := match f_iv E a, f_iv E b with
  | some (la, ha), some (lb, hb) =>
    if (decide (iMin ≤ la - hb) && decide (ha - lb ≤ iMax)) = true then
      (if decide (lb = hb) = true then some (.inl (f_off a (-lb))) else some (.inr (la - hb, ha - lb)))
    else some f_top
  | _, _ => none
def f_mul (E : EB) (a b : BV) : Option RB := match f_iv E a, f_iv E b with
  | some (la, ha), some (lb, hb) => if (decide (0 ≤ la) && decide (0 ≤ lb)) = true then some (f_mk (la * lb) (ha * hb)) else some f_top
  | _, _ => none
/-- the least number of ones only that is not less -/
def f_ones (h : Int) : Int := if decide (h ≤ 0) = true then 0 else ((2 ^ (Nat.log2 h.toNat + 1) : Nat) : Int) - 1
def f_bit (g : Nat → Nat → Nat) (la ha lb hb : Int) (other : RB) : RB := if (decide (la = ha) && (decide (lb = hb) && (decide (0 ≤ la) && decide (0 ≤ lb)))) = true then .inl (bI ((g la.toNat lb.toNat : Nat) : Int)) else other
def f_and (E : EB) (a b : BV) : Option RB := match f_iv E a, f_iv E b with
  | some (la, ha), some (lb, hb) => some (f_bit (fun x y => x &&& y) la ha lb hb (if decide (0 ≤ lb) = true then (if (decide (0 ≤ la) && decide (ha ≤ hb)) = true then .inr (0, ha) else .inr (0, hb)) else if decide (0 ≤ la) = true then .inr (0, ha) else f_top))
  | _, _ => none
def f_or (E : EB) (a b : BV) : Option RB := match f_iv E a, f_iv E b with
  | some (la, ha), some (lb, hb) => some (f_bit (fun x y => x ||| y) la ha lb hb (if (decide (0 ≤ la) && decide (0 ≤ lb)) = true then .inr (max la lb, f_ones (max ha hb)) else f_top))
  | _, _ => none
def f_xor (E : EB) (a b : BV) : Option RB := match f_iv E a, f_iv E b with
  | some (la, ha), some (lb, hb) => some (f_bit (fun x y => x ^^^ y) la ha lb hb (if (decide (0 ≤ la) && decide (0 ≤ lb)) = true then .inr (0, f_ones (max ha hb)) else f_top))
  | _, _ => none
def f_shl (E : EB) (a b : BV) : Option RB := match f_iv E a, f_iv E b with
  | some (la, ha), some (lb, hb) => if (decide (0 ≤ lb) && (decide (hb < 32) && decide (0 ≤ la))) = true then some (f_mk (la * 2 ^ lb.toNat) (ha * 2 ^ hb.toNat)) else some f_top
  | _, _ => none
def f_shr (E : EB) (a b : BV) : Option RB := match f_iv E a, f_iv E b with
  | some (la, ha), some (lb, hb) => if (decide (0 ≤ lb) && (decide (hb < 32) && decide (0 ≤ la))) = true then some (.inr (0, ha / 2 ^ lb.toNat)) else some f_top
  | _, _ => none
def f_ushr (E : EB) (a b : BV) : Option RB := match f_iv E a, f_iv E b with
  | some _, some (lb, hb) => if (decide (lb = hb) && (decide (0 < lb) && decide (lb < 32))) = true then some (.inr (0, 4294967295 / 2 ^ lb.toNat)) else some f_top
  | _, _ => none
def f_rem (E : EB) (a b : BV) : Option RB := match f_iv E a, f_iv E b with
  | some (la, ha), some (lb, hb) => if decide (0 < lb) = true then (if decide (0 ≤ la) = true then (if decide (ha < lb) = true then some (.inl a) else if (decide (lb = hb) && decide (la / lb = ha / lb)) = true then some (.inr (la % lb, ha % lb)) else some (.inr (0, hb - 1))) else some f_top) else none
  | _, _ => none
def f_div (E : EB) (a b : BV) : Option RB := match f_iv E a, f_iv E b with
  | some (la, ha), some (lb, hb) => if decide (0 < lb) = true then (if decide (0 ≤ la) = true then some (.inr (la / hb, ha / lb)) else some f_top) else none
  | _, _ => none
def f_bin (i : Instr) (E : EB) (a b : BV) : Option RB := match i with
  | .iadd => f_add E a b
  | .isub => f_sub E a b
  | .imul => f_mul E a b
  | .iand => f_and E a b
  | .ior => f_or E a b
  | .ixor => f_xor E a b
  | .ishl => f_shl E a b
  | .ishr => f_shr E a b
  | .iushr => f_ushr E a b
  | .irem => f_rem E a b
  | .idiv => f_div E a b
  | _ => none
/-- longs -/
def f_mkL (lo hi : Int) : RB := if (decide (lMin ≤ lo) && decide (hi ≤ lMax)) = true then .inl (bL lo hi) else .inl (bL lMin lMax)
abbrev f_topL : RB := .inl (bL lMin lMax)
def f_binL (i : Instr) (E : EB) (a b : BV) : Option RB := match a with
  | .inr (.inr (.inl (la, ha))) => (match b with
    | .inr (.inr (.inl (lb, hb))) => (match i with
      | .ladd => some (f_mkL (la + lb) (ha + hb))
      | .land => if (decide (0 ≤ lb)) = true then (if (decide (0 ≤ la) && decide (ha ≤ hb)) = true then some (.inl (bL 0 ha)) else some (.inl (bL 0 hb))) else some f_topL
      | .lor => if (decide (0 ≤ la) && decide (0 ≤ lb)) = true then some (f_mkL 0 (f_ones (max ha hb))) else some f_topL
      | .lcmp => if decide (ha < lb) = true then some (.inl (bI (-1))) else if decide (hb < la) = true then some (.inl (bI 1)) else if (decide (la = ha) && (decide (lb = hb) && decide (la = lb))) = true then some (.inl (bI 0)) else some (.inr (-1, 1))
      | _ => none)
    | _ => (match f_iv E b with
      | some (lb, hb) => (match i with
        | .lshl => if (decide (lb = hb) && (decide (0 ≤ lb) && (decide (lb < 64) && decide (0 ≤ la)))) = true then some (f_mkL (la * 2 ^ lb.toNat) (ha * 2 ^ lb.toNat)) else some f_topL
        | .lshr => if (decide (lb = hb) && (decide (0 ≤ lb) && (decide (lb < 64) && decide (0 ≤ la)))) = true then some (.inl (bL 0 (ha / 2 ^ lb.toNat))) else some f_topL
        | .lushr => some f_topL
        | _ => none)
      | none => none))
  | _ => none
def f_un (i : Instr) (E : EB) (a : BV) : Option RB := match i with
  | .ineg => (match f_iv E a with | some (la, ha) => some (f_mk (-ha) (-la)) | none => none)
  | .i2b => (match f_iv E a with | some (la, ha) => if (decide (-128 ≤ la) && decide (ha ≤ 127)) = true then some (.inl a) else some (.inr (-128, 127)) | none => none)
  | .i2l => (match f_iv E a with | some (la, ha) => some (.inl (bL la ha)) | none => none)
  | .l2i => (match a with | .inr (.inr (.inl (la, ha))) => some (f_mk la ha) | _ => none)
  | _ => none
/-- what was reckoned, with a name if it has none -/
def f_push (r : RB) (n : Nat) (E : EB) : BV × Nat × EB := match r with
  | .inl a => (a, n, E)
  | .inr (lo, hi) => (bV n 0, n + 1, (n, lo, hi) :: E)
/-- the same -/
def on_eq (a b : Option Nat) : Bool := match a with
  | none => (match b with | none => true | some _ => false)
  | some x => (match b with | some y => Nat.beq x y | none => false)
def bv_eq (a b : BV) : Bool := match a with
  | .inl x => (match b with | .inl y => decide (x = y) | _ => false)
  | .inr (.inl (k, c)) => (match b with | .inr (.inl (k', c')) => Nat.beq k k' && decide (c = c') | _ => false)
  | .inr (.inr (.inl (l, h))) => (match b with | .inr (.inr (.inl (l', h'))) => decide (l = l') && decide (h = h') | _ => false)
  | .inr (.inr (.inr (.inl none))) => (match b with | .inr (.inr (.inr (.inl none))) => true | _ => false)
  | .inr (.inr (.inr (.inl (some (κ, nn, nm))))) => (match b with | .inr (.inr (.inr (.inl (some (κ', nn', nm'))))) => Nat.beq κ κ' && ((nn == nn') && on_eq nm nm') | _ => false)
  | .inr (.inr (.inr (.inr j))) => (match b with | .inr (.inr (.inr (.inr j'))) => Nat.beq j j' | _ => false)
def bvs_eq (x y : List BV) : Bool := match x with
  | [] => (match y with | [] => true | _ => false)
  | a :: r => (match y with | b :: t => bv_eq a b && bvs_eq r t | [] => false)
theorem on_eq_ok {a b : Option Nat} (h : on_eq a b = true) : a = b := by
  cases a <;> cases b <;> simp only [on_eq] at h
  · rfl
  · cases h
  · cases h
  · rw [Nat.eq_of_beq_eq_true h]
theorem bv_eq_ok {a b : BV} (h : bv_eq a b = true) : a = b := by
  rcases a with c | ⟨k, c⟩ | ⟨lo, hi⟩ | (_ | ⟨κ, nn, nm⟩) | j <;> rcases b with c' | ⟨k', c'⟩ | ⟨lo', hi'⟩ | (_ | ⟨κ', nn', nm'⟩) | j' <;> simp only [bv_eq] at h <;> try cases h
  · rw [of_decide_eq_true h]
  · simp only [Bool.and_eq_true, decide_eq_true_eq] at h
    rw [Nat.eq_of_beq_eq_true h.1, h.2]
  · simp only [Bool.and_eq_true, decide_eq_true_eq] at h
    rw [h.1, h.2]
  · rfl
  · simp only [Bool.and_eq_true, beq_iff_eq] at h
    rw [Nat.eq_of_beq_eq_true h.1, h.2.1, on_eq_ok h.2.2]
  · rw [Nat.eq_of_beq_eq_true h]
theorem bvs_eq_ok {x y : List BV} (h : bvs_eq x y = true) : x = y := by
  induction x generalizing y with
  | nil => cases y with
    | nil => rfl
    | cons => simp only [bvs_eq] at h; cases h
  | cons a r ih => cases y with
    | nil => simp only [bvs_eq] at h; cases h
    | cons b t =>
      simp only [bvs_eq, Bool.and_eq_true] at h
      rw [bv_eq_ok h.1, ih h.2]
end
section
/-! what they mean -/
/-- the named numbers; which address is of which kind; what lies outside -/
abbrev IN : Type := List Int × List (Nat × Nat) × (Nat → Nat)
/-- what a name of a reference says: which it is, where it is not null; else whether it is (0) or not (1) -/
def hnm (nn : Bool) (v : Value) (y : Int) : Prop := (nn = true ∧ ∃ q : Nat, v = .ref q ∧ y = (q : Int)) ∨ (nn = false ∧ ((v = .null ∧ y = 0) ∨ ((∃ q : Nat, v = .ref q) ∧ y = 1)))
def hv (I : IN) (a : BV) (v : Value) : Prop := match a with
  | .inl n => ∃ x : Int32, v = .int x ∧ x.toInt = n
  | .inr (.inl (k, c)) => ∃ (x : Int32) (y : Int), v = .int x ∧ I.1[k]? = some y ∧ x.toInt = y + c
  | .inr (.inr (.inl (lo, hi))) => ∃ x : Int64, v = .long x ∧ lo ≤ x.toInt ∧ x.toInt ≤ hi
  | .inr (.inr (.inr (.inl none))) => v = .null
  | .inr (.inr (.inr (.inl (some (κ, nn, nm))))) => ((nn = false ∧ v = .null) ∨ ∃ q : Nat, (q, κ) ∈ I.2.1 ∧ v = .ref q) ∧ ∀ k, nm = some k → ∃ y, I.1[k]? = some y ∧ hnm nn v y
  | .inr (.inr (.inr (.inr j))) => v = .ref (I.2.2 j)
def hvs (I : IN) : List BV → List Value → Prop
  | [], [] => True
  | a :: as, v :: vs => hv I a v ∧ hvs I as vs
  | _, _ => False
def hlv (I : IN) : List (Nat × BV) → List (Nat × Value) → Prop
  | [], [] => True
  | a :: as, v :: vs => (a.1 = v.1 ∧ hv I a.2 v.2) ∧ hlv I as vs
  | _, _ => False
def henv (ν : List Int) (n : Nat) (E : EB) : Prop := ν.length = n ∧ ∀ (k : Nat) (q : Int × Int), f_lk E k = some q → ∃ y, ν[k]? = some y ∧ q.1 ≤ y ∧ y ≤ q.2
/-- more names, more addresses -/
def hxt (I J : IN) : Prop := (∃ m1, J.1 = I.1 ++ m1) ∧ (∃ m2, J.2.1 = I.2.1 ++ m2) ∧ J.2.2 = I.2.2
section BREL
variable {I J : IN} {E : EB} {n : Nat}
theorem hxt.rf : hxt I I := ⟨⟨[], by simp⟩, ⟨[], by simp⟩, rfl⟩
theorem hxt.tr {K : IN} (h1 : hxt I J) (h2 : hxt J K) : hxt I K := by
  obtain ⟨⟨a, ha⟩, ⟨b, hb⟩, hc⟩ := h1
  obtain ⟨⟨a', ha'⟩, ⟨b', hb'⟩, hc'⟩ := h2
  exact ⟨⟨a ++ a', by rw [ha', ha, List.append_assoc]⟩, ⟨b ++ b', by rw [hb', hb, List.append_assoc]⟩, by rw [hc', hc]⟩
theorem hxt.at {k : Nat} {y : Int} (h : hxt I J) (hk : I.1[k]? = some y) : J.1[k]? = some y := by
  obtain ⟨⟨m1, h1⟩, -, -⟩ := h
  have hlt := (List.getElem?_eq_some_iff.mp hk).1
  rw [h1, List.getElem?_append_left hlt]; exact hk
theorem hxt.mem {q : Nat × Nat} (h : hxt I J) (hk : q ∈ I.2.1) : q ∈ J.2.1 := by
  obtain ⟨-, ⟨m2, h2⟩, -⟩ := h
  rw [h2]; exact List.mem_append_left _ hk
theorem hv.xt {a : BV} {v : Value} (h : hxt I J) (hv0 : hv I a v) : hv J a v := by
  rcases a with c | ⟨k, c⟩ | ⟨lo, hi⟩ | (_ | ⟨κ, nn, nm⟩) | j
  · exact hv0
  · obtain ⟨x, y, h1, h2, h3⟩ := hv0
    exact ⟨x, y, h1, h.at h2, h3⟩
  · exact hv0
  · exact hv0
  · obtain ⟨h1, h2⟩ := hv0
    refine ⟨?_, fun k hk => ?_⟩
    · rcases h1 with h1 | ⟨q, h1, h3⟩
      · exact Or.inl h1
      · exact Or.inr ⟨q, h.mem h1, h3⟩
    · obtain ⟨y, h3, h4⟩ := h2 k hk
      exact ⟨y, h.at h3, h4⟩
  · show v = .ref (J.2.2 j)
    rw [h.2.2]; exact hv0
theorem hvs.xt {as : List BV} {vs : List Value} (h : hxt I J) (h0 : hvs I as vs) : hvs J as vs := by
  induction as generalizing vs with
  | nil => cases vs with
    | nil => trivial
    | cons => exact h0
  | cons a as ih => cases vs with
    | nil => exact h0
    | cons v vs => exact ⟨h0.1.xt h, ih h0.2⟩
theorem hlv.xt {as : List (Nat × BV)} {vs : List (Nat × Value)} (h : hxt I J) (h0 : hlv I as vs) : hlv J as vs := by
  induction as generalizing vs with
  | nil => cases vs with
    | nil => trivial
    | cons => exact h0
  | cons a as ih => cases vs with
    | nil => exact h0
    | cons v vs => exact ⟨⟨h0.1.1, h0.1.2.xt h⟩, ih h0.2⟩
theorem hvs_cons {a : BV} {as : List BV} {vs : List Value} (h : hvs I (a :: as) vs) : ∃ v vs', vs = v :: vs' ∧ hv I a v ∧ hvs I as vs' := by
  cases vs with
  | nil => exact absurd h id
  | cons v vs => exact ⟨v, vs, rfl, h.1, h.2⟩
theorem hvs_nil {vs : List Value} (h : hvs I [] vs) : vs = [] := by
  cases vs with
  | nil => rfl
  | cons v vs => exact absurd h id
theorem hvs_len {as : List BV} {vs : List Value} (h : hvs I as vs) : as.length = vs.length := by
  induction as generalizing vs with
  | nil => rw [hvs_nil h]; rfl
  | cons a as ih =>
    obtain ⟨v, vs', rfl, -, h2⟩ := hvs_cons h
    simp [ih h2]
theorem hv_int {a : BV} {v : Value} {lo hi : Int} (hE : henv I.1 n E) (h : hv I a v) (hi9 : f_iv E a = some (lo, hi)) : ∃ x : Int32, v = .int x ∧ lo ≤ x.toInt ∧ x.toInt ≤ hi := by
  rcases a with c | ⟨k, c⟩ | ⟨l0, h0⟩ | (_ | ⟨κ, nn, nm⟩) | j
  · simp only [f_iv, Option.some.injEq, Prod.mk.injEq] at hi9
    obtain ⟨rfl, rfl⟩ := hi9
    obtain ⟨x, rfl, h1⟩ := h
    exact ⟨x, rfl, by omega, by omega⟩
  · obtain ⟨x, y, rfl, h1, h2⟩ := h
    simp only [f_iv] at hi9
    cases hk : f_lk E k with
    | none => rw [hk] at hi9; cases hi9
    | some q =>
      rw [hk] at hi9
      obtain ⟨l1, h3⟩ := q
      simp only [Option.some.injEq, Prod.mk.injEq] at hi9
      obtain ⟨rfl, rfl⟩ := hi9
      obtain ⟨y', g1, g2, g3⟩ := hE.2 k _ hk
      rw [h1] at g1
      cases g1
      simp only at g2 g3
      exact ⟨x, rfl, by omega, by omega⟩
  all_goals (simp only [f_iv] at hi9; cases hi9)
theorem hv_int2 {a : BV} {x : Int32} {lo hi : Int} (hE : henv I.1 n E) (h : hv I a (.int x)) (hi9 : f_iv E a = some (lo, hi)) : lo ≤ x.toInt ∧ x.toInt ≤ hi := by
  obtain ⟨y, e, h1, h2⟩ := hv_int hE h hi9
  cases e
  exact ⟨h1, h2⟩
theorem hv_isI {a : BV} {v : Value} (h : hv I a v) (hi9 : f_isI a = true) : ∃ x : Int32, v = .int x := by
  rcases a with c | ⟨k, c⟩ | ⟨l0, h0⟩ | (_ | ⟨κ, nn, nm⟩) | j
  · obtain ⟨x, e, -⟩ := h; exact ⟨x, e⟩
  · obtain ⟨x, y, e, -⟩ := h; exact ⟨x, e⟩
  all_goals cases hi9
theorem hv_isL {a : BV} {v : Value} (h : hv I a v) (hi9 : f_isL a = true) : ∃ x : Int64, v = .long x := by
  rcases a with c | ⟨k, c⟩ | ⟨l0, h0⟩ | (_ | ⟨κ, nn, nm⟩) | j
  · cases hi9
  · cases hi9
  · obtain ⟨x, e, -⟩ := h; exact ⟨x, e⟩
  all_goals cases hi9
theorem hv_isR {a : BV} {v : Value} (h : hv I a v) (hi9 : f_isR a = true) : v = .null ∨ ∃ q : Nat, v = .ref q := by
  rcases a with c | ⟨k, c⟩ | ⟨l0, h0⟩ | (_ | ⟨κ, nn, nm⟩) | j
  · cases hi9
  · cases hi9
  · cases hi9
  · exact Or.inl h
  · obtain ⟨h1 | ⟨q, -, h1⟩, -⟩ := h
    · exact Or.inl h1.2
    · exact Or.inr ⟨q, h1⟩
  · exact Or.inr ⟨_, h⟩
theorem hv_cat {a : BV} {v : Value} (h : hv I a v) : (v.category == 2) = f_isL a := by
  rcases a with c | ⟨k, c⟩ | ⟨l0, h0⟩ | (_ | ⟨κ, nn, nm⟩) | j
  · obtain ⟨x, rfl, -⟩ := h; rfl
  · obtain ⟨x, y, rfl, -⟩ := h; rfl
  · obtain ⟨x, rfl, -⟩ := h; rfl
  · rw [show v = .null from h]; rfl
  · obtain ⟨h1 | ⟨q, -, h1⟩, -⟩ := h
    · rw [h1.2]; rfl
    · rw [h1]; rfl
  · rw [show v = .ref _ from h]; rfl
theorem hv_cat1 {a : BV} {v : Value} (h : hv I a v) (hn : f_isL a = false) : v.category = 1 := by
  have := hv_cat h
  rw [hn] at this
  rcases lv_cat v with q | q
  · exact q
  · rw [q] at this; cases this
theorem hv_cat2 {a : BV} {v : Value} (h : hv I a v) (hn : f_isL a = true) : v.category = 2 := by
  have := hv_cat h
  rw [hn] at this
  exact eq_of_beq this
theorem f_iv_isI {a : BV} {q : Int × Int} (h : f_iv E a = some q) : f_isI a = true := by
  rcases a with c | ⟨k, c⟩ | ⟨l0, h0⟩ | (_ | ⟨κ, nn, nm⟩) | j
  · rfl
  · rfl
  all_goals (simp only [f_iv] at h; cases h)
theorem hv_off {a : BV} {x z : Int32} {d : Int} (h : hv I a (.int x)) (hz : z.toInt = x.toInt + d) : hv I (f_off a d) (.int z) := by
  rcases a with c | ⟨k, c⟩ | ⟨l0, h0⟩ | (_ | ⟨κ, nn, nm⟩) | j
  · obtain ⟨y, e, h1⟩ := h; cases e; exact ⟨z, rfl, by omega⟩
  · obtain ⟨y, w, e, h1, h2⟩ := h; cases e; exact ⟨z, w, rfl, h1, by omega⟩
  · obtain ⟨y, e, -⟩ := h; cases e
  · have h : Value.int x = .null := h; cases h
  · obtain ⟨h1 | ⟨q, -, h1⟩, -⟩ := h
    · cases h1.2
    · cases h1
  · have h : Value.int x = .ref (I.2.2 j) := h; cases h
/-- what a reckoned value means -/
def hr (I : IN) (r : RB) (v : Value) : Prop := match r with
  | .inl a => hv I a v
  | .inr (lo, hi) => ∃ x : Int32, v = .int x ∧ lo ≤ x.toInt ∧ x.toInt ≤ hi
theorem henv_cons {ν : List Int} {y lo hi : Int} (hE : henv ν n E) (h1 : lo ≤ y) (h2 : y ≤ hi) : henv (ν ++ [y]) (n + 1) ((n, lo, hi) :: E) := by
  obtain ⟨e1, e2⟩ := hE
  refine ⟨by simp [e1], fun k q hk => ?_⟩
  simp only [f_lk] at hk
  split at hk
  · rename_i h3
    have := Nat.eq_of_beq_eq_true h3
    subst this
    cases hk
    exact ⟨y, by rw [List.getElem?_append_right (by omega), e1]; simp, h1, h2⟩
  · obtain ⟨z, g1, g2⟩ := e2 k q hk
    exact ⟨z, by rw [List.getElem?_append_left (List.getElem?_eq_some_iff.mp g1).1]; exact g1, g2⟩
theorem f_push_ok {r : RB} {v : Value} {a : BV} {n' : Nat} {E' : EB} (hE : henv I.1 n E) (h : hr I r v) (hp : f_push r n E = (a, n', E')) : ∃ J : IN, hxt I J ∧ J.2 = I.2 ∧ henv J.1 n' E' ∧ hv J a v := by
  rcases r with r | ⟨lo, hi⟩
  · simp only [f_push, Prod.mk.injEq] at hp
    obtain ⟨rfl, rfl, rfl⟩ := hp
    exact ⟨I, hxt.rf, rfl, hE, h⟩
  · simp only [f_push, Prod.mk.injEq] at hp
    obtain ⟨rfl, rfl, rfl⟩ := hp
    obtain ⟨x, rfl, h1, h2⟩ := h
    refine ⟨(I.1 ++ [x.toInt], I.2), ⟨⟨_, rfl⟩, ⟨[], by simp⟩, rfl⟩, rfl, henv_cons hE h1 h2, x, x.toInt, rfl, ?_, by omega⟩
    rw [List.getElem?_append_right (by rw [hE.1]; exact Nat.le_refl _), hE.1]; simp
end BREL
end
section
section BNUM
variable {I : IN} {E : EB} {n : Nat}
theorem hr_top (x : Int32) : hr I f_top (.int x) := ⟨x, rfl, (fb_rng x).1, by have := (fb_rng x).2; simp only [iMax]; omega⟩
theorem hr_mkw {x : Int32} {z lo hi : Int} (hx : -2147483648 ≤ z → z < 2147483648 → x.toInt = z) (h1 : lo ≤ z) (h2 : z ≤ hi) : hr I (f_mk lo hi) (.int x) := by
  unfold f_mk
  split
  · rename_i h
    simp only [Bool.and_eq_true, decide_eq_true_eq, iMin, iMax] at h
    have e := hx (by omega) (by omega)
    split
    · rename_i h3
      have h3 := of_decide_eq_true h3
      exact ⟨x, rfl, by omega⟩
    · exact ⟨x, rfl, by omega, by omega⟩
  · exact hr_top x
theorem f_add_ok {a c : BV} {r : RB} {x y : Int32} (hE : henv I.1 n E) (ha : hv I a (.int x)) (hc : hv I c (.int y)) (h : f_add E a c = some r) : hr I r (.int (x + y)) := by
  unfold f_add at h
  split at h
  · rename_i la ha1 lb hb1 e1 e2
    have p1 := hv_int2 hE ha e1
    have p2 := hv_int2 hE hc e2
    split at h
    · rename_i q
      simp only [Bool.and_eq_true, decide_eq_true_eq, iMin, iMax] at q
      have e := fb_addI (x := x) (y := y) (by omega) (by omega)
      split at h
      · rename_i q1
        have q1 := of_decide_eq_true q1
        cases h
        exact hv_off ha (by omega)
      · split at h
        · rename_i q1
          have q1 := of_decide_eq_true q1
          cases h
          exact hv_off hc (by omega)
        · cases h
          exact ⟨_, rfl, by omega, by omega⟩
    · cases h; exact hr_top _
  · cases h
theorem f_sub_ok {a c : BV} {r : RB} {x y : Int32} (hE : henv I.1 n E) (ha : hv I a (.int x)) (hc : hv I c (.int y)) (h : f_sub E a c = some r) : hr I r (.int (x - y)) := by
  unfold f_sub at h
  split at h
  · rename_i la ha1 lb hb1 e1 e2
    have p1 := hv_int2 hE ha e1
    have p2 := hv_int2 hE hc e2
    split at h
    · rename_i q
      simp only [Bool.and_eq_true, decide_eq_true_eq, iMin, iMax] at q
      have e := fb_subI (x := x) (y := y) (by omega) (by omega)
      split at h
      · rename_i q1
        have q1 := of_decide_eq_true q1
        cases h
        exact hv_off ha (by omega)
      · cases h
        exact ⟨_, rfl, by omega, by omega⟩
    · cases h; exact hr_top _
  · cases h
theorem f_mul_ok {a c : BV} {r : RB} {x y : Int32} (hE : henv I.1 n E) (ha : hv I a (.int x)) (hc : hv I c (.int y)) (h : f_mul E a c = some r) : hr I r (.int (x * y)) := by
  unfold f_mul at h
  split at h
  · rename_i la ha1 lb hb1 e1 e2
    have p1 := hv_int2 hE ha e1
    have p2 := hv_int2 hE hc e2
    split at h
    · rename_i hc0
      simp only [Bool.and_eq_true, decide_eq_true_eq] at hc0
      cases h
      refine hr_mkw (z := x.toInt * y.toInt) (fun h1 h2 => fb_mulI h1 h2) ?_ ?_
      · exact Int.mul_le_mul p1.1 p2.1 hc0.2 (by omega)
      · exact Int.mul_le_mul p1.2 p2.2 (by omega) (by omega)
    · cases h; exact hr_top _
  · cases h
theorem f_bit_ok {f : Nat → Nat → Nat} {op : Int32 → Int32 → Int32} (hop : ∀ m n : Nat, op (nI m) (nI n) = nI (f m n)) (hlt : ∀ m n : Nat, m < 2147483648 → n < 2147483648 → f m n < 2147483648) {x y : Int32} {la ha lb hb : Int} {o : RB} (p1 : la ≤ x.toInt ∧ x.toInt ≤ ha) (p2 : lb ≤ y.toInt ∧ y.toInt ≤ hb) (ho : hr I o (.int (op x y))) : hr I (f_bit f la ha lb hb o) (.int (op x y)) := by
  unfold f_bit
  split
  · rename_i hc0
    simp only [Bool.and_eq_true, decide_eq_true_eq] at hc0
    obtain ⟨c1, c2, c3, c4⟩ := hc0
    obtain ⟨q1, q2⟩ := en_of (x := x) (n := la) (by omega) c3
    obtain ⟨q3, q4⟩ := en_of (x := y) (n := lb) (by omega) c4
    have e : (op x y).toInt = ((f la.toNat lb.toNat : Nat) : Int) := by
      rw [q1, q3, hop, nI_toInt (hlt _ _ q2 q4)]
    exact ⟨op x y, rfl, by omega⟩
  · exact ho
theorem f_and_ok {a c : BV} {r : RB} {x y : Int32} (hE : henv I.1 n E) (ha : hv I a (.int x)) (hc : hv I c (.int y)) (h : f_and E a c = some r) : hr I r (.int (x &&& y)) := by
  unfold f_and at h
  split at h
  · rename_i la ha1 lb hb1 e1 e2
    have p1 := hv_int2 hE ha e1
    have p2 := hv_int2 hE hc e2
    cases h
    refine f_bit_ok (op := fun x y => x &&& y) (fun m n => fa_and m n) (fun m n _ hn => en_and_lt hn) p1 p2 ?_
    split
    · rename_i q
      have q := of_decide_eq_true q
      have w := en_andr (x := x) (y := y) (by omega)
      split
      · rename_i q2
        simp only [Bool.and_eq_true, decide_eq_true_eq] at q2
        have w2 := en_andr (x := y) (y := x) (by omega)
        rw [en_andc y x] at w2
        exact ⟨x &&& y, rfl, w.1, by omega⟩
      · exact ⟨x &&& y, rfl, w.1, by omega⟩
    · split
      · rename_i q
        have q := of_decide_eq_true q
        have w := en_andr (x := y) (y := x) (by omega)
        rw [en_andc y x] at w
        exact ⟨x &&& y, rfl, w.1, by omega⟩
      · exact hr_top _
  · cases h
theorem f_ones_lt {m : Nat} {h : Int} (hm : (m : Int) ≤ h) : m < 2 ^ (Nat.log2 h.toNat + 1) := by
  have := Nat.lt_log2_self (n := h.toNat)
  omega
theorem f_ones_eq {h : Int} (h0 : 0 < h) : f_ones h = ((2 ^ (Nat.log2 h.toNat + 1) : Nat) : Int) - 1 := by
  unfold f_ones
  rw [if_neg]
  intro q
  have := of_decide_eq_true q
  omega
theorem f_ones_0 {h : Int} (h0 : h ≤ 0) : f_ones h = 0 := by
  unfold f_ones
  rw [if_pos (decide_eq_true h0)]
theorem f_or_ok {a c : BV} {r : RB} {x y : Int32} (hE : henv I.1 n E) (ha : hv I a (.int x)) (hc : hv I c (.int y)) (h : f_or E a c = some r) : hr I r (.int (x ||| y)) := by
  unfold f_or at h
  split at h
  · rename_i la ha1 lb hb1 e1 e2
    have p1 := hv_int2 hE ha e1
    have p2 := hv_int2 hE hc e2
    cases h
    refine f_bit_ok (op := fun x y => x ||| y) (fun m n => fa_or m n) (fun m n hm hn => en_or_lt hm hn) p1 p2 ?_
    split
    · rename_i q
      simp only [Bool.and_eq_true, decide_eq_true_eq] at q
      obtain ⟨k1, rfl, g1, g2⟩ := en_nn (x := x) (by omega)
      obtain ⟨k2, rfl, g3, g4⟩ := en_nn (x := y) (by omega)
      have e : (nI k1 ||| nI k2).toInt = ((k1 ||| k2 : Nat) : Int) := by rw [fa_or, nI_toInt (en_or_lt g1 g3)]
      refine ⟨_, rfl, ?_, ?_⟩
      · rw [e]
        have w1 : k1 ≤ k1 ||| k2 := Nat.left_le_or
        have w2 : k2 ≤ k1 ||| k2 := Nat.right_le_or
        omega
      · rw [e]
        by_cases h0 : 0 < max ha1 hb1
        · rw [f_ones_eq h0]
          have w := Nat.or_lt_two_pow (f_ones_lt (m := k1) (h := max ha1 hb1) (by omega)) (f_ones_lt (m := k2) (h := max ha1 hb1) (by omega))
          generalize 2 ^ (Nat.log2 (max ha1 hb1).toNat + 1) = z at w ⊢
          omega
        · rw [f_ones_0 (by omega)]
          have z1 : k1 = 0 := by omega
          have z2 : k2 = 0 := by omega
          rw [z1, z2]
          decide
    · exact hr_top _
  · cases h
theorem f_xor_ok {a c : BV} {r : RB} {x y : Int32} (hE : henv I.1 n E) (ha : hv I a (.int x)) (hc : hv I c (.int y)) (h : f_xor E a c = some r) : hr I r (.int (x ^^^ y)) := by
  unfold f_xor at h
  split at h
  · rename_i la ha1 lb hb1 e1 e2
    have p1 := hv_int2 hE ha e1
    have p2 := hv_int2 hE hc e2
    cases h
    refine f_bit_ok (op := fun x y => x ^^^ y) (fun m n => fb_xorI m n) (fun m n hm hn => en_xor_lt hm hn) p1 p2 ?_
    split
    · rename_i q
      simp only [Bool.and_eq_true, decide_eq_true_eq] at q
      obtain ⟨k1, rfl, g1, g2⟩ := en_nn (x := x) (by omega)
      obtain ⟨k2, rfl, g3, g4⟩ := en_nn (x := y) (by omega)
      have e : (nI k1 ^^^ nI k2).toInt = ((k1 ^^^ k2 : Nat) : Int) := by rw [fb_xorI, nI_toInt (en_xor_lt g1 g3)]
      refine ⟨_, rfl, by rw [e]; omega, ?_⟩
      rw [e]
      by_cases h0 : 0 < max ha1 hb1
      · rw [f_ones_eq h0]
        have w := Nat.xor_lt_two_pow (f_ones_lt (m := k1) (h := max ha1 hb1) (by omega)) (f_ones_lt (m := k2) (h := max ha1 hb1) (by omega))
        generalize 2 ^ (Nat.log2 (max ha1 hb1).toNat + 1) = z at w ⊢
        omega
      · rw [f_ones_0 (by omega)]
        have z1 : k1 = 0 := by omega
        have z2 : k2 = 0 := by omega
        rw [z1, z2]
        decide
    · exact hr_top _
  · cases h
theorem en_pow_le {i j : Nat} (h : i ≤ j) : (2 : Int) ^ i ≤ 2 ^ j := by
  have := Nat.pow_le_pow_right (n := 2) (by omega) h
  have e1 : ((2 ^ i : Nat) : Int) = 2 ^ i := by rw [Int.natCast_pow]; rfl
  have e2 : ((2 ^ j : Nat) : Int) = 2 ^ j := by rw [Int.natCast_pow]; rfl
  rw [← e1, ← e2]
  omega
theorem en_pow_0 (i : Nat) : (0 : Int) < 2 ^ i := Int.pow_pos (by omega)
theorem f_shl_ok {a c : BV} {r : RB} {x y : Int32} (hE : henv I.1 n E) (ha : hv I a (.int x)) (hc : hv I c (.int y)) (h : f_shl E a c = some r) : hr I r (.int (x <<< (y &&& 31))) := by
  unfold f_shl at h
  split at h
  · rename_i la ha1 lb hb1 e1 e2
    have p1 := hv_int2 hE ha e1
    have p2 := hv_int2 hE hc e2
    split at h
    · rename_i hc0
      simp only [Bool.and_eq_true, decide_eq_true_eq] at hc0
      obtain ⟨c1, c2, c3⟩ := hc0
      cases h
      obtain ⟨k, rfl, hk, ek⟩ := en_nn (x := y) (by omega)
      obtain ⟨m, rfl, hm, em⟩ := en_nn (x := x) (by omega)
      have hk2 : k < 32 := by omega
      refine hr_mkw (z := (m : Int) * 2 ^ k) (fun h1 h2 => ?_) ?_ ?_
      · have h3 : m * 2 ^ k < 2147483648 := by
          have : ((m * 2 ^ k : Nat) : Int) < 2147483648 := by rw [Int.natCast_mul, Int.natCast_pow]; exact h2
          omega
        rw [pk_shlN (nI k &&& 31) k (en_cnt _ hk2) (by omega), nI_toInt (by omega), Int.natCast_mul, Int.natCast_pow]
        rfl
      · exact Int.mul_le_mul (by omega) (en_pow_le (by omega)) (Int.le_of_lt (en_pow_0 _)) (by omega)
      · exact Int.mul_le_mul (by omega) (en_pow_le (by omega)) (Int.le_of_lt (en_pow_0 _)) (by omega)
    · cases h; exact hr_top _
  · cases h
theorem f_shr_ok {a c : BV} {r : RB} {x y : Int32} (hE : henv I.1 n E) (ha : hv I a (.int x)) (hc : hv I c (.int y)) (h : f_shr E a c = some r) : hr I r (.int (x >>> (y &&& 31))) := by
  unfold f_shr at h
  split at h
  · rename_i la ha1 lb hb1 e1 e2
    have p1 := hv_int2 hE ha e1
    have p2 := hv_int2 hE hc e2
    split at h
    · rename_i hc0
      simp only [Bool.and_eq_true, decide_eq_true_eq] at hc0
      obtain ⟨c1, c2, c3⟩ := hc0
      cases h
      obtain ⟨k, rfl, hk, ek⟩ := en_nn (x := y) (by omega)
      obtain ⟨m, rfl, hm, em⟩ := en_nn (x := x) (by omega)
      have hk2 : k < 32 := by omega
      have e : (nI m >>> (nI k &&& 31)).toInt = ((m / 2 ^ k : Nat) : Int) := by
        rw [pk_shrN (by omega) (nI k &&& 31) k (en_cnt _ hk2)]
        have := Nat.div_le_self m (2 ^ k)
        rw [nI_toInt (by omega)]
      refine ⟨_, rfl, by rw [e]; exact Int.natCast_nonneg _, ?_⟩
      rw [e]
      have w : m / 2 ^ k ≤ ha1.toNat / 2 ^ lb.toNat := Nat.div_le_div (by omega) (Nat.pow_le_pow_right (by omega) (by omega)) (Nat.ne_of_gt (Nat.two_pow_pos _))
      have e5 : ha1 / 2 ^ lb.toNat = ((ha1.toNat / 2 ^ lb.toNat : Nat) : Int) := by
        rw [Int.natCast_ediv, Int.natCast_pow, show ((ha1.toNat : Nat) : Int) = ha1 by omega]
        rfl
      rw [e5]
      omega
    · cases h; exact hr_top _
  · cases h
theorem f_ushr_ok {a c : BV} {r : RB} {x y : Int32} (hE : henv I.1 n E) (hc : hv I c (.int y)) (h : f_ushr E a c = some r) : hr I r (.int (x.toUInt32 >>> (y.toUInt32 &&& Int32.toUInt32 31)).toInt32) := by
  unfold f_ushr at h
  split at h
  · rename_i q0 lb hb1 e1 e2
    have p2 := hv_int2 hE hc e2
    split at h
    · rename_i hc0
      simp only [Bool.and_eq_true, decide_eq_true_eq] at hc0
      obtain ⟨c1, c2, c3⟩ := hc0
      cases h
      obtain ⟨k, rfl, hk, ek⟩ := en_nn (x := y) (by omega)
      have hk2 : k = lb.toNat := by omega
      have hk3 : 0 < k ∧ k < 32 := by omega
      have hcnt : ∀ k : Nat, k < 32 → ((nI k).toUInt32 &&& Int32.toUInt32 31).toNat = k := by decide +kernel
      have e : (x.toUInt32 >>> ((nI k).toUInt32 &&& Int32.toUInt32 31)).toNat = x.toUInt32.toNat / 2 ^ k := by
        rw [UInt32.toNat_shiftRight, hcnt k hk3.2, Nat.mod_eq_of_lt hk3.2, Nat.shiftRight_eq_div_pow]
      have hx : x.toUInt32.toNat < 4294967296 := UInt32.toNat_lt _
      have w : x.toUInt32.toNat / 2 ^ k ≤ 4294967295 / 2 ^ k := Nat.div_le_div_right (by omega)
      have w2 : 4294967295 / 2 ^ k ≤ 4294967295 / 2 ^ 1 := Nat.div_le_div_left (Nat.pow_le_pow_right (by omega) hk3.1) (by omega)
      have w3 : x.toUInt32.toNat / 2 ^ k < 2147483648 := by omega
      generalize hz : (x.toUInt32 >>> ((nI k).toUInt32 &&& Int32.toUInt32 31)) = z at e ⊢
      have e2 : z.toInt32.toInt = (z.toNat : Int) := by
        have : z.toInt32 = nI z.toNat := by
          apply Int32.toBitVec_inj.mp
          show z.toBitVec = (Int32.ofNat z.toNat).toBitVec
          rw [Int32.toBitVec_ofNat']
          simp
        rw [this, nI_toInt (by omega)]
      refine ⟨_, rfl, by rw [e2]; omega, ?_⟩
      rw [e2, e]
      have e5 : (4294967295 : Int) / 2 ^ lb.toNat = ((4294967295 / 2 ^ lb.toNat : Nat) : Int) := by
        rw [Int.natCast_ediv, Int.natCast_pow]
        rfl
      rw [e5, ← hk2]
      omega
    · cases h; exact hr_top _
  · cases h
theorem f_rem_ok {a c : BV} {r : RB} {x y : Int32} (hE : henv I.1 n E) (ha : hv I a (.int x)) (hc : hv I c (.int y)) (h : f_rem E a c = some r) : ¬ y = 0 ∧ hr I r (.int (x - x / y * y)) := by
  unfold f_rem at h
  split at h
  · rename_i la ha1 lb hb1 e1 e2
    have p1 := hv_int2 hE ha e1
    have p2 := hv_int2 hE hc e2
    split at h
    · rename_i hc0
      have hc0 := of_decide_eq_true hc0
      obtain ⟨k, hy, hn, en⟩ := en_nn (x := y) (by omega)
      have hn0 : 0 < k := by omega
      refine ⟨fun h0 => ?_, ?_⟩
      · rw [h0] at en
        have : (0 : Int32).toInt = 0 := rfl
        omega
      · split at h
        · rename_i c3
          have c3 := of_decide_eq_true c3
          obtain ⟨m, hx, hm, em⟩ := en_nn (x := x) (by omega)
          have hlt := Nat.mod_lt m hn0
          have hmod : (x - x / y * y) = nI (m % k) := by rw [hx, hy, pk_rem hm hn0 hn]
          split at h
          · rename_i q
            have q := of_decide_eq_true q
            cases h
            have e5 : m % k = m := Nat.mod_eq_of_lt (by omega)
            rw [hmod, e5, ← hx]
            exact ha
          · split at h
            · rename_i q2
              simp only [Bool.and_eq_true, decide_eq_true_eq] at q2
              obtain ⟨q3, q4⟩ := q2
              cases h
              have ek : (k : Int) = lb := by omega
              have d1 : la / lb ≤ (m : Int) / lb := Int.ediv_le_ediv hc0 (by omega)
              have d2 : (m : Int) / lb ≤ ha1 / lb := Int.ediv_le_ediv hc0 (by omega)
              have d3 : (m : Int) / lb = la / lb := by omega
              have e5 : (nI (m % k)).toInt = ((m % k : Nat) : Int) := nI_toInt (by omega)
              have e6 : ((m % k : Nat) : Int) = (m : Int) - lb * (la / lb) := by rw [Int.natCast_emod, ek, Int.emod_def, d3]
              have e7 : la % lb = la - lb * (la / lb) := Int.emod_def _ _
              have e8 : ha1 % lb = ha1 - lb * (la / lb) := by rw [Int.emod_def, ← q4]
              rw [hmod]
              exact ⟨_, rfl, by rw [e5, e6, e7]; omega, by rw [e5, e6, e8]; omega⟩
            cases h
            have e5 : (nI (m % k)).toInt = ((m % k : Nat) : Int) := nI_toInt (by omega)
            rw [hmod]
            exact ⟨_, rfl, by rw [e5]; omega, by rw [e5]; omega⟩
        · cases h; exact hr_top _
    · cases h
  · cases h
theorem f_div_ok {a c : BV} {r : RB} {x y : Int32} (hE : henv I.1 n E) (ha : hv I a (.int x)) (hc : hv I c (.int y)) (h : f_div E a c = some r) : ¬ y = 0 ∧ hr I r (.int (x / y)) := by
  unfold f_div at h
  split at h
  · rename_i la ha1 lb hb1 e1 e2
    have p1 := hv_int2 hE ha e1
    have p2 := hv_int2 hE hc e2
    split at h
    · rename_i hc0
      have hc0 := of_decide_eq_true hc0
      obtain ⟨k, hy, hn, en⟩ := en_nn (x := y) (by omega)
      have hn0 : 0 < k := by omega
      refine ⟨fun h0 => ?_, ?_⟩
      · rw [h0] at en
        have : (0 : Int32).toInt = 0 := rfl
        omega
      · split at h
        · rename_i c3
          have c3 := of_decide_eq_true c3
          obtain ⟨m, hx, hm, em⟩ := en_nn (x := x) (by omega)
          have hdiv : (x / y).toInt = ((m / k : Nat) : Int) := by
            have := Nat.div_le_self m k
            rw [hx, hy, pk_div hm hn0 hn, nI_toInt (by omega)]
          cases h
          have w1 : la.toNat / hb1.toNat ≤ m / k := Nat.div_le_div (by omega) (by omega) (by omega)
          have w2 : m / k ≤ ha1.toNat / lb.toNat := Nat.div_le_div (by omega) (by omega) (by omega)
          have q1 : la / hb1 = ((la.toNat / hb1.toNat : Nat) : Int) := by rw [Int.natCast_ediv]; congr 1 <;> omega
          have q2 : ha1 / lb = ((ha1.toNat / lb.toNat : Nat) : Int) := by rw [Int.natCast_ediv]; congr 1 <;> omega
          refine ⟨_, rfl, ?_, ?_⟩
          · rw [hdiv, q1]; omega
          · rw [hdiv, q2]; omega
        · cases h; exact hr_top _
    · cases h
  · cases h
end BNUM
end
section
/-! steps that reckon nothing: loads, stores, constants, the stack -/
def f_find (lo : List (Nat × BV)) (i : Nat) : Option BV := match lo with
  | [] => none
  | (j, a) :: r => if Nat.beq j i = true then some a else f_find r i
def f_st1 (lo : List (Nat × BV)) (i : Nat) (a : BV) : List (Nat × BV) := (i, a) :: lo.filter (fun q => !(q.1 == i) && !(q.1 + 1 == i && f_isL q.2))
def f_st2 (lo : List (Nat × BV)) (i : Nat) (a : BV) : List (Nat × BV) := (i, a) :: lo.filter (fun q => !(q.1 == i) && (!(q.1 == i + 1) && !(q.1 + 1 == i && f_isL q.2)))
def f_ld (len : Nat) (k : BV → Bool) (lo : List (Nat × BV)) (st : List BV) (i : Nat) : Option (Nat × List (Nat × BV) × List BV) := match f_find lo i with
  | some a => if k a = true then some (len, lo, a :: st) else none
  | none => none
def f_sr (len : Nat) (k : BV → Bool) (nL : Nat) (lo : List (Nat × BV)) (st : List BV) (i : Nat) : Option (Nat × List (Nat × BV) × List BV) := match st with
  | a :: st' => if (k a && decide (i < nL)) = true then some (len, f_st1 lo i a, st') else none
  | [] => none
def f_sr2 (len : Nat) (nL : Nat) (lo : List (Nat × BV)) (st : List BV) (i : Nat) : Option (Nat × List (Nat × BV) × List BV) := match st with
  | a :: st' => if (f_isL a && decide (i + 1 < nL)) = true then some (len, f_st2 lo i a, st') else none
  | [] => none
def f_mov (nL : Nat) (ins : Instr) (lo : List (Nat × BV)) (st : List BV) : Option (Nat × List (Nat × BV) × List BV) := match ins with
  | .iconst n => if e_rng8 n = true then some (1, lo, bI n :: st) else none
  | .bipush n => if e_rng8 n = true then some (2, lo, bI n :: st) else none
  | .sipush n => if e_rng16 n = true then some (3, lo, bI n :: st) else none
  | .lconst k => some (1, lo, bL (k.val : Int) (k.val : Int) :: st)
  | .aconst_null => some (1, lo, bN :: st)
  | .iload_n k => f_ld 1 f_isI lo st k.val
  | .iload i => f_ld 2 f_isI lo st i
  | .lload_n k => f_ld 1 f_isL lo st k.val
  | .lload i => f_ld 2 f_isL lo st i
  | .aload_n k => f_ld 1 f_isR lo st k.val
  | .aload i => f_ld 2 f_isR lo st i
  | .istore_n k => f_sr 1 f_isI nL lo st k.val
  | .istore i => f_sr 2 f_isI nL lo st i
  | .astore_n k => f_sr 1 f_isR nL lo st k.val
  | .astore i => f_sr 2 f_isR nL lo st i
  | .lstore_n k => f_sr2 1 nL lo st k.val
  | .lstore i => f_sr2 2 nL lo st i
  | .dup => (match st with | a :: st' => if f_isL a = false then some (1, lo, a :: a :: st') else none | _ => none)
  | .dup_x1 => (match st with | a :: c :: st' => if (f_isL a || f_isL c) = false then some (1, lo, a :: c :: a :: st') else none | _ => none)
  | .dup2 => (match st with | a :: c :: st' => if (f_isL a || f_isL c) = false then some (1, lo, a :: c :: a :: c :: st') else none | _ => none)
  | .pop => (match st with | a :: st' => if f_isL a = false then some (1, lo, st') else none | _ => none)
  | _ => none
section MOV
variable {I : IN}
variable {p : Program} {l : Launch} {e : Env} {R : Room} {s : State} {m : MethodId} {args : Array Value} {below : List Frame} {meth : Method} {c : Code} {H : Heap} {locs : List Loc} {cells slots : Nat} {Q : State → Prop}
variable {cc : ByteArray} {pc nL : Nat} {ls : Array Slot}
theorem f_find_ok {lo : List (Nat × BV)} {lv : List (Nat × Value)} {i : Nat} {a : BV} (h : hlv I lo lv) (hf : f_find lo i = some a) : ∃ (k : Nat) (v : Value), lv[k]? = some (i, v) ∧ hv I a v := by
  induction lo generalizing lv with
  | nil => cases hf
  | cons q r ih =>
    cases lv with
    | nil => exact absurd h id
    | cons w ws =>
      obtain ⟨j, a0⟩ := q
      obtain ⟨j', v0⟩ := w
      obtain ⟨⟨h1, h2⟩, h3⟩ := h
      simp only at h1 h2
      subst h1
      simp only [f_find] at hf
      by_cases hj : Nat.beq j i = true
      · rw [if_pos hj] at hf
        cases hf
        have := Nat.eq_of_beq_eq_true hj
        subst this
        exact ⟨0, v0, rfl, h2⟩
      · rw [if_neg hj] at hf
        obtain ⟨k, v, e, g⟩ := ih h3 hf
        exact ⟨k + 1, v, e, g⟩
theorem hlv_filter {lo : List (Nat × BV)} {lv : List (Nat × Value)} (f : Nat × BV → Bool) (g : Nat × Value → Bool) (h : hlv I lo lv) (hfg : ∀ i a v, hv I a v → f (i, a) = g (i, v)) : hlv I (lo.filter f) (lv.filter g) := by
  induction lo generalizing lv with
  | nil => cases lv with
    | nil => exact h
    | cons => exact absurd h id
  | cons q r ih => cases lv with
    | nil => exact absurd h id
    | cons w ws =>
      obtain ⟨j, a0⟩ := q
      obtain ⟨j', v0⟩ := w
      obtain ⟨⟨h1, h2⟩, h3⟩ := h
      simp only at h1 h2
      subst h1
      have e := hfg j a0 v0 h2
      rw [List.filter_cons, List.filter_cons, e]
      by_cases hg : g (j, v0) = true
      · rw [if_pos hg, if_pos hg]
        exact ⟨⟨rfl, h2⟩, ih h3⟩
      · rw [if_neg hg, if_neg hg]
        exact ih h3
theorem hlv_st1 {lo : List (Nat × BV)} {lv : List (Nat × Value)} {i : Nat} {a : BV} {v : Value} (h : hlv I lo lv) (ha : hv I a v) : hlv I (f_st1 lo i a) ((i, v) :: lv.filter (fun q => !(q.1 == i) && !(q.1 + 1 == i && q.2.category == 2))) := by
  refine ⟨⟨rfl, ha⟩, hlv_filter _ _ h fun j a v hv => ?_⟩
  simp only [hv_cat hv]
theorem hlv_st2 {lo : List (Nat × BV)} {lv : List (Nat × Value)} {i : Nat} {a : BV} {v : Value} (h : hlv I lo lv) (ha : hv I a v) : hlv I (f_st2 lo i a) ((i, v) :: lv.filter (fun q => !(q.1 == i) && (!(q.1 == i + 1) && !(q.1 + 1 == i && q.2.category == 2)))) := by
  refine ⟨⟨rfl, ha⟩, hlv_filter _ _ h fun j a v hv => ?_⟩
  simp only [hv_cat hv]
/-! numbers -/
theorem f_ld_I {len i : Nat} {lo lo' : List (Nat × BV)} {st st' : List BV} {n : Nat} {lv : List (Nat × Value)} (h : f_ld len f_isI lo st i = some (n, lo', st')) (hl : lv_has ls nL lv) (hg : hlv I lo lv) : n = len ∧ lo' = lo ∧ ∃ (a : BV) (x : Int32), st' = a :: st ∧ ls[i]? = some (.val (.int x)) ∧ hv I a (.int x) := by
  unfold f_ld at h
  split at h
  · rename_i a ea
    split at h
    · rename_i q
      cases h
      obtain ⟨k, v, e1, g1⟩ := f_find_ok hg ea
      obtain ⟨x, rfl⟩ := hv_isI g1 q
      exact ⟨rfl, rfl, a, x, rfl, lv_at hl k e1, g1⟩
    · cases h
  · cases h
theorem f_ld_L {len i : Nat} {lo lo' : List (Nat × BV)} {st st' : List BV} {n : Nat} {lv : List (Nat × Value)} (h : f_ld len f_isL lo st i = some (n, lo', st')) (hl : lv_has ls nL lv) (hg : hlv I lo lv) : n = len ∧ lo' = lo ∧ ∃ (a : BV) (x : Int64), st' = a :: st ∧ ls[i]? = some (.val (.long x)) ∧ hv I a (.long x) := by
  unfold f_ld at h
  split at h
  · rename_i a ea
    split at h
    · rename_i q
      cases h
      obtain ⟨k, v, e1, g1⟩ := f_find_ok hg ea
      obtain ⟨x, rfl⟩ := hv_isL g1 q
      exact ⟨rfl, rfl, a, x, rfl, lv_at hl k e1, g1⟩
    · cases h
  · cases h
theorem f_ld_R {len i : Nat} {lo lo' : List (Nat × BV)} {st st' : List BV} {n : Nat} {lv : List (Nat × Value)} (h : f_ld len f_isR lo st i = some (n, lo', st')) (hl : lv_has ls nL lv) (hg : hlv I lo lv) : n = len ∧ lo' = lo ∧ ∃ (a : BV) (v : Value), st' = a :: st ∧ ls[i]? = some (.val v) ∧ hv I a v ∧ (v = .null ∨ ∃ q : Nat, v = .ref q) := by
  unfold f_ld at h
  split at h
  · rename_i a ea
    split at h
    · rename_i q
      cases h
      obtain ⟨k, v, e1, g1⟩ := f_find_ok hg ea
      exact ⟨rfl, rfl, a, v, rfl, lv_at hl k e1, g1, hv_isR g1 q⟩
    · cases h
  · cases h
theorem f_sr_ok {len i : Nat} {k : BV → Bool} {lo lo' : List (Nat × BV)} {st st' : List BV} {n : Nat} (h : f_sr len k nL lo st i = some (n, lo', st')) : n = len ∧ ∃ a, st = a :: st' ∧ k a = true ∧ i < nL ∧ lo' = f_st1 lo i a := by
  unfold f_sr at h
  split at h
  · split at h
    · rename_i a st0 q
      simp only [Bool.and_eq_true, decide_eq_true_eq] at q
      cases h
      exact ⟨rfl, a, rfl, q.1, q.2, rfl⟩
    · cases h
  · cases h
theorem f_sr2_ok {len i : Nat} {lo lo' : List (Nat × BV)} {st st' : List BV} {n : Nat} (h : f_sr2 len nL lo st i = some (n, lo', st')) : n = len ∧ ∃ a, st = a :: st' ∧ f_isL a = true ∧ i + 1 < nL ∧ lo' = f_st2 lo i a := by
  unfold f_sr2 at h
  split at h
  · split at h
    · rename_i a st0 q
      simp only [Bool.and_eq_true, decide_eq_true_eq] at q
      cases h
      exact ⟨rfl, a, rfl, q.1, q.2, rfl⟩
    · cases h
  · cases h
set_option maxHeartbeats 4000000 in
theorem f_mov_ok {ins : Instr} {len : Nat} {lo lo' : List (Nat × BV)} {st st' : List BV} {lv : List (Nat × Value)} {vs : List Value} (hx9 : p.tables.exec = Jvm.exec) (hb : c.code = cc)
    (h : f_mov nL ins lo st = some (len, lo', st')) (hd : decode cc pc = .ok (ins, len)) (hl : lv_has ls nL lv) (hg : hlv I lo lv) (hs : hvs I st vs)
    (kk : ∀ ls' lv' vs', lv_has ls' nL lv' → hlv I lo' lv' → hvs I st' vs' → W p l e R s m args below meth c H locs cells slots Q (F0 m (pc + len) ls' vs')) : W p l e R s m args below meth c H locs cells slots Q (F0 m pc ls vs) := by
  unfold f_mov at h
  split at h
  · split at h
    · rename_i n q
      simp only [e_rng8, Bool.and_eq_true, decide_eq_true_eq] at q
      cases h
      exact lv_iconst hx9 hb hd rfl (kk _ _ _ hl hg ⟨⟨_, rfl, en_o32 (by omega) (by omega)⟩, hs⟩)
    · cases h
  · split at h
    · rename_i n q
      simp only [e_rng8, Bool.and_eq_true, decide_eq_true_eq] at q
      cases h
      exact lv_bipush hx9 hb hd rfl (kk _ _ _ hl hg ⟨⟨_, rfl, en_o8 q.1 q.2⟩, hs⟩)
    · cases h
  · split at h
    · rename_i n q
      simp only [e_rng16, Bool.and_eq_true, decide_eq_true_eq] at q
      cases h
      exact lv_sipush hx9 hb hd rfl (kk _ _ _ hl hg ⟨⟨_, rfl, en_o16 q.1 q.2⟩, hs⟩)
    · cases h
  · rename_i k
    cases h
    have w : (Int64.ofNat k.val).toInt = (k.val : Int) := lN_toInt (by have := k.isLt; omega)
    exact lv_lconst hx9 hb hd rfl (kk _ _ _ hl hg ⟨⟨_, rfl, by rw [w]; omega, by rw [w]; omega⟩, hs⟩)
  · cases h
    exact lv_null hx9 hb hd (kk _ _ _ hl hg ⟨rfl, hs⟩)
  · obtain ⟨rfl, rfl, a, x, rfl, e1, g1⟩ := f_ld_I h hl hg
    exact lv_iload_n hx9 hb hd rfl e1 (kk _ _ _ hl hg ⟨g1, hs⟩)
  · obtain ⟨rfl, rfl, a, x, rfl, e1, g1⟩ := f_ld_I h hl hg
    exact lv_iload hx9 hb hd e1 (kk _ _ _ hl hg ⟨g1, hs⟩)
  · obtain ⟨rfl, rfl, a, x, rfl, e1, g1⟩ := f_ld_L h hl hg
    exact lv_lload_n hx9 hb hd rfl e1 (kk _ _ _ hl hg ⟨g1, hs⟩)
  · obtain ⟨rfl, rfl, a, x, rfl, e1, g1⟩ := f_ld_L h hl hg
    exact lv_lload hx9 hb hd e1 (kk _ _ _ hl hg ⟨g1, hs⟩)
  · obtain ⟨rfl, rfl, a, v, rfl, e1, g1, rfl | ⟨q, rfl⟩⟩ := f_ld_R h hl hg
    · exact lv_aload_nN hx9 hb hd rfl e1 (kk _ _ _ hl hg ⟨g1, hs⟩)
    · exact lv_aload_n hx9 hb hd rfl e1 (kk _ _ _ hl hg ⟨g1, hs⟩)
  · obtain ⟨rfl, rfl, a, v, rfl, e1, g1, rfl | ⟨q, rfl⟩⟩ := f_ld_R h hl hg
    · exact lv_aloadN hx9 hb hd e1 (kk _ _ _ hl hg ⟨g1, hs⟩)
    · exact lv_aload hx9 hb hd e1 (kk _ _ _ hl hg ⟨g1, hs⟩)
  · obtain ⟨rfl, a, rfl, hk, hi, rfl⟩ := f_sr_ok h
    obtain ⟨v, vs1, rfl, g1, hs1⟩ := hvs_cons hs
    obtain ⟨x, rfl⟩ := hv_isI g1 hk
    exact lv_istore_n hx9 hb hd rfl hl hi rfl (fun ls' hl' => kk _ _ _ hl' (hlv_st1 hg g1) hs1)
  · obtain ⟨rfl, a, rfl, hk, hi, rfl⟩ := f_sr_ok h
    obtain ⟨v, vs1, rfl, g1, hs1⟩ := hvs_cons hs
    obtain ⟨x, rfl⟩ := hv_isI g1 hk
    exact lv_istore hx9 hb hd hl hi rfl (fun ls' hl' => kk _ _ _ hl' (hlv_st1 hg g1) hs1)
  · obtain ⟨rfl, a, rfl, hk, hi, rfl⟩ := f_sr_ok h
    obtain ⟨v, vs1, rfl, g1, hs1⟩ := hvs_cons hs
    rcases hv_isR g1 hk with rfl | ⟨q, rfl⟩
    · exact lv_astore_nN hx9 hb hd rfl hl hi rfl (fun ls' hl' => kk _ _ _ hl' (hlv_st1 hg g1) hs1)
    · exact lv_astore_n hx9 hb hd rfl hl hi rfl (fun ls' hl' => kk _ _ _ hl' (hlv_st1 hg g1) hs1)
  · obtain ⟨rfl, a, rfl, hk, hi, rfl⟩ := f_sr_ok h
    obtain ⟨v, vs1, rfl, g1, hs1⟩ := hvs_cons hs
    rcases hv_isR g1 hk with rfl | ⟨q, rfl⟩
    · exact lv_astoreN hx9 hb hd hl hi rfl (fun ls' hl' => kk _ _ _ hl' (hlv_st1 hg g1) hs1)
    · exact lv_astore hx9 hb hd hl hi rfl (fun ls' hl' => kk _ _ _ hl' (hlv_st1 hg g1) hs1)
  · obtain ⟨rfl, a, rfl, hk, hi, rfl⟩ := f_sr2_ok h
    obtain ⟨v, vs1, rfl, g1, hs1⟩ := hvs_cons hs
    obtain ⟨x, rfl⟩ := hv_isL g1 hk
    exact lv_lstore_n hx9 hb hd rfl hl hi rfl (fun ls' hl' => kk _ _ _ hl' (hlv_st2 hg g1) hs1)
  · obtain ⟨rfl, a, rfl, hk, hi, rfl⟩ := f_sr2_ok h
    obtain ⟨v, vs1, rfl, g1, hs1⟩ := hvs_cons hs
    obtain ⟨x, rfl⟩ := hv_isL g1 hk
    exact lv_lstore hx9 hb hd hl hi rfl (fun ls' hl' => kk _ _ _ hl' (hlv_st2 hg g1) hs1)
  · split at h
    · split at h
      · rename_i a st0 q
        cases h
        obtain ⟨v, vs1, rfl, g1, hs⟩ := hvs_cons hs
        exact lv_dup hx9 hb hd (hv_cat1 g1 q) (kk _ _ _ hl hg ⟨g1, g1, hs⟩)
      · cases h
    · cases h
  · split at h
    · split at h
      · rename_i a c0 st0 q
        simp only [Bool.or_eq_false_iff] at q
        cases h
        obtain ⟨v, vs1, rfl, g1, hs⟩ := hvs_cons hs
        obtain ⟨v2, vs2, rfl, g2, hs⟩ := hvs_cons hs
        exact lv_dup_x1 hx9 hb hd (hv_cat1 g1 q.1) (hv_cat1 g2 q.2) (kk _ _ _ hl hg ⟨g1, g2, g1, hs⟩)
      · cases h
    · cases h
  · split at h
    · split at h
      · rename_i a c0 st0 q
        simp only [Bool.or_eq_false_iff] at q
        cases h
        obtain ⟨v, vs1, rfl, g1, hs⟩ := hvs_cons hs
        obtain ⟨v2, vs2, rfl, g2, hs⟩ := hvs_cons hs
        exact lv_dup2_11 hx9 hb hd (hv_cat1 g1 q.1) (hv_cat1 g2 q.2) (kk _ _ _ hl hg ⟨g1, g2, g1, g2, hs⟩)
      · cases h
    · cases h
  · split at h
    · split at h
      · rename_i a st0 q
        cases h
        obtain ⟨v, vs1, rfl, g1, hs⟩ := hvs_cons hs
        exact lv_pop hx9 hb hd (hv_cat1 g1 q) (kk _ _ _ hl hg hs)
      · cases h
    · cases h
  · cases h
end MOV
end
section
/-! steps that reckon -/
theorem wb_tb (n : Nat) : (lN n).toBitVec = BitVec.ofNat 64 n := rfl
theorem wb_inj {a b : Int64} (h : a.toBitVec = b.toBitVec) : a = b := Int64.toBitVec_inj.mp h
theorem wb_c : ∀ k, k < 64 → ((nI k).toInt64 &&& 63) = lN k := by decide +kernel
theorem wb_sm : ∀ k, k < 64 → (BitVec.ofNat 64 k).smod 64 = BitVec.ofNat 64 k := by decide +kernel
theorem wb_shl (n : Nat) {k : Nat} (hk : k < 64) : lN n <<< ((nI k).toInt64 &&& 63) = lN (n * 2 ^ k) := by
  rw [wb_c k hk]
  apply wb_inj
  rw [Int64.toBitVec_shiftLeft, wb_tb, wb_tb, wb_tb, wb_sm k hk]
  apply BitVec.eq_of_toNat_eq
  rw [BitVec.shiftLeft_eq', BitVec.toNat_shiftLeft, BitVec.toNat_ofNat, BitVec.toNat_ofNat, BitVec.toNat_ofNat, Nat.mod_eq_of_lt (show k < 2 ^ 64 by omega), Nat.shiftLeft_eq, Nat.mul_mod, Nat.mod_mod, ← Nat.mul_mod]
theorem en_lN {n : Nat} (h : n < 9223372036854775808) : (lN n).toInt = (n : Int) := Int64.toInt_ofNat_of_lt (by omega)
theorem en_nnL {x : Int64} (h : 0 ≤ x.toInt) : ∃ n : Nat, x = lN n ∧ n < 9223372036854775808 ∧ x.toInt = (n : Int) := by
  have r := fb_rngL x
  have e : (lN x.toInt.toNat).toInt = x.toInt := by rw [en_lN (by omega)]; omega
  exact ⟨x.toInt.toNat, (fa_eq64 _ _).mpr e.symm, by omega, by omega⟩
theorem en_shrL (x : Int64) (k : Nat) (hk : k < 64) : (x >>> ((nI k).toInt64 &&& 63)).toInt = x.toInt / 2 ^ k := by
  rw [wb_c k hk]
  show ((x >>> lN k).toBitVec).toInt = x.toBitVec.toInt / 2 ^ k
  rw [Int64.toBitVec_shiftRight, wb_tb, wb_sm k hk, BitVec.toInt_sshiftRight', BitVec.toNat_ofNat, Nat.mod_eq_of_lt (show k < 2 ^ 64 by omega), Int.shiftRight_eq_div_pow]
  rfl
section ARI
variable {I : IN} {E : EB} {n : Nat}
theorem hr_topL (x : Int64) : hr I f_topL (.long x) := ⟨x, rfl, (fb_rngL x).1, by have := (fb_rngL x).2; simp only [lMax]; omega⟩
theorem hr_mkL {x : Int64} {z lo hi : Int} (hx : lMin ≤ z → z ≤ lMax → x.toInt = z) (h1 : lo ≤ z) (h2 : z ≤ hi) : hr I (f_mkL lo hi) (.long x) := by
  unfold f_mkL
  split
  · rename_i h
    simp only [Bool.and_eq_true, decide_eq_true_eq] at h
    have e := hx (by omega) (by omega)
    exact ⟨x, rfl, by omega, by omega⟩
  · exact hr_topL x
theorem en_andL {x y : Int64} (h : 0 ≤ y.toInt) : 0 ≤ (x &&& y).toInt ∧ (x &&& y).toInt ≤ y.toInt := by
  obtain ⟨k, rfl, hn, e⟩ := en_nnL h
  have hx : x = lN x.toBitVec.toNat := by
    apply wb_inj
    rw [wb_tb]
    simp
  have hle : x.toBitVec.toNat &&& k ≤ k := Nat.and_le_right
  rw [hx, fb_andL, en_lN (by omega), e]
  omega
theorem en_andcL (x y : Int64) : x &&& y = y &&& x := by
  apply wb_inj
  simp only [Int64.toBitVec_and]
  exact BitVec.and_comm _ _
def f_mem (i : Instr) : Bool := match i with
  | .ladd => true
  | .land => true
  | .lor => true
  | .lcmp => true
  | .lshl => true
  | .lshr => true
  | .lushr => true
  | _ => false
/-- a binary step: y over x on the stack -/
def f_two (ins : Instr) (E : EB) (x y : BV) : Option RB := if f_mem ins = true then f_binL ins E x y else f_bin ins E x y
variable {p : Program} {l : Launch} {e : Env} {R : Room} {s : State} {m : MethodId} {args : Array Value} {below : List Frame} {meth : Method} {c : Code} {H : Heap} {locs : List Loc} {cells slots : Nat} {Q : State → Prop}
variable {cc : ByteArray} {pc nL : Nat} {ls : Array Slot}
theorem f_bin_ints {ins : Instr} {x y : BV} {r : RB} (h : f_bin ins E x y = some r) : ∃ q1 q2, f_iv E x = some q1 ∧ f_iv E y = some q2 := by
  rcases h1 : f_iv E x with _ | q1
  · unfold f_bin f_add f_sub f_mul f_and f_or f_xor f_shl f_shr f_ushr f_rem f_div at h
    rw [h1] at h
    split at h <;> cases h
  · rcases h2 : f_iv E y with _ | q2
    · unfold f_bin f_add f_sub f_mul f_and f_or f_xor f_shl f_shr f_ushr f_rem f_div at h
      rw [h1, h2] at h
      split at h <;> cases h
    · exact ⟨q1, q2, rfl, rfl⟩
theorem f_bin_ok {ins : Instr} {x y : BV} {r : RB} {vx vy : Value} {rest : List Value} (hx9 : p.tables.exec = Jvm.exec) (hb : c.code = cc) (hd : decode cc pc = .ok (ins, 1)) (hE : henv I.1 n E) (hx : hv I x vx) (hy : hv I y vy) (h : f_bin ins E x y = some r)
    (kk : ∀ v, hr I r v → W p l e R s m args below meth c H locs cells slots Q (F0 m (pc + 1) ls (v :: rest))) : W p l e R s m args below meth c H locs cells slots Q (F0 m pc ls (vy :: vx :: rest)) := by
  obtain ⟨⟨q1, q1'⟩, ⟨q2, q2'⟩, e1, e2⟩ := f_bin_ints h
  obtain ⟨i, rfl, -⟩ := hv_int hE hx e1
  obtain ⟨j, rfl, -⟩ := hv_int hE hy e2
  unfold f_bin at h
  split at h
  · exact lv_iadd hx9 hb hd (kk _ (f_add_ok hE hx hy h))
  · exact lv_isub hx9 hb hd (kk _ (f_sub_ok hE hx hy h))
  · exact lv_imul hx9 hb hd (kk _ (f_mul_ok hE hx hy h))
  · exact lv_iand hx9 hb hd (kk _ (f_and_ok hE hx hy h))
  · exact lv_ior hx9 hb hd (kk _ (f_or_ok hE hx hy h))
  · exact lv_ixor hx9 hb hd (kk _ (f_xor_ok hE hx hy h))
  · exact lv_ishl hx9 hb hd (kk _ (f_shl_ok hE hx hy h))
  · exact lv_ishr hx9 hb hd (kk _ (f_shr_ok hE hx hy h))
  · exact lv_iushr hx9 hb hd rfl (kk _ (f_ushr_ok hE hy h))
  · exact lv_irem hx9 hb hd (f_rem_ok hE hx hy h).1 (kk _ (f_rem_ok hE hx hy h).2)
  · exact lv_idiv hx9 hb hd (f_div_ok hE hx hy h).1 (kk _ (f_div_ok hE hx hy h).2)
  · cases h
theorem f_binL_ok {ins : Instr} {x y : BV} {r : RB} {vx vy : Value} {rest : List Value} (hx9 : p.tables.exec = Jvm.exec) (hb : c.code = cc) (hd : decode cc pc = .ok (ins, 1)) (hE : henv I.1 n E) (hx : hv I x vx) (hy : hv I y vy) (h : f_binL ins E x y = some r)
    (kk : ∀ v, hr I r v → W p l e R s m args below meth c H locs cells slots Q (F0 m (pc + 1) ls (v :: rest))) : W p l e R s m args below meth c H locs cells slots Q (F0 m pc ls (vy :: vx :: rest)) := by
  unfold f_binL at h
  split at h
  · rename_i la ha
    obtain ⟨i, rfl, i1, i2⟩ := hx
    split at h
    · rename_i lb hb1
      obtain ⟨j, rfl, j1, j2⟩ := hy
      split at h
      · cases h
        exact lv_ladd hx9 hb hd (kk _ (hr_mkL (z := i.toInt + j.toInt) (fun h1 h2 => fb_addL (by simp only [lMin] at h1; omega) (by simp only [lMax] at h2; omega)) (by omega) (by omega)))
      · refine lv_land hx9 hb hd (kk _ ?_)
        split at h
        · rename_i q
          have q := of_decide_eq_true q
          have w := en_andL (x := i) (y := j) (by omega)
          split at h
          · rename_i q2
            simp only [Bool.and_eq_true, decide_eq_true_eq] at q2
            cases h
            have w2 := en_andL (x := j) (y := i) (by omega)
            rw [en_andcL j i] at w2
            exact ⟨_, rfl, w.1, by omega⟩
          · cases h
            exact ⟨_, rfl, w.1, by omega⟩
        · cases h; exact hr_topL _
      · refine lv_lor hx9 hb hd (kk _ ?_)
        split at h
        · rename_i q
          simp only [Bool.and_eq_true, decide_eq_true_eq] at q
          cases h
          obtain ⟨k1, rfl, g1, g2⟩ := en_nnL (x := i) (by omega)
          obtain ⟨k2, rfl, g3, g4⟩ := en_nnL (x := j) (by omega)
          have hlt : k1 ||| k2 < 9223372036854775808 := Nat.or_lt_two_pow (n := 63) g1 g3
          have e : (lN k1 ||| lN k2).toInt = ((k1 ||| k2 : Nat) : Int) := by rw [fb_orL, en_lN hlt]
          refine hr_mkL (z := ((k1 ||| k2 : Nat) : Int)) (fun _ _ => e) (by omega) ?_
          by_cases h0 : 0 < max ha hb1
          · rw [f_ones_eq h0]
            have w := Nat.or_lt_two_pow (f_ones_lt (m := k1) (h := max ha hb1) (by omega)) (f_ones_lt (m := k2) (h := max ha hb1) (by omega))
            generalize 2 ^ (Nat.log2 (max ha hb1).toNat + 1) = z at w ⊢
            omega
          · rw [f_ones_0 (by omega)]
            have z1 : k1 = 0 := by omega
            have z2 : k2 = 0 := by omega
            rw [z1, z2]
            decide
        · cases h; exact hr_topL _
      · refine W.lcmp hx9 hb hd (kk _ ?_)
        have w := en_cmp i j
        split at h
        · rename_i q
          have q := of_decide_eq_true q
          cases h
          refine ⟨_, rfl, ?_⟩
          unfold lg_cmp
          have h1 : i < j := (fa_lt64 _ _).mpr (by omega)
          have h2 : ¬ j < i := fun h => by have := (fa_lt64 _ _).mp h; omega
          have h3 : i ≠ j := fun h => by rw [h] at h1; have := (fa_lt64 _ _).mp h1; omega
          simp [h2, h3]
        · split at h
          · rename_i q
            have q := of_decide_eq_true q
            cases h
            refine ⟨_, rfl, ?_⟩
            unfold lg_cmp
            have h1 : ¬ i < j := fun h => by have := (fa_lt64 _ _).mp h; omega
            have h2 : j < i := (fa_lt64 _ _).mpr (by omega)
            have h3 : i ≠ j := fun h => by rw [h] at h2; have := (fa_lt64 _ _).mp h2; omega
            simp [h1, h2, h3]
          · split at h
            · rename_i q
              simp only [Bool.and_eq_true, decide_eq_true_eq] at q
              cases h
              have : i = j := (fa_eq64 _ _).mpr (by omega)
              subst this
              refine ⟨_, rfl, ?_⟩
              unfold lg_cmp
              simp
            · cases h
              exact ⟨_, rfl, w.1, w.2⟩
      · cases h
    · split at h
      · rename_i lb hb1 hiv
        obtain ⟨j, rfl, j1, j2⟩ := hv_int hE hy hiv
        split at h
        · refine lv_lshl hx9 hb hd rfl (kk _ ?_)
          split at h
          · rename_i q
            simp only [Bool.and_eq_true, decide_eq_true_eq] at q
            cases h
            obtain ⟨k, rfl, hk, ek⟩ := en_nn (x := j) (by omega)
            obtain ⟨m0, rfl, hm, em⟩ := en_nnL (x := i) (by omega)
            have hk2 : k = lb.toNat := by omega
            have hk3 : k < 64 := by omega
            rw [← hk2]
            refine hr_mkL (z := (m0 : Int) * 2 ^ k) (fun h1 h2 => ?_) ?_ ?_
            · have e5 : ((m0 * 2 ^ k : Nat) : Int) = (m0 : Int) * 2 ^ k := by rw [Int.natCast_mul, Int.natCast_pow]; rfl
              rw [wb_shl m0 hk3, en_lN (by simp only [lMax] at h2; omega), e5]
            · exact Int.mul_le_mul_of_nonneg_right (by omega) (Int.le_of_lt (en_pow_0 _))
            · exact Int.mul_le_mul_of_nonneg_right (by omega) (Int.le_of_lt (en_pow_0 _))
          · cases h; exact hr_topL _
        · refine lv_lshr hx9 hb hd rfl (kk _ ?_)
          split at h
          · rename_i q
            simp only [Bool.and_eq_true, decide_eq_true_eq] at q
            cases h
            obtain ⟨k, rfl, hk, ek⟩ := en_nn (x := j) (by omega)
            have hk2 : k = lb.toNat := by omega
            have hk3 : k < 64 := by omega
            rw [← hk2]
            refine ⟨_, rfl, ?_, ?_⟩
            · rw [en_shrL _ _ hk3]; exact Int.ediv_nonneg (by omega) (Int.le_of_lt (en_pow_0 _))
            · rw [en_shrL _ _ hk3]; exact Int.ediv_le_ediv (en_pow_0 _) (by omega)
          · cases h; exact hr_topL _
        · cases h
          exact lv_lushr hx9 hb hd rfl (kk _ (hr_topL _))
        · cases h
      · cases h
  · cases h
theorem f_two_ok {ins : Instr} {x y : BV} {r : RB} {vx vy : Value} {rest : List Value} (hx9 : p.tables.exec = Jvm.exec) (hb : c.code = cc) (hd : decode cc pc = .ok (ins, 1)) (hE : henv I.1 n E) (hx : hv I x vx) (hy : hv I y vy) (h : f_two ins E x y = some r)
    (kk : ∀ v, hr I r v → W p l e R s m args below meth c H locs cells slots Q (F0 m (pc + 1) ls (v :: rest))) : W p l e R s m args below meth c H locs cells slots Q (F0 m pc ls (vy :: vx :: rest)) := by
  unfold f_two at h
  split at h
  · exact f_binL_ok hx9 hb hd hE hx hy h kk
  · exact f_bin_ok hx9 hb hd hE hx hy h kk
theorem f_un_ok {ins : Instr} {x : BV} {r : RB} {vx : Value} {rest : List Value} (hx9 : p.tables.exec = Jvm.exec) (hb : c.code = cc) (hd : decode cc pc = .ok (ins, 1)) (hE : henv I.1 n E) (hx : hv I x vx) (h : f_un ins E x = some r)
    (kk : ∀ v, hr I r v → W p l e R s m args below meth c H locs cells slots Q (F0 m (pc + 1) ls (v :: rest))) : W p l e R s m args below meth c H locs cells slots Q (F0 m pc ls (vx :: rest)) := by
  unfold f_un at h
  split at h
  · split at h
    · rename_i la ha e1
      obtain ⟨i, rfl, h1, h2⟩ := hv_int hE hx e1
      cases h
      exact lv_ineg hx9 hb hd (kk _ (hr_mkw (z := -i.toInt) (fun h3 h4 => fb_negI (by omega)) (by omega) (by omega)))
    · cases h
  · split at h
    · rename_i la ha e1
      obtain ⟨i, rfl, h1, h2⟩ := hv_int hE hx e1
      split at h
      · rename_i q
        simp only [Bool.and_eq_true, decide_eq_true_eq] at q
        cases h
        exact lv_i2b hx9 hb hd (en_i8 (by omega) (by omega)) (kk _ hx)
      · cases h
        have w := fb_byte_rng i
        exact lv_i2b hx9 hb hd rfl (kk _ ⟨_, rfl, by omega, by omega⟩)
    · cases h
  · split at h
    · rename_i la ha e1
      obtain ⟨i, rfl, h1, h2⟩ := hv_int hE hx e1
      cases h
      exact lv_i2l hx9 hb hd rfl (kk _ ⟨_, rfl, by rw [en_wide]; exact h1, by rw [en_wide]; exact h2⟩)
    · cases h
  · split at h
    · rename_i la ha
      obtain ⟨i, rfl, h1, h2⟩ := hx
      cases h
      refine lv_l2i hx9 hb hd rfl (kk _ (hr_mkw (z := i.toInt) (fun h3 h4 => ?_) h1 h2))
      rw [Int64.toInt_toInt32]
      exact fb_bmod h3 h4
    · cases h
  · cases h
end ARI
end
section
/-! branches -/
/-- the number that an int is -/
def f_ev (ν : List Int) (a : BV) : Option Int := match a with
  | .inl n => some n
  | .inr (.inl (k, c)) => (match ν[k]? with | some y => some (y + c) | none => none)
  | _ => none
def f_clamp (E : EB) (a : BV) (lo hi : Int) : Option EB := match a with
  | .inl n => if (decide (lo ≤ n) && decide (n ≤ hi)) = true then some E else none
  | .inr (.inl (k, c)) => (match f_lk E k with
    | some (la, ha) => if decide (max la (lo - c) ≤ min ha (hi - c)) = true then (if (decide (lo - c ≤ la) && decide (ha ≤ hi - c)) = true then some E else some ((k, max la (lo - c), min ha (hi - c)) :: E)) else none
    | none => none)
  | _ => none
def f_clamp2 (E : EB) (a : BV) (la ha : Int) (b : BV) (lb hb : Int) : Option EB := match f_clamp E a la ha with
  | some E1 => f_clamp E1 b lb hb
  | none => none
def f_sameN (a b : BV) : Bool := match a, b with
  | .inr (.inl (k, c)), .inr (.inl (k', c')) => Nat.beq k k' && decide (c = c')
  | _, _ => false
/-- where two ints are so: 0 equal, 1 not, 2 less, 3 not less -/
def f_rel (E : EB) (r : Nat) (a b : BV) : Option (List EB) := match f_iv E a, f_iv E b with
  | some (la, ha), some (lb, hb) =>
    (match r with
    | 0 => some (f_clamp2 E a lb hb b la ha).toList
    | 1 => if f_sameN a b = true then some [] else
        if decide (lb = hb) = true then (if decide (la = lb) = true then some (f_clamp E a (lb + 1) iMax).toList else if decide (ha = lb) = true then some (f_clamp E a iMin (lb - 1)).toList else some [E])
        else if decide (la = ha) = true then (if decide (lb = la) = true then some (f_clamp E b (la + 1) iMax).toList else if decide (hb = la) = true then some (f_clamp E b iMin (la - 1)).toList else some [E])
        else some [E]
    | 2 => some (f_clamp2 E a iMin (hb - 1) b (la + 1) iMax).toList
    | _ => some (f_clamp2 E a lb iMax b iMin ha).toList)
  | _, _ => none
def f_nmd (a : BV) : Bool := match a with
  | .inr (.inl _) => true
  | _ => false
/-- what is known then of the two: not more -/
def f_les (r : Nat) (a b : BV) : List (BV × BV) := if (f_nmd a && f_nmd b) = true then (match r with
  | 2 => [(f_off a 1, b)]
  | 3 => [(b, a)]
  | _ => []) else []
def hle (ν : List Int) (q : BV × BV) : Prop := ∃ z1 z2, f_ev ν q.1 = some z1 ∧ f_ev ν q.2 = some z2 ∧ z1 ≤ z2
abbrev BRB : Type := Nat × EB × List (BV × BV) × List BV
def f_b1 (x : List EB) (L : List (BV × BV)) (pc : Nat) (st : List BV) : List BRB := x.map (fun E => (pc, E, L, st))
def f_cmp (E : EB) (cnd : Jvm.ClassFile.Cond) (x y : BV) (t f : Nat) (st : List BV) : Option (List BRB) :=
  match (if (e_rc cnd).2.2 = true then f_rel E (e_rc cnd).1 y x else f_rel E (e_rc cnd).1 x y), (if (e_rc cnd).2.2 = true then f_rel E (e_rc cnd).2.1 y x else f_rel E (e_rc cnd).2.1 x y) with
  | some a, some b => some (f_b1 a (if (e_rc cnd).2.2 = true then f_les (e_rc cnd).1 y x else f_les (e_rc cnd).1 x y) t st ++ f_b1 b (if (e_rc cnd).2.2 = true then f_les (e_rc cnd).2.1 y x else f_les (e_rc cnd).2.1 x y) f st)
  | _, _ => none
def f_tab (E : EB) (pc : Nat) (a : BV) (st : List BV) (v : Int) (offs : List Int) : Option (List BRB) := match offs with
  | [] => some []
  | o :: r => (match e_tgt pc o, f_tab E pc a st (v + 1) r with
    | some t, some q => some (f_b1 (f_clamp E a v v).toList [] t st ++ q)
    | _, _ => none)
/-- is a reference surely not null -/
def f_nn (E : EB) (a : BV) : Bool := match a with
  | .inr (.inr (.inr (.inl (some (_, nn, nm))))) => nn || (match nm with | some k => (match f_lk E k with | some (lo, _) => decide (1 ≤ lo) | none => false) | none => false)
  | .inr (.inr (.inr (.inr _))) => true
  | _ => false
def f_nul (E : EB) (a : BV) : Option (Option EB × Option EB) := match a with
  | .inr (.inr (.inr (.inl none))) => some (some E, none)
  | .inr (.inr (.inr (.inl (some (_, nn, nm))))) => if f_nn E a = true then some (none, some E) else (match nm with
    | some k => (match f_lk E k with
      | some _ => some (f_clamp E (bV k 0) 0 0, f_clamp E (bV k 0) 1 1)
      | none => some (some E, some E))
    | none => some (some E, some E))
  | .inr (.inr (.inr (.inr _))) => some (none, some E)
  | _ => none
def f_o2l (x : Option EB) (pc : Nat) (st : List BV) : List BRB := match x with
  | some E => [(pc, E, [], st)]
  | none => []
def f_branch (E : EB) (pc : Nat) (ins : Instr) (len : Nat) (st : List BV) : Option (List BRB) := match ins with
  | .goto off => (match e_tgt pc off with | some t => if Nat.beq len 3 = true then some [(t, E, [], st)] else none | none => none)
  | .ifCond cnd off => (match st with
    | x :: st' => (match e_tgt pc off with | some t => if Nat.beq len 3 = true then f_cmp E cnd x (bI 0) t (pc + 3) st' else none | none => none)
    | _ => none)
  | .if_icmp cnd off => (match st with
    | y :: x :: st' => (match e_tgt pc off with | some t => if Nat.beq len 3 = true then f_cmp E cnd x y t (pc + 3) st' else none | none => none)
    | _ => none)
  | .ifnull off => (match st with
    | x :: st' => (match e_tgt pc off, f_nul E x with | some t, some (a, b) => if Nat.beq len 3 = true then some (f_o2l a t st' ++ f_o2l b (pc + 3) st') else none | _, _ => none)
    | _ => none)
  | .ifnonnull off => (match st with
    | x :: st' => (match e_tgt pc off, f_nul E x with | some t, some (a, b) => if Nat.beq len 3 = true then some (f_o2l a (pc + 3) st' ++ f_o2l b t st') else none | _, _ => none)
    | _ => none)
  | .tableswitch d lo hi offs => (match st with
    | x :: st' => (match f_iv E x, e_tgt pc d, f_tab E pc x st' lo offs.toList with
      | some _, some t, some q => if decide (hi = lo + offs.toList.length - 1) = true then some (f_b1 (f_clamp E x iMin (lo - 1)).toList [] t st' ++ (f_b1 (f_clamp E x (hi + 1) iMax).toList [] t st' ++ q)) else none
      | _, _, _ => none)
    | _ => none)
  | _ => none
section BBR
variable {I : IN} {E : EB} {n : Nat}
theorem hv_ev {a : BV} {x : Int32} (h : hv I a (.int x)) : f_ev I.1 a = some x.toInt := by
  rcases a with c | ⟨k, c⟩ | ⟨l0, h0⟩ | (_ | ⟨κ, nn, nm⟩) | j
  · obtain ⟨y, e, h1⟩ := h; cases e; rw [h1]; rfl
  · obtain ⟨y, z, e, h1, h2⟩ := h; cases e; simp only [f_ev, h1, h2]
  · obtain ⟨y, e, -⟩ := h; cases e
  · have h : Value.int x = .null := h; cases h
  · obtain ⟨h1 | ⟨q, -, h1⟩, -⟩ := h
    · cases h1.2
    · cases h1
  · have h : Value.int x = .ref (I.2.2 j) := h; cases h
theorem ev_hv {a : BV} {x : Int32} (h : f_ev I.1 a = some x.toInt) : hv I a (.int x) := by
  rcases a with c | ⟨k, c⟩ | ⟨l0, h0⟩ | (_ | ⟨κ, nn, nm⟩) | j
  · simp only [f_ev, Option.some.injEq] at h; exact ⟨x, rfl, h.symm⟩
  · simp only [f_ev] at h
    split at h
    · rename_i y hy
      simp only [Option.some.injEq] at h
      exact ⟨x, y, rfl, hy, h.symm⟩
    · cases h
  all_goals (simp only [f_ev] at h; cases h)
theorem ev_off {ν : List Int} {a : BV} {z d : Int} (h : f_ev ν a = some z) : f_ev ν (f_off a d) = some (z + d) := by
  rcases a with c | ⟨k, c⟩ | ⟨l0, h0⟩ | (_ | ⟨κ, nn, nm⟩) | j
  · simp only [f_ev, Option.some.injEq] at h; simp only [f_off, f_ev, h]
  · simp only [f_ev] at h
    split at h
    · rename_i y hy
      simp only [Option.some.injEq] at h
      simp only [f_off, f_ev, hy, Option.some.injEq]
      omega
    · cases h
  all_goals (simp only [f_ev] at h; cases h)
theorem ev_xt {J : IN} {a : BV} {z : Int} (h : hxt I J) (ha : f_ev I.1 a = some z) : f_ev J.1 a = some z := by
  rcases a with c | ⟨k, c⟩ | ⟨l0, h0⟩ | (_ | ⟨κ, nn, nm⟩) | j
  · exact ha
  · simp only [f_ev] at ha ⊢
    split at ha
    · rename_i y hy
      rw [h.at hy]; exact ha
    · cases ha
  all_goals (simp only [f_ev] at ha; cases ha)
theorem ev_iv {ν : List Int} {a : BV} {z lo hi : Int} (hE : henv ν n E) (h : f_ev ν a = some z) (hi9 : f_iv E a = some (lo, hi)) : lo ≤ z ∧ z ≤ hi := by
  rcases a with c | ⟨k, c⟩ | ⟨l0, h0⟩ | (_ | ⟨κ, nn, nm⟩) | j
  · simp only [f_ev, Option.some.injEq] at h
    simp only [f_iv, Option.some.injEq, Prod.mk.injEq] at hi9
    omega
  · simp only [f_ev] at h
    simp only [f_iv] at hi9
    split at h
    · rename_i y hy
      split at hi9
      · rename_i l1 h1 hk
        obtain ⟨y', g1, g2, g3⟩ := hE.2 k _ hk
        rw [hy] at g1
        cases g1
        simp only [Option.some.injEq, Prod.mk.injEq] at hi9 h
        simp only at g2 g3
        omega
      · cases hi9
    · cases h
  all_goals (simp only [f_ev] at h; cases h)
theorem henv_set {ν : List Int} {k : Nat} {y lo hi : Int} (hE : henv ν n E) (hk : ν[k]? = some y) (h1 : lo ≤ y) (h2 : y ≤ hi) : henv ν n ((k, lo, hi) :: E) := by
  refine ⟨hE.1, fun j q hj => ?_⟩
  simp only [f_lk] at hj
  split at hj
  · rename_i h3
    have := Nat.eq_of_beq_eq_true h3
    subst this
    cases hj
    exact ⟨y, hk, h1, h2⟩
  · exact hE.2 j q hj
theorem f_clamp_ev {ν : List Int} {a : BV} {z lo hi : Int} (hE : henv ν n E) (hx : f_ev ν a = some z) (hk : ∃ q, f_iv E a = some q) (h1 : lo ≤ z) (h2 : z ≤ hi) : ∃ E1, f_clamp E a lo hi = some E1 ∧ henv ν n E1 ∧ ∀ c q, f_iv E c = some q → ∃ q', f_iv E1 c = some q' := by
  rcases a with c | ⟨k, c⟩ | ⟨l0, h0⟩ | (_ | ⟨κ, nn, nm⟩) | j
  · simp only [f_ev, Option.some.injEq] at hx
    refine ⟨E, ?_, hE, fun c q hq => ⟨q, hq⟩⟩
    simp only [f_clamp]
    rw [if_pos]
    simp only [Bool.and_eq_true, decide_eq_true_eq]
    omega
  · simp only [f_ev] at hx
    obtain ⟨q, hq⟩ := hk
    simp only [f_iv] at hq
    split at hx
    · rename_i y hy
      split at hq
      · rename_i l1 h1' hlk
        obtain ⟨y', g1, g2, g3⟩ := hE.2 k _ hlk
        rw [hy] at g1
        cases g1
        simp only [Option.some.injEq] at hx
        simp only at g2 g3
        simp only [f_clamp, hlk]
        rw [if_pos (by rw [decide_eq_true_eq]; omega)]
        split
        · exact ⟨E, rfl, hE, fun c q hq => ⟨q, hq⟩⟩
        · refine ⟨_, rfl, henv_set hE hy (by omega) (by omega), fun c q hq => ?_⟩
          rcases c with c | ⟨k', c'⟩ | ⟨l0, h0⟩ | (_ | ⟨κ, nn, nm⟩) | j
          · exact ⟨_, rfl⟩
          · simp only [f_iv, f_lk] at hq ⊢
            split
            · rename_i l2 h2' hh; exact ⟨_, rfl⟩
            · rename_i hh
              split at hh
              · cases hh
              · rw [hh] at hq; cases hq
          all_goals (simp only [f_iv] at hq; cases hq)
      · cases hq
    · cases hx
  all_goals (simp only [f_ev] at hx; cases hx)
theorem f_clamp_ok {a : BV} {x : Int32} {lo hi : Int} (hE : henv I.1 n E) (hx : hv I a (.int x)) (hk : ∃ q, f_iv E a = some q) (h1 : lo ≤ x.toInt) (h2 : x.toInt ≤ hi) : ∃ E1, f_clamp E a lo hi = some E1 ∧ henv I.1 n E1 ∧ ∀ c q, f_iv E c = some q → ∃ q', f_iv E1 c = some q' :=
  f_clamp_ev hE (hv_ev hx) hk h1 h2
theorem f_clamp2_ok {a c : BV} {x y : Int32} {la ha lb hb : Int} (hE : henv I.1 n E) (hx : hv I a (.int x)) (hy : hv I c (.int y)) (k1 : ∃ q, f_iv E a = some q) (k2 : ∃ q, f_iv E c = some q) (h1 : la ≤ x.toInt) (h2 : x.toInt ≤ ha) (h3 : lb ≤ y.toInt) (h4 : y.toInt ≤ hb) : ∃ E1, f_clamp2 E a la ha c lb hb = some E1 ∧ henv I.1 n E1 := by
  obtain ⟨E1, e1, g1, w1⟩ := f_clamp_ok hE hx k1 h1 h2
  obtain ⟨q, hq⟩ := k2
  obtain ⟨E2, e2, g2, -⟩ := f_clamp_ok g1 hy (w1 _ _ hq) h3 h4
  exact ⟨E2, by simp only [f_clamp2, e1, e2], g2⟩
theorem mem_toB {x : Option EB} {E1 : EB} (h : x = some E1) : E1 ∈ x.toList := by rw [h]; exact List.mem_cons_self
theorem f_rel_ok {a c : BV} {x y : Int32} {r : Nat} {o : List EB} (hE : henv I.1 n E) (hx : hv I a (.int x)) (hy : hv I c (.int y)) (h : f_rel E r a c = some o) (hr : e_holds r x.toInt y.toInt) : ∃ E1, E1 ∈ o ∧ henv I.1 n E1 := by
  unfold f_rel at h
  split at h
  · rename_i la ha1 lb hb1 e1 e2
    have p1 := hv_int2 hE hx e1
    have p2 := hv_int2 hE hy e2
    have r1 := fb_rng x
    have r2 := fb_rng y
    split at h
    · have hr : x.toInt = y.toInt := hr
      cases h
      obtain ⟨E1, g1, g2⟩ := f_clamp2_ok hE hx hy ⟨_, e1⟩ ⟨_, e2⟩ (show lb ≤ x.toInt by omega) (show x.toInt ≤ hb1 by omega) (show la ≤ y.toInt by omega) (show y.toInt ≤ ha1 by omega)
      exact ⟨E1, mem_toB g1, g2⟩
    · have hr : x.toInt ≠ y.toInt := hr
      split at h
      · rename_i q
        exfalso
        unfold f_sameN at q
        split at q
        · rename_i k1 c1 k2 c2
          simp only [Bool.and_eq_true, decide_eq_true_eq] at q
          have q1 := Nat.eq_of_beq_eq_true q.1
          subst q1
          obtain ⟨x', w, ex, hk, hx'⟩ := hx
          obtain ⟨y', w', ey, hk', hy'⟩ := hy
          cases ex
          cases ey
          rw [hk] at hk'
          cases hk'
          omega
        · cases q
      · split at h
        · rename_i q
          have q := of_decide_eq_true q
          split at h
          · rename_i q1
            have q1 := of_decide_eq_true q1
            cases h
            obtain ⟨E1, g1, g2, -⟩ := f_clamp_ok (lo := lb + 1) (hi := iMax) hE hx ⟨_, e1⟩ (by omega) (by simp only [iMax]; omega)
            exact ⟨E1, mem_toB g1, g2⟩
          · split at h
            · rename_i q1
              have q1 := of_decide_eq_true q1
              cases h
              obtain ⟨E1, g1, g2, -⟩ := f_clamp_ok (lo := iMin) (hi := lb - 1) hE hx ⟨_, e1⟩ (by simp only [iMin]; omega) (by omega)
              exact ⟨E1, mem_toB g1, g2⟩
            · cases h; exact ⟨E, List.mem_cons_self, hE⟩
        · split at h
          · rename_i q
            have q := of_decide_eq_true q
            split at h
            · rename_i q1
              have q1 := of_decide_eq_true q1
              cases h
              obtain ⟨E1, g1, g2, -⟩ := f_clamp_ok (lo := la + 1) (hi := iMax) hE hy ⟨_, e2⟩ (by omega) (by simp only [iMax]; omega)
              exact ⟨E1, mem_toB g1, g2⟩
            · split at h
              · rename_i q1
                have q1 := of_decide_eq_true q1
                cases h
                obtain ⟨E1, g1, g2, -⟩ := f_clamp_ok (lo := iMin) (hi := la - 1) hE hy ⟨_, e2⟩ (by simp only [iMin]; omega) (by omega)
                exact ⟨E1, mem_toB g1, g2⟩
              · cases h; exact ⟨E, List.mem_cons_self, hE⟩
          · cases h; exact ⟨E, List.mem_cons_self, hE⟩
    · have hr : x.toInt < y.toInt := hr
      cases h
      obtain ⟨E1, g1, g2⟩ := f_clamp2_ok hE hx hy ⟨_, e1⟩ ⟨_, e2⟩ (show iMin ≤ x.toInt by simp only [iMin]; omega) (show x.toInt ≤ hb1 - 1 by omega) (show la + 1 ≤ y.toInt by omega) (show y.toInt ≤ iMax by simp only [iMax]; omega)
      exact ⟨E1, mem_toB g1, g2⟩
    · rename_i n0 n1 n2
      have hr : y.toInt ≤ x.toInt := by
        rcases r with _ | _ | _ | r
        · exact absurd rfl n0
        · exact absurd rfl n1
        · exact absurd rfl n2
        · exact hr
      cases h
      obtain ⟨E1, g1, g2⟩ := f_clamp2_ok hE hx hy ⟨_, e1⟩ ⟨_, e2⟩ (show lb ≤ x.toInt by omega) (show x.toInt ≤ iMax by simp only [iMax]; omega) (show iMin ≤ y.toInt by simp only [iMin]; omega) (show y.toInt ≤ ha1 by omega)
      exact ⟨E1, mem_toB g1, g2⟩
  · cases h
theorem f_les_ok {a c : BV} {x y : Int32} {r : Nat} (hx : hv I a (.int x)) (hy : hv I c (.int y)) (hr : e_holds r x.toInt y.toInt) : ∀ q ∈ f_les r a c, hle I.1 q := by
  intro q hq
  unfold f_les at hq
  split at hq
  · split at hq
    · have hr : x.toInt < y.toInt := hr
      rcases List.mem_cons.mp hq with rfl | hq
      · exact ⟨_, _, ev_off (hv_ev hx), hv_ev hy, by omega⟩
      · cases hq
    · have hr : y.toInt ≤ x.toInt := hr
      rcases List.mem_cons.mp hq with rfl | hq
      · exact ⟨_, _, hv_ev hy, hv_ev hx, hr⟩
      · cases hq
    · cases hq
  · cases hq
theorem mem_b1B {x : List EB} {E1 : EB} {L : List (BV × BV)} {t : Nat} {st : List BV} (h : E1 ∈ x) : (t, E1, L, st) ∈ f_b1 x L t st := List.mem_map.mpr ⟨E1, h, rfl⟩
theorem f_cmp_ok {cnd : Jvm.ClassFile.Cond} {ax ay : BV} {x y : Int32} {t f : Nat} {st : List BV} {o : List BRB} (hE : henv I.1 n E) (hx : hv I ax (.int x)) (hy : hv I ay (.int y)) (h : f_cmp E cnd ax ay t f st = some o) :
    ((if (e_rc cnd).2.2 = true then e_holds (e_rc cnd).1 y.toInt x.toInt else e_holds (e_rc cnd).1 x.toInt y.toInt) → ∃ E1 L, (t, E1, L, st) ∈ o ∧ henv I.1 n E1 ∧ ∀ q ∈ L, hle I.1 q) ∧ ((if (e_rc cnd).2.2 = true then e_holds (e_rc cnd).2.1 y.toInt x.toInt else e_holds (e_rc cnd).2.1 x.toInt y.toInt) → ∃ E1 L, (f, E1, L, st) ∈ o ∧ henv I.1 n E1 ∧ ∀ q ∈ L, hle I.1 q) := by
  unfold f_cmp at h
  split at h
  · rename_i a b h1 h2
    cases h
    refine ⟨fun g => ?_, fun g => ?_⟩
    · by_cases q : (e_rc cnd).2.2 = true
      · rw [if_pos q] at g h1
        obtain ⟨E1, m1, m2⟩ := f_rel_ok hE hy hx h1 g
        exact ⟨E1, _, List.mem_append_left _ (mem_b1B m1), m2, by rw [if_pos q]; exact f_les_ok hy hx g⟩
      · rw [if_neg q] at g h1
        obtain ⟨E1, m1, m2⟩ := f_rel_ok hE hx hy h1 g
        exact ⟨E1, _, List.mem_append_left _ (mem_b1B m1), m2, by rw [if_neg q]; exact f_les_ok hx hy g⟩
    · by_cases q : (e_rc cnd).2.2 = true
      · rw [if_pos q] at g h2
        obtain ⟨E1, m1, m2⟩ := f_rel_ok hE hy hx h2 g
        exact ⟨E1, _, List.mem_append_right _ (mem_b1B m1), m2, by rw [if_pos q]; exact f_les_ok hy hx g⟩
      · rw [if_neg q] at g h2
        obtain ⟨E1, m1, m2⟩ := f_rel_ok hE hx hy h2 g
        exact ⟨E1, _, List.mem_append_right _ (mem_b1B m1), m2, by rw [if_neg q]; exact f_les_ok hx hy g⟩
  · cases h
theorem f_cmp_iv {cnd : Jvm.ClassFile.Cond} {ax ay : BV} {t f : Nat} {st : List BV} {o : List BRB} (h : f_cmp E cnd ax ay t f st = some o) : (∃ q, f_iv E ax = some q) ∧ ∃ q, f_iv E ay = some q := by
  have key : ∀ {k : Nat} {u v : BV} {o : List EB}, f_rel E k u v = some o → (∃ q, f_iv E u = some q) ∧ ∃ q, f_iv E v = some q := by
    intro k u v o h
    unfold f_rel at h
    split at h
    · rename_i e1 e2
      exact ⟨⟨_, e1⟩, ⟨_, e2⟩⟩
    · cases h
  unfold f_cmp at h
  split at h
  · rename_i t1 f1 h1 h2
    split at h1
    · have := key h1; exact ⟨this.2, this.1⟩
    · exact key h1
  · cases h
theorem f_tab_ok {pc : Nat} {x : Int32} {a : BV} {st : List BV} (hE : henv I.1 n E) (hx : hv I a (.int x)) (hk : ∃ q, f_iv E a = some q) : ∀ (offs : List Int) (v : Int) (q : List BRB), f_tab E pc a st v offs = some q → ∀ (k : Nat) (off : Int), offs[k]? = some off → x.toInt = v + (k : Int) → ∃ (t : Nat) (E1 : EB), (pc : Int) + off = (t : Int) ∧ (t, E1, [], st) ∈ q ∧ henv I.1 n E1 := by
  intro offs
  induction offs with
  | nil => intro v q _ k off h; simp at h
  | cons o r ih =>
    intro v q h k off hk9 hv
    simp only [f_tab] at h
    split at h
    · rename_i t q1 h1 h2
      cases h
      cases k with
      | zero =>
        simp at hk9
        subst hk9
        obtain ⟨E1, e1, g1, -⟩ := f_clamp_ok (lo := v) (hi := v) hE hx hk (by omega) (by omega)
        exact ⟨t, E1, e_tgt_ok h1, List.mem_append_left _ (mem_b1B (mem_toB e1)), g1⟩
      | succ k =>
        simp at hk9
        obtain ⟨t', E1, g1, g2, g3⟩ := ih (v + 1) q1 h2 k off hk9 (by omega)
        exact ⟨t', E1, g1, List.mem_append_right _ g2, g3⟩
    · cases h
theorem f_nn_ok {a : BV} {v : Value} (hE : henv I.1 n E) (h : hv I a v) (hn : f_nn E a = true) : ∃ q : Nat, v = .ref q := by
  rcases a with c | ⟨k, c⟩ | ⟨l0, h0⟩ | (_ | ⟨κ, nn, nm⟩) | j
  · cases hn
  · cases hn
  · cases hn
  · cases hn
  · obtain ⟨h1, h2⟩ := h
    rcases h1 with ⟨h3, h4⟩ | ⟨q, h3, h4⟩
    · exfalso
      subst h3
      simp only [f_nn, Bool.false_or] at hn
      split at hn
      · rename_i k
        split at hn
        · rename_i lo hi hk
          have hn := of_decide_eq_true hn
          obtain ⟨y, g1, g2⟩ := h2 k rfl
          obtain ⟨y', g3, g4, g5⟩ := hE.2 k _ hk
          rw [g1] at g3
          cases g3
          rcases g2 with ⟨g6, -⟩ | ⟨-, ⟨-, rfl⟩ | ⟨⟨q, rfl⟩, -⟩⟩
          · cases g6
          · simp only at g4; omega
          · cases h4
        · cases hn
      · cases hn
    · exact ⟨q, h4⟩
  · exact ⟨_, h⟩
theorem f_nul_ok {a : BV} {v : Value} {x y : Option EB} (hE : henv I.1 n E) (h : hv I a v) (hn : f_nul E a = some (x, y)) : (v = .null ∧ ∃ E1, x = some E1 ∧ henv I.1 n E1) ∨ ((∃ q : Nat, v = .ref q) ∧ ∃ E1, y = some E1 ∧ henv I.1 n E1) := by
  unfold f_nul at hn
  split at hn
  · cases hn
    exact Or.inl ⟨h, E, rfl, hE⟩
  · rename_i κ nn nm
    split at hn
    · rename_i q
      cases hn
      exact Or.inr ⟨f_nn_ok hE h q, E, rfl, hE⟩
    · rename_i hnn
      have two : v = .null ∨ ∃ q : Nat, v = .ref q := by
        rcases h.1 with ⟨-, h3⟩ | ⟨q, -, h3⟩
        · exact Or.inl h3
        · exact Or.inr ⟨q, h3⟩
      split at hn
      · rename_i k
        split at hn
        · rename_i q hq
          cases hn
          obtain ⟨h1, h2⟩ := h
          obtain ⟨y, g1, g2⟩ := h2 k rfl
          have hk : ∀ lo hi, lo ≤ y → y ≤ hi → ∃ E1, f_clamp E (bV k 0) lo hi = some E1 ∧ henv I.1 n E1 := by
            intro lo hi w1 w2
            obtain ⟨E1, e1, e2, -⟩ := f_clamp_ev (a := bV k 0) (z := y) (lo := lo) (hi := hi) hE (by simp [f_ev, g1]) ⟨(q.1 + 0, q.2 + 0), by simp only [f_iv, hq]⟩ w1 w2
            exact ⟨E1, e1, e2⟩
          rcases g2 with ⟨g6, -⟩ | ⟨-, ⟨g7, rfl⟩ | ⟨g7, rfl⟩⟩
          · subst g6
            exact absurd (show f_nn E (Sum.inr (Sum.inr (Sum.inr (Sum.inl (some (κ, true, some k)))))) = true by simp [f_nn]) hnn
          · exact Or.inl ⟨g7, hk 0 0 (by omega) (by omega)⟩
          · exact Or.inr ⟨g7, hk 1 1 (by omega) (by omega)⟩
        · cases hn
          rcases two with h3 | h3
          · exact Or.inl ⟨h3, E, rfl, hE⟩
          · exact Or.inr ⟨h3, E, rfl, hE⟩
      · cases hn
        rcases two with h3 | h3
        · exact Or.inl ⟨h3, E, rfl, hE⟩
        · exact Or.inr ⟨h3, E, rfl, hE⟩
  · cases hn
    exact Or.inr ⟨⟨_, h⟩, E, rfl, hE⟩
  · cases hn
variable {p : Program} {l : Launch} {e : Env} {R : Room} {s : State} {m : MethodId} {args : Array Value} {below : List Frame} {meth : Method} {c : Code} {H : Heap} {locs : List Loc} {cells slots : Nat} {Q : State → Prop}
variable {cc : ByteArray} {pc nL : Nat} {ls : Array Slot}
theorem mem_o2lB {x : Option EB} {E1 : EB} {t : Nat} {st : List BV} (h : x = some E1) : (t, E1, [], st) ∈ f_o2l x t st := by rw [h]; exact List.mem_cons_self
theorem f_branch_ok {ins : Instr} {len : Nat} {st : List BV} {vs : List Value} {brs : List BRB} (hx9 : p.tables.exec = Jvm.exec) (hb : c.code = cc) (h : f_branch E pc ins len st = some brs) (hd : decode cc pc = .ok (ins, len)) (hs : hvs I st vs) (hE : henv I.1 n E)
    (kk : ∀ br ∈ brs, ∀ vs', henv I.1 n br.2.1 → (∀ q ∈ br.2.2.1, hle I.1 q) → hvs I br.2.2.2 vs' → W p l e R s m args below meth c H locs cells slots Q (F0 m br.1 ls vs')) : W p l e R s m args below meth c H locs cells slots Q (F0 m pc ls vs) := by
  have none9 : ∀ q ∈ ([] : List (BV × BV)), hle I.1 q := fun q hq => by cases hq
  unfold f_branch at h
  split at h
  · split at h
    · rename_i ht
      split at h
      · rename_i hlen
        cases h
        have := Nat.eq_of_beq_eq_true hlen
        subst this
        exact lv_goto hx9 hb hd (e_tgt_ok ht) (kk _ List.mem_cons_self _ hE none9 hs)
      · cases h
    · cases h
  · split at h
    · split at h
      · rename_i ht
        split at h
        · rename_i hlen
          have := Nat.eq_of_beq_eq_true hlen
          subst this
          obtain ⟨vx, vs1, rfl, g1, hs1⟩ := hvs_cons hs
          obtain ⟨⟨q1, e1⟩, -⟩ := f_cmp_iv h
          obtain ⟨i, rfl, -⟩ := hv_int hE g1 e1
          have g0 : hv I (bI 0) (.int 0) := ⟨0, rfl, rfl⟩
          obtain ⟨c1, c2⟩ := f_cmp_ok hE g1 g0 h
          refine h_ifc hx9 hb hd (e_tgt_ok ht) (fun g => ?_) (fun g => ?_)
          · obtain ⟨E1, L, e9, gE, gL⟩ := c1 g
            exact kk _ e9 _ gE gL hs1
          · obtain ⟨E1, L, e9, gE, gL⟩ := c2 g
            exact kk _ e9 _ gE gL hs1
        · cases h
      · cases h
    · cases h
  · split at h
    · split at h
      · rename_i ht
        split at h
        · rename_i hlen
          have := Nat.eq_of_beq_eq_true hlen
          subst this
          obtain ⟨vy, vs1, rfl, g1, hs1⟩ := hvs_cons hs
          obtain ⟨vx, vs2, rfl, g2, hs2⟩ := hvs_cons hs1
          obtain ⟨⟨q1, e1⟩, ⟨q2, e2⟩⟩ := f_cmp_iv h
          obtain ⟨i, rfl, -⟩ := hv_int hE g2 e1
          obtain ⟨j, rfl, -⟩ := hv_int hE g1 e2
          obtain ⟨c1, c2⟩ := f_cmp_ok hE g2 g1 h
          refine h_icmp hx9 hb hd (e_tgt_ok ht) (fun g => ?_) (fun g => ?_)
          · obtain ⟨E1, L, e9, gE, gL⟩ := c1 g
            exact kk _ e9 _ gE gL hs2
          · obtain ⟨E1, L, e9, gE, gL⟩ := c2 g
            exact kk _ e9 _ gE gL hs2
        · cases h
      · cases h
    · cases h
  · split at h
    · split at h
      · rename_i ht hn
        split at h
        · rename_i hlen
          cases h
          have := Nat.eq_of_beq_eq_true hlen
          subst this
          obtain ⟨v, vs1, rfl, g1, hs1⟩ := hvs_cons hs
          rcases f_nul_ok hE g1 hn with ⟨rfl, E1, e1, gE⟩ | ⟨⟨q, rfl⟩, E1, e1, gE⟩
          · exact lv_ifnullN hx9 hb hd (e_tgt_ok ht) (kk _ (List.mem_append_left _ (mem_o2lB e1)) _ gE none9 hs1)
          · exact lv_ifnull hx9 hb hd (kk _ (List.mem_append_right _ (mem_o2lB e1)) _ gE none9 hs1)
        · cases h
      · cases h
    · cases h
  · split at h
    · split at h
      · rename_i ht hn
        split at h
        · rename_i hlen
          cases h
          have := Nat.eq_of_beq_eq_true hlen
          subst this
          obtain ⟨v, vs1, rfl, g1, hs1⟩ := hvs_cons hs
          rcases f_nul_ok hE g1 hn with ⟨rfl, E1, e1, gE⟩ | ⟨⟨q, rfl⟩, E1, e1, gE⟩
          · exact lv_ifnonnullN hx9 hb hd (kk _ (List.mem_append_left _ (mem_o2lB e1)) _ gE none9 hs1)
          · exact lv_ifnonnull hx9 hb hd (e_tgt_ok ht) (kk _ (List.mem_append_right _ (mem_o2lB e1)) _ gE none9 hs1)
        · cases h
      · cases h
    · cases h
  · rename_i d lo hi offs
    split at h
    · split at h
      · rename_i hiv ht hq
        split at h
        · rename_i hh
          have hh := of_decide_eq_true hh
          cases h
          obtain ⟨v, vs1, rfl, g1, hs1⟩ := hvs_cons hs
          obtain ⟨i, rfl, -⟩ := hv_int hE g1 hiv
          have r1 := fb_rng i
          by_cases hlo : i.toInt < lo
          · obtain ⟨E1, e1, gE, -⟩ := f_clamp_ok (lo := iMin) (hi := lo - 1) hE g1 ⟨_, hiv⟩ (by simp only [iMin]; omega) (by omega)
            exact lv_tableOut hx9 hb hd (Or.inl hlo) (e_tgt_ok ht) (kk _ (List.mem_append_left _ (mem_b1B (mem_toB e1))) _ gE none9 hs1)
          · by_cases hhi : hi < i.toInt
            · obtain ⟨E1, e1, gE, -⟩ := f_clamp_ok (lo := hi + 1) (hi := iMax) hE g1 ⟨_, hiv⟩ (by omega) (by simp only [iMax]; omega)
              exact lv_tableOut hx9 hb hd (Or.inr hhi) (e_tgt_ok ht) (kk _ (List.mem_append_right _ (List.mem_append_left _ (mem_b1B (mem_toB e1)))) _ gE none9 hs1)
            · have hlt : (i.toInt - lo).toNat < offs.toList.length := by omega
              have hget : offs.toList[(i.toInt - lo).toNat]? = some offs.toList[(i.toInt - lo).toNat] := List.getElem?_eq_getElem hlt
              obtain ⟨t', E1, e1, e2, gE⟩ := f_tab_ok hE g1 ⟨_, hiv⟩ offs.toList lo _ hq _ _ hget (by omega)
              exact lv_tableIn hx9 hb hd hlo hhi (by rw [← Array.getElem?_toList]; exact hget) e1 (kk _ (List.mem_append_right _ (List.mem_append_right _ e2)) _ gE none9 hs1)
        · cases h
      · cases h
    · cases h
  · cases h
end BBR
end
section
/-! kinds of cells, and facts of them -/
/-- what may stand in a place: an int or a long between two numbers, a reference to a kind (surely not null) -/
abbrev BT : Type := (Int × Int) ⊕ ((Int × Int) ⊕ (Nat × Bool))
/-- a kind: an array (its type's number, its length, what its places hold, so many places each) or an object (its class, what its fields hold) -/
abbrev KD : Type := (Nat × Nat × List (Nat × BT)) ⊕ (Nat × List BT)
/-- a fact of a cell: its kind, its name if there are more of the kind, the place, what is there -/
abbrev CFt : Type := Nat × Option Nat × BV × BV
/-- another fact: which, of which numbers -/
abbrev SFt : Type := Nat × List BV
/-- which places a fact speaks of: a kind, from, to; a number or that of an argument -/
abbrev SUt : Type := Nat × (Int ⊕ Nat) × (Int ⊕ Nat)
/-- kinds, how many of the first have one cell each, supports of the facts -/
abbrev TBt : Type := List KD × Nat × List (List SUt)
/-- named numbers (how many, what they lie between), facts of cells, other facts -/
abbrev FS : Type := Nat × EB × List CFt × List SFt
def k_seg (x : List (Nat × BT)) (j : Nat) : Option BT := match x with
  | [] => none
  | (n, t) :: r => if decide (j < n) = true then some t else k_seg r (j - n)
def k_len (d : KD) : Nat := match d with
  | .inl (_, n, _) => n
  | .inr (_, fs) => fs.length
def k_ty (d : KD) (j : Nat) : Option BT := match d with
  | .inl (_, _, x) => k_seg x j
  | .inr (_, fs) => fs[j]?
def t_join (a b : BT) : Option BT := match a, b with
  | .inl (l, h), .inl (l', h') => some (.inl (min l l', max h h'))
  | .inr (.inl (l, h)), .inr (.inl (l', h')) => some (.inr (.inl (min l l', max h h')))
  | .inr (.inr (κ, nn)), .inr (.inr (κ', nn')) => if Nat.beq κ κ' = true then some (.inr (.inr (κ, nn && nn'))) else none
  | _, _ => none
def k_hull (x : List (Nat × BT)) (lo hi : Nat) : Option BT := match x with
  | [] => none
  | (n, t) :: r => if decide (lo < n) = true then (if decide (hi < n) = true then some t else (match k_hull r 0 (hi - n) with | some t' => t_join t t' | none => none)) else k_hull r (lo - n) (hi - n)
def k_all (f : BT → Bool) (x : List (Nat × BT)) (lo hi : Nat) : Bool := match x with
  | [] => false
  | (n, t) :: r => if decide (lo < n) = true then (f t && (if decide (hi < n) = true then true else k_all f r 0 (hi - n))) else k_all f r (lo - n) (hi - n)
def ht (AK : List (Nat × Nat)) (t : BT) (v : Value) : Prop := match t with
  | .inl (lo, hi) => ∃ x : Int32, v = .int x ∧ lo ≤ x.toInt ∧ x.toInt ≤ hi
  | .inr (.inl (lo, hi)) => ∃ x : Int64, v = .long x ∧ lo ≤ x.toInt ∧ x.toInt ≤ hi
  | .inr (.inr (κ, nn)) => (nn = false ∧ v = .null) ∨ ∃ q : Nat, (q, κ) ∈ AK ∧ v = .ref q
def cval (e : va_E) (j : Nat) : Option Value := match e with
  | .inl (_, n, .inl f) => if j < n then some (.int (f j)) else none
  | .inl (_, n, .inr (.inl f)) => if j < n then some (.long (f j)) else none
  | .inl (_, n, .inr (.inr (.inr (.inr f)))) => if j < n then some (va_rf (f j)) else none
  | .inl _ => none
  | .inr (_, vs) => vs[j]?
def kshape (cy : Nat → ClassId) (d : KD) (e : va_E) : Prop := match d with
  | .inl (t, n, _) => (t ≤ 2 ∧ ∃ f : Nat → Int32, e = .inl (cy t, n, .inl f)) ∨ (t = 3 ∧ ∃ f : Nat → Int64, e = .inl (cy t, n, .inr (.inl f))) ∨ (4 ≤ t ∧ ∃ f : Nat → Option Nat, e = .inl (cy t, n, .inr (.inr (.inr (.inr f)))))
  | .inr (ci, fs) => ∃ vs : List Value, e = .inr (ci, vs) ∧ vs.length = fs.length
def ktyped (cy : Nat → ClassId) (AK : List (Nat × Nat)) (d : KD) (e : va_E) : Prop := kshape cy d e ∧ ∀ (j : Nat) (t : BT), j < k_len d → k_ty d j = some t → ∃ v, cval e j = some v ∧ ht AK t v
/-- the cells by their kinds -/
def hpool (T : TBt) (cy : Nat → ClassId) (AK : List (Nat × Nat)) (ks : List Nat) (wp : va_W) : Prop :=
  ks.length = wp.length ∧ (∀ (i κ : Nat), ks[i]? = some κ → ∃ (q : Nat) (e : va_E) (d : KD), wp[i]? = some (q, e) ∧ T.1[κ]? = some d ∧ ktyped cy AK d e ∧ (q, κ) ∈ AK) ∧
  (∀ (q κ : Nat) (d : KD), (q, κ) ∈ AK → T.1[κ]? = some d → ∃ (i : Nat) (e : va_E), ks[i]? = some κ ∧ wp[i]? = some (q, e)) ∧
  (∀ (i i' κ : Nat), κ < T.2.1 → ks[i]? = some κ → ks[i']? = some κ → i = i') ∧ (∀ κ, κ < T.2.1 → ∃ i : Nat, ks[i]? = some κ)
def c_fi (ks : List Nat) (wp : va_W) (κ : Nat) : Option va_E := match ks, wp with
  | k :: ks', q :: wp' => if Nat.beq k κ = true then some q.2 else c_fi ks' wp' κ
  | _, _ => none
/-- what stands in a place of the one cell of a kind -/
def c_cu (ks : List Nat) (wp : va_W) (κ j : Nat) : Option Value := match c_fi ks wp κ with
  | some e => cval e j
  | none => none
abbrev CUt : Type := Nat → Nat → Option Value
def f_evs (ν : List Int) (as : List BV) : Option (List Int) := match as with
  | [] => some []
  | a :: r => (match f_ev ν a, f_evs ν r with | some z, some zs => some (z :: zs) | _, _ => none)
/-- which cell: the only one of its kind, or by its name -/
def hbk (T : TBt) (ν : List Int) (κ : Nat) (b : Option Nat) (q : Nat) : Prop := match b with
  | some k => ν[k]? = some (q : Int)
  | none => κ < T.2.1
def hcf (T : TBt) (I : IN) (ks : List Nat) (wp : va_W) (f : CFt) : Prop := ∃ (i q : Nat) (e : va_E) (z : Nat) (x : Value), ks[i]? = some f.1 ∧ wp[i]? = some (q, e) ∧ hbk T I.1 f.1 f.2.1 q ∧ f_ev I.1 f.2.2.1 = some (z : Int) ∧ cval e z = some x ∧ hv I f.2.2.2 x
def hsf (FP : Nat → CUt → List Int → Prop) (I : IN) (cu : CUt) (f : SFt) : Prop := ∃ zs, f_evs I.1 f.2 = some zs ∧ FP f.1 cu zs
/-- all that a state says of the cells -/
def HS (T : TBt) (FP : Nat → CUt → List Int → Prop) (cy : Nat → ClassId) (I : IN) (ks : List Nat) (wp : va_W) (F : FS) : Prop :=
  hpool T cy I.2.1 ks wp ∧ henv I.1 F.1 F.2.1 ∧ (∀ f ∈ F.2.2.1, hcf T I ks wp f) ∧ (∀ f ∈ F.2.2.2, hsf FP I (c_cu ks wp) f)
/-- where a fact of a cell stands: under its kind or under its name -/
def f_key (T : TBt) (κ : Nat) (nn : Bool) (nm : Option Nat) : Option (Option Nat) := if decide (κ < T.2.1) = true then some none else if nn = true then (match nm with | some k => some (some k) | none => none) else none
def f_cf (CF : List CFt) (κ : Nat) (b : Option Nat) (p : BV) : Option BV := match CF with
  | [] => none
  | (κ', b', p', v) :: r => if (Nat.beq κ' κ && (on_eq b' b && bv_eq p' p)) = true then some v else f_cf r κ b p
/-- what a place may hold, with a name -/
def f_fresh (t : BT) (n : Nat) (E : EB) : BV × Nat × EB := match t with
  | .inl (lo, hi) => if decide (lo = hi) = true then (bI lo, n, E) else (bV n 0, n + 1, (n, lo, hi) :: E)
  | .inr (.inl (lo, hi)) => (bL lo hi, n, E)
  | .inr (.inr (κ, nn)) => if nn = true then (bP κ true none, n, E) else (bP κ false (some n), n + 1, (n, 0, 1) :: E)
def f_load (T : TBt) (κ : Nat) (nn : Bool) (nm : Option Nat) (p : BV) (t : BT) (F : FS) : BV × FS := match F with
  | (n, E, CF, SF) => (match f_key T κ nn nm with
    | some b => (match f_cf CF κ b p with
      | some v => (v, F)
      | none => (match f_fresh t n E with | (v, n', E') => if Nat.beq n n' = true then (v, n', E', CF, SF) else (v, n', E', (κ, b, p, v) :: CF, SF)))
    | none => (match f_fresh t n E with | (v, n', E') => (v, n', E', CF, SF)))
def f_apart (E : EB) (a b : BV) : Bool := match a, b with
  | .inr (.inl (k, c)), .inr (.inl (k', c')) => if Nat.beq k k' = true then !(decide (c = c')) else (match f_iv E a, f_iv E b with | some (la, ha), some (lb, hb) => decide (ha < lb) || decide (hb < la) | _, _ => false)
  | _, _ => (match f_iv E a, f_iv E b with | some (la, ha), some (lb, hb) => decide (ha < lb) || decide (hb < la) | _, _ => false)
/-- not more, by names or by what they lie between -/
def f_lez (E : EB) (a b : BV) : Bool := match a, b with
  | .inr (.inl (k, c)), .inr (.inl (k', c')) => if Nat.beq k k' = true then decide (c ≤ c') else (match f_iv E a, f_iv E b with | some (_, ha), some (lb, _) => decide (ha ≤ lb) | _, _ => false)
  | _, _ => (match f_iv E a, f_iv E b with | some (_, ha), some (lb, _) => decide (ha ≤ lb) | _, _ => false)
def f_sb (as : List BV) (x : Int ⊕ Nat) : Option BV := match x with
  | .inl c => some (bI c)
  | .inr i => as[i]?
/-- a fact of which no place is p of kind κ -/
def f_skeep (T : TBt) (E : EB) (κ : Nat) (p : BV) (f : SFt) : Bool := match T.2.2[f.1]? with
  | some L => L.all (fun s => !(Nat.beq s.1 κ) || (match f_sb f.2 s.2.1, f_sb f.2 s.2.2 with | some a, some b => f_lez E b p || f_lez E (f_off p 1) a | _, _ => false))
  | none => false
def f_store (T : TBt) (κ : Nat) (nn : Bool) (nm : Option Nat) (p v : BV) (F : FS) : FS := match F with
  | (n, E, CF, SF) => (match f_key T κ nn nm with
    | some b => (n, E, (κ, b, p, v) :: CF.filter (fun f => !(Nat.beq f.1 κ) || f_apart E f.2.2.1 p), SF.filter (f_skeep T E κ p))
    | none => (n, E, CF.filter (fun f => !(Nat.beq f.1 κ) || f_apart E f.2.2.1 p), SF.filter (f_skeep T E κ p)))
/-- may a place of this type hold it -/
def f_fit (E : EB) (v : BV) (t : BT) : Bool := match t with
  | .inl (lo, hi) => (match f_iv E v with | some (l, h) => decide (lo ≤ l) && decide (h ≤ hi) | none => false)
  | .inr (.inl (lo, hi)) => (match v with | .inr (.inr (.inl (l, h))) => decide (lo ≤ l) && decide (h ≤ hi) | _ => false)
  | .inr (.inr (κ, nn)) => (match v with
    | .inr (.inr (.inr (.inl none))) => !nn
    | .inr (.inr (.inr (.inl (some (κ', _, _))))) => Nat.beq κ κ' && (!nn || f_nn E v)
    | _ => false)
section BWLD
variable {T : TBt} {FP : Nat → CUt → List Int → Prop} {cy : Nat → ClassId} {I J : IN} {ks : List Nat} {wp : va_W} {n : Nat} {E : EB}
theorem ht_mono {AK AK' : List (Nat × Nat)} {t : BT} {v : Value} (h : ∀ q ∈ AK, q ∈ AK') (h0 : ht AK t v) : ht AK' t v := by
  rcases t with ⟨lo, hi⟩ | ⟨lo, hi⟩ | ⟨κ, nn⟩
  · exact h0
  · exact h0
  · rcases h0 with h0 | ⟨q, h1, h2⟩
    · exact Or.inl h0
    · exact Or.inr ⟨q, h _ h1, h2⟩
theorem ht_join {AK : List (Nat × Nat)} {a b t : BT} {v : Value} (h : t_join a b = some t) (hab : ht AK a v ∨ ht AK b v) : ht AK t v := by
  rcases a with ⟨l1, h1⟩ | ⟨l1, h1⟩ | ⟨κ, nn⟩ <;> rcases b with ⟨l2, h2⟩ | ⟨l2, h2⟩ | ⟨κ', nn'⟩ <;> simp only [t_join] at h <;> try cases h
  · rcases hab with ⟨x, e, p1, p2⟩ | ⟨x, e, p1, p2⟩
    · exact ⟨x, e, by omega, by omega⟩
    · exact ⟨x, e, by omega, by omega⟩
  · rcases hab with ⟨x, e, p1, p2⟩ | ⟨x, e, p1, p2⟩
    · exact ⟨x, e, by omega, by omega⟩
    · exact ⟨x, e, by omega, by omega⟩
  · split at h
    · rename_i q
      have q := Nat.eq_of_beq_eq_true q
      subst q
      cases h
      rcases hab with (⟨e, p1⟩ | p1) | (⟨e, p1⟩ | p1)
      · exact Or.inl ⟨by rw [e]; rfl, p1⟩
      · exact Or.inr p1
      · exact Or.inl ⟨by rw [e, Bool.and_false], p1⟩
      · exact Or.inr p1
    · cases h
theorem k_hull_ok {AK : List (Nat × Nat)} {v : Value} : ∀ {x : List (Nat × BT)} {lo hi j : Nat} {t : BT}, k_hull x lo hi = some t → lo ≤ j → j ≤ hi → ∃ t', k_seg x j = some t' ∧ (ht AK t' v → ht AK t v) := by
  intro x
  induction x with
  | nil => intro lo hi j t h; cases h
  | cons q r ih =>
    obtain ⟨m, t0⟩ := q
    intro lo hi j t h h1 h2
    simp only [k_hull] at h
    simp only [k_seg]
    by_cases hj : j < m
    · rw [if_pos (decide_eq_true hj)]
      rw [if_pos (decide_eq_true (show lo < m by omega))] at h
      split at h
      · cases h; exact ⟨_, rfl, id⟩
      · split at h
        · exact ⟨_, rfl, fun g => ht_join h (Or.inl g)⟩
        · cases h
    · rw [if_neg (by rw [decide_eq_true_eq]; exact hj)]
      split at h
      · rw [if_neg (by rw [decide_eq_true_eq]; omega)] at h
        split at h
        · rename_i t' h3
          obtain ⟨t2, g1, g2⟩ := ih (j := j - m) h3 (by omega) (by omega)
          exact ⟨t2, g1, fun g => ht_join h (Or.inr (g2 g))⟩
        · cases h
      · rename_i hlo
        have hlo : ¬ lo < m := by rw [decide_eq_true_eq] at hlo; exact hlo
        exact ih h (by omega) (by omega)
theorem k_all_ok {f : BT → Bool} : ∀ {x : List (Nat × BT)} {lo hi j : Nat}, k_all f x lo hi = true → lo ≤ j → j ≤ hi → ∀ t, k_seg x j = some t → f t = true := by
  intro x
  induction x with
  | nil => intro lo hi j h; cases h
  | cons q r ih =>
    obtain ⟨m, t0⟩ := q
    intro lo hi j h h1 h2 t ht
    simp only [k_all] at h
    simp only [k_seg] at ht
    by_cases hj : j < m
    · rw [if_pos (decide_eq_true hj)] at ht
      cases ht
      rw [if_pos (decide_eq_true (show lo < m by omega)), Bool.and_eq_true] at h
      exact h.1
    · rw [if_neg (by rw [decide_eq_true_eq]; exact hj)] at ht
      split at h
      · rw [Bool.and_eq_true, if_neg (by rw [decide_eq_true_eq]; omega)] at h
        exact ih h.2 (by omega) (by omega) t ht
      · rename_i hlo
        have hlo : ¬ lo < m := by rw [decide_eq_true_eq] at hlo; exact hlo
        exact ih h (by omega) (by omega) t ht
theorem f_fit_ok {v : BV} {x : Value} {t : BT} (hE : henv I.1 n E) (h : hv I v x) (hf : f_fit E v t = true) : ht I.2.1 t x := by
  rcases t with ⟨lo, hi⟩ | ⟨lo, hi⟩ | ⟨κ, nn⟩
  · simp only [f_fit] at hf
    split at hf
    · rename_i l h1 hq
      simp only [Bool.and_eq_true, decide_eq_true_eq] at hf
      obtain ⟨y, rfl, g1, g2⟩ := hv_int hE h hq
      exact ⟨y, rfl, by omega, by omega⟩
    · cases hf
  · simp only [f_fit] at hf
    split at hf
    · simp only [Bool.and_eq_true, decide_eq_true_eq] at hf
      obtain ⟨y, rfl, g1, g2⟩ := h
      exact ⟨y, rfl, by omega, by omega⟩
    · cases hf
  · simp only [f_fit] at hf
    split at hf
    · have hf : nn = false := by simpa using hf
      exact Or.inl ⟨hf, h⟩
    · rename_i κ' b1 b2
      simp only [Bool.and_eq_true, Bool.or_eq_true] at hf
      have e1 := Nat.eq_of_beq_eq_true hf.1
      subst e1
      rcases h.1 with ⟨h1, h2⟩ | h1
      · rcases hf.2 with h3 | h3
        · exact Or.inl ⟨by simpa using h3, h2⟩
        · obtain ⟨q, hq⟩ := f_nn_ok hE h h3
          rw [hq] at h2
          cases h2
      · exact Or.inr h1
    · cases hf
theorem f_fresh_ok {t : BT} {x : Value} {v : BV} {n' : Nat} {E' : EB} (hE : henv I.1 n E) (h : ht I.2.1 t x) (hf : f_fresh t n E = (v, n', E')) : ∃ J : IN, hxt I J ∧ J.2 = I.2 ∧ henv J.1 n' E' ∧ hv J v x := by
  rcases t with ⟨lo, hi⟩ | ⟨lo, hi⟩ | ⟨κ, nn⟩
  · simp only [f_fresh] at hf
    obtain ⟨y, rfl, h1, h2⟩ := h
    split at hf
    · rename_i q
      have q := of_decide_eq_true q
      cases hf
      exact ⟨I, hxt.rf, rfl, hE, y, rfl, by omega⟩
    · cases hf
      refine ⟨(I.1 ++ [y.toInt], I.2), ⟨⟨_, rfl⟩, ⟨[], by simp⟩, rfl⟩, rfl, henv_cons hE h1 h2, y, y.toInt, rfl, ?_, by omega⟩
      rw [List.getElem?_append_right (by rw [hE.1]; exact Nat.le_refl _), hE.1]; simp
  · simp only [f_fresh] at hf
    cases hf
    exact ⟨I, hxt.rf, rfl, hE, h⟩
  · simp only [f_fresh] at hf
    split at hf
    · rename_i q
      cases hf
      subst q
      refine ⟨I, hxt.rf, rfl, hE, ?_, fun k hk => by cases hk⟩
      rcases h with h | h
      · cases h.1
      · exact Or.inr h
    · rename_i q
      have q : nn = false := by simpa using q
      cases hf
      have key : ∀ y : Int, hnm false x y → 0 ≤ y → y ≤ 1 → ∃ J : IN, hxt I J ∧ J.2 = I.2 ∧ henv J.1 (n + 1) ((n, 0, 1) :: E) ∧ hv J (bP κ false (some n)) x := by
        intro y hy y0 y1
        refine ⟨(I.1 ++ [y], I.2), ⟨⟨_, rfl⟩, ⟨[], by simp⟩, rfl⟩, rfl, henv_cons hE y0 y1, ?_, fun k hk => ?_⟩
        · rcases h with h | h
          · exact Or.inl ⟨rfl, h.2⟩
          · exact Or.inr h
        · cases hk
          refine ⟨y, ?_, hy⟩
          rw [List.getElem?_append_right (by rw [hE.1]; exact Nat.le_refl _), hE.1]; simp
      rcases h with h | ⟨q1, h1, h2⟩
      · exact key 0 (Or.inr ⟨rfl, Or.inl ⟨h.2, rfl⟩⟩) (by omega) (by omega)
      · exact key 1 (Or.inr ⟨rfl, Or.inr ⟨⟨q1, h2⟩, rfl⟩⟩) (by omega) (by omega)
theorem f_evs_xt {as : List BV} {zs : List Int} (h : hxt I J) : f_evs I.1 as = some zs → f_evs J.1 as = some zs := by
  induction as generalizing zs with
  | nil => exact id
  | cons a r ih =>
    intro h0
    simp only [f_evs] at h0 ⊢
    split at h0
    · rename_i z zs' h1 h2
      rw [ev_xt h h1, ih h2]; exact h0
    · cases h0
theorem hbk.xt {κ q : Nat} {b : Option Nat} (h : hxt I J) (h0 : hbk T I.1 κ b q) : hbk T J.1 κ b q := by
  cases b with
  | none => exact h0
  | some k => exact h.at h0
theorem hcf.xt {f : CFt} (h : hxt I J) (h0 : hcf T I ks wp f) : hcf T J ks wp f := by
  obtain ⟨i, q, e, z, x, h1, h2, h3, h4, h5, h6⟩ := h0
  exact ⟨i, q, e, z, x, h1, h2, h3.xt h, ev_xt h h4, h5, h6.xt h⟩
theorem hsf.xt {cu : CUt} {f : SFt} (h : hxt I J) (h0 : hsf FP I cu f) : hsf FP J cu f := by
  obtain ⟨zs, h1, h2⟩ := h0
  exact ⟨zs, f_evs_xt h h1, h2⟩
/-- names are added -/
theorem HS.xt {F : FS} {n' : Nat} {E' : EB} (h : hxt I J) (h2 : J.2 = I.2) (hE : henv J.1 n' E') (h0 : HS T FP cy I ks wp F) : HS T FP cy J ks wp (n', E', F.2.2.1, F.2.2.2) := by
  obtain ⟨g1, g2, g3, g4⟩ := h0
  exact ⟨by rw [h2]; exact g1, hE, fun f hf => (g3 f hf).xt h, fun f hf => (g4 f hf).xt h⟩
theorem f_cf_in {CF : List CFt} {κ : Nat} {b : Option Nat} {p v : BV} : f_cf CF κ b p = some v → (κ, b, p, v) ∈ CF := by
  induction CF with
  | nil => intro h; cases h
  | cons f r ih =>
    obtain ⟨κ', b', p', v'⟩ := f
    intro h
    simp only [f_cf] at h
    split at h
    · rename_i q
      simp only [Bool.and_eq_true] at q
      obtain ⟨q1, q2, q3⟩ := q
      have q1 := Nat.eq_of_beq_eq_true q1
      have q2 := on_eq_ok q2
      have q3 := bv_eq_ok q3
      subst q1
      subst q2
      subst q3
      cases h
      exact List.mem_cons_self
    · exact List.mem_cons_of_mem _ (ih h)
theorem f_key_ok {κ : Nat} {nn : Bool} {nm b : Option Nat} {q : Nat} (h : f_key T κ nn nm = some b) (hq : hv I (bP κ nn nm) (.ref q)) : hbk T I.1 κ b q := by
  unfold f_key at h
  split at h
  · rename_i h1
    cases h
    exact (of_decide_eq_true h1 : κ < T.2.1)
  · split at h
    · rename_i h1
      cases nm with
      | none => cases h
      | some k =>
        cases h
        obtain ⟨y, g1, g2⟩ := hq.2 k rfl
        rcases g2 with ⟨-, q', e1, e2⟩ | ⟨g3, -⟩
        · cases e1
          show I.1[k]? = _
          rw [g1, e2]
        · rw [h1] at g3; cases g3
    · cases h
/-- addresses are apart -/
def hap (wp : va_W) : Prop := ∀ (i j : Nat) (p q : Nat × va_E), wp[i]? = some p → wp[j]? = some q → p.1 = q.1 → i = j
/-- the same cell -/
theorem hcf_same {κ : Nat} {b : Option Nat} {i i1 q q1 : Nat} {e e1 : va_E} (hp : hpool T cy I.2.1 ks wp) (hD : hap wp) (hi : ks[i]? = some κ) (hw : wp[i]? = some (q, e)) (hb : hbk T I.1 κ b q)
    (hi1 : ks[i1]? = some κ) (hw1 : wp[i1]? = some (q1, e1)) (hb1 : hbk T I.1 κ b q1) : i = i1 := by
  cases b with
  | none => exact hp.2.2.2.1 i i1 κ hb hi hi1
  | some k =>
    have hb : I.1[k]? = some (q : Int) := hb
    have hb1 : I.1[k]? = some (q1 : Int) := hb1
    rw [hb] at hb1
    have e9 : q = q1 := by
      have := Option.some.inj hb1
      omega
    subst e9
    exact hD i i1 _ _ hw hw1 rfl
theorem load_ok {F F' : FS} {κ i q z : Nat} {nn : Bool} {nm : Option Nat} {e : va_E} {p v : BV} {t : BT} {x : Value} (h : HS T FP cy I ks wp F) (hD : hap wp) (hi : ks[i]? = some κ) (hw : wp[i]? = some (q, e)) (hr : hv I (bP κ nn nm) (.ref q)) (hz : f_ev I.1 p = some (z : Int)) (hx : cval e z = some x) (ht9 : ht I.2.1 t x)
    (hf : f_load T κ nn nm p t F = (v, F')) : ∃ J : IN, hxt I J ∧ J.2 = I.2 ∧ hv J v x ∧ HS T FP cy J ks wp F' := by
  obtain ⟨n, E, CF, SF⟩ := F
  have hE := h.2.1
  simp only at hE
  unfold f_load at hf
  simp only at hf
  split at hf
  · rename_i b hkey
    have hb := f_key_ok hkey hr
    split at hf
    · rename_i v0 hcf0
      cases hf
      obtain ⟨i1, q1, e1, z1, x1, g1, g2, g3, g4, g5, g6⟩ := h.2.2.1 _ (f_cf_in hcf0)
      simp only at g1 g3 g4 g6
      have e9 := hcf_same h.1 hD hi hw hb g1 g2 g3
      subst e9
      rw [hw] at g2
      cases g2
      rw [hz] at g4
      have e8 : z = z1 := by have := Option.some.inj g4; omega
      subst e8
      rw [hx] at g5
      cases g5
      exact ⟨I, hxt.rf, rfl, g6, h⟩
    · cases hfr : f_fresh t n E with
      | mk v0 qr =>
      obtain ⟨n', E'⟩ := qr
      rw [hfr] at hf
      simp only at hf
      obtain ⟨J, j1, j2, j3, j4⟩ := f_fresh_ok hE ht9 hfr
      have h9 := h.xt j1 j2 j3
      split at hf
      · cases hf
        exact ⟨J, j1, j2, j4, h9⟩
      · cases hf
        refine ⟨J, j1, j2, j4, h9.1, h9.2.1, fun f hf => ?_, h9.2.2.2⟩
        rcases List.mem_cons.mp hf with rfl | hf
        · exact ⟨i, q, e, z, x, hi, hw, hb.xt j1, ev_xt j1 hz, hx, j4⟩
        · exact h9.2.2.1 f hf
  · cases hfr : f_fresh t n E with
    | mk v0 qr =>
    obtain ⟨n', E'⟩ := qr
    rw [hfr] at hf
    simp only at hf
    obtain ⟨J, j1, j2, j3, j4⟩ := f_fresh_ok hE ht9 hfr
    cases hf
    exact ⟨J, j1, j2, j4, h.xt j1 j2 j3⟩
theorem f_apart_ok {ν : List Int} {a b : BV} {x y : Int} (hE : henv ν n E) (h : f_apart E a b = true) (ha : f_ev ν a = some x) (hb : f_ev ν b = some y) : x ≠ y := by
  have gen : (match f_iv E a, f_iv E b with | some (la, ha), some (lb, hb) => decide (ha < lb) || decide (hb < la) | _, _ => false) = true → x ≠ y := by
    intro h
    split at h
    · rename_i la ha1 lb hb1 e1 e2
      have p1 := ev_iv hE ha e1
      have p2 := ev_iv hE hb e2
      simp only [Bool.or_eq_true, decide_eq_true_eq] at h
      omega
    · cases h
  unfold f_apart at h
  split at h
  · rename_i k c k' c'
    split at h
    · rename_i hk
      have hk := Nat.eq_of_beq_eq_true hk
      subst hk
      simp only [f_ev] at ha hb
      split at ha
      · rename_i y0 hy
        rw [hy] at hb
        simp only [Option.some.injEq] at ha hb
        have : ¬ c = c' := by simpa using h
        omega
      · cases ha
    · exact gen h
  · exact gen h
theorem f_lez_ok {ν : List Int} {a b : BV} {x y : Int} (hE : henv ν n E) (h : f_lez E a b = true) (ha : f_ev ν a = some x) (hb : f_ev ν b = some y) : x ≤ y := by
  have gen : (match f_iv E a, f_iv E b with | some (_, ha), some (lb, _) => decide (ha ≤ lb) | _, _ => false) = true → x ≤ y := by
    intro h
    split at h
    · rename_i la ha1 lb hb1 e1 e2
      have p1 := ev_iv hE ha e1
      have p2 := ev_iv hE hb e2
      have h := of_decide_eq_true h
      omega
    · cases h
  unfold f_lez at h
  split at h
  · rename_i k c k' c'
    split at h
    · rename_i hk
      have hk := Nat.eq_of_beq_eq_true hk
      subst hk
      simp only [f_ev] at ha hb
      split at ha
      · rename_i y0 hy
        rw [hy] at hb
        simp only [Option.some.injEq] at ha hb
        have := of_decide_eq_true h
        omega
      · cases ha
    · exact gen h
  · exact gen h
/-- a number of a support -/
def z_sb (zs : List Int) (x : Int ⊕ Nat) : Option Int := match x with
  | .inl c => some c
  | .inr i => zs[i]?
theorem f_evs_at {ν : List Int} {as : List BV} {zs : List Int} {k : Nat} {a : BV} : f_evs ν as = some zs → as[k]? = some a → ∃ z, zs[k]? = some z ∧ f_ev ν a = some z := by
  induction as generalizing zs k with
  | nil => intro _ h; simp at h
  | cons a0 r ih =>
    intro h hk
    simp only [f_evs] at h
    split at h
    · rename_i z zs' h1 h2
      cases h
      cases k with
      | zero => simp at hk; subst hk; exact ⟨z, rfl, h1⟩
      | succ k => simp at hk; obtain ⟨w, g1, g2⟩ := ih h2 hk; exact ⟨w, by simpa using g1, g2⟩
    · cases h
theorem f_sb_ok {ν : List Int} {as : List BV} {zs : List Int} {x : Int ⊕ Nat} {a : BV} {z : Int} (h : f_evs ν as = some zs) (hs : f_sb as x = some a) (hz : z_sb zs x = some z) : f_ev ν a = some z := by
  rcases x with c | i
  · cases hs; cases hz; rfl
  · obtain ⟨w, g1, g2⟩ := f_evs_at h hs
    simp only [z_sb] at hz
    rw [g1] at hz
    cases hz
    exact g2
/-- what facts say hangs on the places of their supports alone -/
def FPOK (T : TBt) (FP : Nat → CUt → List Int → Prop) : Prop := ∀ (id : Nat) (L : List SUt) (cu cu' : CUt) (zs : List Int), T.2.2[id]? = some L → (∀ s ∈ L, ∀ (lo hi : Int) (j : Nat), z_sb zs s.2.1 = some lo → z_sb zs s.2.2 = some hi → lo ≤ j → (j : Int) < hi → cu' s.1 j = cu s.1 j) → FP id cu zs → FP id cu' zs
theorem c_fi_set {κ κ' q : Nat} {e e' : va_E} : ∀ {ks : List Nat} {wp : va_W} {i : Nat}, ks[i]? = some κ → wp[i]? = some (q, e) → κ' ≠ κ → c_fi ks (wp.set i (q, e')) κ' = c_fi ks wp κ' := by
  intro ks
  induction ks with
  | nil => intro wp i h; simp at h
  | cons k r ih =>
    intro wp i h h2 hne
    cases wp with
    | nil => simp at h2
    | cons w ws =>
      cases i with
      | zero =>
        simp at h h2
        subst h
        simp only [List.set_cons_zero, c_fi]
        have hb : ¬ Nat.beq k κ' = true := fun hb => hne (Nat.eq_of_beq_eq_true hb).symm
        rw [if_neg hb, if_neg hb]
      | succ i =>
        simp at h h2
        simp only [List.set_cons_succ, c_fi]
        rw [ih h h2 hne]
theorem c_fi_at {κ q : Nat} {e : va_E} : ∀ {ks : List Nat} {wp : va_W} {i : Nat}, (∀ i', ks[i']? = some κ → i' = i) → ks[i]? = some κ → wp[i]? = some (q, e) → c_fi ks wp κ = some e := by
  intro ks
  induction ks with
  | nil => intro wp i _ h; simp at h
  | cons k r ih =>
    intro wp i hu h h2
    cases wp with
    | nil => simp at h2
    | cons w ws =>
      cases i with
      | zero =>
        simp at h h2
        subst h
        subst h2
        simp only [c_fi]
        rw [if_pos (Nat.beq_refl k)]
      | succ i =>
        simp at h h2
        simp only [c_fi]
        have hb : ¬ Nat.beq k κ = true := fun hb => by
          have := hu 0 (by rw [← Nat.eq_of_beq_eq_true hb]; rfl)
          omega
        rw [if_neg hb]
        exact ih (fun i' hi' => by have := hu (i' + 1) (by simpa using hi'); omega) h h2
/-- the places of the only cell of a kind, where one place of one cell was changed -/
theorem c_cu_set {κ κ' i q z j : Nat} {e e' : va_E} (hp : hpool T cy I.2.1 ks wp) (hi : ks[i]? = some κ) (hw : wp[i]? = some (q, e)) (he : ∀ j, j ≠ z → cval e' j = cval e j) (hu : κ' < T.2.1) (hne : κ' ≠ κ ∨ j ≠ z) : c_cu ks (wp.set i (q, e')) κ' j = c_cu ks wp κ' j := by
  by_cases hk : κ' = κ
  · subst hk
    have hj : j ≠ z := hne.resolve_left (fun h => h rfl)
    have u : ∀ i', ks[i']? = some κ' → i' = i := fun i' hi' => hp.2.2.2.1 i' i κ' hu hi' hi
    have e1 := c_fi_at (wp := wp) u hi hw
    have e2 := c_fi_at (e := e') (q := q) (wp := wp.set i (q, e')) u hi (by rw [List.getElem?_set, if_pos rfl, if_pos (List.getElem?_eq_some_iff.mp hw).1])
    simp only [c_cu, e1, e2]
    exact he j hj
  · simp only [c_cu, c_fi_set hi hw hk]
/-- supports speak of kinds with one cell alone -/
def SUOK (T : TBt) : Prop := ∀ L ∈ T.2.2, ∀ s ∈ L, s.1 < T.2.1
theorem hpool_set {AK : List (Nat × Nat)} {κ i q : Nat} {e e' : va_E} {d : KD} (hp : hpool T cy AK ks wp) (hi : ks[i]? = some κ) (hw : wp[i]? = some (q, e)) (hd : T.1[κ]? = some d) (ht9 : ktyped cy AK d e') : hpool T cy AK ks (wp.set i (q, e')) := by
  obtain ⟨p1, p2, p3, p4⟩ := hp
  have hlt := (List.getElem?_eq_some_iff.mp hw).1
  refine ⟨by simp [p1], fun i1 κ1 h1 => ?_, fun q1 κ1 d1 h1 h2 => ?_, p4⟩
  · by_cases e9 : i = i1
    · subst e9
      rw [hi] at h1
      cases h1
      obtain ⟨q2, e2, d2, g1, g2, g3, g4⟩ := p2 i κ hi
      rw [hw] at g1
      cases g1
      refine ⟨q, e', d, ?_, hd, ht9, g4⟩
      rw [List.getElem?_set, if_pos rfl, if_pos hlt]
    · obtain ⟨q2, e2, d2, g1, g2⟩ := p2 i1 κ1 h1
      exact ⟨q2, e2, d2, by rw [List.getElem?_set, if_neg e9]; exact g1, g2⟩
  · obtain ⟨i1, e1, g1, g2⟩ := p3 q1 κ1 d1 h1 h2
    by_cases e9 : i = i1
    · subst e9
      rw [hw] at g2
      cases g2
      exact ⟨i, e', g1, by rw [List.getElem?_set, if_pos rfl, if_pos hlt]⟩
    · exact ⟨i1, e1, g1, by rw [List.getElem?_set, if_neg e9]; exact g2⟩
theorem store_ok {F : FS} {κ i q z : Nat} {nn : Bool} {nm : Option Nat} {e e' : va_E} {d : KD} {p v : BV} {x : Value} (hFP : FPOK T FP) (hSU : SUOK T) (h : HS T FP cy I ks wp F) (hi : ks[i]? = some κ) (hw : wp[i]? = some (q, e)) (hr : hv I (bP κ nn nm) (.ref q)) (hz : f_ev I.1 p = some (z : Int)) (hx : cval e' z = some x) (hv9 : hv I v x)
    (he : ∀ j, j ≠ z → cval e' j = cval e j) (hd : T.1[κ]? = some d) (ht9 : ktyped cy I.2.1 d e') : HS T FP cy I ks (wp.set i (q, e')) (f_store T κ nn nm p v F) := by
  obtain ⟨n, E, CF, SF⟩ := F
  obtain ⟨h1, hE, h3, h4⟩ := h
  simp only at hE h3 h4
  have hlt := (List.getElem?_eq_some_iff.mp hw).1
  have hw' : (wp.set i (q, e'))[i]? = some (q, e') := by rw [List.getElem?_set, if_pos rfl, if_pos hlt]
  have hp' := hpool_set h1 hi hw hd ht9
  have cfs : ∀ f ∈ CF.filter (fun f => !(Nat.beq f.1 κ) || f_apart E f.2.2.1 p), hcf T I ks (wp.set i (q, e')) f := by
    intro f hf
    obtain ⟨hf1, hf2⟩ := List.mem_filter.mp hf
    obtain ⟨i1, q1, e1, z1, x1, g1, g2, g3, g4, g5, g6⟩ := h3 f hf1
    by_cases e9 : i = i1
    · subst e9
      rw [hi] at g1
      have e8 := Option.some.inj g1
      rw [hw] at g2
      cases g2
      have ap : f_apart E f.2.2.1 p = true := by
        simp only [Bool.or_eq_true] at hf2
        rcases hf2 with hf2 | hf2
        · rw [e8] at hf2
          rw [Nat.beq_refl] at hf2
          cases hf2
        · exact hf2
      have zne := f_apart_ok hE ap g4 hz
      refine ⟨i, q, e', z1, x1, by rw [hi, e8], hw', g3, g4, ?_, g6⟩
      rw [he z1 (fun h => zne (by rw [h]))]
      exact g5
    · exact ⟨i1, q1, e1, z1, x1, g1, by rw [List.getElem?_set, if_neg e9]; exact g2, g3, g4, g5, g6⟩
  have sfs : ∀ f ∈ SF.filter (f_skeep T E κ p), hsf FP I (c_cu ks (wp.set i (q, e'))) f := by
    intro f hf
    obtain ⟨hf1, hf2⟩ := List.mem_filter.mp hf
    obtain ⟨zs, g1, g2⟩ := h4 f hf1
    unfold f_skeep at hf2
    split at hf2
    · rename_i L hL
      refine ⟨zs, g1, hFP f.1 L _ _ zs hL (fun s hs lo hi9 j hlo hhi j1 j2 => ?_) g2⟩
      have hu : s.1 < T.2.1 := hSU L (List.mem_iff_getElem?.mpr ⟨_, hL⟩) s hs
      have hs2 := List.all_eq_true.mp hf2 s hs
      refine c_cu_set h1 hi hw he hu ?_
      simp only [Bool.or_eq_true] at hs2
      rcases hs2 with hs2 | hs2
      · left
        intro e9
        rw [e9, Nat.beq_refl] at hs2
        cases hs2
      · split at hs2
        · rename_i a b ha hb
          have wa := f_sb_ok g1 ha hlo
          have wb := f_sb_ok g1 hb hhi
          right
          intro e9
          subst e9
          rw [Bool.or_eq_true] at hs2
          rcases hs2 with hs2 | hs2
          · have := f_lez_ok hE hs2 wb hz
            omega
          · have := f_lez_ok hE hs2 (ev_off hz) wa
            omega
        · cases hs2
    · cases hf2
  unfold f_store
  simp only
  split
  · rename_i b hkey
    refine ⟨hp', hE, fun f hf => ?_, sfs⟩
    rcases List.mem_cons.mp hf with rfl | hf
    · exact ⟨i, q, e', z, x, hi, hw', f_key_ok hkey hr, hz, hx, hv9⟩
    · exact cfs f hf
  · exact ⟨hp', hE, cfs, sfs⟩
end BWLD
end
section
/-! the heap's steps -/
/-- pc, locals, stack, numbers and facts, what is being made (its name, its class), cells made, slots made -/
abbrev SB : Type := Nat × List (Nat × BV) × List BV × FS × Option (Nat × Nat) × Nat × Nat
/-- places that may be written: a kind, from, to -/
abbrev WR : Type := List (Nat × Nat × Nat)
def f_wr (wr : WR) (κ lo hi : Nat) : Bool := wr.any (fun w => Nat.beq w.1 κ && (Nat.ble w.2.1 lo && Nat.ble hi w.2.2))
def inwr (wr : WR) (κ j : Nat) : Prop := ∃ w ∈ wr, w.1 = κ ∧ w.2.1 ≤ j ∧ j ≤ w.2.2
theorem f_wr_ok {wr : WR} {κ lo hi j : Nat} (h : f_wr wr κ lo hi = true) (h1 : lo ≤ j) (h2 : j ≤ hi) : inwr wr κ j := by
  obtain ⟨w, hw, h3⟩ := List.any_eq_true.mp h
  simp only [Bool.and_eq_true] at h3
  have a1 := Nat.le_of_ble_eq_true h3.2.1
  have a2 := Nat.le_of_ble_eq_true h3.2.2
  exact ⟨w, hw, Nat.eq_of_beq_eq_true h3.1, by omega, by omega⟩
/-- nothing but these places has changed -/
def Unch (wr : WR) (ks0 : List Nat) (wp0 : va_W) (ks : List Nat) (wp : va_W) : Prop := (∃ more, ks = ks0 ++ more) ∧ ∀ (i κ q : Nat) (e : va_E), ks0[i]? = some κ → wp0[i]? = some (q, e) → ∃ e', wp[i]? = some (q, e') ∧ ∀ j, ¬ inwr wr κ j → cval e' j = cval e j
theorem Unch.rf {wr : WR} {ks : List Nat} {wp : va_W} : Unch wr ks wp ks wp := ⟨⟨[], by simp⟩, fun i κ q e _ h => ⟨e, h, fun _ _ => rfl⟩⟩
theorem Unch.tr {wr wr' : WR} {ks0 ks1 ks2 : List Nat} {wp0 wp1 wp2 : va_W} (h1 : Unch wr ks0 wp0 ks1 wp1) (h2 : Unch wr' ks1 wp1 ks2 wp2) (hs : ∀ κ j, inwr wr' κ j → inwr wr κ j) : Unch wr ks0 wp0 ks2 wp2 := by
  obtain ⟨⟨m1, e1⟩, g1⟩ := h1
  obtain ⟨⟨m2, e2⟩, g2⟩ := h2
  refine ⟨⟨m1 ++ m2, by rw [e2, e1, List.append_assoc]⟩, fun i κ q e h3 h4 => ?_⟩
  obtain ⟨e', a1, a2⟩ := g1 i κ q e h3 h4
  obtain ⟨e'', b1, b2⟩ := g2 i κ q e' (by rw [e1, List.getElem?_append_left (List.getElem?_eq_some_iff.mp h3).1]; exact h3) a1
  exact ⟨e'', b1, fun j hj => (b2 j (fun h => hj (hs κ j h))).trans (a2 j hj)⟩
theorem Unch.set {wr : WR} {ks0 ks : List Nat} {wp0 wp : va_W} {i κ q z : Nat} {e e' : va_E} (h : Unch wr ks0 wp0 ks wp) (hi : ks[i]? = some κ) (hw : wp[i]? = some (q, e)) (he : ∀ j, j ≠ z → cval e' j = cval e j) (hz : inwr wr κ z) : Unch wr ks0 wp0 ks (wp.set i (q, e')) := by
  obtain ⟨⟨m1, e1⟩, g1⟩ := h
  refine ⟨⟨m1, e1⟩, fun i1 κ1 q1 e2 h3 h4 => ?_⟩
  obtain ⟨e3, a1, a2⟩ := g1 i1 κ1 q1 e2 h3 h4
  by_cases e9 : i = i1
  · subst e9
    rw [hw] at a1
    cases a1
    have k9 : κ1 = κ := by
      have : ks[i]? = some κ1 := by rw [e1, List.getElem?_append_left (List.getElem?_eq_some_iff.mp h3).1]; exact h3
      rw [hi] at this
      exact (Option.some.inj this).symm
    subst k9
    refine ⟨e', by rw [List.getElem?_set, if_pos rfl, if_pos (List.getElem?_eq_some_iff.mp hw).1], fun j hj => ?_⟩
    rw [he j (fun h => hj (by rw [h]; exact hz))]
    exact a2 j hj
  · exact ⟨e3, by rw [List.getElem?_set, if_neg e9]; exact a1, a2⟩
section BHEAP
variable {cy : Nat → ClassId} {ww : va_W} {D : va_G} {A : Nat → Prop} {H0 : Heap}
variable {p : Program} {l : Launch} {e : Env} {R : Room} {s : State} {m : MethodId} {args : Array Value} {below : List Frame} {meth : Method} {c : Code} {H : Heap} {locs : List Loc} {cells slots : Nat} {Q : State → Prop}
variable {cc : ByteArray} {pc nL : Nat} {ls : Array Slot} {rest : List Value} {own : String}
theorem b_get {idx i q ci k : Nat} {vs : List Value} {r : vw_C} {v : Value} (hx9 : p.tables.exec = Jvm.exec) (hb : c.code = cc) (hts : ∀ w ∈ BIG, w.before args s = true) (hown : s.vm.findClass own = some m.cls) (hK : KK D cy s) (hP : va_P D vwCl ww H)
    (hi : ww[i]? = some (q, .inr (ci, vs))) (hc : vwCl[ci]? = some r) (hk : k < r.2.2) (hv9 : vs[k]? = some v) (hlink : (Cond.fieldLink own idx (r.2.1 k).1 (r.2.1 k).2.1 (r.2.1 k).2.2.1).before args s = true ∨ ∃ host, (Cond.fieldLinkNest own idx (r.2.1 k).1 (r.2.1 k).2.1 (r.2.1 k).2.2.1 host).before args s = true) (hd : decode cc pc = .ok (.getfield idx, 3))
    (kk : W p l e R s m args below meth c H locs cells slots Q (F0 m (pc + 3) ls (v :: rest))) : W p l e R s m args below meth c H locs cells slots Q (F0 m pc ls (.ref q :: rest)) := by
  obtain ⟨r1, r2, r3⟩ := cl_ok ci r hc
  rcases hlink with hlink | ⟨host, hlink⟩
  · exact va_get (D := D) (ci := ci) (v := v) (C := r.1) (T := r.2.1) (N := r.2.2) hx9 hb hts r3 hown hK.1 hP i hi hc k hk hlink (fun _ h9 => h9) hv9 hd kk
  · exact va_getN (D := D) (ci := ci) (v := v) (C := r.1) (T := r.2.1) (N := r.2.2) hx9 hb hts r3 hown hK.1 hP i hi hc k hk hlink (fun _ h9 => h9) hv9 hd kk
theorem b_put {idx i q ci k : Nat} {vs : List Value} {r : vw_C} {v : Value} (hx9 : p.tables.exec = Jvm.exec) (hb : c.code = cc) (hts : ∀ w ∈ BIG, w.before args s = true) (hown : s.vm.findClass own = some m.cls) (hK : KK D cy s) (hP : va_P D vwCl ww H) (hD : va_D A ww) (hS : va_S A H0 H locs)
    (hi : ww[i]? = some (q, .inr (ci, vs))) (hc : vwCl[ci]? = some r) (hk : k < r.2.2) (hl9 : k < vs.length) (f1 : narrow (clTy ci k) v = v) (f2 : fits (clTy ci k) v = true) (hfin : (r.2.1 k).2.2.2 = false) (hlink : (Cond.fieldLink own idx (r.2.1 k).1 (r.2.1 k).2.1 (r.2.1 k).2.2.1).before args s = true ∨ ∃ host, (Cond.fieldLinkNest own idx (r.2.1 k).1 (r.2.1 k).2.1 (r.2.1 k).2.2.1 host).before args s = true) (hd : decode cc pc = .ok (.putfield idx, 3))
    (kk : ∀ (H1 : Heap) (locs1 : List Loc), va_P D vwCl (ww.set i (q, .inr (ci, vs.set k v))) H1 → va_D A (ww.set i (q, .inr (ci, vs.set k v))) → va_S A H0 H1 locs1 → W p l e R s m args below meth c H1 locs1 cells slots Q (F0 m (pc + 3) ls rest)) : W p l e R s m args below meth c H locs cells slots Q (F0 m pc ls (v :: .ref q :: rest)) := by
  obtain ⟨r1, r2, r3⟩ := cl_ok ci r hc
  rcases hlink with hlink | ⟨host, hlink⟩
  · exact va_put (D := D) (ci := ci) (v := v) (ty := clTy ci k) (C := r.1) (T := r.2.1) (N := r.2.2) hx9 hb hts r3 (clTy ci) r1 r2 hown hK.1 hP hD hS i hi hc k hk hlink (fun _ h9 => h9) hfin (r1 k hk) f1 f2 hl9 hd kk
  · exact va_putN (D := D) (ci := ci) (v := v) (ty := clTy ci k) (C := r.1) (T := r.2.1) (N := r.2.2) hx9 hb hts r3 (clTy ci) r1 r2 hown hK.1 hP hD hS i hi hc k hk hlink (fun _ h9 => h9) hfin (r1 k hk) f1 f2 hl9 hd kk
theorem b_ald {ins : Instr} {i q t n z : Nat} {x : List (Nat × BT)} {e0 : va_E} {v : Value} {j : Int32} (hx9 : p.tables.exec = Jvm.exec) (hb : c.code = cc) (hK : KK D cy s) (hP : va_P D vwCl ww H)
    (hi : ww[i]? = some (q, e0)) (hsh : kshape cy (.inl (t, n, x)) e0) (ht : t < 6) (hj : j.toInt = (z : Int)) (hk : z < n) (hn : n < 2147483648) (hv9 : cval e0 z = some v) (hins : e_ald ins t = true) (hd : decode cc pc = .ok (ins, 1))
    (kk : W p l e R s m args below meth c H locs cells slots Q (F0 m (pc + 1) ls (v :: rest))) : W p l e R s m args below meth c H locs cells slots Q (F0 m pc ls (.int j :: .ref q :: rest)) := by
  obtain ⟨hin, hcl⟩ := en_in hj hk hn
  have hT := atys_at cy t ht
  rcases hsh with ⟨g0, f, rfl⟩ | ⟨g0, f, rfl⟩ | ⟨g0, f, rfl⟩
  · simp only [cval, if_pos hk, Option.some.injEq] at hv9
    subst hv9
    rw [← hcl] at kk
    rcases (show t = 0 ∨ t = 1 ∨ t = 2 by omega) with rfl | rfl | rfl
    · cases ins <;> simp [e_ald] at hins
      exact va_iald hx9 hb hK.1 hP i 0 hi hT hin hd kk
    · cases ins <;> simp [e_ald] at hins
      exact va_bald hx9 hb hK.1 hP i 1 hi hT hin hd kk
    · cases ins <;> simp [e_ald] at hins
      exact va_zald hx9 hb hK.1 hP i 2 hi hT hin hd kk
  · subst g0
    simp only [cval, if_pos hk, Option.some.injEq] at hv9
    subst hv9
    rw [← hcl] at kk
    cases ins <;> simp [e_ald] at hins
    exact va_lald hx9 hb hK.1 hP i 3 hi hT hin hd kk
  · simp only [cval, if_pos hk, Option.some.injEq] at hv9
    subst hv9
    rw [← hcl] at kk
    have hins2 : ins = .aaload := by
      cases ins <;> simp [e_ald] at hins <;> first | rfl | omega
    subst hins2
    rcases (show t = 4 ∨ t = 5 by omega) with rfl | rfl
    · exact va_aldq hx9 hb hK.1 hP i 4 hi hT hin hd kk
    · exact va_aldq hx9 hb hK.1 hP i 5 hi hT hin hd kk
/-- may an array of this type hold it as it is -/
def v_afit (t : Nat) (v : Value) : Prop := (t = 0 ∧ ∃ y : Int32, v = .int y) ∨ (t = 1 ∧ ∃ y : Int32, v = .int y ∧ -128 ≤ y.toInt ∧ y.toInt ≤ 127) ∨ (t = 2 ∧ ∃ y : Int32, v = .int y ∧ 0 ≤ y.toInt ∧ y.toInt ≤ 1) ∨ (t = 3 ∧ ∃ y : Int64, v = .long y)
theorem b_ast {ins : Instr} {i q t n z : Nat} {x : List (Nat × BT)} {e0 : va_E} {v : Value} {j : Int32} (hx9 : p.tables.exec = Jvm.exec) (hb : c.code = cc) (hK : KK D cy s) (hP : va_P D vwCl ww H) (hD : va_D A ww) (hS : va_S A H0 H locs)
    (hi : ww[i]? = some (q, e0)) (hsh : kshape cy (.inl (t, n, x)) e0) (ht : t < 6) (hj : j.toInt = (z : Int)) (hk : z < n) (hn : n < 2147483648) (hf : v_afit t v ∨ (4 ≤ t ∧ (v = .null ∨ ∃ (i2 q2 : Nat) (vs2 : List Value), v = .ref q2 ∧ ww[i2]? = some (q2, .inr (e_acls t, vs2))))) (hins : e_aop ins t = true) (hd : decode cc pc = .ok (ins, 1))
    (kk : ∀ (e1 : va_E), kshape cy (.inl (t, n, x)) e1 → cval e1 z = some v → (∀ j, j ≠ z → cval e1 j = cval e0 j) → ∀ (H1 : Heap) (locs1 : List Loc), va_P D vwCl (ww.set i (q, e1)) H1 → va_D A (ww.set i (q, e1)) → va_S A H0 H1 locs1 → W p l e R s m args below meth c H1 locs1 cells slots Q (F0 m (pc + 1) ls rest)) : W p l e R s m args below meth c H locs cells slots Q (F0 m pc ls (v :: .int j :: .ref q :: rest)) := by
  obtain ⟨hin, hcl⟩ := en_in hj hk hn
  have hT := atys_at cy t ht
  have ki : ∀ (f : Nat → Int32) (y : Int32), e0 = .inl (cy t, n, .inl f) → t ≤ 2 → v = .int y → ∀ (H1 : Heap) (locs1 : List Loc), va_P D vwCl (ww.set i (q, .inl (cy t, n, .inl (upd f z y)))) H1 → va_D A (ww.set i (q, .inl (cy t, n, .inl (upd f z y)))) → va_S A H0 H1 locs1 → W p l e R s m args below meth c H1 locs1 cells slots Q (F0 m (pc + 1) ls rest) := by
    intro f y he ht2 hvy H1 locs1 g1 g2 g3
    refine kk (.inl (cy t, n, .inl (upd f z y))) (Or.inl ⟨ht2, _, rfl⟩) ?_ (fun j hj => ?_) H1 locs1 g1 g2 g3
    · simp only [cval, if_pos hk]; rw [pk_us, hvy]
    · rw [he]
      simp only [cval]
      split
      · rw [pk_un hj]
      · rfl
  rcases hsh with ⟨g0, f, rfl⟩ | ⟨g0, f, rfl⟩ | ⟨g0, f, rfl⟩
  · rcases hf with (⟨rfl, y, rfl⟩ | ⟨rfl, y, rfl, y1, y2⟩ | ⟨rfl, y, rfl, y1, y2⟩ | ⟨rfl, y, rfl⟩) | ⟨h4, -⟩
    · cases ins <;> simp [e_aop] at hins
      exact va_iast hx9 hb hK.1 hP hD hS i 0 hi hT hin hd (by rw [hcl]; exact ki f y rfl g0 rfl)
    · have e8 : vp_nar .byte y = y := (vp_nar_byte y).trans (en_i8 (by omega) (by omega))
      cases ins <;> simp [e_aop] at hins
      exact va_bast hx9 hb hK.1 hP hD hS i 1 hi hT hin hd (by rw [hcl, e8]; exact ki f y rfl g0 rfl)
    · have e8 : vp_nar .boolean y = y := by
        rcases en_b01 (x := y) (by omega) (by omega) with rfl | rfl <;> decide
      cases ins <;> simp [e_aop] at hins
      exact va_zast hx9 hb hK.1 hP hD hS i 2 hi hT hin hd (by rw [hcl, e8]; exact ki f y rfl g0 rfl)
    · omega
    · omega
  · subst g0
    rcases hf with (⟨h0, -⟩ | ⟨h0, -⟩ | ⟨h0, -⟩ | ⟨-, y, rfl⟩) | ⟨h4, -⟩
    · omega
    · omega
    · omega
    · cases ins <;> simp [e_aop] at hins
      refine va_last hx9 hb hK.1 hP hD hS i 3 hi hT hin hd ?_
      rw [hcl]
      intro H1 locs1 g1 g2 g3
      refine kk _ (Or.inr (Or.inl ⟨rfl, _, rfl⟩)) ?_ (fun j hj => ?_) H1 locs1 g1 g2 g3
      · simp only [cval, if_pos hk]; rw [pk_uLs]
      · simp only [cval]
        split
        · rw [pk_uLn hj]
        · rfl
    · omega
  · obtain ⟨r, hr1, hr2⟩ := vwCl_acls t g0 ht
    have kr : ∀ y : Option Nat, v = va_rf y → ∀ (H1 : Heap) (locs1 : List Loc), va_P D vwCl (ww.set i (q, .inl (cy t, n, .inr (.inr (.inr (.inr (va_up f z y))))))) H1 → va_D A (ww.set i (q, .inl (cy t, n, .inr (.inr (.inr (.inr (va_up f z y))))))) → va_S A H0 H1 locs1 → W p l e R s m args below meth c H1 locs1 cells slots Q (F0 m (pc + 1) ls rest) := by
      intro y hvy H1 locs1 g1 g2 g3
      refine kk _ (Or.inr (Or.inr ⟨g0, _, rfl⟩)) ?_ (fun j hj => ?_) H1 locs1 g1 g2 g3
      · simp only [cval, if_pos hk, va_up]
        rw [hvy]; simp
      · simp only [cval, va_up]
        split
        · first | rfl | rw [if_neg hj]
        · rfl
    rw [hr2] at hT
    have hins2 : ins = .aastore := by
      cases ins <;> simp [e_aop] at hins <;> first | rfl | omega
    subst hins2
    rcases hf with (⟨h0, -⟩ | ⟨h0, -⟩ | ⟨h0, -⟩ | ⟨h0, -⟩) | ⟨-, rfl | ⟨i2, q2, vs2, rfl, h5⟩⟩
    · omega
    · omega
    · omega
    · omega
    · exact va_astqN hx9 hb hK.1 hP hD hS i t hi hT hin hd (by rw [hcl]; exact kr none rfl)
    · exact va_astq hx9 hb hK.1 hP hD hS i t i2 (e_acls t) hi hT h5 hr1 hin hd (by rw [hcl]; exact kr (some q2) rfl)
theorem b_alen {i q t n : Nat} {x : List (Nat × BT)} {e0 : va_E} (hx9 : p.tables.exec = Jvm.exec) (hb : c.code = cc) (hK : KK D cy s) (hP : va_P D vwCl ww H)
    (hi : ww[i]? = some (q, e0)) (hsh : kshape cy (.inl (t, n, x)) e0) (ht : t < 6) (hd : decode cc pc = .ok (.arraylength, 1))
    (kk : W p l e R s m args below meth c H locs cells slots Q (F0 m (pc + 1) ls (.int (nI n) :: rest))) : W p l e R s m args below meth c H locs cells slots Q (F0 m pc ls (.ref q :: rest)) := by
  have hT := atys_at cy t ht
  rcases hsh with ⟨g0, f, rfl⟩ | ⟨g0, f, rfl⟩ | ⟨g0, f, rfl⟩
  · exact va_alen hx9 hb hK.1 hP i t hi hT rfl hd kk
  · exact va_alen hx9 hb hK.1 hP i t hi hT rfl hd kk
  · exact va_alen hx9 hb hK.1 hP i t hi hT rfl hd kk
end BHEAP
end
section
/-! steps at the heap -/
/-- may a field of this type hold it -/
def f_fits (E : EB) (ty : FieldType) (a : BV) : Bool := match ty with
  | .int => f_isI a
  | .boolean => (match f_iv E a with | some (lo, hi) => decide (0 ≤ lo) && decide (hi ≤ 1) | none => false)
  | .long => f_isL a
  | .object _ => f_isR a
  | .array _ => f_isR a
  | _ => false
def f_plainF (ci k : Nat) : Bool := match vwCl[ci]? with
  | some r => Nat.blt k r.2.2 && !((r.2.1 k).2.2.2)
  | none => false
/-- may a row of this type hold it -/
def f_afit (T : TBt) (E : EB) (t : Nat) (a : BV) : Bool := match t with
  | 0 => f_isI a
  | 1 => (match f_iv E a with | some (lo, hi) => decide (-128 ≤ lo) && decide (hi ≤ 127) | none => false)
  | 2 => (match f_iv E a with | some (lo, hi) => decide (0 ≤ lo) && decide (hi ≤ 1) | none => false)
  | 3 => f_isL a
  | _ => (match a with
    | .inr (.inr (.inr (.inl none))) => true
    | .inr (.inr (.inr (.inl (some (κ, _, _))))) => (match T.1[κ]? with | some (.inr (ci, _)) => Nat.beq ci (e_acls t) | _ => false)
    | _ => false)
/-- the kind that a reference surely points to -/
def f_kd (T : TBt) (E : EB) (a : BV) : Option (Nat × Bool × Option Nat × KD) := match a with
  | .inr (.inr (.inr (.inl (some (κ, nn, nm))))) => if f_nn E a = true then (match T.1[κ]? with | some d => some (κ, nn, nm, d) | none => none) else none
  | _ => none
def f_lds (ins : Instr) : Bool := match ins with
  | .iaload => true
  | .baload => true
  | .laload => true
  | .aaload => true
  | _ => false
def f_sts (ins : Instr) : Bool := match ins with
  | .iastore => true
  | .bastore => true
  | .lastore => true
  | .aastore => true
  | _ => false
/-- a place of a row that is surely within it -/
def f_pl (E : EB) (i : BV) (n : Nat) : Option (Nat × Nat) := match f_iv E i with
  | some (l, h) => if (decide (0 ≤ l) && decide (h < (n : Int))) = true then some (l.toNat, h.toNat) else none
  | none => none
def f_hst (T : TBt) (RT : List (List (Nat × RES))) (M : MT) (wr : WR) (S : SB) (ins : Instr) (len : Nat) : Option SB := match S with
  | (pc, lo, st, F, rw, nc, ns) => (match ins with
    | .getfield i => (match e_res RT (mO M) i, st with
      | some (kd, ci, k, _), a :: st' => (match f_kd T F.2.1 a with
        | some (κ, nn, nm, .inr (ci', tys)) => (match tys[k]? with
          | some t => if (Nat.ble kd 1 && (Nat.beq ci ci' && Nat.beq len 3)) = true then (match f_load T κ nn nm (bI (k : Int)) t F with | (v, F') => some (pc + 3, lo, v :: st', F', rw, nc, ns)) else none
          | none => none)
        | _ => none)
      | _, _ => none)
    | .putfield i => (match e_res RT (mO M) i, st with
      | some (kd, ci, k, _), v :: a :: st' => (match f_kd T F.2.1 a with
        | some (κ, nn, nm, .inr (ci', tys)) => (match tys[k]? with
          | some t => if (Nat.ble kd 1 && (Nat.beq ci ci' && (Nat.beq len 3 && (f_fit F.2.1 v t && (f_fits F.2.1 (clTy ci k) v && (f_plainF ci k && f_wr wr κ k k)))))) = true then some (pc + 3, lo, st', f_store T κ nn nm (bI (k : Int)) v F, rw, nc, ns) else none
          | none => none)
        | _ => none)
      | _, _ => none)
    | .arraylength => (match st with
      | a :: st' => (match f_kd T F.2.1 a with
        | some (_, _, _, .inl (t, n, _)) => if (Nat.ble t 5 && (decide (n < 65536) && Nat.beq len 1)) = true then some (pc + 1, lo, bI (n : Int) :: st', F, rw, nc, ns) else none
        | _ => none)
      | _ => none)
    | .ldc2_w i => (match e_res RT (mO M) i with
      | some (kd, _, _, v) => if (Nat.beq kd 9 && Nat.beq len 3) = true then some (pc + 3, lo, bL v v :: st, F, rw, nc, ns) else none
      | none => none)
    | .ldc i => (match e_res RT (mO M) i with
      | some (kd, _, _, v) => if (Nat.beq kd 11 && Nat.beq len 2) = true then some (pc + 2, lo, bI v :: st, F, rw, nc, ns) else none
      | none => none)
    | .ldc_w i => (match e_res RT (mO M) i with
      | some (kd, _, _, v) => if (Nat.beq kd 11 && Nat.beq len 3) = true then some (pc + 3, lo, bI v :: st, F, rw, nc, ns) else none
      | none => none)
    | _ => if f_lds ins = true then (match st with
        | i :: a :: st' => (match f_kd T F.2.1 a with
          | some (κ, nn, nm, .inl (t, n, x)) => (match f_pl F.2.1 i n with
            | some (l, h) => (match k_hull x l h with
              | some ty => if (Nat.ble t 5 && (decide (n < 65536) && (Nat.beq len 1 && e_ald ins t))) = true then (match f_load T κ nn nm i ty F with | (v, F') => some (pc + 1, lo, v :: st', F', rw, nc, ns)) else none
              | none => none)
            | none => none)
          | _ => none)
        | _ => none)
      else if f_sts ins = true then (match st with
        | v :: i :: a :: st' => (match f_kd T F.2.1 a with
          | some (κ, nn, nm, .inl (t, n, x)) => (match f_pl F.2.1 i n with
            | some (l, h) => if (Nat.ble t 5 && (decide (n < 65536) && (Nat.beq len 1 && (e_aop ins t && (f_afit T F.2.1 t v && (k_all (f_fit F.2.1 v) x l h && f_wr wr κ l h)))))) = true then some (pc + 1, lo, st', f_store T κ nn nm i v F, rw, nc, ns) else none
            | none => none)
          | _ => none)
        | _ => none)
      else none)
end
section
/-! what a method's walk stands on, and what it is to be safe -/
def ROK2 (P : List MT) (own : String) (i : Nat) (r : RES) : Prop := ROK P own i r ∧ (r.1 = 11 → Cond.constant own i (Int32.ofInt r.2.2.2) ∈ BIG ∧ -2147483648 ≤ r.2.2.2 ∧ r.2.2.2 < 2147483648)
def POK2 (P : List MT) (RT : List (List (Nat × RES))) (OW : List String) : Prop :=
  (∀ (j : Nat) (M : MT), P[j]? = some M → MOK M ∧ TOK OW M ∧ OW[mO M]? = some (mY M).cls) ∧ (∀ (o : Nat) (own : String) (L : List (Nat × RES)), OW[o]? = some own → RT[o]? = some L → ∀ q ∈ L, ROK2 P own q.1 q.2) ∧
  (Cond.native arraycopyName ∈ BIG ∧ Cond.static arraycopyName ∈ BIG ∧ Cond.initialized "java/lang/System" ∈ BIG)
theorem e_lk_in {x : List (Nat × RES)} {i : Nat} {r : RES} : e_lk x i = some r → (i, r) ∈ x := by
  induction x with
  | nil => intro h; cases h
  | cons q t ih =>
    obtain ⟨j, r'⟩ := q
    intro h
    simp only [e_lk] at h
    split at h
    · rename_i h1
      have h1 := Nat.eq_of_beq_eq_true h1
      subst h1
      cases h
      exact List.mem_cons_self
    · exact List.mem_cons_of_mem _ (ih h)
theorem res_ok {P : List MT} {RT : List (List (Nat × RES))} {OW : List String} {o i : Nat} {own : String} {r : RES} (hP : POK2 P RT OW) (ho : OW[o]? = some own) (h : e_res RT o i = some r) : ROK2 P own i r := by
  unfold e_res at h
  split at h
  · rename_i x hx
    exact hP.2.1 o own x ho hx _ (e_lk_in h)
  · cases h
/-- what is outside: a predicate that later states keep -/
abbrev EWt : Type := (Nat → Nat) → (Nat → Prop) → State → Prop
def EWOK (EW : EWt) : Prop := (∀ (ex : Nat → Nat) (A A1 : Nat → Prop) (s U : State) (locs : List Loc) (H : Heap), EW ex A s → s.WarmedH U.vm → U.heap = H → va_S A s.heap H locs → (∀ q, A1 q → A q) → EW ex A1 U) ∧ (∀ (ex : Nat → Nat) (A : Nat → Prop) (U : State) (g : JFrame) (mk : MethodId) (a : Array Value), EW ex A U → EW ex A (U.calling g mk a))
abbrev RMt : Type := Nat × Nat × Nat × Nat
def Cx (OW : List String) (EW : EWt) (D : va_G) (cy : Nat → ClassId) (ex : Nat → Nat) (M : MT) (own : String) (p : Program) (R : Room) (s : State) (m : MethodId) (args : Array Value) (meth : Method) (c : Code) (A : Nat → Prop) (rm : RMt) (cb sb : Nat) : Prop :=
  p.tables.exec = Jvm.exec ∧ c.code = mC M ∧ c.maxLocals = mL M ∧ OW[mO M]? = some own ∧ s.vm.findClass own = some m.cls ∧ (∀ w ∈ BIG, w.before args s = true) ∧ KK D cy s ∧ (∀ q, s.heap.size ≤ q → A q) ∧ TOK OW M ∧ EW ex A s ∧ rm.1 ≤ R.frames ∧ cb + rm.2.1 ≤ R.cells ∧ sb + rm.2.2.1 ≤ R.slots ∧ rm.2.2.2 ≤ R.locals
/-- what is being made: one cell beside the others -/
def hraw (rw : Option (Nat × Nat)) (I : IN) (raw : va_W) : Prop := match rw with
  | none => raw = []
  | some (k, ci) => ∃ (q n : Nat), I.1[k]? = some (q : Int) ∧ raw = [(q, .inr (ci, v_dflts (clTy ci) 0 n))] ∧ ∃ r : vw_C, vwCl[ci]? = some r ∧ r.2.2 = n
def Sf (T : TBt) (FP : Nat → CUt → List Int → Prop) (D : va_G) (cy : Nat → ClassId) (I0 : IN) (ks0 : List Nat) (wp0 : va_W) (wr : WR) (M : MT) (p : Program) (l : Launch) (e : Env) (R : Room) (s : State) (m : MethodId) (args : Array Value) (below : List Frame) (meth : Method) (c : Code) (A : Nat → Prop) (Q : State → Prop) (cb sb : Nat) (S : SB) : Prop :=
  ∀ (I : IN) (H : Heap) (locs : List Loc) (ls : Array Slot) (lv : List (Nat × Value)) (vs : List Value) (ks : List Nat) (wp raw : va_W), lv_has ls (mL M) lv → hlv I S.2.1 lv → hvs I S.2.2.1 vs → HS T FP cy I ks wp S.2.2.2.1 → hraw S.2.2.2.2.1 I raw → va_P D vwCl (wp ++ raw) H → va_D A (wp ++ raw) → va_S A s.heap H locs → hxt I0 I → Unch wr ks0 wp0 ks wp →
    W p l e R s m args below meth c H locs (cb + S.2.2.2.2.2.1) (sb + S.2.2.2.2.2.2) Q (F0 m S.1 ls vs)
theorem hap_of {A : Nat → Prop} {wp raw : va_W} (h : va_D A (wp ++ raw)) : hap wp := by
  intro i j p q hi hj e
  refine h.1 i j p q ?_ ?_ e
  · rw [List.getElem?_append_left (List.getElem?_eq_some_iff.mp hi).1]; exact hi
  · rw [List.getElem?_append_left (List.getElem?_eq_some_iff.mp hj).1]; exact hj
theorem wr_at {wp raw : va_W} {i : Nat} {x : Nat × va_E} (h : wp[i]? = some x) : (wp ++ raw)[i]? = some x := by
  rw [List.getElem?_append_left (List.getElem?_eq_some_iff.mp h).1]; exact h
theorem wr_set {wp raw : va_W} {i : Nat} {x y : Nat × va_E} (h : wp[i]? = some y) : (wp ++ raw).set i x = wp.set i x ++ raw := by
  rw [List.set_append_left _ _ (List.getElem?_eq_some_iff.mp h).1]
/-- the cell that a reference of a kind points to -/
theorem kd_ok {T : TBt} {FP : Nat → CUt → List Int → Prop} {cy : Nat → ClassId} {I : IN} {ks : List Nat} {wp : va_W} {F : FS} {a : BV} {v : Value} {κ : Nat} {nn : Bool} {nm : Option Nat} {d : KD} (h : HS T FP cy I ks wp F) (hv9 : hv I a v) (hk : f_kd T F.2.1 a = some (κ, nn, nm, d)) : ∃ (q i : Nat) (e : va_E), v = .ref q ∧ ks[i]? = some κ ∧ wp[i]? = some (q, e) ∧ ktyped cy I.2.1 d e ∧ T.1[κ]? = some d ∧ a = bP κ nn nm := by
  unfold f_kd at hk
  split at hk
  · rename_i κ' nn' nm'
    split at hk
    · rename_i hn
      split at hk
      · rename_i d' hd
        cases hk
        obtain ⟨q, rfl⟩ := f_nn_ok h.2.1 hv9 hn
        have hq : (q, κ) ∈ I.2.1 := by
          rcases hv9.1 with ⟨-, h1⟩ | ⟨q', h1, h2⟩
          · cases h1
          · cases h2; exact h1
        obtain ⟨i, e, g1, g2⟩ := h.1.2.2.1 q κ d hq hd
        obtain ⟨q2, e2, d2, g3, g4, g5, -⟩ := h.1.2.1 i κ g1
        rw [g2] at g3
        cases g3
        rw [hd] at g4
        cases g4
        exact ⟨q, i, e, rfl, g1, g2, g5, hd, rfl⟩
      · cases hk
    · cases hk
  · cases hk
theorem f_fits_ok {I : IN} {n : Nat} {E : EB} {ty : FieldType} {a : BV} {v : Value} (hE : henv I.1 n E) (h : hv I a v) (hf : f_fits E ty a = true) : narrow ty v = v ∧ fits ty v = true := by
  unfold f_fits at hf
  split at hf
  · obtain ⟨x, rfl⟩ := hv_isI h hf
    exact ⟨rfl, rfl⟩
  · split at hf
    · rename_i lo hi hq
      simp only [Bool.and_eq_true, decide_eq_true_eq] at hf
      obtain ⟨x, rfl, h1, h2⟩ := hv_int hE h hq
      rcases en_b01 (x := x) (by omega) (by omega) with rfl | rfl <;> exact ⟨by decide, by decide⟩
    · cases hf
  · obtain ⟨x, rfl⟩ := hv_isL h hf
    exact ⟨rfl, rfl⟩
  · rcases hv_isR h hf with rfl | ⟨q, rfl⟩ <;> exact ⟨rfl, rfl⟩
  · rcases hv_isR h hf with rfl | ⟨q, rfl⟩ <;> exact ⟨rfl, rfl⟩
  · cases hf
theorem f_pl_ok {I : IN} {n0 : Nat} {E : EB} {i : BV} {v : Value} {n l h : Nat} (hE : henv I.1 n0 E) (hv9 : hv I i v) (hp : f_pl E i n = some (l, h)) : ∃ (j : Int32) (z : Nat), v = .int j ∧ j.toInt = (z : Int) ∧ z < n ∧ l ≤ z ∧ z ≤ h ∧ f_ev I.1 i = some (z : Int) := by
  unfold f_pl at hp
  split at hp
  · rename_i l0 h0 hiv
    split at hp
    · rename_i q
      simp only [Bool.and_eq_true, decide_eq_true_eq] at q
      cases hp
      obtain ⟨j, rfl, g1, g2⟩ := hv_int hE hv9 hiv
      have e9 : j.toInt = (j.toInt.toNat : Int) := by omega
      refine ⟨j, j.toInt.toNat, rfl, e9, by omega, by omega, by omega, ?_⟩
      rw [← e9]
      exact hv_ev hv9
    · cases hp
  · cases hp
theorem f_afit_ok {T : TBt} {FP : Nat → CUt → List Int → Prop} {cy : Nat → ClassId} {I : IN} {ks : List Nat} {wp raw : va_W} {F : FS} {t : Nat} {a : BV} {v : Value} (ht : t < 6) (h : HS T FP cy I ks wp F) (hv9 : hv I a v) (hf : f_afit T F.2.1 t a = true) : v_afit t v ∨ (4 ≤ t ∧ (v = .null ∨ ∃ (i2 q2 : Nat) (vs2 : List Value), v = .ref q2 ∧ (wp ++ raw)[i2]? = some (q2, .inr (e_acls t, vs2)))) := by
  unfold f_afit at hf
  split at hf
  · obtain ⟨x, rfl⟩ := hv_isI hv9 hf
    exact Or.inl (Or.inl ⟨rfl, x, rfl⟩)
  · split at hf
    · rename_i lo hi hq
      simp only [Bool.and_eq_true, decide_eq_true_eq] at hf
      obtain ⟨x, rfl, h1, h2⟩ := hv_int h.2.1 hv9 hq
      exact Or.inl (Or.inr (Or.inl ⟨rfl, x, rfl, by omega, by omega⟩))
    · cases hf
  · split at hf
    · rename_i lo hi hq
      simp only [Bool.and_eq_true, decide_eq_true_eq] at hf
      obtain ⟨x, rfl, h1, h2⟩ := hv_int h.2.1 hv9 hq
      exact Or.inl (Or.inr (Or.inr (Or.inl ⟨rfl, x, rfl, by omega, by omega⟩)))
    · cases hf
  · obtain ⟨x, rfl⟩ := hv_isL hv9 hf
    exact Or.inl (Or.inr (Or.inr (Or.inr ⟨rfl, x, rfl⟩)))
  · rename_i n0 n1 n2 n3
    have h4 : 4 ≤ t := by
      rcases t with _ | _ | _ | _ | t
      · exact absurd rfl n0
      · exact absurd rfl n1
      · exact absurd rfl n2
      · exact absurd rfl n3
      · omega
    right
    refine ⟨h4, ?_⟩
    split at hf
    · exact Or.inl hv9
    · rename_i κ b1 b2
      split at hf
      · rename_i ci fs hd
        have hf := Nat.eq_of_beq_eq_true hf
        rcases hv9.1 with ⟨-, h1⟩ | ⟨q, h1, h2⟩
        · exact Or.inl h1
        · obtain ⟨i, e, g1, g2⟩ := h.1.2.2.1 q κ _ h1 hd
          obtain ⟨q2, e2, d2, g3, g4, g5, -⟩ := h.1.2.1 i κ g1
          rw [g2] at g3
          cases g3
          rw [hd] at g4
          cases g4
          obtain ⟨vs, rfl, -⟩ := g5.1
          exact Or.inr ⟨i, q, vs, h2, by rw [← hf]; exact wr_at g2⟩
      · cases hf
    · cases hf
end
section
section BHST
variable {T : TBt} {FP : Nat → CUt → List Int → Prop} {RT : List (List (Nat × RES))} {P : List MT} {OW : List String} {EW : EWt} {D : va_G} {cy : Nat → ClassId} {I0 : IN} {ks0 : List Nat} {wp0 : va_W} {wr : WR} {M : MT} {own : String}
variable {p : Program} {l : Launch} {e : Env} {R : Room} {s : State} {m : MethodId} {args : Array Value} {below : List Frame} {meth : Method} {c : Code} {A : Nat → Prop} {Q : State → Prop} {rm : RMt} {cb sb : Nat}
theorem f_plainF_ok {ci k : Nat} {r : vw_C} (h : f_plainF ci k = true) (hc : vwCl[ci]? = some r) : k < r.2.2 ∧ (r.2.1 k).2.2.2 = false := by
  unfold f_plainF at h
  rw [hc] at h
  simp only [Bool.and_eq_true] at h
  exact ⟨Nat.lt_of_lt_of_le (Nat.lt_succ_self k) (Nat.le_of_ble_eq_true h.1), by simpa using h.2⟩
theorem ktyped_put {AK : List (Nat × Nat)} {ci k : Nat} {tys : List BT} {vs : List Value} {t : BT} {v : Value} (h : ktyped cy AK (.inr (ci, tys)) (.inr (ci, vs))) (hk : tys[k]? = some t) (ht9 : ht AK t v) : k < vs.length ∧ ktyped cy AK (.inr (ci, tys)) (.inr (ci, vs.set k v)) := by
  obtain ⟨⟨vs', e1, hlen⟩, h2⟩ := h
  cases e1
  have hlt : k < tys.length := (List.getElem?_eq_some_iff.mp hk).1
  refine ⟨by omega, ⟨_, rfl, by simp [hlen]⟩, fun j t' hj hj2 => ?_⟩
  by_cases e9 : k = j
  · subst e9
    simp only [k_ty] at hj2
    rw [hk] at hj2
    cases hj2
    exact ⟨v, by simp only [cval]; rw [List.getElem?_set, if_pos rfl, if_pos (by omega)], ht9⟩
  · obtain ⟨w, g1, g2⟩ := h2 j t' hj hj2
    refine ⟨w, ?_, g2⟩
    simp only [cval] at g1 ⊢
    rw [List.getElem?_set, if_neg e9]; exact g1
theorem ktyped_ast {AK : List (Nat × Nat)} {d : KD} {e0 e1 : va_E} {z : Nat} {v : Value} (h : ktyped cy AK d e0) (hs : kshape cy d e1) (hz : cval e1 z = some v) (he : ∀ j, j ≠ z → cval e1 j = cval e0 j) (ht9 : ∀ t, k_ty d z = some t → ht AK t v) : ktyped cy AK d e1 := by
  refine ⟨hs, fun j t hj hj2 => ?_⟩
  by_cases e9 : j = z
  · subst e9
    exact ⟨v, hz, ht9 t hj2⟩
  · obtain ⟨w, g1, g2⟩ := h.2 j t hj hj2
    exact ⟨w, by rw [he j e9]; exact g1, g2⟩
set_option maxHeartbeats 4000000 in
theorem s_hst {S S' : SB} {ins : Instr} {len : Nat} (hFP : FPOK T FP) (hSU : SUOK T) (hP : POK2 P RT OW) (X : Cx OW EW D cy I0.2.2 M own p R s m args meth c A rm cb sb) (h : f_hst T RT M wr S ins len = some S') (hd : decode (mC M) S.1 = .ok (ins, len))
    (k : Sf T FP D cy I0 ks0 wp0 wr M p l e R s m args below meth c A Q cb sb S') : Sf T FP D cy I0 ks0 wp0 wr M p l e R s m args below meth c A Q cb sb S := by
  obtain ⟨pc, lo, st, F, rw0, nc, ns⟩ := S
  obtain ⟨x1, x2, x3, x4, x5, x6, x7, x8, x9, x10, x11⟩ := X
  intro I H locs ls lv vs ks wp raw a1 a2 a3 a4 a5 a6 a7 a8 a9 a10
  simp only at a2 a3 a4 a5 hd ⊢
  have hlk : ∀ {kd ci kf : Nat} {z : Int} {i : Nat} {r : vw_C}, kd ≤ 1 → e_res RT (mO M) i = some (kd, ci, kf, z) → vwCl[ci]? = some r → kf < r.2.2 ∧ ((Cond.fieldLink own i (r.2.1 kf).1 (r.2.1 kf).2.1 (r.2.1 kf).2.2.1).before args s = true ∨ ∃ host, (Cond.fieldLinkNest own i (r.2.1 kf).1 (r.2.1 kf).2.1 (r.2.1 kf).2.2.1 host).before args s = true) := by
    intro kd ci kf z i r hkd hr hc
    have hro := (res_ok hP x4 hr).1
    rcases (show kd = 0 ∨ kd = 1 by omega) with rfl | rfl
    · obtain ⟨r', r1, r2, r3⟩ := hro
      rw [hc] at r1
      cases r1
      exact ⟨r2, Or.inl (x6 _ r3)⟩
    · obtain ⟨r', host, r1, r2, r3⟩ := hro
      rw [hc] at r1
      cases r1
      exact ⟨r2, Or.inr ⟨host, va_Nw.use rfl (x7.2.1 _ r3)⟩⟩
  have hcls : ∀ {kd ci kf : Nat} {z : Int} {i : Nat}, kd ≤ 1 → e_res RT (mO M) i = some (kd, ci, kf, z) → ∃ r : vw_C, vwCl[ci]? = some r := by
    intro kd ci kf z i hkd hr
    have hro := (res_ok hP x4 hr).1
    rcases (show kd = 0 ∨ kd = 1 by omega) with rfl | rfl
    · obtain ⟨r', r1, -⟩ := hro; exact ⟨r', r1⟩
    · obtain ⟨r', host, r1, -⟩ := hro; exact ⟨r', r1⟩
  unfold f_hst at h
  simp only at h
  split at h
  · -- getfield
    split at h
    · rename_i kd ci kf z a st' hr
      split at h
      · rename_i κ nn nm ci' tys hkd
        split at h
        · rename_i t hty
          split at h
          · rename_i q
            simp only [Bool.and_eq_true] at q
            obtain ⟨q1, q2, q3⟩ := q
            have q1 := Nat.le_of_ble_eq_true q1
            have q2 := Nat.eq_of_beq_eq_true q2
            have q3 := Nat.eq_of_beq_eq_true q3
            subst q2
            subst q3
            cases hld : f_load T κ nn nm (bI (kf : Int)) t F with
            | mk v0 F' =>
            rw [hld] at h
            simp only at h
            cases h
            obtain ⟨v1, vs1, rfl, g1, g2⟩ := hvs_cons a3
            obtain ⟨qa, i0, e0, rfl, hki, hwi, hty0, hT, rfl⟩ := kd_ok a4 g1 hkd
            obtain ⟨vs0, rfl, hlen⟩ := hty0.1
            have hlt : kf < tys.length := (List.getElem?_eq_some_iff.mp hty).1
            obtain ⟨w, hw1, hw2⟩ := hty0.2 kf t hlt hty
            obtain ⟨r, hr1⟩ := hcls q1 hr
            obtain ⟨hk2, hlink⟩ := hlk q1 hr hr1
            obtain ⟨J, j1, j2, j3, j4⟩ := load_ok (p := bI (kf : Int)) a4 (hap_of a7) hki hwi g1 rfl hw1 hw2 hld
            refine b_get x1 x2 x6 x5 x7 a6 (wr_at hwi) hr1 hk2 hw1 hlink hd ?_
            exact k J H locs ls lv _ ks wp raw a1 (a2.xt j1) ⟨j3, g2.xt j1⟩ j4 (by
              revert a5
              cases rw0 with
              | none => exact id
              | some x => intro ⟨q, n, w1, w2, w3⟩; exact ⟨q, n, j1.at w1, w2, w3⟩) a6 a7 a8 (a9.tr j1) a10
          · cases h
        · cases h
      · cases h
    · cases h
  · -- putfield
    split at h
    · rename_i kd ci kf z v a st' hr
      split at h
      · rename_i κ nn nm ci' tys hkd
        split at h
        · rename_i t hty
          split at h
          · rename_i q
            simp only [Bool.and_eq_true] at q
            obtain ⟨q1, q2, q3, q4, q5, q6, q7⟩ := q
            have q1 := Nat.le_of_ble_eq_true q1
            have q2 := Nat.eq_of_beq_eq_true q2
            have q3 := Nat.eq_of_beq_eq_true q3
            subst q2
            subst q3
            cases h
            obtain ⟨v0, vs1, rfl, g1, g2⟩ := hvs_cons a3
            obtain ⟨v1, vs2, rfl, g3, g4⟩ := hvs_cons g2
            obtain ⟨qa, i0, e0, rfl, hki, hwi, hty0, hT, rfl⟩ := kd_ok a4 g3 hkd
            obtain ⟨vs0, rfl, hlen⟩ := hty0.1
            obtain ⟨r, hr1⟩ := hcls q1 hr
            obtain ⟨hk2, hlink⟩ := hlk q1 hr hr1
            have hft := f_fit_ok a4.2.1 g1 q4
            obtain ⟨f1, f2⟩ := f_fits_ok a4.2.1 g1 q5
            obtain ⟨hkl, hty1⟩ := ktyped_put hty0 hty hft
            have hne : ∀ j, j ≠ kf → cval (.inr (ci, vs0.set kf v0)) j = cval (.inr (ci, vs0)) j := by
              intro j hj
              simp only [cval]
              rw [List.getElem?_set, if_neg (fun h => hj h.symm)]
            have hvz : cval (.inr (ci, vs0.set kf v0)) kf = some v0 := by
              simp only [cval]
              rw [List.getElem?_set, if_pos rfl, if_pos hkl]
            refine b_put x1 x2 x6 x5 x7 a6 a7 a8 (wr_at hwi) hr1 hk2 hkl f1 f2 (f_plainF_ok q6 hr1).2 hlink hd (fun H1 locs1 w1 w2 w3 => ?_)
            rw [wr_set hwi] at w1 w2
            exact k I H1 locs1 ls lv _ ks _ raw a1 a2 g4 (store_ok (p := bI (kf : Int)) hFP hSU a4 hki hwi g3 rfl hvz g1 hne hT hty1) a5 w1 w2 w3 a9 (a10.set hki hwi hne (f_wr_ok q7 (Nat.le_refl _) (Nat.le_refl _)))
          · cases h
        · cases h
      · cases h
    · cases h
  · -- arraylength
    split at h
    · rename_i a st'
      split at h
      · rename_i κ nn nm t n x hkd
        split at h
        · rename_i q
          simp only [Bool.and_eq_true, decide_eq_true_eq] at q
          obtain ⟨q1, q2, q3⟩ := q
          have q1 := Nat.le_of_ble_eq_true q1
          have q3 := Nat.eq_of_beq_eq_true q3
          subst q3
          cases h
          obtain ⟨v1, vs1, rfl, g1, g2⟩ := hvs_cons a3
          obtain ⟨qa, i0, e0, rfl, hki, hwi, hty0, hT, rfl⟩ := kd_ok a4 g1 hkd
          refine b_alen x1 x2 x7 a6 (wr_at hwi) hty0.1 (by omega) hd ?_
          exact k I H locs ls lv _ ks wp raw a1 a2 ⟨⟨_, rfl, nI_toInt (by omega)⟩, g2⟩ a4 a5 a6 a7 a8 a9 a10
        · cases h
      · cases h
    · cases h
  · -- ldc2_w
    split at h
    · rename_i kd z1 z2 v hr
      split at h
      · rename_i q
        simp only [Bool.and_eq_true] at q
        have q1 := Nat.eq_of_beq_eq_true q.1
        have q2 := Nat.eq_of_beq_eq_true q.2
        subst q1
        subst q2
        cases h
        obtain ⟨r1, r2, r3⟩ := (res_ok hP x4 hr).1
        have w : (Int64.ofInt v).toInt = v := by
          rw [Int64.toInt_ofInt_of_le (by omega) (by omega)]
        exact lv_ldc2 x1 x2 x5 (x6 _ r1) hd (k I H locs ls lv _ ks wp raw a1 a2 ⟨⟨_, rfl, by rw [w]; omega, by rw [w]; omega⟩, a3⟩ a4 a5 a6 a7 a8 a9 a10)
      · cases h
    · cases h
  · -- ldc
    split at h
    · rename_i kd z1 z2 v hr
      split at h
      · rename_i q
        simp only [Bool.and_eq_true] at q
        have q1 := Nat.eq_of_beq_eq_true q.1
        have q2 := Nat.eq_of_beq_eq_true q.2
        subst q1
        subst q2
        cases h
        obtain ⟨r1, r2, r3⟩ := (res_ok hP x4 hr).2 rfl
        exact lv_ldc x1 x2 x5 (x6 _ r1) hd (k I H locs ls lv _ ks wp raw a1 a2 ⟨⟨_, rfl, en_o32 r2 r3⟩, a3⟩ a4 a5 a6 a7 a8 a9 a10)
      · cases h
    · cases h
  · -- ldc_w
    split at h
    · rename_i kd z1 z2 v hr
      split at h
      · rename_i q
        simp only [Bool.and_eq_true] at q
        have q1 := Nat.eq_of_beq_eq_true q.1
        have q2 := Nat.eq_of_beq_eq_true q.2
        subst q1
        subst q2
        cases h
        obtain ⟨r1, r2, r3⟩ := (res_ok hP x4 hr).2 rfl
        exact lv_ldcw x1 x2 x5 (x6 _ r1) hd (k I H locs ls lv _ ks wp raw a1 a2 ⟨⟨_, rfl, en_o32 r2 r3⟩, a3⟩ a4 a5 a6 a7 a8 a9 a10)
      · cases h
    · cases h
  · split at h
    · -- a place is read
      split at h
      · rename_i i a st'
        split at h
        · rename_i κ nn nm t n x hkd
          split at h
          · rename_i l1 h1 hpl
            split at h
            · rename_i ty hty
              split at h
              · rename_i q
                simp only [Bool.and_eq_true, decide_eq_true_eq] at q
                obtain ⟨q1, q2, q3, q4⟩ := q
                have q1 := Nat.le_of_ble_eq_true q1
                have q3 := Nat.eq_of_beq_eq_true q3
                subst q3
                cases hld : f_load T κ nn nm i ty F with
                | mk v0 F' =>
                rw [hld] at h
                simp only at h
                cases h
                obtain ⟨v1, vs1, rfl, g1, g2⟩ := hvs_cons a3
                obtain ⟨v2, vs2, rfl, g3, g4⟩ := hvs_cons g2
                obtain ⟨qa, i0, e0, rfl, hki, hwi, hty0, hT, rfl⟩ := kd_ok a4 g3 hkd
                obtain ⟨j, z, rfl, jz, zn, zl, zh, jev⟩ := f_pl_ok a4.2.1 g1 hpl
                obtain ⟨t', t1, t2⟩ := k_hull_ok (AK := I.2.1) (v := (cval e0 z).getD .null) hty zl zh
                obtain ⟨w, hw1, hw2⟩ := hty0.2 z t' zn t1
                rw [hw1] at t2
                obtain ⟨J, j1, j2, j3, j4⟩ := load_ok a4 (hap_of a7) hki hwi g3 jev hw1 (t2 hw2) hld
                refine b_ald x1 x2 x7 a6 (wr_at hwi) hty0.1 (by omega) jz zn (by omega) hw1 q4 hd ?_
                exact k J H locs ls lv _ ks wp raw a1 (a2.xt j1) ⟨j3, g4.xt j1⟩ j4 (by
                  revert a5
                  cases rw0 with
                  | none => exact id
                  | some x => intro ⟨q, n, w1, w2, w3⟩; exact ⟨q, n, j1.at w1, w2, w3⟩) a6 a7 a8 (a9.tr j1) a10
              · cases h
            · cases h
          · cases h
        · cases h
      · cases h
    · split at h
      · -- a place is written
        split at h
        · rename_i v i a st'
          split at h
          · rename_i κ nn nm t n x hkd
            split at h
            · rename_i l1 h1 hpl
              split at h
              · rename_i q
                simp only [Bool.and_eq_true, decide_eq_true_eq] at q
                obtain ⟨q1, q2, q3, q4, q5, q6, q7⟩ := q
                have q1 := Nat.le_of_ble_eq_true q1
                have q3 := Nat.eq_of_beq_eq_true q3
                subst q3
                cases h
                obtain ⟨v0, vs1, rfl, g1, g2⟩ := hvs_cons a3
                obtain ⟨v1, vs2, rfl, g3, g4⟩ := hvs_cons g2
                obtain ⟨v2, vs3, rfl, g5, g6⟩ := hvs_cons g4
                obtain ⟨qa, i0, e0, rfl, hki, hwi, hty0, hT, rfl⟩ := kd_ok a4 g5 hkd
                obtain ⟨j, z, rfl, jz, zn, zl, zh, jev⟩ := f_pl_ok a4.2.1 g3 hpl
                refine b_ast (x := x) x1 x2 x7 a6 a7 a8 (wr_at hwi) hty0.1 (by omega) jz zn (by omega) (f_afit_ok (by omega) a4 g1 q5) q4 hd (fun e1 s1 s2 s3 H1 locs1 w1 w2 w3 => ?_)
                rw [wr_set hwi] at w1 w2
                have hty1 := ktyped_ast hty0 s1 s2 s3 (fun t' h9 => f_fit_ok a4.2.1 g1 (k_all_ok q6 zl zh t' h9))
                exact k I H1 locs1 ls lv _ ks _ raw a1 a2 g6 (store_ok hFP hSU a4 hki hwi g5 jev s2 g1 s3 hT hty1) a5 w1 w2 w3 a9 (a10.set hki hwi s3 (f_wr_ok q7 zl zh))
              · cases h
            · cases h
          · cases h
        · cases h
      · cases h
end BHST
end
section
/-! one state lies within another, names by names -/
def g_sub (σ : List BV) (a : BV) : Option BV := match a with
  | .inr (.inl (k, c)) => (match σ[k]? with
    | some b => if f_isI b = true then some (f_off b c) else none
    | none => none)
  | .inr (.inr (.inr (.inl (some (κ, nn, some k))))) => (match σ[k]? with
    | some (.inr (.inl (k', c))) => if decide (c = 0) = true then some (bP κ nn (some k')) else none
    | _ => none)
  | x => some x
def g_subs (σ : List BV) (as : List BV) : Option (List BV) := match as with
  | [] => some []
  | a :: r => (match g_sub σ a, g_subs σ r with | some b, some bs => some (b :: bs) | _, _ => none)
def g_le (E : EB) (a b : BV) : Bool := if bv_eq a b = true then true else (match b with
  | .inl n => (match f_iv E a with | some (l, h) => decide (l = n) && decide (h = n) | none => false)
  | .inr (.inl _) => (match f_iv E a, f_iv E b with | some (l, h), some (l', h') => decide (l = h) && (decide (l' = h') && decide (l = l')) | _, _ => false)
  | .inr (.inr (.inl (l', h'))) => (match a with | .inr (.inr (.inl (l, h))) => decide (l' ≤ l) && decide (h ≤ h') | _ => false)
  | .inr (.inr (.inr (.inl (some (κ, nn, none))))) => (match a with
    | .inr (.inr (.inr (.inl none))) => !nn
    | .inr (.inr (.inr (.inl (some (κ', _, _))))) => Nat.beq κ κ' && (!nn || f_nn E a)
    | _ => false)
  | _ => false)
def g_les (E : EB) (x y : List BV) : Bool := match x, y with
  | [], [] => true
  | a :: r, a' :: r' => g_le E a a' && g_les E r r'
  | _, _ => false
/-- not more, by a chain of facts -/
def g_leq (E : EB) (SF : List SFt) : Nat → BV → BV → Bool
  | 0, a, b => f_lez E a b
  | n + 1, a, b => f_lez E a b || (match a with
    | .inr (.inl (k, c)) => SF.any (fun f => Nat.beq f.1 0 && (match f.2 with
      | [.inr (.inl (k1, c1)), y] => Nat.beq k1 k && g_leq E SF n (f_off y (c - c1)) b
      | _ => false))
    | _ => false)
def g_ckS (n : Nat) (σ : List BV) : Bool := σ.all (fun b => match b with
  | .inl _ => true
  | .inr (.inl (k, _)) => decide (k < n)
  | _ => false)
def g_ckE (E : EB) (σ : List BV) (E' : EB) : Bool := E'.all (fun q => match σ[q.1]? with
  | some b => (match f_iv E b with | some (l, h) => decide (q.2.1 ≤ l) && decide (h ≤ q.2.2) | none => false)
  | none => false)
def g_ckC (E : EB) (CF : List CFt) (σ : List BV) (CF' : List CFt) : Bool := CF'.all (fun f => match (match f.2.1 with | none => some none | some k => (match σ[k]? with | some (.inr (.inl (k', c))) => if decide (c = 0) = true then some (some k') else none | _ => none)), g_sub σ f.2.2.1, g_sub σ f.2.2.2 with
  | some b, some p, some v => (match f_cf CF f.1 b p with | some w => g_le E w v | none => false)
  | _, _, _ => false)
def g_ckF (E : EB) (SF : List SFt) (σ : List BV) (SF' : List SFt) : Bool := SF'.all (fun f => match g_subs σ f.2 with
  | some as => SF.any (fun f1 => Nat.beq f1.1 f.1 && bvs_eq f1.2 as) || (Nat.beq f.1 0 && (match as with | [x, y] => g_leq E SF 6 x y | _ => false))
  | none => false)
def g_ckL (E : EB) (lo : List (Nat × BV)) (σ : List BV) (lo' : List (Nat × BV)) : Bool := lo'.all (fun q => match f_find lo q.1, g_sub σ q.2 with
  | some a, some b => g_le E a b
  | _, _ => false)
def g_ckT (E : EB) (st : List BV) (σ : List BV) (st' : List BV) : Bool := match g_subs σ st' with
  | some bs => g_les E st bs
  | none => false
section BMATCH
variable {T : TBt} {FP : Nat → CUt → List Int → Prop} {cy : Nat → ClassId} {I : IN} {ks : List Nat} {wp : va_W} {n : Nat} {E : EB}
theorem hv_ev_iff {a : BV} {v : Value} (ha : f_isI a = true) : hv I a v ↔ ∃ x : Int32, v = .int x ∧ f_ev I.1 a = some x.toInt := by
  constructor
  · intro h
    obtain ⟨x, rfl⟩ := hv_isI h ha
    exact ⟨x, rfl, hv_ev h⟩
  · rintro ⟨x, rfl, h⟩
    exact ev_hv h
theorem f_isI_off {a : BV} {d : Int} : f_isI (f_off a d) = f_isI a := by
  rcases a with c | ⟨k, c⟩ | ⟨l0, h0⟩ | (_ | ⟨κ, nn, nm⟩) | j <;> rfl
theorem g_sub_isI {σ : List BV} {a b : BV} (h : g_sub σ a = some b) (ha : f_isI a = true) : f_isI b = true := by
  rcases a with c | ⟨k, c⟩ | ⟨l0, h0⟩ | (_ | ⟨κ, nn, nm⟩) | j
  · cases h; rfl
  · simp only [g_sub] at h
    split at h
    · split at h
      · rename_i q; cases h; rw [f_isI_off]; exact q
      · cases h
    · cases h
  all_goals cases ha
theorem g_sub_ev {ν zs : List Int} {σ : List BV} {a b : BV} (hσ : f_evs ν σ = some zs) (h : g_sub σ a = some b) (ha : f_isI a = true) : ∃ z, f_ev zs a = some z ∧ f_ev ν b = some z := by
  rcases a with c | ⟨k, c⟩ | ⟨l0, h0⟩ | (_ | ⟨κ, nn, nm⟩) | j
  · cases h; exact ⟨c, rfl, rfl⟩
  · simp only [g_sub] at h
    split at h
    · rename_i s hs
      split at h
      · cases h
        obtain ⟨y, g1, g2⟩ := f_evs_at hσ hs
        exact ⟨y + c, by simp only [f_ev, g1], ev_off g2⟩
      · cases h
    · cases h
  all_goals cases ha
theorem g_sub_iff {zs : List Int} {σ : List BV} {a b : BV} {v : Value} (hσ : f_evs I.1 σ = some zs) (h : g_sub σ a = some b) : hv (zs, I.2) a v ↔ hv I b v := by
  by_cases ha : f_isI a = true
  · rw [hv_ev_iff ha, hv_ev_iff (g_sub_isI h ha)]
    obtain ⟨z, g1, g2⟩ := g_sub_ev hσ h ha
    simp only [g1, g2]
  · rcases a with c | ⟨k, c⟩ | ⟨l0, h0⟩ | (_ | ⟨κ, nn, nm⟩) | j
    · exact absurd rfl ha
    · exact absurd rfl ha
    · cases h; exact Iff.rfl
    · cases h; exact Iff.rfl
    · cases nm with
      | none =>
        cases h
        constructor
        · intro h; exact ⟨h.1, fun k hk => by cases hk⟩
        · intro h; exact ⟨h.1, fun k hk => by cases hk⟩
      | some k =>
        simp only [g_sub] at h
        split at h
        · rename_i k' c hs
          split at h
          · rename_i q
            have q := of_decide_eq_true q
            subst q
            cases h
            obtain ⟨y, g1, g2⟩ := f_evs_at hσ hs
            have g3 : I.1[k']? = some y := by
              simp only [f_ev] at g2
              split at g2
              · rename_i y' hy
                rw [hy]
                simpa using g2
              · cases g2
            constructor
            · intro h
              refine ⟨h.1, fun k2 hk => ?_⟩
              cases hk
              obtain ⟨y2, w1, w2⟩ := h.2 k rfl
              simp only at w1
              rw [g1] at w1
              cases w1
              exact ⟨y, g3, w2⟩
            · intro h
              refine ⟨h.1, fun k2 hk => ?_⟩
              cases hk
              obtain ⟨y2, w1, w2⟩ := h.2 k' rfl
              rw [g3] at w1
              cases w1
              exact ⟨y, g1, w2⟩
          · cases h
        · cases h
    · cases h; exact Iff.rfl
theorem g_subs_iff {zs : List Int} {σ : List BV} (hσ : f_evs I.1 σ = some zs) : ∀ {as bs : List BV} {vs : List Value}, g_subs σ as = some bs → (hvs (zs, I.2) as vs ↔ hvs I bs vs) := by
  intro as
  induction as with
  | nil => intro bs vs h; cases h; cases vs <;> exact Iff.rfl
  | cons a r ih =>
    intro bs vs h
    simp only [g_subs] at h
    split at h
    · rename_i b bs' h1 h2
      cases h
      cases vs with
      | nil => exact Iff.rfl
      | cons v vs => exact and_congr (g_sub_iff hσ h1) (ih h2)
    · cases h
theorem g_le_ok {a b : BV} {v : Value} (hE : henv I.1 n E) (h : hv I a v) (hl : g_le E a b = true) : hv I b v := by
  unfold g_le at hl
  split at hl
  · rename_i q; rw [← bv_eq_ok q]; exact h
  · split at hl
    · split at hl
      · rename_i l h1 hiv
        simp only [Bool.and_eq_true, decide_eq_true_eq] at hl
        obtain ⟨x, rfl, g1, g2⟩ := hv_int hE h hiv
        exact ⟨x, rfl, by omega⟩
      · cases hl
    · rename_i k c
      split at hl
      · rename_i l h1 l' h' hiv hiv'
        simp only [Bool.and_eq_true, decide_eq_true_eq] at hl
        obtain ⟨x, rfl, g1, g2⟩ := hv_int hE h hiv
        simp only [f_iv] at hiv'
        split at hiv'
        · rename_i l2 h2 hk
          obtain ⟨y, w1, w2, w3⟩ := hE.2 _ _ hk
          simp only [Option.some.injEq, Prod.mk.injEq] at hiv'
          simp only at w2 w3
          exact ⟨x, y, rfl, w1, by omega⟩
        · cases hiv'
      · cases hl
    · split at hl
      · simp only [Bool.and_eq_true, decide_eq_true_eq] at hl
        obtain ⟨x, rfl, g1, g2⟩ := h
        exact ⟨x, rfl, by omega, by omega⟩
      · cases hl
    · rename_i κ nn _
      split at hl
      · have hl : nn = false := by simpa using hl
        exact ⟨Or.inl ⟨hl, h⟩, fun k hk => by cases hk⟩
      · rename_i κ' b1 b2
        simp only [Bool.and_eq_true, Bool.or_eq_true] at hl
        have e1 := Nat.eq_of_beq_eq_true hl.1
        subst e1
        refine ⟨?_, fun k hk => by cases hk⟩
        rcases h.1 with ⟨h1, h2⟩ | h1
        · rcases hl.2 with h3 | h3
          · exact Or.inl ⟨by simpa using h3, h2⟩
          · obtain ⟨q, hq⟩ := f_nn_ok hE h h3
            rw [hq] at h2
            cases h2
        · exact Or.inr h1
      · cases hl
    · cases hl
theorem g_les_ok (hE : henv I.1 n E) : ∀ {x y : List BV} {vs : List Value}, hvs I x vs → g_les E x y = true → hvs I y vs := by
  intro x
  induction x with
  | nil =>
    intro y vs h1 h2
    cases y with
    | nil => exact h1
    | cons => cases h2
  | cons a r ih =>
    intro y vs h1 h2
    cases y with
    | nil => cases h2
    | cons a' r' =>
      simp only [g_les, Bool.and_eq_true] at h2
      obtain ⟨v, vs', rfl, g1, g2⟩ := hvs_cons h1
      exact ⟨g_le_ok hE g1 h2.1, ih g2 h2.2⟩
/-- fact 0 says: not more -/
def FP0 (FP : Nat → CUt → List Int → Prop) : Prop := ∀ (cu : CUt) (zs : List Int), FP 0 cu zs ↔ ∃ x y, zs = [x, y] ∧ x ≤ y
theorem sf_le {cu : CUt} {f : SFt} {x y : BV} (h0 : FP0 FP) (h : hsf FP I cu f) (e1 : f.1 = 0) (e2 : f.2 = [x, y]) : hle I.1 (x, y) := by
  obtain ⟨zs, g1, g2⟩ := h
  rw [e1] at g2
  rw [e2] at g1
  obtain ⟨a, b, rfl, h3⟩ := (h0 _ _).mp g2
  simp only [f_evs] at g1
  split at g1
  · rename_i z zs' h1 h2
    split at h2
    · rename_i z2 zs2 h4 h5
      cases h5
      cases h2
      cases g1
      exact ⟨_, _, h1, h4, h3⟩
    · cases h2
  · cases g1
theorem g_leq_ok {cu : CUt} {SF : List SFt} (h0 : FP0 FP) (hE : henv I.1 n E) (hS : ∀ f ∈ SF, hsf FP I cu f) : ∀ (fuel : Nat) {a b : BV} {x y : Int}, g_leq E SF fuel a b = true → f_ev I.1 a = some x → f_ev I.1 b = some y → x ≤ y := by
  intro fuel
  induction fuel with
  | zero => intro a b x y h ha hb; exact f_lez_ok hE h ha hb
  | succ fuel ih =>
    intro a b x y h ha hb
    simp only [g_leq, Bool.or_eq_true] at h
    rcases h with h | h
    · exact f_lez_ok hE h ha hb
    · split at h
      · rename_i k c
        obtain ⟨f, hf, h1⟩ := List.any_eq_true.mp h
        simp only [Bool.and_eq_true] at h1
        have e1 := Nat.eq_of_beq_eq_true h1.1
        have h2 := h1.2
        split at h2
        · rename_i k1 c1 y1 hf2
          simp only [Bool.and_eq_true] at h2
          have e2 := Nat.eq_of_beq_eq_true h2.1
          subst e2
          obtain ⟨w1, w2, g1, g2, g3⟩ := sf_le h0 (hS f hf) e1 hf2
          simp only at g1 g2
          have := ih h2.2 (ev_off g2) hb
          simp only [f_ev] at ha g1
          split at ha
          · rename_i y0 hy
            rw [hy] at g1
            simp only [Option.some.injEq] at ha g1
            omega
          · cases ha
        · cases h2
      · cases h
theorem g_ckS_ok {ν : List Int} {σ : List BV} (hn : ν.length = n) : g_ckS n σ = true → ∃ zs, f_evs ν σ = some zs ∧ zs.length = σ.length := by
  induction σ with
  | nil => intro _; exact ⟨[], rfl, rfl⟩
  | cons b r ih =>
    intro h
    simp only [g_ckS, List.all_cons, Bool.and_eq_true] at h
    obtain ⟨zs, g1, g2⟩ := ih h.2
    have : ∃ z, f_ev ν b = some z := by
      have h1 := h.1
      split at h1
      · exact ⟨_, rfl⟩
      · rename_i k c
        have hk := of_decide_eq_true h1
        have : ν[k]? = some ν[k] := List.getElem?_eq_getElem (by omega)
        exact ⟨ν[k] + c, by simp only [f_ev, this]⟩
      · cases h1
    obtain ⟨z, hz⟩ := this
    exact ⟨z :: zs, by simp only [f_evs, hz, g1], by simp [g2]⟩
theorem f_lk_in {E : EB} {k : Nat} {q : Int × Int} : f_lk E k = some q → (k, q) ∈ E := by
  induction E with
  | nil => intro h; cases h
  | cons x r ih =>
    obtain ⟨j, q'⟩ := x
    intro h
    simp only [f_lk] at h
    split at h
    · rename_i h1
      have h1 := Nat.eq_of_beq_eq_true h1
      subst h1
      cases h
      exact List.mem_cons_self
    · exact List.mem_cons_of_mem _ (ih h)
theorem g_match_ok {F F' : FS} {σ : List BV} {lo lo' : List (Nat × BV)} {st st' : List BV} {ls : Array Slot} {nL : Nat} {lv : List (Nat × Value)} {vs : List Value} (h0 : FP0 FP) (h : HS T FP cy I ks wp F) (hl : lv_has ls nL lv) (hlo : hlv I lo lv) (hst : hvs I st vs)
    (c0 : g_ckS F.1 σ = true) (c1 : σ.length = F'.1) (c2 : g_ckE F.2.1 σ F'.2.1 = true) (c3 : g_ckC F.2.1 F.2.2.1 σ F'.2.2.1 = true) (c4 : g_ckF F.2.1 F.2.2.2 σ F'.2.2.2 = true) (c5 : g_ckL F.2.1 lo σ lo' = true) (c6 : g_ckT F.2.1 st σ st' = true) :
    ∃ zs, f_evs I.1 σ = some zs ∧ HS T FP cy (zs, I.2) ks wp F' ∧ (∃ lv', lv_has ls nL lv' ∧ hlv (zs, I.2) lo' lv') ∧ hvs (zs, I.2) st' vs := by
  obtain ⟨n, E, CF, SF⟩ := F
  obtain ⟨n', E', CF', SF'⟩ := F'
  simp only at c0 c1 c2 c3 c4 c5 c6
  obtain ⟨hp, hE, hC, hS⟩ := h
  simp only at hE hC hS
  obtain ⟨zs, z1, z2⟩ := g_ckS_ok hE.1 c0
  refine ⟨zs, z1, ⟨hp, ⟨by rw [z2]; exact c1, fun k q hk => ?_⟩, fun f hf => ?_, fun f hf => ?_⟩, ?_, ?_⟩
  · have h1 := List.all_eq_true.mp c2 _ (f_lk_in hk)
    simp only at h1
    split at h1
    · rename_i b hb
      split at h1
      · rename_i l9 h9 hiv
        simp only [Bool.and_eq_true, decide_eq_true_eq] at h1
        obtain ⟨y, g1, g2⟩ := f_evs_at z1 hb
        have := ev_iv hE g2 hiv
        exact ⟨y, g1, by omega, by omega⟩
      · cases h1
    · cases h1
  · obtain ⟨κ, b, p, v⟩ := f
    have h1 := List.all_eq_true.mp c3 _ hf
    simp only at h1
    split at h1
    · rename_i b' p' v' hb hp9 hv9
      split at h1
      · rename_i w hw
        obtain ⟨i, q, e, z, x, g1, g2, g3, g4, g5, g6⟩ := hC _ (f_cf_in hw)
        simp only at g1 g3 g4 g6
        have hpI : f_isI p = true := by
          rcases p with c | ⟨k, c⟩ | ⟨l0, h0⟩ | (_ | ⟨κ, nn, nm⟩) | j
          · rfl
          · rfl
          · cases hp9; cases g4
          · cases hp9; cases g4
          · exfalso
            cases nm with
            | none => cases hp9; cases g4
            | some k0 =>
              simp only [g_sub] at hp9
              split at hp9
              · split at hp9
                · cases hp9; cases g4
                · cases hp9
              · cases hp9
          · cases hp9; cases g4
        obtain ⟨z', w1, w2⟩ := g_sub_ev z1 hp9 hpI
        rw [g4] at w2
        cases w2
        refine ⟨i, q, e, z, x, g1, g2, ?_, w1, g5, (g_sub_iff z1 hv9).mpr (g_le_ok hE g6 h1)⟩
        split at hb
        · cases hb; exact g3
        · rename_i k0
          split at hb
          · rename_i k' c hs
            split at hb
            · rename_i q0
              have q0 := of_decide_eq_true q0
              subst q0
              cases hb
              have g3 : I.1[k']? = some (q : Int) := g3
              show zs[k0]? = some (q : Int)
              obtain ⟨y, w3, w4⟩ := f_evs_at z1 hs
              simp only [f_ev, g3] at w4
              rw [w3]
              simpa using w4.symm
            · cases hb
          · cases hb
      · cases h1
    · cases h1
  · obtain ⟨id, as⟩ := f
    have h1 := List.all_eq_true.mp c4 _ hf
    simp only at h1
    split at h1
    · rename_i bs hbs
      have evs : ∀ {as bs : List BV} {zs' : List Int}, g_subs σ as = some bs → f_evs I.1 bs = some zs' → f_evs zs as = some zs' := by
        intro as
        induction as with
        | nil => intro bs zs' h1 h2; cases h1; exact h2
        | cons a r ih =>
          intro bs zs' h1 h2
          simp only [g_subs] at h1
          split at h1
          · rename_i b bs' h3 h4
            cases h1
            simp only [f_evs] at h2 ⊢
            split at h2
            · rename_i z zs2 h5 h6
              cases h2
              have ha : f_isI a = true := by
                rcases a with c | ⟨k, c⟩ | ⟨l0, h0⟩ | (_ | ⟨κ, nn, nm⟩) | j
                · rfl
                · rfl
                · cases h3; cases h5
                · cases h3; cases h5
                · exfalso
                  cases nm with
                  | none => cases h3; cases h5
                  | some k0 =>
                    simp only [g_sub] at h3
                    split at h3
                    · split at h3
                      · cases h3; cases h5
                      · cases h3
                    · cases h3
                · cases h3; cases h5
              obtain ⟨z', w1, w2⟩ := g_sub_ev z1 h3 ha
              rw [h5] at w2
              cases w2
              rw [w1, ih h4 h6]
            · cases h2
          · cases h1
      simp only [Bool.or_eq_true] at h1
      rcases h1 with h1 | h1
      · obtain ⟨f1, hf1, h2⟩ := List.any_eq_true.mp h1
        simp only [Bool.and_eq_true] at h2
        obtain ⟨zs', w1, w2⟩ := hS f1 hf1
        rw [bvs_eq_ok h2.2] at w1
        rw [Nat.eq_of_beq_eq_true h2.1] at w2
        exact ⟨zs', evs hbs w1, w2⟩
      · simp only [Bool.and_eq_true] at h1
        have e1 := Nat.eq_of_beq_eq_true h1.1
        subst e1
        have h2 := h1.2
        split at h2
        · rename_i x y
          have hx : ∀ {a : BV} {fuel : Nat} {b : BV}, (g_leq E SF fuel a b = true) → f_isI a = true ∧ f_isI b = true := by
            intro a fuel
            have lz : ∀ {a b : BV}, f_lez E a b = true → f_isI a = true ∧ f_isI b = true := by
              intro a b h
              unfold f_lez at h
              split at h
              · exact ⟨rfl, rfl⟩
              · split at h
                · rename_i q1 q2
                  exact ⟨f_iv_isI q1, f_iv_isI q2⟩
                · cases h
            induction fuel generalizing a with
            | zero => intro b h; exact lz h
            | succ fuel ih =>
              intro b h
              simp only [g_leq, Bool.or_eq_true] at h
              rcases h with h | h
              · exact lz h
              · split at h
                · obtain ⟨f, hf, h3⟩ := List.any_eq_true.mp h
                  simp only [Bool.and_eq_true] at h3
                  have h4 := h3.2
                  split at h4
                  · simp only [Bool.and_eq_true] at h4
                    exact ⟨rfl, (ih h4.2).2⟩
                  · cases h4
                · cases h
          obtain ⟨i1, i2⟩ := hx h2
          have bev : ∀ {as : List BV} {k : Nat} {b : BV} {bs : List BV}, g_subs σ as = some bs → bs[k]? = some b → f_isI b = true → ∃ z, f_ev I.1 b = some z := by
            intro as
            induction as with
            | nil => intro k b bs h3 h4; cases h3; simp at h4
            | cons a r ih =>
              intro k b bs h3 h4 h5
              simp only [g_subs] at h3
              split at h3
              · rename_i b0 bs' h6 h7
                cases h3
                cases k with
                | zero =>
                  simp at h4
                  subst h4
                  have ha : f_isI a = true := by
                    rcases a with c | ⟨k, c⟩ | ⟨l0, h0⟩ | (_ | ⟨κ, nn, nm⟩) | j
                    · rfl
                    · rfl
                    · cases h6; cases h5
                    · cases h6; cases h5
                    · exfalso
                      cases nm with
                      | none => cases h6; cases h5
                      | some k0 =>
                        simp only [g_sub] at h6
                        split at h6
                        · split at h6
                          · cases h6; cases h5
                          · cases h6
                        · cases h6
                    · cases h6; cases h5
                  obtain ⟨z', w1, w2⟩ := g_sub_ev z1 h6 ha
                  exact ⟨z', w2⟩
                | succ k => simp at h4; exact ih h7 h4 h5
              · cases h3
          obtain ⟨zx, ex⟩ := bev (k := 0) hbs rfl i1
          obtain ⟨zy, ey⟩ := bev (k := 1) hbs rfl i2
          have := g_leq_ok h0 hE hS 6 h2 ex ey
          refine ⟨[zx, zy], evs hbs (by simp only [f_evs, ex, ey]), (h0 _ _).mpr ⟨zx, zy, rfl, this⟩⟩
        · cases h2
    · cases h1
  · clear c6 hst
    induction lo' with
    | nil => exact ⟨[], ⟨hl.1, hl.2.1, fun q hq => by cases hq⟩, trivial⟩
    | cons q r ih =>
      obtain ⟨i, a'⟩ := q
      simp only [g_ckL, List.all_cons, Bool.and_eq_true] at c5
      obtain ⟨lv', g1, g2⟩ := ih c5.2
      have h1 := c5.1
      split at h1
      · rename_i a b ha hb
        obtain ⟨k, v, e1, g3⟩ := f_find_ok hlo ha
        refine ⟨(i, v) :: lv', ⟨g1.1, g1.2.1, fun q hq => ?_⟩, ⟨rfl, (g_sub_iff z1 hb).mpr (g_le_ok hE g3 h1)⟩, g2⟩
        rcases List.mem_cons.mp hq with rfl | hq
        · exact lv_at hl k e1
        · exact g1.2.2 q hq
      · cases h1
  · unfold g_ckT at c6
    split at c6
    · rename_i bs hbs
      exact (g_subs_iff z1 hbs).mpr (g_les_ok hE hst c6)
    · cases c6
end BMATCH
end
section
/-! the run -/
def f_una (i : Instr) : Bool := match i with
  | .ineg => true
  | .i2b => true
  | .i2l => true
  | .l2i => true
  | _ => false
/-- a byte's eight bits as a number: told apart by its sign -/
def f_oct (ins : Instr) (E : EB) (x y : BV) : Option (Option EB × Option EB) := match ins with
  | .iand => (match x, y with
    | .inr (.inl _), .inl m => if decide (m = 255) = true then (match f_iv E x with
      | some (l, h) => if (decide (-128 ≤ l) && decide (h ≤ 127)) = true then some (f_clamp E x iMin (-1), f_clamp E x 0 iMax) else none
      | none => none) else none
    | _, _ => none)
  | _ => none
def f_ari (M : MT) (S : SB) (ins : Instr) (len : Nat) : Option (List SB) := match S with
  | (pc, lo, st, (n, E, CF, SF), rw, nc, ns) => (match ins with
    | .iinc i d => (match f_find lo i with
      | some a => (match f_add E a (bI d) with
        | some r => (match f_push r n E with | (v, n', E') => if (e_rng16 d && (decide (i < mL M) && Nat.beq len 3)) = true then some [(pc + 3, f_st1 lo i v, st, (n', E', CF, SF), rw, nc, ns)] else none)
        | none => none)
      | none => none)
    | _ => if Nat.beq len 1 = true then (if f_una ins = true then (match st with
        | x :: st' => (match f_un ins E x with
          | some r => (match f_push r n E with | (v, n', E') => some [(pc + 1, lo, v :: st', (n', E', CF, SF), rw, nc, ns)])
          | none => none)
        | _ => none)
      else (match st with
        | y :: x :: st' => (match f_oct ins E x y with
          | some (neg, pos) => some ((match neg with | some E1 => [(pc + 1, lo, bV n 0 :: st', (n + 1, (n, 128, 255) :: E1, CF, SF), rw, nc, ns)] | none => []) ++ (match pos with | some E1 => [(pc + 1, lo, x :: st', (n, E1, CF, SF), rw, nc, ns)] | none => []))
          | none => (match f_two ins E x y with
            | some r => (match f_push r n E with | (v, n', E') => some [(pc + 1, lo, v :: st', (n', E', CF, SF), rw, nc, ns)])
            | none => none))
        | _ => none)) else none)
/-- a measure: multiples of named numbers and a number -/
abbrev MEt : Type := List (Int × Nat) × Int
/-- a place where paths end that is told by a state: pc, locals, stack, numbers and facts, cells and slots made so far, measure -/
abbrev CUt' : Type := Nat × List (Nat × BV) × List BV × FS × (Nat × Nat) × MEt
abbrev OUB : Type := Option BV × FS
/-- method, room, arguments and facts, ends, places written, cuts, marks (pc, 0 cut or 1 hook, which), calls by a spec (pc, which) -/
abbrev SPt : Type := Nat × RMt × (List BV × FS) × List OUB × WR × List CUt' × List (Nat × Nat × Nat) × List (Nat × List Nat)
abbrev pM (s : SPt) : Nat := s.1
abbrev pR (s : SPt) : RMt := s.2.1
abbrev pA (s : SPt) : List BV := s.2.2.1.1
abbrev pF (s : SPt) : FS := s.2.2.1.2
abbrev pO (s : SPt) : List OUB := s.2.2.2.1
abbrev pW (s : SPt) : WR := s.2.2.2.2.1
abbrev pC (s : SPt) : List CUt' := s.2.2.2.2.2.1
abbrev pK (s : SPt) : List (Nat × Nat × Nat) := s.2.2.2.2.2.2.1
abbrev pJ (s : SPt) : List (Nat × List Nat) := s.2.2.2.2.2.2.2
/-- which name is what -/
def s_1 (x : List (Nat × BV)) (t c : BV) : List (Nat × BV) := match t with
  | .inr (.inl (k, d)) => (match f_find x k with | some _ => x | none => if f_isI c = true then (k, f_off c (-d)) :: x else x)
  | .inr (.inr (.inr (.inl (some (_, _, some k))))) => (match f_find x k with | some _ => x | none => (match c with | .inr (.inr (.inr (.inl (some (_, _, some k'))))) => (k, bV k' 0) :: x | _ => x))
  | _ => x
def s_L (lo : List (Nat × BV)) (x : List (Nat × BV)) (lo' : List (Nat × BV)) : List (Nat × BV) := match lo' with
  | [] => x
  | (i, t) :: r => (match f_find lo i with | some a => s_L lo (s_1 x t a) r | none => s_L lo x r)
def s_T (x : List (Nat × BV)) (st' st : List BV) : List (Nat × BV) := match st', st with
  | t :: r', a :: r => s_T (s_1 x t a) r' r
  | _, _ => x
def s_sub (x : List (Nat × BV)) (a : BV) : Option BV := match a with
  | .inr (.inl (k, c)) => (match f_find x k with | some b => some (f_off b c) | none => none)
  | y => some y
def s_C (CF : List CFt) (x : List (Nat × BV)) (CF' : List CFt) : List (Nat × BV) := match CF' with
  | [] => x
  | (κ, b, p, v) :: r => (match (match b with | none => some none | some k => (match f_find x k with | some (.inr (.inl (k', _))) => some (some k') | _ => none)), s_sub x p with
    | some b', some p' => (match f_cf CF κ b' p' with | some w => s_C CF (s_1 x v w) r | none => s_C CF x r)
    | _, _ => s_C CF x r)
def f_sfind (SF : List SFt) (id : Nat) (a b : BV) : Option BV := match SF with
  | [] => none
  | g :: r => (match g.2 with
    | [a', b', c'] => if (Nat.beq g.1 id && (bv_eq a' a && bv_eq b' b)) = true then some c' else f_sfind r id a b
    | _ => f_sfind r id a b)
def s_F (SF : List SFt) (x : List (Nat × BV)) (SF' : List SFt) : List (Nat × BV) := match SF' with
  | [] => x
  | f :: r => (match f.2 with
    | [a, b, c] => if Nat.ble 16 f.1 = true then (match s_sub x a, s_sub x b with
      | some a', some b' => (match f_sfind SF f.1 a' b' with | some w => s_F SF (s_1 x c w) r | none => s_F SF x r)
      | _, _ => s_F SF x r) else s_F SF x r
    | _ => s_F SF x r)
def s_fin (np : Nat) (x : List (Nat × BV)) (E' : EB) (n' : Nat) : List BV := (List.range n').map (fun k => if Nat.blt k np = true then bV k 0 else (match f_find x k with
  | some b => b
  | none => (match f_lk E' k with | some (lo, _) => bI lo | none => bI 0)))
def s_0 (np : Nat) : List (Nat × BV) := (List.range np).map (fun k => (k, bV k 0))
def g_ckI (np : Nat) (σ : List BV) : Bool := (List.range np).all (fun k => (match σ[k]? with | some (.inr (.inl (j, c))) => Nat.beq j k && decide (c = 0) | _ => false))
/-- the least that multiples of named numbers are -/
def m_lb (E : EB) (x : List (Int × Nat)) (c : Int) : Option Int := match x with
  | [] => some c
  | (w, k) :: r => (match f_lk E k, m_lb E r c with
    | some (lo, hi), some b => some (b + (if decide (0 ≤ w) = true then w * lo else w * hi))
    | _, _ => none)
def m_add (x : List (Int × Nat)) (w : Int) (k : Nat) : List (Int × Nat) := match x with
  | [] => [(w, k)]
  | (v, j) :: r => if Nat.beq j k = true then (v + w, j) :: r else (v, j) :: m_add r w k
def m_nrm (x : List (Int × Nat)) : List (Int × Nat) := match x with
  | [] => []
  | (w, k) :: r => m_add (m_nrm r) w k
def m_inst (σ : List BV) (m : List (Int × Nat)) (c : Int) : Option MEt := match m with
  | [] => some ([], c)
  | (w, k) :: r => (match σ[k]?, m_inst σ r c with
    | some (.inl n), some (x, d) => some (x, d + w * n)
    | some (.inr (.inl (k', e))), some (x, d) => some ((w, k') :: x, d + w * e)
    | _, _ => none)
def m_neg (x : List (Int × Nat)) : List (Int × Nat) := x.map (fun q => (-q.1, q.2))
/-- are they above 0 -/
def m_pos (E : EB) (SF : List SFt) (x : List (Int × Nat)) (c : Int) : Bool := (match m_lb E x c with | some b => decide (1 ≤ b) | none => false) || (match x with
  | [(w, k), (v, j)] => (f_lk E k).isSome && ((f_lk E j).isSome && (decide (v = -w) && (if decide (1 ≤ w) = true then decide (1 ≤ w + c) && g_leq E SF 6 (bV j 1) (bV k 0) else decide (1 ≤ v) && (decide (1 ≤ v + c) && g_leq E SF 6 (bV k 1) (bV j 0)))))
  | _ => false)
def g_meas (E : EB) (SF : List SFt) (m0 : Option MEt) (σ : List BV) (m : MEt) : Bool := match m0 with
  | none => true
  | some (x0, c0) => (match m_inst σ m.1 m.2 with
    | some (x1, c1) => m_pos E SF ((m_nrm (x0 ++ m_neg x1)).filter (fun q => !(decide (q.1 = 0)))) (c0 - c1)
    | none => false)
def g_all (np : Nat) (F : FS) (lo : List (Nat × BV)) (st : List BV) (F' : FS) (lo' : List (Nat × BV)) (st' : List BV) (σ : List BV) : Bool :=
  g_ckI np σ && (g_ckS F.1 σ && (decide (σ.length = F'.1) && (g_ckE F.2.1 σ F'.2.1 && (g_ckC F.2.1 F.2.2.1 σ F'.2.2.1 && (g_ckF F.2.1 F.2.2.2 σ F'.2.2.2 && (g_ckL F.2.1 lo σ lo' && g_ckT F.2.1 st σ st'))))))
def g_sig (np : Nat) (F : FS) (lo : List (Nat × BV)) (st : List BV) (F' : FS) (lo' : List (Nat × BV)) (st' : List BV) : List BV :=
  s_fin np (s_F F.2.2.2 (s_C F.2.2.1 (s_T (s_L lo (s_0 np) lo') st' st) F'.2.2.1) F'.2.2.2) F'.2.1 F'.1
def g_cut (np : Nat) (m0 : Option MEt) (S : SB) (c : CUt') : Bool := match S, c with
  | (pc, lo, st, F, rw, nc, ns), (pc', lo', st', F', (nc', ns'), m) => if Nat.beq pc pc' = true then
      (match g_sig np F lo st F' lo' st' with | σ => g_all np F lo st F' lo' st' σ && (Nat.ble nc nc' && (Nat.ble ns ns' && (rw.isNone && g_meas F.2.1 F.2.2.2 m0 σ m)))) else false
def g_out (np : Nat) (o o' : OUB) : Bool := match g_sig np o.2 [] o.1.toList o'.2 [] o'.1.toList with
  | σ => g_all np o.2 [] o.1.toList o'.2 [] o'.1.toList σ && decide (o.1.isSome = o'.1.isSome)
/-- behind a call by a spec: what one of its ends says to the caller -/
def g_keepC (E : EB) (wr : WR) (f : CFt) : Bool := wr.all (fun w => !(Nat.beq w.1 f.1) || (match f_iv E f.2.2.1 with | some (l, h) => decide (h < (w.2.1 : Int)) || decide ((w.2.2 : Int) < l) | none => false))
def g_keepS (T : TBt) (E : EB) (wr : WR) (f : SFt) : Bool := match T.2.2[f.1]? with
  | some L => L.all (fun s => wr.all (fun w => !(Nat.beq w.1 s.1) || (match f_sb f.2 s.2.1, f_sb f.2 s.2.2 with | some a, some b => f_lez E b (bI (w.2.1 : Int)) || f_lez E (bI ((w.2.2 : Int) + 1)) a | _, _ => false)))
  | none => false
def g_addE (σ : List BV) (np n : Nat) (Eo : EB) (ks : List Nat) (E : EB) : Option EB := match ks with
  | [] => some E
  | k :: r => (match f_lk Eo k with
    | some (lo, hi) => if Nat.blt k np = true then (match σ[k]? with | some b => (match f_iv E b with | some _ => (match f_clamp E b lo hi with | some E1 => g_addE σ np n Eo r E1 | none => none) | none => g_addE σ np n Eo r E) | none => g_addE σ np n Eo r E) else g_addE σ np n Eo r ((n + (k - np), lo, hi) :: E)
    | none => g_addE σ np n Eo r E)
def g_subC (σ : List BV) (CF : List CFt) : List CFt := CF.filterMap (fun f => match (match f.2.1 with | none => some none | some k => (match σ[k]? with | some (.inr (.inl (k', c))) => if decide (c = 0) = true then some (some k') else none | _ => none)), g_sub σ f.2.2.1, g_sub σ f.2.2.2 with
  | some b, some p, some v => some (f.1, b, p, v)
  | _, _, _ => none)
def g_subF (σ : List BV) (SF : List SFt) : List SFt := SF.filterMap (fun f => match g_subs σ f.2 with | some as => some (f.1, as) | none => none)
def g_aft (T : TBt) (sp : SPt) (σ : List BV) (F : FS) (o : OUB) : Option (List (Option BV × FS)) :=
  if Nat.ble (pF sp).1 o.2.1 = true then
    (match σ ++ (List.range (o.2.1 - (pF sp).1)).map (fun i => bV (F.1 + i) 0) with
    | σ' => (match g_addE σ' (pF sp).1 F.1 o.2.2.1 (List.range o.2.1) F.2.1 with
      | none => some []
      | some E' => (match (match o.1 with | none => some none | some a => (match g_sub σ' a with | some b => some (some b) | none => none)) with
        | some r => some [(r, (F.1 + (o.2.1 - (pF sp).1), E', g_subC σ' o.2.2.2.1 ++ F.2.2.1.filter (g_keepC F.2.1 (pW sp)), g_subF σ' o.2.2.2.2 ++ F.2.2.2.filter (g_keepS T F.2.1 (pW sp))))]
        | none => none)))
  else none
def g_cat {α : Type} (f : α → Option (List OUB)) (x : List α) : Option (List OUB) := match x with
  | [] => some []
  | S :: r => (match f S with
    | some a => (match g_cat f r with
      | some q => some (a ++ q)
      | none => none)
    | none => none)
def g_cats (f : OUB → Option (List (Option BV × FS))) (x : List OUB) : Option (List (Option BV × FS)) := match x with
  | [] => some []
  | S :: r => (match f S with
    | some a => (match g_cats f r with
      | some q => some (a ++ q)
      | none => none)
    | none => none)
def f_take (n : Nat) (st acc : List BV) : Option (List BV × List BV) := match n with
  | 0 => some (acc, st)
  | n + 1 => (match st with
    | a :: r => f_take n r (a :: acc)
    | [] => none)
def f_ctg (st : List BV) : Nat := match st with
  | [] => 0
  | a :: r => (if f_isL a = true then 2 else 1) + f_ctg r
def f_args (i : Nat) (as : List BV) : List (Nat × BV) := match as with
  | [] => []
  | a :: r => (i, a) :: f_args (if f_isL a = true then i + 2 else i + 1) r
/-- a call: the method, its arguments, the rest of the stack -/
def f_call (T : TBt) (P : List MT) (RT : List (List (Nat × RES))) (M : MT) (S : SB) (ins : Instr) (len : Nat) : Option (Nat × MT × List BV × List BV) := match S with
  | (_, _, st, F, rw, _, _) =>
    (match (match ins with | .invokestatic i => some ((0 : Nat), i) | .invokevirtual i => some (1, i) | _ => none) with
    | some (kd, i) => (match e_res RT (mO M) i with
      | some (rk, j, _, _) => (match P[j]? with
        | some M' => (match f_take (mA M') st [] with
          | some (as, rest) => (match (if Nat.beq kd 0 = true then some (as, rest) else (match rest with
              | r :: rest' => (match f_kd T F.2.1 r with
                | some (_, _, _, .inr (ci, _)) => if Nat.beq ci (mCi M') = true then some (r :: as, rest') else none
                | _ => none)
              | _ => none)) with
            | some (as', rest') => if ((Nat.beq rk 4 || Nat.beq rk 5) && (Nat.beq (mK M') kd && (Nat.beq len 3 && (rw.isNone && (Nat.ble (f_ctg rest') 8 && Nat.ble (f_ctg as') (mL M')))))) = true then some (j, M', as', rest') else none
            | none => none)
          | none => none)
        | none => none)
      | none => none)
    | none => none)
def f_ret (M : MT) (rm : RMt) (S : SB) (ins : Instr) (len : Nat) : Option (Option BV) := match S with
  | (_, _, st, F, rw, nc, ns) => if (Nat.ble nc rm.2.1 && (Nat.ble ns rm.2.2.1 && (rw.isNone && Nat.beq len 1))) = true then (match ins, st, mR M with
    | .ireturn, [a], some .int => if f_isI a = true then some (some a) else none
    | .ireturn, [a], some .boolean => (match f_iv F.2.1 a with | some (lo, hi) => if (decide (0 ≤ lo) && decide (hi ≤ 1)) = true then some (some a) else none | none => none)
    | .lreturn, [a], some .long => if f_isL a = true then some (some a) else none
    | .return_, [], none => some none
    | _, _, _ => none) else none
def f_mst (M : MT) (S : SB) (ins : Instr) (len : Nat) : Option SB := match S with
  | (pc, lo, st, F, rw, nc, ns) => (match f_mov (mL M) ins lo st with
    | some (n, lo', st') => if Nat.beq n len = true then some (pc + n, lo', st', F, rw, nc, ns) else none
    | none => none)
def f_bst (S : SB) (ins : Instr) (len : Nat) : Option (List SB) := match S with
  | (pc, lo, st, (n, E, CF, SF), rw, nc, ns) => (match f_branch E pc ins len st with
    | some brs => some (brs.map (fun q => (q.1, lo, q.2.2.2, (n, q.2.1, CF, q.2.2.1.map (fun x => (0, [x.1, x.2])) ++ SF), rw, nc, ns)))
    | none => none)
def f_mark (marks : List (Nat × Nat × Nat)) (pc sk : Nat) : Option (Nat × Nat) := match marks with
  | [] => none
  | (q, r) :: t => if Nat.beq q pc = true then (match sk with | 0 => some r | k + 1 => f_mark t pc k) else f_mark t pc sk
def f_pick (x : List (Nat × List Nat)) (k : Nat) : Option (List Nat) := match x with
  | [] => none
  | (j, r) :: t => if Nat.beq j k = true then some r else f_pick t k
def f_aftS (S : SB) (rest : List BV) (dc ds : Nat) (q : Option BV × FS) : SB := match S with
  | (pc, lo, _, _, rw, nc, ns) => (pc + 3, lo, (match q.1 with | some a => a :: rest | none => rest), q.2, rw, nc + dc, ns + ds)
/-- the tables that a run reads: kinds, program, its pools, which methods are called by which spec, specs, hooks, steps outside -/
abbrev GT : Type := TBt × List MT × List (List (Nat × RES)) × List (Nat × List Nat) × List SPt × (Nat → SB → Option (List FS)) × (MT → WR → RMt → SB → Instr → Nat → Option (List SB))
/-- the first contract that fits -/
def g_try (G : GT) (lim : Nat) (wr : WR) (rm : RMt) (S : SB) (M' : MT) (j : Nat) (as : List BV) (cs : List Nat) : Option (SPt × List BV) := match cs with
  | [] => none
  | i :: r => (match G.2.2.2.2.1[i]? with
    | some sp => (match g_sig 0 S.2.2.2.1 [] as (pF sp) [] (pA sp) with
      | σ => if (Nat.blt i lim && (Nat.beq (pM sp) j && (Nat.ble ((pR sp).1 + 1) rm.1 && (Nat.ble (19 + mL M' + (pR sp).2.2.2) rm.2.2.2 && (Nat.ble (S.2.2.2.2.2.1 + (pR sp).2.1) rm.2.1 && (Nat.ble (S.2.2.2.2.2.2 + (pR sp).2.2.1) rm.2.2.1 && ((pW sp).all (fun w => f_wr wr w.1 w.2.1 w.2.2) && g_all 0 S.2.2.2.1 [] as (pF sp) [] (pA sp) σ))))))) = true then some (sp, σ) else g_try G lim wr rm S M' j as r)
    | none => g_try G lim wr rm S M' j as r)
def f_run (G : GT) (lim : Nat) (wr : WR) (np : Nat) (m0 : Option MEt) (cuts : List CUt') (marks : List (Nat × Nat × Nat)) (cls : List (Nat × List Nat)) : Nat → Bool → Nat → RMt → MT → List INS → SB → Option (List OUB)
  | 0, _, _, _, _, _, _ => none
  | fuel + 1, tp, sk, rm, M, suf, S => (match suf with
    | [] => none
    | (pc, tag, ins, len) :: tl => if Nat.beq pc S.1 = true then
      (match (if tp = true then f_mark marks pc sk else none) with
      | some (0, _) => if cuts.any (g_cut np m0 S) = true then some [] else none
      | some (_, h) => (match G.2.2.2.2.2.1 h S with
        | some L => g_cat (fun F => f_run G lim wr np m0 cuts marks cls fuel tp (sk + 1) rm M suf (S.1, S.2.1, S.2.2.1, F, S.2.2.2.2)) L
        | none => none)
      | none => (match tag with
        | 0 => (match f_mst M S ins len with
          | some S' => f_run G lim wr np m0 cuts marks cls fuel tp 0 rm M (e_next M tl S'.1) S'
          | none => none)
        | 1 => (match f_bst S ins len with
          | some x => g_cat (fun S' => f_run G lim wr np m0 cuts marks cls fuel tp 0 rm M (e_next M tl S'.1) S') x
          | none => none)
        | 2 => (match f_hst G.1 G.2.2.1 M wr S ins len with
          | some S' => f_run G lim wr np m0 cuts marks cls fuel tp 0 rm M (e_next M tl S'.1) S'
          | none => none)
        | 3 => (match f_ari M S ins len with
          | some x => g_cat (fun S' => f_run G lim wr np m0 cuts marks cls fuel tp 0 rm M (e_next M tl S'.1) S') x
          | none => none)
        | 4 => (match f_call G.1 G.2.1 G.2.2.1 M S ins len with
          | some (j, M', as, rest) => (match (match (if tp = true then f_pick cls pc else none) with | some i => some i | none => f_pick G.2.2.2.1 j) with
            | some cs => (match g_try G lim wr rm S M' j as cs with
              | some (sp, σ) => (match g_cats (g_aft G.1 sp σ S.2.2.2.1) (pO sp) with
                | some L => g_cat (fun q => f_run G lim wr np m0 cuts marks cls fuel tp 0 rm M (e_next M tl (pc + 3)) (f_aftS S rest (pR sp).2.1 (pR sp).2.2.1 q)) L
                | none => none)
              | none => none)
            | none => if (Nat.ble 1 rm.1 && (Nat.ble (19 + mL M') rm.2.2.2 && (Nat.ble S.2.2.2.2.2.1 rm.2.1 && Nat.ble S.2.2.2.2.2.2 rm.2.2.1))) = true then (match f_run G lim wr np m0 cuts marks cls fuel false 0 (rm.1 - 1, 0, 0, rm.2.2.2 - (19 + mL M')) M' (mT M') (0, f_args 0 as, [], S.2.2.2.1, none, 0, 0) with
              | some outs => g_cat (fun q => f_run G lim wr np m0 cuts marks cls fuel tp 0 rm M (e_next M tl (pc + 3)) (f_aftS S rest 0 0 q)) outs
              | none => none) else none)
          | none => none)
        | 5 => (match f_ret M rm S ins len with
          | some r => some [(r, S.2.2.2.1)]
          | none => none)
        | _ => (match G.2.2.2.2.2.2 M wr rm S ins len with
          | some x => g_cat (fun S' => f_run G lim wr np m0 cuts marks cls fuel tp 0 rm M (e_next M tl S'.1) S') x
          | none => none))) else none)
/-- a spec is as it says -/
def f_chk0 (G : GT) (i fuel : Nat) (sp : SPt) : Bool := match G.2.1[pM sp]? with
  | some M => (match f_run G i (pW sp) (pF sp).1 none (pC sp) (pK sp) (pJ sp) fuel true 0 (pR sp) M (mT M) (0, f_args 0 (pA sp), [], pF sp, none, 0, 0) with
    | some outs => outs.all (fun o => (pO sp).any (g_out (pF sp).1 o))
    | none => false)
  | none => false
def f_chkC (G : GT) (i fuel : Nat) (sp : SPt) (c : CUt') : Bool := match G.2.1[pM sp]? with
  | some M => (match c with
    | (pc, lo, st, F, (nc, ns), m) => (match m_lb F.2.1 m.1 m.2 with | some b => decide (0 ≤ b) | none => false) && (match f_run G i (pW sp) (pF sp).1 (some m) (pC sp) (pK sp) (pJ sp) fuel true 1 (pR sp) M (e_suf (mT M) pc) (pc, lo, st, F, none, nc, ns) with
      | some outs => outs.all (fun o => (pO sp).any (g_out (pF sp).1 o))
      | none => false))
  | none => false
end
section
section BSTEPS
variable {T : TBt} {FP : Nat → CUt → List Int → Prop} {OW : List String} {EW : EWt} {D : va_G} {cy : Nat → ClassId} {I0 : IN} {ks0 : List Nat} {wp0 : va_W} {wr : WR} {M : MT} {own : String}
variable {p : Program} {l : Launch} {e : Env} {R : Room} {s : State} {m : MethodId} {args : Array Value} {below : List Frame} {meth : Method} {c : Code} {A : Nat → Prop} {Q : State → Prop} {rm : RMt} {cb sb : Nat}
theorem hraw.xt {rw0 : Option (Nat × Nat)} {I J : IN} {raw : va_W} (j1 : hxt I J) (h : hraw rw0 I raw) : hraw rw0 J raw := by
  cases rw0 with
  | none => exact h
  | some x =>
    obtain ⟨q, n, w1, w2, w3⟩ := h
    exact ⟨q, n, j1.at w1, w2, w3⟩
theorem s_mov {S S' : SB} {ins : Instr} {len : Nat} (X : Cx OW EW D cy I0.2.2 M own p R s m args meth c A rm cb sb) (h : f_mst M S ins len = some S') (hd : decode (mC M) S.1 = .ok (ins, len))
    (k : Sf T FP D cy I0 ks0 wp0 wr M p l e R s m args below meth c A Q cb sb S') : Sf T FP D cy I0 ks0 wp0 wr M p l e R s m args below meth c A Q cb sb S := by
  obtain ⟨pc, lo, st, F, rw0, nc, ns⟩ := S
  unfold f_mst at h
  simp only at h
  split at h
  · rename_i n lo' st' h1
    split at h
    · rename_i h2
      have h2 := Nat.eq_of_beq_eq_true h2
      cases h
      subst h2
      intro I H locs ls lv vs ks wp raw a1 a2 a3 a4 a5 a6 a7 a8 a9 a10
      exact f_mov_ok X.1 X.2.1 h1 hd a1 a2 a3 (fun ls' lv' vs' b1 b2 b3 => k I H locs ls' lv' vs' ks wp raw b1 b2 b3 a4 a5 a6 a7 a8 a9 a10)
    · cases h
  · cases h
theorem s_bst {S : SB} {x : List SB} {ins : Instr} {len : Nat} (h0 : FP0 FP) (X : Cx OW EW D cy I0.2.2 M own p R s m args meth c A rm cb sb) (h : f_bst S ins len = some x) (hd : decode (mC M) S.1 = .ok (ins, len))
    (k : ∀ S' ∈ x, Sf T FP D cy I0 ks0 wp0 wr M p l e R s m args below meth c A Q cb sb S') : Sf T FP D cy I0 ks0 wp0 wr M p l e R s m args below meth c A Q cb sb S := by
  obtain ⟨pc, lo, st, ⟨n, E, CF, SF⟩, rw0, nc, ns⟩ := S
  unfold f_bst at h
  simp only at h
  split at h
  · rename_i brs h1
    cases h
    intro I H locs ls lv vs ks wp raw a1 a2 a3 a4 a5 a6 a7 a8 a9 a10
    refine f_branch_ok X.1 X.2.1 h1 hd a3 a4.2.1 (fun br hbr vs' b1 b2 b3 => ?_)
    refine k _ (List.mem_map.mpr ⟨br, hbr, rfl⟩) I H locs ls lv vs' ks wp raw a1 a2 b3 ⟨a4.1, b1, a4.2.2.1, fun f hf => ?_⟩ a5 a6 a7 a8 a9 a10
    rcases List.mem_append.mp hf with hf | hf
    · obtain ⟨q, hq, rfl⟩ := List.mem_map.mp hf
      obtain ⟨z1, z2, g1, g2, g3⟩ := b2 q hq
      exact ⟨[z1, z2], by simp only [f_evs, g1, g2], (h0 _ _).mpr ⟨z1, z2, rfl, g3⟩⟩
    · exact a4.2.2.2 f hf
  · cases h
theorem en_255 {x : Int32} (h1 : 0 ≤ x.toInt) (h2 : x.toInt ≤ 127) : x &&& 255 = x := by
  obtain ⟨k, rfl, hk, ek⟩ := en_nn h1
  have e1 : (255 : Int32) = nI (2 ^ 8 - 1) := rfl
  rw [e1, fa_mask, Nat.mod_eq_of_lt (by omega)]
theorem en_255n {x : Int32} (h1 : x.toInt < 0) (h2 : -128 ≤ x.toInt) : 128 ≤ (x &&& 255).toInt ∧ (x &&& 255).toInt ≤ 255 := by
  have key : ∀ k : Nat, k < 128 → 128 ≤ ((Int32.ofInt (-128 + k)) &&& 255).toInt ∧ ((Int32.ofInt (-128 + k)) &&& 255).toInt ≤ 255 := by decide +kernel
  have e1 : x = Int32.ofInt (-128 + ((x.toInt + 128).toNat : Int)) := by
    apply (fa_eq _ _).mpr
    rw [en_o32 (by omega) (by omega)]
    omega
  rw [e1]
  exact key _ (by omega)
theorem HS.env {I : IN} {ks : List Nat} {wp : va_W} {n n' : Nat} {E E' : EB} {CF : List CFt} {SF : List SFt} {J : IN} (h : HS T FP cy I ks wp (n, E, CF, SF)) (j1 : hxt I J) (j2 : J.2 = I.2) (hE : henv J.1 n' E') : HS T FP cy J ks wp (n', E', CF, SF) := h.xt j1 j2 hE
theorem s_ari {S : SB} {x : List SB} {ins : Instr} {len : Nat} (X : Cx OW EW D cy I0.2.2 M own p R s m args meth c A rm cb sb) (h : f_ari M S ins len = some x) (hd : decode (mC M) S.1 = .ok (ins, len))
    (k : ∀ S' ∈ x, Sf T FP D cy I0 ks0 wp0 wr M p l e R s m args below meth c A Q cb sb S') : Sf T FP D cy I0 ks0 wp0 wr M p l e R s m args below meth c A Q cb sb S := by
  obtain ⟨pc, lo, st, ⟨n, E, CF, SF⟩, rw0, nc, ns⟩ := S
  intro I H locs ls lv vs ks wp raw a1 a2 a3 a4 a5 a6 a7 a8 a9 a10
  have hE : henv I.1 n E := a4.2.1
  simp only at a2 a3 a5 hd ⊢
  unfold f_ari at h
  simp only at h
  split at h
  · rename_i i d
    split at h
    · rename_i a ea
      split at h
      · rename_i r hr
        cases hp : f_push r n E with
        | mk v qp =>
        obtain ⟨n', E'⟩ := qp
        rw [hp] at h
        simp only at h
        split at h
        · rename_i q
          simp only [e_rng16, Bool.and_eq_true, decide_eq_true_eq] at q
          obtain ⟨q1, q2, q3⟩ := q
          have q3 := Nat.eq_of_beq_eq_true q3
          subst q3
          cases h
          obtain ⟨k1, v1, e1, g1⟩ := f_find_ok a2 ea
          have gn : hv I (bI d) (.int (Int32.ofInt d)) := ⟨_, rfl, en_o32 (by omega) (by omega)⟩
          have hv1 : ∃ x : Int32, v1 = .int x := by
            have : ∃ q1, f_iv E a = some q1 := by
              unfold f_add at hr
              rcases h1 : f_iv E a with _ | q1
              · simp [h1] at hr
              · exact ⟨q1, rfl⟩
            obtain ⟨⟨w1, w2⟩, e2⟩ := this
            obtain ⟨i, ei, -⟩ := hv_int hE g1 e2
            exact ⟨i, ei⟩
          obtain ⟨y, rfl⟩ := hv1
          obtain ⟨J, j1, j2, j3, j4⟩ := f_push_ok hE (f_add_ok hE g1 gn hr) hp
          exact lv_iinc X.1 X.2.1 hd a1 e1 rfl q2 rfl (fun ls' hl' => k _ List.mem_cons_self J H locs ls' _ vs ks wp raw hl' (hlv_st1 (a2.xt j1) j4) (a3.xt j1) (a4.env j1 j2 j3) (a5.xt j1) a6 a7 a8 (a9.tr j1) a10)
        · cases h
      · cases h
    · cases h
  · split at h
    · rename_i hlen
      have hlen := Nat.eq_of_beq_eq_true hlen
      subst hlen
      split at h
      · split at h
        · rename_i x0 st'
          split at h
          · rename_i r hr
            cases hp : f_push r n E with
            | mk v qp =>
            obtain ⟨n', E'⟩ := qp
            rw [hp] at h
            simp only at h
            cases h
            obtain ⟨v0, vs1, rfl, g1, g2⟩ := hvs_cons a3
            refine f_un_ok X.1 X.2.1 hd hE g1 hr (fun w hw => ?_)
            obtain ⟨J, j1, j2, j3, j4⟩ := f_push_ok hE hw hp
            exact k _ List.mem_cons_self J H locs ls lv _ ks wp raw a1 (a2.xt j1) ⟨j4, g2.xt j1⟩ (a4.env j1 j2 j3) (a5.xt j1) a6 a7 a8 (a9.tr j1) a10
          · cases h
        · cases h
      · split at h
        · rename_i y x0 st'
          obtain ⟨vy, vs1, rfl, g1, g2⟩ := hvs_cons a3
          obtain ⟨vx, vs2, rfl, g3, g4⟩ := hvs_cons g2
          split at h
          · rename_i neg pos ho
            cases h
            unfold f_oct at ho
            split at ho
            · split at ho
              · rename_i kx mm
                split at ho
                · rename_i hm
                  have hm := of_decide_eq_true hm
                  subst hm
                  split at ho
                  · rename_i l1 h1 hiv
                    split at ho
                    · rename_i q
                      simp only [Bool.and_eq_true, decide_eq_true_eq] at q
                      cases ho
                      obtain ⟨i, rfl, p1, p2⟩ := hv_int hE g3 hiv
                      obtain ⟨j, rfl, hj⟩ := g1
                      have ej : j = 255 := (fa_eq _ _).mpr (by rw [hj]; rfl)
                      subst ej
                      have r1 := fb_rng i
                      refine lv_iand X.1 X.2.1 hd ?_
                      by_cases hneg : i.toInt < 0
                      · obtain ⟨E1, e1, e2, -⟩ := f_clamp_ok (lo := iMin) (hi := -1) hE g3 ⟨_, hiv⟩ (by simp only [iMin]; omega) (by omega)
                        have w := en_255n (x := i) hneg (by omega)
                        obtain ⟨J, j1, j2, j3, j4⟩ := f_push_ok (r := .inr (128, 255)) (v := .int (i &&& 255)) e2 ⟨_, rfl, w.1, w.2⟩ rfl
                        refine k (pc + 1, lo, bV n 0 :: st', (n + 1, (n, 128, 255) :: E1, CF, SF), rw0, nc, ns) (List.mem_append_left _ (by rw [e1]; exact List.mem_cons_self)) J H locs ls lv _ ks wp raw a1 (a2.xt j1) ⟨j4, g4.xt j1⟩ (a4.env j1 j2 j3) (a5.xt j1) a6 a7 a8 (a9.tr j1) a10
                      · obtain ⟨E1, e1, e2, -⟩ := f_clamp_ok (lo := 0) (hi := iMax) hE g3 ⟨_, hiv⟩ (by omega) (by simp only [iMax]; omega)
                        rw [en_255 (x := i) (by omega) (by omega)]
                        exact k (pc + 1, lo, .inr (.inl kx) :: st', (n, E1, CF, SF), rw0, nc, ns) (List.mem_append_right _ (by rw [e1]; exact List.mem_cons_self)) I H locs ls lv _ ks wp raw a1 a2 ⟨g3, g4⟩ (a4.env hxt.rf rfl e2) a5 a6 a7 a8 a9 a10
                    · cases ho
                  · cases ho
                · cases ho
              · cases ho
            · cases ho
          · split at h
            · rename_i r hr
              cases hp : f_push r n E with
              | mk v qp =>
              obtain ⟨n', E'⟩ := qp
              rw [hp] at h
              simp only at h
              cases h
              refine f_two_ok X.1 X.2.1 hd hE g3 g1 hr (fun w hw => ?_)
              obtain ⟨J, j1, j2, j3, j4⟩ := f_push_ok hE hw hp
              exact k _ List.mem_cons_self J H locs ls lv _ ks wp raw a1 (a2.xt j1) ⟨j4, g4.xt j1⟩ (a4.env j1 j2 j3) (a5.xt j1) a6 a7 a8 (a9.tr j1) a10
            · cases h
        · cases h
    · cases h
end BSTEPS
end
section
/-! ends, calls: what a contract says -/
abbrev rmR (rm : RMt) : Room := { frames := rm.1, cells := rm.2.1, slots := rm.2.2.1, locals := rm.2.2.2 }
/-- at a call: the cells, what is outside -/
def PJ2 (D : va_G) (cy : Nat → ClassId) (EW : EWt) (ex : Nat → Nat) (wp : va_W) (vs : List Value) (sz : Nat) : Array Value → State → Prop := va_Pc vs (fun U => U.heap.size = sz ∧ va_P D vwCl wp U.heap ∧ KK D cy U ∧ va_D (fun _ => True) wp ∧ EW ex (va_A wp sz) U)
/-- behind a call: names, kinds, cells, which end -/
abbrev UQ : Type := IN × List Nat × va_W × OUB
def PO2 (T : TBt) (FP : Nat → CUt → List Int → Prop) (cy : Nat → ClassId) (I0 : IN) (ks0 : List Nat) (wp0 : va_W) (wr : WR) (outs : List OUB) (u : UQ) : Prop := u.2.2.2 ∈ outs ∧ hxt I0 u.1 ∧ HS T FP cy u.1 u.2.1 u.2.2.1 u.2.2.2.2 ∧ Unch wr ks0 wp0 u.2.1 u.2.2.1
def BO2 (D : va_G) (A : Nat → Prop) (u : UQ) (t : State) : Prop := va_P D vwCl u.2.2.1 t.heap ∧ va_D A u.2.2.1
def QJ2 (T : TBt) (FP : Nat → CUt → List Int → Prop) (D : va_G) (cy : Nat → ClassId) (I0 : IN) (ks0 : List Nat) (wp0 : va_W) (wr : WR) (outs : List OUB) (A : Nat → Prop) (ret : Option FieldType) : Array Value → State → Outcome → State → Prop := match ret with
  | none => va_Qv (fun u : UQ => PO2 T FP cy I0 ks0 wp0 wr outs u ∧ u.2.2.2.1 = none) (BO2 D A) A
  | some .long => va_Ql (fun (r : Int64) (u : UQ) => PO2 T FP cy I0 ks0 wp0 wr outs u ∧ ∃ a, u.2.2.2.1 = some a ∧ hv u.1 a (.long r)) (BO2 D A) A
  | some _ => va_Qi (fun (r : Int32) (u : UQ) => PO2 T FP cy I0 ks0 wp0 wr outs u ∧ ∃ a, u.2.2.2.1 = some a ∧ hv u.1 a (.int r)) (BO2 D A) A
def RV2 (I : IN) (M : MT) (ins : Instr) (r : Option BV) (v : Option Value) : Prop :=
  (ins = .ireturn ∧ ∃ (a : BV) (x : Int32) (ty : FieldType), r = some a ∧ v = some (.int x) ∧ hv I a (.int x) ∧ mR M = some ty ∧ (ty = .int ∨ ty = .boolean) ∧ narrow ty (.int x) = .int x) ∨
  (ins = .lreturn ∧ ∃ (a : BV) (x : Int64), r = some a ∧ v = some (.long x) ∧ hv I a (.long x) ∧ mR M = some .long) ∨
  (ins = .return_ ∧ r = none ∧ v = none ∧ mR M = none)
def RetOK2 (T : TBt) (FP : Nat → CUt → List Int → Prop) (D : va_G) (cy : Nat → ClassId) (I0 : IN) (ks0 : List Nat) (wp0 : va_W) (wr : WR) (M : MT) (p : Program) (l : Launch) (e : Env) (R : Room) (s : State) (m : MethodId) (args : Array Value) (below : List Frame) (meth : Method) (c : Code) (A : Nat → Prop) (Q : State → Prop) (rm : RMt) (cb sb : Nat) (outs : List OUB) : Prop :=
  ∀ o ∈ outs, ∀ (ins : Instr) (pc : Nat) (I : IN) (H : Heap) (locs : List Loc) (ls : Array Slot) (ks : List Nat) (wp : va_W) (v : Option Value), decode (mC M) pc = .ok (ins, 1) → RV2 I M ins o.1 v → HS T FP cy I ks wp o.2 → va_P D vwCl wp H → va_D A wp → va_S A s.heap H locs → hxt I0 I → Unch wr ks0 wp0 ks wp →
    W p l e R s m args below meth c H locs (cb + rm.2.1) (sb + rm.2.2.1) Q (F0 m pc ls v.toList)
section BRET
variable {T : TBt} {FP : Nat → CUt → List Int → Prop} {OW : List String} {EW : EWt} {D : va_G} {cy : Nat → ClassId} {I0 : IN} {ks0 : List Nat} {wp0 : va_W} {wr : WR} {M : MT} {own : String}
variable {p : Program} {l : Launch} {e : Env} {R : Room} {s : State} {m : MethodId} {args : Array Value} {below : List Frame} {meth : Method} {c : Code} {A : Nat → Prop} {Q : State → Prop} {rm : RMt} {cb sb : Nat}
theorem hraw_none {rw0 : Option (Nat × Nat)} {I : IN} {raw : va_W} (h : rw0.isNone = true) (hr : hraw rw0 I raw) : raw = [] := by
  cases rw0 with
  | none => exact hr
  | some x => cases h
theorem s_ret2 {S : SB} {ins : Instr} {len : Nat} {r : Option BV} {outs : List OUB} (h : f_ret M rm S ins len = some r) (hd : decode (mC M) S.1 = .ok (ins, len)) (ho : (r, S.2.2.2.1) ∈ outs)
    (hR : RetOK2 T FP D cy I0 ks0 wp0 wr M p l e R s m args below meth c A Q rm cb sb outs) : Sf T FP D cy I0 ks0 wp0 wr M p l e R s m args below meth c A Q cb sb S := by
  obtain ⟨pc, lo, st, F, rw0, nc, ns⟩ := S
  intro I H locs ls lv vs ks wp raw a1 a2 a3 a4 a5 a6 a7 a8 a9 a10
  unfold f_ret at h
  simp only at h a2 a3 a4 a5 hd ho ⊢
  split at h
  · rename_i q
    simp only [Bool.and_eq_true] at q
    obtain ⟨q1, q2, q3, q4⟩ := q
    have q4 := beq3 q4
    subst q4
    have e9 := hraw_none q3 a5
    subst e9
    rw [List.append_nil] at a6 a7
    have q1 := Nat.le_of_ble_eq_true q1
    have q2 := Nat.le_of_ble_eq_true q2
    refine W.widen (k := cb + rm.2.1) (n := sb + rm.2.2.1) (by omega) (by omega) ?_
    split at h
    · rename_i a hr
      split at h
      · rename_i h1
        cases h
        obtain ⟨v, vs1, rfl, g1, g2⟩ := hvs_cons a3
        rw [hvs_nil g2]
        obtain ⟨x, rfl⟩ := hv_isI g1 h1
        exact hR _ ho _ pc I H locs ls ks wp (some (.int x)) hd (Or.inl ⟨rfl, a, x, .int, rfl, rfl, g1, hr, Or.inl rfl, rfl⟩) a4 a6 a7 a8 a9 a10
      · cases h
    · rename_i a hr
      split at h
      · rename_i lo9 hi9 hq1
        split at h
        · rename_i w
          simp only [Bool.and_eq_true, decide_eq_true_eq] at w
          cases h
          obtain ⟨v, vs1, rfl, g1, g2⟩ := hvs_cons a3
          rw [hvs_nil g2]
          obtain ⟨x, rfl, y1, y2⟩ := hv_int a4.2.1 g1 hq1
          refine hR _ ho _ pc I H locs ls ks wp (some (.int x)) hd (Or.inl ⟨rfl, a, x, .boolean, rfl, rfl, g1, hr, Or.inr rfl, ?_⟩) a4 a6 a7 a8 a9 a10
          rcases en_b01 (x := x) (by omega) (by omega) with rfl | rfl <;> decide
        · cases h
      · cases h
    · rename_i a hr
      split at h
      · rename_i h1
        cases h
        obtain ⟨v, vs1, rfl, g1, g2⟩ := hvs_cons a3
        rw [hvs_nil g2]
        obtain ⟨x, rfl⟩ := hv_isL g1 h1
        exact hR _ ho _ pc I H locs ls ks wp (some (.long x)) hd (Or.inr (Or.inl ⟨rfl, a, x, rfl, rfl, g1, hr⟩)) a4 a6 a7 a8 a9 a10
      · cases h
    · rename_i hr
      cases h
      rw [hvs_nil a3]
      exact hR _ ho _ pc I H locs ls ks wp none hd (Or.inr (Or.inr ⟨rfl, rfl, rfl, hr⟩)) a4 a6 a7 a8 a9 a10
    · cases h
  · cases h
theorem f_args_ok {I : IN} : ∀ {as : List BV} {vs : List Value} (i : Nat), hvs I as vs → hlv I (f_args i as) (lv_args i vs) := by
  intro as
  induction as with
  | nil => intro vs i h; rw [hvs_nil h]; trivial
  | cons a r ih =>
    intro vs i h
    obtain ⟨v, vs', rfl, g1, g2⟩ := hvs_cons h
    refine ⟨⟨rfl, g1⟩, ?_⟩
    have e9 : (if v.category = 2 then i + 2 else i + 1) = (if f_isL a = true then i + 2 else i + 1) := by
      cases h9 : f_isL a with
      | true => rw [hv_cat2 g1 h9]; rfl
      | false => rw [hv_cat1 g1 h9]; rfl
    show hlv I (f_args _ r) (lv_args (if v.category = 2 then i + 2 else i + 1) vs')
    rw [e9]
    exact ih _ g2
theorem f_ctg_ok {I : IN} {st : List BV} {vs : List Value} (h : hvs I st vs) : (vs.map fun v => v.category).sum = f_ctg st := by
  induction st generalizing vs with
  | nil => rw [hvs_nil h]; rfl
  | cons a r ih =>
    obtain ⟨v, vs', rfl, g1, g2⟩ := hvs_cons h
    rw [List.map_cons, List.sum_cons, ih g2]
    show v.category + f_ctg r = (if f_isL a = true then 2 else 1) + f_ctg r
    cases h9 : f_isL a with
    | true => rw [hv_cat2 g1 h9]; rfl
    | false => rw [hv_cat1 g1 h9]; rfl
/-- a method's contract out of its walk from the entry -/
theorem met_of2 {M' : MT} {as : List BV} {vs : List Value} {F : FS} {I : IN} {ks : List Nat} {wp : va_W} {outs : List OUB} {rm' : RMt} (sz : Nat) (hEW : EWOK EW) (hM : MOK M') (hT : TOK OW M') (ho : OW[mO M']? = some (mY M').cls) (hg : hvs I as vs) (hF : HS T FP cy I ks wp F) (hl : f_ctg as ≤ mL M')
    (walk : ∀ (p : Program) (e : Env) (s : State) (m : MethodId) (args : Array Value) (below : List Frame) (meth : Method) (c : Code) (A : Nat → Prop) (Q : State → Prop), Cx OW EW D cy I.2.2 M' (mY M').cls p (rmR rm') s m args meth c A rm' 0 0 → RetOK2 T FP D cy I ks wp wr M' p l e (rmR rm') s m args below meth c A Q rm' 0 0 outs → Sf T FP D cy I ks wp wr M' p l e (rmR rm') s m args below meth c A Q 0 0 (0, f_args 0 as, [], F, none, 0, 0)) :
    Met l (mY M') (mW M') (rmR rm') (PJ2 D cy EW I.2.2 wp vs sz) (QJ2 T FP D cy I ks wp wr outs (va_A wp sz) (mR M')) rm'.2.1 rm'.2.2.1 (va_A wp sz) := by
  obtain ⟨m1, m2, m3, m4, m5, m6, m7, m8, m9⟩ := hM
  refine va_MetF (cc := mC M') (maxL := mL M') (ret := mR M') m1 rfl ?_
  intro p e s m args below meth c s₁ B hml hv0
  obtain ⟨rfl, hsz, hP, hK, hD0, hE⟩ := hv0
  have hx := B.exec
  have hb := B.bytes
  have hr := B.returns
  have hts := atoms_spec (ws := mW M') B.pre
  have hown : s.vm.findClass (mY M').cls = some m.cls := findClass_of_methodNamed B.named
  have hlocks := B.notSynchronized
  subst hsz
  have hD := hD0.self (sz := s.heap.size)
  generalize hAe : va_A wp s.heap.size = A at hD hE ⊢
  have hA : ∀ q : Nat, s.heap.size ≤ q → A q := fun q h => by rw [← hAe]; exact Or.inr h
  have hS : va_S A s.heap s.heap [] := va_S.rf
  have hlen : (lg_sl vs).length ≤ mL M' := by rw [lg_len, f_ctg_ok hg]; exact hl
  have hlv := lv_entry vs (n := mL M') hlen
  rw [lg_entry_eq]
  generalize (lg_sl vs ++ List.replicate (mL M' - (lg_sl vs).length) Slot.unset).toArray = ls at hlv ⊢
  have X : Cx OW EW D cy I.2.2 M' (mY M').cls p (rmR rm') s m vs.toArray meth c A rm' 0 0 := ⟨hx, hb, hml, ho, hown, fun w hw => hts w (List.mem_cons_of_mem _ hw), hK, hA, hT, hE, Nat.le_refl _, by simp, by simp, Nat.le_refl _⟩
  refine walk p e s m vs.toArray below meth c A _ X ?_ I s.heap [] ls (lv_args 0 vs) [] ks wp [] hlv (f_args_ok 0 hg) trivial hF rfl (by rw [List.append_nil]; exact hP) (by rw [List.append_nil]; exact hD) hS hxt.rf Unch.rf
  intro o ho9 ins pc I1 H locs ls' ks1 wp1 v hd hv9 hF' w2 w3 w4 hx1 hu
  have po : PO2 T FP cy I ks wp wr outs (I1, ks1, wp1, o) := ⟨ho9, hx1, hF', hu⟩
  rw [Nat.zero_add, Nat.zero_add]
  rcases hv9 with ⟨rfl, a, x, ty, e1, rfl, g1, e2, e3, e4⟩ | ⟨rfl, a, x, e1, rfl, g1, e2⟩ | ⟨rfl, e1, rfl, e2⟩
  · have hq : QJ2 T FP D cy I ks wp wr outs A (mR M') = va_Qi (fun (r : Int32) (u : UQ) => PO2 T FP cy I ks wp wr outs u ∧ ∃ a, u.2.2.2.1 = some a ∧ hv u.1 a (.int r)) (BO2 D A) A := by
      rw [e2]
      rcases e3 with rfl | rfl <;> rfl
    rw [hq]
    rw [e2] at hr
    exact W.zret hx hb hr e4 (fun t ht hW9 => ⟨⟨x, (I1, ks1, wp1, o), rfl, ⟨po, a, e1, g1⟩, by rw [BO2, ht]; exact ⟨w2, w3⟩⟩, w4.F ht⟩) w4.2.2 hd
  · have hq : QJ2 T FP D cy I ks wp wr outs A (mR M') = va_Ql (fun (r : Int64) (u : UQ) => PO2 T FP cy I ks wp wr outs u ∧ ∃ a, u.2.2.2.1 = some a ∧ hv u.1 a (.long r)) (BO2 D A) A := by
      rw [e2]; rfl
    rw [hq]
    rw [e2] at hr
    exact W.lret hx hb hr (fun t ht hW9 => ⟨⟨x, (I1, ks1, wp1, o), rfl, ⟨po, a, e1, g1⟩, by rw [BO2, ht]; exact ⟨w2, w3⟩⟩, w4.F ht⟩) w4.2.2 hd
  · have hq : QJ2 T FP D cy I ks wp wr outs A (mR M') = va_Qv (fun u : UQ => PO2 T FP cy I ks wp wr outs u ∧ u.2.2.2.1 = none) (BO2 D A) A := by
      rw [e2]; rfl
    rw [hq]
    rw [e2] at hr
    exact W.vret hx hb hr (fun t ht hW9 => ⟨⟨(I1, ks1, wp1, o), rfl, ⟨po, e1⟩, by rw [BO2, ht]; exact ⟨w2, w3⟩⟩, w4.F ht⟩) w4.2.2 hd
theorem pj2_blind {wp : va_W} {vs : List Value} {sz : Nat} {ex : Nat → Nat} (hEW : EWOK EW) : FrameBlind (PJ2 D cy EW ex wp vs sz) := fun a U g mk q => by
  obtain ⟨q0, q1, qP, qK, qD, qE⟩ := q
  exact ⟨q0, q1, qP, qK.calling, qD, hEW.2 _ _ _ _ _ _ qE⟩
def rvl (I : IN) (r : Option BV) (v : Option Value) : Prop := match r, v with
  | none, none => True
  | some a, some x => hv I a x
  | _, _ => False
/-- behind a call that has run -/
theorem s_aft2 {M' : MT} {H : Heap} {locs : List Loc} {ls : Array Slot} {pc nc ns mc ms : Nat} {vr : List Value} {ks : List Nat} {wp : va_W} {st0 : List Value} {a0 : Array Value} {outs : List OUB} {Ic : IN} {wrc : WR} (hA : ∀ q, s.heap.size ≤ q → A q) (hr9 : mR M' = none ∨ mR M' = some .int ∨ mR M' = some .boolean ∨ mR M' = some .long)
    (run : va_Run p l e R s m args below meth c H locs nc ns mc ms (F0 m pc ls st0) vr (QJ2 T FP D cy Ic ks wp wrc outs (va_A wp H.size) (mR M') a0) (va_A wp H.size))
    (w3 : va_D A wp) (w4 : va_S A s.heap H locs)
    (k : ∀ (u : UQ) (r : Option Value) (H1 : Heap) (locs1 : List Loc), PO2 T FP cy Ic ks wp wrc outs u → rvl u.1 u.2.2.2.1 r → va_P D vwCl u.2.2.1 H1 → va_D A u.2.2.1 → va_S A s.heap H1 locs1 → W p l e R s m args below meth c H1 locs1 (nc + mc) (ns + ms) Q (F0 m (pc + 3) ls (r.toList ++ vr))) : W p l e R s m args below meth c H locs nc ns Q (F0 m pc ls st0) := by
  have hF : ∀ q, va_A wp H.size q → A q := by
    intro q hq
    rcases hq with ⟨kq, eq, h1⟩ | h1
    · exact w3.2 _ _ h1
    · exact hA q (Nat.le_trans w4.1 h1)
  rcases hr9 with e9 | e9 | e9 | e9
  · rw [e9] at run
    refine va_callv (a := a0) run w4 (fun q _ hq => hF q hq) hF (fun u t H1 locs1 ht hvm hw hB hz hk hS => ?_)
    exact k u none H1 locs1 hw.1 (by rw [hw.2]; trivial) (by rw [← ht]; exact hB.1) (hB.2.weaken (fun _ _ _ hq => hF _ hq)) hS
  · rw [e9] at run
    refine va_calli (a := a0) run w4 (fun q _ hq => hF q hq) hF (fun r u t H1 locs1 ht hvm hw hB hz hk hS => ?_)
    obtain ⟨a, ha, ga⟩ := hw.2
    exact k u (some (.int r)) H1 locs1 hw.1 (by rw [ha]; exact ga) (by rw [← ht]; exact hB.1) (hB.2.weaken (fun _ _ _ hq => hF _ hq)) hS
  · rw [e9] at run
    refine va_calli (a := a0) run w4 (fun q _ hq => hF q hq) hF (fun r u t H1 locs1 ht hvm hw hB hz hk hS => ?_)
    obtain ⟨a, ha, ga⟩ := hw.2
    exact k u (some (.int r)) H1 locs1 hw.1 (by rw [ha]; exact ga) (by rw [← ht]; exact hB.1) (hB.2.weaken (fun _ _ _ hq => hF _ hq)) hS
  · rw [e9] at run
    refine va_calll (a := a0) run w4 (fun q _ hq => hF q hq) hF (fun r u t H1 locs1 ht hvm hw hB hz hk hS => ?_)
    obtain ⟨a, ha, ga⟩ := hw.2
    exact k u (some (.long r)) H1 locs1 hw.1 (by rw [ha]; exact ga) (by rw [← ht]; exact hB.1) (hB.2.weaken (fun _ _ _ hq => hF _ hq)) hS
theorem f_take_ok {I : IN} : ∀ (n : Nat) {st acc as rest : List BV} {vs vacc : List Value}, f_take n st acc = some (as, rest) → hvs I st vs → hvs I acc vacc → ∃ vas vr, vs = vas ++ vr ∧ vas.length = n ∧ hvs I as (vas.reverse ++ vacc) ∧ hvs I rest vr := by
  intro n
  induction n with
  | zero =>
    intro st acc as rest vs vacc h h1 h2
    simp only [f_take] at h
    cases h
    exact ⟨[], vs, rfl, rfl, h2, h1⟩
  | succ n ih =>
    intro st acc as rest vs vacc h h1 h2
    unfold f_take at h
    cases st with
    | nil => cases h
    | cons a r =>
      simp only at h
      obtain ⟨v, vs', rfl, g1, g2⟩ := hvs_cons h1
      obtain ⟨vas, vr, rfl, e2, g3, g4⟩ := ih h g2 (show hvs I (a :: acc) (v :: vacc) from ⟨g1, h2⟩)
      refine ⟨v :: vas, vr, rfl, by simp [e2], ?_, g4⟩
      simpa using g3
end BRET
end
section
/-! cuts: measures, matching of states and ends -/
def m_at (ν : List Int) (k : Nat) : Int := (ν[k]?).getD 0
def m_et (ν : List Int) (x : List (Int × Nat)) (c : Int) : Int := match x with
  | [] => c
  | (w, k) :: r => w * m_at ν k + m_et ν r c
section BCUT
variable {T : TBt} {FP : Nat → CUt → List Int → Prop} {cy : Nat → ClassId} {I : IN} {ks : List Nat} {wp : va_W} {n : Nat} {E : EB} {ν : List Int}
theorem m_at_of {k : Nat} {y : Int} (h : ν[k]? = some y) : m_at ν k = y := by unfold m_at; rw [h]; rfl
theorem m_lb_ok (hE : henv ν n E) : ∀ {x : List (Int × Nat)} {c b : Int}, m_lb E x c = some b → b ≤ m_et ν x c := by
  intro x
  induction x with
  | nil => intro c b h; simp only [m_lb] at h; cases h; exact Int.le_refl _
  | cons q r ih =>
    obtain ⟨w, k⟩ := q
    intro c b h
    simp only [m_lb] at h
    split at h
    · rename_i lo hi b0 h1 h2
      cases h
      obtain ⟨y, g1, g2, g3⟩ := hE.2 k _ h1
      simp only at g2 g3
      have := ih h2
      show _ ≤ w * m_at ν k + m_et ν r c
      rw [m_at_of g1]
      split
      · rename_i hw
        have hw := of_decide_eq_true hw
        have := Int.mul_le_mul_of_nonneg_left g2 hw
        omega
      · rename_i hw
        have hw : ¬ 0 ≤ w := fun h => hw (decide_eq_true h)
        have := Int.mul_le_mul_of_nonpos_left (show w ≤ 0 by omega) g3
        omega
    · cases h
theorem m_lb_xt {J : IN} (hE : henv I.1 n E) (hx : hxt I J) : ∀ {x : List (Int × Nat)} {c b : Int}, m_lb E x c = some b → m_et J.1 x c = m_et I.1 x c := by
  intro x
  induction x with
  | nil => intro c b h; rfl
  | cons q r ih =>
    obtain ⟨w, k⟩ := q
    intro c b h
    simp only [m_lb] at h
    split at h
    · rename_i lo hi b0 h1 h2
      obtain ⟨y, g1, g2, g3⟩ := hE.2 k _ h1
      show w * m_at J.1 k + m_et J.1 r c = w * m_at I.1 k + m_et I.1 r c
      rw [m_at_of g1, m_at_of (hx.at g1), ih h2]
    · cases h
theorem m_et_add {w : Int} {k : Nat} : ∀ {x : List (Int × Nat)} {c : Int}, m_et ν (m_add x w k) c = w * m_at ν k + m_et ν x c := by
  intro x
  induction x with
  | nil => intro c; rfl
  | cons q r ih =>
    obtain ⟨v, j⟩ := q
    intro c
    simp only [m_add]
    split
    · rename_i h
      have h := Nat.eq_of_beq_eq_true h
      subst h
      show (v + w) * m_at ν j + m_et ν r c = w * m_at ν j + (v * m_at ν j + m_et ν r c)
      rw [Int.add_mul]; omega
    · show v * m_at ν j + m_et ν (m_add r w k) c = w * m_at ν k + (v * m_at ν j + m_et ν r c)
      rw [ih]; omega
theorem m_et_nrm : ∀ {x : List (Int × Nat)} {c : Int}, m_et ν (m_nrm x) c = m_et ν x c := by
  intro x
  induction x with
  | nil => intro c; rfl
  | cons q r ih =>
    obtain ⟨v, j⟩ := q
    intro c
    simp only [m_nrm]
    rw [m_et_add, ih]; rfl
theorem m_et_fil : ∀ {x : List (Int × Nat)} {c : Int}, m_et ν (x.filter (fun q => !(decide (q.1 = 0)))) c = m_et ν x c := by
  intro x
  induction x with
  | nil => intro c; rfl
  | cons q r ih =>
    obtain ⟨v, j⟩ := q
    intro c
    rw [List.filter_cons]
    by_cases hv9 : v = 0
    · subst hv9
      rw [if_neg (by simp), ih]
      show _ = 0 * m_at ν j + m_et ν r c
      omega
    · rw [if_pos (by simp [hv9])]
      show v * m_at ν j + m_et ν (r.filter _) c = v * m_at ν j + m_et ν r c
      rw [ih]
theorem m_et_app : ∀ {x y : List (Int × Nat)} {c : Int}, m_et ν (x ++ y) c = m_et ν x 0 + m_et ν y c := by
  intro x
  induction x with
  | nil => intro y c; show m_et ν y c = 0 + m_et ν y c; omega
  | cons q r ih =>
    obtain ⟨v, j⟩ := q
    intro y c
    show v * m_at ν j + m_et ν (r ++ y) c = v * m_at ν j + m_et ν r 0 + m_et ν y c
    rw [ih]; omega
theorem m_et_c : ∀ {x : List (Int × Nat)} {c d : Int}, m_et ν x (c + d) = m_et ν x c + d := by
  intro x
  induction x with
  | nil => intro c d; rfl
  | cons q r ih =>
    obtain ⟨v, j⟩ := q
    intro c d
    show v * m_at ν j + m_et ν r (c + d) = v * m_at ν j + m_et ν r c + d
    rw [ih]; omega
theorem m_et_neg : ∀ {x : List (Int × Nat)}, m_et ν (m_neg x) 0 = - m_et ν x 0 := by
  intro x
  induction x with
  | nil => rfl
  | cons q r ih =>
    obtain ⟨v, j⟩ := q
    show -v * m_at ν j + m_et ν (m_neg r) 0 = -(v * m_at ν j + m_et ν r 0)
    rw [ih, Int.neg_mul]; omega
theorem m_inst_ok {σ : List BV} {zs : List Int} (hσ : f_evs ν σ = some zs) : ∀ {x : List (Int × Nat)} {c : Int} {q : MEt}, m_inst σ x c = some q → m_et ν q.1 q.2 = m_et zs x c := by
  intro x
  induction x with
  | nil => intro c q h; simp only [m_inst] at h; cases h; rfl
  | cons q0 r ih =>
    obtain ⟨w, k⟩ := q0
    intro c q h
    simp only [m_inst] at h
    split at h
    · rename_i n9 x9 d h1 h2
      cases h
      obtain ⟨z, g1, g2⟩ := f_evs_at hσ h1
      simp only [f_ev] at g2
      cases g2
      have := ih h2
      simp only at this
      show m_et ν x9 (d + w * n9) = w * m_at zs k + m_et zs r c
      rw [m_et_c, this, m_at_of g1]; omega
    · rename_i k' e9 x9 d h1 h2
      cases h
      obtain ⟨z, g1, g2⟩ := f_evs_at hσ h1
      simp only [f_ev] at g2
      cases hk : ν[k']? with
      | none => rw [hk] at g2; cases g2
      | some y =>
        rw [hk] at g2
        simp only [Option.some.injEq] at g2
        have := ih h2
        simp only at this
        show w * m_at ν k' + m_et ν x9 (d + w * e9) = w * m_at zs k + m_et zs r c
        rw [m_et_c, this, m_at_of g1, m_at_of hk, ← g2, Int.mul_add]; omega
    · cases h
theorem m_pos_ok {SF : List SFt} {cu : CUt} {x : List (Int × Nat)} {c : Int} (h0 : FP0 FP) (hE : henv I.1 n E) (hS : ∀ f ∈ SF, hsf FP I cu f) (h : m_pos E SF x c = true) : 1 ≤ m_et I.1 x c := by
  unfold m_pos at h
  simp only [Bool.or_eq_true] at h
  rcases h with h | h
  · split at h
    · rename_i b hb
      have hb1 := of_decide_eq_true h
      have h2 := m_lb_ok hE hb
      omega
    · cases h
  · split at h
    · rename_i w k v j
      simp only [Bool.and_eq_true, decide_eq_true_eq] at h
      obtain ⟨h1, h2, h3, h4⟩ := h
      obtain ⟨q1, e1⟩ := Option.isSome_iff_exists.mp h1
      obtain ⟨q2, e2⟩ := Option.isSome_iff_exists.mp h2
      obtain ⟨y1, g1, -⟩ := hE.2 k _ e1
      obtain ⟨y2, g2, -⟩ := hE.2 j _ e2
      show 1 ≤ w * m_at I.1 k + (v * m_at I.1 j + c)
      rw [m_at_of g1, m_at_of g2, h3]
      split at h4
      · rename_i hw
        have hw : 1 ≤ w := by simpa using hw
        simp only [Bool.and_eq_true, decide_eq_true_eq] at h4
        have h5 := g_leq_ok h0 hE hS 6 h4.2 (show f_ev I.1 (bV j 1) = some (y2 + 1) by simp only [f_ev, g2]) (show f_ev I.1 (bV k 0) = some (y1 + 0) by simp only [f_ev, g1])
        have h6 : w * 1 ≤ w * (y1 - y2) := Int.mul_le_mul_of_nonneg_left (by omega) (by omega)
        rw [Int.mul_sub] at h6
        rw [Int.neg_mul]
        omega
      · rename_i hw
        simp only [Bool.and_eq_true, decide_eq_true_eq] at h4
        obtain ⟨h7, h8, h9⟩ := h4
        have h5 := g_leq_ok h0 hE hS 6 h9 (show f_ev I.1 (bV k 1) = some (y1 + 1) by simp only [f_ev, g1]) (show f_ev I.1 (bV j 0) = some (y2 + 0) by simp only [f_ev, g2])
        have h6 : v * 1 ≤ v * (y2 - y1) := Int.mul_le_mul_of_nonneg_left (by omega) (by omega)
        rw [Int.mul_sub] at h6
        have e3 : w = -v := by omega
        rw [h3, e3] at *
        simp only [Int.neg_neg, Int.neg_mul] at *
        omega
    · cases h
theorem g_meas_ok {SF : List SFt} {cu : CUt} {σ : List BV} {zs : List Int} {m0 : Option MEt} {m : MEt} (h0 : FP0 FP) (hE : henv I.1 n E) (hS : ∀ f ∈ SF, hsf FP I cu f) (hσ : f_evs I.1 σ = some zs) (h : g_meas E SF m0 σ m = true) : ∀ mm, m0 = some mm → m_et zs m.1 m.2 < m_et I.1 mm.1 mm.2 := by
  intro mm hm
  subst hm
  obtain ⟨x0, c0⟩ := mm
  unfold g_meas at h
  simp only at h
  split at h
  · rename_i x1 c1 h1
    have h2 := m_pos_ok h0 hE hS h
    rw [m_et_fil, m_et_nrm, m_et_app] at h2
    have h3 := m_inst_ok hσ h1
    simp only at h3
    have e1 : m_et I.1 (m_neg x1) (c0 - c1) = m_et I.1 (m_neg x1) 0 + (c0 - c1) := by rw [← m_et_c]; congr 1; omega
    have e2 : m_et I.1 x1 c1 = m_et I.1 x1 0 + c1 := by rw [← m_et_c]; congr 1; omega
    have e3 : m_et I.1 x0 c0 = m_et I.1 x0 0 + c0 := by rw [← m_et_c]; congr 1; omega
    rw [e1, m_et_neg] at h2
    show m_et zs m.1 m.2 < m_et I.1 x0 c0
    omega
  · cases h
theorem g_ckI_ok {np : Nat} {σ : List BV} {zs : List Int} (h : g_ckI np σ = true) (hσ : f_evs ν σ = some zs) : ∀ k, k < np → ∃ y, zs[k]? = some y ∧ ν[k]? = some y := by
  intro k hk
  have h1 := List.all_eq_true.mp h k (List.mem_range.mpr hk)
  split at h1
  · rename_i j c hs
    simp only [Bool.and_eq_true, decide_eq_true_eq] at h1
    obtain ⟨h1, rfl⟩ := h1
    have h1 := Nat.eq_of_beq_eq_true h1
    subst h1
    obtain ⟨z, g1, g2⟩ := f_evs_at hσ hs
    simp only [f_ev] at g2
    cases hv9 : ν[j]? with
    | none => rw [hv9] at g2; cases g2
    | some y =>
      rw [hv9] at g2
      simp only [Option.some.injEq] at g2
      exact ⟨z, g1, by rw [← g2]; congr 1; omega⟩
  · cases h1
theorem g_all_ok {np : Nat} {F F' : FS} {σ : List BV} {lo lo' : List (Nat × BV)} {st st' : List BV} {ls : Array Slot} {nL : Nat} {lv : List (Nat × Value)} {vs : List Value} (h0 : FP0 FP) (h : HS T FP cy I ks wp F) (hl : lv_has ls nL lv) (hlo : hlv I lo lv) (hst : hvs I st vs) (hg : g_all np F lo st F' lo' st' σ = true) :
    ∃ zs, f_evs I.1 σ = some zs ∧ (∀ k, k < np → ∃ y, zs[k]? = some y ∧ I.1[k]? = some y) ∧ HS T FP cy (zs, I.2) ks wp F' ∧ (∃ lv', lv_has ls nL lv' ∧ hlv (zs, I.2) lo' lv') ∧ hvs (zs, I.2) st' vs := by
  unfold g_all at hg
  simp only [Bool.and_eq_true, decide_eq_true_eq] at hg
  obtain ⟨g0, g1, g2, g3, g4, g5, g6, g7⟩ := hg
  obtain ⟨zs, z1, z2, z3, z4⟩ := g_match_ok h0 h hl hlo hst g1 g2 g3 g4 g5 g6 g7
  exact ⟨zs, z1, g_ckI_ok g0 z1, z2, z3, z4⟩
end BCUT
end
section
/-! behind a call by a contract -/
section BAFT
variable {T : TBt} {FP : Nat → CUt → List Int → Prop} {cy : Nat → ClassId} {I J : IN} {ks ks' : List Nat} {wp wp' : va_W} {n : Nat} {E : EB}
theorem c_fi_ix : ∀ {ks : List Nat} {wp : va_W} {κ : Nat} {e : va_E}, c_fi ks wp κ = some e → ∃ (i q : Nat), ks[i]? = some κ ∧ wp[i]? = some (q, e) ∧ ∀ i', i' < i → ks[i']? ≠ some κ := by
  intro ks
  induction ks with
  | nil => intro wp κ e h; simp only [c_fi] at h; cases h
  | cons k r ih =>
    intro wp κ e h
    cases wp with
    | nil => simp only [c_fi] at h; cases h
    | cons q w =>
      simp only [c_fi] at h
      split at h
      · rename_i h1
        have h1 := Nat.eq_of_beq_eq_true h1
        subst h1
        cases h
        exact ⟨0, q.1, rfl, rfl, fun i' h => absurd h (Nat.not_lt_zero _)⟩
      · rename_i h1
        obtain ⟨i, q0, g1, g2, g3⟩ := ih h
        refine ⟨i + 1, q0, g1, g2, fun i' hi => ?_⟩
        cases i' with
        | zero =>
          intro h2
          simp only [List.getElem?_cons_zero, Option.some.injEq] at h2
          subst h2
          exact h1 (Nat.beq_refl _)
        | succ i' =>
          rw [List.getElem?_cons_succ]
          exact g3 i' (by omega)
theorem c_fi_of : ∀ {ks : List Nat} {wp : va_W} {κ i q : Nat} {e : va_E}, ks[i]? = some κ → wp[i]? = some (q, e) → (∀ i', i' < i → ks[i']? ≠ some κ) → c_fi ks wp κ = some e := by
  intro ks
  induction ks with
  | nil => intro wp κ i q e h; cases h
  | cons k r ih =>
    intro wp κ i q e h1 h2 h3
    cases wp with
    | nil => cases h2
    | cons q0 w =>
      simp only [c_fi]
      cases i with
      | zero =>
        simp only [List.getElem?_cons_zero, Option.some.injEq] at h1 h2
        subst h1
        subst h2
        rw [if_pos (Nat.beq_refl _)]
      | succ i =>
        rw [List.getElem?_cons_succ] at h1 h2
        have h0 := h3 0 (by omega)
        simp only [List.getElem?_cons_zero, ne_eq, Option.some.injEq] at h0
        rw [if_neg (fun h => h0 (Nat.eq_of_beq_eq_true h))]
        exact ih h1 h2 (fun i' hi => by have := h3 (i' + 1) (by omega); rw [List.getElem?_cons_succ] at this; exact this)
/-- the places of the only cell of a kind, behind a call -/
theorem c_cu_unch {wr : WR} {κ j : Nat} (hp : hpool T cy I.2.1 ks wp) (h : Unch wr ks wp ks' wp') (hu : κ < T.2.1) (hn : ¬ inwr wr κ j) : c_cu ks' wp' κ j = c_cu ks wp κ j := by
  obtain ⟨i0, hi0⟩ := hp.2.2.2.2 κ hu
  have hlt := (List.getElem?_eq_some_iff.mp hi0).1
  obtain ⟨q0, e0, d0, g1, -⟩ := hp.2.1 i0 κ hi0
  have hf : c_fi ks wp κ = some e0 := c_fi_of hi0 g1 (fun i' hi h1 => by have := hp.2.2.2.1 i' i0 κ hu h1 hi0; omega)
  obtain ⟨⟨more, hm⟩, h2⟩ := h
  obtain ⟨e', g2, g3⟩ := h2 i0 κ q0 e0 hi0 g1
  have hi1 : ks'[i0]? = some κ := by rw [hm, List.getElem?_append_left hlt]; exact hi0
  have hf' : c_fi ks' wp' κ = some e' := c_fi_of hi1 g2 (fun i' hi h1 => by
    rw [hm, List.getElem?_append_left (by omega)] at h1
    have := hp.2.2.2.1 i' i0 κ hu h1 hi0
    omega)
  unfold c_cu
  rw [hf, hf']
  exact g3 j hn
theorem keepC_ok {wr : WR} {f : CFt} (hE : henv I.1 n E) (hx : hxt I J) (h : hcf T I ks wp f) (hu : Unch wr ks wp ks' wp') (hk : g_keepC E wr f = true) : hcf T J ks' wp' f := by
  obtain ⟨i, q, e, z, x, h1, h2, h3, h4, h5, h6⟩ := h
  obtain ⟨⟨more, hm⟩, hu2⟩ := hu
  obtain ⟨e', g2, g3⟩ := hu2 i f.1 q e h1 h2
  have hlt := (List.getElem?_eq_some_iff.mp h1).1
  refine ⟨i, q, e', z, x, by rw [hm, List.getElem?_append_left hlt]; exact h1, g2, h3.xt hx, ev_xt hx h4, ?_, h6.xt hx⟩
  · rw [g3 z ?_]
    · exact h5
    · rintro ⟨w, w1, w2, w3, w4⟩
      have := List.all_eq_true.mp hk w w1
      simp only [Bool.or_eq_true] at this
      rcases this with q9 | q9
      · rw [w2, Nat.beq_refl] at q9
        cases q9
      · split at q9
        · rename_i l9 h9 hiv
          have := ev_iv hE h4 hiv
          simp only [Bool.or_eq_true, decide_eq_true_eq] at q9
          omega
        · cases q9
theorem keepS_ok {wr : WR} {f : SFt} (hFP : FPOK T FP) (hSU : SUOK T) (hp : hpool T cy I.2.1 ks wp) (hE : henv I.1 n E) (hx : hxt I J) (h : hsf FP I (c_cu ks wp) f) (hu : Unch wr ks wp ks' wp') (hk : g_keepS T E wr f = true) : hsf FP J (c_cu ks' wp') f := by
  obtain ⟨zs, h1, h2⟩ := h
  refine ⟨zs, f_evs_xt hx h1, ?_⟩
  unfold g_keepS at hk
  split at hk
  · rename_i L hL
    refine hFP f.1 L _ _ zs hL (fun s9 hs lo hi j k1 k2 k3 k4 => ?_) h2
    have hu9 := hSU L (List.mem_of_getElem? hL) s9 hs
    refine c_cu_unch hp hu hu9 ?_
    rintro ⟨w, w1, w2, w3, w4⟩
    have := List.all_eq_true.mp (List.all_eq_true.mp hk s9 hs) w w1
    simp only [Bool.or_eq_true] at this
    rcases this with q9 | q9
    · rw [w2, Nat.beq_refl] at q9
      cases q9
    · split at q9
      · rename_i a b ha hb
        simp only [Bool.or_eq_true] at q9
        have ga := f_sb_ok h1 ha k1
        have gb := f_sb_ok h1 hb k2
        rcases q9 with q9 | q9
        · have := f_lez_ok hE q9 gb (show f_ev I.1 (bI (w.2.1 : Int)) = some (w.2.1 : Int) from rfl)
          omega
        · have := f_lez_ok hE q9 (show f_ev I.1 (bI ((w.2.2 : Int) + 1)) = some ((w.2.2 : Int) + 1) from rfl) ga
          omega
      · cases q9
  · cases hk
/-- names of the call, then those that it added -/
theorem f_evs_app {ν : List Int} : ∀ {as bs : List BV} {xs ys : List Int}, f_evs ν as = some xs → f_evs ν bs = some ys → f_evs ν (as ++ bs) = some (xs ++ ys) := by
  intro as
  induction as with
  | nil => intro bs xs ys h1 h2; simp only [f_evs] at h1; cases h1; exact h2
  | cons a r ih =>
    intro bs xs ys h1 h2
    simp only [f_evs] at h1
    split at h1
    · rename_i z zs g1 g2
      cases h1
      simp only [List.cons_append, f_evs, g1, ih g2 h2]
    · cases h1
theorem f_evs_new {ν m1 : List Int} : ∀ (j : Nat), j ≤ m1.length → f_evs (ν ++ m1) ((List.range' (m1.length - j) j).map (fun i => bV (ν.length + i) 0)) = some (m1.drop (m1.length - j)) := by
  intro j
  induction j with
  | zero => intro _; simp [f_evs]
  | succ j ih =>
    intro hj
    have h1 := ih (by omega)
    rw [List.range'_succ, List.map_cons]
    have e1 : m1.length - (j + 1) + 1 = m1.length - j := by omega
    rw [e1]
    have hlt : m1.length - (j + 1) < m1.length := by omega
    have e2 : (ν ++ m1)[ν.length + (m1.length - (j + 1))]? = some (m1[m1.length - (j + 1)]) := by
      rw [List.getElem?_append_right (by omega), Nat.add_sub_cancel_left]
      exact List.getElem?_eq_getElem hlt
    have e3 : f_ev (ν ++ m1) (bV (ν.length + (m1.length - (j + 1))) 0) = some (m1[m1.length - (j + 1)]) := by
      simp only [f_ev, e2, Int.add_zero]
    simp only [f_evs, e3, h1]
    congr 1
    rw [List.drop_eq_getElem_cons hlt, e1]
theorem g_addE_ok {σ : List BV} {np n0 N : Nat} {Eo : EB} {ν zs : List Int} (hσ : f_evs ν σ = some zs) (hN : ν.length = N) (hEo : ∀ (k : Nat) (q : Int × Int), f_lk Eo k = some q → ∃ y, zs[k]? = some y ∧ q.1 ≤ y ∧ y ≤ q.2) (hnew : ∀ k y, np ≤ k → zs[k]? = some y → ν[n0 + (k - np)]? = some y) :
    ∀ (kx : List Nat) (E : EB), henv ν N E → ∃ E', g_addE σ np n0 Eo kx E = some E' ∧ henv ν N E' := by
  intro kx
  induction kx with
  | nil => intro E hE; exact ⟨E, rfl, hE⟩
  | cons k r ih =>
    intro E hE
    simp only [g_addE]
    split
    · rename_i lo hi hk
      obtain ⟨y, y1, y2, y3⟩ := hEo k _ hk
      simp only at y2 y3
      split
      · split
        · rename_i b hb
          split
          · rename_i q9 hq
            obtain ⟨z, g1, g2⟩ := f_evs_at hσ hb
            rw [y1] at g1
            cases g1
            obtain ⟨E1, e1, e2, -⟩ := f_clamp_ev (lo := lo) (hi := hi) hE g2 ⟨_, hq⟩ y2 y3
            rw [e1]
            exact ih E1 e2
          · exact ih E hE
        · exact ih E hE
      · rename_i hlt
        have hlt : np ≤ k := by
          have : ¬ k < np := fun h => hlt (by simp only [Nat.blt]; exact Nat.ble_eq_true_of_le h)
          omega
        refine ih _ ?_
        exact henv_set hE (hnew k y hlt y1) y2 y3
    · exact ih E hE
theorem subC_ok {σ : List BV} {zs : List Int} (hσ : f_evs J.1 σ = some zs) {CF : List CFt} (h : ∀ f ∈ CF, hcf T (zs, J.2) ks' wp' f) : ∀ f ∈ g_subC σ CF, hcf T J ks' wp' f := by
  intro f hf
  unfold g_subC at hf
  obtain ⟨f0, m0, hf0⟩ := List.mem_filterMap.mp hf
  obtain ⟨κ, b, p9, v⟩ := f0
  simp only at hf0
  split at hf0
  · rename_i b' p' v' hb hp9 hv9
    cases hf0
    obtain ⟨i, q, e, z, x, h1, h2, h3, h4, h5, h6⟩ := h _ m0
    simp only at h1 h3 h4 h6
    refine ⟨i, q, e, z, x, h1, h2, ?_, ?_, h5, (g_sub_iff hσ hv9).mp h6⟩
    · split at hb
      · cases hb
        exact h3
      · split at hb
        · rename_i k' c9 hk
          split at hb
          · rename_i hc
            have hc := of_decide_eq_true hc
            subst hc
            cases hb
            have h3 : zs[_]? = some (q : Int) := h3
            show J.1[k']? = some (q : Int)
            obtain ⟨z9, g1, g2⟩ := f_evs_at hσ hk
            rw [h3] at g1
            cases g1
            simp only [f_ev] at g2
            cases hq : J.1[k']? with
            | none => rw [hq] at g2; cases g2
            | some y =>
              rw [hq] at g2
              simp only [Option.some.injEq] at g2
              rw [← g2]; congr 1; omega
          · cases hb
        · cases hb
    · have hpI : f_isI p9 = true := by
        rcases p9 with c9 | ⟨k9, c9⟩ | w9
        · rfl
        · rfl
        · simp only [f_ev] at h4; cases h4
      obtain ⟨z9, g1, g2⟩ := g_sub_ev hσ hp9 hpI
      rw [h4] at g1
      cases g1
      exact g2
  · cases hf0
theorem subs_ev {ν zs : List Int} {σ : List BV} (hσ : f_evs ν σ = some zs) : ∀ {as bs : List BV} {xs : List Int}, g_subs σ as = some bs → f_evs zs as = some xs → f_evs ν bs = some xs := by
  intro as
  induction as with
  | nil => intro bs xs h1 h2; simp only [g_subs] at h1; cases h1; exact h2
  | cons a r ih =>
    intro bs xs h1 h2
    simp only [g_subs] at h1
    split at h1
    · rename_i b bs0 g1 g2
      cases h1
      simp only [f_evs] at h2
      split at h2
      · rename_i z zs0 g3 g4
        cases h2
        have hpI : f_isI a = true := by
          rcases a with c9 | ⟨k9, c9⟩ | w9
          · rfl
          · rfl
          · simp only [f_ev] at g3; cases g3
        obtain ⟨z9, k1, k2⟩ := g_sub_ev hσ g1 hpI
        rw [g3] at k1
        cases k1
        simp only [f_evs, k2, ih g2 g4]
      · cases h2
    · cases h1
theorem subF_ok {σ : List BV} {zs : List Int} {cu : CUt} (hσ : f_evs J.1 σ = some zs) {SF : List SFt} (h : ∀ f ∈ SF, hsf FP (zs, J.2) cu f) : ∀ f ∈ g_subF σ SF, hsf FP J cu f := by
  intro f hf
  unfold g_subF at hf
  obtain ⟨f0, m0, hf0⟩ := List.mem_filterMap.mp hf
  split at hf0
  · rename_i as has
    cases hf0
    obtain ⟨xs, h1, h2⟩ := h _ m0
    exact ⟨xs, subs_ev hσ has h1, h2⟩
  · cases hf0
theorem g_aft_ok {sp : SPt} {σ : List BV} {F : FS} {o : OUB} {L : List (Option BV × FS)} {zs : List Int} {u : UQ} {r : Option Value} (hFP : FPOK T FP) (hSU : SUOK T) (h : HS T FP cy I ks wp F) (hσ : f_evs I.1 σ = some zs) (hz : zs.length = (pF sp).1)
    (hu1 : hxt (zs, I.2) u.1) (hu2 : HS T FP cy u.1 u.2.1 u.2.2.1 o.2) (hu3 : Unch (pW sp) ks wp u.2.1 u.2.2.1) (hr : rvl u.1 o.1 r) (hg : g_aft T sp σ F o = some L) :
    ∃ q ∈ L, ∃ J : IN, hxt I J ∧ HS T FP cy J u.2.1 u.2.2.1 q.2 ∧ rvl J q.1 r := by
  obtain ⟨Iu, ku, wu, ou⟩ := u
  simp only at hu1 hu2 hu3 hr
  obtain ⟨⟨m1, x1⟩, ⟨m2, x2⟩, x3⟩ := hu1
  simp only at x1 x2 x3
  obtain ⟨p0, p1, p2, p3⟩ := h
  obtain ⟨q0, q1, q2, q3⟩ := hu2
  have hlu : Iu.1.length = o.2.1 := q1.1
  have hlm : m1.length = o.2.1 - (pF sp).1 := by rw [← hlu, x1, List.length_append, hz]; omega
  let J : IN := (I.1 ++ m1, Iu.2)
  have hIJ : hxt I J := ⟨⟨m1, rfl⟩, ⟨m2, x2⟩, x3⟩
  have hn : I.1.length = F.1 := p1.1
  unfold g_aft at hg
  split at hg
  · rename_i hle
    have hle := Nat.le_of_ble_eq_true hle
    have hσ' : f_evs J.1 (σ ++ (List.range (o.2.1 - (pF sp).1)).map (fun i => bV (F.1 + i) 0)) = some Iu.1 := by
      have e1 := f_evs_new (ν := I.1) (m1 := m1) m1.length (Nat.le_refl _)
      rw [Nat.sub_self, List.drop_zero, hn, ← List.range_eq_range', hlm] at e1
      rw [x1]
      exact f_evs_app (f_evs_xt hIJ hσ) e1
    generalize hσe : σ ++ (List.range (o.2.1 - (pF sp).1)).map (fun i => bV (F.1 + i) 0) = σ' at hσ' hg
    simp only at hg
    have hEJ0 : henv J.1 (F.1 + (o.2.1 - (pF sp).1)) F.2.1 := by
      refine ⟨by show (I.1 ++ m1).length = _; rw [List.length_append, hn, hlm], fun k q hk => ?_⟩
      obtain ⟨y, g1, g2⟩ := p1.2 k q hk
      exact ⟨y, hIJ.at g1, g2⟩
    have hnew : ∀ k y, (pF sp).1 ≤ k → Iu.1[k]? = some y → J.1[F.1 + (k - (pF sp).1)]? = some y := by
      intro k y hk hy
      rw [x1, List.getElem?_append_right (by rw [hz]; exact hk), hz] at hy
      show (I.1 ++ m1)[F.1 + (k - (pF sp).1)]? = some y
      rw [List.getElem?_append_right (by rw [hn]; omega), hn, Nat.add_sub_cancel_left]
      exact hy
    obtain ⟨E', e1, e2⟩ := g_addE_ok (Eo := o.2.2.1) hσ' hEJ0.1 q1.2 hnew (List.range o.2.1) F.2.1 hEJ0
    rw [e1] at hg
    simp only at hg
    have fin : ∀ r', rvl J r' r → (some [(r', (F.1 + (o.2.1 - (pF sp).1), E', g_subC σ' o.2.2.2.1 ++ F.2.2.1.filter (g_keepC F.2.1 (pW sp)), g_subF σ' o.2.2.2.2 ++ F.2.2.2.filter (g_keepS T F.2.1 (pW sp))))] : Option (List (Option BV × FS))) = some L → ∃ q ∈ L, ∃ J : IN, hxt I J ∧ HS T FP cy J ku wu q.2 ∧ rvl J q.1 r := by
      intro r' hr' hL
      cases hL
      refine ⟨_, List.mem_cons_self, J, hIJ, ⟨q0, e2, fun f hf => ?_, fun f hf => ?_⟩, hr'⟩
      · rcases List.mem_append.mp hf with hf | hf
        · exact subC_ok (J := J) hσ' (fun f hf => q2 f hf) f hf
        · obtain ⟨f1, f2⟩ := List.mem_filter.mp hf
          exact keepC_ok p1 hIJ (p2 f f1) hu3 f2
      · rcases List.mem_append.mp hf with hf | hf
        · exact subF_ok (J := J) hσ' (fun f hf => q3 f hf) f hf
        · obtain ⟨f1, f2⟩ := List.mem_filter.mp hf
          exact keepS_ok hFP hSU p0 p1 hIJ (p3 f f1) hu3 f2
    cases ho : o.1 with
    | none =>
      rw [ho] at hg hr
      simp only at hg
      refine fin none ?_ hg
      cases r with
      | none => trivial
      | some x => exact absurd hr id
    | some a =>
      rw [ho] at hg hr
      simp only at hg
      cases hs : g_sub σ' a with
      | none => rw [hs] at hg; cases hg
      | some b =>
        rw [hs] at hg
        simp only at hg
        refine fin (some b) ?_ hg
        cases r with
        | none => exact absurd hr id
        | some x => exact (g_sub_iff (I := J) hσ' hs).mp hr
  · cases hg
end BAFT
end
section
/-! calls, and the soundness of the run -/
def HKOK (T : TBt) (FP : Nat → CUt → List Int → Prop) (cy : Nat → ClassId) (hk : Nat → SB → Option (List FS)) : Prop := ∀ (h : Nat) (S : SB) (L : List FS), hk h S = some L → ∀ (I : IN) (ks : List Nat) (wp : va_W) (lv : List (Nat × Value)) (vs : List Value), hap wp → hlv I S.2.1 lv → hvs I S.2.2.1 vs → HS T FP cy I ks wp S.2.2.2.1 → ∃ F ∈ L, ∃ J : IN, hxt I J ∧ J.2 = I.2 ∧ HS T FP cy J ks wp F
def OXOK (T : TBt) (FP : Nat → CUt → List Int → Prop) (OW : List String) (EW : EWt) (D : va_G) (cy : Nat → ClassId) (l : Launch) (ox : MT → WR → RMt → SB → Instr → Nat → Option (List SB)) : Prop := ∀ (M : MT) (wr : WR) (rm : RMt) (S : SB) (ins : Instr) (len : Nat) (x : List SB), ox M wr rm S ins len = some x →
  ∀ (I0 : IN) (ks0 : List Nat) (wp0 : va_W) (own : String) (p : Program) (e : Env) (R : Room) (s : State) (m : MethodId) (args : Array Value) (below : List Frame) (meth : Method) (c : Code) (A : Nat → Prop) (Q : State → Prop) (cb sb : Nat), Cx OW EW D cy I0.2.2 M own p R s m args meth c A rm cb sb → decode (mC M) S.1 = .ok (ins, len) →
  (∀ S' ∈ x, Sf T FP D cy I0 ks0 wp0 wr M p l e R s m args below meth c A Q cb sb S') → Sf T FP D cy I0 ks0 wp0 wr M p l e R s m args below meth c A Q cb sb S
/-- a spec is a contract -/
def SPOK (T : TBt) (FP : Nat → CUt → List Int → Prop) (EW : EWt) (D : va_G) (cy : Nat → ClassId) (l : Launch) (P : List MT) (sp : SPt) : Prop := ∀ M' : MT, P[pM sp]? = some M' → ∀ (I : IN) (ks : List Nat) (wp : va_W) (vs : List Value) (sz : Nat), HS T FP cy I ks wp (pF sp) → hvs I (pA sp) vs →
  Met l (mY M') (mW M') (rmR (pR sp)) (PJ2 D cy EW I.2.2 wp vs sz) (QJ2 T FP D cy I ks wp (pW sp) (pO sp) (va_A wp sz) (mR M')) (pR sp).2.1 (pR sp).2.2.1 (va_A wp sz)
def CutOK (T : TBt) (FP : Nat → CUt → List Int → Prop) (D : va_G) (cy : Nat → ClassId) (np : Nat) (m0 : Option MEt) (I0 : IN) (ks0 : List Nat) (wp0 : va_W) (wr : WR) (M : MT) (p : Program) (l : Launch) (e : Env) (R : Room) (s : State) (m : MethodId) (args : Array Value) (below : List Frame) (meth : Method) (c : Code) (A : Nat → Prop) (Q : State → Prop) (cb sb : Nat) (cuts : List CUt') : Prop :=
  ∀ ct ∈ cuts, ∀ (I : IN) (H : Heap) (locs : List Loc) (ls : Array Slot) (lv : List (Nat × Value)) (vs : List Value) (ks : List Nat) (wp : va_W), (∀ k, k < np → I.1[k]? = I0.1[k]?) → I.2.2 = I0.2.2 → (∃ m2, I.2.1 = I0.2.1 ++ m2) → lv_has ls (mL M) lv → hlv I ct.2.1 lv → hvs I ct.2.2.1 vs → HS T FP cy I ks wp ct.2.2.2.1 → va_P D vwCl wp H → va_D A wp → va_S A s.heap H locs → Unch wr ks0 wp0 ks wp →
    (∀ mm, m0 = some mm → m_et I.1 ct.2.2.2.2.2.1 ct.2.2.2.2.2.2 < m_et I0.1 mm.1 mm.2) → W p l e R s m args below meth c H locs (cb + ct.2.2.2.2.1.1) (sb + ct.2.2.2.2.1.2) Q (F0 m ct.1 ls vs)
section BSOUND
variable {T : TBt} {FP : Nat → CUt → List Int → Prop} {OW : List String} {EW : EWt} {D : va_G} {cy : Nat → ClassId} {P : List MT} {RT : List (List (Nat × RES))} {l : Launch}
set_option maxHeartbeats 1000000 in
/-- a call: its words, and its run out of its contract -/
theorem s_runs {I0 I : IN} {M M' : MT} {own : String} {p : Program} {e : Env} {R : Room} {s : State} {m : MethodId} {args : Array Value} {below : List Frame} {meth : Method} {c : Code} {A : Nat → Prop} {rm : RMt} {cb sb : Nat} {S : SB} {ins : Instr} {len j : Nat} {as rest : List BV} {H : Heap} {locs : List Loc} {ls : Array Slot} {lv : List (Nat × Value)} {vs : List Value} {ks : List Nat} {wp : va_W}
    (hP : POK2 P RT OW) (hEW : EWOK EW) (X : Cx OW EW D cy I0.2.2 M own p R s m args meth c A rm cb sb) (h : f_call T P RT M S ins len = some (j, M', as, rest)) (hd : decode (mC M) S.1 = .ok (ins, len))
    (a1 : lv_has ls (mL M) lv) (a3 : hvs I S.2.2.1 vs) (a4 : HS T FP cy I ks wp S.2.2.2.1) (a6 : va_P D vwCl wp H) (a7 : va_D A wp) (a8 : va_S A s.heap H locs) :
    ∃ vas vr, hvs I as vas ∧ hvs I rest vr ∧ P[j]? = some M' ∧ MOK M' ∧ TOK OW M' ∧ OW[mO M']? = some (mY M').cls ∧ f_ctg as ≤ mL M' ∧ S.2.2.2.2.1.isNone = true ∧
      ∀ (rm' : RMt) (Qc : Array Value → State → Outcome → State → Prop) (cells slots : Nat), Met l (mY M') (mW M') (rmR rm') (PJ2 D cy EW I0.2.2 wp vas H.size) Qc rm'.2.1 rm'.2.2.1 (va_A wp H.size) →
        rm'.1 + 1 ≤ R.frames → 8 + (mL M' + 11) + rm'.2.2.2 ≤ R.locals → cells + rm'.2.1 ≤ R.cells → slots + rm'.2.2.1 ≤ R.slots →
        va_Run p l e R s m args below meth c H locs cells slots rm'.2.1 rm'.2.2.1 (F0 m S.1 ls vs) vr (Qc vas.toArray) (va_A wp H.size) := by
  obtain ⟨pc, lo, st, F, rw0, nc, ns⟩ := S
  unfold f_call at h
  simp only at h a3 a4 hd ⊢
  split at h
  · rename_i kd i hki
    split at h
    · rename_i rk j0 z1 z2 hr
      split at h
      · rename_i M0 hj
        split at h
        · rename_i as0 rest0 htk
          split at h
          · rename_i as1 rest1 hrec
            split at h
            · rename_i q
              simp only [Bool.and_eq_true, Bool.or_eq_true] at q
              obtain ⟨q1, q2, q3, q4, q5, q6⟩ := q
              have q2 := beq3 q2
              have q3 := beq3 q3
              have q5 := Nat.le_of_ble_eq_true q5
              have q6 := Nat.le_of_ble_eq_true q6
              cases h
              subst q3
              obtain ⟨mok, tok, ow⟩ := hP.1 _ _ hj
              have hro := (res_ok hP X.2.2.2.1 hr).1
              obtain ⟨vas, vr0, rfl, hlen, g1, g2⟩ := f_take_ok _ htk a3 (show hvs I [] [] from trivial)
              rw [List.append_nil] at g1
              have cb9 : ∀ w, w ∈ BIG → w.before args s = true := X.2.2.2.2.2.1
              have fix : CallFix p m c (mC M) (mL M) s args BIG own := ⟨X.1, X.2.1, X.2.2.1, X.2.2.2.2.1, cb9⟩
              have hlk : (Cond.methodLink own i (mY M') ∈ BIG) ∨ ∃ host, Cond.methodLinkNest own i (mY M') host ∈ NST := by
                rcases q1 with q1 | q1
                · have q1 := beq3 q1
                  subst q1
                  obtain ⟨M1, h1, h2⟩ := hro
                  rw [hj] at h1
                  cases h1
                  exact Or.inl h2
                · have q1 := beq3 q1
                  subst q1
                  obtain ⟨M1, host, h1, h2⟩ := hro
                  rw [hj] at h1
                  cases h1
                  exact Or.inr ⟨host, h2⟩
              have hKK : KK D cy s := X.2.2.2.2.2.2.1
              have hA : ∀ q, s.heap.size ≤ q → A q := X.2.2.2.2.2.2.2.1
              have hF : ∀ q, va_A wp H.size q → A q := by
                intro q hq
                rcases hq with ⟨kq, eq, h1⟩ | h1
                · exact a7.2 _ _ h1
                · exact hA q (Nat.le_trans a8.1 h1)
              have pre : ∀ (vals : List Value) (U : State), U.heap = H → s.WarmedH U.vm → PJ2 D cy EW I0.2.2 wp vals H.size vals.toArray U := fun vals U hU hW => ⟨rfl, by rw [hU], by rw [hU]; exact a6, KK.warm hW hKK, a7.weaken (fun _ _ _ _ => trivial), hEW.1 _ A _ s U locs H X.2.2.2.2.2.2.2.2.2.1 hW hU a8 hF⟩
              split at hki
              · -- static
                cases hki
                rw [if_pos (show Nat.beq 0 0 = true from rfl)] at hrec
                cases hrec
                refine ⟨vas.reverse, vr0, g1, g2, hj, mok, tok, ow, q6, q4, fun rm' Qc cells slots met r1 r2 r3 r4 => ?_⟩
                have hstk : (F0 m pc ls (vas ++ vr0)).stack = (vas.reverse).reverse ++ vr0 := by rw [List.reverse_reverse]
                have hW9 := lv_room (m := m) (pc := pc) (ls := ls) (rest := vas ++ vr0) (st := vr0) (by rw [f_ctg_ok g2]; exact q5)
                have hst := mok.2.2.2.2.2.1 q2
                rcases hlk with hl | ⟨host, hl⟩
                · exact va_runS fix met ⟨callB_of (mA M') cb9 (mW_good mok) rfl rfl rfl (cb9 _ mok.2.2.1) (cb9 _ hl) ⟨mok.2.2.2.1.1, mok.2.2.2.1.2, mok.2.2.2.2.1⟩ ⟨r1, r2⟩, cb9 _ hst⟩ ⟨pj2_blind hEW, fun U hU hW => pre _ U hU hW⟩ rfl (by rw [List.length_reverse]; exact hlen) a1.1 hstk hW9 hd ⟨r3, r4⟩
                · exact va_runSN fix met ⟨va_cnB (mA M') cb9 (mW_good mok) rfl rfl rfl (hKK.2.1 _ hl) (cb9 _ mok.2.2.1) ⟨mok.2.2.2.1.1, mok.2.2.2.1.2, mok.2.2.2.2.1⟩ ⟨r1, r2⟩, cb9 _ hst, trivial⟩ ⟨pj2_blind hEW, fun U hU hW => pre _ U hU hW⟩ rfl (by rw [List.length_reverse]; exact hlen) a1.1 hstk hW9 hd ⟨r3, r4⟩
              · -- of an object
                cases hki
                rw [if_neg (by decide)] at hrec
                split at hrec
                · rename_i r0 rest2
                  split at hrec
                  · rename_i κ nn nm ci tys hci
                    split at hrec
                    · rename_i hci2
                      have hci2 := beq3 hci2
                      cases hrec
                      obtain ⟨v, vr, rfl, g3, g4⟩ := hvs_cons g2
                      obtain ⟨qa, ix, e9, rfl, k1, k2, k3, k4, k5⟩ := kd_ok a4 g3 hci
                      refine ⟨.ref qa :: vas.reverse, vr, ⟨g3, g1⟩, g4, hj, mok, tok, ow, q6, q4, fun rm' Qc cells slots met r1 r2 r3 r4 => ?_⟩
                      have hstk : (F0 m pc ls (vas ++ .ref qa :: vr)).stack = (vas.reverse).reverse ++ .ref qa :: vr := by rw [List.reverse_reverse]
                      have hW9 := lv_room (m := m) (pc := pc) (ls := ls) (rest := vas ++ .ref qa :: vr) (st := vr) (by rw [f_ctg_ok g4]; exact q5)
                      obtain ⟨i1, i2, r, y1, y2⟩ := mok.2.2.2.2.2.2.1 q2
                      obtain ⟨fvs, rfl, -⟩ := k3.1
                      rw [← hci2] at y1
                      have hrecv := va_recv hKK.1 a6 y1 k2
                      rw [y2] at hrecv
                      rcases hlk with hl | ⟨host, hl⟩
                      · exact va_runV (C := (mY M').cls) fix met ⟨callB_of (mA M') cb9 (mW_good mok) rfl rfl rfl (cb9 _ mok.2.2.1) (cb9 _ hl) ⟨mok.2.2.2.1.1, mok.2.2.2.1.2, mok.2.2.2.2.1⟩ ⟨r1, r2⟩, cb9 _ i1, cb9 _ i2⟩ ⟨pj2_blind hEW, hrecv, fun U hU hW => pre _ U hU hW⟩ rfl (by rw [List.length_reverse]; exact hlen) a1.1 hstk hW9 hd ⟨r3, r4⟩
                      · exact va_runVN (C := (mY M').cls) fix met ⟨va_cnB (mA M') cb9 (mW_good mok) rfl rfl rfl (hKK.2.1 _ hl) (cb9 _ mok.2.2.1) ⟨mok.2.2.2.1.1, mok.2.2.2.1.2, mok.2.2.2.2.1⟩ ⟨r1, r2⟩, cb9 _ i1, cb9 _ i2⟩ ⟨pj2_blind hEW, hrecv, fun U hU hW => pre _ U hU hW⟩ rfl (by rw [List.length_reverse]; exact hlen) a1.1 hstk hW9 hd ⟨r3, r4⟩
                    · cases hrec
                  · cases hrec
                · cases hrec
              · cases hki
            · cases h
          · cases h
        · cases h
      · cases h
    · cases h
  · cases h
theorem g_try_ok {G : GT} {lim : Nat} {wr : WR} {rm : RMt} {S : SB} {M' : MT} {j : Nat} {as : List BV} {sp : SPt} {σ : List BV} : ∀ {cs : List Nat}, g_try G lim wr rm S M' j as cs = some (sp, σ) → ∃ i, i < lim ∧ G.2.2.2.2.1[i]? = some sp ∧ pM sp = j ∧ (pR sp).1 + 1 ≤ rm.1 ∧ 19 + mL M' + (pR sp).2.2.2 ≤ rm.2.2.2 ∧ S.2.2.2.2.2.1 + (pR sp).2.1 ≤ rm.2.1 ∧ S.2.2.2.2.2.2 + (pR sp).2.2.1 ≤ rm.2.2.1 ∧ ((pW sp).all (fun w => f_wr wr w.1 w.2.1 w.2.2)) = true ∧ g_all 0 S.2.2.2.1 [] as (pF sp) [] (pA sp) σ = true := by
  intro cs
  induction cs with
  | nil => intro h; simp only [g_try] at h; cases h
  | cons i r ih =>
    intro h
    simp only [g_try] at h
    split at h
    · rename_i sp0 hsp
      split at h
      · rename_i q
        simp only [Bool.and_eq_true] at q
        obtain ⟨q1, q2, q3, q4, q5, q6, q7, q8⟩ := q
        cases h
        exact ⟨i, Nat.le_of_ble_eq_true q1, hsp, beq3 q2, Nat.le_of_ble_eq_true q3, Nat.le_of_ble_eq_true q4, Nat.le_of_ble_eq_true q5, Nat.le_of_ble_eq_true q6, q7, q8⟩
      · exact ih h
    · exact ih h
theorem g_cat_ok {α : Type} {f : α → Option (List OUB)} : ∀ {x : List α} {outs : List OUB}, g_cat f x = some outs → ∀ S ∈ x, ∃ o1, f S = some o1 ∧ ∀ o ∈ o1, o ∈ outs := by
  intro x
  induction x with
  | nil => intro outs _ S h; cases h
  | cons S0 r ih =>
    intro outs h S hS
    simp only [g_cat] at h
    split at h
    · rename_i a ha
      split at h
      · rename_i q hq
        cases h
        rcases List.mem_cons.mp hS with rfl | hS
        · exact ⟨a, ha, fun o ho => List.mem_append_left _ ho⟩
        · obtain ⟨o1, h1, h2⟩ := ih hq S hS
          exact ⟨o1, h1, fun o ho => List.mem_append_right _ (h2 o ho)⟩
      · cases h
    · cases h
theorem g_cats_ok {f : OUB → Option (List (Option BV × FS))} : ∀ {x : List OUB} {outs : List (Option BV × FS)}, g_cats f x = some outs → ∀ S ∈ x, ∃ o1, f S = some o1 ∧ ∀ o ∈ o1, o ∈ outs := by
  intro x
  induction x with
  | nil => intro outs _ S h; cases h
  | cons S0 r ih =>
    intro outs h S hS
    simp only [g_cats] at h
    split at h
    · rename_i a ha
      split at h
      · rename_i q hq
        cases h
        rcases List.mem_cons.mp hS with rfl | hS
        · exact ⟨a, ha, fun o ho => List.mem_append_left _ ho⟩
        · obtain ⟨o1, h1, h2⟩ := ih hq S hS
          exact ⟨o1, h1, fun o ho => List.mem_append_right _ (h2 o ho)⟩
      · cases h
    · cases h
/-- a state at a cut -/
theorem s_cut {I0 : IN} {ks0 : List Nat} {wp0 : va_W} {wr : WR} {M : MT} {p : Program} {e : Env} {R : Room} {s : State} {m : MethodId} {args : Array Value} {below : List Frame} {meth : Method} {c : Code} {A : Nat → Prop} {Q : State → Prop} {cb sb np : Nat} {m0 : Option MEt} {cuts : List CUt'} {S : SB}
    (h0 : FP0 FP) (hnp : np ≤ I0.1.length) (hm0 : ∀ mm, m0 = some mm → ∀ J : IN, hxt I0 J → m_et J.1 mm.1 mm.2 = m_et I0.1 mm.1 mm.2) (h : cuts.any (g_cut np m0 S) = true)
    (hc : CutOK T FP D cy np m0 I0 ks0 wp0 wr M p l e R s m args below meth c A Q cb sb cuts) : Sf T FP D cy I0 ks0 wp0 wr M p l e R s m args below meth c A Q cb sb S := by
  obtain ⟨ct, hct, hg⟩ := List.any_eq_true.mp h
  obtain ⟨pc, lo, st, F, rw0, nc, ns⟩ := S
  obtain ⟨pc', lo', st', F', ⟨nc', ns'⟩, mm⟩ := ct
  intro I H locs ls lv vs ks wp raw a1 a2 a3 a4 a5 a6 a7 a8 a9 a10
  unfold g_cut at hg
  simp only at hg a2 a3 a4 a5 ⊢
  split at hg
  · rename_i hpc
    have hpc := beq3 hpc
    subst hpc
    simp only [Bool.and_eq_true] at hg
    obtain ⟨g1, g2, g3, g4, g5⟩ := hg
    have g2 := Nat.le_of_ble_eq_true g2
    have g3 := Nat.le_of_ble_eq_true g3
    have e9 := hraw_none g4 a5
    subst e9
    rw [List.append_nil] at a6 a7
    obtain ⟨zs, z1, z2, z3, ⟨lv', z4, z5⟩, z6⟩ := g_all_ok h0 a4 a1 a2 a3 g1
    refine W.widen (k := cb + nc') (n := sb + ns') (by omega) (by omega) ?_
    refine hc _ hct (zs, I.2) H locs ls lv' vs ks wp (fun k hk => ?_) a9.2.2 a9.2.1 z4 z5 z6 z3 a6 a7 a8 a10 (fun mx hmx => ?_)
    · obtain ⟨y, y1, y2⟩ := z2 k hk
      show zs[k]? = I0.1[k]?
      rw [y1]
      have hl : k < I0.1.length := by omega
      have h3 := a9.at (List.getElem?_eq_getElem hl)
      rw [y2] at h3
      rw [h3]
      exact (List.getElem?_eq_getElem hl).symm
    · have h3 := g_meas_ok h0 a4.2.1 a4.2.2.2 z1 g5 mx hmx
      rw [hm0 mx hmx I a9] at h3
      exact h3
  · cases hg
set_option maxHeartbeats 2000000 in
theorem f_sound {G : GT} {lim np : Nat} {m0 : Option MEt} {cuts : List CUt'} {marks : List (Nat × Nat × Nat)} {cls : List (Nat × List Nat)} {wr : WR} (hP : POK2 G.2.1 G.2.2.1 OW) (hEW : EWOK EW) (h0 : FP0 FP) (hFP : FPOK G.1 FP) (hSU : SUOK G.1) (hHK : HKOK G.1 FP cy G.2.2.2.2.2.1) (hOX : OXOK G.1 FP OW EW D cy l G.2.2.2.2.2.2)
    (hSP : ∀ (i : Nat) (sp : SPt), i < lim → G.2.2.2.2.1[i]? = some sp → SPOK G.1 FP EW D cy l G.2.1 sp) : ∀ (fuel : Nat) (tp : Bool) (sk : Nat) (rm : RMt) (M : MT) (suf : List INS) (S : SB) (outs : List OUB), f_run G lim wr np m0 cuts marks cls fuel tp sk rm M suf S = some outs → (∀ q ∈ suf, decode (mC M) q.1 = .ok (q.2.2.1, q.2.2.2)) →
    ∀ (I0 : IN) (ks0 : List Nat) (wp0 : va_W) (own : String) (p : Program) (e : Env) (R : Room) (s : State) (m : MethodId) (args : Array Value) (below : List Frame) (meth : Method) (c : Code) (A : Nat → Prop) (Q : State → Prop) (cb sb : Nat), Cx OW EW D cy I0.2.2 M own p R s m args meth c A rm cb sb →
      RetOK2 G.1 FP D cy I0 ks0 wp0 wr M p l e R s m args below meth c A Q rm cb sb outs →
      (tp = true → np ≤ I0.1.length ∧ (∀ mm, m0 = some mm → ∀ J : IN, hxt I0 J → m_et J.1 mm.1 mm.2 = m_et I0.1 mm.1 mm.2) ∧ CutOK G.1 FP D cy np m0 I0 ks0 wp0 wr M p l e R s m args below meth c A Q cb sb cuts) →
      Sf G.1 FP D cy I0 ks0 wp0 wr M p l e R s m args below meth c A Q cb sb S := by
  intro fuel
  induction fuel with
  | zero => intro tp sk rm M suf S outs h; cases h
  | succ fuel ih =>
    intro tp sk rm M suf S outs h hsuf I0 ks0 wp0 own p e R s m args below meth c A Q cb sb X hR hcut
    cases suf with
    | nil => simp only [f_run] at h; cases h
    | cons q tl =>
      obtain ⟨pc, tag, ins, len⟩ := q
      simp only [f_run] at h
      split at h
      · rename_i hpc
        have hpc := beq3 hpc
        have hd0 : decode (mC M) pc = .ok (ins, len) := hsuf (pc, tag, ins, len) List.mem_cons_self
        have hd : decode (mC M) S.1 = .ok (ins, len) := by rw [hpc] at hd0; exact hd0
        have hM : ∀ q ∈ mT M, decode (mC M) q.1 = .ok (q.2.2.1, q.2.2.2) := X.2.2.2.2.2.2.2.2.1.1
        have htl : ∀ q ∈ tl, decode (mC M) q.1 = .ok (q.2.2.1, q.2.2.2) := fun q hq => hsuf q (List.mem_cons_of_mem _ hq)
        have go : ∀ S' pc' outs', f_run G lim wr np m0 cuts marks cls fuel tp 0 rm M (e_next M tl pc') S' = some outs' → (∀ o ∈ outs', o ∈ outs) → Sf G.1 FP D cy I0 ks0 wp0 wr M p l e R s m args below meth c A Q cb sb S' := by
          intro S' pc' outs' h1 h2
          exact ih tp 0 rm M _ S' outs' h1 (e_next_in hM htl) I0 ks0 wp0 own p e R s m args below meth c A Q cb sb X (fun o ho => hR o (h2 o ho)) hcut
        split at h
        · -- a cut
          rename_i z9 hmk
          split at h
          · rename_i hany
            have htp : tp = true := by
              cases tp with
              | true => rfl
              | false => cases hmk
            obtain ⟨c1, c2, c3⟩ := hcut htp
            exact s_cut h0 c1 c2 hany c3
          · cases h
        · -- a hook
          rename_i k9 hk _ hmk
          split at h
          · rename_i L hL
            intro I H locs ls lv vs ks wp raw a1 a2 a3 a4 a5 a6 a7 a8 a9 a10
            obtain ⟨F', hF', J, j1, j2, j3⟩ := hHK hk S L hL I ks wp lv vs (hap_of a7) a2 a3 a4
            obtain ⟨o1, h2, h3⟩ := g_cat_ok h F' hF'
            refine ih tp (sk + 1) rm M _ _ o1 h2 hsuf I0 ks0 wp0 own p e R s m args below meth c A Q cb sb X (fun o ho => hR o (h3 o ho)) hcut J H locs ls lv vs ks wp raw a1 (a2.xt j1) (a3.xt j1) j3 (a5.xt j1) a6 a7 a8 (a9.tr j1) a10
          · cases h
        · split at h
          · split at h
            · rename_i S' h1
              exact s_mov X h1 hd (go S' S'.1 outs h (fun _ h => h))
            · cases h
          · split at h
            · rename_i x h1
              refine s_bst h0 X h1 hd (fun S' hS' => ?_)
              obtain ⟨o1, h2, h3⟩ := g_cat_ok h S' hS'
              exact go S' S'.1 o1 h2 h3
            · cases h
          · split at h
            · rename_i S' h1
              exact s_hst hFP hSU hP X h1 hd (go S' S'.1 outs h (fun _ h => h))
            · cases h
          · split at h
            · rename_i x h1
              refine s_ari X h1 hd (fun S' hS' => ?_)
              obtain ⟨o1, h2, h3⟩ := g_cat_ok h S' hS'
              exact go S' S'.1 o1 h2 h3
            · cases h
          · -- a call
            split at h
            · rename_i j M' as rest h1
              intro I H locs ls lv vs ks wp raw a1 a2 a3 a4 a5 a6 a7 a8 a9 a10
              have hrw : S.2.2.2.2.1.isNone = true := by
                obtain ⟨pc, lo, st, F, rw0, nc, ns⟩ := S
                unfold f_call at h1
                simp only at h1 ⊢
                split at h1
                · split at h1
                  · split at h1
                    · split at h1
                      · split at h1
                        · split at h1
                          · rename_i q
                            simp only [Bool.and_eq_true] at q
                            exact q.2.2.2.1
                          · cases h1
                        · cases h1
                      · cases h1
                    · cases h1
                  · cases h1
                · cases h1
              have e9 := hraw_none hrw a5
              subst e9
              rw [List.append_nil] at a6 a7
              obtain ⟨vas, vr, b1, b2, b3, mok, tok, ow, b4, -, run⟩ := s_runs hP hEW X h1 hd a1 a3 a4 a6 a7 a8
              have hx10 := X.2.2.2.2.2.2.2.2.2.2
              obtain ⟨x11, x12, x13, x14⟩ := hx10
              have hA : ∀ q, s.heap.size ≤ q → A q := X.2.2.2.2.2.2.2.1
              split at h
              · -- by a contract
                rename_i cs hcs
                split at h
                · rename_i sp σ htry
                  obtain ⟨i, q1, hsp, q2, q3, q4, q5, q6, q7, hall⟩ := g_try_ok htry
                  split at h
                  · rename_i L hL
                    obtain ⟨zs, z1, z2, z3, -, z6⟩ := g_all_ok (lo := []) (lo' := []) (ls := ls) (nL := mL M) (lv := []) h0 a4 ⟨a1.1, a1.2.1, fun _ h => by cases h⟩ trivial b1 hall
                    have hmet := hSP i sp q1 hsp M' (by rw [q2]; exact b3) (zs, I.2) ks wp vas H.size z3 z6
                    have e10 : I.2.2 = I0.2.2 := a9.2.2
                    simp only [e10] at hmet
                    refine s_aft2 hA mok.2.2.2.2.2.2.2.2 (run (pR sp) _ _ _ hmet (by omega) (by omega) (by omega) (by omega)) a7 a8 (fun u r H1 locs1 hpo hrv hP1 hD1 hS1 => ?_)
                    obtain ⟨u1, u2, u3, u4⟩ := hpo
                    obtain ⟨L1, hL1, hL2⟩ := g_cats_ok hL _ u1
                    obtain ⟨qq, hq1, J, hq2, hq3, hq4⟩ := g_aft_ok (u := u) (o := u.2.2.2) hFP hSU a4 z1 z3.2.1.1 u2 u3 u4 hrv hL1
                    obtain ⟨o1, h2, h3⟩ := g_cat_ok h qq (hL2 qq hq1)
                    have hgo := go _ _ o1 h2 h3
                    have hun : Unch wr ks0 wp0 u.2.1 u.2.2.1 := a10.tr u4 (fun κ j hin => by
                      obtain ⟨w, w1, w2, w3, w4⟩ := hin
                      have := List.all_eq_true.mp q7 w w1
                      rw [← w2]
                      exact f_wr_ok this w3 w4)
                    obtain ⟨pc, lo, st, F, rw0, nc, ns⟩ := S
                    obtain ⟨r', F'⟩ := qq
                    have e11 : pc = pc := rfl
                    simp only at hpc
                    subst hpc
                    have := hgo J H1 locs1 ls lv (r.toList ++ vr) u.2.1 u.2.2.1 [] a1 (a2.xt hq2) ?_ hq3 ?_ (by rw [List.append_nil]; exact hP1) (by rw [List.append_nil]; exact hD1) hS1 (a9.tr hq2) hun
                    · simp only [f_aftS, Nat.add_assoc] at this ⊢
                      exact this
                    · simp only [f_aftS]
                      simp only at hq4
                      cases r' with
                      | none => cases r with
                        | none => exact b2.xt hq2
                        | some x => exact absurd hq4 id
                      | some a => cases r with
                        | none => exact absurd hq4 id
                        | some x => exact ⟨hq4, b2.xt hq2⟩
                    · simp only at hrw
                      simp only [f_aftS]
                      cases rw0 with
                      | none => rfl
                      | some x => cases hrw
                  · cases h
                · cases h
              · -- its own walk
                split at h
                · rename_i q
                  simp only [Bool.and_eq_true] at q
                  have q1 := Nat.le_of_ble_eq_true q.1
                  have q2 := Nat.le_of_ble_eq_true q.2.1
                  have q3 := Nat.le_of_ble_eq_true q.2.2.1
                  have q4 := Nat.le_of_ble_eq_true q.2.2.2
                  split at h
                  · rename_i outs2 hrun
                    have hmet := met_of2 (T := G.1) (FP := FP) (D := D) (l := l) (wr := wr) (outs := outs2) (rm' := (rm.1 - 1, 0, 0, rm.2.2.2 - (19 + mL M'))) H.size hEW mok tok ow b1 a4 b4 (fun p' e' s' m' args' below' meth' c' A' Q' X' hR' => ih false 0 _ M' (mT M') _ outs2 hrun X'.2.2.2.2.2.2.2.2.1.1 I ks wp _ p' e' _ s' m' args' below' meth' c' A' Q' 0 0 X' hR' (fun h => by cases h))
                    have e10 : I.2.2 = I0.2.2 := a9.2.2
                    rw [e10] at hmet
                    refine s_aft2 hA mok.2.2.2.2.2.2.2.2 (run _ _ _ _ hmet (by show rm.1 - 1 + 1 ≤ _; omega) (by show 8 + (mL M' + 11) + (rm.2.2.2 - (19 + mL M')) ≤ _; omega) (by show cb + S.2.2.2.2.2.1 + 0 ≤ _; omega) (by show sb + S.2.2.2.2.2.2 + 0 ≤ _; omega)) a7 a8 (fun u r H1 locs1 hpo hrv hP1 hD1 hS1 => ?_)
                    obtain ⟨u1, u2, u3, u4⟩ := hpo
                    obtain ⟨o1, h2, h3⟩ := g_cat_ok h u.2.2.2 u1
                    have hgo := go _ _ o1 h2 h3
                    have hun : Unch wr ks0 wp0 u.2.1 u.2.2.1 := a10.tr u4 (fun _ _ h => h)
                    obtain ⟨Iu, ku, wu, ru, Fu⟩ := u
                    obtain ⟨pc, lo, st, F, rw0, nc, ns⟩ := S
                    simp only at hpc hrv u2 u3 hrw
                    subst hpc
                    have := hgo Iu H1 locs1 ls lv (r.toList ++ vr) ku wu [] a1 (a2.xt u2) ?_ u3 ?_ (by rw [List.append_nil]; exact hP1) (by rw [List.append_nil]; exact hD1) hS1 (a9.tr u2) hun
                    · simp only [f_aftS, Nat.add_assoc] at this ⊢
                      exact this
                    · simp only [f_aftS]
                      cases ru with
                      | none => cases r with
                        | none => exact b2.xt u2
                        | some x => exact absurd hrv id
                      | some a => cases r with
                        | none => exact absurd hrv id
                        | some x => exact ⟨hrv, b2.xt u2⟩
                    · simp only [f_aftS]
                      cases rw0 with
                      | none => rfl
                      | some x => cases hrw
                  · cases h
                · cases h
            · cases h
          · split at h
            · rename_i r h1
              cases h
              exact s_ret2 h1 hd List.mem_cons_self hR
            · cases h
          · split at h
            · rename_i x h1
              refine hOX M wr rm S ins len x h1 I0 ks0 wp0 own p e R s m args below meth c A Q cb sb X hd (fun S' hS' => ?_)
              obtain ⟨o1, h2, h3⟩ := g_cat_ok h S' hS'
              exact go S' S'.1 o1 h2 h3
            · cases h
      · cases h
end BSOUND
end
section
/-! a spec that is checked is a contract -/
def f_chkA (G : GT) (i fuel : Nat) (sp : SPt) : Bool := f_chk0 G i fuel sp && ((pC sp).all (f_chkC G i fuel sp) && (match G.2.1[pM sp]? with | some M => Nat.ble (f_ctg (pA sp)) (mL M) | none => false))
/-- the first names agree -/
def hag (np : Nat) (I I1 : IN) : Prop := (∀ k, k < np → I1.1[k]? = I.1[k]?) ∧ I1.2.2 = I.2.2 ∧ ∃ m2, I1.2.1 = I.2.1 ++ m2
section BSPEC
variable {T : TBt} {FP : Nat → CUt → List Int → Prop} {OW : List String} {EW : EWt} {D : va_G} {cy : Nat → ClassId} {l : Launch}
theorem hag.xt {np : Nat} {I I1 I2 : IN} (hl : I.1.length = np) (h : hag np I I1) (hx : hxt I1 I2) : hag np I I2 := by
  obtain ⟨h1, h2, m2, h3⟩ := h
  have hx0 := hx
  obtain ⟨-, ⟨m4, h4⟩, h5⟩ := hx
  refine ⟨fun k hk => ?_, by rw [h5, h2], m2 ++ m4, by rw [h4, h3, List.append_assoc]⟩
  have e1 : I.1[k]? = some (I.1[k]'(by omega)) := List.getElem?_eq_getElem (by omega)
  have e2 := h1 k hk
  rw [e1] at e2 ⊢
  exact hx0.at e2
theorem hag.hx {np : Nat} {I I1 : IN} (hl : I.1.length = np) (h : hag np I I1) : hxt I I1 := by
  obtain ⟨h1, h2, h3⟩ := h
  refine ⟨⟨I1.1.drop np, ?_⟩, h3, h2⟩
  have e0 : I1.1 = I1.1.take np ++ I1.1.drop np := (List.take_append_drop np I1.1).symm
  have e1 : I1.1.take np = I.1 := by
    apply List.ext_getElem?
    intro k
    rw [List.getElem?_take]
    split
    · rename_i hk
      exact h1 k hk
    · rename_i hk
      rw [List.getElem?_eq_none (by omega)]
  rw [e1] at e0
  exact e0
theorem hag.len {np : Nat} {I I1 : IN} (hl : I.1.length = np) (h : hag np I I1) : np ≤ I1.1.length := by
  obtain ⟨⟨m, hm⟩, -⟩ := h.hx hl
  rw [hm, List.length_append, hl]
  omega
theorem rv2_st {I : IN} {M : MT} {ins : Instr} {r : Option BV} {v : Option Value} (h : RV2 I M ins r v) : hvs I r.toList v.toList := by
  rcases h with ⟨-, a, x, ty, rfl, rfl, g, -⟩ | ⟨-, a, x, rfl, rfl, g, -⟩ | ⟨-, rfl, rfl, -⟩
  · exact ⟨g, trivial⟩
  · exact ⟨g, trivial⟩
  · trivial
theorem rv2_to {I J : IN} {M : MT} {ins : Instr} {r r' : Option BV} {v : Option Value} (h : RV2 I M ins r v) (hs : hvs J r'.toList v.toList) : RV2 J M ins r' v := by
  rcases h with ⟨h1, a, x, ty, rfl, rfl, g, h2⟩ | ⟨h1, a, x, rfl, rfl, g, h2⟩ | ⟨h1, rfl, rfl, h2⟩
  · cases r' with
    | none => exact absurd hs id
    | some b => exact Or.inl ⟨h1, b, x, ty, rfl, rfl, hs.1, h2⟩
  · cases r' with
    | none => exact absurd hs id
    | some b => exact Or.inr (Or.inl ⟨h1, b, x, rfl, rfl, hs.1, h2⟩)
  · cases r' with
    | none => exact Or.inr (Or.inr ⟨h1, rfl, rfl, h2⟩)
    | some b => exact absurd hs id
theorem ret_of {np : Nat} {I I1 : IN} {ks0 : List Nat} {wp0 : va_W} {wr : WR} {M : MT} {p : Program} {e : Env} {R : Room} {s : State} {m : MethodId} {args : Array Value} {below : List Frame} {meth : Method} {c : Code} {A : Nat → Prop} {Q : State → Prop} {rm : RMt} {cb sb : Nat} {outs outs' : List OUB} (h0 : FP0 FP) (hl : I.1.length = np) (hg : hag np I I1)
    (ho : outs.all (fun o => outs'.any (g_out np o)) = true) (hR : RetOK2 T FP D cy I ks0 wp0 wr M p l e R s m args below meth c A Q rm cb sb outs') : RetOK2 T FP D cy I1 ks0 wp0 wr M p l e R s m args below meth c A Q rm cb sb outs := by
  intro o hoo ins pc I2 H locs ls ks wp v hd hv9 hF w2 w3 w4 hx hu
  obtain ⟨o', ho', h2⟩ := List.any_eq_true.mp (List.all_eq_true.mp ho o hoo)
  unfold g_out at h2
  simp only [Bool.and_eq_true] at h2
  obtain ⟨zs, z1, z2, z3, -, z6⟩ := g_all_ok (lo := []) (lo' := []) (lv := []) h0 hF (lv_entry [] (n := 0) (Nat.le_of_ble_eq_true rfl)) trivial (rv2_st hv9) h2.1
  have hg2 : hag np I (zs, I2.2) := by
    have h3 := hg.xt hl hx
    refine ⟨fun k hk => ?_, h3.2.1, h3.2.2⟩
    obtain ⟨y, y1, y2⟩ := z2 k hk
    rw [← h3.1 k hk]
    show zs[k]? = _
    rw [y1, y2]
  exact hR o' ho' ins pc (zs, I2.2) H locs ls ks wp v hd (rv2_to hv9 z6) z3 w2 w3 w4 (hg2.hx hl) hu
set_option maxHeartbeats 1000000 in
theorem sp_ok {G : GT} {i fuel : Nat} {sp : SPt} (hP : POK2 G.2.1 G.2.2.1 OW) (hEW : EWOK EW) (h0 : FP0 FP) (hFP : FPOK G.1 FP) (hSU : SUOK G.1) (hHK : HKOK G.1 FP cy G.2.2.2.2.2.1) (hOX : OXOK G.1 FP OW EW D cy l G.2.2.2.2.2.2)
    (hSP : ∀ (j : Nat) (sp : SPt), j < i → G.2.2.2.2.1[j]? = some sp → SPOK G.1 FP EW D cy l G.2.1 sp) (h : f_chkA G i fuel sp = true) : SPOK G.1 FP EW D cy l G.2.1 sp := by
  intro M' hM' I ks wp vs sz hF hvs9
  unfold f_chkA at h
  simp only [Bool.and_eq_true] at h
  obtain ⟨k0, k1, k2⟩ := h
  rw [hM'] at k2
  obtain ⟨mok, tok, ow⟩ := hP.1 _ _ hM'
  have hl : I.1.length = (pF sp).1 := hF.2.1.1
  refine met_of2 (OW := OW) sz hEW mok tok ow hvs9 hF (Nat.le_of_ble_eq_true k2) (fun p e s m args below meth c A Q X hR => ?_)
  have hX : ∀ I1 : IN, hag (pF sp).1 I I1 → Cx OW EW D cy I1.2.2 M' (mY M').cls p (rmR (pR sp)) s m args meth c A (pR sp) 0 0 := fun I1 h1 => by rw [h1.2.1]; exact X
  have hcut : ∀ (N : Nat), ∀ ct ∈ pC sp, ∀ (I1 : IN) (H : Heap) (locs : List Loc) (ls : Array Slot) (lv : List (Nat × Value)) (vs1 : List Value) (ks1 : List Nat) (wp1 : va_W), hag (pF sp).1 I I1 → lv_has ls (mL M') lv → hlv I1 ct.2.1 lv → hvs I1 ct.2.2.1 vs1 → HS G.1 FP cy I1 ks1 wp1 ct.2.2.2.1 → va_P D vwCl wp1 H → va_D A wp1 → va_S A s.heap H locs → Unch (pW sp) ks wp ks1 wp1 →
      (m_et I1.1 ct.2.2.2.2.2.1 ct.2.2.2.2.2.2).toNat < N → W p l e (rmR (pR sp)) s m args below meth c H locs (0 + ct.2.2.2.2.1.1) (0 + ct.2.2.2.2.1.2) Q (F0 m ct.1 ls vs1) := by
    intro N
    induction N with
    | zero => intro ct hct I1 H locs ls lv vs1 ks1 wp1 _ _ _ _ _ _ _ _ _ hN; omega
    | succ N ih =>
      intro ct hct I1 H locs ls lv vs1 ks1 wp1 b1 b2 b3 b4 b5 b6 b7 b8 b9 hN
      have hc := List.all_eq_true.mp k1 ct hct
      unfold f_chkC at hc
      rw [hM'] at hc
      obtain ⟨pc, lo, st, F, ⟨nc, ns⟩, mm⟩ := ct
      simp only [Bool.and_eq_true] at hc
      obtain ⟨hc1, hc2⟩ := hc
      simp only at b3 b4 b5 hN ⊢
      split at hc1
      · rename_i b hb
        have hb1 := of_decide_eq_true hc1
        split at hc2
        · rename_i outs hrun
          refine f_sound hP hEW h0 hFP hSU hHK hOX hSP fuel true 1 (pR sp) M' _ _ outs hrun (fun q hq => tok.1 q (e_suf_in q hq)) I1 ks wp (mY M').cls p e (rmR (pR sp)) s m args below meth c A Q 0 0 (hX I1 b1) (ret_of h0 hl b1 hc2 hR) (fun _ => ⟨b1.len hl, fun mx hmx J hJ => ?_, ?_⟩) I1 H locs ls lv vs1 ks1 wp1 [] b2 b3 b4 b5 rfl (by rw [List.append_nil]; exact b6) (by rw [List.append_nil]; exact b7) b8 hxt.rf b9
          · cases hmx
            exact m_lb_xt b5.2.1 hJ hb
          · intro ct' hct' I2 H' locs' ls' lv' vs' ks' wp' d1 d2 d3 d4 d5 d6 d7 d8 d9 d10 d11 d12
            have hc' := List.all_eq_true.mp k1 ct' hct'
            unfold f_chkC at hc'
            rw [hM'] at hc'
            obtain ⟨pc', lo', st', F', ⟨nc', ns'⟩, mm'⟩ := ct'
            simp only [Bool.and_eq_true] at hc'
            have hc1' := hc'.1
            split at hc1'
            · rename_i b' hb'
              have hb1' := of_decide_eq_true hc1'
              have hlb := m_lb_ok d7.2.1 hb'
              have hlt := d12 mm rfl
              simp only at hlb hlt
              obtain ⟨m2, hm2⟩ := d3
              obtain ⟨m3, hm3⟩ := b1.2.2
              refine ih _ hct' I2 H' locs' ls' lv' vs' ks' wp' ⟨fun k hk => by rw [d1 k hk]; exact b1.1 k hk, by rw [d2]; exact b1.2.1, m3 ++ m2, by rw [hm2, hm3, List.append_assoc]⟩ d4 d5 d6 d7 d8 d9 d10 d11 ?_
              simp only
              omega
            · cases hc1'
        · cases hc2
      · cases hc1
  unfold f_chk0 at k0
  rw [hM'] at k0
  simp only at k0
  split at k0
  · rename_i outs hrun
    have hg0 : hag (pF sp).1 I I := ⟨fun _ _ => rfl, rfl, [], by simp⟩
    refine f_sound hP hEW h0 hFP hSU hHK hOX hSP fuel true 0 (pR sp) M' _ _ outs hrun tok.1 I ks wp (mY M').cls p e (rmR (pR sp)) s m args below meth c A Q 0 0 X (ret_of h0 hl hg0 k0 hR) (fun _ => ⟨by omega, fun mx hmx => (by cases hmx), ?_⟩)
    intro ct hct I2 H' locs' ls' lv' vs' ks' wp' d1 d2 d3 d4 d5 d6 d7 d8 d9 d10 d11 d12
    exact hcut _ ct hct I2 H' locs' ls' lv' vs' ks' wp' ⟨d1, d2, d3⟩ d4 d5 d6 d7 d8 d9 d10 d11 (Nat.lt_succ_self _)
  · cases k0
end BSPEC
end
