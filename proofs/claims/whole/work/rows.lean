section
-- ===== PART A: goes FIRST, ahead of the names: the tables' words, and 'selects' of the private methods out of them =====
/-- a private method of a class that the tables say can be made, by its rows of tables_1 -/
def lw_okq (q : MethodName × Nat) : Prop := (q.1.cls ≠ "java/lang/invoke/MethodHandle" ∧ q.1.cls ≠ "java/lang/invoke/VarHandle") ∧ Cond.instantiable q.1.cls q.2 ∈ tables_1 ∧ Cond.privateMethod q.1 ∈ tables_1 ∧ Cond.instanceMethod q.1 ∈ tables_1
theorem lw_p0 : lw_okq (⟨"AgingLetters", "found", "(I)I"⟩, 11) := ⟨⟨by decide +kernel, by decide +kernel⟩, List.mem_of_getElem? (i := 13) (by decide +kernel), List.mem_of_getElem? (i := 249) (by decide +kernel), List.mem_of_getElem? (i := 250) (by decide +kernel)⟩
theorem lw_p1 : lw_okq (⟨"AgingLetters", "foundNothing", "(I)I"⟩, 11) := ⟨⟨by decide +kernel, by decide +kernel⟩, List.mem_of_getElem? (i := 13) (by decide +kernel), List.mem_of_getElem? (i := 258) (by decide +kernel), List.mem_of_getElem? (i := 259) (by decide +kernel)⟩
theorem lw_p2 : lw_okq (⟨"AgingLetters$Tape", "readLaw", "(LAgingLetters$Office;)I"⟩, 4) := ⟨⟨by decide +kernel, by decide +kernel⟩, List.mem_of_getElem? (i := 41) (by decide +kernel), List.mem_of_getElem? (i := 327) (by decide +kernel), List.mem_of_getElem? (i := 328) (by decide +kernel)⟩
theorem lw_p3 : lw_okq (⟨"AgingLetters$Tape", "takeSign", "(I)I"⟩, 4) := ⟨⟨by decide +kernel, by decide +kernel⟩, List.mem_of_getElem? (i := 41) (by decide +kernel), List.mem_of_getElem? (i := 331) (by decide +kernel), List.mem_of_getElem? (i := 332) (by decide +kernel)⟩
theorem lw_p4 : lw_okq (⟨"AgingLetters$Tape", "takeNumber", "(II)I"⟩, 4) := ⟨⟨by decide +kernel, by decide +kernel⟩, List.mem_of_getElem? (i := 41) (by decide +kernel), List.mem_of_getElem? (i := 335) (by decide +kernel), List.mem_of_getElem? (i := 336) (by decide +kernel)⟩
theorem lw_p5 : lw_okq (⟨"AgingLetters$Tape", "readReader", "(LAgingLetters$Office;)I"⟩, 4) := ⟨⟨by decide +kernel, by decide +kernel⟩, List.mem_of_getElem? (i := 41) (by decide +kernel), List.mem_of_getElem? (i := 342) (by decide +kernel), List.mem_of_getElem? (i := 343) (by decide +kernel)⟩
theorem lw_p6 : lw_okq (⟨"AgingLetters$Tape", "readLetter", "(LAgingLetters$Office;)I"⟩, 4) := ⟨⟨by decide +kernel, by decide +kernel⟩, List.mem_of_getElem? (i := 41) (by decide +kernel), List.mem_of_getElem? (i := 350) (by decide +kernel), List.mem_of_getElem? (i := 351) (by decide +kernel)⟩
theorem lw_p7 : lw_okq (⟨"AgingLetters$Tape", "kindAtPlace", "()I"⟩, 4) := ⟨⟨by decide +kernel, by decide +kernel⟩, List.mem_of_getElem? (i := 41) (by decide +kernel), List.mem_of_getElem? (i := 354) (by decide +kernel), List.mem_of_getElem? (i := 355) (by decide +kernel)⟩
theorem lw_p8 : lw_okq (⟨"AgingLetters$Acts", "keep", "(III)V"⟩, 9) := ⟨⟨by decide +kernel, by decide +kernel⟩, List.mem_of_getElem? (i := 135) (by decide +kernel), List.mem_of_getElem? (i := 441) (by decide +kernel), List.mem_of_getElem? (i := 442) (by decide +kernel)⟩
theorem lw_p9 : lw_okq (⟨"AgingLetters$Acts", "takeReadingBack", "(LAgingLetters$Office;)V"⟩, 9) := ⟨⟨by decide +kernel, by decide +kernel⟩, List.mem_of_getElem? (i := 135) (by decide +kernel), List.mem_of_getElem? (i := 486) (by decide +kernel), List.mem_of_getElem? (i := 487) (by decide +kernel)⟩
theorem lw_p10 : lw_okq (⟨"AgingLetters", "imageNumbered", "(I)LAgingLetters$Office;"⟩, 11) := ⟨⟨by decide +kernel, by decide +kernel⟩, List.mem_of_getElem? (i := 13) (by decide +kernel), List.mem_of_getElem? (i := 683) (by decide +kernel), List.mem_of_getElem? (i := 684) (by decide +kernel)⟩
theorem lw_p11 : lw_okq (⟨"AgingLetters$Asks", "leaveNumber", "(I)V"⟩, 2) := ⟨⟨by decide +kernel, by decide +kernel⟩, List.mem_of_getElem? (i := 187) (by decide +kernel), List.mem_of_getElem? (i := 720) (by decide +kernel), List.mem_of_getElem? (i := 721) (by decide +kernel)⟩
theorem lw_p12 : lw_okq (⟨"AgingLettersModel", "finds", "(I)I"⟩, 23) := ⟨⟨by decide +kernel, by decide +kernel⟩, List.mem_of_getElem? (i := 748) (by decide +kernel), List.mem_of_getElem? (i := 838) (by decide +kernel), List.mem_of_getElem? (i := 839) (by decide +kernel)⟩
theorem lw_p13 : lw_okq (⟨"AgingLettersModel", "tells", "(I)I"⟩, 23) := ⟨⟨by decide +kernel, by decide +kernel⟩, List.mem_of_getElem? (i := 748) (by decide +kernel), List.mem_of_getElem? (i := 843) (by decide +kernel), List.mem_of_getElem? (i := 844) (by decide +kernel)⟩
theorem lw_p14 : lw_okq (⟨"AgingLettersModel", "takeOffice", "()Z"⟩, 23) := ⟨⟨by decide +kernel, by decide +kernel⟩, List.mem_of_getElem? (i := 748) (by decide +kernel), List.mem_of_getElem? (i := 876) (by decide +kernel), List.mem_of_getElem? (i := 877) (by decide +kernel)⟩
theorem lw_p15 : lw_okq (⟨"AgingLettersModel", "sign", "(I)Z"⟩, 23) := ⟨⟨by decide +kernel, by decide +kernel⟩, List.mem_of_getElem? (i := 748) (by decide +kernel), List.mem_of_getElem? (i := 880) (by decide +kernel), List.mem_of_getElem? (i := 881) (by decide +kernel)⟩
def lw_privs_1 : List (MethodName × Nat) := [(⟨"AgingLetters", "found", "(I)I"⟩, 11), (⟨"AgingLetters", "foundNothing", "(I)I"⟩, 11), (⟨"AgingLetters$Tape", "readLaw", "(LAgingLetters$Office;)I"⟩, 4), (⟨"AgingLetters$Tape", "takeSign", "(I)I"⟩, 4), (⟨"AgingLetters$Tape", "takeNumber", "(II)I"⟩, 4), (⟨"AgingLetters$Tape", "readReader", "(LAgingLetters$Office;)I"⟩, 4), (⟨"AgingLetters$Tape", "readLetter", "(LAgingLetters$Office;)I"⟩, 4), (⟨"AgingLetters$Tape", "kindAtPlace", "()I"⟩, 4), (⟨"AgingLetters$Acts", "keep", "(III)V"⟩, 9), (⟨"AgingLetters$Acts", "takeReadingBack", "(LAgingLetters$Office;)V"⟩, 9), (⟨"AgingLetters", "imageNumbered", "(I)LAgingLetters$Office;"⟩, 11), (⟨"AgingLetters$Asks", "leaveNumber", "(I)V"⟩, 2), (⟨"AgingLettersModel", "finds", "(I)I"⟩, 23), (⟨"AgingLettersModel", "tells", "(I)I"⟩, 23), (⟨"AgingLettersModel", "takeOffice", "()Z"⟩, 23), (⟨"AgingLettersModel", "sign", "(I)Z"⟩, 23)]
theorem lw_r1 : ∀ q ∈ lw_privs_1, lw_okq q := List.forall_mem_cons.mpr ⟨lw_p0, List.forall_mem_cons.mpr ⟨lw_p1, List.forall_mem_cons.mpr ⟨lw_p2, List.forall_mem_cons.mpr ⟨lw_p3, List.forall_mem_cons.mpr ⟨lw_p4, List.forall_mem_cons.mpr ⟨lw_p5, List.forall_mem_cons.mpr ⟨lw_p6, List.forall_mem_cons.mpr ⟨lw_p7, List.forall_mem_cons.mpr ⟨lw_p8, List.forall_mem_cons.mpr ⟨lw_p9, List.forall_mem_cons.mpr ⟨lw_p10, List.forall_mem_cons.mpr ⟨lw_p11, List.forall_mem_cons.mpr ⟨lw_p12, List.forall_mem_cons.mpr ⟨lw_p13, List.forall_mem_cons.mpr ⟨lw_p14, List.forall_mem_cons.mpr ⟨lw_p15, fun _ h => absurd h List.not_mem_nil⟩⟩⟩⟩⟩⟩⟩⟩⟩⟩⟩⟩⟩⟩⟩⟩
theorem lw_p16 : lw_okq (⟨"AgingLettersModel", "here", "()I"⟩, 23) := ⟨⟨by decide +kernel, by decide +kernel⟩, List.mem_of_getElem? (i := 748) (by decide +kernel), List.mem_of_getElem? (i := 884) (by decide +kernel), List.mem_of_getElem? (i := 885) (by decide +kernel)⟩
theorem lw_p17 : lw_okq (⟨"AgingLettersModel", "fails", "(II)Z"⟩, 23) := ⟨⟨by decide +kernel, by decide +kernel⟩, List.mem_of_getElem? (i := 748) (by decide +kernel), List.mem_of_getElem? (i := 888) (by decide +kernel), List.mem_of_getElem? (i := 889) (by decide +kernel)⟩
theorem lw_p18 : lw_okq (⟨"AgingLettersModel", "into", "(III)Z"⟩, 23) := ⟨⟨by decide +kernel, by decide +kernel⟩, List.mem_of_getElem? (i := 748) (by decide +kernel), List.mem_of_getElem? (i := 892) (by decide +kernel), List.mem_of_getElem? (i := 893) (by decide +kernel)⟩
theorem lw_p19 : lw_okq (⟨"AgingLettersModel", "takeNumber", "(II)Z"⟩, 23) := ⟨⟨by decide +kernel, by decide +kernel⟩, List.mem_of_getElem? (i := 748) (by decide +kernel), List.mem_of_getElem? (i := 896) (by decide +kernel), List.mem_of_getElem? (i := 897) (by decide +kernel)⟩
theorem lw_p20 : lw_okq (⟨"AgingLettersModel", "takeNext", "()Z"⟩, 23) := ⟨⟨by decide +kernel, by decide +kernel⟩, List.mem_of_getElem? (i := 748) (by decide +kernel), List.mem_of_getElem? (i := 902) (by decide +kernel), List.mem_of_getElem? (i := 903) (by decide +kernel)⟩
theorem lw_p21 : lw_okq (⟨"AgingLettersModel", "takeReader", "()Z"⟩, 23) := ⟨⟨by decide +kernel, by decide +kernel⟩, List.mem_of_getElem? (i := 748) (by decide +kernel), List.mem_of_getElem? (i := 906) (by decide +kernel), List.mem_of_getElem? (i := 907) (by decide +kernel)⟩
theorem lw_p22 : lw_okq (⟨"AgingLettersModel", "takeLetter", "()Z"⟩, 23) := ⟨⟨by decide +kernel, by decide +kernel⟩, List.mem_of_getElem? (i := 748) (by decide +kernel), List.mem_of_getElem? (i := 913) (by decide +kernel), List.mem_of_getElem? (i := 914) (by decide +kernel)⟩
theorem lw_p23 : lw_okq (⟨"AgingLettersModel", "readers", "()I"⟩, 23) := ⟨⟨by decide +kernel, by decide +kernel⟩, List.mem_of_getElem? (i := 748) (by decide +kernel), List.mem_of_getElem? (i := 918) (by decide +kernel), List.mem_of_getElem? (i := 919) (by decide +kernel)⟩
theorem lw_p24 : lw_okq (⟨"AgingLettersModel", "isReader", "(I)Z"⟩, 23) := ⟨⟨by decide +kernel, by decide +kernel⟩, List.mem_of_getElem? (i := 748) (by decide +kernel), List.mem_of_getElem? (i := 930) (by decide +kernel), List.mem_of_getElem? (i := 931) (by decide +kernel)⟩
theorem lw_p25 : lw_okq (⟨"AgingLettersModel", "isLetter", "(I)Z"⟩, 23) := ⟨⟨by decide +kernel, by decide +kernel⟩, List.mem_of_getElem? (i := 748) (by decide +kernel), List.mem_of_getElem? (i := 934) (by decide +kernel), List.mem_of_getElem? (i := 935) (by decide +kernel)⟩
theorem lw_p26 : lw_okq (⟨"AgingLettersModel", "letters", "()I"⟩, 23) := ⟨⟨by decide +kernel, by decide +kernel⟩, List.mem_of_getElem? (i := 748) (by decide +kernel), List.mem_of_getElem? (i := 938) (by decide +kernel), List.mem_of_getElem? (i := 939) (by decide +kernel)⟩
theorem lw_p27 : lw_okq (⟨"AgingLettersModel", "isFit", "(I)Z"⟩, 23) := ⟨⟨by decide +kernel, by decide +kernel⟩, List.mem_of_getElem? (i := 748) (by decide +kernel), List.mem_of_getElem? (i := 942) (by decide +kernel), List.mem_of_getElem? (i := 943) (by decide +kernel)⟩
theorem lw_p28 : lw_okq (⟨"AgingLettersModel", "isAlive", "(I)Z"⟩, 23) := ⟨⟨by decide +kernel, by decide +kernel⟩, List.mem_of_getElem? (i := 748) (by decide +kernel), List.mem_of_getElem? (i := 946) (by decide +kernel), List.mem_of_getElem? (i := 947) (by decide +kernel)⟩
theorem lw_p29 : lw_okq (⟨"AgingLettersModel", "age", "(I)I"⟩, 23) := ⟨⟨by decide +kernel, by decide +kernel⟩, List.mem_of_getElem? (i := 748) (by decide +kernel), List.mem_of_getElem? (i := 950) (by decide +kernel), List.mem_of_getElem? (i := 951) (by decide +kernel)⟩
theorem lw_p30 : lw_okq (⟨"AgingLettersModel", "span", "(I)I"⟩, 23) := ⟨⟨by decide +kernel, by decide +kernel⟩, List.mem_of_getElem? (i := 748) (by decide +kernel), List.mem_of_getElem? (i := 954) (by decide +kernel), List.mem_of_getElem? (i := 955) (by decide +kernel)⟩
theorem lw_p31 : lw_okq (⟨"AgingLettersModel", "remember", "()V"⟩, 23) := ⟨⟨by decide +kernel, by decide +kernel⟩, List.mem_of_getElem? (i := 748) (by decide +kernel), List.mem_of_getElem? (i := 959) (by decide +kernel), List.mem_of_getElem? (i := 960) (by decide +kernel)⟩
def lw_privs_2 : List (MethodName × Nat) := [(⟨"AgingLettersModel", "here", "()I"⟩, 23), (⟨"AgingLettersModel", "fails", "(II)Z"⟩, 23), (⟨"AgingLettersModel", "into", "(III)Z"⟩, 23), (⟨"AgingLettersModel", "takeNumber", "(II)Z"⟩, 23), (⟨"AgingLettersModel", "takeNext", "()Z"⟩, 23), (⟨"AgingLettersModel", "takeReader", "()Z"⟩, 23), (⟨"AgingLettersModel", "takeLetter", "()Z"⟩, 23), (⟨"AgingLettersModel", "readers", "()I"⟩, 23), (⟨"AgingLettersModel", "isReader", "(I)Z"⟩, 23), (⟨"AgingLettersModel", "isLetter", "(I)Z"⟩, 23), (⟨"AgingLettersModel", "letters", "()I"⟩, 23), (⟨"AgingLettersModel", "isFit", "(I)Z"⟩, 23), (⟨"AgingLettersModel", "isAlive", "(I)Z"⟩, 23), (⟨"AgingLettersModel", "age", "(I)I"⟩, 23), (⟨"AgingLettersModel", "span", "(I)I"⟩, 23), (⟨"AgingLettersModel", "remember", "()V"⟩, 23)]
theorem lw_r2 : ∀ q ∈ lw_privs_2, lw_okq q := List.forall_mem_cons.mpr ⟨lw_p16, List.forall_mem_cons.mpr ⟨lw_p17, List.forall_mem_cons.mpr ⟨lw_p18, List.forall_mem_cons.mpr ⟨lw_p19, List.forall_mem_cons.mpr ⟨lw_p20, List.forall_mem_cons.mpr ⟨lw_p21, List.forall_mem_cons.mpr ⟨lw_p22, List.forall_mem_cons.mpr ⟨lw_p23, List.forall_mem_cons.mpr ⟨lw_p24, List.forall_mem_cons.mpr ⟨lw_p25, List.forall_mem_cons.mpr ⟨lw_p26, List.forall_mem_cons.mpr ⟨lw_p27, List.forall_mem_cons.mpr ⟨lw_p28, List.forall_mem_cons.mpr ⟨lw_p29, List.forall_mem_cons.mpr ⟨lw_p30, List.forall_mem_cons.mpr ⟨lw_p31, fun _ h => absurd h List.not_mem_nil⟩⟩⟩⟩⟩⟩⟩⟩⟩⟩⟩⟩⟩⟩⟩⟩
theorem lw_p32 : lw_okq (⟨"AgingLettersModel", "putInto", "([II)V"⟩, 23) := ⟨⟨by decide +kernel, by decide +kernel⟩, List.mem_of_getElem? (i := 748) (by decide +kernel), List.mem_of_getElem? (i := 963) (by decide +kernel), List.mem_of_getElem? (i := 964) (by decide +kernel)⟩
theorem lw_p33 : lw_okq (⟨"AgingLettersModel", "cost", "(II)I"⟩, 23) := ⟨⟨by decide +kernel, by decide +kernel⟩, List.mem_of_getElem? (i := 748) (by decide +kernel), List.mem_of_getElem? (i := 967) (by decide +kernel), List.mem_of_getElem? (i := 968) (by decide +kernel)⟩
theorem lw_p34 : lw_okq (⟨"AgingLettersModel", "costBy", "(III)I"⟩, 23) := ⟨⟨by decide +kernel, by decide +kernel⟩, List.mem_of_getElem? (i := 748) (by decide +kernel), List.mem_of_getElem? (i := 971) (by decide +kernel), List.mem_of_getElem? (i := 972) (by decide +kernel)⟩
theorem lw_p35 : lw_okq (⟨"AgingLettersModel", "sort", "(I)I"⟩, 23) := ⟨⟨by decide +kernel, by decide +kernel⟩, List.mem_of_getElem? (i := 748) (by decide +kernel), List.mem_of_getElem? (i := 975) (by decide +kernel), List.mem_of_getElem? (i := 976) (by decide +kernel)⟩
theorem lw_p36 : lw_okq (⟨"AgingLettersModel", "readBy", "(II)I"⟩, 23) := ⟨⟨by decide +kernel, by decide +kernel⟩, List.mem_of_getElem? (i := 748) (by decide +kernel), List.mem_of_getElem? (i := 985) (by decide +kernel), List.mem_of_getElem? (i := 986) (by decide +kernel)⟩
theorem lw_p37 : lw_okq (⟨"AgingLettersModel", "readNow", "(III)V"⟩, 23) := ⟨⟨by decide +kernel, by decide +kernel⟩, List.mem_of_getElem? (i := 748) (by decide +kernel), List.mem_of_getElem? (i := 989) (by decide +kernel), List.mem_of_getElem? (i := 990) (by decide +kernel)⟩
theorem lw_p38 : lw_okq (⟨"AgingLettersModel", "alive", "()I"⟩, 23) := ⟨⟨by decide +kernel, by decide +kernel⟩, List.mem_of_getElem? (i := 748) (by decide +kernel), List.mem_of_getElem? (i := 1000) (by decide +kernel), List.mem_of_getElem? (i := 1001) (by decide +kernel)⟩
theorem lw_p39 : lw_okq (⟨"AgingLettersModel", "takeFrom", "([II)V"⟩, 23) := ⟨⟨by decide +kernel, by decide +kernel⟩, List.mem_of_getElem? (i := 748) (by decide +kernel), List.mem_of_getElem? (i := 1017) (by decide +kernel), List.mem_of_getElem? (i := 1018) (by decide +kernel)⟩
theorem lw_p40 : lw_okq (⟨"AgingLettersModel", "hasRead", "(I)I"⟩, 23) := ⟨⟨by decide +kernel, by decide +kernel⟩, List.mem_of_getElem? (i := 748) (by decide +kernel), List.mem_of_getElem? (i := 1025) (by decide +kernel), List.mem_of_getElem? (i := 1026) (by decide +kernel)⟩
theorem lw_p41 : lw_okq (⟨"AgingLettersModel", "readOf", "(I)I"⟩, 23) := ⟨⟨by decide +kernel, by decide +kernel⟩, List.mem_of_getElem? (i := 748) (by decide +kernel), List.mem_of_getElem? (i := 1034) (by decide +kernel), List.mem_of_getElem? (i := 1035) (by decide +kernel)⟩
theorem lw_p42 : lw_okq (⟨"AgingLettersModel", "whoRead", "(I)I"⟩, 23) := ⟨⟨by decide +kernel, by decide +kernel⟩, List.mem_of_getElem? (i := 748) (by decide +kernel), List.mem_of_getElem? (i := 1038) (by decide +kernel), List.mem_of_getElem? (i := 1039) (by decide +kernel)⟩
theorem lw_p43 : lw_okq (⟨"AgingLettersModel", "unread", "()I"⟩, 23) := ⟨⟨by decide +kernel, by decide +kernel⟩, List.mem_of_getElem? (i := 748) (by decide +kernel), List.mem_of_getElem? (i := 1055) (by decide +kernel), List.mem_of_getElem? (i := 1056) (by decide +kernel)⟩
theorem lw_p44 : lw_okq (⟨"AgingLettersModel", "spentBy", "(I)I"⟩, 23) := ⟨⟨by decide +kernel, by decide +kernel⟩, List.mem_of_getElem? (i := 748) (by decide +kernel), List.mem_of_getElem? (i := 1063) (by decide +kernel), List.mem_of_getElem? (i := 1064) (by decide +kernel)⟩
theorem lw_p45 : lw_okq (⟨"AgingLettersModel", "aloudBy", "(II)I"⟩, 23) := ⟨⟨by decide +kernel, by decide +kernel⟩, List.mem_of_getElem? (i := 748) (by decide +kernel), List.mem_of_getElem? (i := 1071) (by decide +kernel), List.mem_of_getElem? (i := 1072) (by decide +kernel)⟩
theorem lw_p46 : lw_okq (⟨"AgingLettersModel", "costAll", "(II)I"⟩, 23) := ⟨⟨by decide +kernel, by decide +kernel⟩, List.mem_of_getElem? (i := 748) (by decide +kernel), List.mem_of_getElem? (i := 1083) (by decide +kernel), List.mem_of_getElem? (i := 1084) (by decide +kernel)⟩
theorem lw_p47 : lw_okq (⟨"AgingLettersModel", "firstAll", "(I)I"⟩, 23) := ⟨⟨by decide +kernel, by decide +kernel⟩, List.mem_of_getElem? (i := 748) (by decide +kernel), List.mem_of_getElem? (i := 1105) (by decide +kernel), List.mem_of_getElem? (i := 1106) (by decide +kernel)⟩
def lw_privs_3 : List (MethodName × Nat) := [(⟨"AgingLettersModel", "putInto", "([II)V"⟩, 23), (⟨"AgingLettersModel", "cost", "(II)I"⟩, 23), (⟨"AgingLettersModel", "costBy", "(III)I"⟩, 23), (⟨"AgingLettersModel", "sort", "(I)I"⟩, 23), (⟨"AgingLettersModel", "readBy", "(II)I"⟩, 23), (⟨"AgingLettersModel", "readNow", "(III)V"⟩, 23), (⟨"AgingLettersModel", "alive", "()I"⟩, 23), (⟨"AgingLettersModel", "takeFrom", "([II)V"⟩, 23), (⟨"AgingLettersModel", "hasRead", "(I)I"⟩, 23), (⟨"AgingLettersModel", "readOf", "(I)I"⟩, 23), (⟨"AgingLettersModel", "whoRead", "(I)I"⟩, 23), (⟨"AgingLettersModel", "unread", "()I"⟩, 23), (⟨"AgingLettersModel", "spentBy", "(I)I"⟩, 23), (⟨"AgingLettersModel", "aloudBy", "(II)I"⟩, 23), (⟨"AgingLettersModel", "costAll", "(II)I"⟩, 23), (⟨"AgingLettersModel", "firstAll", "(I)I"⟩, 23)]
theorem lw_r3 : ∀ q ∈ lw_privs_3, lw_okq q := List.forall_mem_cons.mpr ⟨lw_p32, List.forall_mem_cons.mpr ⟨lw_p33, List.forall_mem_cons.mpr ⟨lw_p34, List.forall_mem_cons.mpr ⟨lw_p35, List.forall_mem_cons.mpr ⟨lw_p36, List.forall_mem_cons.mpr ⟨lw_p37, List.forall_mem_cons.mpr ⟨lw_p38, List.forall_mem_cons.mpr ⟨lw_p39, List.forall_mem_cons.mpr ⟨lw_p40, List.forall_mem_cons.mpr ⟨lw_p41, List.forall_mem_cons.mpr ⟨lw_p42, List.forall_mem_cons.mpr ⟨lw_p43, List.forall_mem_cons.mpr ⟨lw_p44, List.forall_mem_cons.mpr ⟨lw_p45, List.forall_mem_cons.mpr ⟨lw_p46, List.forall_mem_cons.mpr ⟨lw_p47, fun _ h => absurd h List.not_mem_nil⟩⟩⟩⟩⟩⟩⟩⟩⟩⟩⟩⟩⟩⟩⟩⟩
theorem lw_p48 : lw_okq (⟨"AgingLettersModel", "readOn", "(I)V"⟩, 23) := ⟨⟨by decide +kernel, by decide +kernel⟩, List.mem_of_getElem? (i := 748) (by decide +kernel), List.mem_of_getElem? (i := 1114) (by decide +kernel), List.mem_of_getElem? (i := 1115) (by decide +kernel)⟩
theorem lw_p49 : lw_okq (⟨"AgingLettersModel", "isOf", "(II)Z"⟩, 23) := ⟨⟨by decide +kernel, by decide +kernel⟩, List.mem_of_getElem? (i := 748) (by decide +kernel), List.mem_of_getElem? (i := 1140) (by decide +kernel), List.mem_of_getElem? (i := 1141) (by decide +kernel)⟩
theorem lw_p50 : lw_okq (⟨"AgingLettersModel", "sizeOf", "(I)I"⟩, 23) := ⟨⟨by decide +kernel, by decide +kernel⟩, List.mem_of_getElem? (i := 748) (by decide +kernel), List.mem_of_getElem? (i := 1148) (by decide +kernel), List.mem_of_getElem? (i := 1149) (by decide +kernel)⟩
theorem lw_p51 : lw_okq (⟨"AgingLettersModel", "sizeOfSums", "(I)I"⟩, 23) := ⟨⟨by decide +kernel, by decide +kernel⟩, List.mem_of_getElem? (i := 748) (by decide +kernel), List.mem_of_getElem? (i := 1152) (by decide +kernel), List.mem_of_getElem? (i := 1153) (by decide +kernel)⟩
theorem lw_p52 : lw_okq (⟨"AgingLettersModel", "leave", "(I)V"⟩, 23) := ⟨⟨by decide +kernel, by decide +kernel⟩, List.mem_of_getElem? (i := 748) (by decide +kernel), List.mem_of_getElem? (i := 1156) (by decide +kernel), List.mem_of_getElem? (i := 1157) (by decide +kernel)⟩
theorem lw_p53 : lw_okq (⟨"AgingLettersModel", "sizeOfFigures", "(I)I"⟩, 23) := ⟨⟨by decide +kernel, by decide +kernel⟩, List.mem_of_getElem? (i := 748) (by decide +kernel), List.mem_of_getElem? (i := 1160) (by decide +kernel), List.mem_of_getElem? (i := 1161) (by decide +kernel)⟩
theorem lw_p54 : lw_okq (⟨"AgingLettersModel", "sizeLent", "(I)I"⟩, 23) := ⟨⟨by decide +kernel, by decide +kernel⟩, List.mem_of_getElem? (i := 748) (by decide +kernel), List.mem_of_getElem? (i := 1164) (by decide +kernel), List.mem_of_getElem? (i := 1165) (by decide +kernel)⟩
theorem lw_p55 : lw_okq (⟨"AgingLettersModel", "sizeOfProse", "(I)I"⟩, 23) := ⟨⟨by decide +kernel, by decide +kernel⟩, List.mem_of_getElem? (i := 748) (by decide +kernel), List.mem_of_getElem? (i := 1168) (by decide +kernel), List.mem_of_getElem? (i := 1169) (by decide +kernel)⟩
theorem lw_p56 : lw_okq (⟨"AgingLettersModel", "markOf", "(I)I"⟩, 23) := ⟨⟨by decide +kernel, by decide +kernel⟩, List.mem_of_getElem? (i := 748) (by decide +kernel), List.mem_of_getElem? (i := 1172) (by decide +kernel), List.mem_of_getElem? (i := 1173) (by decide +kernel)⟩
theorem lw_p57 : lw_okq (⟨"AgingLettersModel", "markLent", "(I)I"⟩, 23) := ⟨⟨by decide +kernel, by decide +kernel⟩, List.mem_of_getElem? (i := 748) (by decide +kernel), List.mem_of_getElem? (i := 1176) (by decide +kernel), List.mem_of_getElem? (i := 1177) (by decide +kernel)⟩
theorem lw_p58 : lw_okq (⟨"AgingLettersModel", "markOfProse", "(I)I"⟩, 23) := ⟨⟨by decide +kernel, by decide +kernel⟩, List.mem_of_getElem? (i := 748) (by decide +kernel), List.mem_of_getElem? (i := 1180) (by decide +kernel), List.mem_of_getElem? (i := 1181) (by decide +kernel)⟩
theorem lw_p59 : lw_okq (⟨"AgingLettersModel", "fit", "()I"⟩, 23) := ⟨⟨by decide +kernel, by decide +kernel⟩, List.mem_of_getElem? (i := 748) (by decide +kernel), List.mem_of_getElem? (i := 1192) (by decide +kernel), List.mem_of_getElem? (i := 1193) (by decide +kernel)⟩
def lw_privs_4 : List (MethodName × Nat) := [(⟨"AgingLettersModel", "readOn", "(I)V"⟩, 23), (⟨"AgingLettersModel", "isOf", "(II)Z"⟩, 23), (⟨"AgingLettersModel", "sizeOf", "(I)I"⟩, 23), (⟨"AgingLettersModel", "sizeOfSums", "(I)I"⟩, 23), (⟨"AgingLettersModel", "leave", "(I)V"⟩, 23), (⟨"AgingLettersModel", "sizeOfFigures", "(I)I"⟩, 23), (⟨"AgingLettersModel", "sizeLent", "(I)I"⟩, 23), (⟨"AgingLettersModel", "sizeOfProse", "(I)I"⟩, 23), (⟨"AgingLettersModel", "markOf", "(I)I"⟩, 23), (⟨"AgingLettersModel", "markLent", "(I)I"⟩, 23), (⟨"AgingLettersModel", "markOfProse", "(I)I"⟩, 23), (⟨"AgingLettersModel", "fit", "()I"⟩, 23)]
theorem lw_r4 : ∀ q ∈ lw_privs_4, lw_okq q := List.forall_mem_cons.mpr ⟨lw_p48, List.forall_mem_cons.mpr ⟨lw_p49, List.forall_mem_cons.mpr ⟨lw_p50, List.forall_mem_cons.mpr ⟨lw_p51, List.forall_mem_cons.mpr ⟨lw_p52, List.forall_mem_cons.mpr ⟨lw_p53, List.forall_mem_cons.mpr ⟨lw_p54, List.forall_mem_cons.mpr ⟨lw_p55, List.forall_mem_cons.mpr ⟨lw_p56, List.forall_mem_cons.mpr ⟨lw_p57, List.forall_mem_cons.mpr ⟨lw_p58, List.forall_mem_cons.mpr ⟨lw_p59, fun _ h => absurd h List.not_mem_nil⟩⟩⟩⟩⟩⟩⟩⟩⟩⟩⟩⟩
def lw_privs : List (MethodName × Nat) := lw_privs_1 ++ (lw_privs_2 ++ (lw_privs_3 ++ (lw_privs_4)))
def lw_tbl : List Cond := k2_sels lw_privs ++ tables_1
theorem lw_privs_ok : ∀ q ∈ lw_privs, lw_okq q := by
  show ∀ q ∈ lw_privs_1 ++ (lw_privs_2 ++ (lw_privs_3 ++ (lw_privs_4))), lw_okq q
  exact List.forall_mem_append.mpr ⟨lw_r1, List.forall_mem_append.mpr ⟨lw_r2, List.forall_mem_append.mpr ⟨lw_r3, lw_r4⟩⟩⟩
end
section
def RX0 : String := "AgingLetters$Acts"
def TX0 : u_T := fun k => match k with
  | 0 => ("AgingLetters$Acts", "sorts", "[I", true)
  | 1 => ("AgingLetters$Acts", "readers", "[I", true)
  | 2 => ("AgingLetters$Acts", "letters", "[I", true)
  | 3 => ("AgingLetters$Acts", "amounts", "[I", true)
  | 4 => ("AgingLetters$Acts", "timesMore", "[I", true)
  | 5 => ("AgingLetters$Acts", "listeners", "[I", true)
  | 6 => ("AgingLetters$Acts", "newListeners", "[I", true)
  | 7 => ("AgingLetters$Acts", "next", "I", false)
  | _ => ("AgingLetters$Acts", "kept", "I", false)
def tyX0 : Nat → FieldType := fun k => match k with
  | 0 => .array .int
  | 1 => .array .int
  | 2 => .array .int
  | 3 => .array .int
  | 4 => .array .int
  | 5 => .array .int
  | 6 => .array .int
  | 7 => .int
  | _ => .int
abbrev wsX00 : List Cond := u_ws RX0 TX0 9
theorem nmX0 : ∀ a, a < 9 → ∀ b, b < 9 → a ≠ b → (TX0 a).2.1 ≠ (TX0 b).2.1 := by decide +kernel
theorem tyX0_ok : ∀ k, k < 9 → parseFieldDescriptor (TX0 k).2.2.1 = some (tyX0 k) := by decide +kernel
abbrev cX0_init : ByteArray := prog_2_method_1_code
def yX0_init : MethodName := ⟨RX0, "<init>", "()V"⟩
abbrev cX0_forgetAll : ByteArray := prog_2_method_2_code
def yX0_forgetAll : MethodName := ⟨RX0, "forgetAll", "()V"⟩
abbrev cX0_letRead : ByteArray := prog_2_method_3_code
def yX0_letRead : MethodName := ⟨RX0, "letRead", "(LAgingLetters$Office;III)V"⟩
abbrev cX0_letHear : ByteArray := prog_2_method_4_code
def yX0_letHear : MethodName := ⟨RX0, "letHear", "(LAgingLetters$Office;III)I"⟩
abbrev cX0_letCross : ByteArray := prog_2_method_5_code
def yX0_letCross : MethodName := ⟨RX0, "letCross", "(LAgingLetters$Office;II)V"⟩
abbrev cX0_letDayGo : ByteArray := prog_2_method_6_code
def yX0_letDayGo : MethodName := ⟨RX0, "letDayGo", "(LAgingLetters$Office;)V"⟩
abbrev cX0_moveDay : ByteArray := prog_2_method_7_code
def yX0_moveDay : MethodName := ⟨RX0, "moveDay", "(LAgingLetters$Office;I)V"⟩
abbrev cX0_keep : ByteArray := prog_2_method_8_code
def yX0_keep : MethodName := ⟨RX0, "keep", "(III)V"⟩
abbrev cX0_takeBack : ByteArray := prog_2_method_9_code
def yX0_takeBack : MethodName := ⟨RX0, "takeBack", "(LAgingLetters$Office;)V"⟩
abbrev cX0_takeReadingBack : ByteArray := prog_2_method_10_code
def yX0_takeReadingBack : MethodName := ⟨RX0, "takeReadingBack", "(LAgingLetters$Office;)V"⟩
def RX1 : String := "AgingLetters$Asks"
def TX1 : u_T := fun k => match k with
  | 0 => ("AgingLetters$Asks", "bodies", "[I", true)
  | _ => ("AgingLetters$Asks", "begun", "I", false)
def tyX1 : Nat → FieldType := fun k => match k with
  | 0 => .array .int
  | _ => .int
abbrev wsX10 : List Cond := u_ws RX1 TX1 2
theorem nmX1 : ∀ a, a < 2 → ∀ b, b < 2 → a ≠ b → (TX1 a).2.1 ≠ (TX1 b).2.1 := by decide +kernel
theorem tyX1_ok : ∀ k, k < 2 → parseFieldDescriptor (TX1 k).2.2.1 = some (tyX1 k) := by decide +kernel
abbrev cX1_init : ByteArray := prog_3_method_1_code
def yX1_init : MethodName := ⟨RX1, "<init>", "()V"⟩
abbrev cX1_answer : ByteArray := prog_3_method_2_code
def yX1_answer : MethodName := ⟨RX1, "answer", "(LAgingLetters$Office;II)I"⟩
abbrev cX1_bodyFor : ByteArray := prog_3_method_3_code
def yX1_bodyFor : MethodName := ⟨RX1, "bodyFor", "(LAgingLetters$Office;II)I"⟩
abbrev cX1_begin : ByteArray := prog_3_method_4_code
def yX1_begin : MethodName := ⟨RX1, "begin", "(LAgingLetters$Asks;ILAgingLetters$Office;II)I"⟩
abbrev cX1_leaveNumber : ByteArray := prog_3_method_5_code
def yX1_leaveNumber : MethodName := ⟨RX1, "leaveNumber", "(I)V"⟩
def RX2 : String := "AgingLetters$Foretold"
def TX2 : u_T := fun k => match k with
  | 0 => ("AgingLetters$Foretold", "takenOn", "[I", true)
  | 1 => ("AgingLetters$Foretold", "taker", "[I", true)
  | _ => ("AgingLetters$Foretold", "ways", "[I", true)
def tyX2 : Nat → FieldType := fun k => match k with
  | 0 => .array .int
  | 1 => .array .int
  | _ => .array .int
abbrev wsX20 : List Cond := u_ws RX2 TX2 3
theorem nmX2 : ∀ a, a < 3 → ∀ b, b < 3 → a ≠ b → (TX2 a).2.1 ≠ (TX2 b).2.1 := by decide +kernel
theorem tyX2_ok : ∀ k, k < 3 → parseFieldDescriptor (TX2 k).2.2.1 = some (tyX2 k) := by decide +kernel
abbrev cX2_init : ByteArray := prog_4_method_1_code
def yX2_init : MethodName := ⟨RX2, "<init>", "()V"⟩
abbrev cX2_bestReader : ByteArray := prog_4_method_2_code
def yX2_bestReader : MethodName := ⟨RX2, "bestReader", "(LAgingLetters$Office;I)I"⟩
abbrev cX2_bestReaderAloud : ByteArray := prog_4_method_3_code
def yX2_bestReaderAloud : MethodName := ⟨RX2, "bestReaderAloud", "(LAgingLetters$Office;I)I"⟩
abbrev cX2_spentAloud : ByteArray := prog_4_method_4_code
def yX2_spentAloud : MethodName := ⟨RX2, "spentAloud", "(LAgingLetters$Office;II)I"⟩
abbrev cX2_handsOutAll : ByteArray := prog_4_method_5_code
def yX2_handsOutAll : MethodName := ⟨RX2, "handsOutAll", "(LAgingLetters$Office;)Z"⟩
abbrev cX2_handsOut : ByteArray := prog_4_method_6_code
def yX2_handsOut : MethodName := ⟨RX2, "handsOut", "(LAgingLetters$Office;I[I[I)Z"⟩
abbrev cX2_shortestDeadly : ByteArray := prog_4_method_7_code
def yX2_shortestDeadly : MethodName := ⟨RX2, "shortestDeadly", "(LAgingLetters$Office;I)I"⟩
abbrev cX2_smallestDeadlySet : ByteArray := prog_4_method_8_code
def yX2_smallestDeadlySet : MethodName := ⟨RX2, "smallestDeadlySet", "(LAgingLetters$Office;I)I"⟩
abbrev cX2_fewestToCross : ByteArray := prog_4_method_9_code
def yX2_fewestToCross : MethodName := ⟨RX2, "fewestToCross", "(LAgingLetters$Office;II)I"⟩
abbrev cX2_setsThatCost : ByteArray := prog_4_method_10_code
def yX2_setsThatCost : MethodName := ⟨RX2, "setsThatCost", "(LAgingLetters$Office;I)I"⟩
abbrev cX2_leastSetThatCosts : ByteArray := prog_4_method_11_code
def yX2_leastSetThatCosts : MethodName := ⟨RX2, "leastSetThatCosts", "(LAgingLetters$Office;I)I"⟩
abbrev cX2_noReadingYet : ByteArray := prog_4_method_12_code
def yX2_noReadingYet : MethodName := ⟨RX2, "noReadingYet", "()V"⟩
abbrev cX2_tellAge : ByteArray := prog_4_method_13_code
def yX2_tellAge : MethodName := ⟨RX2, "tellAge", "(LAgingLetters$Office;II)V"⟩
abbrev cX2_waysToRead : ByteArray := prog_4_method_14_code
def yX2_waysToRead : MethodName := ⟨RX2, "waysToRead", "()I"⟩
abbrev cX2_weightOfSurviving : ByteArray := prog_4_method_15_code
def yX2_weightOfSurviving : MethodName := ⟨RX2, "weightOfSurviving", "(LAgingLetters$Office;II)I"⟩
abbrev cX2_power : ByteArray := prog_4_method_16_code
def yX2_power : MethodName := ⟨RX2, "power", "(II)I"⟩
abbrev cX2_commonDivisor : ByteArray := prog_4_method_17_code
def yX2_commonDivisor : MethodName := ⟨RX2, "commonDivisor", "(II)I"⟩
def RX3 : String := "AgingLetters$Office"
def TX3 : u_T := fun k => match k with
  | 0 => ("AgingLetters$Office", "stands", "Z", false)
  | 1 => ("AgingLetters$Office", "retires", "I", false)
  | 2 => ("AgingLetters$Office", "today", "I", false)
  | 3 => ("AgingLetters$Office", "letterCount", "I", false)
  | 4 => ("AgingLetters$Office", "kinds", "[I", true)
  | 5 => ("AgingLetters$Office", "pages", "[I", true)
  | 6 => ("AgingLetters$Office", "due", "[I", true)
  | 7 => ("AgingLetters$Office", "readerCount", "I", false)
  | 8 => ("AgingLetters$Office", "firstAge", "[I", true)
  | 9 => ("AgingLetters$Office", "age", "[I", true)
  | 10 => ("AgingLetters$Office", "span", "[I", true)
  | 11 => ("AgingLetters$Office", "heard", "[I", true)
  | _ => ("AgingLetters$Office", "timesRead", "[I", true)
def tyX3 : Nat → FieldType := fun k => match k with
  | 0 => .boolean
  | 1 => .int
  | 2 => .int
  | 3 => .int
  | 4 => .array .int
  | 5 => .array .int
  | 6 => .array .int
  | 7 => .int
  | 8 => .array .int
  | 9 => .array .int
  | 10 => .array .int
  | 11 => .array .int
  | _ => .array .int
abbrev wsX30 : List Cond := u_ws RX3 TX3 13
theorem nmX3 : ∀ a, a < 13 → ∀ b, b < 13 → a ≠ b → (TX3 a).2.1 ≠ (TX3 b).2.1 := by decide +kernel
theorem tyX3_ok : ∀ k, k < 13 → parseFieldDescriptor (TX3 k).2.2.1 = some (tyX3 k) := by decide +kernel
abbrev cX3_init : ByteArray := prog_5_method_1_code
def yX3_init : MethodName := ⟨RX3, "<init>", "()V"⟩
abbrev cX3_clear : ByteArray := prog_5_method_2_code
def yX3_clear : MethodName := ⟨RX3, "clear", "()V"⟩
abbrev cX3_becomes : ByteArray := prog_5_method_3_code
def yX3_becomes : MethodName := ⟨RX3, "becomes", "(LAgingLetters$Office;)V"⟩
abbrev cX3_addLetter : ByteArray := prog_5_method_4_code
def yX3_addLetter : MethodName := ⟨RX3, "addLetter", "(III)V"⟩
abbrev cX3_addReader : ByteArray := prog_5_method_5_code
def yX3_addReader : MethodName := ⟨RX3, "addReader", "(II)V"⟩
abbrev cX3_hasLetter : ByteArray := prog_5_method_6_code
def yX3_hasLetter : MethodName := ⟨RX3, "hasLetter", "(I)Z"⟩
abbrev cX3_hasReader : ByteArray := prog_5_method_7_code
def yX3_hasReader : MethodName := ⟨RX3, "hasReader", "(I)Z"⟩
abbrev cX3_hasReaders : ByteArray := prog_5_method_8_code
def yX3_hasReaders : MethodName := ⟨RX3, "hasReaders", "(I)Z"⟩
abbrev cX3_isAlive : ByteArray := prog_5_method_9_code
def yX3_isAlive : MethodName := ⟨RX3, "isAlive", "(I)Z"⟩
abbrev cX3_isFit : ByteArray := prog_5_method_10_code
def yX3_isFit : MethodName := ⟨RX3, "isFit", "(I)Z"⟩
abbrev cX3_survives : ByteArray := prog_5_method_11_code
def yX3_survives : MethodName := ⟨RX3, "survives", "(II)Z"⟩
abbrev cX3_areAlive : ByteArray := prog_5_method_12_code
def yX3_areAlive : MethodName := ⟨RX3, "areAlive", "(I)Z"⟩
abbrev cX3_howManyAlive : ByteArray := prog_5_method_13_code
def yX3_howManyAlive : MethodName := ⟨RX3, "howManyAlive", "()I"⟩
abbrev cX3_howManyFit : ByteArray := prog_5_method_14_code
def yX3_howManyFit : MethodName := ⟨RX3, "howManyFit", "()I"⟩
abbrev cX3_hasRead : ByteArray := prog_5_method_15_code
def yX3_hasRead : MethodName := ⟨RX3, "hasRead", "(II)Z"⟩
abbrev cX3_addTimesRead : ByteArray := prog_5_method_16_code
def yX3_addTimesRead : MethodName := ⟨RX3, "addTimesRead", "(III)V"⟩
abbrev cX3_timesReadByAll : ByteArray := prog_5_method_17_code
def yX3_timesReadByAll : MethodName := ⟨RX3, "timesReadByAll", "(I)I"⟩
abbrev cX3_readersOf : ByteArray := prog_5_method_18_code
def yX3_readersOf : MethodName := ⟨RX3, "readersOf", "(I)I"⟩
abbrev cX3_lettersReadBy : ByteArray := prog_5_method_19_code
def yX3_lettersReadBy : MethodName := ⟨RX3, "lettersReadBy", "(I)I"⟩
abbrev cX3_unreadLetters : ByteArray := prog_5_method_20_code
def yX3_unreadLetters : MethodName := ⟨RX3, "unreadLetters", "()I"⟩
abbrev cX3_unreadDueAhead : ByteArray := prog_5_method_21_code
def yX3_unreadDueAhead : MethodName := ⟨RX3, "unreadDueAhead", "(I)I"⟩
abbrev cX3_costFor : ByteArray := prog_5_method_22_code
def yX3_costFor : MethodName := ⟨RX3, "costFor", "(II)I"⟩
abbrev cX3_costFor_ : ByteArray := prog_5_method_23_code
def yX3_costFor_ : MethodName := ⟨RX3, "costFor", "(III)I"⟩
abbrev cX3_firstCost : ByteArray := prog_5_method_24_code
def yX3_firstCost : MethodName := ⟨RX3, "firstCost", "(I)I"⟩
abbrev cX3_firstCostOf : ByteArray := prog_5_method_25_code
def yX3_firstCostOf : MethodName := ⟨RX3, "firstCostOf", "(I)I"⟩
abbrev cX3_costOfAll : ByteArray := prog_5_method_26_code
def yX3_costOfAll : MethodName := ⟨RX3, "costOfAll", "(II)I"⟩
abbrev cX3_costOfPages : ByteArray := prog_5_method_27_code
def yX3_costOfPages : MethodName := ⟨RX3, "costOfPages", "(II)I"⟩
def RX4 : String := "AgingLetters$Rows"
def TX4 : u_T := fun k => match k with
  | 0 => ("AgingLetters$Rows", "lanes", "[I", true)
  | 1 => ("AgingLetters$Rows", "sizes", "[I", true)
  | _ => ("AgingLetters$Rows", "items", "[I", true)
def tyX4 : Nat → FieldType := fun k => match k with
  | 0 => .array .int
  | 1 => .array .int
  | _ => .array .int
abbrev wsX40 : List Cond := u_ws RX4 TX4 3
theorem nmX4 : ∀ a, a < 3 → ∀ b, b < 3 → a ≠ b → (TX4 a).2.1 ≠ (TX4 b).2.1 := by decide +kernel
theorem tyX4_ok : ∀ k, k < 3 → parseFieldDescriptor (TX4 k).2.2.1 = some (tyX4 k) := by decide +kernel
abbrev cX4_init : ByteArray := prog_6_method_1_code
def yX4_init : MethodName := ⟨RX4, "<init>", "()V"⟩
abbrev cX4_isRow : ByteArray := prog_6_method_2_code
def yX4_isRow : MethodName := ⟨RX4, "isRow", "(I)Z"⟩
abbrev cX4_isLane : ByteArray := prog_6_method_3_code
def yX4_isLane : MethodName := ⟨RX4, "isLane", "(I)Z"⟩
abbrev cX4_isMissing : ByteArray := prog_6_method_4_code
def yX4_isMissing : MethodName := ⟨RX4, "isMissing", "(I)Z"⟩
abbrev cX4_haveOneLane : ByteArray := prog_6_method_5_code
def yX4_haveOneLane : MethodName := ⟨RX4, "haveOneLane", "(II)Z"⟩
abbrev cX4_hasPlaces : ByteArray := prog_6_method_6_code
def yX4_hasPlaces : MethodName := ⟨RX4, "hasPlaces", "(III)Z"⟩
abbrev cX4_make : ByteArray := prog_6_method_7_code
def yX4_make : MethodName := ⟨RX4, "make", "(III)V"⟩
abbrev cX4_put : ByteArray := prog_6_method_8_code
def yX4_put : MethodName := ⟨RX4, "put", "(III)I"⟩
abbrev cX4_item : ByteArray := prog_6_method_9_code
def yX4_item : MethodName := ⟨RX4, "item", "(II)I"⟩
abbrev cX4_move : ByteArray := prog_6_method_10_code
def yX4_move : MethodName := ⟨RX4, "move", "(IIIII)V"⟩
abbrev cX4_remove : ByteArray := prog_6_method_11_code
def yX4_remove : MethodName := ⟨RX4, "remove", "(I)I"⟩
abbrev cX4_present : ByteArray := prog_6_method_12_code
def yX4_present : MethodName := ⟨RX4, "present", "()I"⟩
def RX5 : String := "AgingLetters$Tape"
def TX5 : u_T := fun k => match k with
  | 0 => ("AgingLetters$Tape", "bytes", "[I", true)
  | 1 => ("AgingLetters$Tape", "length", "I", false)
  | 2 => ("AgingLetters$Tape", "place", "I", false)
  | _ => ("AgingLetters$Tape", "number", "I", false)
def tyX5 : Nat → FieldType := fun k => match k with
  | 0 => .array .int
  | 1 => .int
  | 2 => .int
  | _ => .int
abbrev wsX50 : List Cond := u_ws RX5 TX5 4
theorem nmX5 : ∀ a, a < 4 → ∀ b, b < 4 → a ≠ b → (TX5 a).2.1 ≠ (TX5 b).2.1 := by decide +kernel
theorem tyX5_ok : ∀ k, k < 4 → parseFieldDescriptor (TX5 k).2.2.1 = some (tyX5 k) := by decide +kernel
abbrev cX5_init : ByteArray := prog_7_method_1_code
def yX5_init : MethodName := ⟨RX5, "<init>", "()V"⟩
abbrev cX5_isFull : ByteArray := prog_7_method_2_code
def yX5_isFull : MethodName := ⟨RX5, "isFull", "()Z"⟩
abbrev cX5_append : ByteArray := prog_7_method_3_code
def yX5_append : MethodName := ⟨RX5, "append", "(I)I"⟩
abbrev cX5_empty : ByteArray := prog_7_method_4_code
def yX5_empty : MethodName := ⟨RX5, "empty", "()V"⟩
abbrev cX5_readInto : ByteArray := prog_7_method_5_code
def yX5_readInto : MethodName := ⟨RX5, "readInto", "(LAgingLetters$Office;)I"⟩
abbrev cX5_readLaw : ByteArray := prog_7_method_6_code
def yX5_readLaw : MethodName := ⟨RX5, "readLaw", "(LAgingLetters$Office;)I"⟩
abbrev cX5_readLetter : ByteArray := prog_7_method_7_code
def yX5_readLetter : MethodName := ⟨RX5, "readLetter", "(LAgingLetters$Office;)I"⟩
abbrev cX5_readReader : ByteArray := prog_7_method_8_code
def yX5_readReader : MethodName := ⟨RX5, "readReader", "(LAgingLetters$Office;)I"⟩
abbrev cX5_kindAtPlace : ByteArray := prog_7_method_9_code
def yX5_kindAtPlace : MethodName := ⟨RX5, "kindAtPlace", "()I"⟩
abbrev cX5_takeSign : ByteArray := prog_7_method_10_code
def yX5_takeSign : MethodName := ⟨RX5, "takeSign", "(I)I"⟩
abbrev cX5_takeNumber : ByteArray := prog_7_method_11_code
def yX5_takeNumber : MethodName := ⟨RX5, "takeNumber", "(II)I"⟩
abbrev cX5_isFigure : ByteArray := prog_7_method_12_code
def yX5_isFigure : MethodName := ⟨RX5, "isFigure", "(I)Z"⟩
def RX6 : String := "AgingLetters"
def TX6 : u_T := fun k => match k with
  | 0 => ("AgingLetters", "rows", "LAgingLetters$Rows;", true)
  | 1 => ("AgingLetters", "tape", "LAgingLetters$Tape;", true)
  | 2 => ("AgingLetters", "now", "LAgingLetters$Office;", true)
  | 3 => ("AgingLetters", "draft", "LAgingLetters$Office;", true)
  | 4 => ("AgingLetters", "firstImage", "LAgingLetters$Office;", true)
  | 5 => ("AgingLetters", "secondImage", "LAgingLetters$Office;", true)
  | 6 => ("AgingLetters", "acts", "LAgingLetters$Acts;", true)
  | 7 => ("AgingLetters", "foretold", "LAgingLetters$Foretold;", true)
  | 8 => ("AgingLetters", "asks", "LAgingLetters$Asks;", true)
  | 9 => ("AgingLetters", "latestFault", "I", false)
  | _ => ("AgingLetters", "latestFinding", "I", false)
def tyX6 : Nat → FieldType := fun k => match k with
  | 0 => .object "AgingLetters$Rows"
  | 1 => .object "AgingLetters$Tape"
  | 2 => .object "AgingLetters$Office"
  | 3 => .object "AgingLetters$Office"
  | 4 => .object "AgingLetters$Office"
  | 5 => .object "AgingLetters$Office"
  | 6 => .object "AgingLetters$Acts"
  | 7 => .object "AgingLetters$Foretold"
  | 8 => .object "AgingLetters$Asks"
  | 9 => .int
  | _ => .int
abbrev wsX60 : List Cond := u_ws RX6 TX6 11
theorem nmX6 : ∀ a, a < 11 → ∀ b, b < 11 → a ≠ b → (TX6 a).2.1 ≠ (TX6 b).2.1 := by decide +kernel
theorem tyX6_ok : ∀ k, k < 11 → parseFieldDescriptor (TX6 k).2.2.1 = some (tyX6 k) := by decide +kernel
abbrev cX6_init : ByteArray := prog_1_method_1_code
def yX6_init : MethodName := ⟨RX6, "<init>", "()V"⟩
abbrev cX6_row : ByteArray := prog_1_method_2_code
def yX6_row : MethodName := ⟨RX6, "row", "(III)I"⟩
abbrev cX6_set : ByteArray := prog_1_method_3_code
def yX6_set : MethodName := ⟨RX6, "set", "(III)I"⟩
abbrev cX6_copy : ByteArray := prog_1_method_4_code
def yX6_copy : MethodName := ⟨RX6, "copy", "(IIIII)I"⟩
abbrev cX6_drop : ByteArray := prog_1_method_5_code
def yX6_drop : MethodName := ⟨RX6, "drop", "(I)I"⟩
abbrev cX6_feed : ByteArray := prog_1_method_6_code
def yX6_feed : MethodName := ⟨RX6, "feed", "(I)I"⟩
abbrev cX6_office : ByteArray := prog_1_method_7_code
def yX6_office : MethodName := ⟨RX6, "office", "()I"⟩
abbrev cX6_fault : ByteArray := prog_1_method_8_code
def yX6_fault : MethodName := ⟨RX6, "fault", "()I"⟩
abbrev cX6_read : ByteArray := prog_1_method_9_code
def yX6_read : MethodName := ⟨RX6, "read", "(II)I"⟩
abbrev cX6_aloud : ByteArray := prog_1_method_10_code
def yX6_aloud : MethodName := ⟨RX6, "aloud", "(III)I"⟩
abbrev cX6_cross : ByteArray := prog_1_method_11_code
def yX6_cross : MethodName := ⟨RX6, "cross", "(II)I"⟩
abbrev cX6_day : ByteArray := prog_1_method_12_code
def yX6_day : MethodName := ⟨RX6, "day", "()I"⟩
abbrev cX6_undo : ByteArray := prog_1_method_13_code
def yX6_undo : MethodName := ⟨RX6, "undo", "()I"⟩
abbrev cX6_reader : ByteArray := prog_1_method_14_code
def yX6_reader : MethodName := ⟨RX6, "reader", "(II)I"⟩
abbrev cX6_letter : ByteArray := prog_1_method_15_code
def yX6_letter : MethodName := ⟨RX6, "letter", "(II)I"⟩
abbrev cX6_costs : ByteArray := prog_1_method_16_code
def yX6_costs : MethodName := ⟨RX6, "costs", "(II)I"⟩
abbrev cX6_best : ByteArray := prog_1_method_17_code
def yX6_best : MethodName := ⟨RX6, "best", "(I)I"⟩
abbrev cX6_allRead : ByteArray := prog_1_method_18_code
def yX6_allRead : MethodName := ⟨RX6, "allRead", "(I)I"⟩
abbrev cX6_bestAloud : ByteArray := prog_1_method_19_code
def yX6_bestAloud : MethodName := ⟨RX6, "bestAloud", "(II)I"⟩
abbrev cX6_kills : ByteArray := prog_1_method_20_code
def yX6_kills : MethodName := ⟨RX6, "kills", "(I)I"⟩
abbrev cX6_post : ByteArray := prog_1_method_21_code
def yX6_post : MethodName := ⟨RX6, "post", "(II)I"⟩
abbrev cX6_crossOut : ByteArray := prog_1_method_22_code
def yX6_crossOut : MethodName := ⟨RX6, "crossOut", "(II)I"⟩
abbrev cX6_dies : ByteArray := prog_1_method_23_code
def yX6_dies : MethodName := ⟨RX6, "dies", "(I)I"⟩
abbrev cX6_late : ByteArray := prog_1_method_24_code
def yX6_late : MethodName := ⟨RX6, "late", "(I)I"⟩
abbrev cX6_soOld : ByteArray := prog_1_method_25_code
def yX6_soOld : MethodName := ⟨RX6, "soOld", "(III)I"⟩
abbrev cX6_ages : ByteArray := prog_1_method_26_code
def yX6_ages : MethodName := ⟨RX6, "ages", "(IIII)I"⟩
abbrev cX6_burnt : ByteArray := prog_1_method_27_code
def yX6_burnt : MethodName := ⟨RX6, "burnt", "(III)I"⟩
abbrev cX6_image : ByteArray := prog_1_method_28_code
def yX6_image : MethodName := ⟨RX6, "image", "(I)I"⟩
abbrev cX6_restore : ByteArray := prog_1_method_29_code
def yX6_restore : MethodName := ⟨RX6, "restore", "(I)I"⟩
abbrev cX6_kind : ByteArray := prog_1_method_30_code
def yX6_kind : MethodName := ⟨RX6, "kind", "(I)I"⟩
abbrev cX6_as : ByteArray := prog_1_method_31_code
def yX6_as : MethodName := ⟨RX6, "as", "(II)I"⟩
abbrev cX6_ask : ByteArray := prog_1_method_32_code
def yX6_ask : MethodName := ⟨RX6, "ask", "(II)I"⟩
abbrev cX6_trace : ByteArray := prog_1_method_33_code
def yX6_trace : MethodName := ⟨RX6, "trace", "(I)I"⟩
abbrev cX6_count : ByteArray := prog_1_method_34_code
def yX6_count : MethodName := ⟨RX6, "count", "(I)I"⟩
abbrev cX6_status : ByteArray := prog_1_method_35_code
def yX6_status : MethodName := ⟨RX6, "status", "()I"⟩
abbrev cX6_found : ByteArray := prog_1_method_36_code
def yX6_found : MethodName := ⟨RX6, "found", "(I)I"⟩
abbrev cX6_foundNothing : ByteArray := prog_1_method_37_code
def yX6_foundNothing : MethodName := ⟨RX6, "foundNothing", "(I)I"⟩
abbrev cX6_imageNumbered : ByteArray := prog_1_method_38_code
def yX6_imageNumbered : MethodName := ⟨RX6, "imageNumbered", "(I)LAgingLetters$Office;"⟩
abbrev cX6_isChoice : ByteArray := prog_1_method_39_code
def yX6_isChoice : MethodName := ⟨RX6, "isChoice", "(I)Z"⟩
abbrev cX6_inSet : ByteArray := prog_1_method_40_code
def yX6_inSet : MethodName := ⟨RX6, "inSet", "(II)Z"⟩
abbrev cX6_halfUp : ByteArray := prog_1_method_41_code
def yX6_halfUp : MethodName := ⟨RX6, "halfUp", "(I)I"⟩
abbrev cX6_tenthUp : ByteArray := prog_1_method_42_code
def yX6_tenthUp : MethodName := ⟨RX6, "tenthUp", "(I)I"⟩
abbrev cX6_isKindOf : ByteArray := prog_1_method_43_code
def yX6_isKindOf : MethodName := ⟨RX6, "isKindOf", "(II)Z"⟩
def RX7 : String := "AgingLettersModel"
def TX7 : u_T := fun k => match k with
  | 0 => ("AgingLettersModel", "rowLane", "[I", true)
  | 1 => ("AgingLettersModel", "rowSize", "[I", true)
  | 2 => ("AgingLettersModel", "rows", "[I", true)
  | 3 => ("AgingLettersModel", "status", "I", false)
  | 4 => ("AgingLettersModel", "taken", "[I", true)
  | 5 => ("AgingLettersModel", "now", "[I", true)
  | 6 => ("AgingLettersModel", "tape", "[I", true)
  | 7 => ("AgingLettersModel", "taped", "I", false)
  | 8 => ("AgingLettersModel", "fault", "I", false)
  | 9 => ("AgingLettersModel", "at0", "I", false)
  | 10 => ("AgingLettersModel", "faultAt", "I", false)
  | 11 => ("AgingLettersModel", "number", "I", false)
  | 12 => ("AgingLettersModel", "read", "[I", true)
  | 13 => ("AgingLettersModel", "acts", "I", false)
  | 14 => ("AgingLettersModel", "past", "[I", true)
  | 15 => ("AgingLettersModel", "given", "[I", true)
  | 16 => ("AgingLettersModel", "left", "[I", true)
  | 17 => ("AgingLettersModel", "ways", "[I", true)
  | 18 => ("AgingLettersModel", "waysThen", "[I", true)
  | 19 => ("AgingLettersModel", "images", "[I", true)
  | 20 => ("AgingLettersModel", "isKept", "[Z", true)
  | 21 => ("AgingLettersModel", "trace", "[I", true)
  | _ => ("AgingLettersModel", "traced", "I", false)
def tyX7 : Nat → FieldType := fun k => match k with
  | 0 => .array .int
  | 1 => .array .int
  | 2 => .array .int
  | 3 => .int
  | 4 => .array .int
  | 5 => .array .int
  | 6 => .array .int
  | 7 => .int
  | 8 => .int
  | 9 => .int
  | 10 => .int
  | 11 => .int
  | 12 => .array .int
  | 13 => .int
  | 14 => .array .int
  | 15 => .array .int
  | 16 => .array .int
  | 17 => .array .int
  | 18 => .array .int
  | 19 => .array .int
  | 20 => .array .boolean
  | 21 => .array .int
  | _ => .int
abbrev wsX70 : List Cond := u_ws RX7 TX7 23
theorem nmX7 : ∀ a, a < 23 → ∀ b, b < 23 → a ≠ b → (TX7 a).2.1 ≠ (TX7 b).2.1 := by decide +kernel
theorem tyX7_ok : ∀ k, k < 23 → parseFieldDescriptor (TX7 k).2.2.1 = some (tyX7 k) := by decide +kernel
abbrev cX7_init : ByteArray := prog_9_method_1_code
def yX7_init : MethodName := ⟨RX7, "<init>", "()V"⟩
abbrev cX7_in : ByteArray := prog_9_method_3_code
def yX7_in : MethodName := ⟨RX7, "in", "(JJJ)Z"⟩
abbrev cX7_has : ByteArray := prog_9_method_4_code
def yX7_has : MethodName := ⟨RX7, "has", "(II)Z"⟩
abbrev cX7_finds : ByteArray := prog_9_method_5_code
def yX7_finds : MethodName := ⟨RX7, "finds", "(I)I"⟩
abbrev cX7_tells : ByteArray := prog_9_method_6_code
def yX7_tells : MethodName := ⟨RX7, "tells", "(I)I"⟩
abbrev cX7_isRow : ByteArray := prog_9_method_7_code
def yX7_isRow : MethodName := ⟨RX7, "isRow", "(I)Z"⟩
abbrev cX7_row : ByteArray := prog_9_method_8_code
def yX7_row : MethodName := ⟨RX7, "row", "(III)I"⟩
abbrev cX7_cutTo : ByteArray := prog_9_method_9_code
def yX7_cutTo : MethodName := ⟨RX7, "cutTo", "(II)I"⟩
abbrev cX7_set : ByteArray := prog_9_method_10_code
def yX7_set : MethodName := ⟨RX7, "set", "(III)I"⟩
abbrev cX7_copy : ByteArray := prog_9_method_11_code
def yX7_copy : MethodName := ⟨RX7, "copy", "(IIIII)I"⟩
abbrev cX7_drop : ByteArray := prog_9_method_12_code
def yX7_drop : MethodName := ⟨RX7, "drop", "(I)I"⟩
abbrev cX7_status : ByteArray := prog_9_method_13_code
def yX7_status : MethodName := ⟨RX7, "status", "()I"⟩
abbrev cX7_letters : ByteArray := prog_9_method_14_code
def yX7_letters : MethodName := ⟨RX7, "letters", "()I"⟩
abbrev cX7_readers : ByteArray := prog_9_method_15_code
def yX7_readers : MethodName := ⟨RX7, "readers", "()I"⟩
abbrev cX7_isLetter : ByteArray := prog_9_method_16_code
def yX7_isLetter : MethodName := ⟨RX7, "isLetter", "(I)Z"⟩
abbrev cX7_isReader : ByteArray := prog_9_method_17_code
def yX7_isReader : MethodName := ⟨RX7, "isReader", "(I)Z"⟩
abbrev cX7_sort : ByteArray := prog_9_method_18_code
def yX7_sort : MethodName := ⟨RX7, "sort", "(I)I"⟩
abbrev cX7_age : ByteArray := prog_9_method_19_code
def yX7_age : MethodName := ⟨RX7, "age", "(I)I"⟩
abbrev cX7_span : ByteArray := prog_9_method_20_code
def yX7_span : MethodName := ⟨RX7, "span", "(I)I"⟩
abbrev cX7_isAlive : ByteArray := prog_9_method_21_code
def yX7_isAlive : MethodName := ⟨RX7, "isAlive", "(I)Z"⟩
abbrev cX7_isFit : ByteArray := prog_9_method_22_code
def yX7_isFit : MethodName := ⟨RX7, "isFit", "(I)Z"⟩
abbrev cX7_readBy : ByteArray := prog_9_method_23_code
def yX7_readBy : MethodName := ⟨RX7, "readBy", "(II)I"⟩
abbrev cX7_readOf : ByteArray := prog_9_method_24_code
def yX7_readOf : MethodName := ⟨RX7, "readOf", "(I)I"⟩
abbrev cX7_upwards : ByteArray := prog_9_method_25_code
def yX7_upwards : MethodName := ⟨RX7, "upwards", "(II)I"⟩
abbrev cX7_firstCost : ByteArray := prog_9_method_26_code
def yX7_firstCost : MethodName := ⟨RX7, "firstCost", "(II)I"⟩
abbrev cX7_costBy : ByteArray := prog_9_method_27_code
def yX7_costBy : MethodName := ⟨RX7, "costBy", "(III)I"⟩
abbrev cX7_cost : ByteArray := prog_9_method_28_code
def yX7_cost : MethodName := ⟨RX7, "cost", "(II)I"⟩
abbrev cX7_feed : ByteArray := prog_9_method_29_code
def yX7_feed : MethodName := ⟨RX7, "feed", "(I)I"⟩
abbrev cX7_here : ByteArray := prog_9_method_30_code
def yX7_here : MethodName := ⟨RX7, "here", "()I"⟩
abbrev cX7_fails : ByteArray := prog_9_method_31_code
def yX7_fails : MethodName := ⟨RX7, "fails", "(II)Z"⟩
abbrev cX7_sign : ByteArray := prog_9_method_32_code
def yX7_sign : MethodName := ⟨RX7, "sign", "(I)Z"⟩
abbrev cX7_takeNumber : ByteArray := prog_9_method_33_code
def yX7_takeNumber : MethodName := ⟨RX7, "takeNumber", "(II)Z"⟩
abbrev cX7_into : ByteArray := prog_9_method_34_code
def yX7_into : MethodName := ⟨RX7, "into", "(III)Z"⟩
abbrev cX7_sortOf : ByteArray := prog_9_method_35_code
def yX7_sortOf : MethodName := ⟨RX7, "sortOf", "(I)I"⟩
abbrev cX7_takeLetter : ByteArray := prog_9_method_36_code
def yX7_takeLetter : MethodName := ⟨RX7, "takeLetter", "()Z"⟩
abbrev cX7_takeReader : ByteArray := prog_9_method_37_code
def yX7_takeReader : MethodName := ⟨RX7, "takeReader", "()Z"⟩
abbrev cX7_takeNext : ByteArray := prog_9_method_38_code
def yX7_takeNext : MethodName := ⟨RX7, "takeNext", "()Z"⟩
abbrev cX7_takeOffice : ByteArray := prog_9_method_39_code
def yX7_takeOffice : MethodName := ⟨RX7, "takeOffice", "()Z"⟩
abbrev cX7_office : ByteArray := prog_9_method_40_code
def yX7_office : MethodName := ⟨RX7, "office", "()I"⟩
abbrev cX7_fault : ByteArray := prog_9_method_41_code
def yX7_fault : MethodName := ⟨RX7, "fault", "()I"⟩
abbrev cX7_putInto : ByteArray := prog_9_method_42_code
def yX7_putInto : MethodName := ⟨RX7, "putInto", "([II)V"⟩
abbrev cX7_takeFrom : ByteArray := prog_9_method_43_code
def yX7_takeFrom : MethodName := ⟨RX7, "takeFrom", "([II)V"⟩
abbrev cX7_remember : ByteArray := prog_9_method_44_code
def yX7_remember : MethodName := ⟨RX7, "remember", "()V"⟩
abbrev cX7_readNow : ByteArray := prog_9_method_45_code
def yX7_readNow : MethodName := ⟨RX7, "readNow", "(III)V"⟩
abbrev cX7_read : ByteArray := prog_9_method_46_code
def yX7_read : MethodName := ⟨RX7, "read", "(II)I"⟩
abbrev cX7_alive : ByteArray := prog_9_method_47_code
def yX7_alive : MethodName := ⟨RX7, "alive", "()I"⟩
abbrev cX7_aloud : ByteArray := prog_9_method_48_code
def yX7_aloud : MethodName := ⟨RX7, "aloud", "(III)I"⟩
abbrev cX7_cross : ByteArray := prog_9_method_49_code
def yX7_cross : MethodName := ⟨RX7, "cross", "(II)I"⟩
abbrev cX7_day : ByteArray := prog_9_method_50_code
def yX7_day : MethodName := ⟨RX7, "day", "()I"⟩
abbrev cX7_undo : ByteArray := prog_9_method_51_code
def yX7_undo : MethodName := ⟨RX7, "undo", "()I"⟩
abbrev cX7_hasRead : ByteArray := prog_9_method_52_code
def yX7_hasRead : MethodName := ⟨RX7, "hasRead", "(I)I"⟩
abbrev cX7_reader : ByteArray := prog_9_method_53_code
def yX7_reader : MethodName := ⟨RX7, "reader", "(II)I"⟩
abbrev cX7_whoRead : ByteArray := prog_9_method_54_code
def yX7_whoRead : MethodName := ⟨RX7, "whoRead", "(I)I"⟩
abbrev cX7_letter : ByteArray := prog_9_method_55_code
def yX7_letter : MethodName := ⟨RX7, "letter", "(II)I"⟩
abbrev cX7_costs : ByteArray := prog_9_method_56_code
def yX7_costs : MethodName := ⟨RX7, "costs", "(II)I"⟩
abbrev cX7_best : ByteArray := prog_9_method_57_code
def yX7_best : MethodName := ⟨RX7, "best", "(I)I"⟩
abbrev cX7_unread : ByteArray := prog_9_method_58_code
def yX7_unread : MethodName := ⟨RX7, "unread", "()I"⟩
abbrev cX7_spentBy : ByteArray := prog_9_method_59_code
def yX7_spentBy : MethodName := ⟨RX7, "spentBy", "(I)I"⟩
abbrev cX7_bits : ByteArray := prog_9_method_60_code
def yX7_bits : MethodName := ⟨RX7, "bits", "(I)I"⟩
abbrev cX7_allRead : ByteArray := prog_9_method_61_code
def yX7_allRead : MethodName := ⟨RX7, "allRead", "(I)I"⟩
abbrev cX7_aloudBy : ByteArray := prog_9_method_62_code
def yX7_aloudBy : MethodName := ⟨RX7, "aloudBy", "(II)I"⟩
abbrev cX7_bestAloud : ByteArray := prog_9_method_63_code
def yX7_bestAloud : MethodName := ⟨RX7, "bestAloud", "(II)I"⟩
abbrev cX7_kills : ByteArray := prog_9_method_64_code
def yX7_kills : MethodName := ⟨RX7, "kills", "(I)I"⟩
abbrev cX7_costAll : ByteArray := prog_9_method_65_code
def yX7_costAll : MethodName := ⟨RX7, "costAll", "(II)I"⟩
abbrev cX7_post : ByteArray := prog_9_method_66_code
def yX7_post : MethodName := ⟨RX7, "post", "(II)I"⟩
abbrev cX7_crossOut : ByteArray := prog_9_method_67_code
def yX7_crossOut : MethodName := ⟨RX7, "crossOut", "(II)I"⟩
abbrev cX7_dies : ByteArray := prog_9_method_68_code
def yX7_dies : MethodName := ⟨RX7, "dies", "(I)I"⟩
abbrev cX7_late : ByteArray := prog_9_method_69_code
def yX7_late : MethodName := ⟨RX7, "late", "(I)I"⟩
abbrev cX7_firstAll : ByteArray := prog_9_method_70_code
def yX7_firstAll : MethodName := ⟨RX7, "firstAll", "(I)I"⟩
abbrev cX7_soOld : ByteArray := prog_9_method_71_code
def yX7_soOld : MethodName := ⟨RX7, "soOld", "(III)I"⟩
abbrev cX7_readOn : ByteArray := prog_9_method_72_code
def yX7_readOn : MethodName := ⟨RX7, "readOn", "(I)V"⟩
abbrev cX7_ages : ByteArray := prog_9_method_73_code
def yX7_ages : MethodName := ⟨RX7, "ages", "(IIII)I"⟩
abbrev cX7_burnt : ByteArray := prog_9_method_74_code
def yX7_burnt : MethodName := ⟨RX7, "burnt", "(III)I"⟩
abbrev cX7_image : ByteArray := prog_9_method_75_code
def yX7_image : MethodName := ⟨RX7, "image", "(I)I"⟩
abbrev cX7_restore : ByteArray := prog_9_method_76_code
def yX7_restore : MethodName := ⟨RX7, "restore", "(I)I"⟩
abbrev cX7_kind : ByteArray := prog_9_method_77_code
def yX7_kind : MethodName := ⟨RX7, "kind", "(I)I"⟩
abbrev cX7_isOf : ByteArray := prog_9_method_78_code
def yX7_isOf : MethodName := ⟨RX7, "isOf", "(II)Z"⟩
abbrev cX7_as : ByteArray := prog_9_method_79_code
def yX7_as : MethodName := ⟨RX7, "as", "(II)I"⟩
abbrev cX7_leave : ByteArray := prog_9_method_80_code
def yX7_leave : MethodName := ⟨RX7, "leave", "(I)V"⟩
abbrev cX7_sizeLent : ByteArray := prog_9_method_81_code
def yX7_sizeLent : MethodName := ⟨RX7, "sizeLent", "(I)I"⟩
abbrev cX7_markLent : ByteArray := prog_9_method_82_code
def yX7_markLent : MethodName := ⟨RX7, "markLent", "(I)I"⟩
abbrev cX7_markOfProse : ByteArray := prog_9_method_83_code
def yX7_markOfProse : MethodName := ⟨RX7, "markOfProse", "(I)I"⟩
abbrev cX7_sizeOfFigures : ByteArray := prog_9_method_84_code
def yX7_sizeOfFigures : MethodName := ⟨RX7, "sizeOfFigures", "(I)I"⟩
abbrev cX7_sizeOfSums : ByteArray := prog_9_method_85_code
def yX7_sizeOfSums : MethodName := ⟨RX7, "sizeOfSums", "(I)I"⟩
abbrev cX7_markOf : ByteArray := prog_9_method_86_code
def yX7_markOf : MethodName := ⟨RX7, "markOf", "(I)I"⟩
abbrev cX7_sizeOfProse : ByteArray := prog_9_method_87_code
def yX7_sizeOfProse : MethodName := ⟨RX7, "sizeOfProse", "(I)I"⟩
abbrev cX7_sizeOf : ByteArray := prog_9_method_88_code
def yX7_sizeOf : MethodName := ⟨RX7, "sizeOf", "(I)I"⟩
abbrev cX7_ask : ByteArray := prog_9_method_89_code
def yX7_ask : MethodName := ⟨RX7, "ask", "(II)I"⟩
abbrev cX7_trace : ByteArray := prog_9_method_90_code
def yX7_trace : MethodName := ⟨RX7, "trace", "(I)I"⟩
abbrev cX7_fit : ByteArray := prog_9_method_91_code
def yX7_fit : MethodName := ⟨RX7, "fit", "()I"⟩
abbrev cX7_count : ByteArray := prog_9_method_92_code
def yX7_count : MethodName := ⟨RX7, "count", "(I)I"⟩
def RJ6 : String := "java/lang/Integer"
def TJ6 : u_T := fun k => match k with
  | _ => ("", "", "", false)
def tyJ6 : Nat → FieldType := fun k => match k with
  | _ => .int
abbrev wsJ60 : List Cond := u_ws RJ6 TJ6 0
theorem nmJ6 : ∀ a, a < 0 → ∀ b, b < 0 → a ≠ b → (TJ6 a).2.1 ≠ (TJ6 b).2.1 := by decide +kernel
theorem tyJ6_ok : ∀ k, k < 0 → parseFieldDescriptor (TJ6 k).2.2.1 = some (tyJ6 k) := by decide +kernel
abbrev cJ6_bitCount_0f7a4 : ByteArray := prog_10_method_49_code
def yJ6_bitCount_0f7a4 : MethodName := ⟨RJ6, "bitCount", "(I)I"⟩
def RJ10 : String := "java/lang/System"
def TJ10 : u_T := fun k => match k with
  | _ => ("", "", "", false)
def tyJ10 : Nat → FieldType := fun k => match k with
  | _ => .int
abbrev wsJ100 : List Cond := u_ws RJ10 TJ10 0
theorem nmJ10 : ∀ a, a < 0 → ∀ b, b < 0 → a ≠ b → (TJ10 a).2.1 ≠ (TJ10 b).2.1 := by decide +kernel
theorem tyJ10_ok : ∀ k, k < 0 → parseFieldDescriptor (TJ10 k).2.2.1 = some (tyJ10 k) := by decide +kernel
def RJ7 : String := "java/util/Arrays"
def TJ7 : u_T := fun k => match k with
  | _ => ("", "", "", false)
def tyJ7 : Nat → FieldType := fun k => match k with
  | _ => .int
abbrev wsJ70 : List Cond := u_ws RJ7 TJ7 0
theorem nmJ7 : ∀ a, a < 0 → ∀ b, b < 0 → a ≠ b → (TJ7 a).2.1 ≠ (TJ7 b).2.1 := by decide +kernel
theorem tyJ7_ok : ∀ k, k < 0 → parseFieldDescriptor (TJ7 k).2.2.1 = some (tyJ7 k) := by decide +kernel
abbrev cJ7_fill_53178 : ByteArray := prog_12_method_103_code
def yJ7_fill_53178 : MethodName := ⟨RJ7, "fill", "([II)V"⟩
def RL : String := "AgingLettersLaw"
abbrev cL_law : ByteArray := code
def yL_law : MethodName := ⟨RL, "law", "([I)Z"⟩
abbrev vwCl : List vw_C := [(RX0, TX0, 9), (RX1, TX1, 2), (RX2, TX2, 3), (RX3, TX3, 13), (RX4, TX4, 3), (RX5, TX5, 4), (RX6, TX6, 11), (RX7, TX7, 23)]
end
section
/-! ===== THE WORLD'S SHAPE (made by wip/whole/shape.py out of the constructors): cells in the order in which they are made ===== -/
def NC : Nat := 73
/-- the kind of a cell: the place of its class in vwCl; 100 a row of ints, 101 of booleans -/
def kdL : List Nat := [6, 4, 100, 100, 100, 5, 100, 3, 100, 100, 100, 100, 100, 100, 100, 100, 3, 100, 100, 100, 100, 100, 100, 100, 100, 3, 100, 100, 100, 100, 100, 100, 100, 100, 3, 100, 100, 100, 100, 100, 100, 100, 100, 0, 100, 100, 100, 100, 100, 100, 100, 2, 100, 100, 100, 1, 100, 7, 100, 100, 100, 100, 100, 100, 100, 100, 100, 100, 100, 100, 100, 101, 100]
def kd (k : Nat) : Nat := kdL.getD k 200
def lnL : List Nat := [0, 0, 8, 8, 320, 0, 120, 0, 6, 6, 6, 4, 4, 4, 4, 24, 0, 6, 6, 6, 4, 4, 4, 4, 24, 0, 6, 6, 6, 4, 4, 4, 4, 24, 0, 6, 6, 6, 4, 4, 4, 4, 24, 0, 24, 24, 24, 24, 24, 24, 24, 0, 4, 6, 64, 0, 16, 0, 8, 8, 320, 40, 63, 120, 63, 1512, 6, 4, 64, 64, 126, 2, 16]
def ln (k : Nat) : Nat := lnL.getD k 0
/-- where an object's references lead -/
def rfL : List (List Nat) := [[1, 5, 7, 16, 25, 34, 43, 51, 55, 999, 999], [2, 3, 4], [], [], [], [6, 999, 999, 999], [], [999, 999, 999, 999, 8, 9, 10, 999, 11, 12, 13, 14, 15], [], [], [], [], [], [], [], [], [999, 999, 999, 999, 17, 18, 19, 999, 20, 21, 22, 23, 24], [], [], [], [], [], [], [], [], [999, 999, 999, 999, 26, 27, 28, 999, 29, 30, 31, 32, 33], [], [], [], [], [], [], [], [], [999, 999, 999, 999, 35, 36, 37, 999, 38, 39, 40, 41, 42], [], [], [], [], [], [], [], [], [44, 45, 46, 47, 48, 49, 50, 999, 999], [], [], [], [], [], [], [], [52, 53, 54], [], [], [], [56, 999], [], [58, 59, 60, 999, 61, 62, 63, 999, 999, 999, 999, 999, 64, 999, 65, 66, 67, 68, 69, 70, 71, 72, 999], [], [], [], [], [], [], [], [], [], [], [], [], [], [], []]
def rf (k j : Nat) : Nat := (rfL.getD k []).getD j 999
def nfL : List Nat := [9, 2, 3, 13, 3, 4, 11, 23]
def nf (c : Nat) : Nat := nfL.getD c 0
def irL : List (List Bool) := [[true, true, true, true, true, true, true, false, false], [true, false], [true, true, true], [false, false, false, false, true, true, true, false, true, true, true, true, true], [true, true, true], [true, false, false, false], [true, true, true, true, true, true, true, true, true, false, false], [true, true, true, false, true, true, true, false, false, false, false, false, true, false, true, true, true, true, true, true, true, true, false]]
def ir (c j : Nat) : Bool := (irL.getD c []).getD j false
end
section
/-! ===== THE WORLD AS NUMBERS (mem cell place), THE JUDGEMENT Ev, A RULE AN INSTRUCTION ===== -/
abbrev Mem : Type := Nat → Nat → Int32
abbrev Gt : Type := (Nat → Nat) × va_G × ClassId × ClassId × Nat × Nat × Launch
def gA (G : Gt) (k : Nat) : Nat := G.1 k
def gD (G : Gt) : va_G := G.2.1
def gI (G : Gt) : ClassId := G.2.2.1
def gZ (G : Gt) : ClassId := G.2.2.2.1
def gS (G : Gt) : Nat := G.2.2.2.2.1
def gM (G : Gt) : Nat := G.2.2.2.2.2.1
def gL (G : Gt) : Launch := G.2.2.2.2.2.2
def fV (G : Gt) (k : Nat) (row : Nat → Int32) (j : Nat) : Value := if ir (kd k) j = true then .ref (gA G (rf k j)) else .int (row j)
def cellE (G : Gt) (k : Nat) (row : Nat → Int32) : va_E := if kd k = 100 then .inl (gI G, ln k, .inl row) else if kd k = 101 then .inl (gZ G, ln k, .inl row) else .inr (kd k, (List.range (nf (kd k))).map (fV G k row))
def cells (G : Gt) (mem : Mem) : va_W := (List.range NC).map (fun k => (gA G k, cellE G k (mem k)))
def st1 (mem : Mem) (k : Nat) (row : Nat → Int32) : Mem := fun q => if q = k then row else mem q
def st2 (mem : Mem) (k i : Nat) (v : Int32) : Mem := st1 mem k (upd (mem k) i v)
theorem cells_at {G : Gt} {mem : Mem} {k : Nat} (h : k < NC) : (cells G mem)[k]? = some (gA G k, cellE G k (mem k)) := by
  unfold cells
  rw [List.getElem?_map, List.getElem?_range h]
  rfl
theorem cells_set {G : Gt} {mem : Mem} {k : Nat} {row : Nat → Int32} (h : k < NC) : (cells G mem).set k (gA G k, cellE G k row) = cells G (st1 mem k row) := by
  apply List.ext_getElem?
  intro i
  rw [List.getElem?_set]
  have hl : (cells G mem).length = NC := by simp [cells]
  by_cases hi : k = i
  · subst hi
    rw [if_pos rfl, if_pos (by rw [hl]; exact h), cells_at h]
    simp [st1]
  · rw [if_neg hi]
    by_cases h2 : i < NC
    · rw [cells_at h2, cells_at h2]
      simp [st1, Ne.symm hi]
    · rw [List.getElem?_eq_none (by rw [hl]; omega), List.getElem?_eq_none (by simp [cells]; omega)]
theorem cellE_i {G : Gt} {k : Nat} {row : Nat → Int32} (h : kd k = 100) : cellE G k row = .inl (gI G, ln k, .inl row) := by simp [cellE, h]
theorem cellE_z {G : Gt} {k : Nat} {row : Nat → Int32} (h : kd k = 101) : cellE G k row = .inl (gZ G, ln k, .inl row) := by simp [cellE, h]
theorem cellE_o {G : Gt} {k c : Nat} {row : Nat → Int32} (h : kd k = c) (hc : c < 100) : cellE G k row = .inr (c, (List.range (nf c)).map (fV G k row)) := by
  subst h
  unfold cellE
  rw [if_neg (by omega), if_neg (by omega)]
theorem fs_at {G : Gt} {k n j : Nat} {row : Nat → Int32} (h : j < n) : ((List.range n).map (fV G k row))[j]? = some (fV G k row j) := by
  rw [List.getElem?_map, List.getElem?_range h]
  rfl
theorem fs_set {G : Gt} {k n c j : Nat} {row : Nat → Int32} {v : Int32} (hk : kd k = c) (hj : ir c j = false) : ((List.range n).map (fV G k row)).set j (.int v) = (List.range n).map (fV G k (upd row j v)) := by
  apply List.ext_getElem?
  intro i
  rw [List.getElem?_set]
  by_cases h2 : i < n
  · rw [fs_at h2, fs_at h2]
    by_cases hi : j = i
    · subst hi
      rw [if_pos rfl, if_pos (by simp; exact h2)]
      simp [fV, hk, hj, upd]
    · rw [if_neg hi]
      simp [fV, upd, Ne.symm hi]
  · rw [List.getElem?_eq_none (l := (List.range n).map (fV G k (upd row j v))) (by simp; omega), List.getElem?_eq_none (l := (List.range n).map (fV G k row)) (by simp; omega)]
    by_cases hi : j = i
    · rw [if_pos hi, if_neg (by simp; omega)]
    · rw [if_neg hi]
theorem kd_lt {k c : Nat} (h : kd k = c) (hc : c < 200) : k < NC := by
  apply Nat.not_le.mp
  intro q
  have e : kd k = 200 := by
    unfold kd
    rw [List.getD_eq_getElem?_getD, List.getElem?_eq_none (by exact q)]
    rfl
  omega
/-- words that hold anywhere in the run: the tables' good ones -/
def AW : List Cond := lw_tbl.filter goodWord
def isNest : Cond → Bool
  | .fieldLinkNest .. => true
  | .methodLinkNest .. => true
  | _ => false
def NW : List Cond := tables_1.filter isNest
theorem AW_of {w : Cond} (h : w ∈ lw_tbl) (g : goodWord w = true) : w ∈ AW := List.mem_filter.mpr ⟨h, g⟩
theorem AW_s {w : Cond} (h : w ∈ k2_sels lw_privs) (g : goodWord w = true) : w ∈ AW := AW_of (List.mem_append_left _ h) g
theorem AW_t {w : Cond} (h : w ∈ tables_1) (g : goodWord w = true) : w ∈ AW := AW_of (List.mem_append_right _ h) g
theorem tb_1 {w : Cond} {i : Nat} (h : tables_1_1[i]? = some w) : w ∈ tables_1 := List.mem_append_left _ (List.mem_of_getElem? h)
theorem tb_2 {w : Cond} {i : Nat} (h : tables_1_2[i]? = some w) : w ∈ tables_1 := List.mem_append_right _ (List.mem_append_left _ (List.mem_of_getElem? h))
theorem tb_3 {w : Cond} {i : Nat} (h : tables_1_3[i]? = some w) : w ∈ tables_1 := List.mem_append_right _ (List.mem_append_right _ (List.mem_append_left _ (List.mem_of_getElem? h)))
theorem tb_4 {w : Cond} {i : Nat} (h : tables_1_4[i]? = some w) : w ∈ tables_1 := List.mem_append_right _ (List.mem_append_right _ (List.mem_append_right _ (List.mem_append_left _ (List.mem_of_getElem? h))))
theorem tb_5 {w : Cond} {i : Nat} (h : tables_1_5[i]? = some w) : w ∈ tables_1 := List.mem_append_right _ (List.mem_append_right _ (List.mem_append_right _ (List.mem_append_right _ (List.mem_of_getElem? h))))
theorem NW_t {w : Cond} (h : w ∈ tables_1) (g : isNest w = true) : w ∈ NW := List.mem_filter.mpr ⟨h, g⟩
theorem goodAW {ws : List Cond} (h : ∀ w ∈ ws, w ∈ AW) : GoodIn AW ws := fun w hw => ⟨h w hw, good_of_word (List.mem_filter.mp (h w hw)).2⟩
theorem nest_warm {w : Cond} {s U : State} (hn : isNest w = true) (hW : s.WarmedH U.vm) (h : va_Nw w s) : va_Nw w U := by
  cases w <;> first | (exact va_Nw.warmF hW h) | (exact va_Nw.warmM hW h) | (cases hn)
theorem nest_same {w : Cond} {s U : State} (hn : isNest w = true) (hW : s.vm = U.vm) (h : va_Nw w s) : va_Nw w U := by
  cases w <;> first | (exact va_Nw.same rfl hW h) | (cases hn)
def szB (j : Nat) : Int32 := [10, 11, 12, 11, 13, 14].getD j 0
def mkB (j : Nat) : Int32 := [20, 21, 24, 22, 23, 23].getD j 0
/-- the cells that may be written -/
def gF (G : Gt) : Nat → Prop := fun q => ∃ k, k < NC ∧ q = gA G k
def Ctx (G : Gt) (U : State) (H : Heap) : Prop := va_K (gD G) vwCl [(gI G, .int), (gZ G, .boolean)] U ∧ (∀ w ∈ NW, va_Nw w U) ∧ (∀ i j, i < NC → j < NC → gA G i = gA G j → i = j) ∧
  (va_Z "AgingLetters$Asks" "SIZE_BODIES" "[I" (.ref (gS G)) (gF G) U H ∧ va_T .int (gS G) 6 (fun j => .int (szB j)) (gF G) U H) ∧
  (va_Z "AgingLetters$Asks" "MARK_BODIES" "[I" (.ref (gM G)) (gF G) U H ∧ va_T .int (gM G) 6 (fun j => .int (mkB j)) (gF G) U H)
theorem Ctx.moved {G : Gt} {s U : State} {locs : List Loc} (h : Ctx G s s.heap) (hW : s.WarmedH U.vm) (hS : va_S (gF G) s.heap U.heap locs) : Ctx G U U.heap :=
  ⟨h.1.moved hW.alike, fun w hw => nest_warm (List.mem_filter.mp hw).2 hW (h.2.1 w hw), h.2.2.1, ⟨(h.2.2.2.1.1.kept hS.2.1).moved hW.alike, (h.2.2.2.1.2.kept hS.2.1).moved hW.alike⟩, ⟨(h.2.2.2.2.1.kept hS.2.1).moved hW.alike, (h.2.2.2.2.2.kept hS.2.1).moved hW.alike⟩⟩
theorem Ctx.same {G : Gt} {s U : State} (h : Ctx G s s.heap) (hW : s.vm = U.vm) (hH : s.heap = U.heap) : Ctx G U U.heap := by
  rw [← hH]
  have ha : s.vm.Alike U.vm := by rw [hW]; exact Vm.Alike.refl _
  exact ⟨h.1.moved ha, fun w hw => nest_same (List.mem_filter.mp hw).2 hW (h.2.1 w hw), h.2.2.1, ⟨h.2.2.2.1.1.moved ha, h.2.2.2.1.2.moved ha⟩, ⟨h.2.2.2.2.1.moved ha, h.2.2.2.2.2.moved ha⟩⟩
theorem Ctx.D {G : Gt} {U : State} {H : Heap} (h : Ctx G U H) (mem : Mem) : va_D (gF G) (cells G mem) := by
  have key : ∀ (k : Nat) (q : Nat × va_E), (cells G mem)[k]? = some q → k < NC ∧ q.1 = gA G k := by
    intro k q hq
    have hk : k < NC := by
      have := (List.getElem?_eq_some_iff.mp hq).1
      simpa [cells] using this
    rw [cells_at hk] at hq
    cases hq
    exact ⟨hk, rfl⟩
  refine ⟨fun i j p q hi hj e => ?_, fun k q hq => ?_⟩
  · obtain ⟨a1, a2⟩ := key i p hi
    obtain ⟨b1, b2⟩ := key j q hj
    exact h.2.2.1 i j a1 b1 (by rw [← a2, ← b2]; exact e)
  · obtain ⟨a1, a2⟩ := key k q hq
    exact ⟨k, a1, a2⟩
def World (G : Gt) (mem : Mem) (U : State) : Prop := va_P (gD G) vwCl (cells G mem) U.heap ∧ Ctx G U U.heap
def rmOf (d : Nat) : Room := { frames := d, cells := 0, slots := 0, locals := 64 * d }
def EQ (G : Gt) (v : Option Value) (m1 : Mem) : Array Value → State → Outcome → State → Prop := fun _ st oc t => (oc = .returned v ∧ World G m1 t) ∧ va_F (gF G) st t
/-- from here (place pc, locals lv, operands st, numbers mem) the method returns v and leaves the numbers m1 -/
def Ev (G : Gt) (cc : ByteArray) (nL : Nat) (ret : Option FieldType) (own : String) (d : Nat) (v : Option Value) (m1 : Mem) (pc : Nat) (lv : List (Nat × Value)) (st : List Value) (mem : Mem) : Prop :=
  ∀ (p : Program) (e : Env) (s : State) (m : MethodId) (args : Array Value) (below : List Frame) (meth : Method) (c : Code) (H : Heap) (locs : List Loc) (ls : Array Slot),
    p.tables.exec = Jvm.exec → c.code = cc → c.maxLocals = nL → meth.sig.returnType = ret → s.vm.findClass own = some m.cls → meth.locks = false → (∀ w ∈ AW, w.before args s = true) → Ctx G s s.heap →
    va_P (gD G) vwCl (cells G mem) H → va_S (gF G) s.heap H locs → lv_has ls nL lv →
    W p (gL G) e (rmOf d) s m args below meth c H locs 0 0 (MQ below (EQ G v m1) args s 0 0 (gF G)) (F0 m pc ls st)
/-- .. what the expression o says, if it says anything -/
def EvR {ρ : Type} (tv : ρ → Option Value) (G : Gt) (cc : ByteArray) (nL : Nat) (ret : Option FieldType) (own : String) (d : Nat) (pc : Nat) (lv : List (Nat × Value)) (st : List Value) (mem : Mem) (o : Option (ρ × Mem)) : Prop :=
  ∀ (r : ρ) (m1 : Mem), o = some (r, m1) → Ev G cc nL ret own d (tv r) m1 pc lv st mem
def tvI (r : Int32) : Option Value := some (.int r)
def tvU (_ : Unit) : Option Value := none
def tvR (G : Gt) (k : Nat) : Option Value := some (.ref (gA G k))
/-- a contract: from the world mem, with the arguments vs, the method does what o says -/
def Con {ρ : Type} (tv : ρ → Option Value) (G : Gt) (y : MethodName) (bytes : ByteArray) (nL : Nat) (ret : Option FieldType) (d : Nat) (vs : List Value) (mem : Mem) (o : Option (ρ × Mem)) : Prop :=
  ∀ (r : ρ) (m1 : Mem), o = some (r, m1) → Met (gL G) y (Cond.code y bytes nL ret :: AW) (rmOf d) (va_Pc vs (World G mem)) (EQ G (tv r) m1) 0 0 (gF G)
-- expressions
def inB (i : Int32) (n : Nat) : Bool := decide (0 ≤ i.toInt) && decide (i.toInt < n)
theorem inB_in {i : Int32} {n : Nat} (h : inB i n = true) : vp_in i n := by
  simp only [inB, Bool.and_eq_true, decide_eq_true_eq] at h
  exact vp_in_iff.mpr h
def ald {α : Type} (mem : Mem) (k : Nat) (i : Int32) (f : Int32 → Option α) : Option α := if inB i (ln k) = true then f (mem k i.toNatClampNeg) else none
def ast {α : Type} (mem : Mem) (k : Nat) (i : Int32) (v : Int32) (f : Mem → Option α) : Option α := if inB i (ln k) = true then f (st2 mem k i.toNatClampNeg v) else none
def sld {α : Type} (g : Nat → Int32) (n : Nat) (i : Int32) (f : Int32 → Option α) : Option α := if inB i n = true then f (g i.toNatClampNeg) else none
def cll {α ρ : Type} (o : Option (ρ × Mem)) (f : ρ → Mem → Option α) : Option α := match o with
  | some r => f r.1 r.2
  | none => none
def chk {α : Type} (c : Prop) [Decidable c] (o : Option α) : Option α := if c then o else none
theorem cll_some {α ρ : Type} {o : Option (ρ × Mem)} {f : ρ → Mem → Option α} {z : α} (h : cll o f = some z) : ∃ r m, o = some (r, m) ∧ f r m = some z := by
  cases o with
  | none => cases h
  | some r => exact ⟨r.1, r.2, rfl, h⟩
/-- a class's facts -/
def CF (ci : Nat) (C : String) (T : u_T) : Prop := vwCl[ci]? = some (C, T, nf ci) ∧ (∀ w ∈ u_ws C T (nf ci), w ∈ AW) ∧ (∃ ty : Nat → FieldType, ∀ k, k < nf ci → parseFieldDescriptor (T k).2.2.1 = some (ty k)) ∧ (∀ a, a < nf ci → ∀ b, b < nf ci → a ≠ b → (T a).2.1 ≠ (T b).2.1)
def FL (own : String) (index : Nat) (ref n d : String) : Prop := Cond.fieldLink own index ref n d ∈ AW ∨ ∃ host, Cond.fieldLinkNest own index ref n d host ∈ NW
def okD (d : Option Nat) (y : MethodName) : Prop := y.cls ≠ "java/lang/invoke/MethodHandle" ∧ y.cls ≠ "java/lang/invoke/VarHandle" ∧ (parseMethodDescriptor y.desc).map (fun d => d.parameters.length) = d
def MTV (y : MethodName) (bytes : ByteArray) (maxL : Nat) (ret : Option FieldType) (n : Nat) : Prop := Cond.code y bytes maxL ret ∈ AW ∧ Cond.instanceMethod y ∈ AW ∧ Cond.selects y.cls y y ∈ AW ∧ Cond.initialized y.cls ∈ AW ∧ okD (some n) y
def MTS (y : MethodName) (bytes : ByteArray) (maxL : Nat) (ret : Option FieldType) (n : Nat) : Prop := Cond.code y bytes maxL ret ∈ AW ∧ Cond.static y ∈ AW ∧ Cond.initialized y.cls ∈ AW ∧ okD (some n) y
section RULES
variable {ρ : Type} {tv : ρ → Option Value} {G : Gt} {cc : ByteArray} {nL : Nat} {ret : Option FieldType} {own : String} {d : Nat} {pc q : Nat} {lv lv2 : List (Nat × Value)} {st : List Value} {mem : Mem} {o o2 : Option (ρ × Mem)}
theorem ev_none : EvR tv G cc nL ret own d pc lv st mem none := fun r m1 h => by cases h
theorem ev_sub {lv' : List (Nat × Value)} (ks : List Nat) (hl : lv_pick lv ks = lv') (k : EvR tv G cc nL ret own d pc lv' st mem o) : EvR tv G cc nL ret own d pc lv st mem o :=
  fun r m1 hv p e s m args below meth c H locs ls hx hb hml hr hown hlk hts hC hP hS hl2 => k r m1 hv p e s m args below meth c H locs ls hx hb hml hr hown hlk hts hC hP hS (lv_sub hl2 ks hl)
theorem ev_chk {c : Prop} [Decidable c] (k : c → EvR tv G cc nL ret own d pc lv st mem o) : EvR tv G cc nL ret own d pc lv st mem (chk c o) := by
  unfold chk
  split
  · exact k (by assumption)
  · exact ev_none
theorem ev_ite {c : Prop} [Decidable c] (k1 : c → EvR tv G cc nL ret own d pc lv st mem o) (k2 : ¬ c → EvR tv G cc nL ret own d pc lv st mem o2) : EvR tv G cc nL ret own d pc lv st mem (if c then o else o2) := by
  split
  · exact k1 (by assumption)
  · exact k2 (by assumption)
theorem ev_iconst {n : Int} {v : Int32} (hd : decode cc pc = .ok (.iconst n, 1)) (hp : pc + 1 = q) (hv0 : Int32.ofInt n = v) (k : EvR tv G cc nL ret own d q lv (.int v :: st) mem o) : EvR tv G cc nL ret own d pc lv st mem o := by
  subst hp
  intro r m1 hv p e s m args below meth c H locs ls hx hb hml hr hown hlk hts hC hP hS hl
  exact lv_iconst hx hb hd hv0 (k r m1 hv p e s m args below meth c H locs ls hx hb hml hr hown hlk hts hC hP hS hl)
theorem ev_bipush {n : Int} {v : Int32} (hd : decode cc pc = .ok (.bipush n, 2)) (hp : pc + 2 = q) (hv0 : (Int8.ofInt n).toInt32 = v) (k : EvR tv G cc nL ret own d q lv (.int v :: st) mem o) : EvR tv G cc nL ret own d pc lv st mem o := by
  subst hp
  intro r m1 hv p e s m args below meth c H locs ls hx hb hml hr hown hlk hts hC hP hS hl
  exact lv_bipush hx hb hd hv0 (k r m1 hv p e s m args below meth c H locs ls hx hb hml hr hown hlk hts hC hP hS hl)
theorem ev_sipush {n : Int} {v : Int32} (hd : decode cc pc = .ok (.sipush n, 3)) (hp : pc + 3 = q) (hv0 : (Int16.ofInt n).toInt32 = v) (k : EvR tv G cc nL ret own d q lv (.int v :: st) mem o) : EvR tv G cc nL ret own d pc lv st mem o := by
  subst hp
  intro r m1 hv p e s m args below meth c H locs ls hx hb hml hr hown hlk hts hC hP hS hl
  exact lv_sipush hx hb hd hv0 (k r m1 hv p e s m args below meth c H locs ls hx hb hml hr hown hlk hts hC hP hS hl)
theorem ev_lconst {n : Fin 2} {v : Int64} (hd : decode cc pc = .ok (.lconst n, 1)) (hp : pc + 1 = q) (hv0 : Int64.ofNat (n : Nat) = v) (k : EvR tv G cc nL ret own d q lv (.long v :: st) mem o) : EvR tv G cc nL ret own d pc lv st mem o := by
  subst hp
  intro r m1 hv p e s m args below meth c H locs ls hx hb hml hr hown hlk hts hC hP hS hl
  exact lv_lconst hx hb hd hv0 (k r m1 hv p e s m args below meth c H locs ls hx hb hml hr hown hlk hts hC hP hS hl)
theorem ev_iadd {x y : Int32} (hd : decode cc pc = .ok (.iadd, 1)) (hp : pc + 1 = q)  (k : EvR tv G cc nL ret own d q lv (.int (x + y) :: st) mem o) : EvR tv G cc nL ret own d pc lv (.int y :: .int x :: st) mem o := by
  subst hp
  intro r m1 hv p e s m args below meth c H locs ls hx hb hml hr hown hlk hts hC hP hS hl
  exact lv_iadd hx hb hd  (k r m1 hv p e s m args below meth c H locs ls hx hb hml hr hown hlk hts hC hP hS hl)
theorem ev_isub {x y : Int32} (hd : decode cc pc = .ok (.isub, 1)) (hp : pc + 1 = q)  (k : EvR tv G cc nL ret own d q lv (.int (x - y) :: st) mem o) : EvR tv G cc nL ret own d pc lv (.int y :: .int x :: st) mem o := by
  subst hp
  intro r m1 hv p e s m args below meth c H locs ls hx hb hml hr hown hlk hts hC hP hS hl
  exact lv_isub hx hb hd  (k r m1 hv p e s m args below meth c H locs ls hx hb hml hr hown hlk hts hC hP hS hl)
theorem ev_imul {x y : Int32} (hd : decode cc pc = .ok (.imul, 1)) (hp : pc + 1 = q)  (k : EvR tv G cc nL ret own d q lv (.int (x * y) :: st) mem o) : EvR tv G cc nL ret own d pc lv (.int y :: .int x :: st) mem o := by
  subst hp
  intro r m1 hv p e s m args below meth c H locs ls hx hb hml hr hown hlk hts hC hP hS hl
  exact lv_imul hx hb hd  (k r m1 hv p e s m args below meth c H locs ls hx hb hml hr hown hlk hts hC hP hS hl)
theorem ev_iand {x y : Int32} (hd : decode cc pc = .ok (.iand, 1)) (hp : pc + 1 = q)  (k : EvR tv G cc nL ret own d q lv (.int (x &&& y) :: st) mem o) : EvR tv G cc nL ret own d pc lv (.int y :: .int x :: st) mem o := by
  subst hp
  intro r m1 hv p e s m args below meth c H locs ls hx hb hml hr hown hlk hts hC hP hS hl
  exact lv_iand hx hb hd  (k r m1 hv p e s m args below meth c H locs ls hx hb hml hr hown hlk hts hC hP hS hl)
theorem ev_ior {x y : Int32} (hd : decode cc pc = .ok (.ior, 1)) (hp : pc + 1 = q)  (k : EvR tv G cc nL ret own d q lv (.int (x ||| y) :: st) mem o) : EvR tv G cc nL ret own d pc lv (.int y :: .int x :: st) mem o := by
  subst hp
  intro r m1 hv p e s m args below meth c H locs ls hx hb hml hr hown hlk hts hC hP hS hl
  exact lv_ior hx hb hd  (k r m1 hv p e s m args below meth c H locs ls hx hb hml hr hown hlk hts hC hP hS hl)
theorem ev_ixor {x y : Int32} (hd : decode cc pc = .ok (.ixor, 1)) (hp : pc + 1 = q)  (k : EvR tv G cc nL ret own d q lv (.int (x ^^^ y) :: st) mem o) : EvR tv G cc nL ret own d pc lv (.int y :: .int x :: st) mem o := by
  subst hp
  intro r m1 hv p e s m args below meth c H locs ls hx hb hml hr hown hlk hts hC hP hS hl
  exact lv_ixor hx hb hd  (k r m1 hv p e s m args below meth c H locs ls hx hb hml hr hown hlk hts hC hP hS hl)
theorem ev_ishl {x y : Int32} (hd : decode cc pc = .ok (.ishl, 1)) (hp : pc + 1 = q)  (k : EvR tv G cc nL ret own d q lv (.int (x <<< (y &&& 31)) :: st) mem o) : EvR tv G cc nL ret own d pc lv (.int y :: .int x :: st) mem o := by
  subst hp
  intro r m1 hv p e s m args below meth c H locs ls hx hb hml hr hown hlk hts hC hP hS hl
  exact lv_ishl hx hb hd  (k r m1 hv p e s m args below meth c H locs ls hx hb hml hr hown hlk hts hC hP hS hl)
theorem ev_ishr {x y : Int32} (hd : decode cc pc = .ok (.ishr, 1)) (hp : pc + 1 = q)  (k : EvR tv G cc nL ret own d q lv (.int (x >>> (y &&& 31)) :: st) mem o) : EvR tv G cc nL ret own d pc lv (.int y :: .int x :: st) mem o := by
  subst hp
  intro r m1 hv p e s m args below meth c H locs ls hx hb hml hr hown hlk hts hC hP hS hl
  exact lv_ishr hx hb hd  (k r m1 hv p e s m args below meth c H locs ls hx hb hml hr hown hlk hts hC hP hS hl)
theorem ev_ineg {x : Int32} (hd : decode cc pc = .ok (.ineg, 1)) (hp : pc + 1 = q)  (k : EvR tv G cc nL ret own d q lv (.int (-x) :: st) mem o) : EvR tv G cc nL ret own d pc lv (.int x :: st) mem o := by
  subst hp
  intro r m1 hv p e s m args below meth c H locs ls hx hb hml hr hown hlk hts hC hP hS hl
  exact lv_ineg hx hb hd  (k r m1 hv p e s m args below meth c H locs ls hx hb hml hr hown hlk hts hC hP hS hl)
theorem ev_iushr {x y v : Int32} (hd : decode cc pc = .ok (.iushr, 1)) (hp : pc + 1 = q) (hv0 : (x.toUInt32 >>> (y.toUInt32 &&& Int32.toUInt32 31)).toInt32 = v) (k : EvR tv G cc nL ret own d q lv (.int v :: st) mem o) : EvR tv G cc nL ret own d pc lv (.int y :: .int x :: st) mem o := by
  subst hp
  intro r m1 hv p e s m args below meth c H locs ls hx hb hml hr hown hlk hts hC hP hS hl
  exact lv_iushr hx hb hd hv0 (k r m1 hv p e s m args below meth c H locs ls hx hb hml hr hown hlk hts hC hP hS hl)
theorem ev_ladd {x y : Int64} (hd : decode cc pc = .ok (.ladd, 1)) (hp : pc + 1 = q)  (k : EvR tv G cc nL ret own d q lv (.long (x + y) :: st) mem o) : EvR tv G cc nL ret own d pc lv (.long y :: .long x :: st) mem o := by
  subst hp
  intro r m1 hv p e s m args below meth c H locs ls hx hb hml hr hown hlk hts hC hP hS hl
  exact lv_ladd hx hb hd  (k r m1 hv p e s m args below meth c H locs ls hx hb hml hr hown hlk hts hC hP hS hl)
theorem ev_lsub {x y : Int64} (hd : decode cc pc = .ok (.lsub, 1)) (hp : pc + 1 = q)  (k : EvR tv G cc nL ret own d q lv (.long (x - y) :: st) mem o) : EvR tv G cc nL ret own d pc lv (.long y :: .long x :: st) mem o := by
  subst hp
  intro r m1 hv p e s m args below meth c H locs ls hx hb hml hr hown hlk hts hC hP hS hl
  exact lv_lsub hx hb hd  (k r m1 hv p e s m args below meth c H locs ls hx hb hml hr hown hlk hts hC hP hS hl)
theorem ev_lmul {x y : Int64} (hd : decode cc pc = .ok (.lmul, 1)) (hp : pc + 1 = q)  (k : EvR tv G cc nL ret own d q lv (.long (x * y) :: st) mem o) : EvR tv G cc nL ret own d pc lv (.long y :: .long x :: st) mem o := by
  subst hp
  intro r m1 hv p e s m args below meth c H locs ls hx hb hml hr hown hlk hts hC hP hS hl
  exact lv_lmul hx hb hd  (k r m1 hv p e s m args below meth c H locs ls hx hb hml hr hown hlk hts hC hP hS hl)
theorem ev_i2l {x : Int32} (hd : decode cc pc = .ok (.i2l, 1)) (hp : pc + 1 = q)  (k : EvR tv G cc nL ret own d q lv (.long x.toInt64 :: st) mem o) : EvR tv G cc nL ret own d pc lv (.int x :: st) mem o := by
  subst hp
  intro r m1 hv p e s m args below meth c H locs ls hx hb hml hr hown hlk hts hC hP hS hl
  exact lv_i2l hx hb hd rfl (k r m1 hv p e s m args below meth c H locs ls hx hb hml hr hown hlk hts hC hP hS hl)
theorem ev_l2i {x : Int64} (hd : decode cc pc = .ok (.l2i, 1)) (hp : pc + 1 = q)  (k : EvR tv G cc nL ret own d q lv (.int x.toInt32 :: st) mem o) : EvR tv G cc nL ret own d pc lv (.long x :: st) mem o := by
  subst hp
  intro r m1 hv p e s m args below meth c H locs ls hx hb hml hr hown hlk hts hC hP hS hl
  exact lv_l2i hx hb hd rfl (k r m1 hv p e s m args below meth c H locs ls hx hb hml hr hown hlk hts hC hP hS hl)
theorem ev_i2b {x : Int32} (hd : decode cc pc = .ok (.i2b, 1)) (hp : pc + 1 = q)  (k : EvR tv G cc nL ret own d q lv (.int x.toInt8.toInt32 :: st) mem o) : EvR tv G cc nL ret own d pc lv (.int x :: st) mem o := by
  subst hp
  intro r m1 hv p e s m args below meth c H locs ls hx hb hml hr hown hlk hts hC hP hS hl
  exact lv_i2b hx hb hd rfl (k r m1 hv p e s m args below meth c H locs ls hx hb hml hr hown hlk hts hC hP hS hl)
theorem ev_i2s {x : Int32} (hd : decode cc pc = .ok (.i2s, 1)) (hp : pc + 1 = q)  (k : EvR tv G cc nL ret own d q lv (.int x.toInt16.toInt32 :: st) mem o) : EvR tv G cc nL ret own d pc lv (.int x :: st) mem o := by
  subst hp
  intro r m1 hv p e s m args below meth c H locs ls hx hb hml hr hown hlk hts hC hP hS hl
  exact lv_i2s hx hb hd rfl (k r m1 hv p e s m args below meth c H locs ls hx hb hml hr hown hlk hts hC hP hS hl)
theorem ev_dup {va : Value} (hd : decode cc pc = .ok (.dup, 1)) (hp : pc + 1 = q) (hva : va.category = 1) (k : EvR tv G cc nL ret own d q lv (va :: va :: st) mem o) : EvR tv G cc nL ret own d pc lv (va :: st) mem o := by
  subst hp
  intro r m1 hv p e s m args below meth c H locs ls hx hb hml hr hown hlk hts hC hP hS hl
  exact lv_dup hx hb hd hva (k r m1 hv p e s m args below meth c H locs ls hx hb hml hr hown hlk hts hC hP hS hl)
theorem ev_dup2_11 {va vb : Value} (hd : decode cc pc = .ok (.dup2, 1)) (hp : pc + 1 = q) (hva : va.category = 1) (hvb : vb.category = 1) (k : EvR tv G cc nL ret own d q lv (va :: vb :: va :: vb :: st) mem o) : EvR tv G cc nL ret own d pc lv (va :: vb :: st) mem o := by
  subst hp
  intro r m1 hv p e s m args below meth c H locs ls hx hb hml hr hown hlk hts hC hP hS hl
  exact lv_dup2_11 hx hb hd hva hvb (k r m1 hv p e s m args below meth c H locs ls hx hb hml hr hown hlk hts hC hP hS hl)
theorem ev_lcmp {x y : Int64} (hd : decode cc pc = .ok (.lcmp, 1)) (hp : pc + 1 = q)  (k : EvR tv G cc nL ret own d q lv (.int (lg_cmp x y) :: st) mem o) : EvR tv G cc nL ret own d pc lv (.long y :: .long x :: st) mem o := by
  subst hp
  intro r m1 hv p e s m args below meth c H locs ls hx hb hml hr hown hlk hts hC hP hS hl
  exact W.lcmp hx hb hd (k r m1 hv p e s m args below meth c H locs ls hx hb hml hr hown hlk hts hC hP hS hl)
theorem ev_idiv {x y : Int32} (hd : decode cc pc = .ok (.idiv, 1)) (hp : pc + 1 = q) (k : EvR tv G cc nL ret own d q lv (.int (x / y) :: st) mem o) : EvR tv G cc nL ret own d pc lv (.int y :: .int x :: st) mem (chk (¬ y = 0) o) := by
  subst hp
  refine ev_chk fun hne => ?_
  intro r m1 hv p e s m args below meth c H locs ls hx hb hml hr hown hlk hts hC hP hS hl
  exact lv_idiv hx hb hd hne (k r m1 hv p e s m args below meth c H locs ls hx hb hml hr hown hlk hts hC hP hS hl)
theorem ev_irem {x y : Int32} (hd : decode cc pc = .ok (.irem, 1)) (hp : pc + 1 = q) (k : EvR tv G cc nL ret own d q lv (.int (x - x / y * y) :: st) mem o) : EvR tv G cc nL ret own d pc lv (.int y :: .int x :: st) mem (chk (¬ y = 0) o) := by
  subst hp
  refine ev_chk fun hne => ?_
  intro r m1 hv p e s m args below meth c H locs ls hx hb hml hr hown hlk hts hC hP hS hl
  exact lv_irem hx hb hd hne (k r m1 hv p e s m args below meth c H locs ls hx hb hml hr hown hlk hts hC hP hS hl)
theorem ev_ldiv {x y : Int64} (hd : decode cc pc = .ok (.ldiv, 1)) (hp : pc + 1 = q) (k : EvR tv G cc nL ret own d q lv (.long (x / y) :: st) mem o) : EvR tv G cc nL ret own d pc lv (.long y :: .long x :: st) mem (chk (¬ y = 0) o) := by
  subst hp
  refine ev_chk fun hne => ?_
  intro r m1 hv p e s m args below meth c H locs ls hx hb hml hr hown hlk hts hC hP hS hl
  exact lv_ldiv hx hb hd hne (k r m1 hv p e s m args below meth c H locs ls hx hb hml hr hown hlk hts hC hP hS hl)
theorem ev_lrem {x y : Int64} (hd : decode cc pc = .ok (.lrem, 1)) (hp : pc + 1 = q) (k : EvR tv G cc nL ret own d q lv (.long (x - x / y * y) :: st) mem o) : EvR tv G cc nL ret own d pc lv (.long y :: .long x :: st) mem (chk (¬ y = 0) o) := by
  subst hp
  refine ev_chk fun hne => ?_
  intro r m1 hv p e s m args below meth c H locs ls hx hb hml hr hown hlk hts hC hP hS hl
  exact lv_lrem hx hb hd hne (k r m1 hv p e s m args below meth c H locs ls hx hb hml hr hown hlk hts hC hP hS hl)
theorem ev_iload_n {n : Fin 4} {i : Nat} {x : Int32} (hd : decode cc pc = .ok (.iload_n n, 1)) (hi : (n : Nat) = i) (j : Nat) (hp : pc + 1 = q) (hj : lv[j]? = some (i, .int x)) (k : EvR tv G cc nL ret own d q lv (.int x :: st) mem o) : EvR tv G cc nL ret own d pc lv st mem o := by
  subst hp
  intro r m1 hv p e s m args below meth c H locs ls hx hb hml hr hown hlk hts hC hP hS hl
  exact lv_iload_n hx hb hd hi (lv_at hl j hj) (k r m1 hv p e s m args below meth c H locs ls hx hb hml hr hown hlk hts hC hP hS hl)
theorem ev_iload {i : Nat} {x : Int32} (hd : decode cc pc = .ok (.iload i, 2)) (j : Nat) (hp : pc + 2 = q) (hj : lv[j]? = some (i, .int x)) (k : EvR tv G cc nL ret own d q lv (.int x :: st) mem o) : EvR tv G cc nL ret own d pc lv st mem o := by
  subst hp
  intro r m1 hv p e s m args below meth c H locs ls hx hb hml hr hown hlk hts hC hP hS hl
  exact lv_iload hx hb hd (lv_at hl j hj) (k r m1 hv p e s m args below meth c H locs ls hx hb hml hr hown hlk hts hC hP hS hl)
theorem ev_lload_n {n : Fin 4} {i : Nat} {x : Int64} (hd : decode cc pc = .ok (.lload_n n, 1)) (hi : (n : Nat) = i) (j : Nat) (hp : pc + 1 = q) (hj : lv[j]? = some (i, .long x)) (k : EvR tv G cc nL ret own d q lv (.long x :: st) mem o) : EvR tv G cc nL ret own d pc lv st mem o := by
  subst hp
  intro r m1 hv p e s m args below meth c H locs ls hx hb hml hr hown hlk hts hC hP hS hl
  exact lv_lload_n hx hb hd hi (lv_at hl j hj) (k r m1 hv p e s m args below meth c H locs ls hx hb hml hr hown hlk hts hC hP hS hl)
theorem ev_lload {i : Nat} {x : Int64} (hd : decode cc pc = .ok (.lload i, 2)) (j : Nat) (hp : pc + 2 = q) (hj : lv[j]? = some (i, .long x)) (k : EvR tv G cc nL ret own d q lv (.long x :: st) mem o) : EvR tv G cc nL ret own d pc lv st mem o := by
  subst hp
  intro r m1 hv p e s m args below meth c H locs ls hx hb hml hr hown hlk hts hC hP hS hl
  exact lv_lload hx hb hd (lv_at hl j hj) (k r m1 hv p e s m args below meth c H locs ls hx hb hml hr hown hlk hts hC hP hS hl)
theorem ev_aload_n {n : Fin 4} {i : Nat} {x : Nat} (hd : decode cc pc = .ok (.aload_n n, 1)) (hi : (n : Nat) = i) (j : Nat) (hp : pc + 1 = q) (hj : lv[j]? = some (i, .ref x)) (k : EvR tv G cc nL ret own d q lv (.ref x :: st) mem o) : EvR tv G cc nL ret own d pc lv st mem o := by
  subst hp
  intro r m1 hv p e s m args below meth c H locs ls hx hb hml hr hown hlk hts hC hP hS hl
  exact lv_aload_n hx hb hd hi (lv_at hl j hj) (k r m1 hv p e s m args below meth c H locs ls hx hb hml hr hown hlk hts hC hP hS hl)
theorem ev_aload {i : Nat} {x : Nat} (hd : decode cc pc = .ok (.aload i, 2)) (j : Nat) (hp : pc + 2 = q) (hj : lv[j]? = some (i, .ref x)) (k : EvR tv G cc nL ret own d q lv (.ref x :: st) mem o) : EvR tv G cc nL ret own d pc lv st mem o := by
  subst hp
  intro r m1 hv p e s m args below meth c H locs ls hx hb hml hr hown hlk hts hC hP hS hl
  exact lv_aload hx hb hd (lv_at hl j hj) (k r m1 hv p e s m args below meth c H locs ls hx hb hml hr hown hlk hts hC hP hS hl)
theorem ev_istore_n {n : Fin 4} {i : Nat} {x : Int32} (hd : decode cc pc = .ok (.istore_n n, 1)) (hi : (n : Nat) = i) (hp : pc + 1 = q) (hn : i < nL) (hf : (i, Value.int x) :: lv.filter (fun q => !(q.1 == i) && !(q.1 + 1 == i && q.2.category == 2)) = lv2) (k : EvR tv G cc nL ret own d q lv2 st mem o) : EvR tv G cc nL ret own d pc lv (.int x :: st) mem o := by
  subst hp
  intro r m1 hv p e s m args below meth c H locs ls hx hb hml hr hown hlk hts hC hP hS hl
  exact lv_istore_n hx hb hd hi hl hn hf (fun ls hl => k r m1 hv p e s m args below meth c H locs ls hx hb hml hr hown hlk hts hC hP hS hl)
theorem ev_istore {i : Nat} {x : Int32} (hd : decode cc pc = .ok (.istore i, 2)) (hp : pc + 2 = q) (hn : i < nL) (hf : (i, Value.int x) :: lv.filter (fun q => !(q.1 == i) && !(q.1 + 1 == i && q.2.category == 2)) = lv2) (k : EvR tv G cc nL ret own d q lv2 st mem o) : EvR tv G cc nL ret own d pc lv (.int x :: st) mem o := by
  subst hp
  intro r m1 hv p e s m args below meth c H locs ls hx hb hml hr hown hlk hts hC hP hS hl
  exact lv_istore hx hb hd hl hn hf (fun ls hl => k r m1 hv p e s m args below meth c H locs ls hx hb hml hr hown hlk hts hC hP hS hl)
theorem ev_lstore_n {n : Fin 4} {i : Nat} {x : Int64} (hd : decode cc pc = .ok (.lstore_n n, 1)) (hi : (n : Nat) = i) (hp : pc + 1 = q) (hn : i + 1 < nL) (hf : (i, Value.long x) :: lv.filter (fun q => !(q.1 == i) && (!(q.1 == i + 1) && !(q.1 + 1 == i && q.2.category == 2))) = lv2) (k : EvR tv G cc nL ret own d q lv2 st mem o) : EvR tv G cc nL ret own d pc lv (.long x :: st) mem o := by
  subst hp
  intro r m1 hv p e s m args below meth c H locs ls hx hb hml hr hown hlk hts hC hP hS hl
  exact lv_lstore_n hx hb hd hi hl hn hf (fun ls hl => k r m1 hv p e s m args below meth c H locs ls hx hb hml hr hown hlk hts hC hP hS hl)
theorem ev_lstore {i : Nat} {x : Int64} (hd : decode cc pc = .ok (.lstore i, 2)) (hp : pc + 2 = q) (hn : i + 1 < nL) (hf : (i, Value.long x) :: lv.filter (fun q => !(q.1 == i) && (!(q.1 == i + 1) && !(q.1 + 1 == i && q.2.category == 2))) = lv2) (k : EvR tv G cc nL ret own d q lv2 st mem o) : EvR tv G cc nL ret own d pc lv (.long x :: st) mem o := by
  subst hp
  intro r m1 hv p e s m args below meth c H locs ls hx hb hml hr hown hlk hts hC hP hS hl
  exact lv_lstore hx hb hd hl hn hf (fun ls hl => k r m1 hv p e s m args below meth c H locs ls hx hb hml hr hown hlk hts hC hP hS hl)
theorem ev_iinc {i : Nat} {n : Int} {x v : Int32} (hd : decode cc pc = .ok (.iinc i n, 3)) (j : Nat) (hp : pc + 3 = q) (hj : lv[j]? = some (i, .int x)) (hv0 : x + Int32.ofInt n = v) (hn : i < nL) (hf : (i, Value.int v) :: lv.filter (fun q => !(q.1 == i) && !(q.1 + 1 == i && q.2.category == 2)) = lv2) (k : EvR tv G cc nL ret own d q lv2 st mem o) : EvR tv G cc nL ret own d pc lv st mem o := by
  subst hp
  intro r m1 hv p e s m args below meth c H locs ls hx hb hml hr hown hlk hts hC hP hS hl
  exact lv_iinc hx hb hd hl hj hv0 hn hf (fun ls hl => k r m1 hv p e s m args below meth c H locs ls hx hb hml hr hown hlk hts hC hP hS hl)
theorem ev_goto {off : Int} {t : Nat} (hd : decode cc pc = .ok (.goto off, 3)) (ht : (pc : Int) + off = (t : Int)) (k : EvR tv G cc nL ret own d t lv st mem o) : EvR tv G cc nL ret own d pc lv st mem o := by
  intro r m1 hv p e s m args below meth c H locs ls hx hb hml hr hown hlk hts hC hP hS hl
  exact lv_goto hx hb hd ht (k r m1 hv p e s m args below meth c H locs ls hx hb hml hr hown hlk hts hC hP hS hl)
theorem ev_if_eq {x : Int32} {off : Int} {t : Nat} (hd : decode cc pc = .ok (.ifCond .eq off, 3)) (ht : (pc : Int) + off = (t : Int)) (hp : pc + 3 = q) (k1 : x = 0 → EvR tv G cc nL ret own d t lv st mem o) (k2 : ¬ (x = 0) → EvR tv G cc nL ret own d q lv st mem o2) : EvR tv G cc nL ret own d pc lv (.int x :: st) mem (if x = 0 then o else o2) := by
  subst hp
  intro r m1 hv p e s m args below meth c H locs ls hx hb hml hr hown hlk hts hC hP hS hl
  exact lv_if_eq hx hb hd ht (fun hc => (k1 hc) r m1 (by rw [if_pos hc] at hv; exact hv) p e s m args below meth c H locs ls hx hb hml hr hown hlk hts hC hP hS hl) (fun hc => (k2 hc) r m1 (by rw [if_neg hc] at hv; exact hv) p e s m args below meth c H locs ls hx hb hml hr hown hlk hts hC hP hS hl)
theorem ev_icmp_eq {x y : Int32} {off : Int} {t : Nat} (hd : decode cc pc = .ok (.if_icmp .eq off, 3)) (ht : (pc : Int) + off = (t : Int)) (hp : pc + 3 = q) (k1 : x = y → EvR tv G cc nL ret own d t lv st mem o) (k2 : ¬ (x = y) → EvR tv G cc nL ret own d q lv st mem o2) : EvR tv G cc nL ret own d pc lv (.int y :: .int x :: st) mem (if x = y then o else o2) := by
  subst hp
  intro r m1 hv p e s m args below meth c H locs ls hx hb hml hr hown hlk hts hC hP hS hl
  exact lv_icmp_eq hx hb hd ht (fun hc => (k1 hc) r m1 (by rw [if_pos hc] at hv; exact hv) p e s m args below meth c H locs ls hx hb hml hr hown hlk hts hC hP hS hl) (fun hc => (k2 hc) r m1 (by rw [if_neg hc] at hv; exact hv) p e s m args below meth c H locs ls hx hb hml hr hown hlk hts hC hP hS hl)
theorem ev_if_ne {x : Int32} {off : Int} {t : Nat} (hd : decode cc pc = .ok (.ifCond .ne off, 3)) (ht : (pc : Int) + off = (t : Int)) (hp : pc + 3 = q) (k2 : x = 0 → EvR tv G cc nL ret own d q lv st mem o2) (k1 : ¬ (x = 0) → EvR tv G cc nL ret own d t lv st mem o) : EvR tv G cc nL ret own d pc lv (.int x :: st) mem (if x = 0 then o2 else o) := by
  subst hp
  intro r m1 hv p e s m args below meth c H locs ls hx hb hml hr hown hlk hts hC hP hS hl
  exact lv_if_ne hx hb hd ht (fun hc => (k1 hc) r m1 (by rw [if_neg hc] at hv; exact hv) p e s m args below meth c H locs ls hx hb hml hr hown hlk hts hC hP hS hl) (fun hc => (k2 hc) r m1 (by rw [if_pos hc] at hv; exact hv) p e s m args below meth c H locs ls hx hb hml hr hown hlk hts hC hP hS hl)
theorem ev_icmp_ne {x y : Int32} {off : Int} {t : Nat} (hd : decode cc pc = .ok (.if_icmp .ne off, 3)) (ht : (pc : Int) + off = (t : Int)) (hp : pc + 3 = q) (k2 : x = y → EvR tv G cc nL ret own d q lv st mem o2) (k1 : ¬ (x = y) → EvR tv G cc nL ret own d t lv st mem o) : EvR tv G cc nL ret own d pc lv (.int y :: .int x :: st) mem (if x = y then o2 else o) := by
  subst hp
  intro r m1 hv p e s m args below meth c H locs ls hx hb hml hr hown hlk hts hC hP hS hl
  exact lv_icmp_ne hx hb hd ht (fun hc => (k1 hc) r m1 (by rw [if_neg hc] at hv; exact hv) p e s m args below meth c H locs ls hx hb hml hr hown hlk hts hC hP hS hl) (fun hc => (k2 hc) r m1 (by rw [if_pos hc] at hv; exact hv) p e s m args below meth c H locs ls hx hb hml hr hown hlk hts hC hP hS hl)
theorem ev_if_lt {x : Int32} {off : Int} {t : Nat} (hd : decode cc pc = .ok (.ifCond .lt off, 3)) (ht : (pc : Int) + off = (t : Int)) (hp : pc + 3 = q) (k1 : x < 0 → EvR tv G cc nL ret own d t lv st mem o) (k2 : ¬ (x < 0) → EvR tv G cc nL ret own d q lv st mem o2) : EvR tv G cc nL ret own d pc lv (.int x :: st) mem (if x < 0 then o else o2) := by
  subst hp
  intro r m1 hv p e s m args below meth c H locs ls hx hb hml hr hown hlk hts hC hP hS hl
  exact lv_if_lt hx hb hd ht (fun hc => (k1 hc) r m1 (by rw [if_pos hc] at hv; exact hv) p e s m args below meth c H locs ls hx hb hml hr hown hlk hts hC hP hS hl) (fun hc => (k2 hc) r m1 (by rw [if_neg hc] at hv; exact hv) p e s m args below meth c H locs ls hx hb hml hr hown hlk hts hC hP hS hl)
theorem ev_icmp_lt {x y : Int32} {off : Int} {t : Nat} (hd : decode cc pc = .ok (.if_icmp .lt off, 3)) (ht : (pc : Int) + off = (t : Int)) (hp : pc + 3 = q) (k1 : x < y → EvR tv G cc nL ret own d t lv st mem o) (k2 : ¬ (x < y) → EvR tv G cc nL ret own d q lv st mem o2) : EvR tv G cc nL ret own d pc lv (.int y :: .int x :: st) mem (if x < y then o else o2) := by
  subst hp
  intro r m1 hv p e s m args below meth c H locs ls hx hb hml hr hown hlk hts hC hP hS hl
  exact lv_icmp_lt hx hb hd ht (fun hc => (k1 hc) r m1 (by rw [if_pos hc] at hv; exact hv) p e s m args below meth c H locs ls hx hb hml hr hown hlk hts hC hP hS hl) (fun hc => (k2 hc) r m1 (by rw [if_neg hc] at hv; exact hv) p e s m args below meth c H locs ls hx hb hml hr hown hlk hts hC hP hS hl)
theorem ev_if_ge {x : Int32} {off : Int} {t : Nat} (hd : decode cc pc = .ok (.ifCond .ge off, 3)) (ht : (pc : Int) + off = (t : Int)) (hp : pc + 3 = q) (k2 : x < 0 → EvR tv G cc nL ret own d q lv st mem o2) (k1 : ¬ (x < 0) → EvR tv G cc nL ret own d t lv st mem o) : EvR tv G cc nL ret own d pc lv (.int x :: st) mem (if x < 0 then o2 else o) := by
  subst hp
  intro r m1 hv p e s m args below meth c H locs ls hx hb hml hr hown hlk hts hC hP hS hl
  exact lv_if_ge hx hb hd ht (fun hc => (k1 (by first | exact Int32.not_lt.mpr hc)) r m1 (by rw [if_neg (by first | exact Int32.not_lt.mpr hc)] at hv; exact hv) p e s m args below meth c H locs ls hx hb hml hr hown hlk hts hC hP hS hl) (fun hc => (k2 (by first | exact Int32.not_le.mp hc)) r m1 (by rw [if_pos (by first | exact Int32.not_le.mp hc)] at hv; exact hv) p e s m args below meth c H locs ls hx hb hml hr hown hlk hts hC hP hS hl)
theorem ev_icmp_ge {x y : Int32} {off : Int} {t : Nat} (hd : decode cc pc = .ok (.if_icmp .ge off, 3)) (ht : (pc : Int) + off = (t : Int)) (hp : pc + 3 = q) (k2 : x < y → EvR tv G cc nL ret own d q lv st mem o2) (k1 : ¬ (x < y) → EvR tv G cc nL ret own d t lv st mem o) : EvR tv G cc nL ret own d pc lv (.int y :: .int x :: st) mem (if x < y then o2 else o) := by
  subst hp
  intro r m1 hv p e s m args below meth c H locs ls hx hb hml hr hown hlk hts hC hP hS hl
  exact lv_icmp_ge hx hb hd ht (fun hc => (k1 (by first | exact Int32.not_lt.mpr hc)) r m1 (by rw [if_neg (by first | exact Int32.not_lt.mpr hc)] at hv; exact hv) p e s m args below meth c H locs ls hx hb hml hr hown hlk hts hC hP hS hl) (fun hc => (k2 (by first | exact Int32.not_le.mp hc)) r m1 (by rw [if_pos (by first | exact Int32.not_le.mp hc)] at hv; exact hv) p e s m args below meth c H locs ls hx hb hml hr hown hlk hts hC hP hS hl)
theorem ev_if_gt {x : Int32} {off : Int} {t : Nat} (hd : decode cc pc = .ok (.ifCond .gt off, 3)) (ht : (pc : Int) + off = (t : Int)) (hp : pc + 3 = q) (k1 : 0 < x → EvR tv G cc nL ret own d t lv st mem o) (k2 : ¬ (0 < x) → EvR tv G cc nL ret own d q lv st mem o2) : EvR tv G cc nL ret own d pc lv (.int x :: st) mem (if 0 < x then o else o2) := by
  subst hp
  intro r m1 hv p e s m args below meth c H locs ls hx hb hml hr hown hlk hts hC hP hS hl
  exact lv_if_gt hx hb hd ht (fun hc => (k1 hc) r m1 (by rw [if_pos hc] at hv; exact hv) p e s m args below meth c H locs ls hx hb hml hr hown hlk hts hC hP hS hl) (fun hc => (k2 hc) r m1 (by rw [if_neg hc] at hv; exact hv) p e s m args below meth c H locs ls hx hb hml hr hown hlk hts hC hP hS hl)
theorem ev_icmp_gt {x y : Int32} {off : Int} {t : Nat} (hd : decode cc pc = .ok (.if_icmp .gt off, 3)) (ht : (pc : Int) + off = (t : Int)) (hp : pc + 3 = q) (k1 : y < x → EvR tv G cc nL ret own d t lv st mem o) (k2 : ¬ (y < x) → EvR tv G cc nL ret own d q lv st mem o2) : EvR tv G cc nL ret own d pc lv (.int y :: .int x :: st) mem (if y < x then o else o2) := by
  subst hp
  intro r m1 hv p e s m args below meth c H locs ls hx hb hml hr hown hlk hts hC hP hS hl
  exact lv_icmp_gt hx hb hd ht (fun hc => (k1 hc) r m1 (by rw [if_pos hc] at hv; exact hv) p e s m args below meth c H locs ls hx hb hml hr hown hlk hts hC hP hS hl) (fun hc => (k2 hc) r m1 (by rw [if_neg hc] at hv; exact hv) p e s m args below meth c H locs ls hx hb hml hr hown hlk hts hC hP hS hl)
theorem ev_if_le {x : Int32} {off : Int} {t : Nat} (hd : decode cc pc = .ok (.ifCond .le off, 3)) (ht : (pc : Int) + off = (t : Int)) (hp : pc + 3 = q) (k2 : 0 < x → EvR tv G cc nL ret own d q lv st mem o2) (k1 : ¬ (0 < x) → EvR tv G cc nL ret own d t lv st mem o) : EvR tv G cc nL ret own d pc lv (.int x :: st) mem (if 0 < x then o2 else o) := by
  subst hp
  intro r m1 hv p e s m args below meth c H locs ls hx hb hml hr hown hlk hts hC hP hS hl
  exact lv_if_le hx hb hd ht (fun hc => (k1 (Int32.not_lt.mpr hc)) r m1 (by rw [if_neg (Int32.not_lt.mpr hc)] at hv; exact hv) p e s m args below meth c H locs ls hx hb hml hr hown hlk hts hC hP hS hl) (fun hc => (k2 (Int32.not_le.mp hc)) r m1 (by rw [if_pos (Int32.not_le.mp hc)] at hv; exact hv) p e s m args below meth c H locs ls hx hb hml hr hown hlk hts hC hP hS hl)
theorem ev_icmp_le {x y : Int32} {off : Int} {t : Nat} (hd : decode cc pc = .ok (.if_icmp .le off, 3)) (ht : (pc : Int) + off = (t : Int)) (hp : pc + 3 = q) (k2 : y < x → EvR tv G cc nL ret own d q lv st mem o2) (k1 : ¬ (y < x) → EvR tv G cc nL ret own d t lv st mem o) : EvR tv G cc nL ret own d pc lv (.int y :: .int x :: st) mem (if y < x then o2 else o) := by
  subst hp
  intro r m1 hv p e s m args below meth c H locs ls hx hb hml hr hown hlk hts hC hP hS hl
  exact lv_icmp_le hx hb hd ht (fun hc => (k1 (Int32.not_lt.mpr hc)) r m1 (by rw [if_neg (Int32.not_lt.mpr hc)] at hv; exact hv) p e s m args below meth c H locs ls hx hb hml hr hown hlk hts hC hP hS hl) (fun hc => (k2 (Int32.not_le.mp hc)) r m1 (by rw [if_pos (Int32.not_le.mp hc)] at hv; exact hv) p e s m args below meth c H locs ls hx hb hml hr hown hlk hts hC hP hS hl)
theorem ev_ldc {index : Nat} {v : Int32} (hd : decode cc pc = .ok (.ldc index, 2)) (hp : pc + 2 = q) (hw : Cond.constant own index v ∈ AW) (k : EvR tv G cc nL ret own d q lv (.int v :: st) mem o) : EvR tv G cc nL ret own d pc lv st mem o := by
  subst hp
  intro r m1 hv p e s m args below meth c H locs ls hx hb hml hr hown hlk hts hC hP hS hl
  exact lv_ldc hx hb hown (hts _ hw) hd (k r m1 hv p e s m args below meth c H locs ls hx hb hml hr hown hlk hts hC hP hS hl)
theorem ev_ldcw {index : Nat} {v : Int32} (hd : decode cc pc = .ok (.ldc_w index, 3)) (hp : pc + 3 = q) (hw : Cond.constant own index v ∈ AW) (k : EvR tv G cc nL ret own d q lv (.int v :: st) mem o) : EvR tv G cc nL ret own d pc lv st mem o := by
  subst hp
  intro r m1 hv p e s m args below meth c H locs ls hx hb hml hr hown hlk hts hC hP hS hl
  exact lv_ldcw hx hb hown (hts _ hw) hd (k r m1 hv p e s m args below meth c H locs ls hx hb hml hr hown hlk hts hC hP hS hl)
theorem ev_ldc2 {index : Nat} {v : Int64} (hd : decode cc pc = .ok (.ldc2_w index, 3)) (hp : pc + 3 = q) (hw : Cond.constantLong own index v ∈ AW) (k : EvR tv G cc nL ret own d q lv (.long v :: st) mem o) : EvR tv G cc nL ret own d pc lv st mem o := by
  subst hp
  intro r m1 hv p e s m args below meth c H locs ls hx hb hml hr hown hlk hts hC hP hS hl
  exact lv_ldc2 hx hb hown (hts _ hw) hd (k r m1 hv p e s m args below meth c H locs ls hx hb hml hr hown hlk hts hC hP hS hl)
-- switches: one arm at a time
theorem ev_tsIn {dflt lo hi : Int} {offs : Array Int} {len : Nat} {x : Int32} {off : Int} {t : Nat} (hd : decode cc pc = .ok (.tableswitch dflt lo hi offs, len)) (h1 : ¬ x.toInt < lo) (h2 : ¬ hi < x.toInt) (ho : offs[(x.toInt - lo).toNat]? = some off) (ht : (pc : Int) + off = (t : Int)) (k : EvR tv G cc nL ret own d t lv st mem o) : EvR tv G cc nL ret own d pc lv (.int x :: st) mem o := by
  intro r m1 hv p e s m args below meth c H locs ls hx hb hml hr hown hlk hts hC hP hS hl
  exact lv_tableIn hx hb hd h1 h2 ho ht (k r m1 hv p e s m args below meth c H locs ls hx hb hml hr hown hlk hts hC hP hS hl)
theorem ev_tsOut {dflt lo hi : Int} {offs : Array Int} {len : Nat} {x : Int32} {t : Nat} (hd : decode cc pc = .ok (.tableswitch dflt lo hi offs, len)) (h : x.toInt < lo ∨ hi < x.toInt) (ht : (pc : Int) + dflt = (t : Int)) (k : EvR tv G cc nL ret own d t lv st mem o) : EvR tv G cc nL ret own d pc lv (.int x :: st) mem o := by
  intro r m1 hv p e s m args below meth c H locs ls hx hb hml hr hown hlk hts hC hP hS hl
  exact lv_tableOut hx hb hd h ht (k r m1 hv p e s m args below meth c H locs ls hx hb hml hr hown hlk hts hC hP hS hl)
theorem ev_look {dflt : Int} {ps : Array (Int × Int)} {len : Nat} {x : Int32} {off : Int} {t : Nat} (hd : decode cc pc = .ok (.lookupswitch dflt ps, len)) (hp : (ps.toList.zip (ps.toList.drop 1)).all (fun (a, next) => a.1 < next.1) = true) (ho : Op.lookupswitch.offset ps.toList dflt x.toInt = off) (ht : (pc : Int) + off = (t : Int)) (k : EvR tv G cc nL ret own d t lv st mem o) : EvR tv G cc nL ret own d pc lv (.int x :: st) mem o := by
  intro r m1 hv p e s m args below meth c H locs ls hx hb hml hr hown hlk hts hC hP hS hl
  exact lv_lookup hx hb hd hp ho ht (k r m1 hv p e s m args below meth c H locs ls hx hb hml hr hown hlk hts hC hP hS hl)
-- fields
theorem ev_getV {index : Nat} {C : String} {T : u_T} {ci k0 j : Nat} {v : Value} (hd : decode cc pc = .ok (.getfield index, 3)) (hp : pc + 3 = q) (F : CF ci C T) (hk : kd k0 = ci) (hj : j < nf ci) (hci : ci < 100) (hL : FL own index (T j).1 (T j).2.1 (T j).2.2.1) (hv0 : fV G k0 (mem k0) j = v) (k : EvR tv G cc nL ret own d q lv (v :: st) mem o) : EvR tv G cc nL ret own d pc lv (.ref (gA G k0) :: st) mem o := by
  subst hp
  intro r m1 hv p e s m args below meth c H locs ls hx hb hml hr hown hlk hts hC hP hS hl
  obtain ⟨hc, hin, -, -⟩ := F
  have he := cells_at (G := G) (mem := mem) (kd_lt hk (by omega))
  rw [cellE_o hk hci] at he
  have hfs := fs_at (G := G) (k := k0) (row := mem k0) hj
  rw [hv0] at hfs
  rcases hL with h | ⟨host, h⟩
  · exact va_get hx hb hts hin hown hC.1 hP k0 he hc j hj (hts _ h) (fun x h => h) hfs hd (k r m1 hv p e s m args below meth c H locs ls hx hb hml hr hown hlk hts hC hP hS hl)
  · exact va_getN hx hb hts hin hown hC.1 hP k0 he hc j hj (va_Nw.use (by first | rfl | decide) (hC.2.1 _ h)) (fun x h => h) hfs hd (k r m1 hv p e s m args below meth c H locs ls hx hb hml hr hown hlk hts hC hP hS hl)
theorem ev_getI {index : Nat} {C : String} {T : u_T} {ci k0 j : Nat} (hd : decode cc pc = .ok (.getfield index, 3)) (hp : pc + 3 = q) (F : CF ci C T) (hk : kd k0 = ci) (hj : j < nf ci) (hci : ci < 100) (hL : FL own index (T j).1 (T j).2.1 (T j).2.2.1) (hi : ir ci j = false) (k : EvR tv G cc nL ret own d q lv (.int (mem k0 j) :: st) mem o) : EvR tv G cc nL ret own d pc lv (.ref (gA G k0) :: st) mem o :=
  ev_getV hd hp F hk hj hci hL (by unfold fV; rw [hk, hi]; rfl) k
theorem ev_getR {index : Nat} {C : String} {T : u_T} {ci k0 j : Nat} (hd : decode cc pc = .ok (.getfield index, 3)) (hp : pc + 3 = q) (F : CF ci C T) (hk : kd k0 = ci) (hj : j < nf ci) (hci : ci < 100) (hL : FL own index (T j).1 (T j).2.1 (T j).2.2.1) (hi : ir ci j = true) (k : EvR tv G cc nL ret own d q lv (.ref (gA G (rf k0 j)) :: st) mem o) : EvR tv G cc nL ret own d pc lv (.ref (gA G k0) :: st) mem o :=
  ev_getV hd hp F hk hj hci hL (by unfold fV; rw [hk, hi]; rfl) k
theorem ev_putV {index : Nat} {C : String} {T : u_T} {ci k0 j : Nat} {x : Int32} {ty : FieldType} (hd : decode cc pc = .ok (.putfield index, 3)) (hp : pc + 3 = q) (F : CF ci C T) (hk : kd k0 = ci) (hj : j < nf ci) (hci : ci < 100) (hL : FL own index (T j).1 (T j).2.1 (T j).2.2.1) (hi : ir ci j = false) (hfin : (T j).2.2.2 = false) (hty : parseFieldDescriptor (T j).2.2.1 = some ty) (hn : narrow ty (.int x) = .int x) (hfit : fits ty (.int x) = true) (k : EvR tv G cc nL ret own d q lv st (st2 mem k0 j x) o) : EvR tv G cc nL ret own d pc lv (.int x :: .ref (gA G k0) :: st) mem o := by
  subst hp
  intro r m1 hv p e s m args below meth c H locs ls hx hb hml hr hown hlk hts hC hP hS hl
  obtain ⟨hc, hin, ⟨ty0, hty0⟩, hnm⟩ := F
  have hlt := kd_lt hk (by omega)
  have he := cells_at (G := G) (mem := mem) hlt
  rw [cellE_o hk hci] at he
  have fin : ∀ (H1 : Heap) (locs1 : List Loc), va_P (gD G) vwCl ((cells G mem).set k0 (gA G k0, .inr (ci, ((List.range (nf ci)).map (fV G k0 (mem k0))).set j (.int x)))) H1 → va_S (gF G) s.heap H1 locs1 → W p (gL G) e (rmOf d) s m args below meth c H1 locs1 0 0 (MQ below (EQ G (tv r) m1) args s 0 0 (gF G)) (F0 m (pc + 3) ls st) := by
    intro H1 locs1 hP1 hS1
    rw [fs_set hk hi, ← cellE_o (G := G) hk hci, cells_set hlt] at hP1
    exact k r m1 hv p e s m args below meth c H1 locs1 ls hx hb hml hr hown hlk hts hC hP1 hS1 hl
  rcases hL with h | ⟨host, h⟩
  · exact va_put hx hb hts hin ty0 hty0 hnm hown hC.1 hP (hC.D mem) hS k0 he hc j hj (hts _ h) (fun x h => h) hfin hty hn hfit (by simp; exact hj) hd (fun H1 locs1 hP1 _ hS1 => fin H1 locs1 hP1 hS1)
  · exact va_putN hx hb hts hin ty0 hty0 hnm hown hC.1 hP (hC.D mem) hS k0 he hc j hj (va_Nw.use (by first | rfl | decide) (hC.2.1 _ h)) (fun x h => h) hfin hty hn hfit (by simp; exact hj) hd (fun H1 locs1 hP1 _ hS1 => fin H1 locs1 hP1 hS1)
theorem ev_putI {index : Nat} {C : String} {T : u_T} {ci k0 j : Nat} {x : Int32} (hd : decode cc pc = .ok (.putfield index, 3)) (hp : pc + 3 = q) (F : CF ci C T) (hk : kd k0 = ci) (hj : j < nf ci) (hci : ci < 100) (hL : FL own index (T j).1 (T j).2.1 (T j).2.2.1) (hi : ir ci j = false) (hfin : (T j).2.2.2 = false) (hty : parseFieldDescriptor (T j).2.2.1 = some .int) (k : EvR tv G cc nL ret own d q lv st (st2 mem k0 j x) o) : EvR tv G cc nL ret own d pc lv (.int x :: .ref (gA G k0) :: st) mem o :=
  ev_putV hd hp F hk hj hci hL hi hfin hty rfl rfl k
theorem bool_fits {x : Int32} (h : x &&& 1 = x) : fits .boolean (.int x) = true := by
  have h2 : x.toBitVec &&& 1#32 = x.toBitVec := congrArg Int32.toBitVec h
  have h3 : x.toBitVec = 0#32 ∨ x.toBitVec = 1#32 := by
    have h4 := congrArg BitVec.toNat h2
    rw [BitVec.toNat_and, show (1#32).toNat = 1 from rfl, Nat.and_one_is_mod] at h4
    rcases (show x.toBitVec.toNat = 0 ∨ x.toBitVec.toNat = 1 by omega) with h5 | h5
    · exact Or.inl (BitVec.eq_of_toNat_eq h5)
    · exact Or.inr (BitVec.eq_of_toNat_eq h5)
  show (x == 0 || x == 1) = true
  rcases h3 with h3 | h3
  · rw [show x = 0 from Int32.toBitVec_inj.mp h3]; rfl
  · rw [show x = 1 from Int32.toBitVec_inj.mp h3]; rfl
theorem ev_putZ {index : Nat} {C : String} {T : u_T} {ci k0 j : Nat} {x : Int32} (hd : decode cc pc = .ok (.putfield index, 3)) (hp : pc + 3 = q) (F : CF ci C T) (hk : kd k0 = ci) (hj : j < nf ci) (hci : ci < 100) (hL : FL own index (T j).1 (T j).2.1 (T j).2.2.1) (hi : ir ci j = false) (hfin : (T j).2.2.2 = false) (hty : parseFieldDescriptor (T j).2.2.1 = some .boolean) (k : EvR tv G cc nL ret own d q lv st (st2 mem k0 j x) o) : EvR tv G cc nL ret own d pc lv (.int x :: .ref (gA G k0) :: st) mem (chk (x &&& 1 = x) o) :=
  ev_chk fun h => ev_putV hd hp F hk hj hci hL hi hfin hty (by show Value.int (x &&& 1) = .int x; rw [h]) (bool_fits h) k
-- rows
theorem ev_iald {k0 : Nat} {i : Int32} {f : Int32 → Option (ρ × Mem)} (hd : decode cc pc = .ok (.iaload, 1)) (hp : pc + 1 = q) (hk : kd k0 = 100) (k : ∀ z : Int32, EvR tv G cc nL ret own d q lv (.int z :: st) mem (f z)) : EvR tv G cc nL ret own d pc lv (.int i :: .ref (gA G k0) :: st) mem (ald mem k0 i f) := by
  subst hp
  intro r m1 hv p e s m args below meth c H locs ls hx hb hml hr hown hlk hts hC hP hS hl
  unfold ald at hv
  split at hv
  · rename_i hin
    have he := cells_at (G := G) (mem := mem) (kd_lt hk (by decide))
    rw [cellE_i hk] at he
    exact va_iald hx hb hC.1 hP k0 0 he rfl (inB_in hin) hd ((k _) r m1 hv p e s m args below meth c H locs ls hx hb hml hr hown hlk hts hC hP hS hl)
  · cases hv
theorem ev_zald {k0 : Nat} {i : Int32} {f : Int32 → Option (ρ × Mem)} (hd : decode cc pc = .ok (.baload, 1)) (hp : pc + 1 = q) (hk : kd k0 = 101) (k : ∀ z : Int32, EvR tv G cc nL ret own d q lv (.int z :: st) mem (f z)) : EvR tv G cc nL ret own d pc lv (.int i :: .ref (gA G k0) :: st) mem (ald mem k0 i f) := by
  subst hp
  intro r m1 hv p e s m args below meth c H locs ls hx hb hml hr hown hlk hts hC hP hS hl
  unfold ald at hv
  split at hv
  · rename_i hin
    have he := cells_at (G := G) (mem := mem) (kd_lt hk (by decide))
    rw [cellE_z hk] at he
    exact va_zald hx hb hC.1 hP k0 1 he rfl (inB_in hin) hd ((k _) r m1 hv p e s m args below meth c H locs ls hx hb hml hr hown hlk hts hC hP hS hl)
  · cases hv
theorem ev_iast {k0 : Nat} {i x : Int32} {f : Mem → Option (ρ × Mem)} (hd : decode cc pc = .ok (.iastore, 1)) (hp : pc + 1 = q) (hk : kd k0 = 100) (k : ∀ m' : Mem, EvR tv G cc nL ret own d q lv st m' (f m')) : EvR tv G cc nL ret own d pc lv (.int x :: .int i :: .ref (gA G k0) :: st) mem (ast mem k0 i x f) := by
  subst hp
  intro r m1 hv p e s m args below meth c H locs ls hx hb hml hr hown hlk hts hC hP hS hl
  unfold ast at hv
  split at hv
  · rename_i hin
    have hlt := kd_lt hk (by decide)
    have he := cells_at (G := G) (mem := mem) hlt
    rw [cellE_i hk] at he
    refine va_iast hx hb hC.1 hP (hC.D mem) hS k0 0 he rfl (inB_in hin) hd fun H1 locs1 hP1 _ hS1 => ?_
    rw [← cellE_i (G := G) hk, cells_set hlt] at hP1
    exact (k _) r m1 hv p e s m args below meth c H1 locs1 ls hx hb hml hr hown hlk hts hC hP1 hS1 hl
  · cases hv
theorem ev_zast {k0 : Nat} {i x : Int32} {f : Mem → Option (ρ × Mem)} (hd : decode cc pc = .ok (.bastore, 1)) (hp : pc + 1 = q) (hk : kd k0 = 101) (k : ∀ m' : Mem, EvR tv G cc nL ret own d q lv st m' (f m')) : EvR tv G cc nL ret own d pc lv (.int x :: .int i :: .ref (gA G k0) :: st) mem (ast mem k0 i (vp_nar .boolean x) f) := by
  subst hp
  intro r m1 hv p e s m args below meth c H locs ls hx hb hml hr hown hlk hts hC hP hS hl
  unfold ast at hv
  split at hv
  · rename_i hin
    have hlt := kd_lt hk (by decide)
    have he := cells_at (G := G) (mem := mem) hlt
    rw [cellE_z hk] at he
    refine va_zast hx hb hC.1 hP (hC.D mem) hS k0 1 he rfl (inB_in hin) hd fun H1 locs1 hP1 _ hS1 => ?_
    rw [← cellE_z (G := G) hk, cells_set hlt] at hP1
    exact (k _) r m1 hv p e s m args below meth c H1 locs1 ls hx hb hml hr hown hlk hts hC hP1 hS1 hl
  · cases hv
theorem ev_alen {k0 : Nat} (hd : decode cc pc = .ok (.arraylength, 1)) (hp : pc + 1 = q) (hk : kd k0 = 100) (k : EvR tv G cc nL ret own d q lv (.int (Int32.ofNat (ln k0)) :: st) mem o) : EvR tv G cc nL ret own d pc lv (.ref (gA G k0) :: st) mem o := by
  subst hp
  intro r m1 hv p e s m args below meth c H locs ls hx hb hml hr hown hlk hts hC hP hS hl
  have he := cells_at (G := G) (mem := mem) (kd_lt hk (by decide))
  rw [cellE_i hk] at he
  exact va_alen hx hb hC.1 hP k0 0 he rfl rfl hd (k r m1 hv p e s m args below meth c H locs ls hx hb hml hr hown hlk hts hC hP hS hl)
-- ends
theorem ev_iret {v : Int32} (hd : decode cc pc = .ok (.ireturn, 1)) (hr0 : ret = some .int) : EvR tvI G cc nL ret own d pc lv [.int v] mem (some (v, mem)) := by
  intro r m1 hv p e s m args below meth c H locs ls hx hb hml hr hown hlk hts hC hP hS hl
  cases hv
  exact W.iret hx hb (hr.trans hr0) (fun t ht hW => ⟨⟨rfl, ⟨by rw [ht]; exact hP, hC.moved hW (locs := locs) (by rw [ht]; exact hS)⟩⟩, hS.F ht⟩) hS.2.2 hd
theorem ev_zret {v : Int32} (hd : decode cc pc = .ok (.ireturn, 1)) (hr0 : ret = some .boolean) : EvR tvI G cc nL ret own d pc lv [.int v] mem (chk (v &&& 1 = v) (some (v, mem))) := by
  refine ev_chk fun hn => ?_
  intro r m1 hv p e s m args below meth c H locs ls hx hb hml hr hown hlk hts hC hP hS hl
  cases hv
  exact W.zret hx hb (hr.trans hr0) (by show Value.int (v &&& 1) = .int v; rw [hn]) (fun t ht hW => ⟨⟨rfl, ⟨by rw [ht]; exact hP, hC.moved hW (locs := locs) (by rw [ht]; exact hS)⟩⟩, hS.F ht⟩) hS.2.2 hd
theorem ev_vret (hd : decode cc pc = .ok (.return_, 1)) (hr0 : ret = none) : EvR tvU G cc nL ret own d pc lv [] mem (some ((), mem)) := by
  intro r m1 hv p e s m args below meth c H locs ls hx hb hml hr hown hlk hts hC hP hS hl
  cases hv
  exact W.vret hx hb (hr.trans hr0) (fun t ht hW => ⟨⟨rfl, ⟨by rw [ht]; exact hP, hC.moved hW (locs := locs) (by rw [ht]; exact hS)⟩⟩, hS.F ht⟩) hS.2.2 hd
theorem ev_aret {k0 : Nat} {C : String} (hd : decode cc pc = .ok (.areturn, 1)) (hr0 : ret = some (.object C)) : EvR (tvR G) G cc nL ret own d pc lv [.ref (gA G k0)] mem (some (k0, mem)) := by
  intro r m1 hv p e s m args below meth c H locs ls hx hb hml hr hown hlk hts hC hP hS hl
  cases hv
  exact W.aret hx hb (hr.trans hr0) (Or.inl ⟨_, rfl⟩) (Or.inr ⟨_, rfl⟩) (fun t ht hW => ⟨⟨rfl, ⟨by rw [ht]; exact hP, hC.moved hW (locs := locs) (by rw [ht]; exact hS)⟩⟩, hS.F ht⟩) hS.2.2 hd
-- static rows
theorem ev_gets {index t : Nat} {C n dsc : String} (hd : decode cc pc = .ok (.getstatic index, 3)) (hp : pc + 3 = q) (hL : Cond.fieldLink own index C n dsc ∈ AW) (hZ : ∀ U H, Ctx G U H → va_Z C n dsc (.ref t) (gF G) U H) (k : EvR tv G cc nL ret own d q lv (.ref t :: st) mem o) : EvR tv G cc nL ret own d pc lv st mem o := by
  subst hp
  intro r m1 hv p e s m args below meth c H locs ls hx hb hml hr hown hlk hts hC hP hS hl
  exact va_gets hx hb (hZ _ _ hC) hS hown (hts _ hL) (fun x h => h) hd (k r m1 hv p e s m args below meth c H locs ls hx hb hml hr hown hlk hts hC hP hS hl)
theorem ev_tld {t n : Nat} {g : Nat → Int32} {i : Int32} {f : Int32 → Option (ρ × Mem)} (hd : decode cc pc = .ok (.iaload, 1)) (hp : pc + 1 = q) (hT : ∀ U H, Ctx G U H → va_T .int t n (fun j => .int (g j)) (gF G) U H) (k : ∀ z : Int32, EvR tv G cc nL ret own d q lv (.int z :: st) mem (f z)) : EvR tv G cc nL ret own d pc lv (.int i :: .ref t :: st) mem (sld g n i f) := by
  subst hp
  intro r m1 hv p e s m args below meth c H locs ls hx hb hml hr hown hlk hts hC hP hS hl
  unfold sld at hv
  split at hv
  · rename_i hin
    obtain ⟨cell, h1, h2, h3, h4, h5, h6, h7⟩ := (hT _ _ hC).kept hS.2.1
    have hin2 := inB_in hin
    have hlt : i.toNatClampNeg < n := Nat.not_le.mp fun q => hin2 (Or.inr q)
    refine W.iald (v := .int (g i.toNatClampNeg)) hx hb h1 h2 h3 (fun z => ?_) (h6 _ hlt) rfl rfl hd ((k _) r m1 hv p e s m args below meth c H locs ls hx hb hml hr hown hlk hts hC hP hS hl)
    rcases z with z | z
    · exact hin2 (Or.inl z)
    · exact hin2 (Or.inr (Nat.le_trans h4 z))
  · cases hv
end RULES
section CALLS
variable {ρ : Type} {tv : ρ → Option Value} {G : Gt} {cc : ByteArray} {nL : Nat} {ret : Option FieldType} {own : String} {d : Nat} {pc q : Nat} {lv lv2 : List (Nat × Value)} {st stk : List Value} {mem : Mem} {o : Option (ρ × Mem)}
variable {ρ2 : Type} {tv2 : ρ2 → Option Value} {y : MethodName} {bytes : ByteArray} {maxL : Nat} {ret2 : Option FieldType} {d2 n index : Nat} {As vs : List Value} {o2 : Option (ρ2 × Mem)} {f : ρ2 → Mem → Option (ρ × Mem)}
theorem con_of (hy : plainName y.cls = true) (hn : (lg_sl vs).length ≤ nL) (h : EvR tv G cc nL ret y.cls d 0 (lv_args 0 vs) [] mem o) : Con tv G y cc nL ret d vs mem o := by
  intro r m1 hv
  refine Met.ofW (cc := cc) (maxL := nL) (ret := ret) hy rfl ?_
  intro p e s m args below meth c s₁ B hml hpc
  obtain ⟨rfl, hP, hC⟩ := hpc
  have hts0 := atoms_spec (ws := Cond.code y cc nL ret :: AW) B.pre
  have hl := lv_entry vs (n := nL) hn
  rw [lg_entry_eq]
  generalize (lg_sl vs ++ List.replicate (nL - (lg_sl vs).length) Slot.unset).toArray = ls at hl ⊢
  exact h r m1 hv p e s m _ below meth c s.heap [] ls B.exec B.bytes hml B.returns (findClass_of_methodNamed B.named) B.notSynchronized (fun w hw => hts0 w (List.mem_cons_of_mem _ hw)) hC hP va_S.rf hl
theorem pc_blind : FrameBlind (va_Pc vs (World G mem)) := fun a U g mk h => ⟨h.1, h.2.1, h.2.2.same rfl rfl⟩
theorem pc_pre {s : State} {H : Heap} {locs : List Loc} (hC : Ctx G s s.heap) (hP : va_P (gD G) vwCl (cells G mem) H) (hS : va_S (gF G) s.heap H locs) : ∀ U : State, U.heap = H → s.WarmedH U.vm → va_Pc vs (World G mem) vs.toArray U := fun U hU hW => ⟨rfl, by rw [hU]; exact hP, hC.moved hW (locs := locs) (by rw [hU]; exact hS)⟩
theorem ev_run (hp : pc + 3 = q) {As2 : Array Value}
    (hrun : ∀ (r2 : ρ2) (m2 : Mem), o2 = some (r2, m2) → ∀ (p : Program) (e : Env) (s : State) (m : MethodId) (args : Array Value) (below : List Frame) (meth : Method) (c : Code) (H : Heap) (locs : List Loc) (ls : Array Slot),
      p.tables.exec = Jvm.exec → c.code = cc → c.maxLocals = nL → s.vm.findClass own = some m.cls → (∀ w ∈ AW, w.before args s = true) → Ctx G s s.heap → va_P (gD G) vwCl (cells G mem) H → va_S (gF G) s.heap H locs → lv_has ls nL lv →
      va_Run p (gL G) e (rmOf d) s m args below meth c H locs 0 0 0 0 (F0 m pc ls stk) st (EQ G (tv2 r2) m2 As2) (gF G))
    (k : ∀ (r2 : ρ2) (m2 : Mem), EvR tv G cc nL ret own d q lv ((tv2 r2).toList ++ st) m2 (f r2 m2)) : EvR tv G cc nL ret own d pc lv stk mem (cll o2 f) := by
  subst hp
  intro r m1 hv p e s m args below meth c H locs ls hx hb hml hr hown hlk hts hC hP hS hl
  obtain ⟨r2, m2, e2, e3⟩ := cll_some hv
  have hR := hrun r2 m2 e2 p e s m args below meth c H locs ls hx hb hml hown hts hC hP hS hl
  intro T hT X
  obtain ⟨v, st₀, t, T', L, h0, X', hL, e1, e4, ⟨⟨hvv, hW⟩, hz, hk⟩, go⟩ := hR T hT X
  cases hvv
  rw [h0] at hz hk
  have hS1 : va_S (gF G) s.heap T'.heap (locs ++ L) := ⟨Nat.le_trans hS.1 (by rw [e1]; exact hz), fun q h1 h2 => by rw [e1, hk q (Nat.lt_of_lt_of_le h1 hS.1) h2]; exact hS.2.1 q h1 h2, fun q hq => by
      rcases List.mem_append.mp hq with h | h
      · exact hS.2.2 q h
      · exact hL q h⟩
  obtain ⟨t2, a1, b1⟩ := k r2 m2 r m1 e3 p e s m args below meth c T'.heap (locs ++ L) ls hx hb hml hr hown hlk hts hC (by rw [e1]; exact hW.1) hS1 hl T' rfl X'
  exact ⟨t2, go t2 a1, b1⟩
theorem ev_callV {C : String} {T : u_T} {ci b : Nat} (hd : decode cc pc = .ok (.invokevirtual index, 3)) (hp : pc + 3 = q) (hL : Cond.methodLink own index y ∈ AW) (hM : MTV y bytes maxL ret2 n) (F : CF ci C T) (hC0 : y.cls = C) (hk : kd b = ci) (hci : ci < 100) (hc : Con tv2 G y bytes maxL ret2 d2 (.ref (gA G b) :: As) mem o2) (hn : As.length = n) (hdd : d2 + 1 ≤ d) (hmx : maxL ≤ 40) (hst : stk = As.reverse ++ .ref (gA G b) :: st) (hcat : (st.map fun v => v.category).sum ≤ 8)
    (k : ∀ (r2 : ρ2) (m2 : Mem), EvR tv G cc nL ret own d q lv ((tv2 r2).toList ++ st) m2 (f r2 m2)) : EvR tv G cc nL ret own d pc lv stk mem (cll o2 f) := by
  refine ev_run hp (As2 := (Value.ref (gA G b) :: As).toArray) (fun r2 m2 e2 p e s m args below meth c H locs ls hx hb hml hown hts hC hP hS hl => ?_) k
  subst hC0
  obtain ⟨hc0, -⟩ := F
  obtain ⟨w1, w2, w3, w4, w5⟩ := hM
  have he := cells_at (G := G) (mem := mem) (kd_lt hk (by omega))
  rw [cellE_o hk hci] at he
  refine va_runV (As := As) (rest := st) (n := n) (C := y.cls) ⟨hx, hb, hml, hown, hts⟩ (hc r2 m2 e2) (cwV n hts (goodAW fun w hw => ?_) rfl rfl rfl ⟨rfl, w5⟩ ⟨hdd, ?_⟩) ⟨pc_blind, va_recv hC.1 hP hc0 he, pc_pre hC hP hS⟩ rfl hn hl.1 hst (lv_room hcat) hd ⟨Nat.zero_le _, Nat.zero_le _⟩
  · simp only [wsV, List.cons_append, List.nil_append, List.mem_cons] at hw
    rcases hw with rfl | rfl | rfl | rfl | rfl | hw
    · exact hL
    · exact w2
    · exact w3
    · exact w4
    · exact w1
    · exact hw
  · show 8 + (maxL + 11) + 64 * d2 ≤ 64 * d
    omega
theorem ev_callVN {C : String} {T : u_T} {ci b : Nat} {host : String} (hd : decode cc pc = .ok (.invokevirtual index, 3)) (hp : pc + 3 = q) (hL : Cond.methodLinkNest own index y host ∈ NW) (hM : MTV y bytes maxL ret2 n) (F : CF ci C T) (hC0 : y.cls = C) (hk : kd b = ci) (hci : ci < 100) (hc : Con tv2 G y bytes maxL ret2 d2 (.ref (gA G b) :: As) mem o2) (hn : As.length = n) (hdd : d2 + 1 ≤ d) (hmx : maxL ≤ 40) (hst : stk = As.reverse ++ .ref (gA G b) :: st) (hcat : (st.map fun v => v.category).sum ≤ 8)
    (k : ∀ (r2 : ρ2) (m2 : Mem), EvR tv G cc nL ret own d q lv ((tv2 r2).toList ++ st) m2 (f r2 m2)) : EvR tv G cc nL ret own d pc lv stk mem (cll o2 f) := by
  refine ev_run hp (As2 := (Value.ref (gA G b) :: As).toArray) (fun r2 m2 e2 p e s m args below meth c H locs ls hx hb hml hown hts hC hP hS hl => ?_) k
  subst hC0
  obtain ⟨hc0, -⟩ := F
  obtain ⟨w1, w2, w3, w4, w5⟩ := hM
  have he := cells_at (G := G) (mem := mem) (kd_lt hk (by omega))
  rw [cellE_o hk hci] at he
  refine va_runVN (As := As) (rest := st) (n := n) (C := y.cls) ⟨hx, hb, hml, hown, hts⟩ (hc r2 m2 e2) ⟨va_cnB n hts (goodAW fun w hw => ?_) rfl rfl rfl (hC.2.1 _ hL) (hts _ w4) w5 ⟨hdd, ?_⟩, hts _ w2, hts _ w3⟩ ⟨pc_blind, va_recv hC.1 hP hc0 he, pc_pre hC hP hS⟩ rfl hn hl.1 hst (lv_room hcat) hd ⟨Nat.zero_le _, Nat.zero_le _⟩
  · rcases List.mem_cons.mp hw with rfl | hw
    · exact w1
    · exact hw
  · show 8 + (maxL + 11) + 64 * d2 ≤ 64 * d
    omega
theorem ev_callS (hd : decode cc pc = .ok (.invokestatic index, 3)) (hp : pc + 3 = q) (hL : Cond.methodLink own index y ∈ AW) (hM : MTS y bytes maxL ret2 n) (hc : Con tv2 G y bytes maxL ret2 d2 As mem o2) (hn : As.length = n) (hdd : d2 + 1 ≤ d) (hmx : maxL ≤ 40) (hst : stk = As.reverse ++ st) (hcat : (st.map fun v => v.category).sum ≤ 8)
    (k : ∀ (r2 : ρ2) (m2 : Mem), EvR tv G cc nL ret own d q lv ((tv2 r2).toList ++ st) m2 (f r2 m2)) : EvR tv G cc nL ret own d pc lv stk mem (cll o2 f) := by
  refine ev_run hp (As2 := As.toArray) (fun r2 m2 e2 p e s m args below meth c H locs ls hx hb hml hown hts hC hP hS hl => ?_) k
  obtain ⟨w1, w2, w4, w5⟩ := hM
  refine va_runS (As := As) (rest := st) (n := n) ⟨hx, hb, hml, hown, hts⟩ (hc r2 m2 e2) (va_cwS n hts (goodAW fun w hw => ?_) rfl rfl rfl w5 ⟨hdd, ?_⟩) ⟨pc_blind, pc_pre hC hP hS⟩ rfl hn hl.1 hst (lv_room hcat) hd ⟨Nat.zero_le _, Nat.zero_le _⟩
  · simp only [va_wsS, List.cons_append, List.nil_append, List.mem_cons] at hw
    rcases hw with rfl | rfl | rfl | rfl | hw
    · exact hL
    · exact w2
    · exact w4
    · exact w1
    · exact hw
  · show 8 + (maxL + 11) + 64 * d2 ≤ 64 * d
    omega
theorem ev_callSN {host : String} (hd : decode cc pc = .ok (.invokestatic index, 3)) (hp : pc + 3 = q) (hL : Cond.methodLinkNest own index y host ∈ NW) (hM : MTS y bytes maxL ret2 n) (hc : Con tv2 G y bytes maxL ret2 d2 As mem o2) (hn : As.length = n) (hdd : d2 + 1 ≤ d) (hmx : maxL ≤ 40) (hst : stk = As.reverse ++ st) (hcat : (st.map fun v => v.category).sum ≤ 8)
    (k : ∀ (r2 : ρ2) (m2 : Mem), EvR tv G cc nL ret own d q lv ((tv2 r2).toList ++ st) m2 (f r2 m2)) : EvR tv G cc nL ret own d pc lv stk mem (cll o2 f) := by
  refine ev_run hp (As2 := As.toArray) (fun r2 m2 e2 p e s m args below meth c H locs ls hx hb hml hown hts hC hP hS hl => ?_) k
  obtain ⟨w1, w2, w4, w5⟩ := hM
  refine va_runSN (As := As) (rest := st) (n := n) ⟨hx, hb, hml, hown, hts⟩ (hc r2 m2 e2) ⟨va_cnB n hts (goodAW fun w hw => ?_) rfl rfl rfl (hC.2.1 _ hL) (hts _ w4) w5 ⟨hdd, ?_⟩, hts _ w2, trivial⟩ ⟨pc_blind, pc_pre hC hP hS⟩ rfl hn hl.1 hst (lv_room hcat) hd ⟨Nat.zero_le _, Nat.zero_le _⟩
  · rcases List.mem_cons.mp hw with rfl | hw
    · exact w1
    · exact hw
  · show 8 + (maxL + 11) + 64 * d2 ≤ 64 * d
    omega
theorem ev_callVI {o2 : Option (Int32 × Mem)} {f : Int32 → Mem → Option (ρ × Mem)} {C : String} {T : u_T} {ci b : Nat} (hd : decode cc pc = .ok (.invokevirtual index, 3)) (hp : pc + 3 = q) (hL : Cond.methodLink own index y ∈ AW) (hM : MTV y bytes maxL ret2 n) (F : CF ci C T) (hC0 : y.cls = C) (hk : kd b = ci) (hci : ci < 100) (hc : Con tvI G y bytes maxL ret2 d2 (.ref (gA G b) :: As) mem o2) (hn : As.length = n) (hdd : d2 + 1 ≤ d) (hmx : maxL ≤ 40) (hst : stk = As.reverse ++ .ref (gA G b) :: st) (hcat : (st.map fun v => v.category).sum ≤ 8)
    (k : ∀ (r2 : Int32) (m2 : Mem), EvR tv G cc nL ret own d q lv (.int r2 :: st) m2 (f r2 m2)) : EvR tv G cc nL ret own d pc lv stk mem (cll o2 f) := ev_callV hd hp hL hM F hC0 hk hci hc hn hdd hmx hst hcat k
theorem ev_callVU {o2 : Option (Unit × Mem)} {f : Unit → Mem → Option (ρ × Mem)} {C : String} {T : u_T} {ci b : Nat} (hd : decode cc pc = .ok (.invokevirtual index, 3)) (hp : pc + 3 = q) (hL : Cond.methodLink own index y ∈ AW) (hM : MTV y bytes maxL ret2 n) (F : CF ci C T) (hC0 : y.cls = C) (hk : kd b = ci) (hci : ci < 100) (hc : Con tvU G y bytes maxL ret2 d2 (.ref (gA G b) :: As) mem o2) (hn : As.length = n) (hdd : d2 + 1 ≤ d) (hmx : maxL ≤ 40) (hst : stk = As.reverse ++ .ref (gA G b) :: st) (hcat : (st.map fun v => v.category).sum ≤ 8)
    (k : ∀ (r2 : Unit) (m2 : Mem), EvR tv G cc nL ret own d q lv st m2 (f r2 m2)) : EvR tv G cc nL ret own d pc lv stk mem (cll o2 f) := ev_callV hd hp hL hM F hC0 hk hci hc hn hdd hmx hst hcat k
theorem ev_callVR {o2 : Option (Nat × Mem)} {f : Nat → Mem → Option (ρ × Mem)} {C : String} {T : u_T} {ci b : Nat} (hd : decode cc pc = .ok (.invokevirtual index, 3)) (hp : pc + 3 = q) (hL : Cond.methodLink own index y ∈ AW) (hM : MTV y bytes maxL ret2 n) (F : CF ci C T) (hC0 : y.cls = C) (hk : kd b = ci) (hci : ci < 100) (hc : Con (tvR G) G y bytes maxL ret2 d2 (.ref (gA G b) :: As) mem o2) (hn : As.length = n) (hdd : d2 + 1 ≤ d) (hmx : maxL ≤ 40) (hst : stk = As.reverse ++ .ref (gA G b) :: st) (hcat : (st.map fun v => v.category).sum ≤ 8)
    (k : ∀ (r2 : Nat) (m2 : Mem), EvR tv G cc nL ret own d q lv (.ref (gA G r2) :: st) m2 (f r2 m2)) : EvR tv G cc nL ret own d pc lv stk mem (cll o2 f) := ev_callV hd hp hL hM F hC0 hk hci hc hn hdd hmx hst hcat k
theorem ev_callVNI {o2 : Option (Int32 × Mem)} {f : Int32 → Mem → Option (ρ × Mem)} {C : String} {T : u_T} {ci b : Nat} {host : String} (hd : decode cc pc = .ok (.invokevirtual index, 3)) (hp : pc + 3 = q) (hL : Cond.methodLinkNest own index y host ∈ NW) (hM : MTV y bytes maxL ret2 n) (F : CF ci C T) (hC0 : y.cls = C) (hk : kd b = ci) (hci : ci < 100) (hc : Con tvI G y bytes maxL ret2 d2 (.ref (gA G b) :: As) mem o2) (hn : As.length = n) (hdd : d2 + 1 ≤ d) (hmx : maxL ≤ 40) (hst : stk = As.reverse ++ .ref (gA G b) :: st) (hcat : (st.map fun v => v.category).sum ≤ 8)
    (k : ∀ (r2 : Int32) (m2 : Mem), EvR tv G cc nL ret own d q lv (.int r2 :: st) m2 (f r2 m2)) : EvR tv G cc nL ret own d pc lv stk mem (cll o2 f) := ev_callVN hd hp hL hM F hC0 hk hci hc hn hdd hmx hst hcat k
theorem ev_callVNU {o2 : Option (Unit × Mem)} {f : Unit → Mem → Option (ρ × Mem)} {C : String} {T : u_T} {ci b : Nat} {host : String} (hd : decode cc pc = .ok (.invokevirtual index, 3)) (hp : pc + 3 = q) (hL : Cond.methodLinkNest own index y host ∈ NW) (hM : MTV y bytes maxL ret2 n) (F : CF ci C T) (hC0 : y.cls = C) (hk : kd b = ci) (hci : ci < 100) (hc : Con tvU G y bytes maxL ret2 d2 (.ref (gA G b) :: As) mem o2) (hn : As.length = n) (hdd : d2 + 1 ≤ d) (hmx : maxL ≤ 40) (hst : stk = As.reverse ++ .ref (gA G b) :: st) (hcat : (st.map fun v => v.category).sum ≤ 8)
    (k : ∀ (r2 : Unit) (m2 : Mem), EvR tv G cc nL ret own d q lv st m2 (f r2 m2)) : EvR tv G cc nL ret own d pc lv stk mem (cll o2 f) := ev_callVN hd hp hL hM F hC0 hk hci hc hn hdd hmx hst hcat k
theorem ev_callVNR {o2 : Option (Nat × Mem)} {f : Nat → Mem → Option (ρ × Mem)} {C : String} {T : u_T} {ci b : Nat} {host : String} (hd : decode cc pc = .ok (.invokevirtual index, 3)) (hp : pc + 3 = q) (hL : Cond.methodLinkNest own index y host ∈ NW) (hM : MTV y bytes maxL ret2 n) (F : CF ci C T) (hC0 : y.cls = C) (hk : kd b = ci) (hci : ci < 100) (hc : Con (tvR G) G y bytes maxL ret2 d2 (.ref (gA G b) :: As) mem o2) (hn : As.length = n) (hdd : d2 + 1 ≤ d) (hmx : maxL ≤ 40) (hst : stk = As.reverse ++ .ref (gA G b) :: st) (hcat : (st.map fun v => v.category).sum ≤ 8)
    (k : ∀ (r2 : Nat) (m2 : Mem), EvR tv G cc nL ret own d q lv (.ref (gA G r2) :: st) m2 (f r2 m2)) : EvR tv G cc nL ret own d pc lv stk mem (cll o2 f) := ev_callVN hd hp hL hM F hC0 hk hci hc hn hdd hmx hst hcat k
theorem ev_callSI {o2 : Option (Int32 × Mem)} {f : Int32 → Mem → Option (ρ × Mem)} (hd : decode cc pc = .ok (.invokestatic index, 3)) (hp : pc + 3 = q) (hL : Cond.methodLink own index y ∈ AW) (hM : MTS y bytes maxL ret2 n) (hc : Con tvI G y bytes maxL ret2 d2 As mem o2) (hn : As.length = n) (hdd : d2 + 1 ≤ d) (hmx : maxL ≤ 40) (hst : stk = As.reverse ++ st) (hcat : (st.map fun v => v.category).sum ≤ 8)
    (k : ∀ (r2 : Int32) (m2 : Mem), EvR tv G cc nL ret own d q lv (.int r2 :: st) m2 (f r2 m2)) : EvR tv G cc nL ret own d pc lv stk mem (cll o2 f) := ev_callS hd hp hL hM hc hn hdd hmx hst hcat k
theorem ev_callSU {o2 : Option (Unit × Mem)} {f : Unit → Mem → Option (ρ × Mem)} (hd : decode cc pc = .ok (.invokestatic index, 3)) (hp : pc + 3 = q) (hL : Cond.methodLink own index y ∈ AW) (hM : MTS y bytes maxL ret2 n) (hc : Con tvU G y bytes maxL ret2 d2 As mem o2) (hn : As.length = n) (hdd : d2 + 1 ≤ d) (hmx : maxL ≤ 40) (hst : stk = As.reverse ++ st) (hcat : (st.map fun v => v.category).sum ≤ 8)
    (k : ∀ (r2 : Unit) (m2 : Mem), EvR tv G cc nL ret own d q lv st m2 (f r2 m2)) : EvR tv G cc nL ret own d pc lv stk mem (cll o2 f) := ev_callS hd hp hL hM hc hn hdd hmx hst hcat k
theorem ev_callSR {o2 : Option (Nat × Mem)} {f : Nat → Mem → Option (ρ × Mem)} (hd : decode cc pc = .ok (.invokestatic index, 3)) (hp : pc + 3 = q) (hL : Cond.methodLink own index y ∈ AW) (hM : MTS y bytes maxL ret2 n) (hc : Con (tvR G) G y bytes maxL ret2 d2 As mem o2) (hn : As.length = n) (hdd : d2 + 1 ≤ d) (hmx : maxL ≤ 40) (hst : stk = As.reverse ++ st) (hcat : (st.map fun v => v.category).sum ≤ 8)
    (k : ∀ (r2 : Nat) (m2 : Mem), EvR tv G cc nL ret own d q lv (.ref (gA G r2) :: st) m2 (f r2 m2)) : EvR tv G cc nL ret own d pc lv stk mem (cll o2 f) := ev_callS hd hp hL hM hc hn hdd hmx hst hcat k
theorem ev_callSNI {o2 : Option (Int32 × Mem)} {f : Int32 → Mem → Option (ρ × Mem)} {host : String} (hd : decode cc pc = .ok (.invokestatic index, 3)) (hp : pc + 3 = q) (hL : Cond.methodLinkNest own index y host ∈ NW) (hM : MTS y bytes maxL ret2 n) (hc : Con tvI G y bytes maxL ret2 d2 As mem o2) (hn : As.length = n) (hdd : d2 + 1 ≤ d) (hmx : maxL ≤ 40) (hst : stk = As.reverse ++ st) (hcat : (st.map fun v => v.category).sum ≤ 8)
    (k : ∀ (r2 : Int32) (m2 : Mem), EvR tv G cc nL ret own d q lv (.int r2 :: st) m2 (f r2 m2)) : EvR tv G cc nL ret own d pc lv stk mem (cll o2 f) := ev_callSN hd hp hL hM hc hn hdd hmx hst hcat k
theorem ev_callSNU {o2 : Option (Unit × Mem)} {f : Unit → Mem → Option (ρ × Mem)} {host : String} (hd : decode cc pc = .ok (.invokestatic index, 3)) (hp : pc + 3 = q) (hL : Cond.methodLinkNest own index y host ∈ NW) (hM : MTS y bytes maxL ret2 n) (hc : Con tvU G y bytes maxL ret2 d2 As mem o2) (hn : As.length = n) (hdd : d2 + 1 ≤ d) (hmx : maxL ≤ 40) (hst : stk = As.reverse ++ st) (hcat : (st.map fun v => v.category).sum ≤ 8)
    (k : ∀ (r2 : Unit) (m2 : Mem), EvR tv G cc nL ret own d q lv st m2 (f r2 m2)) : EvR tv G cc nL ret own d pc lv stk mem (cll o2 f) := ev_callSN hd hp hL hM hc hn hdd hmx hst hcat k
theorem ev_callSNR {o2 : Option (Nat × Mem)} {f : Nat → Mem → Option (ρ × Mem)} {host : String} (hd : decode cc pc = .ok (.invokestatic index, 3)) (hp : pc + 3 = q) (hL : Cond.methodLinkNest own index y host ∈ NW) (hM : MTS y bytes maxL ret2 n) (hc : Con (tvR G) G y bytes maxL ret2 d2 As mem o2) (hn : As.length = n) (hdd : d2 + 1 ≤ d) (hmx : maxL ≤ 40) (hst : stk = As.reverse ++ st) (hcat : (st.map fun v => v.category).sum ≤ 8)
    (k : ∀ (r2 : Nat) (m2 : Mem), EvR tv G cc nL ret own d q lv (.ref (gA G r2) :: st) m2 (f r2 m2)) : EvR tv G cc nL ret own d pc lv stk mem (cll o2 f) := ev_callSN hd hp hL hM hc hn hdd hmx hst hcat k
/-- the JDK's copy of a row's part -/
def acp {α : Type} (mem : Mem) (k0 : Nat) (sp : Int32) (k1 : Nat) (dp n : Int32) (f : Mem → Option α) : Option α :=
  if (¬ sp < 0 ∧ ¬ dp < 0 ∧ ¬ n < 0) ∧ sp.toNatClampNeg + n.toNatClampNeg ≤ ln k0 ∧ dp.toNatClampNeg + n.toNatClampNeg ≤ ln k1 then f (st1 mem k1 (va_cpy (mem k0) (mem k1) sp.toNatClampNeg dp.toNatClampNeg n.toNatClampNeg)) else none
theorem ev_copy {k0 k1 : Nat} {sp dp n : Int32} {f : Mem → Option (ρ × Mem)} (hd : decode cc pc = .ok (.invokestatic index, 3)) (hp : pc + 3 = q) (hL : Cond.methodLink own index arraycopyName ∈ AW) (w1 : Cond.native arraycopyName ∈ AW) (w2 : Cond.static arraycopyName ∈ AW) (w3 : Cond.initialized "java/lang/System" ∈ AW) (h0 : kd k0 = 100) (h1 : kd k1 = 100) (hdd : 2 ≤ d) (hcat : (st.map fun v => v.category).sum ≤ 8) (k : ∀ m' : Mem, EvR tv G cc nL ret own d q lv st m' (f m')) : EvR tv G cc nL ret own d pc lv (.int n :: .int dp :: .ref (gA G k1) :: .int sp :: .ref (gA G k0) :: st) mem (acp mem k0 sp k1 dp n f) := by
  subst hp
  intro r m1 hv p e s m args below meth c H locs ls hx hb hml hr hown hlk hts hC hP hS hl
  unfold acp at hv
  split at hv
  · rename_i hin
    obtain ⟨⟨a1, a2, a3⟩, a4, a5⟩ := hin
    have hlt := kd_lt h1 (by decide)
    have he := cells_at (G := G) (mem := mem) (kd_lt h0 (by decide))
    rw [cellE_i h0] at he
    have he1 := cells_at (G := G) (mem := mem) hlt
    rw [cellE_i h1] at he1
    refine va_copyi hx hb (hml.trans hl.1.symm) hown (hts _ hL) (hts _ w1) (hts _ w2) (hts _ w3) hC.1 hP (hC.D mem) hS k0 k1 0 0 he he1 rfl rfl rfl a1 a2 a3 a4 a5 (fun _ _ => rfl) ?_ ?_ hd fun H1 locs1 hP1 _ hS1 => ?_
    · show 1 ≤ d
      omega
    · show _ ≤ 64 * d
      have : nativeFrameWords "java/lang/System" "arraycopy" 5 + 11 ≤ 100 := by decide
      omega
    rw [← cellE_i (G := G) h1, cells_set hlt] at hP1
    exact (k _) r m1 hv p e s m args below meth c H1 locs1 ls hx hb hml hr hown hlk hts hC hP1 hS1 hl
  · cases hv
end CALLS
end
section
/-! ===== words by their places, literals, kinds (by wip/whole/gen.py) ===== -/
def fu : Nat := 5000
theorem lb_10 : (Int8.ofInt 10).toInt32 = 10 := by decide
theorem lb_100 : (Int8.ofInt 100).toInt32 = 100 := by decide
theorem lb_102 : (Int8.ofInt 102).toInt32 = 102 := by decide
theorem lb_108 : (Int8.ofInt 108).toInt32 = 108 := by decide
theorem lb_11 : (Int8.ofInt 11).toInt32 = 11 := by decide
theorem lb_111 : (Int8.ofInt 111).toInt32 = 111 := by decide
theorem lb_112 : (Int8.ofInt 112).toInt32 = 112 := by decide
theorem lb_114 : (Int8.ofInt 114).toInt32 = 114 := by decide
theorem lb_115 : (Int8.ofInt 115).toInt32 = 115 := by decide
theorem lb_118 : (Int8.ofInt 118).toInt32 = 118 := by decide
theorem lb_12 : (Int8.ofInt 12).toInt32 = 12 := by decide
theorem lb_120 : (Int8.ofInt 120).toInt32 = 120 := by decide
theorem lb_13 : (Int8.ofInt 13).toInt32 = 13 := by decide
theorem lb_14 : (Int8.ofInt 14).toInt32 = 14 := by decide
theorem lb_16 : (Int8.ofInt 16).toInt32 = 16 := by decide
theorem lb_17 : (Int8.ofInt 17).toInt32 = 17 := by decide
theorem lb_20 : (Int8.ofInt 20).toInt32 = 20 := by decide
theorem lb_21 : (Int8.ofInt 21).toInt32 = 21 := by decide
theorem lb_22 : (Int8.ofInt 22).toInt32 = 22 := by decide
theorem lb_23 : (Int8.ofInt 23).toInt32 = 23 := by decide
theorem lb_24 : (Int8.ofInt 24).toInt32 = 24 := by decide
theorem lb_27 : (Int8.ofInt 27).toInt32 = 27 := by decide
theorem lb_31 : (Int8.ofInt 31).toInt32 = 31 := by decide
theorem lb_35 : (Int8.ofInt 35).toInt32 = 35 := by decide
theorem lb_39 : (Int8.ofInt 39).toInt32 = 39 := by decide
theorem lb_40 : (Int8.ofInt 40).toInt32 = 40 := by decide
theorem lb_44 : (Int8.ofInt 44).toInt32 = 44 := by decide
theorem lb_48 : (Int8.ofInt 48).toInt32 = 48 := by decide
theorem lb_57 : (Int8.ofInt 57).toInt32 = 57 := by decide
theorem lb_59 : (Int8.ofInt 59).toInt32 = 59 := by decide
theorem lb_6 : (Int8.ofInt 6).toInt32 = 6 := by decide
theorem lb_63 : (Int8.ofInt 63).toInt32 = 63 := by decide
theorem lb_64 : (Int8.ofInt 64).toInt32 = 64 := by decide
theorem lb_7 : (Int8.ofInt 7).toInt32 = 7 := by decide
theorem lb_8 : (Int8.ofInt 8).toInt32 = 8 := by decide
theorem lb_9 : (Int8.ofInt 9).toInt32 = 9 := by decide
theorem lb_99 : (Int8.ofInt 99).toInt32 = 99 := by decide
theorem li_0 : Int32.ofInt 0 = 0 := by decide
theorem li_1 : Int32.ofInt 1 = 1 := by decide
theorem li_2 : Int32.ofInt 2 = 2 := by decide
theorem li_3 : Int32.ofInt 3 = 3 := by decide
theorem li_4 : Int32.ofInt 4 = 4 := by decide
theorem li_5 : Int32.ofInt 5 = 5 := by decide
theorem li_m1 : Int32.ofInt (-1) = (-1) := by decide
theorem ll_0 : Int64.ofNat ((0 : Fin 2) : Nat) = 0 := by decide
theorem ll_1 : Int64.ofNat ((1 : Fin 2) : Nat) = 1 := by decide
theorem ls_1000 : (Int16.ofInt 1000).toInt32 = 1000 := by decide
theorem ls_1512 : (Int16.ofInt 1512).toInt32 = 1512 := by decide
theorem ls_255 : (Int16.ofInt 255).toInt32 = 255 := by decide
theorem ls_999 : (Int16.ofInt 999).toInt32 = 999 := by decide
theorem hc_0 : 0 < 100 := by decide
theorem hc_1 : 1 < 100 := by decide
theorem hc_2 : 2 < 100 := by decide
theorem hc_3 : 3 < 100 := by decide
theorem hc_4 : 4 < 100 := by decide
theorem hc_5 : 5 < 100 := by decide
theorem hc_6 : 6 < 100 := by decide
theorem hc_7 : 7 < 100 := by decide
theorem hj_0_0 : 0 < nf 0 := by decide
theorem hj_0_1 : 1 < nf 0 := by decide
theorem hj_0_2 : 2 < nf 0 := by decide
theorem hj_0_3 : 3 < nf 0 := by decide
theorem hj_0_4 : 4 < nf 0 := by decide
theorem hj_0_5 : 5 < nf 0 := by decide
theorem hj_0_6 : 6 < nf 0 := by decide
theorem hj_0_7 : 7 < nf 0 := by decide
theorem hj_0_8 : 8 < nf 0 := by decide
theorem hj_1_0 : 0 < nf 1 := by decide
theorem hj_1_1 : 1 < nf 1 := by decide
theorem hj_2_0 : 0 < nf 2 := by decide
theorem hj_2_1 : 1 < nf 2 := by decide
theorem hj_2_2 : 2 < nf 2 := by decide
theorem hj_3_0 : 0 < nf 3 := by decide
theorem hj_3_1 : 1 < nf 3 := by decide
theorem hj_3_2 : 2 < nf 3 := by decide
theorem hj_3_3 : 3 < nf 3 := by decide
theorem hj_3_4 : 4 < nf 3 := by decide
theorem hj_3_5 : 5 < nf 3 := by decide
theorem hj_3_6 : 6 < nf 3 := by decide
theorem hj_3_7 : 7 < nf 3 := by decide
theorem hj_3_8 : 8 < nf 3 := by decide
theorem hj_3_9 : 9 < nf 3 := by decide
theorem hj_3_10 : 10 < nf 3 := by decide
theorem hj_3_11 : 11 < nf 3 := by decide
theorem hj_3_12 : 12 < nf 3 := by decide
theorem hj_4_0 : 0 < nf 4 := by decide
theorem hj_4_1 : 1 < nf 4 := by decide
theorem hj_4_2 : 2 < nf 4 := by decide
theorem hj_5_0 : 0 < nf 5 := by decide
theorem hj_5_1 : 1 < nf 5 := by decide
theorem hj_5_2 : 2 < nf 5 := by decide
theorem hj_5_3 : 3 < nf 5 := by decide
theorem hj_6_0 : 0 < nf 6 := by decide
theorem hj_6_1 : 1 < nf 6 := by decide
theorem hj_6_2 : 2 < nf 6 := by decide
theorem hj_6_3 : 3 < nf 6 := by decide
theorem hj_6_4 : 4 < nf 6 := by decide
theorem hj_6_5 : 5 < nf 6 := by decide
theorem hj_6_6 : 6 < nf 6 := by decide
theorem hj_6_7 : 7 < nf 6 := by decide
theorem hj_6_8 : 8 < nf 6 := by decide
theorem hj_6_9 : 9 < nf 6 := by decide
theorem hj_6_10 : 10 < nf 6 := by decide
theorem hj_7_0 : 0 < nf 7 := by decide
theorem hj_7_1 : 1 < nf 7 := by decide
theorem hj_7_2 : 2 < nf 7 := by decide
theorem hj_7_3 : 3 < nf 7 := by decide
theorem hj_7_4 : 4 < nf 7 := by decide
theorem hj_7_5 : 5 < nf 7 := by decide
theorem hj_7_6 : 6 < nf 7 := by decide
theorem hj_7_7 : 7 < nf 7 := by decide
theorem hj_7_8 : 8 < nf 7 := by decide
theorem hj_7_9 : 9 < nf 7 := by decide
theorem hj_7_10 : 10 < nf 7 := by decide
theorem hj_7_11 : 11 < nf 7 := by decide
theorem hj_7_12 : 12 < nf 7 := by decide
theorem hj_7_13 : 13 < nf 7 := by decide
theorem hj_7_14 : 14 < nf 7 := by decide
theorem hj_7_15 : 15 < nf 7 := by decide
theorem hj_7_16 : 16 < nf 7 := by decide
theorem hj_7_17 : 17 < nf 7 := by decide
theorem hj_7_18 : 18 < nf 7 := by decide
theorem hj_7_19 : 19 < nf 7 := by decide
theorem hj_7_20 : 20 < nf 7 := by decide
theorem hj_7_21 : 21 < nf 7 := by decide
theorem hj_7_22 : 22 < nf 7 := by decide
theorem kr_0_0 {o : Nat} (h : kd o = 0) : kd (rf o 0) = 100 := (show ∀ o, o < NC → kd o = 0 → kd (rf o 0) = 100 by decide +kernel) o (kd_lt h (by decide)) h
theorem kr_0_1 {o : Nat} (h : kd o = 0) : kd (rf o 1) = 100 := (show ∀ o, o < NC → kd o = 0 → kd (rf o 1) = 100 by decide +kernel) o (kd_lt h (by decide)) h
theorem kr_0_2 {o : Nat} (h : kd o = 0) : kd (rf o 2) = 100 := (show ∀ o, o < NC → kd o = 0 → kd (rf o 2) = 100 by decide +kernel) o (kd_lt h (by decide)) h
theorem kr_0_3 {o : Nat} (h : kd o = 0) : kd (rf o 3) = 100 := (show ∀ o, o < NC → kd o = 0 → kd (rf o 3) = 100 by decide +kernel) o (kd_lt h (by decide)) h
theorem kr_0_4 {o : Nat} (h : kd o = 0) : kd (rf o 4) = 100 := (show ∀ o, o < NC → kd o = 0 → kd (rf o 4) = 100 by decide +kernel) o (kd_lt h (by decide)) h
theorem kr_0_5 {o : Nat} (h : kd o = 0) : kd (rf o 5) = 100 := (show ∀ o, o < NC → kd o = 0 → kd (rf o 5) = 100 by decide +kernel) o (kd_lt h (by decide)) h
theorem kr_0_6 {o : Nat} (h : kd o = 0) : kd (rf o 6) = 100 := (show ∀ o, o < NC → kd o = 0 → kd (rf o 6) = 100 by decide +kernel) o (kd_lt h (by decide)) h
theorem kr_1_0 {o : Nat} (h : kd o = 1) : kd (rf o 0) = 100 := (show ∀ o, o < NC → kd o = 1 → kd (rf o 0) = 100 by decide +kernel) o (kd_lt h (by decide)) h
theorem kr_2_0 {o : Nat} (h : kd o = 2) : kd (rf o 0) = 100 := (show ∀ o, o < NC → kd o = 2 → kd (rf o 0) = 100 by decide +kernel) o (kd_lt h (by decide)) h
theorem kr_2_1 {o : Nat} (h : kd o = 2) : kd (rf o 1) = 100 := (show ∀ o, o < NC → kd o = 2 → kd (rf o 1) = 100 by decide +kernel) o (kd_lt h (by decide)) h
theorem kr_2_2 {o : Nat} (h : kd o = 2) : kd (rf o 2) = 100 := (show ∀ o, o < NC → kd o = 2 → kd (rf o 2) = 100 by decide +kernel) o (kd_lt h (by decide)) h
theorem kr_3_4 {o : Nat} (h : kd o = 3) : kd (rf o 4) = 100 := (show ∀ o, o < NC → kd o = 3 → kd (rf o 4) = 100 by decide +kernel) o (kd_lt h (by decide)) h
theorem kr_3_5 {o : Nat} (h : kd o = 3) : kd (rf o 5) = 100 := (show ∀ o, o < NC → kd o = 3 → kd (rf o 5) = 100 by decide +kernel) o (kd_lt h (by decide)) h
theorem kr_3_6 {o : Nat} (h : kd o = 3) : kd (rf o 6) = 100 := (show ∀ o, o < NC → kd o = 3 → kd (rf o 6) = 100 by decide +kernel) o (kd_lt h (by decide)) h
theorem kr_3_8 {o : Nat} (h : kd o = 3) : kd (rf o 8) = 100 := (show ∀ o, o < NC → kd o = 3 → kd (rf o 8) = 100 by decide +kernel) o (kd_lt h (by decide)) h
theorem kr_3_9 {o : Nat} (h : kd o = 3) : kd (rf o 9) = 100 := (show ∀ o, o < NC → kd o = 3 → kd (rf o 9) = 100 by decide +kernel) o (kd_lt h (by decide)) h
theorem kr_3_10 {o : Nat} (h : kd o = 3) : kd (rf o 10) = 100 := (show ∀ o, o < NC → kd o = 3 → kd (rf o 10) = 100 by decide +kernel) o (kd_lt h (by decide)) h
theorem kr_3_11 {o : Nat} (h : kd o = 3) : kd (rf o 11) = 100 := (show ∀ o, o < NC → kd o = 3 → kd (rf o 11) = 100 by decide +kernel) o (kd_lt h (by decide)) h
theorem kr_3_12 {o : Nat} (h : kd o = 3) : kd (rf o 12) = 100 := (show ∀ o, o < NC → kd o = 3 → kd (rf o 12) = 100 by decide +kernel) o (kd_lt h (by decide)) h
theorem kr_4_0 {o : Nat} (h : kd o = 4) : kd (rf o 0) = 100 := (show ∀ o, o < NC → kd o = 4 → kd (rf o 0) = 100 by decide +kernel) o (kd_lt h (by decide)) h
theorem kr_4_1 {o : Nat} (h : kd o = 4) : kd (rf o 1) = 100 := (show ∀ o, o < NC → kd o = 4 → kd (rf o 1) = 100 by decide +kernel) o (kd_lt h (by decide)) h
theorem kr_4_2 {o : Nat} (h : kd o = 4) : kd (rf o 2) = 100 := (show ∀ o, o < NC → kd o = 4 → kd (rf o 2) = 100 by decide +kernel) o (kd_lt h (by decide)) h
theorem kr_5_0 {o : Nat} (h : kd o = 5) : kd (rf o 0) = 100 := (show ∀ o, o < NC → kd o = 5 → kd (rf o 0) = 100 by decide +kernel) o (kd_lt h (by decide)) h
theorem kr_6_0 {o : Nat} (h : kd o = 6) : kd (rf o 0) = 4 := (show ∀ o, o < NC → kd o = 6 → kd (rf o 0) = 4 by decide +kernel) o (kd_lt h (by decide)) h
theorem kr_6_1 {o : Nat} (h : kd o = 6) : kd (rf o 1) = 5 := (show ∀ o, o < NC → kd o = 6 → kd (rf o 1) = 5 by decide +kernel) o (kd_lt h (by decide)) h
theorem kr_6_2 {o : Nat} (h : kd o = 6) : kd (rf o 2) = 3 := (show ∀ o, o < NC → kd o = 6 → kd (rf o 2) = 3 by decide +kernel) o (kd_lt h (by decide)) h
theorem kr_6_3 {o : Nat} (h : kd o = 6) : kd (rf o 3) = 3 := (show ∀ o, o < NC → kd o = 6 → kd (rf o 3) = 3 by decide +kernel) o (kd_lt h (by decide)) h
theorem kr_6_4 {o : Nat} (h : kd o = 6) : kd (rf o 4) = 3 := (show ∀ o, o < NC → kd o = 6 → kd (rf o 4) = 3 by decide +kernel) o (kd_lt h (by decide)) h
theorem kr_6_5 {o : Nat} (h : kd o = 6) : kd (rf o 5) = 3 := (show ∀ o, o < NC → kd o = 6 → kd (rf o 5) = 3 by decide +kernel) o (kd_lt h (by decide)) h
theorem kr_6_6 {o : Nat} (h : kd o = 6) : kd (rf o 6) = 0 := (show ∀ o, o < NC → kd o = 6 → kd (rf o 6) = 0 by decide +kernel) o (kd_lt h (by decide)) h
theorem kr_6_7 {o : Nat} (h : kd o = 6) : kd (rf o 7) = 2 := (show ∀ o, o < NC → kd o = 6 → kd (rf o 7) = 2 by decide +kernel) o (kd_lt h (by decide)) h
theorem kr_6_8 {o : Nat} (h : kd o = 6) : kd (rf o 8) = 1 := (show ∀ o, o < NC → kd o = 6 → kd (rf o 8) = 1 by decide +kernel) o (kd_lt h (by decide)) h
theorem kr_7_0 {o : Nat} (h : kd o = 7) : kd (rf o 0) = 100 := (show ∀ o, o < NC → kd o = 7 → kd (rf o 0) = 100 by decide +kernel) o (kd_lt h (by decide)) h
theorem kr_7_1 {o : Nat} (h : kd o = 7) : kd (rf o 1) = 100 := (show ∀ o, o < NC → kd o = 7 → kd (rf o 1) = 100 by decide +kernel) o (kd_lt h (by decide)) h
theorem kr_7_2 {o : Nat} (h : kd o = 7) : kd (rf o 2) = 100 := (show ∀ o, o < NC → kd o = 7 → kd (rf o 2) = 100 by decide +kernel) o (kd_lt h (by decide)) h
theorem kr_7_4 {o : Nat} (h : kd o = 7) : kd (rf o 4) = 100 := (show ∀ o, o < NC → kd o = 7 → kd (rf o 4) = 100 by decide +kernel) o (kd_lt h (by decide)) h
theorem kr_7_5 {o : Nat} (h : kd o = 7) : kd (rf o 5) = 100 := (show ∀ o, o < NC → kd o = 7 → kd (rf o 5) = 100 by decide +kernel) o (kd_lt h (by decide)) h
theorem kr_7_6 {o : Nat} (h : kd o = 7) : kd (rf o 6) = 100 := (show ∀ o, o < NC → kd o = 7 → kd (rf o 6) = 100 by decide +kernel) o (kd_lt h (by decide)) h
theorem kr_7_12 {o : Nat} (h : kd o = 7) : kd (rf o 12) = 100 := (show ∀ o, o < NC → kd o = 7 → kd (rf o 12) = 100 by decide +kernel) o (kd_lt h (by decide)) h
theorem kr_7_14 {o : Nat} (h : kd o = 7) : kd (rf o 14) = 100 := (show ∀ o, o < NC → kd o = 7 → kd (rf o 14) = 100 by decide +kernel) o (kd_lt h (by decide)) h
theorem kr_7_15 {o : Nat} (h : kd o = 7) : kd (rf o 15) = 100 := (show ∀ o, o < NC → kd o = 7 → kd (rf o 15) = 100 by decide +kernel) o (kd_lt h (by decide)) h
theorem kr_7_16 {o : Nat} (h : kd o = 7) : kd (rf o 16) = 100 := (show ∀ o, o < NC → kd o = 7 → kd (rf o 16) = 100 by decide +kernel) o (kd_lt h (by decide)) h
theorem kr_7_17 {o : Nat} (h : kd o = 7) : kd (rf o 17) = 100 := (show ∀ o, o < NC → kd o = 7 → kd (rf o 17) = 100 by decide +kernel) o (kd_lt h (by decide)) h
theorem kr_7_18 {o : Nat} (h : kd o = 7) : kd (rf o 18) = 100 := (show ∀ o, o < NC → kd o = 7 → kd (rf o 18) = 100 by decide +kernel) o (kd_lt h (by decide)) h
theorem kr_7_19 {o : Nat} (h : kd o = 7) : kd (rf o 19) = 100 := (show ∀ o, o < NC → kd o = 7 → kd (rf o 19) = 100 by decide +kernel) o (kd_lt h (by decide)) h
theorem kr_7_20 {o : Nat} (h : kd o = 7) : kd (rf o 20) = 101 := (show ∀ o, o < NC → kd o = 7 → kd (rf o 20) = 101 by decide +kernel) o (kd_lt h (by decide)) h
theorem kr_7_21 {o : Nat} (h : kd o = 7) : kd (rf o 21) = 100 := (show ∀ o, o < NC → kd o = 7 → kd (rf o 21) = 100 by decide +kernel) o (kd_lt h (by decide)) h
theorem cw_0 : ∀ w ∈ u_ws RX0 TX0 (nf 0), w ∈ AW := by
  show ∀ w ∈ [u_lay RX0 TX0 0, u_lay RX0 TX0 1, u_lay RX0 TX0 2, u_lay RX0 TX0 3, u_lay RX0 TX0 4, u_lay RX0 TX0 5, u_lay RX0 TX0 6, u_lay RX0 TX0 7, u_lay RX0 TX0 8], w ∈ AW
  exact List.forall_mem_cons.mpr ⟨AW_t (tb_1 (i := 150) rfl) rfl, List.forall_mem_cons.mpr ⟨AW_t (tb_1 (i := 152) rfl) rfl, List.forall_mem_cons.mpr ⟨AW_t (tb_1 (i := 154) rfl) rfl, List.forall_mem_cons.mpr ⟨AW_t (tb_1 (i := 156) rfl) rfl, List.forall_mem_cons.mpr ⟨AW_t (tb_1 (i := 158) rfl) rfl, List.forall_mem_cons.mpr ⟨AW_t (tb_1 (i := 160) rfl) rfl, List.forall_mem_cons.mpr ⟨AW_t (tb_1 (i := 162) rfl) rfl, List.forall_mem_cons.mpr ⟨AW_t (tb_1 (i := 164) rfl) rfl, List.forall_mem_cons.mpr ⟨AW_t (tb_1 (i := 166) rfl) rfl, fun _ h => absurd h List.not_mem_nil⟩⟩⟩⟩⟩⟩⟩⟩⟩
theorem cf_0 : CF 0 RX0 TX0 := ⟨rfl, cw_0, ⟨tyX0, tyX0_ok⟩, nmX0⟩
theorem cw_1 : ∀ w ∈ u_ws RX1 TX1 (nf 1), w ∈ AW := by
  show ∀ w ∈ [u_lay RX1 TX1 0, u_lay RX1 TX1 1], w ∈ AW
  exact List.forall_mem_cons.mpr ⟨AW_t (tb_1 (i := 196) rfl) rfl, List.forall_mem_cons.mpr ⟨AW_t (tb_1 (i := 198) rfl) rfl, fun _ h => absurd h List.not_mem_nil⟩⟩
theorem cf_1 : CF 1 RX1 TX1 := ⟨rfl, cw_1, ⟨tyX1, tyX1_ok⟩, nmX1⟩
theorem cw_2 : ∀ w ∈ u_ws RX2 TX2 (nf 2), w ∈ AW := by
  show ∀ w ∈ [u_lay RX2 TX2 0, u_lay RX2 TX2 1, u_lay RX2 TX2 2], w ∈ AW
  exact List.forall_mem_cons.mpr ⟨AW_t (tb_1 (i := 179) rfl) rfl, List.forall_mem_cons.mpr ⟨AW_t (tb_1 (i := 181) rfl) rfl, List.forall_mem_cons.mpr ⟨AW_t (tb_1 (i := 183) rfl) rfl, fun _ h => absurd h List.not_mem_nil⟩⟩⟩
theorem cf_2 : CF 2 RX2 TX2 := ⟨rfl, cw_2, ⟨tyX2, tyX2_ok⟩, nmX2⟩
theorem cw_3 : ∀ w ∈ u_ws RX3 TX3 (nf 3), w ∈ AW := by
  show ∀ w ∈ [u_lay RX3 TX3 0, u_lay RX3 TX3 1, u_lay RX3 TX3 2, u_lay RX3 TX3 3, u_lay RX3 TX3 4, u_lay RX3 TX3 5, u_lay RX3 TX3 6, u_lay RX3 TX3 7, u_lay RX3 TX3 8, u_lay RX3 TX3 9, u_lay RX3 TX3 10, u_lay RX3 TX3 11, u_lay RX3 TX3 12], w ∈ AW
  exact List.forall_mem_cons.mpr ⟨AW_t (tb_1 (i := 107) rfl) rfl, List.forall_mem_cons.mpr ⟨AW_t (tb_1 (i := 109) rfl) rfl, List.forall_mem_cons.mpr ⟨AW_t (tb_1 (i := 111) rfl) rfl, List.forall_mem_cons.mpr ⟨AW_t (tb_1 (i := 113) rfl) rfl, List.forall_mem_cons.mpr ⟨AW_t (tb_1 (i := 115) rfl) rfl, List.forall_mem_cons.mpr ⟨AW_t (tb_1 (i := 117) rfl) rfl, List.forall_mem_cons.mpr ⟨AW_t (tb_1 (i := 119) rfl) rfl, List.forall_mem_cons.mpr ⟨AW_t (tb_1 (i := 121) rfl) rfl, List.forall_mem_cons.mpr ⟨AW_t (tb_1 (i := 123) rfl) rfl, List.forall_mem_cons.mpr ⟨AW_t (tb_1 (i := 125) rfl) rfl, List.forall_mem_cons.mpr ⟨AW_t (tb_1 (i := 127) rfl) rfl, List.forall_mem_cons.mpr ⟨AW_t (tb_1 (i := 129) rfl) rfl, List.forall_mem_cons.mpr ⟨AW_t (tb_1 (i := 131) rfl) rfl, fun _ h => absurd h List.not_mem_nil⟩⟩⟩⟩⟩⟩⟩⟩⟩⟩⟩⟩⟩
theorem cf_3 : CF 3 RX3 TX3 := ⟨rfl, cw_3, ⟨tyX3, tyX3_ok⟩, nmX3⟩
theorem cw_4 : ∀ w ∈ u_ws RX4 TX4 (nf 4), w ∈ AW := by
  show ∀ w ∈ [u_lay RX4 TX4 0, u_lay RX4 TX4 1, u_lay RX4 TX4 2], w ∈ AW
  exact List.forall_mem_cons.mpr ⟨AW_t (tb_1 (i := 32) rfl) rfl, List.forall_mem_cons.mpr ⟨AW_t (tb_1 (i := 34) rfl) rfl, List.forall_mem_cons.mpr ⟨AW_t (tb_1 (i := 36) rfl) rfl, fun _ h => absurd h List.not_mem_nil⟩⟩⟩
theorem cf_4 : CF 4 RX4 TX4 := ⟨rfl, cw_4, ⟨tyX4, tyX4_ok⟩, nmX4⟩
theorem cw_5 : ∀ w ∈ u_ws RX5 TX5 (nf 5), w ∈ AW := by
  show ∀ w ∈ [u_lay RX5 TX5 0, u_lay RX5 TX5 1, u_lay RX5 TX5 2, u_lay RX5 TX5 3], w ∈ AW
  exact List.forall_mem_cons.mpr ⟨AW_t (tb_1 (i := 52) rfl) rfl, List.forall_mem_cons.mpr ⟨AW_t (tb_1 (i := 54) rfl) rfl, List.forall_mem_cons.mpr ⟨AW_t (tb_1 (i := 56) rfl) rfl, List.forall_mem_cons.mpr ⟨AW_t (tb_1 (i := 58) rfl) rfl, fun _ h => absurd h List.not_mem_nil⟩⟩⟩⟩
theorem cf_5 : CF 5 RX5 TX5 := ⟨rfl, cw_5, ⟨tyX5, tyX5_ok⟩, nmX5⟩
theorem cw_6 : ∀ w ∈ u_ws RX6 TX6 (nf 6), w ∈ AW := by
  show ∀ w ∈ [u_lay RX6 TX6 0, u_lay RX6 TX6 1, u_lay RX6 TX6 2, u_lay RX6 TX6 3, u_lay RX6 TX6 4, u_lay RX6 TX6 5, u_lay RX6 TX6 6, u_lay RX6 TX6 7, u_lay RX6 TX6 8, u_lay RX6 TX6 9, u_lay RX6 TX6 10], w ∈ AW
  exact List.forall_mem_cons.mpr ⟨AW_t (tb_1 (i := 212) rfl) rfl, List.forall_mem_cons.mpr ⟨AW_t (tb_1 (i := 214) rfl) rfl, List.forall_mem_cons.mpr ⟨AW_t (tb_1 (i := 216) rfl) rfl, List.forall_mem_cons.mpr ⟨AW_t (tb_1 (i := 218) rfl) rfl, List.forall_mem_cons.mpr ⟨AW_t (tb_1 (i := 220) rfl) rfl, List.forall_mem_cons.mpr ⟨AW_t (tb_1 (i := 222) rfl) rfl, List.forall_mem_cons.mpr ⟨AW_t (tb_1 (i := 224) rfl) rfl, List.forall_mem_cons.mpr ⟨AW_t (tb_1 (i := 226) rfl) rfl, List.forall_mem_cons.mpr ⟨AW_t (tb_1 (i := 228) rfl) rfl, List.forall_mem_cons.mpr ⟨AW_t (tb_1 (i := 230) rfl) rfl, List.forall_mem_cons.mpr ⟨AW_t (tb_1 (i := 232) rfl) rfl, fun _ h => absurd h List.not_mem_nil⟩⟩⟩⟩⟩⟩⟩⟩⟩⟩⟩
theorem cf_6 : CF 6 RX6 TX6 := ⟨rfl, cw_6, ⟨tyX6, tyX6_ok⟩, nmX6⟩
theorem cw_7 : ∀ w ∈ u_ws RX7 TX7 (nf 7), w ∈ AW := by
  show ∀ w ∈ [u_lay RX7 TX7 0, u_lay RX7 TX7 1, u_lay RX7 TX7 2, u_lay RX7 TX7 3, u_lay RX7 TX7 4, u_lay RX7 TX7 5, u_lay RX7 TX7 6, u_lay RX7 TX7 7, u_lay RX7 TX7 8, u_lay RX7 TX7 9, u_lay RX7 TX7 10, u_lay RX7 TX7 11, u_lay RX7 TX7 12, u_lay RX7 TX7 13, u_lay RX7 TX7 14, u_lay RX7 TX7 15, u_lay RX7 TX7 16, u_lay RX7 TX7 17, u_lay RX7 TX7 18, u_lay RX7 TX7 19, u_lay RX7 TX7 20, u_lay RX7 TX7 21, u_lay RX7 TX7 22], w ∈ AW
  exact List.forall_mem_cons.mpr ⟨AW_t (tb_4 (i := 56) rfl) rfl, List.forall_mem_cons.mpr ⟨AW_t (tb_4 (i := 58) rfl) rfl, List.forall_mem_cons.mpr ⟨AW_t (tb_4 (i := 60) rfl) rfl, List.forall_mem_cons.mpr ⟨AW_t (tb_4 (i := 62) rfl) rfl, List.forall_mem_cons.mpr ⟨AW_t (tb_4 (i := 64) rfl) rfl, List.forall_mem_cons.mpr ⟨AW_t (tb_4 (i := 66) rfl) rfl, List.forall_mem_cons.mpr ⟨AW_t (tb_4 (i := 68) rfl) rfl, List.forall_mem_cons.mpr ⟨AW_t (tb_4 (i := 70) rfl) rfl, List.forall_mem_cons.mpr ⟨AW_t (tb_4 (i := 72) rfl) rfl, List.forall_mem_cons.mpr ⟨AW_t (tb_4 (i := 74) rfl) rfl, List.forall_mem_cons.mpr ⟨AW_t (tb_4 (i := 76) rfl) rfl, List.forall_mem_cons.mpr ⟨AW_t (tb_4 (i := 78) rfl) rfl, List.forall_mem_cons.mpr ⟨AW_t (tb_4 (i := 80) rfl) rfl, List.forall_mem_cons.mpr ⟨AW_t (tb_4 (i := 82) rfl) rfl, List.forall_mem_cons.mpr ⟨AW_t (tb_4 (i := 84) rfl) rfl, List.forall_mem_cons.mpr ⟨AW_t (tb_4 (i := 86) rfl) rfl, List.forall_mem_cons.mpr ⟨AW_t (tb_4 (i := 88) rfl) rfl, List.forall_mem_cons.mpr ⟨AW_t (tb_4 (i := 90) rfl) rfl, List.forall_mem_cons.mpr ⟨AW_t (tb_4 (i := 92) rfl) rfl, List.forall_mem_cons.mpr ⟨AW_t (tb_4 (i := 94) rfl) rfl, List.forall_mem_cons.mpr ⟨AW_t (tb_4 (i := 96) rfl) rfl, List.forall_mem_cons.mpr ⟨AW_t (tb_4 (i := 98) rfl) rfl, List.forall_mem_cons.mpr ⟨AW_t (tb_4 (i := 100) rfl) rfl, fun _ h => absurd h List.not_mem_nil⟩⟩⟩⟩⟩⟩⟩⟩⟩⟩⟩⟩⟩⟩⟩⟩⟩⟩⟩⟩⟩⟩⟩
theorem cf_7 : CF 7 RX7 TX7 := ⟨rfl, cw_7, ⟨tyX7, tyX7_ok⟩, nmX7⟩
theorem gf_X0_13 : FL RX0 13 (TX0 1).1 (TX0 1).2.1 (TX0 1).2.2.1 := Or.inl (AW_t (tb_1 (i := 141) rfl) rfl)
theorem gf_X0_16 : FL RX0 16 (TX0 2).1 (TX0 2).2.1 (TX0 2).2.2.1 := Or.inl (AW_t (tb_1 (i := 142) rfl) rfl)
theorem gf_X0_19 : FL RX0 19 (TX0 3).1 (TX0 3).2.1 (TX0 3).2.2.1 := Or.inl (AW_t (tb_1 (i := 143) rfl) rfl)
theorem gf_X0_22 : FL RX0 22 (TX0 4).1 (TX0 4).2.1 (TX0 4).2.2.1 := Or.inl (AW_t (tb_1 (i := 144) rfl) rfl)
theorem gf_X0_25 : FL RX0 25 (TX0 5).1 (TX0 5).2.1 (TX0 5).2.2.1 := Or.inl (AW_t (tb_1 (i := 145) rfl) rfl)
theorem gf_X0_28 : FL RX0 28 (TX0 6).1 (TX0 6).2.1 (TX0 6).2.2.1 := Or.inl (AW_t (tb_1 (i := 146) rfl) rfl)
theorem gf_X0_31 : FL RX0 31 (TX0 7).1 (TX0 7).2.1 (TX0 7).2.2.1 := Or.inl (AW_t (tb_1 (i := 147) rfl) rfl)
theorem gf_X0_35 : FL RX0 35 (TX0 8).1 (TX0 8).2.1 (TX0 8).2.2.1 := Or.inl (AW_t (tb_1 (i := 148) rfl) rfl)
theorem gf_X0_48 : FL RX0 48 (TX3 9).1 (TX3 9).2.1 (TX3 9).2.2.1 := Or.inr ⟨"AgingLetters", NW_t (tb_1 (i := 98) rfl) rfl⟩
theorem gf_X0_68 : FL RX0 68 (TX3 7).1 (TX3 7).2.1 (TX3 7).2.2.1 := Or.inr ⟨"AgingLetters", NW_t (tb_1 (i := 91) rfl) rfl⟩
theorem gf_X0_74 : FL RX0 74 (TX3 11).1 (TX3 11).2.1 (TX3 11).2.2.1 := Or.inr ⟨"AgingLetters", NW_t (tb_1 (i := 104) rfl) rfl⟩
theorem gf_X0_77 : FL RX0 77 (TX3 5).1 (TX3 5).2.1 (TX3 5).2.2.1 := Or.inr ⟨"AgingLetters", NW_t (tb_1 (i := 84) rfl) rfl⟩
theorem gf_X0_84 : FL RX0 84 (TX3 2).1 (TX3 2).2.1 (TX3 2).2.2.1 := Or.inr ⟨"AgingLetters", NW_t (tb_1 (i := 73) rfl) rfl⟩
theorem gf_X0_9 : FL RX0 9 (TX0 0).1 (TX0 0).2.1 (TX0 0).2.2.1 := Or.inl (AW_t (tb_1 (i := 140) rfl) rfl)
theorem gf_X1_13 : FL RX1 13 (TX1 1).1 (TX1 1).2.1 (TX1 1).2.2.1 := Or.inl (AW_t (tb_1 (i := 194) rfl) rfl)
theorem gf_X1_25 : FL RX1 25 (TX3 4).1 (TX3 4).2.1 (TX3 4).2.2.1 := Or.inr ⟨"AgingLetters", NW_t (tb_1 (i := 80) rfl) rfl⟩
theorem gf_X1_40 : FL RX1 40 (TX3 5).1 (TX3 5).2.1 (TX3 5).2.2.1 := Or.inr ⟨"AgingLetters", NW_t (tb_1 (i := 83) rfl) rfl⟩
theorem gf_X1_9 : FL RX1 9 (TX1 0).1 (TX1 0).2.1 (TX1 0).2.2.1 := Or.inl (AW_t (tb_1 (i := 192) rfl) rfl)
theorem gf_X2_15 : FL RX2 15 (TX2 1).1 (TX2 1).2.1 (TX2 1).2.2.1 := Or.inl (AW_t (tb_1 (i := 176) rfl) rfl)
theorem gf_X2_18 : FL RX2 18 (TX2 2).1 (TX2 2).2.1 (TX2 2).2.2.1 := Or.inl (AW_t (tb_1 (i := 178) rfl) rfl)
theorem gf_X2_22 : FL RX2 22 (TX3 7).1 (TX3 7).2.1 (TX3 7).2.2.1 := Or.inr ⟨"AgingLetters", NW_t (tb_1 (i := 89) rfl) rfl⟩
theorem gf_X2_28 : FL RX2 28 (TX3 10).1 (TX3 10).2.1 (TX3 10).2.2.1 := Or.inr ⟨"AgingLetters", NW_t (tb_1 (i := 101) rfl) rfl⟩
theorem gf_X2_31 : FL RX2 31 (TX3 9).1 (TX3 9).2.1 (TX3 9).2.2.1 := Or.inr ⟨"AgingLetters", NW_t (tb_1 (i := 97) rfl) rfl⟩
theorem gf_X2_68 : FL RX2 68 (TX3 3).1 (TX3 3).2.1 (TX3 3).2.2.1 := Or.inr ⟨"AgingLetters", NW_t (tb_1 (i := 76) rfl) rfl⟩
theorem gf_X2_77 : FL RX2 77 (TX3 5).1 (TX3 5).2.1 (TX3 5).2.2.1 := Or.inr ⟨"AgingLetters", NW_t (tb_1 (i := 85) rfl) rfl⟩
theorem gf_X2_9 : FL RX2 9 (TX2 0).1 (TX2 0).2.1 (TX2 0).2.2.1 := Or.inl (AW_t (tb_1 (i := 175) rfl) rfl)
theorem gf_X3_15 : FL RX3 15 (TX3 5).1 (TX3 5).2.1 (TX3 5).2.2.1 := Or.inl (AW_t (tb_1 (i := 82) rfl) rfl)
theorem gf_X3_18 : FL RX3 18 (TX3 6).1 (TX3 6).2.1 (TX3 6).2.2.1 := Or.inl (AW_t (tb_1 (i := 87) rfl) rfl)
theorem gf_X3_21 : FL RX3 21 (TX3 8).1 (TX3 8).2.1 (TX3 8).2.2.1 := Or.inl (AW_t (tb_1 (i := 94) rfl) rfl)
theorem gf_X3_24 : FL RX3 24 (TX3 9).1 (TX3 9).2.1 (TX3 9).2.2.1 := Or.inl (AW_t (tb_1 (i := 96) rfl) rfl)
theorem gf_X3_27 : FL RX3 27 (TX3 10).1 (TX3 10).2.1 (TX3 10).2.2.1 := Or.inl (AW_t (tb_1 (i := 100) rfl) rfl)
theorem gf_X3_30 : FL RX3 30 (TX3 11).1 (TX3 11).2.1 (TX3 11).2.2.1 := Or.inl (AW_t (tb_1 (i := 103) rfl) rfl)
theorem gf_X3_33 : FL RX3 33 (TX3 12).1 (TX3 12).2.1 (TX3 12).2.2.1 := Or.inl (AW_t (tb_1 (i := 106) rfl) rfl)
theorem gf_X3_36 : FL RX3 36 (TX3 0).1 (TX3 0).2.1 (TX3 0).2.2.1 := Or.inl (AW_t (tb_1 (i := 67) rfl) rfl)
theorem gf_X3_40 : FL RX3 40 (TX3 1).1 (TX3 1).2.1 (TX3 1).2.2.1 := Or.inl (AW_t (tb_1 (i := 70) rfl) rfl)
theorem gf_X3_44 : FL RX3 44 (TX3 2).1 (TX3 2).2.1 (TX3 2).2.2.1 := Or.inl (AW_t (tb_1 (i := 72) rfl) rfl)
theorem gf_X3_47 : FL RX3 47 (TX3 3).1 (TX3 3).2.1 (TX3 3).2.2.1 := Or.inl (AW_t (tb_1 (i := 75) rfl) rfl)
theorem gf_X3_50 : FL RX3 50 (TX3 7).1 (TX3 7).2.1 (TX3 7).2.2.1 := Or.inl (AW_t (tb_1 (i := 90) rfl) rfl)
theorem gf_X3_9 : FL RX3 9 (TX3 4).1 (TX3 4).2.1 (TX3 4).2.2.1 := Or.inl (AW_t (tb_1 (i := 79) rfl) rfl)
theorem gf_X4_13 : FL RX4 13 (TX4 1).1 (TX4 1).2.1 (TX4 1).2.2.1 := Or.inl (AW_t (tb_1 (i := 30) rfl) rfl)
theorem gf_X4_16 : FL RX4 16 (TX4 2).1 (TX4 2).2.1 (TX4 2).2.2.1 := Or.inl (AW_t (tb_1 (i := 31) rfl) rfl)
theorem gf_X4_9 : FL RX4 9 (TX4 0).1 (TX4 0).2.1 (TX4 0).2.2.1 := Or.inl (AW_t (tb_1 (i := 29) rfl) rfl)
theorem gf_X5_11 : FL RX5 11 (TX5 0).1 (TX5 0).2.1 (TX5 0).2.2.1 := Or.inl (AW_t (tb_1 (i := 46) rfl) rfl)
theorem gf_X5_15 : FL RX5 15 (TX5 1).1 (TX5 1).2.1 (TX5 1).2.2.1 := Or.inl (AW_t (tb_1 (i := 47) rfl) rfl)
theorem gf_X5_24 : FL RX5 24 (TX5 2).1 (TX5 2).2.1 (TX5 2).2.2.1 := Or.inl (AW_t (tb_1 (i := 49) rfl) rfl)
theorem gf_X5_37 : FL RX5 37 (TX3 0).1 (TX3 0).2.1 (TX3 0).2.2.1 := Or.inr ⟨"AgingLetters", NW_t (tb_1 (i := 68) rfl) rfl⟩
theorem gf_X5_49 : FL RX5 49 (TX5 3).1 (TX5 3).2.1 (TX5 3).2.2.1 := Or.inl (AW_t (tb_1 (i := 51) rfl) rfl)
theorem gf_X5_52 : FL RX5 52 (TX3 1).1 (TX3 1).2.1 (TX3 1).2.2.1 := Or.inr ⟨"AgingLetters", NW_t (tb_1 (i := 71) rfl) rfl⟩
theorem gf_X5_59 : FL RX5 59 (TX3 7).1 (TX3 7).2.1 (TX3 7).2.2.1 := Or.inr ⟨"AgingLetters", NW_t (tb_1 (i := 92) rfl) rfl⟩
theorem gf_X5_62 : FL RX5 62 (TX3 3).1 (TX3 3).2.1 (TX3 3).2.2.1 := Or.inr ⟨"AgingLetters", NW_t (tb_1 (i := 77) rfl) rfl⟩
theorem gf_X6_10 : FL RX6 10 (TX6 0).1 (TX6 0).2.1 (TX6 0).2.2.1 := Or.inl (AW_t (tb_1 (i := 201) rfl) rfl)
theorem gf_X6_116 : FL RX6 116 (TX6 9).1 (TX6 9).2.1 (TX6 9).2.2.1 := Or.inl (AW_t (tb_1 (i := 210) rfl) rfl)
theorem gf_X6_121 : FL RX6 121 (TX5 2).1 (TX5 2).2.1 (TX5 2).2.2.1 := Or.inr ⟨"AgingLetters", NW_t (tb_1 (i := 50) rfl) rfl⟩
theorem gf_X6_131 : FL RX6 131 (TX3 7).1 (TX3 7).2.1 (TX3 7).2.2.1 := Or.inr ⟨"AgingLetters", NW_t (tb_1 (i := 93) rfl) rfl⟩
theorem gf_X6_148 : FL RX6 148 (TX3 9).1 (TX3 9).2.1 (TX3 9).2.2.1 := Or.inr ⟨"AgingLetters", NW_t (tb_1 (i := 99) rfl) rfl⟩
theorem gf_X6_161 : FL RX6 161 (TX3 5).1 (TX3 5).2.1 (TX3 5).2.2.1 := Or.inr ⟨"AgingLetters", NW_t (tb_1 (i := 86) rfl) rfl⟩
theorem gf_X6_168 : FL RX6 168 (TX3 0).1 (TX3 0).2.1 (TX3 0).2.2.1 := Or.inr ⟨"AgingLetters", NW_t (tb_1 (i := 69) rfl) rfl⟩
theorem gf_X6_172 : FL RX6 172 (TX3 2).1 (TX3 2).2.1 (TX3 2).2.2.1 := Or.inr ⟨"AgingLetters", NW_t (tb_1 (i := 74) rfl) rfl⟩
theorem gf_X6_178 : FL RX6 178 (TX0 8).1 (TX0 8).2.1 (TX0 8).2.2.1 := Or.inr ⟨"AgingLetters", NW_t (tb_1 (i := 149) rfl) rfl⟩
theorem gf_X6_184 : FL RX6 184 (TX3 10).1 (TX3 10).2.1 (TX3 10).2.2.1 := Or.inr ⟨"AgingLetters", NW_t (tb_1 (i := 102) rfl) rfl⟩
theorem gf_X6_19 : FL RX6 19 (TX6 1).1 (TX6 1).2.1 (TX6 1).2.2.1 := Or.inl (AW_t (tb_1 (i := 202) rfl) rfl)
theorem gf_X6_193 : FL RX6 193 (TX3 11).1 (TX3 11).2.1 (TX3 11).2.2.1 := Or.inr ⟨"AgingLetters", NW_t (tb_1 (i := 105) rfl) rfl⟩
theorem gf_X6_196 : FL RX6 196 (TX3 6).1 (TX3 6).2.1 (TX3 6).2.2.1 := Or.inr ⟨"AgingLetters", NW_t (tb_1 (i := 88) rfl) rfl⟩
theorem gf_X6_225 : FL RX6 225 (TX2 1).1 (TX2 1).2.1 (TX2 1).2.2.1 := Or.inr ⟨"AgingLetters", NW_t (tb_1 (i := 177) rfl) rfl⟩
theorem gf_X6_255 : FL RX6 255 (TX3 8).1 (TX3 8).2.1 (TX3 8).2.2.1 := Or.inr ⟨"AgingLetters", NW_t (tb_1 (i := 95) rfl) rfl⟩
theorem gf_X6_26 : FL RX6 26 (TX6 2).1 (TX6 2).2.1 (TX6 2).2.2.1 := Or.inl (AW_t (tb_1 (i := 203) rfl) rfl)
theorem gf_X6_289 : FL RX6 289 (TX3 4).1 (TX3 4).2.1 (TX3 4).2.2.1 := Or.inr ⟨"AgingLetters", NW_t (tb_1 (i := 81) rfl) rfl⟩
theorem gf_X6_298 : FL RX6 298 (TX1 1).1 (TX1 1).2.1 (TX1 1).2.2.1 := Or.inr ⟨"AgingLetters", NW_t (tb_1 (i := 195) rfl) rfl⟩
theorem gf_X6_30 : FL RX6 30 (TX6 3).1 (TX6 3).2.1 (TX6 3).2.2.1 := Or.inl (AW_t (tb_1 (i := 204) rfl) rfl)
theorem gf_X6_301 : FL RX6 301 (TX1 0).1 (TX1 0).2.1 (TX1 0).2.2.1 := Or.inr ⟨"AgingLetters", NW_t (tb_1 (i := 193) rfl) rfl⟩
theorem gf_X6_307 : FL RX6 307 (TX3 3).1 (TX3 3).2.1 (TX3 3).2.2.1 := Or.inr ⟨"AgingLetters", NW_t (tb_1 (i := 78) rfl) rfl⟩
theorem gf_X6_316 : FL RX6 316 (TX5 1).1 (TX5 1).2.1 (TX5 1).2.2.1 := Or.inr ⟨"AgingLetters", NW_t (tb_1 (i := 48) rfl) rfl⟩
theorem gf_X6_319 : FL RX6 319 (TX6 10).1 (TX6 10).2.1 (TX6 10).2.2.1 := Or.inl (AW_t (tb_1 (i := 211) rfl) rfl)
theorem gf_X6_33 : FL RX6 33 (TX6 4).1 (TX6 4).2.1 (TX6 4).2.2.1 := Or.inl (AW_t (tb_1 (i := 205) rfl) rfl)
theorem gf_X6_36 : FL RX6 36 (TX6 5).1 (TX6 5).2.1 (TX6 5).2.2.1 := Or.inl (AW_t (tb_1 (i := 206) rfl) rfl)
theorem gf_X6_42 : FL RX6 42 (TX6 6).1 (TX6 6).2.1 (TX6 6).2.2.1 := Or.inl (AW_t (tb_1 (i := 207) rfl) rfl)
theorem gf_X6_49 : FL RX6 49 (TX6 7).1 (TX6 7).2.1 (TX6 7).2.2.1 := Or.inl (AW_t (tb_1 (i := 208) rfl) rfl)
theorem gf_X6_56 : FL RX6 56 (TX6 8).1 (TX6 8).2.1 (TX6 8).2.2.1 := Or.inl (AW_t (tb_1 (i := 209) rfl) rfl)
theorem gf_X7_119 : FL RX7 119 (TX7 7).1 (TX7 7).2.1 (TX7 7).2.2.1 := Or.inl (AW_t (tb_4 (i := 40) rfl) rfl)
theorem gf_X7_123 : FL RX7 123 (TX7 9).1 (TX7 9).2.1 (TX7 9).2.2.1 := Or.inl (AW_t (tb_4 (i := 42) rfl) rfl)
theorem gf_X7_126 : FL RX7 126 (TX7 8).1 (TX7 8).2.1 (TX7 8).2.2.1 := Or.inl (AW_t (tb_4 (i := 41) rfl) rfl)
theorem gf_X7_129 : FL RX7 129 (TX7 10).1 (TX7 10).2.1 (TX7 10).2.2.1 := Or.inl (AW_t (tb_4 (i := 43) rfl) rfl)
theorem gf_X7_13 : FL RX7 13 (TX7 1).1 (TX7 1).2.1 (TX7 1).2.2.1 := Or.inl (AW_t (tb_4 (i := 34) rfl) rfl)
theorem gf_X7_139 : FL RX7 139 (TX7 11).1 (TX7 11).2.1 (TX7 11).2.2.1 := Or.inl (AW_t (tb_4 (i := 44) rfl) rfl)
theorem gf_X7_16 : FL RX7 16 (TX7 2).1 (TX7 2).2.1 (TX7 2).2.2.1 := Or.inl (AW_t (tb_4 (i := 35) rfl) rfl)
theorem gf_X7_173 : FL RX7 173 (TX7 13).1 (TX7 13).2.1 (TX7 13).2.2.1 := Or.inl (AW_t (tb_4 (i := 46) rfl) rfl)
theorem gf_X7_19 : FL RX7 19 (TX7 4).1 (TX7 4).2.1 (TX7 4).2.2.1 := Or.inl (AW_t (tb_4 (i := 37) rfl) rfl)
theorem gf_X7_22 : FL RX7 22 (TX7 5).1 (TX7 5).2.1 (TX7 5).2.2.1 := Or.inl (AW_t (tb_4 (i := 38) rfl) rfl)
theorem gf_X7_25 : FL RX7 25 (TX7 6).1 (TX7 6).2.1 (TX7 6).2.2.1 := Or.inl (AW_t (tb_4 (i := 39) rfl) rfl)
theorem gf_X7_259 : FL RX7 259 (TX7 22).1 (TX7 22).2.1 (TX7 22).2.2.1 := Or.inl (AW_t (tb_4 (i := 55) rfl) rfl)
theorem gf_X7_28 : FL RX7 28 (TX7 12).1 (TX7 12).2.1 (TX7 12).2.2.1 := Or.inl (AW_t (tb_4 (i := 45) rfl) rfl)
theorem gf_X7_31 : FL RX7 31 (TX7 14).1 (TX7 14).2.1 (TX7 14).2.2.1 := Or.inl (AW_t (tb_4 (i := 47) rfl) rfl)
theorem gf_X7_34 : FL RX7 34 (TX7 15).1 (TX7 15).2.1 (TX7 15).2.2.1 := Or.inl (AW_t (tb_4 (i := 48) rfl) rfl)
theorem gf_X7_37 : FL RX7 37 (TX7 16).1 (TX7 16).2.1 (TX7 16).2.2.1 := Or.inl (AW_t (tb_4 (i := 49) rfl) rfl)
theorem gf_X7_40 : FL RX7 40 (TX7 17).1 (TX7 17).2.1 (TX7 17).2.2.1 := Or.inl (AW_t (tb_4 (i := 50) rfl) rfl)
theorem gf_X7_43 : FL RX7 43 (TX7 18).1 (TX7 18).2.1 (TX7 18).2.2.1 := Or.inl (AW_t (tb_4 (i := 51) rfl) rfl)
theorem gf_X7_46 : FL RX7 46 (TX7 19).1 (TX7 19).2.1 (TX7 19).2.2.1 := Or.inl (AW_t (tb_4 (i := 52) rfl) rfl)
theorem gf_X7_49 : FL RX7 49 (TX7 20).1 (TX7 20).2.1 (TX7 20).2.2.1 := Or.inl (AW_t (tb_4 (i := 53) rfl) rfl)
theorem gf_X7_53 : FL RX7 53 (TX7 21).1 (TX7 21).2.1 (TX7 21).2.2.1 := Or.inl (AW_t (tb_4 (i := 54) rfl) rfl)
theorem gf_X7_56 : FL RX7 56 (TX7 3).1 (TX7 3).2.1 (TX7 3).2.2.1 := Or.inl (AW_t (tb_4 (i := 36) rfl) rfl)
theorem gf_X7_7 : FL RX7 7 (TX7 0).1 (TX7 0).2.1 (TX7 0).2.2.1 := Or.inl (AW_t (tb_4 (i := 33) rfl) rfl)
theorem gs_X1_30 : Cond.fieldLink RX1 30 "AgingLetters$Asks" "SIZE_BODIES" "[I" ∈ AW := AW_t (tb_3 (i := 232) rfl) rfl
theorem gs_X1_33 : Cond.fieldLink RX1 33 "AgingLetters$Asks" "MARK_BODIES" "[I" ∈ AW := AW_t (tb_3 (i := 234) rfl) rfl
theorem kc_J6_265 : Cond.constant RJ6 265 1431655765 ∈ AW := AW_t (tb_3 (i := 119) rfl) rfl
theorem kc_J6_266 : Cond.constant RJ6 266 858993459 ∈ AW := AW_t (tb_3 (i := 120) rfl) rfl
theorem kc_J6_267 : Cond.constant RJ6 267 252645135 ∈ AW := AW_t (tb_3 (i := 121) rfl) rfl
theorem kc_X2_21 : Cond.constant RX2 21 (-1000000) ∈ AW := AW_t (tb_3 (i := 43) rfl) rfl
theorem kc_X6_105 : Cond.constant RX6 105 (-1000003) ∈ AW := AW_t (tb_2 (i := 68) rfl) rfl
theorem kc_X6_120 : Cond.constant RX6 120 (-1000100) ∈ AW := AW_t (tb_2 (i := 125) rfl) rfl
theorem kc_X6_143 : Cond.constant RX6 143 (-1000002) ∈ AW := AW_t (tb_2 (i := 159) rfl) rfl
theorem kc_X6_217 : Cond.constant RX6 217 (-1000000) ∈ AW := AW_t (tb_3 (i := 64) rfl) rfl
theorem kc_X6_322 : Cond.constant RX6 322 (-1000010) ∈ AW := AW_t (tb_2 (i := 12) rfl) rfl
theorem kc_X6_67 : Cond.constant RX6 67 (-1000001) ∈ AW := AW_t (tb_2 (i := 7) rfl) rfl
theorem kc_X7_117 : Cond.constantLong RX7 117 255 ∈ AW := AW_t (tb_4 (i := 149) rfl) rfl
theorem kc_X7_122 : Cond.constant RX7 122 (-1000003) ∈ AW := AW_t (tb_4 (i := 150) rfl) rfl
theorem kc_X7_142 : Cond.constantLong RX7 142 48 ∈ AW := AW_t (tb_4 (i := 179) rfl) rfl
theorem kc_X7_144 : Cond.constantLong RX7 144 57 ∈ AW := AW_t (tb_4 (i := 180) rfl) rfl
theorem kc_X7_172 : Cond.constant RX7 172 (-1000100) ∈ AW := AW_t (tb_4 (i := 196) rfl) rfl
theorem kc_X7_189 : Cond.constant RX7 189 (-1000002) ∈ AW := AW_t (tb_4 (i := 237) rfl) rfl
theorem kc_X7_206 : Cond.constantLong RX7 206 39 ∈ AW := AW_t (tb_5 (i := 47) rfl) rfl
theorem kc_X7_214 : Cond.constantLong RX7 214 3 ∈ AW := AW_t (tb_5 (i := 72) rfl) rfl
theorem kc_X7_222 : Cond.constant RX7 222 (-1000000) ∈ AW := AW_t (tb_5 (i := 89) rfl) rfl
theorem kc_X7_226 : Cond.constant RX7 226 1000000 ∈ AW := AW_t (tb_5 (i := 101) rfl) rfl
theorem kc_X7_239 : Cond.constantLong RX7 239 99 ∈ AW := AW_t (tb_5 (i := 138) rfl) rfl
theorem kc_X7_241 : Cond.constantLong RX7 241 999 ∈ AW := AW_t (tb_5 (i := 143) rfl) rfl
theorem kc_X7_246 : Cond.constantLong RX7 246 6 ∈ AW := AW_t (tb_5 (i := 152) rfl) rfl
theorem kc_X7_252 : Cond.constantLong RX7 252 10 ∈ AW := AW_t (tb_5 (i := 161) rfl) rfl
theorem kc_X7_254 : Cond.constantLong RX7 254 5 ∈ AW := AW_t (tb_5 (i := 178) rfl) rfl
theorem kc_X7_60 : Cond.constant RX7 60 (-1000010) ∈ AW := AW_t (tb_4 (i := 121) rfl) rfl
theorem kc_X7_61 : Cond.constantLong RX7 61 7 ∈ AW := AW_t (tb_4 (i := 111) rfl) rfl
theorem kc_X7_71 : Cond.constantLong RX7 71 2 ∈ AW := AW_t (tb_4 (i := 115) rfl) rfl
theorem kc_X7_73 : Cond.constant RX7 73 (-1000001) ∈ AW := AW_t (tb_4 (i := 116) rfl) rfl
theorem ml_X0_38 : Cond.methodLink RX0 38 yX3_costFor ∈ AW := AW_t (tb_2 (i := 164) rfl) rfl
theorem ml_X0_44 : Cond.methodLink RX0 44 yX3_survives ∈ AW := AW_t (tb_2 (i := 185) rfl) rfl
theorem ml_X0_51 : Cond.methodLink RX0 51 yX3_addTimesRead ∈ AW := AW_t (tb_2 (i := 189) rfl) rfl
theorem ml_X0_55 : Cond.methodLinkNest RX0 55 yX6_tenthUp "AgingLetters" ∈ NW := NW_t (tb_2 (i := 193) rfl) rfl
theorem ml_X0_61 : Cond.methodLink RX0 61 yX0_letHear ∈ AW := AW_t (tb_2 (i := 194) rfl) rfl
theorem ml_X0_65 : Cond.methodLink RX0 65 yX0_keep ∈ AW := AW_t (tb_2 (i := 200) rfl) rfl
theorem ml_X0_71 : Cond.methodLinkNest RX0 71 yX6_inSet "AgingLetters" ∈ NW := NW_t (tb_2 (i := 197) rfl) rfl
theorem ml_X0_80 : Cond.methodLink RX0 80 yX0_moveDay ∈ AW := AW_t (tb_2 (i := 234) rfl) rfl
theorem ml_X0_87 : Cond.methodLink RX0 87 yX0_takeReadingBack ∈ AW := AW_t (tb_3 (i := 5) rfl) rfl
theorem ml_X1_17 : Cond.methodLink RX1 17 yX1_bodyFor ∈ AW := AW_t (tb_3 (i := 229) rfl) rfl
theorem ml_X1_21 : Cond.methodLink RX1 21 yX1_begin ∈ AW := AW_t (tb_3 (i := 236) rfl) rfl
theorem ml_X1_36 : Cond.methodLink RX1 36 yX1_leaveNumber ∈ AW := AW_t (tb_3 (i := 239) rfl) rfl
theorem ml_X1_43 : Cond.methodLink RX1 43 yX3_timesReadByAll ∈ AW := AW_t (tb_4 (i := 3) rfl) rfl
theorem ml_X2_100 : Cond.methodLink RX2 100 yX2_power ∈ AW := AW_t (tb_3 (i := 189) rfl) rfl
theorem ml_X2_34 : Cond.methodLink RX2 34 yX3_costFor ∈ AW := AW_t (tb_3 (i := 44) rfl) rfl
theorem ml_X2_38 : Cond.methodLink RX2 38 yX3_isFit ∈ AW := AW_t (tb_3 (i := 45) rfl) rfl
theorem ml_X2_42 : Cond.methodLink RX2 42 yX3_survives ∈ AW := AW_t (tb_3 (i := 63) rfl) rfl
theorem ml_X2_46 : Cond.methodLink RX2 46 yX2_spentAloud ∈ AW := AW_t (tb_3 (i := 90) rfl) rfl
theorem ml_X2_50 : Cond.methodLink RX2 50 yX3_howManyAlive ∈ AW := AW_t (tb_3 (i := 94) rfl) rfl
theorem ml_X2_54 : Cond.methodLinkNest RX2 54 yX6_tenthUp "AgingLetters" ∈ NW := NW_t (tb_3 (i := 98) rfl) rfl
theorem ml_X2_58 : Cond.methodLink RX2 58 yJ7_fill_53178 ∈ AW := AW_t (tb_3 (i := 54) rfl) rfl
theorem ml_X2_64 : Cond.methodLink RX2 64 yX2_handsOut ∈ AW := AW_t (tb_3 (i := 55) rfl) rfl
theorem ml_X2_71 : Cond.methodLink RX2 71 yX3_readersOf ∈ AW := AW_t (tb_3 (i := 58) rfl) rfl
theorem ml_X2_74 : Cond.methodLink RX2 74 yX3_firstCost ∈ AW := AW_t (tb_3 (i := 59) rfl) rfl
theorem ml_X2_80 : Cond.methodLink RX2 80 yJ6_bitCount_0f7a4 ∈ AW := AW_t (tb_3 (i := 116) rfl) rfl
theorem ml_X2_85 : Cond.methodLink RX2 85 yX3_costOfAll ∈ AW := AW_t (tb_3 (i := 122) rfl) rfl
theorem ml_X2_88 : Cond.methodLink RX2 88 yX3_costFor_ ∈ AW := AW_t (tb_3 (i := 136) rfl) rfl
theorem ml_X2_91 : Cond.methodLink RX2 91 yX3_firstCostOf ∈ AW := AW_t (tb_3 (i := 154) rfl) rfl
theorem ml_X2_94 : Cond.methodLinkNest RX2 94 yX6_inSet "AgingLetters" ∈ NW := NW_t (tb_3 (i := 175) rfl) rfl
theorem ml_X2_97 : Cond.methodLink RX2 97 yX3_unreadLetters ∈ AW := AW_t (tb_3 (i := 188) rfl) rfl
theorem ml_X3_100 : Cond.methodLink RX3 100 yX3_costFor ∈ AW := AW_t (tb_3 (i := 126) rfl) rfl
theorem ml_X3_102 : Cond.methodLinkNest RX3 102 yX6_tenthUp "AgingLetters" ∈ NW := NW_t (tb_2 (i := 178) rfl) rfl
theorem ml_X3_53 : Cond.methodLink RX3 53 yJ7_fill_53178 ∈ AW := AW_t (tb_2 (i := 85) rfl) rfl
theorem ml_X3_59 : Cond.methodLink RX3 59 arraycopyName ∈ AW := AW_t (tb_2 (i := 130) rfl) rfl
theorem ml_X3_65 : Cond.methodLink RX3 65 yX3_isAlive ∈ AW := AW_t (tb_2 (i := 155) rfl) rfl
theorem ml_X3_69 : Cond.methodLinkNest RX3 69 yX6_inSet "AgingLetters" ∈ NW := NW_t (tb_2 (i := 217) rfl) rfl
theorem ml_X3_73 : Cond.methodLink RX3 73 yX3_isFit ∈ AW := AW_t (tb_4 (i := 22) rfl) rfl
theorem ml_X3_76 : Cond.methodLink RX3 76 yX3_hasRead ∈ AW := AW_t (tb_2 (i := 181) rfl) rfl
theorem ml_X3_79 : Cond.methodLink RX3 79 yX3_unreadDueAhead ∈ AW := AW_t (tb_3 (i := 69) rfl) rfl
theorem ml_X3_83 : Cond.methodLink RX3 83 yX3_readersOf ∈ AW := AW_t (tb_3 (i := 73) rfl) rfl
theorem ml_X3_86 : Cond.methodLink RX3 86 yX3_costFor_ ∈ AW := AW_t (tb_2 (i := 168) rfl) rfl
theorem ml_X3_90 : Cond.methodLink RX3 90 yX3_costOfPages ∈ AW := AW_t (tb_2 (i := 172) rfl) rfl
theorem ml_X3_94 : Cond.methodLinkNest RX3 94 yX6_halfUp "AgingLetters" ∈ NW := NW_t (tb_2 (i := 175) rfl) rfl
theorem ml_X3_97 : Cond.methodLink RX3 97 yX3_firstCost ∈ AW := AW_t (tb_3 (i := 78) rfl) rfl
theorem ml_X4_25 : Cond.methodLink RX4 25 arraycopyName ∈ AW := AW_t (tb_2 (i := 49) rfl) rfl
theorem ml_X4_31 : Cond.methodLink RX4 31 yX4_isMissing ∈ AW := AW_t (tb_4 (i := 16) rfl) rfl
theorem ml_X5_19 : Cond.methodLink RX5 19 yX3_clear ∈ AW := AW_t (tb_2 (i := 81) rfl) rfl
theorem ml_X5_27 : Cond.methodLink RX5 27 yX5_readLaw ∈ AW := AW_t (tb_2 (i := 86) rfl) rfl
theorem ml_X5_31 : Cond.methodLink RX5 31 yX5_readReader ∈ AW := AW_t (tb_2 (i := 101) rfl) rfl
theorem ml_X5_34 : Cond.methodLink RX5 34 yX5_readLetter ∈ AW := AW_t (tb_2 (i := 109) rfl) rfl
theorem ml_X5_41 : Cond.methodLink RX5 41 yX5_takeSign ∈ AW := AW_t (tb_2 (i := 90) rfl) rfl
theorem ml_X5_45 : Cond.methodLink RX5 45 yX5_takeNumber ∈ AW := AW_t (tb_2 (i := 94) rfl) rfl
theorem ml_X5_55 : Cond.methodLink RX5 55 yX5_kindAtPlace ∈ AW := AW_t (tb_2 (i := 113) rfl) rfl
theorem ml_X5_65 : Cond.methodLink RX5 65 yX3_addLetter ∈ AW := AW_t (tb_2 (i := 117) rfl) rfl
theorem ml_X5_69 : Cond.methodLink RX5 69 yX3_addReader ∈ AW := AW_t (tb_2 (i := 105) rfl) rfl
theorem ml_X5_73 : Cond.methodLink RX5 73 yX5_isFigure ∈ AW := AW_t (tb_2 (i := 98) rfl) rfl
theorem ml_X6_101 : Cond.methodLink RX6 101 yX5_isFull ∈ AW := AW_t (tb_2 (i := 64) rfl) rfl
theorem ml_X6_106 : Cond.methodLink RX6 106 yX5_append ∈ AW := AW_t (tb_2 (i := 69) rfl) rfl
theorem ml_X6_109 : Cond.methodLink RX6 109 yX5_readInto ∈ AW := AW_t (tb_2 (i := 77) rfl) rfl
theorem ml_X6_113 : Cond.methodLink RX6 113 yX5_empty ∈ AW := AW_t (tb_2 (i := 121) rfl) rfl
theorem ml_X6_124 : Cond.methodLink RX6 124 yX3_becomes ∈ AW := AW_t (tb_2 (i := 126) rfl) rfl
theorem ml_X6_128 : Cond.methodLink RX6 128 yX0_forgetAll ∈ AW := AW_t (tb_2 (i := 131) rfl) rfl
theorem ml_X6_134 : Cond.methodLink RX6 134 yX3_hasReader ∈ AW := AW_t (tb_2 (i := 143) rfl) rfl
theorem ml_X6_137 : Cond.methodLink RX6 137 yX3_hasLetter ∈ AW := AW_t (tb_2 (i := 147) rfl) rfl
theorem ml_X6_140 : Cond.methodLink RX6 140 yX3_isFit ∈ AW := AW_t (tb_2 (i := 151) rfl) rfl
theorem ml_X6_144 : Cond.methodLink RX6 144 yX0_letRead ∈ AW := AW_t (tb_2 (i := 160) rfl) rfl
theorem ml_X6_152 : Cond.methodLink RX6 152 yX3_hasReaders ∈ AW := AW_t (tb_2 (i := 208) rfl) rfl
theorem ml_X6_155 : Cond.methodLink RX6 155 yX6_inSet ∈ AW := AW_t (tb_2 (i := 212) rfl) rfl
theorem ml_X6_158 : Cond.methodLink RX6 158 yX3_areAlive ∈ AW := AW_t (tb_2 (i := 213) rfl) rfl
theorem ml_X6_164 : Cond.methodLink RX6 164 yX0_letCross ∈ AW := AW_t (tb_2 (i := 222) rfl) rfl
theorem ml_X6_175 : Cond.methodLink RX6 175 yX0_letDayGo ∈ AW := AW_t (tb_2 (i := 230) rfl) rfl
theorem ml_X6_181 : Cond.methodLink RX6 181 yX0_takeBack ∈ AW := AW_t (tb_3 (i := 1) rfl) rfl
theorem ml_X6_187 : Cond.methodLink RX6 187 yX3_isAlive ∈ AW := AW_t (tb_3 (i := 13) rfl) rfl
theorem ml_X6_190 : Cond.methodLink RX6 190 yX3_lettersReadBy ∈ AW := AW_t (tb_3 (i := 14) rfl) rfl
theorem ml_X6_199 : Cond.methodLink RX6 199 yX3_timesReadByAll ∈ AW := AW_t (tb_3 (i := 22) rfl) rfl
theorem ml_X6_202 : Cond.methodLink RX6 202 yX3_readersOf ∈ AW := AW_t (tb_3 (i := 26) rfl) rfl
theorem ml_X6_205 : Cond.methodLink RX6 205 yX3_costFor ∈ AW := AW_t (tb_3 (i := 34) rfl) rfl
theorem ml_X6_209 : Cond.methodLink RX6 209 yX2_bestReader ∈ AW := AW_t (tb_3 (i := 39) rfl) rfl
theorem ml_X6_213 : Cond.methodLink RX6 213 yX2_handsOutAll ∈ AW := AW_t (tb_3 (i := 50) rfl) rfl
theorem ml_X6_218 : Cond.methodLink RX6 218 yX3_unreadLetters ∈ AW := AW_t (tb_3 (i := 65) rfl) rfl
theorem ml_X6_222 : Cond.methodLink RX6 222 yX3_firstCostOf ∈ AW := AW_t (tb_3 (i := 74) rfl) rfl
theorem ml_X6_228 : Cond.methodLink RX6 228 yX6_isChoice ∈ AW := AW_t (tb_3 (i := 83) rfl) rfl
theorem ml_X6_231 : Cond.methodLink RX6 231 yX2_bestReaderAloud ∈ AW := AW_t (tb_3 (i := 86) rfl) rfl
theorem ml_X6_234 : Cond.methodLink RX6 234 yX2_spentAloud ∈ AW := AW_t (tb_3 (i := 99) rfl) rfl
theorem ml_X6_238 : Cond.methodLink RX6 238 yX2_shortestDeadly ∈ AW := AW_t (tb_3 (i := 104) rfl) rfl
theorem ml_X6_241 : Cond.methodLink RX6 241 yX2_smallestDeadlySet ∈ AW := AW_t (tb_3 (i := 112) rfl) rfl
theorem ml_X6_244 : Cond.methodLink RX6 244 yJ6_bitCount_0f7a4 ∈ AW := AW_t (tb_3 (i := 127) rfl) rfl
theorem ml_X6_249 : Cond.methodLink RX6 249 yX2_fewestToCross ∈ AW := AW_t (tb_3 (i := 132) rfl) rfl
theorem ml_X6_252 : Cond.methodLink RX6 252 yX3_unreadDueAhead ∈ AW := AW_t (tb_3 (i := 145) rfl) rfl
theorem ml_X6_258 : Cond.methodLink RX6 258 yX2_setsThatCost ∈ AW := AW_t (tb_3 (i := 150) rfl) rfl
theorem ml_X6_261 : Cond.methodLink RX6 261 yX2_leastSetThatCosts ∈ AW := AW_t (tb_3 (i := 155) rfl) rfl
theorem ml_X6_264 : Cond.methodLink RX6 264 yX2_noReadingYet ∈ AW := AW_t (tb_3 (i := 163) rfl) rfl
theorem ml_X6_267 : Cond.methodLink RX6 267 yX4_item ∈ AW := AW_t (tb_3 (i := 167) rfl) rfl
theorem ml_X6_270 : Cond.methodLink RX6 270 yX2_tellAge ∈ AW := AW_t (tb_3 (i := 171) rfl) rfl
theorem ml_X6_273 : Cond.methodLink RX6 273 yX2_waysToRead ∈ AW := AW_t (tb_3 (i := 176) rfl) rfl
theorem ml_X6_276 : Cond.methodLink RX6 276 yX2_weightOfSurviving ∈ AW := AW_t (tb_3 (i := 184) rfl) rfl
theorem ml_X6_279 : Cond.methodLink RX6 279 yX2_power ∈ AW := AW_t (tb_3 (i := 193) rfl) rfl
theorem ml_X6_282 : Cond.methodLink RX6 282 yX2_commonDivisor ∈ AW := AW_t (tb_3 (i := 194) rfl) rfl
theorem ml_X6_285 : Cond.methodLink RX6 285 yX6_imageNumbered ∈ AW := AW_t (tb_3 (i := 202) rfl) rfl
theorem ml_X6_292 : Cond.methodLink RX6 292 yX6_isKindOf ∈ AW := AW_t (tb_3 (i := 218) rfl) rfl
theorem ml_X6_295 : Cond.methodLink RX6 295 yX1_answer ∈ AW := AW_t (tb_3 (i := 225) rfl) rfl
theorem ml_X6_304 : Cond.methodLink RX6 304 yX4_present ∈ AW := AW_t (tb_4 (i := 12) rfl) rfl
theorem ml_X6_310 : Cond.methodLink RX6 310 yX3_howManyAlive ∈ AW := AW_t (tb_4 (i := 17) rfl) rfl
theorem ml_X6_313 : Cond.methodLink RX6 313 yX3_howManyFit ∈ AW := AW_t (tb_4 (i := 18) rfl) rfl
theorem ml_X6_60 : Cond.methodLink RX6 60 yX4_isRow ∈ AW := AW_t (tb_1 (i := 239) rfl) rfl
theorem ml_X6_64 : Cond.methodLink RX6 64 yX4_isLane ∈ AW := AW_t (tb_2 (i := 3) rfl) rfl
theorem ml_X6_68 : Cond.methodLink RX6 68 yX6_found ∈ AW := AW_t (tb_2 (i := 8) rfl) rfl
theorem ml_X6_72 : Cond.methodLink RX6 72 yX4_make ∈ AW := AW_t (tb_2 (i := 13) rfl) rfl
theorem ml_X6_76 : Cond.methodLink RX6 76 yX6_foundNothing ∈ AW := AW_t (tb_2 (i := 17) rfl) rfl
theorem ml_X6_79 : Cond.methodLink RX6 79 yX4_isMissing ∈ AW := AW_t (tb_2 (i := 25) rfl) rfl
theorem ml_X6_82 : Cond.methodLink RX6 82 yX4_hasPlaces ∈ AW := AW_t (tb_2 (i := 29) rfl) rfl
theorem ml_X6_86 : Cond.methodLink RX6 86 yX4_put ∈ AW := AW_t (tb_2 (i := 33) rfl) rfl
theorem ml_X6_90 : Cond.methodLink RX6 90 yX4_haveOneLane ∈ AW := AW_t (tb_2 (i := 41) rfl) rfl
theorem ml_X6_94 : Cond.methodLink RX6 94 yX4_move ∈ AW := AW_t (tb_2 (i := 45) rfl) rfl
theorem ml_X6_98 : Cond.methodLink RX6 98 yX4_remove ∈ AW := AW_t (tb_2 (i := 56) rfl) rfl
theorem ml_X7_101 : Cond.methodLink RX7 101 yX7_readBy ∈ AW := AW_t (tb_5 (i := 24) rfl) rfl
theorem ml_X7_104 : Cond.methodLink RX7 104 yX7_upwards ∈ AW := AW_t (tb_5 (i := 21) rfl) rfl
theorem ml_X7_107 : Cond.methodLink RX7 107 yX7_sort ∈ AW := AW_t (tb_5 (i := 14) rfl) rfl
theorem ml_X7_110 : Cond.methodLink RX7 110 yX7_firstCost ∈ AW := AW_t (tb_5 (i := 18) rfl) rfl
theorem ml_X7_113 : Cond.methodLink RX7 113 yX7_costBy ∈ AW := AW_t (tb_5 (i := 10) rfl) rfl
theorem ml_X7_132 : Cond.methodLink RX7 132 yX7_here ∈ AW := AW_t (tb_4 (i := 163) rfl) rfl
theorem ml_X7_135 : Cond.methodLink RX7 135 yX7_fails ∈ AW := AW_t (tb_4 (i := 167) rfl) rfl
theorem ml_X7_146 : Cond.methodLink RX7 146 yX7_takeNumber ∈ AW := AW_t (tb_4 (i := 175) rfl) rfl
theorem ml_X7_149 : Cond.methodLink RX7 149 yX7_sortOf ∈ AW := AW_t (tb_4 (i := 189) rfl) rfl
theorem ml_X7_152 : Cond.methodLink RX7 152 yX7_into ∈ AW := AW_t (tb_4 (i := 171) rfl) rfl
theorem ml_X7_156 : Cond.methodLink RX7 156 yX7_sign ∈ AW := AW_t (tb_4 (i := 159) rfl) rfl
theorem ml_X7_159 : Cond.methodLink RX7 159 yX7_takeReader ∈ AW := AW_t (tb_4 (i := 185) rfl) rfl
theorem ml_X7_163 : Cond.methodLink RX7 163 yX7_takeLetter ∈ AW := AW_t (tb_4 (i := 192) rfl) rfl
theorem ml_X7_166 : Cond.methodLink RX7 166 yX7_takeNext ∈ AW := AW_t (tb_4 (i := 181) rfl) rfl
theorem ml_X7_169 : Cond.methodLink RX7 169 yX7_takeOffice ∈ AW := AW_t (tb_4 (i := 155) rfl) rfl
theorem ml_X7_176 : Cond.methodLink RX7 176 yX7_putInto ∈ AW := AW_t (tb_5 (i := 2) rfl) rfl
theorem ml_X7_180 : Cond.methodLink RX7 180 yX7_isReader ∈ AW := AW_t (tb_4 (i := 209) rfl) rfl
theorem ml_X7_183 : Cond.methodLink RX7 183 yX7_isLetter ∈ AW := AW_t (tb_4 (i := 213) rfl) rfl
theorem ml_X7_186 : Cond.methodLink RX7 186 yX7_isFit ∈ AW := AW_t (tb_4 (i := 221) rfl) rfl
theorem ml_X7_190 : Cond.methodLink RX7 190 yX7_remember ∈ AW := AW_t (tb_4 (i := 238) rfl) rfl
theorem ml_X7_193 : Cond.methodLink RX7 193 yX7_cost ∈ AW := AW_t (tb_5 (i := 6) rfl) rfl
theorem ml_X7_196 : Cond.methodLink RX7 196 yX7_readNow ∈ AW := AW_t (tb_5 (i := 28) rfl) rfl
theorem ml_X7_200 : Cond.methodLink RX7 200 yX7_has ∈ AW := AW_t (tb_5 (i := 36) rfl) rfl
theorem ml_X7_203 : Cond.methodLink RX7 203 yX7_alive ∈ AW := AW_t (tb_5 (i := 39) rfl) rfl
theorem ml_X7_208 : Cond.methodLink RX7 208 yX7_takeFrom ∈ AW := AW_t (tb_5 (i := 56) rfl) rfl
theorem ml_X7_211 : Cond.methodLink RX7 211 yX7_hasRead ∈ AW := AW_t (tb_5 (i := 64) rfl) rfl
theorem ml_X7_216 : Cond.methodLink RX7 216 yX7_readOf ∈ AW := AW_t (tb_5 (i := 73) rfl) rfl
theorem ml_X7_219 : Cond.methodLink RX7 219 yX7_whoRead ∈ AW := AW_t (tb_5 (i := 77) rfl) rfl
theorem ml_X7_223 : Cond.methodLink RX7 223 yX7_unread ∈ AW := AW_t (tb_5 (i := 94) rfl) rfl
theorem ml_X7_227 : Cond.methodLink RX7 227 yX7_bits ∈ AW := AW_t (tb_5 (i := 98) rfl) rfl
theorem ml_X7_230 : Cond.methodLink RX7 230 yX7_spentBy ∈ AW := AW_t (tb_5 (i := 102) rfl) rfl
theorem ml_X7_233 : Cond.methodLink RX7 233 yX7_aloudBy ∈ AW := AW_t (tb_5 (i := 110) rfl) rfl
theorem ml_X7_236 : Cond.methodLink RX7 236 yX7_costAll ∈ AW := AW_t (tb_5 (i := 122) rfl) rfl
theorem ml_X7_243 : Cond.methodLink RX7 243 yX7_firstAll ∈ AW := AW_t (tb_5 (i := 144) rfl) rfl
theorem ml_X7_248 : Cond.methodLink RX7 248 yX7_readOn ∈ AW := AW_t (tb_5 (i := 153) rfl) rfl
theorem ml_X7_256 : Cond.methodLink RX7 256 yX7_isOf ∈ AW := AW_t (tb_5 (i := 179) rfl) rfl
theorem ml_X7_262 : Cond.methodLink RX7 262 yX7_leave ∈ AW := AW_t (tb_5 (i := 195) rfl) rfl
theorem ml_X7_265 : Cond.methodLink RX7 265 yX7_markLent ∈ AW := AW_t (tb_5 (i := 215) rfl) rfl
theorem ml_X7_268 : Cond.methodLink RX7 268 yX7_sizeLent ∈ AW := AW_t (tb_5 (i := 203) rfl) rfl
theorem ml_X7_271 : Cond.methodLink RX7 271 yX7_sizeOfFigures ∈ AW := AW_t (tb_5 (i := 199) rfl) rfl
theorem ml_X7_274 : Cond.methodLink RX7 274 yX7_sizeOfSums ∈ AW := AW_t (tb_5 (i := 191) rfl) rfl
theorem ml_X7_277 : Cond.methodLink RX7 277 yX7_markOfProse ∈ AW := AW_t (tb_5 (i := 219) rfl) rfl
theorem ml_X7_280 : Cond.methodLink RX7 280 yX7_markOf ∈ AW := AW_t (tb_5 (i := 211) rfl) rfl
theorem ml_X7_283 : Cond.methodLink RX7 283 yX7_sizeOfProse ∈ AW := AW_t (tb_5 (i := 207) rfl) rfl
theorem ml_X7_286 : Cond.methodLink RX7 286 yX7_sizeOf ∈ AW := AW_t (tb_5 (i := 187) rfl) rfl
theorem ml_X7_289 : Cond.methodLink RX7 289 yX7_fit ∈ AW := AW_t (tb_5 (i := 231) rfl) rfl
theorem ml_X7_63 : Cond.methodLink RX7 63 yX7_in ∈ AW := AW_t (tb_4 (i := 112) rfl) rfl
theorem ml_X7_67 : Cond.methodLink RX7 67 yX7_isRow ∈ AW := AW_t (tb_4 (i := 108) rfl) rfl
theorem ml_X7_74 : Cond.methodLink RX7 74 yX7_finds ∈ AW := AW_t (tb_4 (i := 117) rfl) rfl
theorem ml_X7_78 : Cond.methodLink RX7 78 yX7_tells ∈ AW := AW_t (tb_4 (i := 122) rfl) rfl
theorem ml_X7_81 : Cond.methodLink RX7 81 yX7_cutTo ∈ AW := AW_t (tb_4 (i := 130) rfl) rfl
theorem ml_X7_85 : Cond.methodLink RX7 85 yX7_letters ∈ AW := AW_t (tb_4 (i := 217) rfl) rfl
theorem ml_X7_89 : Cond.methodLink RX7 89 yX7_readers ∈ AW := AW_t (tb_4 (i := 197) rfl) rfl
theorem ml_X7_92 : Cond.methodLink RX7 92 yX7_age ∈ AW := AW_t (tb_4 (i := 229) rfl) rfl
theorem ml_X7_95 : Cond.methodLink RX7 95 yX7_span ∈ AW := AW_t (tb_4 (i := 233) rfl) rfl
theorem ml_X7_98 : Cond.methodLink RX7 98 yX7_isAlive ∈ AW := AW_t (tb_4 (i := 225) rfl) rfl
theorem hZS : ∀ {G : Gt} (U : State) (H : Heap), Ctx G U H → va_Z "AgingLetters$Asks" "SIZE_BODIES" "[I" (.ref (gS G)) (gF G) U H := fun _ _ h => h.2.2.2.1.1
theorem hTS : ∀ {G : Gt} (U : State) (H : Heap), Ctx G U H → va_T .int (gS G) 6 (fun j => .int (szB j)) (gF G) U H := fun _ _ h => h.2.2.2.1.2
theorem hZM : ∀ {G : Gt} (U : State) (H : Heap), Ctx G U H → va_Z "AgingLetters$Asks" "MARK_BODIES" "[I" (.ref (gM G)) (gF G) U H := fun _ _ h => h.2.2.2.2.1
theorem hTM : ∀ {G : Gt} (U : State) (H : Heap), Ctx G U H → va_T .int (gM G) 6 (fun j => .int (mkB j)) (gF G) U H := fun _ _ h => h.2.2.2.2.2
theorem ac_n : Cond.native arraycopyName ∈ AW := AW_t (tb_2 (i := 51) rfl) rfl
theorem ac_s : Cond.static arraycopyName ∈ AW := AW_t (tb_2 (i := 50) rfl) rfl
theorem ac_i : Cond.initialized "java/lang/System" ∈ AW := AW_t (tb_1 (i := 10) rfl) rfl
theorem mt_X0_forgetAll : MTV yX0_forgetAll cX0_forgetAll 1 none 0 := ⟨AW_t (tb_2 (i := 134) rfl) rfl, AW_t (tb_2 (i := 132) rfl) rfl, AW_t (tb_2 (i := 133) rfl) rfl, AW_t (tb_1 (i := 6) rfl) rfl, ⟨by decide, by decide, by decide +kernel⟩⟩
theorem mt_X6_halfUp : MTS yX6_halfUp cX6_halfUp 1 (some .int) 1 := ⟨AW_t (tb_2 (i := 177) rfl) rfl, AW_t (tb_2 (i := 176) rfl) rfl, AW_t (tb_1 (i := 1) rfl) rfl, ⟨by decide, by decide, by decide +kernel⟩⟩
theorem mt_X6_tenthUp : MTS yX6_tenthUp cX6_tenthUp 1 (some .int) 1 := ⟨AW_t (tb_2 (i := 180) rfl) rfl, AW_t (tb_2 (i := 179) rfl) rfl, AW_t (tb_1 (i := 1) rfl) rfl, ⟨by decide, by decide, by decide +kernel⟩⟩
theorem mt_X3_costOfPages : MTS yX3_costOfPages cX3_costOfPages 2 (some .int) 2 := ⟨AW_t (tb_2 (i := 174) rfl) rfl, AW_t (tb_2 (i := 173) rfl) rfl, AW_t (tb_1 (i := 5) rfl) rfl, ⟨by decide, by decide, by decide +kernel⟩⟩
theorem mt_X3_hasRead : MTV yX3_hasRead cX3_hasRead 3 (some .boolean) 2 := ⟨AW_t (tb_2 (i := 184) rfl) rfl, AW_t (tb_2 (i := 182) rfl) rfl, AW_t (tb_2 (i := 183) rfl) rfl, AW_t (tb_1 (i := 5) rfl) rfl, ⟨by decide, by decide, by decide +kernel⟩⟩
theorem mt_X3_costFor_ : MTV yX3_costFor_ cX3_costFor_ 5 (some .int) 3 := ⟨AW_t (tb_2 (i := 171) rfl) rfl, AW_t (tb_2 (i := 169) rfl) rfl, AW_t (tb_2 (i := 170) rfl) rfl, AW_t (tb_1 (i := 5) rfl) rfl, ⟨by decide, by decide, by decide +kernel⟩⟩
theorem mt_X3_costFor : MTV yX3_costFor cX3_costFor 3 (some .int) 2 := ⟨AW_t (tb_2 (i := 167) rfl) rfl, AW_t (tb_2 (i := 165) rfl) rfl, AW_t (tb_2 (i := 166) rfl) rfl, AW_t (tb_1 (i := 5) rfl) rfl, ⟨by decide, by decide, by decide +kernel⟩⟩
theorem mt_X3_survives : MTV yX3_survives cX3_survives 3 (some .boolean) 2 := ⟨AW_t (tb_2 (i := 188) rfl) rfl, AW_t (tb_2 (i := 186) rfl) rfl, AW_t (tb_2 (i := 187) rfl) rfl, AW_t (tb_1 (i := 5) rfl) rfl, ⟨by decide, by decide, by decide +kernel⟩⟩
theorem mt_X3_addTimesRead : MTV yX3_addTimesRead cX3_addTimesRead 4 none 3 := ⟨AW_t (tb_2 (i := 192) rfl) rfl, AW_t (tb_2 (i := 190) rfl) rfl, AW_t (tb_2 (i := 191) rfl) rfl, AW_t (tb_1 (i := 5) rfl) rfl, ⟨by decide, by decide, by decide +kernel⟩⟩
theorem mt_X6_inSet : MTS yX6_inSet cX6_inSet 2 (some .boolean) 2 := ⟨AW_t (tb_2 (i := 199) rfl) rfl, AW_t (tb_2 (i := 198) rfl) rfl, AW_t (tb_1 (i := 1) rfl) rfl, ⟨by decide, by decide, by decide +kernel⟩⟩
theorem mt_X0_letHear : MTS yX0_letHear cX0_letHear 6 (some .int) 4 := ⟨AW_t (tb_2 (i := 196) rfl) rfl, AW_t (tb_2 (i := 195) rfl) rfl, AW_t (tb_1 (i := 6) rfl) rfl, ⟨by decide, by decide, by decide +kernel⟩⟩
theorem mt_X0_keep : MTV yX0_keep cX0_keep 4 none 3 := ⟨AW_t (tb_2 (i := 203) rfl) rfl, AW_t (tb_2 (i := 202) rfl) rfl, AW_s (List.mem_of_getElem? (i := 8) rfl) rfl, AW_t (tb_1 (i := 6) rfl) rfl, ⟨by decide, by decide, by decide +kernel⟩⟩
theorem mt_X0_letRead : MTV yX0_letRead cX0_letRead 7 none 4 := ⟨AW_t (tb_2 (i := 163) rfl) rfl, AW_t (tb_2 (i := 161) rfl) rfl, AW_t (tb_2 (i := 162) rfl) rfl, AW_t (tb_1 (i := 6) rfl) rfl, ⟨by decide, by decide, by decide +kernel⟩⟩
theorem mt_X0_letCross : MTV yX0_letCross cX0_letCross 4 none 3 := ⟨AW_t (tb_2 (i := 225) rfl) rfl, AW_t (tb_2 (i := 223) rfl) rfl, AW_t (tb_2 (i := 224) rfl) rfl, AW_t (tb_1 (i := 6) rfl) rfl, ⟨by decide, by decide, by decide +kernel⟩⟩
theorem mt_X0_moveDay : MTS yX0_moveDay cX0_moveDay 3 none 2 := ⟨AW_t (tb_2 (i := 236) rfl) rfl, AW_t (tb_2 (i := 235) rfl) rfl, AW_t (tb_1 (i := 6) rfl) rfl, ⟨by decide, by decide, by decide +kernel⟩⟩
theorem mt_X0_letDayGo : MTV yX0_letDayGo cX0_letDayGo 2 none 1 := ⟨AW_t (tb_2 (i := 233) rfl) rfl, AW_t (tb_2 (i := 231) rfl) rfl, AW_t (tb_2 (i := 232) rfl) rfl, AW_t (tb_1 (i := 6) rfl) rfl, ⟨by decide, by decide, by decide +kernel⟩⟩
theorem mt_X0_takeReadingBack : MTV yX0_takeReadingBack cX0_takeReadingBack 5 none 1 := ⟨AW_t (tb_3 (i := 8) rfl) rfl, AW_t (tb_3 (i := 7) rfl) rfl, AW_s (List.mem_of_getElem? (i := 9) rfl) rfl, AW_t (tb_1 (i := 6) rfl) rfl, ⟨by decide, by decide, by decide +kernel⟩⟩
theorem mt_X0_takeBack : MTV yX0_takeBack cX0_takeBack 2 none 1 := ⟨AW_t (tb_3 (i := 4) rfl) rfl, AW_t (tb_3 (i := 2) rfl) rfl, AW_t (tb_3 (i := 3) rfl) rfl, AW_t (tb_1 (i := 6) rfl) rfl, ⟨by decide, by decide, by decide +kernel⟩⟩
theorem mt_X1_bodyFor : MTS yX1_bodyFor cX1_bodyFor 4 (some .int) 3 := ⟨AW_t (tb_3 (i := 231) rfl) rfl, AW_t (tb_3 (i := 230) rfl) rfl, AW_t (tb_1 (i := 8) rfl) rfl, ⟨by decide, by decide, by decide +kernel⟩⟩
theorem mt_X1_leaveNumber : MTV yX1_leaveNumber cX1_leaveNumber 2 none 1 := ⟨AW_t (tb_4 (i := 2) rfl) rfl, AW_t (tb_4 (i := 1) rfl) rfl, AW_s (List.mem_of_getElem? (i := 11) rfl) rfl, AW_t (tb_1 (i := 8) rfl) rfl, ⟨by decide, by decide, by decide +kernel⟩⟩
theorem mt_X3_timesReadByAll : MTV yX3_timesReadByAll cX3_timesReadByAll 4 (some .int) 1 := ⟨AW_t (tb_3 (i := 25) rfl) rfl, AW_t (tb_3 (i := 23) rfl) rfl, AW_t (tb_3 (i := 24) rfl) rfl, AW_t (tb_1 (i := 5) rfl) rfl, ⟨by decide, by decide, by decide +kernel⟩⟩
theorem mt_X1_begin : MTS yX1_begin cX1_begin 6 (some .int) 5 := ⟨AW_t (tb_3 (i := 238) rfl) rfl, AW_t (tb_3 (i := 237) rfl) rfl, AW_t (tb_1 (i := 8) rfl) rfl, ⟨by decide, by decide, by decide +kernel⟩⟩
theorem mt_X1_answer : MTV yX1_answer cX1_answer 4 (some .int) 3 := ⟨AW_t (tb_3 (i := 228) rfl) rfl, AW_t (tb_3 (i := 226) rfl) rfl, AW_t (tb_3 (i := 227) rfl) rfl, AW_t (tb_1 (i := 8) rfl) rfl, ⟨by decide, by decide, by decide +kernel⟩⟩
theorem mt_X3_isAlive : MTV yX3_isAlive cX3_isAlive 2 (some .boolean) 1 := ⟨AW_t (tb_2 (i := 158) rfl) rfl, AW_t (tb_2 (i := 156) rfl) rfl, AW_t (tb_2 (i := 157) rfl) rfl, AW_t (tb_1 (i := 5) rfl) rfl, ⟨by decide, by decide, by decide +kernel⟩⟩
theorem mt_X3_isFit : MTV yX3_isFit cX3_isFit 2 (some .boolean) 1 := ⟨AW_t (tb_2 (i := 154) rfl) rfl, AW_t (tb_2 (i := 152) rfl) rfl, AW_t (tb_2 (i := 153) rfl) rfl, AW_t (tb_1 (i := 5) rfl) rfl, ⟨by decide, by decide, by decide +kernel⟩⟩
theorem mt_X2_bestReader : MTV yX2_bestReader cX2_bestReader 7 (some .int) 2 := ⟨AW_t (tb_3 (i := 42) rfl) rfl, AW_t (tb_3 (i := 40) rfl) rfl, AW_t (tb_3 (i := 41) rfl) rfl, AW_t (tb_1 (i := 7) rfl) rfl, ⟨by decide, by decide, by decide +kernel⟩⟩
theorem mt_X3_howManyAlive : MTV yX3_howManyAlive cX3_howManyAlive 3 (some .int) 0 := ⟨AW_t (tb_3 (i := 97) rfl) rfl, AW_t (tb_3 (i := 95) rfl) rfl, AW_t (tb_3 (i := 96) rfl) rfl, AW_t (tb_1 (i := 5) rfl) rfl, ⟨by decide, by decide, by decide +kernel⟩⟩
theorem mt_X2_spentAloud : MTV yX2_spentAloud cX2_spentAloud 5 (some .int) 3 := ⟨AW_t (tb_3 (i := 93) rfl) rfl, AW_t (tb_3 (i := 91) rfl) rfl, AW_t (tb_3 (i := 92) rfl) rfl, AW_t (tb_1 (i := 7) rfl) rfl, ⟨by decide, by decide, by decide +kernel⟩⟩
theorem mt_X2_bestReaderAloud : MTV yX2_bestReaderAloud cX2_bestReaderAloud 7 (some .int) 2 := ⟨AW_t (tb_3 (i := 89) rfl) rfl, AW_t (tb_3 (i := 87) rfl) rfl, AW_t (tb_3 (i := 88) rfl) rfl, AW_t (tb_1 (i := 7) rfl) rfl, ⟨by decide, by decide, by decide +kernel⟩⟩
theorem mt_J7_fill_53178 : MTS yJ7_fill_53178 cJ7_fill_53178 4 none 2 := ⟨AW_t (tb_1 (i := 28) rfl) rfl, AW_t (tb_1 (i := 27) rfl) rfl, AW_t (tb_1 (i := 3) rfl) rfl, ⟨by decide, by decide, by decide +kernel⟩⟩
theorem mt_X3_readersOf : MTV yX3_readersOf cX3_readersOf 4 (some .int) 1 := ⟨AW_t (tb_3 (i := 29) rfl) rfl, AW_t (tb_3 (i := 27) rfl) rfl, AW_t (tb_3 (i := 28) rfl) rfl, AW_t (tb_1 (i := 5) rfl) rfl, ⟨by decide, by decide, by decide +kernel⟩⟩
theorem mt_X3_firstCost : MTV yX3_firstCost cX3_firstCost 2 (some .int) 1 := ⟨AW_t (tb_3 (i := 62) rfl) rfl, AW_t (tb_3 (i := 60) rfl) rfl, AW_t (tb_3 (i := 61) rfl) rfl, AW_t (tb_1 (i := 5) rfl) rfl, ⟨by decide, by decide, by decide +kernel⟩⟩
theorem mt_X2_handsOut : MTS yX2_handsOut cX2_handsOut 6 (some .boolean) 4 := ⟨AW_t (tb_3 (i := 57) rfl) rfl, AW_t (tb_3 (i := 56) rfl) rfl, AW_t (tb_1 (i := 7) rfl) rfl, ⟨by decide, by decide, by decide +kernel⟩⟩
theorem mt_X2_handsOutAll : MTV yX2_handsOutAll cX2_handsOutAll 2 (some .boolean) 1 := ⟨AW_t (tb_3 (i := 53) rfl) rfl, AW_t (tb_3 (i := 51) rfl) rfl, AW_t (tb_3 (i := 52) rfl) rfl, AW_t (tb_1 (i := 7) rfl) rfl, ⟨by decide, by decide, by decide +kernel⟩⟩
theorem mt_X2_shortestDeadly : MTV yX2_shortestDeadly cX2_shortestDeadly 6 (some .int) 2 := ⟨AW_t (tb_3 (i := 107) rfl) rfl, AW_t (tb_3 (i := 105) rfl) rfl, AW_t (tb_3 (i := 106) rfl) rfl, AW_t (tb_1 (i := 7) rfl) rfl, ⟨by decide, by decide, by decide +kernel⟩⟩
theorem mt_J6_bitCount_0f7a4 : MTS yJ6_bitCount_0f7a4 cJ6_bitCount_0f7a4 1 (some .int) 1 := ⟨AW_t (tb_3 (i := 118) rfl) rfl, AW_t (tb_3 (i := 117) rfl) rfl, AW_t (tb_1 (i := 11) rfl) rfl, ⟨by decide, by decide, by decide +kernel⟩⟩
theorem mt_X3_costOfAll : MTV yX3_costOfAll cX3_costOfAll 5 (some .int) 2 := ⟨AW_t (tb_3 (i := 125) rfl) rfl, AW_t (tb_3 (i := 123) rfl) rfl, AW_t (tb_3 (i := 124) rfl) rfl, AW_t (tb_1 (i := 5) rfl) rfl, ⟨by decide, by decide, by decide +kernel⟩⟩
theorem mt_X2_smallestDeadlySet : MTV yX2_smallestDeadlySet cX2_smallestDeadlySet 6 (some .int) 2 := ⟨AW_t (tb_3 (i := 115) rfl) rfl, AW_t (tb_3 (i := 113) rfl) rfl, AW_t (tb_3 (i := 114) rfl) rfl, AW_t (tb_1 (i := 7) rfl) rfl, ⟨by decide, by decide, by decide +kernel⟩⟩
theorem mt_X2_fewestToCross : MTV yX2_fewestToCross cX2_fewestToCross 6 (some .int) 3 := ⟨AW_t (tb_3 (i := 135) rfl) rfl, AW_t (tb_3 (i := 133) rfl) rfl, AW_t (tb_3 (i := 134) rfl) rfl, AW_t (tb_1 (i := 7) rfl) rfl, ⟨by decide, by decide, by decide +kernel⟩⟩
theorem mt_X3_firstCostOf : MTV yX3_firstCostOf cX3_firstCostOf 4 (some .int) 1 := ⟨AW_t (tb_3 (i := 77) rfl) rfl, AW_t (tb_3 (i := 75) rfl) rfl, AW_t (tb_3 (i := 76) rfl) rfl, AW_t (tb_1 (i := 5) rfl) rfl, ⟨by decide, by decide, by decide +kernel⟩⟩
theorem mt_X2_setsThatCost : MTV yX2_setsThatCost cX2_setsThatCost 5 (some .int) 2 := ⟨AW_t (tb_3 (i := 153) rfl) rfl, AW_t (tb_3 (i := 151) rfl) rfl, AW_t (tb_3 (i := 152) rfl) rfl, AW_t (tb_1 (i := 7) rfl) rfl, ⟨by decide, by decide, by decide +kernel⟩⟩
theorem mt_X2_leastSetThatCosts : MTV yX2_leastSetThatCosts cX2_leastSetThatCosts 4 (some .int) 2 := ⟨AW_t (tb_3 (i := 158) rfl) rfl, AW_t (tb_3 (i := 156) rfl) rfl, AW_t (tb_3 (i := 157) rfl) rfl, AW_t (tb_1 (i := 7) rfl) rfl, ⟨by decide, by decide, by decide +kernel⟩⟩
theorem mt_X2_noReadingYet : MTV yX2_noReadingYet cX2_noReadingYet 1 none 0 := ⟨AW_t (tb_3 (i := 166) rfl) rfl, AW_t (tb_3 (i := 164) rfl) rfl, AW_t (tb_3 (i := 165) rfl) rfl, AW_t (tb_1 (i := 7) rfl) rfl, ⟨by decide, by decide, by decide +kernel⟩⟩
theorem mt_X2_tellAge : MTV yX2_tellAge cX2_tellAge 7 none 3 := ⟨AW_t (tb_3 (i := 174) rfl) rfl, AW_t (tb_3 (i := 172) rfl) rfl, AW_t (tb_3 (i := 173) rfl) rfl, AW_t (tb_1 (i := 7) rfl) rfl, ⟨by decide, by decide, by decide +kernel⟩⟩
theorem mt_X2_waysToRead : MTV yX2_waysToRead cX2_waysToRead 3 (some .int) 0 := ⟨AW_t (tb_3 (i := 179) rfl) rfl, AW_t (tb_3 (i := 177) rfl) rfl, AW_t (tb_3 (i := 178) rfl) rfl, AW_t (tb_1 (i := 7) rfl) rfl, ⟨by decide, by decide, by decide +kernel⟩⟩
theorem mt_X3_unreadDueAhead : MTV yX3_unreadDueAhead cX3_unreadDueAhead 4 (some .int) 1 := ⟨AW_t (tb_3 (i := 72) rfl) rfl, AW_t (tb_3 (i := 70) rfl) rfl, AW_t (tb_3 (i := 71) rfl) rfl, AW_t (tb_1 (i := 5) rfl) rfl, ⟨by decide, by decide, by decide +kernel⟩⟩
theorem mt_X3_unreadLetters : MTV yX3_unreadLetters cX3_unreadLetters 1 (some .int) 0 := ⟨AW_t (tb_3 (i := 68) rfl) rfl, AW_t (tb_3 (i := 66) rfl) rfl, AW_t (tb_3 (i := 67) rfl) rfl, AW_t (tb_1 (i := 5) rfl) rfl, ⟨by decide, by decide, by decide +kernel⟩⟩
theorem mt_X2_power : MTV yX2_power cX2_power 5 (some .int) 2 := ⟨AW_t (tb_3 (i := 192) rfl) rfl, AW_t (tb_3 (i := 190) rfl) rfl, AW_t (tb_3 (i := 191) rfl) rfl, AW_t (tb_1 (i := 7) rfl) rfl, ⟨by decide, by decide, by decide +kernel⟩⟩
theorem mt_X2_weightOfSurviving : MTV yX2_weightOfSurviving cX2_weightOfSurviving 7 (some .int) 3 := ⟨AW_t (tb_3 (i := 187) rfl) rfl, AW_t (tb_3 (i := 185) rfl) rfl, AW_t (tb_3 (i := 186) rfl) rfl, AW_t (tb_1 (i := 7) rfl) rfl, ⟨by decide, by decide, by decide +kernel⟩⟩
theorem mt_X2_commonDivisor : MTV yX2_commonDivisor cX2_commonDivisor 7 (some .int) 2 := ⟨AW_t (tb_3 (i := 197) rfl) rfl, AW_t (tb_3 (i := 195) rfl) rfl, AW_t (tb_3 (i := 196) rfl) rfl, AW_t (tb_1 (i := 7) rfl) rfl, ⟨by decide, by decide, by decide +kernel⟩⟩
theorem mt_X3_clear : MTV yX3_clear cX3_clear 1 none 0 := ⟨AW_t (tb_2 (i := 84) rfl) rfl, AW_t (tb_2 (i := 82) rfl) rfl, AW_t (tb_2 (i := 83) rfl) rfl, AW_t (tb_1 (i := 5) rfl) rfl, ⟨by decide, by decide, by decide +kernel⟩⟩
theorem mt_X3_becomes : MTV yX3_becomes cX3_becomes 2 none 1 := ⟨AW_t (tb_2 (i := 129) rfl) rfl, AW_t (tb_2 (i := 127) rfl) rfl, AW_t (tb_2 (i := 128) rfl) rfl, AW_t (tb_1 (i := 5) rfl) rfl, ⟨by decide, by decide, by decide +kernel⟩⟩
theorem mt_X3_addLetter : MTV yX3_addLetter cX3_addLetter 4 none 3 := ⟨AW_t (tb_2 (i := 120) rfl) rfl, AW_t (tb_2 (i := 118) rfl) rfl, AW_t (tb_2 (i := 119) rfl) rfl, AW_t (tb_1 (i := 5) rfl) rfl, ⟨by decide, by decide, by decide +kernel⟩⟩
theorem mt_X3_addReader : MTV yX3_addReader cX3_addReader 3 none 2 := ⟨AW_t (tb_2 (i := 108) rfl) rfl, AW_t (tb_2 (i := 106) rfl) rfl, AW_t (tb_2 (i := 107) rfl) rfl, AW_t (tb_1 (i := 5) rfl) rfl, ⟨by decide, by decide, by decide +kernel⟩⟩
theorem mt_X3_hasLetter : MTV yX3_hasLetter cX3_hasLetter 2 (some .boolean) 1 := ⟨AW_t (tb_2 (i := 150) rfl) rfl, AW_t (tb_2 (i := 148) rfl) rfl, AW_t (tb_2 (i := 149) rfl) rfl, AW_t (tb_1 (i := 5) rfl) rfl, ⟨by decide, by decide, by decide +kernel⟩⟩
theorem mt_X3_hasReader : MTV yX3_hasReader cX3_hasReader 2 (some .boolean) 1 := ⟨AW_t (tb_2 (i := 146) rfl) rfl, AW_t (tb_2 (i := 144) rfl) rfl, AW_t (tb_2 (i := 145) rfl) rfl, AW_t (tb_1 (i := 5) rfl) rfl, ⟨by decide, by decide, by decide +kernel⟩⟩
theorem mt_X3_hasReaders : MTV yX3_hasReaders cX3_hasReaders 2 (some .boolean) 1 := ⟨AW_t (tb_2 (i := 211) rfl) rfl, AW_t (tb_2 (i := 209) rfl) rfl, AW_t (tb_2 (i := 210) rfl) rfl, AW_t (tb_1 (i := 5) rfl) rfl, ⟨by decide, by decide, by decide +kernel⟩⟩
theorem mt_X3_areAlive : MTV yX3_areAlive cX3_areAlive 3 (some .boolean) 1 := ⟨AW_t (tb_2 (i := 216) rfl) rfl, AW_t (tb_2 (i := 214) rfl) rfl, AW_t (tb_2 (i := 215) rfl) rfl, AW_t (tb_1 (i := 5) rfl) rfl, ⟨by decide, by decide, by decide +kernel⟩⟩
theorem mt_X3_howManyFit : MTV yX3_howManyFit cX3_howManyFit 3 (some .int) 0 := ⟨AW_t (tb_4 (i := 21) rfl) rfl, AW_t (tb_4 (i := 19) rfl) rfl, AW_t (tb_4 (i := 20) rfl) rfl, AW_t (tb_1 (i := 5) rfl) rfl, ⟨by decide, by decide, by decide +kernel⟩⟩
theorem mt_X3_lettersReadBy : MTV yX3_lettersReadBy cX3_lettersReadBy 4 (some .int) 1 := ⟨AW_t (tb_3 (i := 17) rfl) rfl, AW_t (tb_3 (i := 15) rfl) rfl, AW_t (tb_3 (i := 16) rfl) rfl, AW_t (tb_1 (i := 5) rfl) rfl, ⟨by decide, by decide, by decide +kernel⟩⟩
theorem mt_X4_isRow : MTV yX4_isRow cX4_isRow 2 (some .boolean) 1 := ⟨AW_t (tb_2 (i := 2) rfl) rfl, AW_t (tb_2 (i := 0) rfl) rfl, AW_t (tb_2 (i := 1) rfl) rfl, AW_t (tb_1 (i := 2) rfl) rfl, ⟨by decide, by decide, by decide +kernel⟩⟩
theorem mt_X4_isLane : MTV yX4_isLane cX4_isLane 2 (some .boolean) 1 := ⟨AW_t (tb_2 (i := 6) rfl) rfl, AW_t (tb_2 (i := 4) rfl) rfl, AW_t (tb_2 (i := 5) rfl) rfl, AW_t (tb_1 (i := 2) rfl) rfl, ⟨by decide, by decide, by decide +kernel⟩⟩
theorem mt_X4_isMissing : MTV yX4_isMissing cX4_isMissing 2 (some .boolean) 1 := ⟨AW_t (tb_2 (i := 28) rfl) rfl, AW_t (tb_2 (i := 26) rfl) rfl, AW_t (tb_2 (i := 27) rfl) rfl, AW_t (tb_1 (i := 2) rfl) rfl, ⟨by decide, by decide, by decide +kernel⟩⟩
theorem mt_X4_haveOneLane : MTV yX4_haveOneLane cX4_haveOneLane 3 (some .boolean) 2 := ⟨AW_t (tb_2 (i := 44) rfl) rfl, AW_t (tb_2 (i := 42) rfl) rfl, AW_t (tb_2 (i := 43) rfl) rfl, AW_t (tb_1 (i := 2) rfl) rfl, ⟨by decide, by decide, by decide +kernel⟩⟩
theorem mt_X4_hasPlaces : MTV yX4_hasPlaces cX4_hasPlaces 4 (some .boolean) 3 := ⟨AW_t (tb_2 (i := 32) rfl) rfl, AW_t (tb_2 (i := 30) rfl) rfl, AW_t (tb_2 (i := 31) rfl) rfl, AW_t (tb_1 (i := 2) rfl) rfl, ⟨by decide, by decide, by decide +kernel⟩⟩
theorem mt_X4_make : MTV yX4_make cX4_make 5 none 3 := ⟨AW_t (tb_2 (i := 16) rfl) rfl, AW_t (tb_2 (i := 14) rfl) rfl, AW_t (tb_2 (i := 15) rfl) rfl, AW_t (tb_1 (i := 2) rfl) rfl, ⟨by decide, by decide, by decide +kernel⟩⟩
theorem mt_X4_put : MTV yX4_put cX4_put 5 (some .int) 3 := ⟨AW_t (tb_2 (i := 36) rfl) rfl, AW_t (tb_2 (i := 34) rfl) rfl, AW_t (tb_2 (i := 35) rfl) rfl, AW_t (tb_1 (i := 2) rfl) rfl, ⟨by decide, by decide, by decide +kernel⟩⟩
theorem mt_X4_item : MTV yX4_item cX4_item 3 (some .int) 2 := ⟨AW_t (tb_3 (i := 170) rfl) rfl, AW_t (tb_3 (i := 168) rfl) rfl, AW_t (tb_3 (i := 169) rfl) rfl, AW_t (tb_1 (i := 2) rfl) rfl, ⟨by decide, by decide, by decide +kernel⟩⟩
theorem mt_X4_move : MTV yX4_move cX4_move 6 none 5 := ⟨AW_t (tb_2 (i := 48) rfl) rfl, AW_t (tb_2 (i := 46) rfl) rfl, AW_t (tb_2 (i := 47) rfl) rfl, AW_t (tb_1 (i := 2) rfl) rfl, ⟨by decide, by decide, by decide +kernel⟩⟩
theorem mt_X4_remove : MTV yX4_remove cX4_remove 2 (some .int) 1 := ⟨AW_t (tb_2 (i := 59) rfl) rfl, AW_t (tb_2 (i := 57) rfl) rfl, AW_t (tb_2 (i := 58) rfl) rfl, AW_t (tb_1 (i := 2) rfl) rfl, ⟨by decide, by decide, by decide +kernel⟩⟩
theorem mt_X4_present : MTV yX4_present cX4_present 3 (some .int) 0 := ⟨AW_t (tb_4 (i := 15) rfl) rfl, AW_t (tb_4 (i := 13) rfl) rfl, AW_t (tb_4 (i := 14) rfl) rfl, AW_t (tb_1 (i := 2) rfl) rfl, ⟨by decide, by decide, by decide +kernel⟩⟩
theorem mt_X5_isFull : MTV yX5_isFull cX5_isFull 1 (some .boolean) 0 := ⟨AW_t (tb_2 (i := 67) rfl) rfl, AW_t (tb_2 (i := 65) rfl) rfl, AW_t (tb_2 (i := 66) rfl) rfl, AW_t (tb_1 (i := 4) rfl) rfl, ⟨by decide, by decide, by decide +kernel⟩⟩
theorem mt_X5_append : MTV yX5_append cX5_append 2 (some .int) 1 := ⟨AW_t (tb_2 (i := 72) rfl) rfl, AW_t (tb_2 (i := 70) rfl) rfl, AW_t (tb_2 (i := 71) rfl) rfl, AW_t (tb_1 (i := 4) rfl) rfl, ⟨by decide, by decide, by decide +kernel⟩⟩
theorem mt_X5_empty : MTV yX5_empty cX5_empty 1 none 0 := ⟨AW_t (tb_2 (i := 124) rfl) rfl, AW_t (tb_2 (i := 122) rfl) rfl, AW_t (tb_2 (i := 123) rfl) rfl, AW_t (tb_1 (i := 4) rfl) rfl, ⟨by decide, by decide, by decide +kernel⟩⟩
theorem mt_X5_takeSign : MTV yX5_takeSign cX5_takeSign 2 (some .int) 1 := ⟨AW_t (tb_2 (i := 93) rfl) rfl, AW_t (tb_2 (i := 92) rfl) rfl, AW_s (List.mem_of_getElem? (i := 3) rfl) rfl, AW_t (tb_1 (i := 4) rfl) rfl, ⟨by decide, by decide, by decide +kernel⟩⟩
theorem mt_X5_isFigure : MTS yX5_isFigure cX5_isFigure 1 (some .boolean) 1 := ⟨AW_t (tb_2 (i := 100) rfl) rfl, AW_t (tb_2 (i := 99) rfl) rfl, AW_t (tb_1 (i := 4) rfl) rfl, ⟨by decide, by decide, by decide +kernel⟩⟩
theorem mt_X5_takeNumber : MTV yX5_takeNumber cX5_takeNumber 5 (some .int) 2 := ⟨AW_t (tb_2 (i := 97) rfl) rfl, AW_t (tb_2 (i := 96) rfl) rfl, AW_s (List.mem_of_getElem? (i := 4) rfl) rfl, AW_t (tb_1 (i := 4) rfl) rfl, ⟨by decide, by decide, by decide +kernel⟩⟩
theorem mt_X5_readLaw : MTV yX5_readLaw cX5_readLaw 3 (some .int) 1 := ⟨AW_t (tb_2 (i := 89) rfl) rfl, AW_t (tb_2 (i := 88) rfl) rfl, AW_s (List.mem_of_getElem? (i := 2) rfl) rfl, AW_t (tb_1 (i := 4) rfl) rfl, ⟨by decide, by decide, by decide +kernel⟩⟩
theorem mt_X5_readReader : MTV yX5_readReader cX5_readReader 5 (some .int) 1 := ⟨AW_t (tb_2 (i := 104) rfl) rfl, AW_t (tb_2 (i := 103) rfl) rfl, AW_s (List.mem_of_getElem? (i := 5) rfl) rfl, AW_t (tb_1 (i := 4) rfl) rfl, ⟨by decide, by decide, by decide +kernel⟩⟩
theorem mt_X5_kindAtPlace : MTV yX5_kindAtPlace cX5_kindAtPlace 1 (some .int) 0 := ⟨AW_t (tb_2 (i := 116) rfl) rfl, AW_t (tb_2 (i := 115) rfl) rfl, AW_s (List.mem_of_getElem? (i := 7) rfl) rfl, AW_t (tb_1 (i := 4) rfl) rfl, ⟨by decide, by decide, by decide +kernel⟩⟩
theorem mt_X5_readLetter : MTV yX5_readLetter cX5_readLetter 6 (some .int) 1 := ⟨AW_t (tb_2 (i := 112) rfl) rfl, AW_t (tb_2 (i := 111) rfl) rfl, AW_s (List.mem_of_getElem? (i := 6) rfl) rfl, AW_t (tb_1 (i := 4) rfl) rfl, ⟨by decide, by decide, by decide +kernel⟩⟩
theorem mt_X5_readInto : MTV yX5_readInto cX5_readInto 4 (some .int) 1 := ⟨AW_t (tb_2 (i := 80) rfl) rfl, AW_t (tb_2 (i := 78) rfl) rfl, AW_t (tb_2 (i := 79) rfl) rfl, AW_t (tb_1 (i := 4) rfl) rfl, ⟨by decide, by decide, by decide +kernel⟩⟩
theorem mt_X6_found : MTV yX6_found cX6_found 2 (some .int) 1 := ⟨AW_t (tb_2 (i := 11) rfl) rfl, AW_t (tb_2 (i := 10) rfl) rfl, AW_s (List.mem_of_getElem? (i := 0) rfl) rfl, AW_t (tb_1 (i := 1) rfl) rfl, ⟨by decide, by decide, by decide +kernel⟩⟩
theorem mt_X6_foundNothing : MTV yX6_foundNothing cX6_foundNothing 2 (some .int) 1 := ⟨AW_t (tb_2 (i := 20) rfl) rfl, AW_t (tb_2 (i := 19) rfl) rfl, AW_s (List.mem_of_getElem? (i := 1) rfl) rfl, AW_t (tb_1 (i := 1) rfl) rfl, ⟨by decide, by decide, by decide +kernel⟩⟩
theorem mt_X6_row : MTV yX6_row cX6_row 4 (some .int) 3 := ⟨AW_t (tb_1 (i := 238) rfl) rfl, AW_t (tb_1 (i := 236) rfl) rfl, AW_t (tb_1 (i := 237) rfl) rfl, AW_t (tb_1 (i := 1) rfl) rfl, ⟨by decide, by decide, by decide +kernel⟩⟩
theorem mt_X6_set : MTV yX6_set cX6_set 4 (some .int) 3 := ⟨AW_t (tb_2 (i := 24) rfl) rfl, AW_t (tb_2 (i := 22) rfl) rfl, AW_t (tb_2 (i := 23) rfl) rfl, AW_t (tb_1 (i := 1) rfl) rfl, ⟨by decide, by decide, by decide +kernel⟩⟩
theorem mt_X6_copy : MTV yX6_copy cX6_copy 6 (some .int) 5 := ⟨AW_t (tb_2 (i := 40) rfl) rfl, AW_t (tb_2 (i := 38) rfl) rfl, AW_t (tb_2 (i := 39) rfl) rfl, AW_t (tb_1 (i := 1) rfl) rfl, ⟨by decide, by decide, by decide +kernel⟩⟩
theorem mt_X6_drop : MTV yX6_drop cX6_drop 2 (some .int) 1 := ⟨AW_t (tb_2 (i := 55) rfl) rfl, AW_t (tb_2 (i := 53) rfl) rfl, AW_t (tb_2 (i := 54) rfl) rfl, AW_t (tb_1 (i := 1) rfl) rfl, ⟨by decide, by decide, by decide +kernel⟩⟩
theorem mt_X6_feed : MTV yX6_feed cX6_feed 2 (some .int) 1 := ⟨AW_t (tb_2 (i := 63) rfl) rfl, AW_t (tb_2 (i := 61) rfl) rfl, AW_t (tb_2 (i := 62) rfl) rfl, AW_t (tb_1 (i := 1) rfl) rfl, ⟨by decide, by decide, by decide +kernel⟩⟩
theorem mt_X6_office : MTV yX6_office cX6_office 2 (some .int) 0 := ⟨AW_t (tb_2 (i := 76) rfl) rfl, AW_t (tb_2 (i := 74) rfl) rfl, AW_t (tb_2 (i := 75) rfl) rfl, AW_t (tb_1 (i := 1) rfl) rfl, ⟨by decide, by decide, by decide +kernel⟩⟩
theorem mt_X6_fault : MTV yX6_fault cX6_fault 1 (some .int) 0 := ⟨AW_t (tb_2 (i := 138) rfl) rfl, AW_t (tb_2 (i := 136) rfl) rfl, AW_t (tb_2 (i := 137) rfl) rfl, AW_t (tb_1 (i := 1) rfl) rfl, ⟨by decide, by decide, by decide +kernel⟩⟩
theorem mt_X6_read : MTV yX6_read cX6_read 3 (some .int) 2 := ⟨AW_t (tb_2 (i := 142) rfl) rfl, AW_t (tb_2 (i := 140) rfl) rfl, AW_t (tb_2 (i := 141) rfl) rfl, AW_t (tb_1 (i := 1) rfl) rfl, ⟨by decide, by decide, by decide +kernel⟩⟩
theorem mt_X6_aloud : MTV yX6_aloud cX6_aloud 4 (some .int) 3 := ⟨AW_t (tb_2 (i := 207) rfl) rfl, AW_t (tb_2 (i := 205) rfl) rfl, AW_t (tb_2 (i := 206) rfl) rfl, AW_t (tb_1 (i := 1) rfl) rfl, ⟨by decide, by decide, by decide +kernel⟩⟩
theorem mt_X6_cross : MTV yX6_cross cX6_cross 3 (some .int) 2 := ⟨AW_t (tb_2 (i := 221) rfl) rfl, AW_t (tb_2 (i := 219) rfl) rfl, AW_t (tb_2 (i := 220) rfl) rfl, AW_t (tb_1 (i := 1) rfl) rfl, ⟨by decide, by decide, by decide +kernel⟩⟩
theorem mt_X6_day : MTV yX6_day cX6_day 1 (some .int) 0 := ⟨AW_t (tb_2 (i := 229) rfl) rfl, AW_t (tb_2 (i := 227) rfl) rfl, AW_t (tb_2 (i := 228) rfl) rfl, AW_t (tb_1 (i := 1) rfl) rfl, ⟨by decide, by decide, by decide +kernel⟩⟩
theorem mt_X6_undo : MTV yX6_undo cX6_undo 1 (some .int) 0 := ⟨AW_t (tb_3 (i := 0) rfl) rfl, AW_t (tb_2 (i := 238) rfl) rfl, AW_t (tb_2 (i := 239) rfl) rfl, AW_t (tb_1 (i := 1) rfl) rfl, ⟨by decide, by decide, by decide +kernel⟩⟩
theorem mt_X6_reader : MTV yX6_reader cX6_reader 3 (some .int) 2 := ⟨AW_t (tb_3 (i := 12) rfl) rfl, AW_t (tb_3 (i := 10) rfl) rfl, AW_t (tb_3 (i := 11) rfl) rfl, AW_t (tb_1 (i := 1) rfl) rfl, ⟨by decide, by decide, by decide +kernel⟩⟩
theorem mt_X6_letter : MTV yX6_letter cX6_letter 3 (some .int) 2 := ⟨AW_t (tb_3 (i := 21) rfl) rfl, AW_t (tb_3 (i := 19) rfl) rfl, AW_t (tb_3 (i := 20) rfl) rfl, AW_t (tb_1 (i := 1) rfl) rfl, ⟨by decide, by decide, by decide +kernel⟩⟩
theorem mt_X6_costs : MTV yX6_costs cX6_costs 3 (some .int) 2 := ⟨AW_t (tb_3 (i := 33) rfl) rfl, AW_t (tb_3 (i := 31) rfl) rfl, AW_t (tb_3 (i := 32) rfl) rfl, AW_t (tb_1 (i := 1) rfl) rfl, ⟨by decide, by decide, by decide +kernel⟩⟩
theorem mt_X6_best : MTV yX6_best cX6_best 2 (some .int) 1 := ⟨AW_t (tb_3 (i := 38) rfl) rfl, AW_t (tb_3 (i := 36) rfl) rfl, AW_t (tb_3 (i := 37) rfl) rfl, AW_t (tb_1 (i := 1) rfl) rfl, ⟨by decide, by decide, by decide +kernel⟩⟩
theorem mt_X6_allRead : MTV yX6_allRead cX6_allRead 2 (some .int) 1 := ⟨AW_t (tb_3 (i := 49) rfl) rfl, AW_t (tb_3 (i := 47) rfl) rfl, AW_t (tb_3 (i := 48) rfl) rfl, AW_t (tb_1 (i := 1) rfl) rfl, ⟨by decide, by decide, by decide +kernel⟩⟩
theorem mt_X6_isChoice : MTS yX6_isChoice cX6_isChoice 1 (some .boolean) 1 := ⟨AW_t (tb_3 (i := 85) rfl) rfl, AW_t (tb_3 (i := 84) rfl) rfl, AW_t (tb_1 (i := 1) rfl) rfl, ⟨by decide, by decide, by decide +kernel⟩⟩
theorem mt_X6_bestAloud : MTV yX6_bestAloud cX6_bestAloud 4 (some .int) 2 := ⟨AW_t (tb_3 (i := 82) rfl) rfl, AW_t (tb_3 (i := 80) rfl) rfl, AW_t (tb_3 (i := 81) rfl) rfl, AW_t (tb_1 (i := 1) rfl) rfl, ⟨by decide, by decide, by decide +kernel⟩⟩
theorem mt_X6_kills : MTV yX6_kills cX6_kills 2 (some .int) 1 := ⟨AW_t (tb_3 (i := 103) rfl) rfl, AW_t (tb_3 (i := 101) rfl) rfl, AW_t (tb_3 (i := 102) rfl) rfl, AW_t (tb_1 (i := 1) rfl) rfl, ⟨by decide, by decide, by decide +kernel⟩⟩
theorem mt_X6_post : MTV yX6_post cX6_post 4 (some .int) 2 := ⟨AW_t (tb_3 (i := 111) rfl) rfl, AW_t (tb_3 (i := 109) rfl) rfl, AW_t (tb_3 (i := 110) rfl) rfl, AW_t (tb_1 (i := 1) rfl) rfl, ⟨by decide, by decide, by decide +kernel⟩⟩
theorem mt_X6_crossOut : MTV yX6_crossOut cX6_crossOut 3 (some .int) 2 := ⟨AW_t (tb_3 (i := 131) rfl) rfl, AW_t (tb_3 (i := 129) rfl) rfl, AW_t (tb_3 (i := 130) rfl) rfl, AW_t (tb_1 (i := 1) rfl) rfl, ⟨by decide, by decide, by decide +kernel⟩⟩
theorem mt_X6_dies : MTV yX6_dies cX6_dies 2 (some .int) 1 := ⟨AW_t (tb_3 (i := 140) rfl) rfl, AW_t (tb_3 (i := 138) rfl) rfl, AW_t (tb_3 (i := 139) rfl) rfl, AW_t (tb_1 (i := 1) rfl) rfl, ⟨by decide, by decide, by decide +kernel⟩⟩
theorem mt_X6_late : MTV yX6_late cX6_late 2 (some .int) 1 := ⟨AW_t (tb_3 (i := 144) rfl) rfl, AW_t (tb_3 (i := 142) rfl) rfl, AW_t (tb_3 (i := 143) rfl) rfl, AW_t (tb_1 (i := 1) rfl) rfl, ⟨by decide, by decide, by decide +kernel⟩⟩
theorem mt_X6_soOld : MTV yX6_soOld cX6_soOld 5 (some .int) 3 := ⟨AW_t (tb_3 (i := 149) rfl) rfl, AW_t (tb_3 (i := 147) rfl) rfl, AW_t (tb_3 (i := 148) rfl) rfl, AW_t (tb_1 (i := 1) rfl) rfl, ⟨by decide, by decide, by decide +kernel⟩⟩
theorem mt_X6_ages : MTV yX6_ages cX6_ages 8 (some .int) 4 := ⟨AW_t (tb_3 (i := 162) rfl) rfl, AW_t (tb_3 (i := 160) rfl) rfl, AW_t (tb_3 (i := 161) rfl) rfl, AW_t (tb_1 (i := 1) rfl) rfl, ⟨by decide, by decide, by decide +kernel⟩⟩
theorem mt_X6_burnt : MTV yX6_burnt cX6_burnt 8 (some .int) 3 := ⟨AW_t (tb_3 (i := 183) rfl) rfl, AW_t (tb_3 (i := 181) rfl) rfl, AW_t (tb_3 (i := 182) rfl) rfl, AW_t (tb_1 (i := 1) rfl) rfl, ⟨by decide, by decide, by decide +kernel⟩⟩
theorem mt_X6_imageNumbered : MTV yX6_imageNumbered cX6_imageNumbered 2 (some (.object "AgingLetters$Office")) 1 := ⟨AW_t (tb_3 (i := 205) rfl) rfl, AW_t (tb_3 (i := 204) rfl) rfl, AW_s (List.mem_of_getElem? (i := 10) rfl) rfl, AW_t (tb_1 (i := 1) rfl) rfl, ⟨by decide, by decide, by decide +kernel⟩⟩
theorem mt_X6_image : MTV yX6_image cX6_image 2 (some .int) 1 := ⟨AW_t (tb_3 (i := 201) rfl) rfl, AW_t (tb_3 (i := 199) rfl) rfl, AW_t (tb_3 (i := 200) rfl) rfl, AW_t (tb_1 (i := 1) rfl) rfl, ⟨by decide, by decide, by decide +kernel⟩⟩
theorem mt_X6_restore : MTV yX6_restore cX6_restore 2 (some .int) 1 := ⟨AW_t (tb_3 (i := 209) rfl) rfl, AW_t (tb_3 (i := 207) rfl) rfl, AW_t (tb_3 (i := 208) rfl) rfl, AW_t (tb_1 (i := 1) rfl) rfl, ⟨by decide, by decide, by decide +kernel⟩⟩
theorem mt_X6_kind : MTV yX6_kind cX6_kind 2 (some .int) 1 := ⟨AW_t (tb_3 (i := 213) rfl) rfl, AW_t (tb_3 (i := 211) rfl) rfl, AW_t (tb_3 (i := 212) rfl) rfl, AW_t (tb_1 (i := 1) rfl) rfl, ⟨by decide, by decide, by decide +kernel⟩⟩
theorem mt_X6_isKindOf : MTS yX6_isKindOf cX6_isKindOf 2 (some .boolean) 2 := ⟨AW_t (tb_3 (i := 220) rfl) rfl, AW_t (tb_3 (i := 219) rfl) rfl, AW_t (tb_1 (i := 1) rfl) rfl, ⟨by decide, by decide, by decide +kernel⟩⟩
theorem mt_X6_as : MTV yX6_as cX6_as 3 (some .int) 2 := ⟨AW_t (tb_3 (i := 217) rfl) rfl, AW_t (tb_3 (i := 215) rfl) rfl, AW_t (tb_3 (i := 216) rfl) rfl, AW_t (tb_1 (i := 1) rfl) rfl, ⟨by decide, by decide, by decide +kernel⟩⟩
theorem mt_X6_ask : MTV yX6_ask cX6_ask 3 (some .int) 2 := ⟨AW_t (tb_3 (i := 224) rfl) rfl, AW_t (tb_3 (i := 222) rfl) rfl, AW_t (tb_3 (i := 223) rfl) rfl, AW_t (tb_1 (i := 1) rfl) rfl, ⟨by decide, by decide, by decide +kernel⟩⟩
theorem mt_X6_trace : MTV yX6_trace cX6_trace 2 (some .int) 1 := ⟨AW_t (tb_4 (i := 7) rfl) rfl, AW_t (tb_4 (i := 5) rfl) rfl, AW_t (tb_4 (i := 6) rfl) rfl, AW_t (tb_1 (i := 1) rfl) rfl, ⟨by decide, by decide, by decide +kernel⟩⟩
theorem mt_X6_count : MTV yX6_count cX6_count 2 (some .int) 1 := ⟨AW_t (tb_4 (i := 11) rfl) rfl, AW_t (tb_4 (i := 9) rfl) rfl, AW_t (tb_4 (i := 10) rfl) rfl, AW_t (tb_1 (i := 1) rfl) rfl, ⟨by decide, by decide, by decide +kernel⟩⟩
theorem mt_X6_status : MTV yX6_status cX6_status 1 (some .int) 0 := ⟨AW_t (tb_4 (i := 26) rfl) rfl, AW_t (tb_4 (i := 24) rfl) rfl, AW_t (tb_4 (i := 25) rfl) rfl, AW_t (tb_1 (i := 1) rfl) rfl, ⟨by decide, by decide, by decide +kernel⟩⟩
theorem mt_X7_in : MTS yX7_in cX7_in 6 (some .boolean) 3 := ⟨AW_t (tb_4 (i := 114) rfl) rfl, AW_t (tb_4 (i := 113) rfl) rfl, AW_t (tb_1 (i := 9) rfl) rfl, ⟨by decide, by decide, by decide +kernel⟩⟩
theorem mt_X7_has : MTS yX7_has cX7_has 2 (some .boolean) 2 := ⟨AW_t (tb_5 (i := 38) rfl) rfl, AW_t (tb_5 (i := 37) rfl) rfl, AW_t (tb_1 (i := 9) rfl) rfl, ⟨by decide, by decide, by decide +kernel⟩⟩
theorem mt_X7_finds : MTV yX7_finds cX7_finds 2 (some .int) 1 := ⟨AW_t (tb_4 (i := 120) rfl) rfl, AW_t (tb_4 (i := 119) rfl) rfl, AW_s (List.mem_of_getElem? (i := 12) rfl) rfl, AW_t (tb_1 (i := 9) rfl) rfl, ⟨by decide, by decide, by decide +kernel⟩⟩
theorem mt_X7_tells : MTV yX7_tells cX7_tells 2 (some .int) 1 := ⟨AW_t (tb_4 (i := 125) rfl) rfl, AW_t (tb_4 (i := 124) rfl) rfl, AW_s (List.mem_of_getElem? (i := 13) rfl) rfl, AW_t (tb_1 (i := 9) rfl) rfl, ⟨by decide, by decide, by decide +kernel⟩⟩
theorem mt_X7_isRow : MTS yX7_isRow cX7_isRow 1 (some .boolean) 1 := ⟨AW_t (tb_4 (i := 110) rfl) rfl, AW_t (tb_4 (i := 109) rfl) rfl, AW_t (tb_1 (i := 9) rfl) rfl, ⟨by decide, by decide, by decide +kernel⟩⟩
theorem mt_X7_row : MTV yX7_row cX7_row 5 (some .int) 3 := ⟨AW_t (tb_4 (i := 107) rfl) rfl, AW_t (tb_4 (i := 105) rfl) rfl, AW_t (tb_4 (i := 106) rfl) rfl, AW_t (tb_1 (i := 9) rfl) rfl, ⟨by decide, by decide, by decide +kernel⟩⟩
theorem mt_X7_cutTo : MTS yX7_cutTo cX7_cutTo 2 (some .int) 2 := ⟨AW_t (tb_4 (i := 132) rfl) rfl, AW_t (tb_4 (i := 131) rfl) rfl, AW_t (tb_1 (i := 9) rfl) rfl, ⟨by decide, by decide, by decide +kernel⟩⟩
theorem mt_X7_set : MTV yX7_set cX7_set 4 (some .int) 3 := ⟨AW_t (tb_4 (i := 129) rfl) rfl, AW_t (tb_4 (i := 127) rfl) rfl, AW_t (tb_4 (i := 128) rfl) rfl, AW_t (tb_1 (i := 9) rfl) rfl, ⟨by decide, by decide, by decide +kernel⟩⟩
theorem mt_X7_copy : MTV yX7_copy cX7_copy 7 (some .int) 5 := ⟨AW_t (tb_4 (i := 136) rfl) rfl, AW_t (tb_4 (i := 134) rfl) rfl, AW_t (tb_4 (i := 135) rfl) rfl, AW_t (tb_1 (i := 9) rfl) rfl, ⟨by decide, by decide, by decide +kernel⟩⟩
theorem mt_X7_drop : MTV yX7_drop cX7_drop 3 (some .int) 1 := ⟨AW_t (tb_4 (i := 140) rfl) rfl, AW_t (tb_4 (i := 138) rfl) rfl, AW_t (tb_4 (i := 139) rfl) rfl, AW_t (tb_1 (i := 9) rfl) rfl, ⟨by decide, by decide, by decide +kernel⟩⟩
theorem mt_X7_status : MTV yX7_status cX7_status 1 (some .int) 0 := ⟨AW_t (tb_4 (i := 144) rfl) rfl, AW_t (tb_4 (i := 142) rfl) rfl, AW_t (tb_4 (i := 143) rfl) rfl, AW_t (tb_1 (i := 9) rfl) rfl, ⟨by decide, by decide, by decide +kernel⟩⟩
theorem mt_X7_letters : MTV yX7_letters cX7_letters 1 (some .int) 0 := ⟨AW_t (tb_4 (i := 220) rfl) rfl, AW_t (tb_4 (i := 219) rfl) rfl, AW_s (List.mem_of_getElem? (i := 26) rfl) rfl, AW_t (tb_1 (i := 9) rfl) rfl, ⟨by decide, by decide, by decide +kernel⟩⟩
theorem mt_X7_readers : MTV yX7_readers cX7_readers 1 (some .int) 0 := ⟨AW_t (tb_4 (i := 200) rfl) rfl, AW_t (tb_4 (i := 199) rfl) rfl, AW_s (List.mem_of_getElem? (i := 23) rfl) rfl, AW_t (tb_1 (i := 9) rfl) rfl, ⟨by decide, by decide, by decide +kernel⟩⟩
theorem mt_X7_isLetter : MTV yX7_isLetter cX7_isLetter 2 (some .boolean) 1 := ⟨AW_t (tb_4 (i := 216) rfl) rfl, AW_t (tb_4 (i := 215) rfl) rfl, AW_s (List.mem_of_getElem? (i := 25) rfl) rfl, AW_t (tb_1 (i := 9) rfl) rfl, ⟨by decide, by decide, by decide +kernel⟩⟩
theorem mt_X7_isReader : MTV yX7_isReader cX7_isReader 2 (some .boolean) 1 := ⟨AW_t (tb_4 (i := 212) rfl) rfl, AW_t (tb_4 (i := 211) rfl) rfl, AW_s (List.mem_of_getElem? (i := 24) rfl) rfl, AW_t (tb_1 (i := 9) rfl) rfl, ⟨by decide, by decide, by decide +kernel⟩⟩
theorem mt_X7_sort : MTV yX7_sort cX7_sort 2 (some .int) 1 := ⟨AW_t (tb_5 (i := 17) rfl) rfl, AW_t (tb_5 (i := 16) rfl) rfl, AW_s (List.mem_of_getElem? (i := 35) rfl) rfl, AW_t (tb_1 (i := 9) rfl) rfl, ⟨by decide, by decide, by decide +kernel⟩⟩
theorem mt_X7_age : MTV yX7_age cX7_age 2 (some .int) 1 := ⟨AW_t (tb_4 (i := 232) rfl) rfl, AW_t (tb_4 (i := 231) rfl) rfl, AW_s (List.mem_of_getElem? (i := 29) rfl) rfl, AW_t (tb_1 (i := 9) rfl) rfl, ⟨by decide, by decide, by decide +kernel⟩⟩
theorem mt_X7_span : MTV yX7_span cX7_span 2 (some .int) 1 := ⟨AW_t (tb_4 (i := 236) rfl) rfl, AW_t (tb_4 (i := 235) rfl) rfl, AW_s (List.mem_of_getElem? (i := 30) rfl) rfl, AW_t (tb_1 (i := 9) rfl) rfl, ⟨by decide, by decide, by decide +kernel⟩⟩
theorem mt_X7_isAlive : MTV yX7_isAlive cX7_isAlive 2 (some .boolean) 1 := ⟨AW_t (tb_4 (i := 228) rfl) rfl, AW_t (tb_4 (i := 227) rfl) rfl, AW_s (List.mem_of_getElem? (i := 28) rfl) rfl, AW_t (tb_1 (i := 9) rfl) rfl, ⟨by decide, by decide, by decide +kernel⟩⟩
theorem mt_X7_isFit : MTV yX7_isFit cX7_isFit 2 (some .boolean) 1 := ⟨AW_t (tb_4 (i := 224) rfl) rfl, AW_t (tb_4 (i := 223) rfl) rfl, AW_s (List.mem_of_getElem? (i := 27) rfl) rfl, AW_t (tb_1 (i := 9) rfl) rfl, ⟨by decide, by decide, by decide +kernel⟩⟩
theorem mt_X7_readBy : MTV yX7_readBy cX7_readBy 3 (some .int) 2 := ⟨AW_t (tb_5 (i := 27) rfl) rfl, AW_t (tb_5 (i := 26) rfl) rfl, AW_s (List.mem_of_getElem? (i := 36) rfl) rfl, AW_t (tb_1 (i := 9) rfl) rfl, ⟨by decide, by decide, by decide +kernel⟩⟩
theorem mt_X7_readOf : MTV yX7_readOf cX7_readOf 4 (some .int) 1 := ⟨AW_t (tb_5 (i := 76) rfl) rfl, AW_t (tb_5 (i := 75) rfl) rfl, AW_s (List.mem_of_getElem? (i := 41) rfl) rfl, AW_t (tb_1 (i := 9) rfl) rfl, ⟨by decide, by decide, by decide +kernel⟩⟩
theorem mt_X7_upwards : MTS yX7_upwards cX7_upwards 2 (some .int) 2 := ⟨AW_t (tb_5 (i := 23) rfl) rfl, AW_t (tb_5 (i := 22) rfl) rfl, AW_t (tb_1 (i := 9) rfl) rfl, ⟨by decide, by decide, by decide +kernel⟩⟩
theorem mt_X7_firstCost : MTS yX7_firstCost cX7_firstCost 2 (some .int) 2 := ⟨AW_t (tb_5 (i := 20) rfl) rfl, AW_t (tb_5 (i := 19) rfl) rfl, AW_t (tb_1 (i := 9) rfl) rfl, ⟨by decide, by decide, by decide +kernel⟩⟩
theorem mt_X7_costBy : MTV yX7_costBy cX7_costBy 5 (some .int) 3 := ⟨AW_t (tb_5 (i := 13) rfl) rfl, AW_t (tb_5 (i := 12) rfl) rfl, AW_s (List.mem_of_getElem? (i := 34) rfl) rfl, AW_t (tb_1 (i := 9) rfl) rfl, ⟨by decide, by decide, by decide +kernel⟩⟩
theorem mt_X7_cost : MTV yX7_cost cX7_cost 3 (some .int) 2 := ⟨AW_t (tb_5 (i := 9) rfl) rfl, AW_t (tb_5 (i := 8) rfl) rfl, AW_s (List.mem_of_getElem? (i := 33) rfl) rfl, AW_t (tb_1 (i := 9) rfl) rfl, ⟨by decide, by decide, by decide +kernel⟩⟩
theorem mt_X7_feed : MTV yX7_feed cX7_feed 2 (some .int) 1 := ⟨AW_t (tb_4 (i := 148) rfl) rfl, AW_t (tb_4 (i := 146) rfl) rfl, AW_t (tb_4 (i := 147) rfl) rfl, AW_t (tb_1 (i := 9) rfl) rfl, ⟨by decide, by decide, by decide +kernel⟩⟩
theorem mt_X7_here : MTV yX7_here cX7_here 1 (some .int) 0 := ⟨AW_t (tb_4 (i := 166) rfl) rfl, AW_t (tb_4 (i := 165) rfl) rfl, AW_s (List.mem_of_getElem? (i := 16) rfl) rfl, AW_t (tb_1 (i := 9) rfl) rfl, ⟨by decide, by decide, by decide +kernel⟩⟩
theorem mt_X7_fails : MTV yX7_fails cX7_fails 3 (some .boolean) 2 := ⟨AW_t (tb_4 (i := 170) rfl) rfl, AW_t (tb_4 (i := 169) rfl) rfl, AW_s (List.mem_of_getElem? (i := 17) rfl) rfl, AW_t (tb_1 (i := 9) rfl) rfl, ⟨by decide, by decide, by decide +kernel⟩⟩
theorem mt_X7_sign : MTV yX7_sign cX7_sign 2 (some .boolean) 1 := ⟨AW_t (tb_4 (i := 162) rfl) rfl, AW_t (tb_4 (i := 161) rfl) rfl, AW_s (List.mem_of_getElem? (i := 15) rfl) rfl, AW_t (tb_1 (i := 9) rfl) rfl, ⟨by decide, by decide, by decide +kernel⟩⟩
theorem mt_X7_takeNumber : MTV yX7_takeNumber cX7_takeNumber 4 (some .boolean) 2 := ⟨AW_t (tb_4 (i := 178) rfl) rfl, AW_t (tb_4 (i := 177) rfl) rfl, AW_s (List.mem_of_getElem? (i := 19) rfl) rfl, AW_t (tb_1 (i := 9) rfl) rfl, ⟨by decide, by decide, by decide +kernel⟩⟩
theorem mt_X7_into : MTV yX7_into cX7_into 5 (some .boolean) 3 := ⟨AW_t (tb_4 (i := 174) rfl) rfl, AW_t (tb_4 (i := 173) rfl) rfl, AW_s (List.mem_of_getElem? (i := 18) rfl) rfl, AW_t (tb_1 (i := 9) rfl) rfl, ⟨by decide, by decide, by decide +kernel⟩⟩
theorem mt_X7_sortOf : MTS yX7_sortOf cX7_sortOf 1 (some .int) 1 := ⟨AW_t (tb_4 (i := 191) rfl) rfl, AW_t (tb_4 (i := 190) rfl) rfl, AW_t (tb_1 (i := 9) rfl) rfl, ⟨by decide, by decide, by decide +kernel⟩⟩
theorem mt_X7_takeLetter : MTV yX7_takeLetter cX7_takeLetter 2 (some .boolean) 0 := ⟨AW_t (tb_4 (i := 195) rfl) rfl, AW_t (tb_4 (i := 194) rfl) rfl, AW_s (List.mem_of_getElem? (i := 22) rfl) rfl, AW_t (tb_1 (i := 9) rfl) rfl, ⟨by decide, by decide, by decide +kernel⟩⟩
theorem mt_X7_takeReader : MTV yX7_takeReader cX7_takeReader 3 (some .boolean) 0 := ⟨AW_t (tb_4 (i := 188) rfl) rfl, AW_t (tb_4 (i := 187) rfl) rfl, AW_s (List.mem_of_getElem? (i := 21) rfl) rfl, AW_t (tb_1 (i := 9) rfl) rfl, ⟨by decide, by decide, by decide +kernel⟩⟩
theorem mt_X7_takeNext : MTV yX7_takeNext cX7_takeNext 2 (some .boolean) 0 := ⟨AW_t (tb_4 (i := 184) rfl) rfl, AW_t (tb_4 (i := 183) rfl) rfl, AW_s (List.mem_of_getElem? (i := 20) rfl) rfl, AW_t (tb_1 (i := 9) rfl) rfl, ⟨by decide, by decide, by decide +kernel⟩⟩
theorem mt_X7_takeOffice : MTV yX7_takeOffice cX7_takeOffice 2 (some .boolean) 0 := ⟨AW_t (tb_4 (i := 158) rfl) rfl, AW_t (tb_4 (i := 157) rfl) rfl, AW_s (List.mem_of_getElem? (i := 14) rfl) rfl, AW_t (tb_1 (i := 9) rfl) rfl, ⟨by decide, by decide, by decide +kernel⟩⟩
theorem mt_X7_office : MTV yX7_office cX7_office 3 (some .int) 0 := ⟨AW_t (tb_4 (i := 154) rfl) rfl, AW_t (tb_4 (i := 152) rfl) rfl, AW_t (tb_4 (i := 153) rfl) rfl, AW_t (tb_1 (i := 9) rfl) rfl, ⟨by decide, by decide, by decide +kernel⟩⟩
theorem mt_X7_fault : MTV yX7_fault cX7_fault 1 (some .int) 0 := ⟨AW_t (tb_4 (i := 204) rfl) rfl, AW_t (tb_4 (i := 202) rfl) rfl, AW_t (tb_4 (i := 203) rfl) rfl, AW_t (tb_1 (i := 9) rfl) rfl, ⟨by decide, by decide, by decide +kernel⟩⟩
theorem mt_X7_putInto : MTV yX7_putInto cX7_putInto 4 none 2 := ⟨AW_t (tb_5 (i := 5) rfl) rfl, AW_t (tb_5 (i := 4) rfl) rfl, AW_s (List.mem_of_getElem? (i := 32) rfl) rfl, AW_t (tb_1 (i := 9) rfl) rfl, ⟨by decide, by decide, by decide +kernel⟩⟩
theorem mt_X7_takeFrom : MTV yX7_takeFrom cX7_takeFrom 4 none 2 := ⟨AW_t (tb_5 (i := 59) rfl) rfl, AW_t (tb_5 (i := 58) rfl) rfl, AW_s (List.mem_of_getElem? (i := 39) rfl) rfl, AW_t (tb_1 (i := 9) rfl) rfl, ⟨by decide, by decide, by decide +kernel⟩⟩
theorem mt_X7_remember : MTV yX7_remember cX7_remember 2 none 0 := ⟨AW_t (tb_5 (i := 1) rfl) rfl, AW_t (tb_5 (i := 0) rfl) rfl, AW_s (List.mem_of_getElem? (i := 31) rfl) rfl, AW_t (tb_1 (i := 9) rfl) rfl, ⟨by decide, by decide, by decide +kernel⟩⟩
theorem mt_X7_readNow : MTV yX7_readNow cX7_readNow 4 none 3 := ⟨AW_t (tb_5 (i := 31) rfl) rfl, AW_t (tb_5 (i := 30) rfl) rfl, AW_s (List.mem_of_getElem? (i := 37) rfl) rfl, AW_t (tb_1 (i := 9) rfl) rfl, ⟨by decide, by decide, by decide +kernel⟩⟩
theorem mt_X7_read : MTV yX7_read cX7_read 3 (some .int) 2 := ⟨AW_t (tb_4 (i := 208) rfl) rfl, AW_t (tb_4 (i := 206) rfl) rfl, AW_t (tb_4 (i := 207) rfl) rfl, AW_t (tb_1 (i := 9) rfl) rfl, ⟨by decide, by decide, by decide +kernel⟩⟩
theorem mt_X7_alive : MTV yX7_alive cX7_alive 3 (some .int) 0 := ⟨AW_t (tb_5 (i := 42) rfl) rfl, AW_t (tb_5 (i := 41) rfl) rfl, AW_s (List.mem_of_getElem? (i := 38) rfl) rfl, AW_t (tb_1 (i := 9) rfl) rfl, ⟨by decide, by decide, by decide +kernel⟩⟩
theorem mt_X7_aloud : MTV yX7_aloud cX7_aloud 6 (some .int) 3 := ⟨AW_t (tb_5 (i := 35) rfl) rfl, AW_t (tb_5 (i := 33) rfl) rfl, AW_t (tb_5 (i := 34) rfl) rfl, AW_t (tb_1 (i := 9) rfl) rfl, ⟨by decide, by decide, by decide +kernel⟩⟩
theorem mt_X7_cross : MTV yX7_cross cX7_cross 3 (some .int) 2 := ⟨AW_t (tb_5 (i := 46) rfl) rfl, AW_t (tb_5 (i := 44) rfl) rfl, AW_t (tb_5 (i := 45) rfl) rfl, AW_t (tb_1 (i := 9) rfl) rfl, ⟨by decide, by decide, by decide +kernel⟩⟩
theorem mt_X7_day : MTV yX7_day cX7_day 2 (some .int) 0 := ⟨AW_t (tb_5 (i := 51) rfl) rfl, AW_t (tb_5 (i := 49) rfl) rfl, AW_t (tb_5 (i := 50) rfl) rfl, AW_t (tb_1 (i := 9) rfl) rfl, ⟨by decide, by decide, by decide +kernel⟩⟩
theorem mt_X7_undo : MTV yX7_undo cX7_undo 1 (some .int) 0 := ⟨AW_t (tb_5 (i := 55) rfl) rfl, AW_t (tb_5 (i := 53) rfl) rfl, AW_t (tb_5 (i := 54) rfl) rfl, AW_t (tb_1 (i := 9) rfl) rfl, ⟨by decide, by decide, by decide +kernel⟩⟩
theorem mt_X7_hasRead : MTV yX7_hasRead cX7_hasRead 4 (some .int) 1 := ⟨AW_t (tb_5 (i := 67) rfl) rfl, AW_t (tb_5 (i := 66) rfl) rfl, AW_s (List.mem_of_getElem? (i := 40) rfl) rfl, AW_t (tb_1 (i := 9) rfl) rfl, ⟨by decide, by decide, by decide +kernel⟩⟩
theorem mt_X7_reader : MTV yX7_reader cX7_reader 3 (some .int) 2 := ⟨AW_t (tb_5 (i := 63) rfl) rfl, AW_t (tb_5 (i := 61) rfl) rfl, AW_t (tb_5 (i := 62) rfl) rfl, AW_t (tb_1 (i := 9) rfl) rfl, ⟨by decide, by decide, by decide +kernel⟩⟩
theorem mt_X7_whoRead : MTV yX7_whoRead cX7_whoRead 4 (some .int) 1 := ⟨AW_t (tb_5 (i := 80) rfl) rfl, AW_t (tb_5 (i := 79) rfl) rfl, AW_s (List.mem_of_getElem? (i := 42) rfl) rfl, AW_t (tb_1 (i := 9) rfl) rfl, ⟨by decide, by decide, by decide +kernel⟩⟩
theorem mt_X7_letter : MTV yX7_letter cX7_letter 3 (some .int) 2 := ⟨AW_t (tb_5 (i := 71) rfl) rfl, AW_t (tb_5 (i := 69) rfl) rfl, AW_t (tb_5 (i := 70) rfl) rfl, AW_t (tb_1 (i := 9) rfl) rfl, ⟨by decide, by decide, by decide +kernel⟩⟩
theorem mt_X7_costs : MTV yX7_costs cX7_costs 3 (some .int) 2 := ⟨AW_t (tb_5 (i := 84) rfl) rfl, AW_t (tb_5 (i := 82) rfl) rfl, AW_t (tb_5 (i := 83) rfl) rfl, AW_t (tb_1 (i := 9) rfl) rfl, ⟨by decide, by decide, by decide +kernel⟩⟩
theorem mt_X7_best : MTV yX7_best cX7_best 7 (some .int) 1 := ⟨AW_t (tb_5 (i := 88) rfl) rfl, AW_t (tb_5 (i := 86) rfl) rfl, AW_t (tb_5 (i := 87) rfl) rfl, AW_t (tb_1 (i := 9) rfl) rfl, ⟨by decide, by decide, by decide +kernel⟩⟩
theorem mt_X7_unread : MTV yX7_unread cX7_unread 3 (some .int) 0 := ⟨AW_t (tb_5 (i := 97) rfl) rfl, AW_t (tb_5 (i := 96) rfl) rfl, AW_s (List.mem_of_getElem? (i := 43) rfl) rfl, AW_t (tb_1 (i := 9) rfl) rfl, ⟨by decide, by decide, by decide +kernel⟩⟩
theorem mt_X7_spentBy : MTV yX7_spentBy cX7_spentBy 8 (some .int) 1 := ⟨AW_t (tb_5 (i := 105) rfl) rfl, AW_t (tb_5 (i := 104) rfl) rfl, AW_s (List.mem_of_getElem? (i := 44) rfl) rfl, AW_t (tb_1 (i := 9) rfl) rfl, ⟨by decide, by decide, by decide +kernel⟩⟩
theorem mt_X7_bits : MTS yX7_bits cX7_bits 3 (some .int) 1 := ⟨AW_t (tb_5 (i := 100) rfl) rfl, AW_t (tb_5 (i := 99) rfl) rfl, AW_t (tb_1 (i := 9) rfl) rfl, ⟨by decide, by decide, by decide +kernel⟩⟩
theorem mt_X7_allRead : MTV yX7_allRead cX7_allRead 7 (some .int) 1 := ⟨AW_t (tb_5 (i := 93) rfl) rfl, AW_t (tb_5 (i := 91) rfl) rfl, AW_t (tb_5 (i := 92) rfl) rfl, AW_t (tb_1 (i := 9) rfl) rfl, ⟨by decide, by decide, by decide +kernel⟩⟩
theorem mt_X7_aloudBy : MTV yX7_aloudBy cX7_aloudBy 4 (some .int) 2 := ⟨AW_t (tb_5 (i := 113) rfl) rfl, AW_t (tb_5 (i := 112) rfl) rfl, AW_s (List.mem_of_getElem? (i := 45) rfl) rfl, AW_t (tb_1 (i := 9) rfl) rfl, ⟨by decide, by decide, by decide +kernel⟩⟩
theorem mt_X7_bestAloud : MTV yX7_bestAloud cX7_bestAloud 7 (some .int) 2 := ⟨AW_t (tb_5 (i := 109) rfl) rfl, AW_t (tb_5 (i := 107) rfl) rfl, AW_t (tb_5 (i := 108) rfl) rfl, AW_t (tb_1 (i := 9) rfl) rfl, ⟨by decide, by decide, by decide +kernel⟩⟩
theorem mt_X7_kills : MTV yX7_kills cX7_kills 6 (some .int) 1 := ⟨AW_t (tb_5 (i := 117) rfl) rfl, AW_t (tb_5 (i := 115) rfl) rfl, AW_t (tb_5 (i := 116) rfl) rfl, AW_t (tb_1 (i := 9) rfl) rfl, ⟨by decide, by decide, by decide +kernel⟩⟩
theorem mt_X7_costAll : MTV yX7_costAll cX7_costAll 5 (some .int) 2 := ⟨AW_t (tb_5 (i := 125) rfl) rfl, AW_t (tb_5 (i := 124) rfl) rfl, AW_s (List.mem_of_getElem? (i := 46) rfl) rfl, AW_t (tb_1 (i := 9) rfl) rfl, ⟨by decide, by decide, by decide +kernel⟩⟩
theorem mt_X7_post : MTV yX7_post cX7_post 6 (some .int) 2 := ⟨AW_t (tb_5 (i := 121) rfl) rfl, AW_t (tb_5 (i := 119) rfl) rfl, AW_t (tb_5 (i := 120) rfl) rfl, AW_t (tb_1 (i := 9) rfl) rfl, ⟨by decide, by decide, by decide +kernel⟩⟩
theorem mt_X7_crossOut : MTV yX7_crossOut cX7_crossOut 4 (some .int) 2 := ⟨AW_t (tb_5 (i := 129) rfl) rfl, AW_t (tb_5 (i := 127) rfl) rfl, AW_t (tb_5 (i := 128) rfl) rfl, AW_t (tb_1 (i := 9) rfl) rfl, ⟨by decide, by decide, by decide +kernel⟩⟩
theorem mt_X7_dies : MTV yX7_dies cX7_dies 2 (some .int) 1 := ⟨AW_t (tb_5 (i := 133) rfl) rfl, AW_t (tb_5 (i := 131) rfl) rfl, AW_t (tb_5 (i := 132) rfl) rfl, AW_t (tb_1 (i := 9) rfl) rfl, ⟨by decide, by decide, by decide +kernel⟩⟩
theorem mt_X7_late : MTV yX7_late cX7_late 4 (some .int) 1 := ⟨AW_t (tb_5 (i := 137) rfl) rfl, AW_t (tb_5 (i := 135) rfl) rfl, AW_t (tb_5 (i := 136) rfl) rfl, AW_t (tb_1 (i := 9) rfl) rfl, ⟨by decide, by decide, by decide +kernel⟩⟩
theorem mt_X7_firstAll : MTV yX7_firstAll cX7_firstAll 4 (some .int) 1 := ⟨AW_t (tb_5 (i := 147) rfl) rfl, AW_t (tb_5 (i := 146) rfl) rfl, AW_s (List.mem_of_getElem? (i := 47) rfl) rfl, AW_t (tb_1 (i := 9) rfl) rfl, ⟨by decide, by decide, by decide +kernel⟩⟩
theorem mt_X7_soOld : MTV yX7_soOld cX7_soOld 8 (some .int) 3 := ⟨AW_t (tb_5 (i := 142) rfl) rfl, AW_t (tb_5 (i := 140) rfl) rfl, AW_t (tb_5 (i := 141) rfl) rfl, AW_t (tb_1 (i := 9) rfl) rfl, ⟨by decide, by decide, by decide +kernel⟩⟩
theorem mt_X7_readOn : MTV yX7_readOn cX7_readOn 5 none 1 := ⟨AW_t (tb_5 (i := 156) rfl) rfl, AW_t (tb_5 (i := 155) rfl) rfl, AW_s (List.mem_of_getElem? (i := 48) rfl) rfl, AW_t (tb_1 (i := 9) rfl) rfl, ⟨by decide, by decide, by decide +kernel⟩⟩
theorem mt_X7_ages : MTV yX7_ages cX7_ages 10 (some .int) 4 := ⟨AW_t (tb_5 (i := 151) rfl) rfl, AW_t (tb_5 (i := 149) rfl) rfl, AW_t (tb_5 (i := 150) rfl) rfl, AW_t (tb_1 (i := 9) rfl) rfl, ⟨by decide, by decide, by decide +kernel⟩⟩
theorem mt_X7_burnt : MTV yX7_burnt cX7_burnt 15 (some .int) 3 := ⟨AW_t (tb_5 (i := 160) rfl) rfl, AW_t (tb_5 (i := 158) rfl) rfl, AW_t (tb_5 (i := 159) rfl) rfl, AW_t (tb_1 (i := 9) rfl) rfl, ⟨by decide, by decide, by decide +kernel⟩⟩
theorem mt_X7_image : MTV yX7_image cX7_image 2 (some .int) 1 := ⟨AW_t (tb_5 (i := 165) rfl) rfl, AW_t (tb_5 (i := 163) rfl) rfl, AW_t (tb_5 (i := 164) rfl) rfl, AW_t (tb_1 (i := 9) rfl) rfl, ⟨by decide, by decide, by decide +kernel⟩⟩
theorem mt_X7_restore : MTV yX7_restore cX7_restore 2 (some .int) 1 := ⟨AW_t (tb_5 (i := 169) rfl) rfl, AW_t (tb_5 (i := 167) rfl) rfl, AW_t (tb_5 (i := 168) rfl) rfl, AW_t (tb_1 (i := 9) rfl) rfl, ⟨by decide, by decide, by decide +kernel⟩⟩
theorem mt_X7_kind : MTV yX7_kind cX7_kind 2 (some .int) 1 := ⟨AW_t (tb_5 (i := 173) rfl) rfl, AW_t (tb_5 (i := 171) rfl) rfl, AW_t (tb_5 (i := 172) rfl) rfl, AW_t (tb_1 (i := 9) rfl) rfl, ⟨by decide, by decide, by decide +kernel⟩⟩
theorem mt_X7_isOf : MTV yX7_isOf cX7_isOf 4 (some .boolean) 2 := ⟨AW_t (tb_5 (i := 182) rfl) rfl, AW_t (tb_5 (i := 181) rfl) rfl, AW_s (List.mem_of_getElem? (i := 49) rfl) rfl, AW_t (tb_1 (i := 9) rfl) rfl, ⟨by decide, by decide, by decide +kernel⟩⟩
theorem mt_X7_as : MTV yX7_as cX7_as 3 (some .int) 2 := ⟨AW_t (tb_5 (i := 177) rfl) rfl, AW_t (tb_5 (i := 175) rfl) rfl, AW_t (tb_5 (i := 176) rfl) rfl, AW_t (tb_1 (i := 9) rfl) rfl, ⟨by decide, by decide, by decide +kernel⟩⟩
theorem mt_X7_leave : MTV yX7_leave cX7_leave 2 none 1 := ⟨AW_t (tb_5 (i := 198) rfl) rfl, AW_t (tb_5 (i := 197) rfl) rfl, AW_s (List.mem_of_getElem? (i := 52) rfl) rfl, AW_t (tb_1 (i := 9) rfl) rfl, ⟨by decide, by decide, by decide +kernel⟩⟩
theorem mt_X7_sizeLent : MTV yX7_sizeLent cX7_sizeLent 2 (some .int) 1 := ⟨AW_t (tb_5 (i := 206) rfl) rfl, AW_t (tb_5 (i := 205) rfl) rfl, AW_s (List.mem_of_getElem? (i := 54) rfl) rfl, AW_t (tb_1 (i := 9) rfl) rfl, ⟨by decide, by decide, by decide +kernel⟩⟩
theorem mt_X7_markLent : MTV yX7_markLent cX7_markLent 2 (some .int) 1 := ⟨AW_t (tb_5 (i := 218) rfl) rfl, AW_t (tb_5 (i := 217) rfl) rfl, AW_s (List.mem_of_getElem? (i := 57) rfl) rfl, AW_t (tb_1 (i := 9) rfl) rfl, ⟨by decide, by decide, by decide +kernel⟩⟩
theorem mt_X7_markOfProse : MTV yX7_markOfProse cX7_markOfProse 2 (some .int) 1 := ⟨AW_t (tb_5 (i := 222) rfl) rfl, AW_t (tb_5 (i := 221) rfl) rfl, AW_s (List.mem_of_getElem? (i := 58) rfl) rfl, AW_t (tb_1 (i := 9) rfl) rfl, ⟨by decide, by decide, by decide +kernel⟩⟩
theorem mt_X7_sizeOfFigures : MTV yX7_sizeOfFigures cX7_sizeOfFigures 2 (some .int) 1 := ⟨AW_t (tb_5 (i := 202) rfl) rfl, AW_t (tb_5 (i := 201) rfl) rfl, AW_s (List.mem_of_getElem? (i := 53) rfl) rfl, AW_t (tb_1 (i := 9) rfl) rfl, ⟨by decide, by decide, by decide +kernel⟩⟩
theorem mt_X7_sizeOfSums : MTV yX7_sizeOfSums cX7_sizeOfSums 2 (some .int) 1 := ⟨AW_t (tb_5 (i := 194) rfl) rfl, AW_t (tb_5 (i := 193) rfl) rfl, AW_s (List.mem_of_getElem? (i := 51) rfl) rfl, AW_t (tb_1 (i := 9) rfl) rfl, ⟨by decide, by decide, by decide +kernel⟩⟩
theorem mt_X7_markOf : MTV yX7_markOf cX7_markOf 3 (some .int) 1 := ⟨AW_t (tb_5 (i := 214) rfl) rfl, AW_t (tb_5 (i := 213) rfl) rfl, AW_s (List.mem_of_getElem? (i := 56) rfl) rfl, AW_t (tb_1 (i := 9) rfl) rfl, ⟨by decide, by decide, by decide +kernel⟩⟩
theorem mt_X7_sizeOfProse : MTV yX7_sizeOfProse cX7_sizeOfProse 3 (some .int) 1 := ⟨AW_t (tb_5 (i := 210) rfl) rfl, AW_t (tb_5 (i := 209) rfl) rfl, AW_s (List.mem_of_getElem? (i := 55) rfl) rfl, AW_t (tb_1 (i := 9) rfl) rfl, ⟨by decide, by decide, by decide +kernel⟩⟩
theorem mt_X7_sizeOf : MTV yX7_sizeOf cX7_sizeOf 2 (some .int) 1 := ⟨AW_t (tb_5 (i := 190) rfl) rfl, AW_t (tb_5 (i := 189) rfl) rfl, AW_s (List.mem_of_getElem? (i := 50) rfl) rfl, AW_t (tb_1 (i := 9) rfl) rfl, ⟨by decide, by decide, by decide +kernel⟩⟩
theorem mt_X7_ask : MTV yX7_ask cX7_ask 3 (some .int) 2 := ⟨AW_t (tb_5 (i := 186) rfl) rfl, AW_t (tb_5 (i := 184) rfl) rfl, AW_t (tb_5 (i := 185) rfl) rfl, AW_t (tb_1 (i := 9) rfl) rfl, ⟨by decide, by decide, by decide +kernel⟩⟩
theorem mt_X7_trace : MTV yX7_trace cX7_trace 2 (some .int) 1 := ⟨AW_t (tb_5 (i := 226) rfl) rfl, AW_t (tb_5 (i := 224) rfl) rfl, AW_t (tb_5 (i := 225) rfl) rfl, AW_t (tb_1 (i := 9) rfl) rfl, ⟨by decide, by decide, by decide +kernel⟩⟩
theorem mt_X7_fit : MTV yX7_fit cX7_fit 3 (some .int) 0 := ⟨AW_t (tb_5 (i := 234) rfl) rfl, AW_t (tb_5 (i := 233) rfl) rfl, AW_s (List.mem_of_getElem? (i := 59) rfl) rfl, AW_t (tb_1 (i := 9) rfl) rfl, ⟨by decide, by decide, by decide +kernel⟩⟩
theorem mt_X7_count : MTV yX7_count cX7_count 4 (some .int) 1 := ⟨AW_t (tb_5 (i := 230) rfl) rfl, AW_t (tb_5 (i := 228) rfl) rfl, AW_t (tb_5 (i := 229) rfl) rfl, AW_t (tb_1 (i := 9) rfl) rfl, ⟨by decide, by decide, by decide +kernel⟩⟩
end
section
/-! ===== the methods as expressions (by wip/whole/gen.py, out of the bytecode) ===== -/
def X0_forgetAll (o : Nat) (mem : Mem) : Option (Unit × Mem) := some ((), (st2 (st2 mem o 7 0) o 8 0))
def X6_halfUp (a0 : Int32) (mem : Mem) : Option (Int32 × Mem) := chk (¬ (2 : Int32) = 0) <| some ((a0 + 1) / 2, mem)
def X6_tenthUp (a0 : Int32) (mem : Mem) : Option (Int32 × Mem) := chk (¬ (10 : Int32) = 0) <| some ((a0 + 9) / 10, mem)
def X3_costOfPages (a0 : Int32) (a1 : Int32) (mem : Mem) : Option (Int32 × Mem) := if (a0 : Int32) = 1 then (some (a1, mem)) else if (a0 : Int32) = 2 then (some (3 * a1, mem)) else if (a0 : Int32) = 3 then (cll (X6_halfUp a1 mem) fun r4 m5 => some (r4, m5)) else if (a0 : Int32) = 4 then (some (0, mem)) else if (a0 : Int32) = 5 then (cll (X6_tenthUp a1 mem) fun r8 m9 => some (r8, m9)) else (some (0, mem))
def X3_hasRead (o : Nat) (a1 : Int32) (a2 : Int32) (mem : Mem) : Option (Int32 × Mem) := ald mem (rf o 12) ((a1 * 6) + a2) fun z1 => if 0 < (z1 : Int32) then (chk ((1 : Int32) &&& 1 = 1) (some (1, mem))) else (chk ((0 : Int32) &&& 1 = 0) (some (0, mem)))
def X3_costFor_ (o : Nat) (a1 : Int32) (a2 : Int32) (a3 : Int32) (mem : Mem) : Option (Int32 × Mem) := ald mem (rf o 4) a2 fun z1 => cll (X3_costOfPages z1 a3 mem) fun r2 m3 => cll (X3_hasRead o a1 a2 m3) fun r4 m5 => if (r4 : Int32) = 0 then (some (r2, m5)) else (cll (X6_halfUp r2 m5) fun r7 m8 => some (r7, m8))
def X3_costFor (o : Nat) (a1 : Int32) (a2 : Int32) (mem : Mem) : Option (Int32 × Mem) := ald mem (rf o 5) a2 fun z1 => cll (X3_costFor_ o a1 a2 z1 mem) fun r2 m3 => some (r2, m3)
def X3_survives (o : Nat) (a1 : Int32) (a2 : Int32) (mem : Mem) : Option (Int32 × Mem) := ald mem (rf o 9) a1 fun z1 => ald mem (rf o 10) a1 fun z2 => if (z1 + a2) < z2 then (chk ((1 : Int32) &&& 1 = 1) (some (1, mem))) else (chk ((0 : Int32) &&& 1 = 0) (some (0, mem)))
def X3_addTimesRead (o : Nat) (a1 : Int32) (a2 : Int32) (a3 : Int32) (mem : Mem) : Option (Unit × Mem) := ald mem (rf o 12) ((a1 * 6) + a2) fun z1 => ast mem (rf o 12) ((a1 * 6) + a2) (z1 + a3) fun m2 => some ((), m2)
def X6_inSet (a0 : Int32) (a1 : Int32) (mem : Mem) : Option (Int32 × Mem) := if (((a0 >>> (a1 &&& 31)) &&& 1) : Int32) = 1 then (chk ((1 : Int32) &&& 1 = 1) (some (1, mem))) else (chk ((0 : Int32) &&& 1 = 0) (some (0, mem)))
def X0_letHear_b74 (p0 : Nat)  (k6 : Int32 → Int32 → Int32 → Int32 → Int32 → Mem → Option (Int32 × Mem)) (x1 : Int32) (x2 : Int32) (x3 : Int32) (x4 : Int32) (x5 : Int32) (mem : Mem) : Option (Int32 × Mem) := k6 x1 x2 x3 x4 (x5 + 1) mem
def X0_letHear_b50 (p0 : Nat)  (k6 : Int32 → Int32 → Int32 → Int32 → Int32 → Mem → Option (Int32 × Mem)) (x1 : Int32) (x2 : Int32) (x3 : Int32) (x4 : Int32) (x5 : Int32) (mem : Mem) : Option (Int32 × Mem) := ald mem (rf p0 11) x5 fun z9 => ast mem (rf p0 11) x5 (z9 ||| (1 <<< (x1 &&& 31))) fun m10 => ald m10 (rf p0 9) x5 fun z11 => ast m10 (rf p0 9) x5 (z11 + x3) fun m12 => X0_letHear_b74 p0 k6 x1 x2 x3 x4 x5 m12
def X0_letHear_b6 (p0 : Nat)   : Nat → Int32 → Int32 → Int32 → Int32 → Int32 → Mem → Option (Int32 × Mem)
  | 0 => fun _ _ _ _ _ _ => none
  | n + 1 => fun x1 x2 x3 x4 x5 mem => if x5 < (mem p0 7) then (cll (X6_inSet x2 x5 mem) fun r2 m3 => if (r2 : Int32) = 0 then (X0_letHear_b74 p0 (X0_letHear_b6 p0 n) x1 x2 x3 x4 x5 m3) else (ald m3 (rf p0 11) x5 fun z5 => cll (X6_inSet z5 x1 m3) fun r6 m7 => if (r6 : Int32) = 0 then (X0_letHear_b50 p0 (X0_letHear_b6 p0 n) x1 x2 x3 (x4 ||| (1 <<< (x5 &&& 31))) x5 m7) else (X0_letHear_b50 p0 (X0_letHear_b6 p0 n) x1 x2 x3 x4 x5 m7))) else (some (x4, mem))
def X0_letHear (p0 : Nat) (a1 : Int32) (a2 : Int32) (a3 : Int32) (mem : Mem) : Option (Int32 × Mem) := X0_letHear_b6 p0 fu a1 a2 a3 0 0 mem
def X0_keep_b52 (o : Nat)   (s1 : Int32) (mem : Mem) : Option (Unit × Mem) := if (((st2 mem o 7 s1) o 8) : Int32) < 24 then (some ((), (st2 (st2 mem o 7 s1) o 8 (((st2 mem o 7 s1) o 8) + 1)))) else (some ((), (st2 mem o 7 s1)))
def X0_keep (o : Nat) (a1 : Int32) (a2 : Int32) (a3 : Int32) (mem : Mem) : Option (Unit × Mem) := ast mem (rf o 0) (mem o 7) a1 fun m1 => ast m1 (rf o 2) (m1 o 7) a2 fun m2 => ast m2 (rf o 3) (m2 o 7) a3 fun m3 => if (((m3 o 7) + 1) : Int32) < 24 then (X0_keep_b52 o ((m3 o 7) + 1) m3) else (X0_keep_b52 o 0 m3)
def X0_letRead_b23 (o : Nat) (p1 : Nat)   (x2 : Int32) (x3 : Int32) (x4 : Int32) (x5 : Int32) (s0 : Int32) (mem : Mem) : Option (Unit × Mem) := ald mem (rf p1 9) x2 fun z6 => ast mem (rf p1 9) x2 (z6 + x5) fun m7 => cll (X3_addTimesRead p1 x2 x3 s0 m7) fun _ m9 => ast m9 (rf o 1) (m9 o 7) x2 fun m10 => ast m10 (rf o 4) (m10 o 7) s0 fun m11 => ast m11 (rf o 5) (m11 o 7) x4 fun m12 => cll (X6_tenthUp x5 m12) fun r13 m14 => cll (X0_letHear p1 x3 x4 r13 m14) fun r15 m16 => ast m16 (rf o 6) (m12 o 7) r15 fun m17 => cll (X0_keep o 0 x3 x5 m17) fun _ m19 => some ((), m19)
def X0_letRead (o : Nat) (p1 : Nat) (a2 : Int32) (a3 : Int32) (a4 : Int32) (mem : Mem) : Option (Unit × Mem) := cll (X3_costFor p1 a2 a3 mem) fun r1 m2 => cll (X3_survives p1 a2 r1 m2) fun r3 m4 => if (r3 : Int32) = 0 then (X0_letRead_b23 o p1 a2 a3 a4 r1 0 m4) else (X0_letRead_b23 o p1 a2 a3 a4 r1 1 m4)
def X0_letCross (o : Nat) (p1 : Nat) (a2 : Int32) (a3 : Int32) (mem : Mem) : Option (Unit × Mem) := ald mem (rf p1 5) a2 fun z1 => ast mem (rf p1 5) a2 (z1 - a3) fun m2 => cll (X0_keep o 1 a2 a3 m2) fun _ m4 => some ((), m4)
def X0_moveDay_b12 (p0 : Nat)   : Nat → Int32 → Int32 → Mem → Option (Unit × Mem)
  | 0 => fun _ _ _ => none
  | n + 1 => fun x1 x2 mem => if x2 < (mem p0 7) then (ald mem (rf p0 9) x2 fun z3 => ast mem (rf p0 9) x2 (z3 + x1) fun m4 => X0_moveDay_b12 p0 n x1 (x2 + 1) m4) else (some ((), mem))
def X0_moveDay (p0 : Nat) (a1 : Int32) (mem : Mem) : Option (Unit × Mem) := X0_moveDay_b12 p0 fu a1 0 (st2 mem p0 2 ((mem p0 2) + a1))
def X0_letDayGo (o : Nat) (p1 : Nat) (mem : Mem) : Option (Unit × Mem) := cll (X0_moveDay p1 1 mem) fun _ m2 => cll (X0_keep o 2 0 1 m2) fun _ m4 => some ((), m4)
def X0_takeReadingBack_b137 (o : Nat) (p1 : Nat)  (k57 : Int32 → Int32 → Mem → Option (Unit × Mem)) (x3 : Int32) (x4 : Int32) (mem : Mem) : Option (Unit × Mem) := k57 x3 (x4 + 1) mem
def X0_takeReadingBack_b105 (o : Nat) (p1 : Nat)  (k57 : Int32 → Int32 → Mem → Option (Unit × Mem)) (x3 : Int32) (x4 : Int32) (mem : Mem) : Option (Unit × Mem) := ald mem (rf o 6) (mem o 7) fun z19 => cll (X6_inSet z19 x4 mem) fun r20 m21 => if (r20 : Int32) = 0 then (X0_takeReadingBack_b137 o p1 k57 x3 x4 m21) else (ald m21 (rf p1 11) x4 fun z23 => ast m21 (rf p1 11) x4 (z23 &&& ((1 <<< (x3 &&& 31)) ^^^ (-1))) fun m24 => X0_takeReadingBack_b137 o p1 k57 x3 x4 m24)
def X0_takeReadingBack_b57 (o : Nat) (p1 : Nat)   : Nat → Int32 → Int32 → Mem → Option (Unit × Mem)
  | 0 => fun _ _ _ => none
  | n + 1 => fun x3 x4 mem => if x4 < (mem p1 7) then (ald mem (rf o 5) (mem o 7) fun z10 => cll (X6_inSet z10 x4 mem) fun r11 m12 => if (r11 : Int32) = 0 then (X0_takeReadingBack_b105 o p1 (X0_takeReadingBack_b57 o p1 n) x3 x4 m12) else (ald m12 (rf p1 9) x4 fun z14 => ald m12 (rf o 3) (m12 o 7) fun z15 => cll (X6_tenthUp z15 m12) fun r16 m17 => ast m17 (rf p1 9) x4 (z14 - r16) fun m18 => X0_takeReadingBack_b105 o p1 (X0_takeReadingBack_b57 o p1 n) x3 x4 m18)) else (some ((), mem))
def X0_takeReadingBack (o : Nat) (p1 : Nat) (mem : Mem) : Option (Unit × Mem) := ald mem (rf o 1) (mem o 7) fun z1 => ald mem (rf o 2) (mem o 7) fun z2 => ald mem (rf p1 9) z1 fun z3 => ald mem (rf o 3) (mem o 7) fun z4 => ast mem (rf p1 9) z1 (z3 - z4) fun m5 => ald m5 (rf o 4) (m5 o 7) fun z6 => cll (X3_addTimesRead p1 z1 z2 (-z6) m5) fun _ m8 => X0_takeReadingBack_b57 o p1 fu z2 0 m8
def X0_takeBack_b88 (o : Nat) (p1 : Nat)    (mem : Mem) : Option (Unit × Mem) := ald mem (rf o 0) (mem o 7) fun z14 => if (z14 : Int32) = 2 then (cll (X0_moveDay p1 (-1) mem) fun _ m17 => some ((), m17)) else (some ((), mem))
def X0_takeBack_b49 (o : Nat) (p1 : Nat)    (mem : Mem) : Option (Unit × Mem) := ald mem (rf o 0) (mem o 7) fun z8 => if (z8 : Int32) = 1 then (ald mem (rf o 2) (mem o 7) fun z10 => ald mem (rf p1 5) z10 fun z11 => ald mem (rf o 3) (mem o 7) fun z12 => ast mem (rf p1 5) z10 (z11 + z12) fun m13 => X0_takeBack_b88 o p1  m13) else (X0_takeBack_b88 o p1  mem)
def X0_takeBack_b19 (o : Nat) (p1 : Nat)   (s1 : Int32) (mem : Mem) : Option (Unit × Mem) := ald (st2 (st2 mem o 7 s1) o 8 (((st2 mem o 7 s1) o 8) - 1)) (rf o 0) ((st2 (st2 mem o 7 s1) o 8 (((st2 mem o 7 s1) o 8) - 1)) o 7) fun z4 => if (z4 : Int32) = 0 then (cll (X0_takeReadingBack o p1 (st2 (st2 mem o 7 s1) o 8 (((st2 mem o 7 s1) o 8) - 1))) fun _ m7 => X0_takeBack_b49 o p1  m7) else (X0_takeBack_b49 o p1  (st2 (st2 mem o 7 s1) o 8 (((st2 mem o 7 s1) o 8) - 1)))
def X0_takeBack (o : Nat) (p1 : Nat) (mem : Mem) : Option (Unit × Mem) := if 0 < ((mem o 7) : Int32) then (X0_takeBack_b19 o p1 ((mem o 7) - 1) mem) else (X0_takeBack_b19 o p1 23 mem)
def X1_bodyFor (p0 : Nat) (a1 : Int32) (a2 : Int32) (mem : Mem) : Option (Int32 × Mem) := ald mem (rf p0 4) a1 fun z1 => if (a2 : Int32) = 0 then (sld szB 6 z1 fun z4 => some (z4, mem)) else (sld mkB 6 z1 fun z3 => some (z3, mem))
def X1_leaveNumber (o : Nat) (a1 : Int32) (mem : Mem) : Option (Unit × Mem) := if ((mem o 1) : Int32) < 16 then (ast mem (rf o 0) (mem o 1) a1 fun m2 => some ((), (st2 m2 o 1 ((m2 o 1) + 1)))) else (some ((), mem))
def X3_timesReadByAll_b4 (o : Nat)   : Nat → Int32 → Int32 → Int32 → Mem → Option (Int32 × Mem)
  | 0 => fun _ _ _ _ => none
  | n + 1 => fun x1 x2 x3 mem => if x3 < (mem o 7) then (ald mem (rf o 12) ((x3 * 6) + x1) fun z2 => X3_timesReadByAll_b4 o n x1 (x2 + z2) (x3 + 1) mem) else (some (x2, mem))
def X3_timesReadByAll (o : Nat) (a1 : Int32) (mem : Mem) : Option (Int32 × Mem) := X3_timesReadByAll_b4 o fu a1 0 0 mem
def X1_begin_e (p0 : Nat) (p2 : Nat) (frec : Nat → Int32 → Nat → Int32 → Int32 → Mem → Option (Int32 × Mem)) (a1 : Int32) (a3 : Int32) (a4 : Int32) (mem : Mem) : Option (Int32 × Mem) := if 8 < (a4 : Int32) then (some (0, mem)) else (cll (X1_leaveNumber p0 a1 mem) fun _ m3 => if (a1 : Int32) = 10 then (ald m3 (rf p2 5) a3 fun z5 => some (z5, m3)) else if (a1 : Int32) = 11 then (cll (frec p0 10 p2 a3 (a4 + 1) m3) fun r7 m8 => cll (X1_bodyFor p2 a3 1 m8) fun r9 m10 => cll (frec p0 r9 p2 a3 (a4 + 1) m10) fun r11 m12 => some (r7 + r11, m12)) else if (a1 : Int32) = 12 then (cll (frec p0 11 p2 a3 (a4 + 1) m3) fun r14 m15 => some (-r14, m15)) else if (a1 : Int32) = 13 then (cll (frec p0 10 p2 a3 (a4 + 1) m3) fun r17 m18 => some (r17 - 100, m18)) else if (a1 : Int32) = 14 then (cll (frec p0 13 p2 a3 (a4 + 1) m3) fun r20 m21 => some (2 * r20, m21)) else if (a1 : Int32) = 15 then (some (0, m3)) else if (a1 : Int32) = 16 then (some (0, m3)) else if (a1 : Int32) = 17 then (some (0, m3)) else if (a1 : Int32) = 18 then (some (0, m3)) else if (a1 : Int32) = 19 then (some (0, m3)) else if (a1 : Int32) = 20 then (some (a3, m3)) else if (a1 : Int32) = 21 then (cll (frec p0 20 p2 a3 (a4 + 1) m3) fun r29 m30 => cll (X3_timesReadByAll p2 a3 m30) fun r31 m32 => some (r29 + r31, m32)) else if (a1 : Int32) = 22 then (cll (frec p0 21 p2 a3 (a4 + 1) m3) fun r34 m35 => some (r34 - 1000, m35)) else if (a1 : Int32) = 23 then (cll (frec p0 20 p2 a3 (a4 + 1) m3) fun r37 m38 => cll (X1_bodyFor p2 a3 0 m38) fun r39 m40 => cll (frec p0 r39 p2 a3 (a4 + 1) m40) fun r41 m42 => some (r37 - r41, m42)) else if (a1 : Int32) = 24 then (cll (frec p0 21 p2 a3 (a4 + 1) m3) fun r44 m45 => some (2 * r44, m45)) else (some (0, m3)))
def X1_begin : Nat → Nat → Int32 → Nat → Int32 → Int32 → Mem → Option (Int32 × Mem)
  | 0 => fun _ _ _ _ _ _ => none
  | n + 1 => fun p0 a1 p2 a3 a4 mem => X1_begin_e p0 p2 (X1_begin n) a1 a3 a4 mem
def X1_answer (o : Nat) (p1 : Nat) (a2 : Int32) (a3 : Int32) (mem : Mem) : Option (Int32 × Mem) := cll (X1_bodyFor p1 a2 a3 (st2 mem o 1 0)) fun r2 m3 => cll (X1_begin 12 o r2 p1 a2 0 m3) fun r4 m5 => some (r4, m5)
def X3_isAlive (o : Nat) (a1 : Int32) (mem : Mem) : Option (Int32 × Mem) := ald mem (rf o 9) a1 fun z1 => ald mem (rf o 10) a1 fun z2 => if z1 < z2 then (chk ((1 : Int32) &&& 1 = 1) (some (1, mem))) else (chk ((0 : Int32) &&& 1 = 0) (some (0, mem)))
def X3_isFit (o : Nat) (a1 : Int32) (mem : Mem) : Option (Int32 × Mem) := cll (X3_isAlive o a1 mem) fun r1 m2 => if (r1 : Int32) = 0 then (chk ((0 : Int32) &&& 1 = 0) (some (0, m2))) else (ald m2 (rf o 9) a1 fun z4 => if z4 < (m2 o 1) then (chk ((1 : Int32) &&& 1 = 1) (some (1, m2))) else (chk ((0 : Int32) &&& 1 = 0) (some (0, m2))))
def X2_bestReader_b66 (o : Nat) (p1 : Nat)  (k9 : Int32 → Int32 → Int32 → Int32 → Mem → Option (Int32 × Mem)) (x2 : Int32) (x3 : Int32) (x4 : Int32) (x5 : Int32) (mem : Mem) : Option (Int32 × Mem) := k9 x2 x3 x4 (x5 + 1) mem
def X2_bestReader_b9 (o : Nat) (p1 : Nat)   : Nat → Int32 → Int32 → Int32 → Int32 → Mem → Option (Int32 × Mem)
  | 0 => fun _ _ _ _ _ => none
  | n + 1 => fun x2 x3 x4 x5 mem => if x5 < (mem p1 7) then (ald mem (rf p1 10) x5 fun z2 => ald mem (rf p1 9) x5 fun z3 => cll (X3_costFor p1 x5 x2 mem) fun r4 m5 => cll (X3_isFit p1 x5 m5) fun r6 m7 => if (r6 : Int32) = 0 then (X2_bestReader_b66 o p1 (X2_bestReader_b9 o p1 n) x2 x3 x4 x5 m7) else (if x4 < ((z2 - z3) - r4) then (X2_bestReader_b66 o p1 (X2_bestReader_b9 o p1 n) x2 x5 ((z2 - z3) - r4) x5 m7) else (X2_bestReader_b66 o p1 (X2_bestReader_b9 o p1 n) x2 x3 x4 x5 m7))) else (some (x3, mem))
def X2_bestReader (o : Nat) (p1 : Nat) (a2 : Int32) (mem : Mem) : Option (Int32 × Mem) := X2_bestReader_b9 o p1 fu a2 (-1000000) 0 0 mem
def X3_howManyAlive_b23 (o : Nat)  (k4 : Int32 → Int32 → Mem → Option (Int32 × Mem)) (x1 : Int32) (x2 : Int32) (mem : Mem) : Option (Int32 × Mem) := k4 x1 (x2 + 1) mem
def X3_howManyAlive_b4 (o : Nat)   : Nat → Int32 → Int32 → Mem → Option (Int32 × Mem)
  | 0 => fun _ _ _ => none
  | n + 1 => fun x1 x2 mem => if x2 < (mem o 7) then (cll (X3_isAlive o x2 mem) fun r2 m3 => if (r2 : Int32) = 0 then (X3_howManyAlive_b23 o (X3_howManyAlive_b4 o n) x1 x2 m3) else (X3_howManyAlive_b23 o (X3_howManyAlive_b4 o n) (x1 + 1) x2 m3)) else (some (x1, mem))
def X3_howManyAlive (o : Nat) (mem : Mem) : Option (Int32 × Mem) := X3_howManyAlive_b4 o fu 0 0 mem
def X2_spentAloud (o : Nat) (p1 : Nat) (a2 : Int32) (a3 : Int32) (mem : Mem) : Option (Int32 × Mem) := cll (X3_costFor p1 a2 a3 mem) fun r1 m2 => cll (X3_howManyAlive p1 m2) fun r3 m4 => cll (X6_tenthUp r1 m4) fun r5 m6 => some (r1 + ((r3 - 1) * r5), m6)
def X2_bestReaderAloud_b79 (o : Nat) (p1 : Nat)  (k9 : Int32 → Int32 → Int32 → Int32 → Mem → Option (Int32 × Mem)) (x2 : Int32) (x3 : Int32) (x4 : Int32) (x5 : Int32) (mem : Mem) : Option (Int32 × Mem) := k9 x2 x3 x4 (x5 + 1) mem
def X2_bestReaderAloud_b72 (o : Nat) (p1 : Nat)  (k9 : Int32 → Int32 → Int32 → Int32 → Mem → Option (Int32 × Mem)) (x2 : Int32) (x5 : Int32) (x6 : Int32) (mem : Mem) : Option (Int32 × Mem) := X2_bestReaderAloud_b79 o p1 k9 x2 x5 x6 x5 mem
def X2_bestReaderAloud_b9 (o : Nat) (p1 : Nat)   : Nat → Int32 → Int32 → Int32 → Int32 → Mem → Option (Int32 × Mem)
  | 0 => fun _ _ _ _ _ => none
  | n + 1 => fun x2 x3 x4 x5 mem => if x5 < (mem p1 7) then (cll (X3_isFit p1 x5 mem) fun r2 m3 => if (r2 : Int32) = 0 then (X2_bestReaderAloud_b79 o p1 (X2_bestReaderAloud_b9 o p1 n) x2 x3 x4 x5 m3) else (cll (X3_costFor p1 x5 x2 m3) fun r5 m6 => cll (X3_survives p1 x5 r5 m6) fun r7 m8 => if (r7 : Int32) = 0 then (X2_bestReaderAloud_b79 o p1 (X2_bestReaderAloud_b9 o p1 n) x2 x3 x4 x5 m8) else (cll (X2_spentAloud o p1 x5 x2 m8) fun r10 m11 => if (x3 : Int32) = (-1000000) then (X2_bestReaderAloud_b72 o p1 (X2_bestReaderAloud_b9 o p1 n) x2 x5 r10 m11) else (if r10 < x4 then (X2_bestReaderAloud_b72 o p1 (X2_bestReaderAloud_b9 o p1 n) x2 x5 r10 m11) else (X2_bestReaderAloud_b79 o p1 (X2_bestReaderAloud_b9 o p1 n) x2 x3 x4 x5 m11))))) else (some (x3, mem))
def X2_bestReaderAloud (o : Nat) (p1 : Nat) (a2 : Int32) (mem : Mem) : Option (Int32 × Mem) := X2_bestReaderAloud_b9 o p1 fu a2 (-1000000) 0 0 mem
def J7_fill_53178_b5 (p0 : Nat)   : Nat → Int32 → Int32 → Int32 → Mem → Option (Unit × Mem)
  | 0 => fun _ _ _ _ => none
  | n + 1 => fun x1 x2 x3 mem => if x2 < x3 then (ast mem p0 x2 x1 fun m2 => J7_fill_53178_b5 p0 n x1 (x2 + 1) x3 m2) else (some ((), mem))
def J7_fill_53178 (p0 : Nat) (a1 : Int32) (mem : Mem) : Option (Unit × Mem) := J7_fill_53178_b5 p0 fu a1 0 (Int32.ofNat (ln p0)) mem
def X3_readersOf_b27 (o : Nat)  (k4 : Int32 → Int32 → Int32 → Mem → Option (Int32 × Mem)) (x1 : Int32) (x2 : Int32) (x3 : Int32) (mem : Mem) : Option (Int32 × Mem) := k4 x1 x2 (x3 + 1) mem
def X3_readersOf_b4 (o : Nat)   : Nat → Int32 → Int32 → Int32 → Mem → Option (Int32 × Mem)
  | 0 => fun _ _ _ _ => none
  | n + 1 => fun x1 x2 x3 mem => if x3 < (mem o 7) then (cll (X3_hasRead o x3 x1 mem) fun r2 m3 => if (r2 : Int32) = 0 then (X3_readersOf_b27 o (X3_readersOf_b4 o n) x1 x2 x3 m3) else (X3_readersOf_b27 o (X3_readersOf_b4 o n) x1 (x2 ||| (1 <<< (x3 &&& 31))) x3 m3)) else (some (x2, mem))
def X3_readersOf (o : Nat) (a1 : Int32) (mem : Mem) : Option (Int32 × Mem) := X3_readersOf_b4 o fu a1 0 0 mem
def X3_firstCost (o : Nat) (a1 : Int32) (mem : Mem) : Option (Int32 × Mem) := ald mem (rf o 4) a1 fun z1 => ald mem (rf o 5) a1 fun z2 => cll (X3_costOfPages z1 z2 mem) fun r3 m4 => some (r3, m4)
def X2_handsOut_b112 (p0 : Nat) (p2 : Nat) (p3 : Nat) (frec : Nat → Int32 → Nat → Nat → Mem → Option (Int32 × Mem)) (k38 : Int32 → Int32 → Int32 → Mem → Option (Int32 × Mem)) (x1 : Int32) (x4 : Int32) (x5 : Int32) (mem : Mem) : Option (Int32 × Mem) := k38 x1 x4 (x5 + 1) mem
def X2_handsOut_b38 (p0 : Nat) (p2 : Nat) (p3 : Nat) (frec : Nat → Int32 → Nat → Nat → Mem → Option (Int32 × Mem))  : Nat → Int32 → Int32 → Int32 → Mem → Option (Int32 × Mem)
  | 0 => fun _ _ _ _ => none
  | n + 1 => fun x1 x4 x5 mem => if x5 < (mem p0 7) then (cll (X3_isFit p0 x5 mem) fun r10 m11 => if (r10 : Int32) = 0 then (X2_handsOut_b112 p0 p2 p3 frec (X2_handsOut_b38 p0 p2 p3 frec n) x1 x4 x5 m11) else (ald m11 p2 x5 fun z13 => cll (X3_survives p0 x5 (z13 + x4) m11) fun r14 m15 => if (r14 : Int32) = 0 then (X2_handsOut_b112 p0 p2 p3 frec (X2_handsOut_b38 p0 p2 p3 frec n) x1 x4 x5 m15) else (ald m15 p2 x5 fun z17 => ast m15 p2 x5 (z17 + x4) fun m18 => ast m18 p3 x1 x5 fun m19 => cll (frec p0 (x1 + 1) p2 p3 m19) fun r20 m21 => if (r20 : Int32) = 0 then (ald m21 p2 x5 fun z23 => ast m21 p2 x5 (z23 - x4) fun m24 => X2_handsOut_b112 p0 p2 p3 frec (X2_handsOut_b38 p0 p2 p3 frec n) x1 x4 x5 m24) else (chk ((1 : Int32) &&& 1 = 1) (some (1, m21)))))) else (chk ((0 : Int32) &&& 1 = 0) (some (0, mem)))
def X2_handsOut_e (p0 : Nat) (p2 : Nat) (p3 : Nat) (frec : Nat → Int32 → Nat → Nat → Mem → Option (Int32 × Mem)) (a1 : Int32) (mem : Mem) : Option (Int32 × Mem) := if a1 < (mem p0 3) then (cll (X3_readersOf p0 a1 mem) fun r2 m3 => if (r2 : Int32) = 0 then (cll (X3_firstCost p0 a1 m3) fun r5 m6 => X2_handsOut_b38 p0 p2 p3 frec fu a1 r5 0 m6) else (cll (frec p0 (a1 + 1) p2 p3 m3) fun r7 m8 => chk ((r7 : Int32) &&& 1 = r7) (some (r7, m8)))) else (chk ((1 : Int32) &&& 1 = 1) (some (1, mem)))
def X2_handsOut : Nat → Nat → Int32 → Nat → Nat → Mem → Option (Int32 × Mem)
  | 0 => fun _ _ _ _ _ => none
  | n + 1 => fun p0 a1 p2 p3 mem => X2_handsOut_e p0 p2 p3 (X2_handsOut n) a1 mem
def X2_handsOutAll (o : Nat) (p1 : Nat) (mem : Mem) : Option (Int32 × Mem) := cll (J7_fill_53178 (rf o 0) 0 mem) fun _ m2 => cll (J7_fill_53178 (rf o 1) (-1000000) m2) fun _ m4 => cll (X2_handsOut 12 p1 0 (rf o 0) (rf o 1) m4) fun r5 m6 => chk ((r5 : Int32) &&& 1 = r5) (some (r5, m6))
def X2_shortestDeadly_b66 (o : Nat) (p1 : Nat)  (k9 : Int32 → Int32 → Int32 → Int32 → Mem → Option (Int32 × Mem)) (x2 : Int32) (x3 : Int32) (x4 : Int32) (x5 : Int32) (mem : Mem) : Option (Int32 × Mem) := k9 x2 x3 x4 (x5 + 1) mem
def X2_shortestDeadly_b54 (o : Nat) (p1 : Nat)  (k9 : Int32 → Int32 → Int32 → Int32 → Mem → Option (Int32 × Mem)) (x2 : Int32) (x5 : Int32) (mem : Mem) : Option (Int32 × Mem) := ald mem (rf p1 5) x5 fun z10 => X2_shortestDeadly_b66 o p1 k9 x2 x5 z10 x5 mem
def X2_shortestDeadly_b9 (o : Nat) (p1 : Nat)   : Nat → Int32 → Int32 → Int32 → Int32 → Mem → Option (Int32 × Mem)
  | 0 => fun _ _ _ _ _ => none
  | n + 1 => fun x2 x3 x4 x5 mem => if x5 < (mem p1 3) then (cll (X3_costFor p1 x2 x5 mem) fun r2 m3 => cll (X3_survives p1 x2 r2 m3) fun r4 m5 => if (r4 : Int32) = 0 then (if (x3 : Int32) = (-1000000) then (X2_shortestDeadly_b54 o p1 (X2_shortestDeadly_b9 o p1 n) x2 x5 m5) else (ald m5 (rf p1 5) x5 fun z8 => if z8 < x4 then (X2_shortestDeadly_b54 o p1 (X2_shortestDeadly_b9 o p1 n) x2 x5 m5) else (X2_shortestDeadly_b66 o p1 (X2_shortestDeadly_b9 o p1 n) x2 x3 x4 x5 m5))) else (X2_shortestDeadly_b66 o p1 (X2_shortestDeadly_b9 o p1 n) x2 x3 x4 x5 m5)) else (some (x3, mem))
def X2_shortestDeadly (o : Nat) (p1 : Nat) (a2 : Int32) (mem : Mem) : Option (Int32 × Mem) := X2_shortestDeadly_b9 o p1 fu a2 (-1000000) 0 0 mem
def J6_bitCount_0f7a4 (a0 : Int32) (mem : Mem) : Option (Int32 × Mem) := some ((((((((a0 - ((((a0 : Int32).toUInt32 >>> ((1 : Int32).toUInt32 &&& Int32.toUInt32 31)).toInt32) &&& 1431655765)) &&& 858993459) + (((((a0 - ((((a0 : Int32).toUInt32 >>> ((1 : Int32).toUInt32 &&& Int32.toUInt32 31)).toInt32) &&& 1431655765)) : Int32).toUInt32 >>> ((2 : Int32).toUInt32 &&& Int32.toUInt32 31)).toInt32) &&& 858993459)) + ((((((a0 - ((((a0 : Int32).toUInt32 >>> ((1 : Int32).toUInt32 &&& Int32.toUInt32 31)).toInt32) &&& 1431655765)) &&& 858993459) + (((((a0 - ((((a0 : Int32).toUInt32 >>> ((1 : Int32).toUInt32 &&& Int32.toUInt32 31)).toInt32) &&& 1431655765)) : Int32).toUInt32 >>> ((2 : Int32).toUInt32 &&& Int32.toUInt32 31)).toInt32) &&& 858993459)) : Int32).toUInt32 >>> ((4 : Int32).toUInt32 &&& Int32.toUInt32 31)).toInt32)) &&& 252645135) + ((((((((a0 - ((((a0 : Int32).toUInt32 >>> ((1 : Int32).toUInt32 &&& Int32.toUInt32 31)).toInt32) &&& 1431655765)) &&& 858993459) + (((((a0 - ((((a0 : Int32).toUInt32 >>> ((1 : Int32).toUInt32 &&& Int32.toUInt32 31)).toInt32) &&& 1431655765)) : Int32).toUInt32 >>> ((2 : Int32).toUInt32 &&& Int32.toUInt32 31)).toInt32) &&& 858993459)) + ((((((a0 - ((((a0 : Int32).toUInt32 >>> ((1 : Int32).toUInt32 &&& Int32.toUInt32 31)).toInt32) &&& 1431655765)) &&& 858993459) + (((((a0 - ((((a0 : Int32).toUInt32 >>> ((1 : Int32).toUInt32 &&& Int32.toUInt32 31)).toInt32) &&& 1431655765)) : Int32).toUInt32 >>> ((2 : Int32).toUInt32 &&& Int32.toUInt32 31)).toInt32) &&& 858993459)) : Int32).toUInt32 >>> ((4 : Int32).toUInt32 &&& Int32.toUInt32 31)).toInt32)) &&& 252645135) : Int32).toUInt32 >>> ((8 : Int32).toUInt32 &&& Int32.toUInt32 31)).toInt32)) + (((((((((a0 - ((((a0 : Int32).toUInt32 >>> ((1 : Int32).toUInt32 &&& Int32.toUInt32 31)).toInt32) &&& 1431655765)) &&& 858993459) + (((((a0 - ((((a0 : Int32).toUInt32 >>> ((1 : Int32).toUInt32 &&& Int32.toUInt32 31)).toInt32) &&& 1431655765)) : Int32).toUInt32 >>> ((2 : Int32).toUInt32 &&& Int32.toUInt32 31)).toInt32) &&& 858993459)) + ((((((a0 - ((((a0 : Int32).toUInt32 >>> ((1 : Int32).toUInt32 &&& Int32.toUInt32 31)).toInt32) &&& 1431655765)) &&& 858993459) + (((((a0 - ((((a0 : Int32).toUInt32 >>> ((1 : Int32).toUInt32 &&& Int32.toUInt32 31)).toInt32) &&& 1431655765)) : Int32).toUInt32 >>> ((2 : Int32).toUInt32 &&& Int32.toUInt32 31)).toInt32) &&& 858993459)) : Int32).toUInt32 >>> ((4 : Int32).toUInt32 &&& Int32.toUInt32 31)).toInt32)) &&& 252645135) + ((((((((a0 - ((((a0 : Int32).toUInt32 >>> ((1 : Int32).toUInt32 &&& Int32.toUInt32 31)).toInt32) &&& 1431655765)) &&& 858993459) + (((((a0 - ((((a0 : Int32).toUInt32 >>> ((1 : Int32).toUInt32 &&& Int32.toUInt32 31)).toInt32) &&& 1431655765)) : Int32).toUInt32 >>> ((2 : Int32).toUInt32 &&& Int32.toUInt32 31)).toInt32) &&& 858993459)) + ((((((a0 - ((((a0 : Int32).toUInt32 >>> ((1 : Int32).toUInt32 &&& Int32.toUInt32 31)).toInt32) &&& 1431655765)) &&& 858993459) + (((((a0 - ((((a0 : Int32).toUInt32 >>> ((1 : Int32).toUInt32 &&& Int32.toUInt32 31)).toInt32) &&& 1431655765)) : Int32).toUInt32 >>> ((2 : Int32).toUInt32 &&& Int32.toUInt32 31)).toInt32) &&& 858993459)) : Int32).toUInt32 >>> ((4 : Int32).toUInt32 &&& Int32.toUInt32 31)).toInt32)) &&& 252645135) : Int32).toUInt32 >>> ((8 : Int32).toUInt32 &&& Int32.toUInt32 31)).toInt32)) : Int32).toUInt32 >>> ((16 : Int32).toUInt32 &&& Int32.toUInt32 31)).toInt32)) &&& 63, mem)
def X3_costOfAll_b33 (o : Nat)  (k5 : Int32 → Int32 → Int32 → Int32 → Mem → Option (Int32 × Mem)) (x1 : Int32) (x2 : Int32) (x3 : Int32) (x4 : Int32) (mem : Mem) : Option (Int32 × Mem) := k5 x1 x2 x3 (x4 + 1) mem
def X3_costOfAll_b5 (o : Nat)   : Nat → Int32 → Int32 → Int32 → Int32 → Mem → Option (Int32 × Mem)
  | 0 => fun _ _ _ _ _ => none
  | n + 1 => fun x1 x2 x3 x4 mem => if x4 < (mem o 3) then (cll (X6_inSet x2 x4 mem) fun r2 m3 => if (r2 : Int32) = 0 then (X3_costOfAll_b33 o (X3_costOfAll_b5 o n) x1 x2 x3 x4 m3) else (cll (X3_costFor o x1 x4 m3) fun r5 m6 => X3_costOfAll_b33 o (X3_costOfAll_b5 o n) x1 x2 (x3 + r5) x4 m6)) else (some (x3, mem))
def X3_costOfAll (o : Nat) (a1 : Int32) (a2 : Int32) (mem : Mem) : Option (Int32 × Mem) := X3_costOfAll_b5 o fu a1 a2 0 0 mem
def X2_smallestDeadlySet_b62 (o : Nat) (p1 : Nat)  (k10 : Int32 → Int32 → Int32 → Int32 → Mem → Option (Int32 × Mem)) (x2 : Int32) (x3 : Int32) (x4 : Int32) (x5 : Int32) (mem : Mem) : Option (Int32 × Mem) := k10 x2 x3 x4 (x5 + 1) mem
def X2_smallestDeadlySet_b10 (o : Nat) (p1 : Nat)   : Nat → Int32 → Int32 → Int32 → Int32 → Mem → Option (Int32 × Mem)
  | 0 => fun _ _ _ _ _ => none
  | n + 1 => fun x2 x3 x4 x5 mem => if x5 < (1 <<< ((mem p1 3) &&& 31)) then (cll (J6_bitCount_0f7a4 x5 mem) fun r2 m3 => if r2 < x4 then (cll (X3_costOfAll p1 x2 x5 m3) fun r5 m6 => cll (X3_survives p1 x2 r5 m6) fun r7 m8 => if (r7 : Int32) = 0 then (cll (J6_bitCount_0f7a4 x5 m8) fun r10 m11 => X2_smallestDeadlySet_b62 o p1 (X2_smallestDeadlySet_b10 o p1 n) x2 x5 r10 x5 m11) else (X2_smallestDeadlySet_b62 o p1 (X2_smallestDeadlySet_b10 o p1 n) x2 x3 x4 x5 m8)) else (X2_smallestDeadlySet_b62 o p1 (X2_smallestDeadlySet_b10 o p1 n) x2 x3 x4 x5 m3)) else (some (x3, mem))
def X2_smallestDeadlySet (o : Nat) (p1 : Nat) (a2 : Int32) (mem : Mem) : Option (Int32 × Mem) := X2_smallestDeadlySet_b10 o p1 fu a2 (-1000000) 7 0 mem
def X2_fewestToCross_b3 (o : Nat) (p1 : Nat)   : Nat → Int32 → Int32 → Int32 → Mem → Option (Int32 × Mem)
  | 0 => fun _ _ _ _ => none
  | n + 1 => fun x2 x3 x4 mem => ald mem (rf p1 5) x3 fun z1 => if x4 < z1 then (ald mem (rf p1 5) x3 fun z3 => cll (X3_costFor_ p1 x2 x3 (z3 - x4) mem) fun r4 m5 => cll (X3_survives p1 x2 r4 m5) fun r6 m7 => if (r6 : Int32) = 0 then (X2_fewestToCross_b3 o p1 n x2 x3 (x4 + 1) m7) else (some (x4, m7))) else (some ((-1000000), mem))
def X2_fewestToCross (o : Nat) (p1 : Nat) (a2 : Int32) (a3 : Int32) (mem : Mem) : Option (Int32 × Mem) := X2_fewestToCross_b3 o p1 fu a2 a3 0 mem
def X3_firstCostOf_b28 (o : Nat)  (k4 : Int32 → Int32 → Int32 → Mem → Option (Int32 × Mem)) (x1 : Int32) (x2 : Int32) (x3 : Int32) (mem : Mem) : Option (Int32 × Mem) := k4 x1 x2 (x3 + 1) mem
def X3_firstCostOf_b4 (o : Nat)   : Nat → Int32 → Int32 → Int32 → Mem → Option (Int32 × Mem)
  | 0 => fun _ _ _ _ => none
  | n + 1 => fun x1 x2 x3 mem => if x3 < (mem o 3) then (cll (X6_inSet x1 x3 mem) fun r2 m3 => if (r2 : Int32) = 0 then (X3_firstCostOf_b28 o (X3_firstCostOf_b4 o n) x1 x2 x3 m3) else (cll (X3_firstCost o x3 m3) fun r5 m6 => X3_firstCostOf_b28 o (X3_firstCostOf_b4 o n) x1 (x2 + r5) x3 m6)) else (some (x2, mem))
def X3_firstCostOf (o : Nat) (a1 : Int32) (mem : Mem) : Option (Int32 × Mem) := X3_firstCostOf_b4 o fu a1 0 0 mem
def X2_setsThatCost_b29 (o : Nat) (p1 : Nat)  (k5 : Int32 → Int32 → Int32 → Mem → Option (Int32 × Mem)) (x2 : Int32) (x3 : Int32) (x4 : Int32) (mem : Mem) : Option (Int32 × Mem) := k5 x2 x3 (x4 + 1) mem
def X2_setsThatCost_b5 (o : Nat) (p1 : Nat)   : Nat → Int32 → Int32 → Int32 → Mem → Option (Int32 × Mem)
  | 0 => fun _ _ _ _ => none
  | n + 1 => fun x2 x3 x4 mem => if x4 < (1 <<< ((mem p1 3) &&& 31)) then (cll (X3_firstCostOf p1 x4 mem) fun r2 m3 => if r2 = x2 then (X2_setsThatCost_b29 o p1 (X2_setsThatCost_b5 o p1 n) x2 (x3 + 1) x4 m3) else (X2_setsThatCost_b29 o p1 (X2_setsThatCost_b5 o p1 n) x2 x3 x4 m3)) else (some (x3, mem))
def X2_setsThatCost (o : Nat) (p1 : Nat) (a2 : Int32) (mem : Mem) : Option (Int32 × Mem) := X2_setsThatCost_b5 o p1 fu a2 0 0 mem
def X2_leastSetThatCosts_b2 (o : Nat) (p1 : Nat)   : Nat → Int32 → Int32 → Mem → Option (Int32 × Mem)
  | 0 => fun _ _ _ => none
  | n + 1 => fun x2 x3 mem => if x3 < (1 <<< ((mem p1 3) &&& 31)) then (cll (X3_firstCostOf p1 x3 mem) fun r2 m3 => if r2 = x2 then (some (x3, m3)) else (X2_leastSetThatCosts_b2 o p1 n x2 (x3 + 1) m3)) else (some ((-1000000), mem))
def X2_leastSetThatCosts (o : Nat) (p1 : Nat) (a2 : Int32) (mem : Mem) : Option (Int32 × Mem) := X2_leastSetThatCosts_b2 o p1 fu a2 0 mem
def X2_noReadingYet (o : Nat) (mem : Mem) : Option (Unit × Mem) := cll (J7_fill_53178 (rf o 2) 0 mem) fun _ m2 => ast m2 (rf o 2) 0 1 fun m3 => some ((), m3)
def X2_tellAge_b81 (o : Nat) (p1 : Nat)  (k4 : Int32 → Int32 → Int32 → Mem → Option (Unit × Mem)) (k30 : Int32 → Int32 → Int32 → Int32 → Int32 → Mem → Option (Unit × Mem)) (x2 : Int32) (x3 : Int32) (x4 : Int32) (x5 : Int32) (x6 : Int32) (mem : Mem) : Option (Unit × Mem) := k30 x2 x3 x4 x5 (x6 + 1) mem
def X2_tellAge_b30 (o : Nat) (p1 : Nat)  (k4 : Int32 → Int32 → Int32 → Mem → Option (Unit × Mem)) : Nat → Int32 → Int32 → Int32 → Int32 → Int32 → Mem → Option (Unit × Mem)
  | 0 => fun _ _ _ _ _ _ => none
  | n + 1 => fun x2 x3 x4 x5 x6 mem => if x6 < (mem p1 3) then (cll (X6_inSet x4 x6 mem) fun r6 m7 => if (r6 : Int32) = 0 then (X2_tellAge_b81 o p1 k4 (X2_tellAge_b30 o p1 k4 n) x2 x3 x4 x5 x6 m7) else (cll (X3_firstCost p1 x6 m7) fun r9 m10 => if (x2 + r9) = x3 then (ald m10 (rf o 2) (x4 - (1 <<< (x6 &&& 31))) fun z12 => X2_tellAge_b81 o p1 k4 (X2_tellAge_b30 o p1 k4 n) x2 x3 x4 (x5 + z12) x6 m10) else (X2_tellAge_b81 o p1 k4 (X2_tellAge_b30 o p1 k4 n) x2 x3 x4 x5 x6 m10))) else (ast mem (rf o 2) x4 x5 fun m5 => k4 x2 x3 (x4 + (-1)) m5)
def X2_tellAge_b25 (o : Nat) (p1 : Nat)  (k4 : Int32 → Int32 → Int32 → Mem → Option (Unit × Mem)) (x2 : Int32) (x3 : Int32) (x4 : Int32) (s0 : Int32) (mem : Mem) : Option (Unit × Mem) := X2_tellAge_b30 o p1 k4 fu x2 x3 x4 s0 0 mem
def X2_tellAge_b4 (o : Nat) (p1 : Nat)   : Nat → Int32 → Int32 → Int32 → Mem → Option (Unit × Mem)
  | 0 => fun _ _ _ _ => none
  | n + 1 => fun x2 x3 x4 mem => if (x4 : Int32) < 0 then (some ((), mem)) else (if x2 = x3 then (ald mem (rf o 2) x4 fun z3 => X2_tellAge_b25 o p1 (X2_tellAge_b4 o p1 n) x2 x3 x4 z3 mem) else (X2_tellAge_b25 o p1 (X2_tellAge_b4 o p1 n) x2 x3 x4 0 mem))
def X2_tellAge (o : Nat) (p1 : Nat) (a2 : Int32) (a3 : Int32) (mem : Mem) : Option (Unit × Mem) := X2_tellAge_b4 o p1 fu a2 a3 63 mem
def X2_waysToRead_b4 (o : Nat)   : Nat → Int32 → Int32 → Mem → Option (Int32 × Mem)
  | 0 => fun _ _ _ => none
  | n + 1 => fun x1 x2 mem => if (x2 : Int32) < 64 then (ald mem (rf o 2) x2 fun z2 => X2_waysToRead_b4 o n (x1 + z2) (x2 + 1) mem) else (some (x1, mem))
def X2_waysToRead (o : Nat) (mem : Mem) : Option (Int32 × Mem) := X2_waysToRead_b4 o fu 0 0 mem
def X3_unreadDueAhead_b36 (o : Nat)  (k4 : Int32 → Int32 → Int32 → Mem → Option (Int32 × Mem)) (x1 : Int32) (x2 : Int32) (x3 : Int32) (mem : Mem) : Option (Int32 × Mem) := k4 x1 x2 (x3 + 1) mem
def X3_unreadDueAhead_b4 (o : Nat)   : Nat → Int32 → Int32 → Int32 → Mem → Option (Int32 × Mem)
  | 0 => fun _ _ _ _ => none
  | n + 1 => fun x1 x2 x3 mem => if x3 < (mem o 3) then (cll (X3_readersOf o x3 mem) fun r2 m3 => if (r2 : Int32) = 0 then (ald m3 (rf o 6) x3 fun z5 => if z5 < x1 then (X3_unreadDueAhead_b36 o (X3_unreadDueAhead_b4 o n) x1 (x2 ||| (1 <<< (x3 &&& 31))) x3 m3) else (X3_unreadDueAhead_b36 o (X3_unreadDueAhead_b4 o n) x1 x2 x3 m3)) else (X3_unreadDueAhead_b36 o (X3_unreadDueAhead_b4 o n) x1 x2 x3 m3)) else (some (x2, mem))
def X3_unreadDueAhead (o : Nat) (a1 : Int32) (mem : Mem) : Option (Int32 × Mem) := X3_unreadDueAhead_b4 o fu a1 0 0 mem
def X3_unreadLetters (o : Nat) (mem : Mem) : Option (Int32 × Mem) := cll (X3_unreadDueAhead o 100 mem) fun r1 m2 => some (r1, m2)
def X2_power_b5 (o : Nat)   : Nat → Int32 → Int32 → Int32 → Int32 → Mem → Option (Int32 × Mem)
  | 0 => fun _ _ _ _ _ => none
  | n + 1 => fun x1 x2 x3 x4 mem => if x4 < x2 then (X2_power_b5 o n x1 x2 (x3 * x1) (x4 + 1) mem) else (some (x3, mem))
def X2_power (o : Nat) (a1 : Int32) (a2 : Int32) (mem : Mem) : Option (Int32 × Mem) := X2_power_b5 o fu a1 a2 1 0 mem
def X2_weightOfSurviving_b86 (o : Nat) (p1 : Nat)  (k12 : Int32 → Int32 → Int32 → Int32 → Int32 → Mem → Option (Int32 × Mem)) (x2 : Int32) (x3 : Int32) (x4 : Int32) (x5 : Int32) (x6 : Int32) (mem : Mem) : Option (Int32 × Mem) := k12 x2 x3 x4 x5 (x6 + 1) mem
def X2_weightOfSurviving_b12 (o : Nat) (p1 : Nat)   : Nat → Int32 → Int32 → Int32 → Int32 → Int32 → Mem → Option (Int32 × Mem)
  | 0 => fun _ _ _ _ _ _ => none
  | n + 1 => fun x2 x3 x4 x5 x6 mem => if x6 < (1 <<< ((mem p1 3) &&& 31)) then (if ((x6 &&& (x4 ^^^ (-1))) : Int32) = 0 then (cll (X3_costOfAll p1 x2 x6 mem) fun r5 m6 => cll (X3_survives p1 x2 r5 m6) fun r7 m8 => if (r7 : Int32) = 0 then (X2_weightOfSurviving_b86 o p1 (X2_weightOfSurviving_b12 o p1 n) x2 x3 x4 x5 x6 m8) else (cll (J6_bitCount_0f7a4 x6 m8) fun r10 m11 => cll (X2_power o (10 - x3) r10 m11) fun r12 m13 => cll (J6_bitCount_0f7a4 (x4 - x6) m13) fun r14 m15 => cll (X2_power o x3 r14 m15) fun r16 m17 => X2_weightOfSurviving_b86 o p1 (X2_weightOfSurviving_b12 o p1 n) x2 x3 x4 (x5 + (r12 * r16)) x6 m17)) else (X2_weightOfSurviving_b86 o p1 (X2_weightOfSurviving_b12 o p1 n) x2 x3 x4 x5 x6 mem)) else (some (x5, mem))
def X2_weightOfSurviving (o : Nat) (p1 : Nat) (a2 : Int32) (a3 : Int32) (mem : Mem) : Option (Int32 × Mem) := cll (X3_unreadLetters p1 mem) fun r1 m2 => X2_weightOfSurviving_b12 o p1 fu a2 a3 r1 0 0 m2
def X2_commonDivisor_b8 (o : Nat)   : Nat → Int32 → Int32 → Int32 → Mem → Option (Int32 × Mem)
  | 0 => fun _ _ _ _ => none
  | n + 1 => fun x3 x4 x5 mem => if (x5 : Int32) < 64 then (if 0 < (x4 : Int32) then (chk (¬ (x4 : Int32) = 0) <| X2_commonDivisor_b8 o n x4 (x3 - x3 / x4 * x4) (x5 + 1) mem) else (some (x3, mem))) else (some (x3, mem))
def X2_commonDivisor (o : Nat) (a1 : Int32) (a2 : Int32) (mem : Mem) : Option (Int32 × Mem) := X2_commonDivisor_b8 o fu a2 a1 0 mem
def X3_clear (o : Nat) (mem : Mem) : Option (Unit × Mem) := chk ((0 : Int32) &&& 1 = 0) <| cll (J7_fill_53178 (rf o 11) 0 (st2 (st2 (st2 (st2 (st2 mem o 0 0) o 1 0) o 2 0) o 3 0) o 7 0)) fun _ m7 => cll (J7_fill_53178 (rf o 12) 0 m7) fun _ m9 => some ((), m9)
def X3_becomes (o : Nat) (p1 : Nat) (mem : Mem) : Option (Unit × Mem) := chk (((mem p1 0) : Int32) &&& 1 = (mem p1 0)) <| acp (st2 (st2 (st2 (st2 mem o 0 (mem p1 0)) o 1 ((st2 mem o 0 (mem p1 0)) p1 1)) o 2 ((st2 (st2 mem o 0 (mem p1 0)) o 1 ((st2 mem o 0 (mem p1 0)) p1 1)) p1 2)) o 3 ((st2 (st2 (st2 mem o 0 (mem p1 0)) o 1 ((st2 mem o 0 (mem p1 0)) p1 1)) o 2 ((st2 (st2 mem o 0 (mem p1 0)) o 1 ((st2 mem o 0 (mem p1 0)) p1 1)) p1 2)) p1 3)) (rf p1 4) 0 (rf o 4) 0 6 fun m5 => acp m5 (rf p1 5) 0 (rf o 5) 0 6 fun m6 => acp m6 (rf p1 6) 0 (rf o 6) 0 6 fun m7 => acp (st2 m7 o 7 (m7 p1 7)) (rf p1 8) 0 (rf o 8) 0 4 fun m9 => acp m9 (rf p1 9) 0 (rf o 9) 0 4 fun m10 => acp m10 (rf p1 10) 0 (rf o 10) 0 4 fun m11 => acp m11 (rf p1 11) 0 (rf o 11) 0 4 fun m12 => acp m12 (rf p1 12) 0 (rf o 12) 0 24 fun m13 => some ((), m13)
def X3_addLetter (o : Nat) (a1 : Int32) (a2 : Int32) (a3 : Int32) (mem : Mem) : Option (Unit × Mem) := ast mem (rf o 4) (mem o 3) a1 fun m1 => ast m1 (rf o 5) (m1 o 3) a2 fun m2 => ast m2 (rf o 6) (m2 o 3) a3 fun m3 => some ((), (st2 m3 o 3 ((m3 o 3) + 1)))
def X3_addReader (o : Nat) (a1 : Int32) (a2 : Int32) (mem : Mem) : Option (Unit × Mem) := ast mem (rf o 8) (mem o 7) a1 fun m1 => ast m1 (rf o 9) (m1 o 7) a1 fun m2 => ast m2 (rf o 10) (m2 o 7) a2 fun m3 => some ((), (st2 m3 o 7 ((m3 o 7) + 1)))
def X3_hasLetter (o : Nat) (a1 : Int32) (mem : Mem) : Option (Int32 × Mem) := if (a1 : Int32) < 0 then (chk ((0 : Int32) &&& 1 = 0) (some (0, mem))) else (if a1 < (mem o 3) then (chk ((1 : Int32) &&& 1 = 1) (some (1, mem))) else (chk ((0 : Int32) &&& 1 = 0) (some (0, mem))))
def X3_hasReader (o : Nat) (a1 : Int32) (mem : Mem) : Option (Int32 × Mem) := if (a1 : Int32) < 0 then (chk ((0 : Int32) &&& 1 = 0) (some (0, mem))) else (if a1 < (mem o 7) then (chk ((1 : Int32) &&& 1 = 1) (some (1, mem))) else (chk ((0 : Int32) &&& 1 = 0) (some (0, mem))))
def X3_hasReaders (o : Nat) (a1 : Int32) (mem : Mem) : Option (Int32 × Mem) := if (a1 : Int32) < 0 then (chk ((0 : Int32) &&& 1 = 0) (some (0, mem))) else (if a1 < (1 <<< ((mem o 7) &&& 31)) then (chk ((1 : Int32) &&& 1 = 1) (some (1, mem))) else (chk ((0 : Int32) &&& 1 = 0) (some (0, mem))))
def X3_areAlive_b28 (o : Nat)  (k2 : Int32 → Int32 → Mem → Option (Int32 × Mem)) (x1 : Int32) (x2 : Int32) (mem : Mem) : Option (Int32 × Mem) := k2 x1 (x2 + 1) mem
def X3_areAlive_b2 (o : Nat)   : Nat → Int32 → Int32 → Mem → Option (Int32 × Mem)
  | 0 => fun _ _ _ => none
  | n + 1 => fun x1 x2 mem => if x2 < (mem o 7) then (cll (X6_inSet x1 x2 mem) fun r2 m3 => if (r2 : Int32) = 0 then (X3_areAlive_b28 o (X3_areAlive_b2 o n) x1 x2 m3) else (cll (X3_isAlive o x2 m3) fun r5 m6 => if (r5 : Int32) = 0 then (chk ((0 : Int32) &&& 1 = 0) (some (0, m6))) else (X3_areAlive_b28 o (X3_areAlive_b2 o n) x1 x2 m6))) else (chk ((1 : Int32) &&& 1 = 1) (some (1, mem)))
def X3_areAlive (o : Nat) (a1 : Int32) (mem : Mem) : Option (Int32 × Mem) := X3_areAlive_b2 o fu a1 0 mem
def X3_howManyFit_b23 (o : Nat)  (k4 : Int32 → Int32 → Mem → Option (Int32 × Mem)) (x1 : Int32) (x2 : Int32) (mem : Mem) : Option (Int32 × Mem) := k4 x1 (x2 + 1) mem
def X3_howManyFit_b4 (o : Nat)   : Nat → Int32 → Int32 → Mem → Option (Int32 × Mem)
  | 0 => fun _ _ _ => none
  | n + 1 => fun x1 x2 mem => if x2 < (mem o 7) then (cll (X3_isFit o x2 mem) fun r2 m3 => if (r2 : Int32) = 0 then (X3_howManyFit_b23 o (X3_howManyFit_b4 o n) x1 x2 m3) else (X3_howManyFit_b23 o (X3_howManyFit_b4 o n) (x1 + 1) x2 m3)) else (some (x1, mem))
def X3_howManyFit (o : Nat) (mem : Mem) : Option (Int32 × Mem) := X3_howManyFit_b4 o fu 0 0 mem
def X3_lettersReadBy_b27 (o : Nat)  (k4 : Int32 → Int32 → Int32 → Mem → Option (Int32 × Mem)) (x1 : Int32) (x2 : Int32) (x3 : Int32) (mem : Mem) : Option (Int32 × Mem) := k4 x1 x2 (x3 + 1) mem
def X3_lettersReadBy_b4 (o : Nat)   : Nat → Int32 → Int32 → Int32 → Mem → Option (Int32 × Mem)
  | 0 => fun _ _ _ _ => none
  | n + 1 => fun x1 x2 x3 mem => if x3 < (mem o 3) then (cll (X3_hasRead o x1 x3 mem) fun r2 m3 => if (r2 : Int32) = 0 then (X3_lettersReadBy_b27 o (X3_lettersReadBy_b4 o n) x1 x2 x3 m3) else (X3_lettersReadBy_b27 o (X3_lettersReadBy_b4 o n) x1 (x2 ||| (1 <<< (x3 &&& 31))) x3 m3)) else (some (x2, mem))
def X3_lettersReadBy (o : Nat) (a1 : Int32) (mem : Mem) : Option (Int32 × Mem) := X3_lettersReadBy_b4 o fu a1 0 0 mem
def X4_isRow (o : Nat) (a1 : Int32) (mem : Mem) : Option (Int32 × Mem) := if (a1 : Int32) < 0 then (chk ((0 : Int32) &&& 1 = 0) (some (0, mem))) else (if (a1 : Int32) < 8 then (chk ((1 : Int32) &&& 1 = 1) (some (1, mem))) else (chk ((0 : Int32) &&& 1 = 0) (some (0, mem))))
def X4_isLane (o : Nat) (a1 : Int32) (mem : Mem) : Option (Int32 × Mem) := if (a1 : Int32) < 0 then (chk ((0 : Int32) &&& 1 = 0) (some (0, mem))) else (if 2 < (a1 : Int32) then (chk ((0 : Int32) &&& 1 = 0) (some (0, mem))) else (chk ((1 : Int32) &&& 1 = 1) (some (1, mem))))
def X4_isMissing (o : Nat) (a1 : Int32) (mem : Mem) : Option (Int32 × Mem) := ald mem (rf o 0) a1 fun z1 => if (z1 : Int32) = (-1) then (chk ((1 : Int32) &&& 1 = 1) (some (1, mem))) else (chk ((0 : Int32) &&& 1 = 0) (some (0, mem)))
def X4_haveOneLane (o : Nat) (a1 : Int32) (a2 : Int32) (mem : Mem) : Option (Int32 × Mem) := ald mem (rf o 0) a1 fun z1 => ald mem (rf o 0) a2 fun z2 => if z1 = z2 then (chk ((1 : Int32) &&& 1 = 1) (some (1, mem))) else (chk ((0 : Int32) &&& 1 = 0) (some (0, mem)))
def X4_hasPlaces (o : Nat) (a1 : Int32) (a2 : Int32) (a3 : Int32) (mem : Mem) : Option (Int32 × Mem) := if (a2 : Int32) < 0 then (chk ((0 : Int32) &&& 1 = 0) (some (0, mem))) else (if (a3 : Int32) < 0 then (chk ((0 : Int32) &&& 1 = 0) (some (0, mem))) else (ald mem (rf o 1) a1 fun z3 => if z3 < a2 then (chk ((0 : Int32) &&& 1 = 0) (some (0, mem))) else (ald mem (rf o 1) a1 fun z5 => if (z5 - a2) < a3 then (chk ((0 : Int32) &&& 1 = 0) (some (0, mem))) else (chk ((1 : Int32) &&& 1 = 1) (some (1, mem))))))
def X4_make_b17 (o : Nat)   : Nat → Int32 → Int32 → Int32 → Mem → Option (Unit × Mem)
  | 0 => fun _ _ _ _ => none
  | n + 1 => fun x1 x3 x4 mem => if x4 < x3 then (ast mem (rf o 2) ((x1 * 40) + x4) 0 fun m4 => X4_make_b17 o n x1 x3 (x4 + 1) m4) else (some ((), mem))
def X4_make (o : Nat) (a1 : Int32) (a2 : Int32) (a3 : Int32) (mem : Mem) : Option (Unit × Mem) := ast mem (rf o 0) a1 a2 fun m1 => ast m1 (rf o 1) a1 a3 fun m2 => X4_make_b17 o fu a1 a3 0 m2
def X4_put_b30 (o : Nat)   (x1 : Int32) (x2 : Int32) (x4 : Int32) (mem : Mem) : Option (Int32 × Mem) := ast mem (rf o 2) ((x1 * 40) + x2) x4 fun m5 => some (x4, m5)
def X4_put_b16 (o : Nat)   (x1 : Int32) (x2 : Int32) (x3 : Int32) (x4 : Int32) (mem : Mem) : Option (Int32 × Mem) := ald mem (rf o 0) x1 fun z3 => if (z3 : Int32) = 1 then (X4_put_b30 o x1 x2 ((x3 : Int32).toInt16.toInt32) mem) else (X4_put_b30 o x1 x2 x4 mem)
def X4_put (o : Nat) (a1 : Int32) (a2 : Int32) (a3 : Int32) (mem : Mem) : Option (Int32 × Mem) := ald mem (rf o 0) a1 fun z1 => if (z1 : Int32) = 0 then (X4_put_b16 o a1 a2 a3 ((a3 : Int32).toInt8.toInt32) mem) else (X4_put_b16 o a1 a2 a3 a3 mem)
def X4_item (o : Nat) (a1 : Int32) (a2 : Int32) (mem : Mem) : Option (Int32 × Mem) := ald mem (rf o 2) ((a1 * 40) + a2) fun z1 => some (z1, mem)
def X4_move (o : Nat) (a1 : Int32) (a2 : Int32) (a3 : Int32) (a4 : Int32) (a5 : Int32) (mem : Mem) : Option (Unit × Mem) := acp mem (rf o 2) ((a1 * 40) + a2) (rf o 2) ((a3 * 40) + a4) a5 fun m1 => some ((), m1)
def X4_remove (o : Nat) (a1 : Int32) (mem : Mem) : Option (Int32 × Mem) := ast mem (rf o 0) a1 (-1) fun m1 => ald m1 (rf o 1) a1 fun z2 => some (z2, m1)
def X4_present_b21 (o : Nat)  (k4 : Int32 → Int32 → Mem → Option (Int32 × Mem)) (x1 : Int32) (x2 : Int32) (mem : Mem) : Option (Int32 × Mem) := k4 x1 (x2 + 1) mem
def X4_present_b4 (o : Nat)   : Nat → Int32 → Int32 → Mem → Option (Int32 × Mem)
  | 0 => fun _ _ _ => none
  | n + 1 => fun x1 x2 mem => if (x2 : Int32) < 8 then (cll (X4_isMissing o x2 mem) fun r2 m3 => if (r2 : Int32) = 0 then (X4_present_b21 o (X4_present_b4 o n) (x1 + 1) x2 m3) else (X4_present_b21 o (X4_present_b4 o n) x1 x2 m3)) else (some (x1, mem))
def X4_present (o : Nat) (mem : Mem) : Option (Int32 × Mem) := X4_present_b4 o fu 0 0 mem
def X5_isFull (o : Nat) (mem : Mem) : Option (Int32 × Mem) := if ((mem o 1) : Int32) < 120 then (chk ((0 : Int32) &&& 1 = 0) (some (0, mem))) else (chk ((1 : Int32) &&& 1 = 1) (some (1, mem)))
def X5_append (o : Nat) (a1 : Int32) (mem : Mem) : Option (Int32 × Mem) := ast mem (rf o 0) (mem o 1) a1 fun m1 => some ((st2 m1 o 1 ((m1 o 1) + 1)) o 1, (st2 m1 o 1 ((m1 o 1) + 1)))
def X5_empty (o : Nat) (mem : Mem) : Option (Unit × Mem) := some ((), (st2 mem o 1 0))
def X5_takeSign (o : Nat) (a1 : Int32) (mem : Mem) : Option (Int32 × Mem) := if (mem o 2) < (mem o 1) then (ald mem (rf o 0) (mem o 2) fun z2 => if z2 = a1 then (some (0, (st2 mem o 2 ((mem o 2) + 1)))) else (some (1, mem))) else (some (1, mem))
def X5_isFigure (a0 : Int32) (mem : Mem) : Option (Int32 × Mem) := if (a0 : Int32) < 48 then (chk ((0 : Int32) &&& 1 = 0) (some (0, mem))) else (if 57 < (a0 : Int32) then (chk ((0 : Int32) &&& 1 = 0) (some (0, mem))) else (chk ((1 : Int32) &&& 1 = 1) (some (1, mem))))
def X5_takeNumber_b71 (o : Nat)   (x1 : Int32) (x2 : Int32) (x3 : Int32) (mem : Mem) : Option (Int32 × Mem) := if (x3 : Int32) = 0 then (some (1, mem)) else (if 3 < (x3 : Int32) then (some (1, mem)) else (if (mem o 3) < x1 then (some (2, mem)) else (if x2 < (mem o 3) then (some (2, mem)) else (some (0, (st2 mem o 2 ((mem o 2) + x3)))))))
def X5_takeNumber_b13 (o : Nat)   : Nat → Int32 → Int32 → Int32 → Int32 → Mem → Option (Int32 × Mem)
  | 0 => fun _ _ _ _ _ => none
  | n + 1 => fun x1 x2 x3 x4 mem => if x4 < (mem o 1) then (ald mem (rf o 0) x4 fun z3 => cll (X5_isFigure z3 mem) fun r4 m5 => if (r4 : Int32) = 0 then (X5_takeNumber_b71 o x1 x2 x3 m5) else (if 3 < (x3 : Int32) then (X5_takeNumber_b71 o x1 x2 x3 m5) else (ald m5 (rf o 0) x4 fun z8 => X5_takeNumber_b13 o n x1 x2 (x3 + 1) (x4 + 1) (st2 m5 o 3 ((((m5 o 3) * 10) + z8) - 48))))) else (X5_takeNumber_b71 o x1 x2 x3 mem)
def X5_takeNumber (o : Nat) (a1 : Int32) (a2 : Int32) (mem : Mem) : Option (Int32 × Mem) := X5_takeNumber_b13 o fu a1 a2 0 ((st2 mem o 3 0) o 2) (st2 mem o 3 0)
def X5_readLaw_b20 (o : Nat) (p1 : Nat)   (x2 : Int32) (mem : Mem) : Option (Int32 × Mem) := if (x2 : Int32) = 0 then (cll (X5_takeSign o 59 (st2 mem p1 1 (mem o 3))) fun r8 m9 => some (r8, m9)) else (some (x2, (st2 mem p1 1 (mem o 3))))
def X5_readLaw (o : Nat) (p1 : Nat) (mem : Mem) : Option (Int32 × Mem) := cll (X5_takeSign o 111 mem) fun r1 m2 => if (r1 : Int32) = 0 then (cll (X5_takeNumber o 1 999 m2) fun r4 m5 => X5_readLaw_b20 o p1 r4 m5) else (X5_readLaw_b20 o p1 r1 m2)
def X5_readReader_b76 (o : Nat) (p1 : Nat)   (x2 : Int32) (x3 : Int32) (x4 : Int32) (mem : Mem) : Option (Int32 × Mem) := if (x2 : Int32) = 0 then (cll (X3_addReader p1 x3 x4 mem) fun _ m16 => some (x2, m16)) else (some (x2, mem))
def X5_readReader_b59 (o : Nat) (p1 : Nat)   (x2 : Int32) (x3 : Int32) (mem : Mem) : Option (Int32 × Mem) := if (x2 : Int32) = 0 then (cll (X5_takeSign o 59 mem) fun r12 m13 => X5_readReader_b76 o p1 r12 x3 (mem o 3) m13) else (X5_readReader_b76 o p1 x2 x3 (mem o 3) mem)
def X5_readReader_b44 (o : Nat) (p1 : Nat)   (x2 : Int32) (x3 : Int32) (mem : Mem) : Option (Int32 × Mem) := if (x2 : Int32) = 0 then (cll (X5_takeNumber o (x3 + 1) 999 mem) fun r9 m10 => X5_readReader_b59 o p1 r9 x3 m10) else (X5_readReader_b59 o p1 x2 x3 mem)
def X5_readReader (o : Nat) (p1 : Nat) (mem : Mem) : Option (Int32 × Mem) := if ((mem p1 7) : Int32) < 4 then (cll (X5_takeNumber o 0 99 (st2 mem o 2 ((mem o 2) + 1))) fun r3 m4 => if (r3 : Int32) = 0 then (cll (X5_takeSign o 44 m4) fun r6 m7 => X5_readReader_b44 o p1 r6 (m4 o 3) m7) else (X5_readReader_b44 o p1 r3 (m4 o 3) m4)) else (some (3, mem))
def X5_kindAtPlace (o : Nat) (mem : Mem) : Option (Int32 × Mem) := ald mem (rf o 0) (mem o 2) fun z1 => if (z1 : Int32) = 102 then (some (4, mem)) else if (z1 : Int32) = 108 then (some (3, mem)) else if (z1 : Int32) = 112 then (some (1, mem)) else if (z1 : Int32) = 115 then (some (5, mem)) else if (z1 : Int32) = 118 then (some (2, mem)) else (some (0, mem))
def X5_readLetter_b93 (o : Nat) (p1 : Nat)   (x2 : Int32) (x3 : Int32) (x4 : Int32) (x5 : Int32) (mem : Mem) : Option (Int32 × Mem) := if (x3 : Int32) = 0 then (cll (X3_addLetter p1 x2 x4 x5 mem) fun _ m20 => some (x3, m20)) else (some (x3, mem))
def X5_readLetter_b76 (o : Nat) (p1 : Nat)   (x2 : Int32) (x3 : Int32) (x4 : Int32) (mem : Mem) : Option (Int32 × Mem) := if (x3 : Int32) = 0 then (cll (X5_takeSign o 59 mem) fun r16 m17 => X5_readLetter_b93 o p1 x2 r16 x4 (mem o 3) m17) else (X5_readLetter_b93 o p1 x2 x3 x4 (mem o 3) mem)
def X5_readLetter_b64 (o : Nat) (p1 : Nat)   (x2 : Int32) (x3 : Int32) (x4 : Int32) (mem : Mem) : Option (Int32 × Mem) := if (x3 : Int32) = 0 then (cll (X5_takeNumber o 1 99 mem) fun r13 m14 => X5_readLetter_b76 o p1 x2 r13 x4 m14) else (X5_readLetter_b76 o p1 x2 x3 x4 mem)
def X5_readLetter (o : Nat) (p1 : Nat) (mem : Mem) : Option (Int32 × Mem) := cll (X5_kindAtPlace o mem) fun r1 m2 => if (r1 : Int32) = 0 then (some (1, m2)) else (if 0 < ((m2 p1 7) : Int32) then (some (1, m2)) else (if ((m2 p1 3) : Int32) < 6 then (cll (X5_takeNumber o 1 40 (st2 m2 o 2 ((m2 o 2) + 1))) fun r7 m8 => if (r7 : Int32) = 0 then (cll (X5_takeSign o 44 m8) fun r10 m11 => X5_readLetter_b64 o p1 r1 r10 (m8 o 3) m11) else (X5_readLetter_b64 o p1 r1 r7 (m8 o 3) m8)) else (some (3, m2))))
def X5_readInto_b72 (o : Nat) (p1 : Nat)   (x2 : Int32) (mem : Mem) : Option (Int32 × Mem) := if (x2 : Int32) = 0 then (chk ((1 : Int32) &&& 1 = 1) <| some (x2, (st2 mem p1 0 1))) else (chk ((0 : Int32) &&& 1 = 0) <| some (x2, (st2 mem p1 0 0)))
def X5_readInto_b65 (o : Nat) (p1 : Nat)  (k17 : Int32 → Int32 → Mem → Option (Int32 × Mem)) (x3 : Int32) (s0 : Int32) (mem : Mem) : Option (Int32 × Mem) := k17 s0 (x3 + 1) mem
def X5_readInto_b17 (o : Nat) (p1 : Nat)   : Nat → Int32 → Int32 → Mem → Option (Int32 × Mem)
  | 0 => fun _ _ _ => none
  | n + 1 => fun x2 x3 mem => if (x3 : Int32) < 120 then (if (x2 : Int32) = 0 then (if (mem o 2) < (mem o 1) then (ald mem (rf o 0) (mem o 2) fun z9 => if (z9 : Int32) = 114 then (cll (X5_readReader o p1 mem) fun r13 m14 => X5_readInto_b65 o p1 (X5_readInto_b17 o p1 n) x3 r13 m14) else (cll (X5_readLetter o p1 mem) fun r11 m12 => X5_readInto_b65 o p1 (X5_readInto_b17 o p1 n) x3 r11 m12)) else (X5_readInto_b72 o p1 x2 mem)) else (X5_readInto_b72 o p1 x2 mem)) else (X5_readInto_b72 o p1 x2 mem)
def X5_readInto (o : Nat) (p1 : Nat) (mem : Mem) : Option (Int32 × Mem) := cll (X3_clear p1 mem) fun _ m2 => cll (X5_readLaw o p1 (st2 m2 o 2 0)) fun r4 m5 => X5_readInto_b17 o p1 fu r4 0 m5
def X6_found (o : Nat) (a1 : Int32) (mem : Mem) : Option (Int32 × Mem) := some ((-1000010) - a1, (st2 mem o 10 a1))
def X6_foundNothing (o : Nat) (a1 : Int32) (mem : Mem) : Option (Int32 × Mem) := some (a1, (st2 mem o 10 0))
def X6_row (o : Nat) (a1 : Int32) (a2 : Int32) (a3 : Int32) (mem : Mem) : Option (Int32 × Mem) := cll (X4_isRow (rf o 0) a1 mem) fun r1 m2 => if (r1 : Int32) = 0 then (some ((-1000001), m2)) else (cll (X4_isLane (rf o 0) a2 m2) fun r4 m5 => if (r4 : Int32) = 0 then (some ((-1000001), m5)) else (if 40 < (a3 : Int32) then (some ((-1000001), m5)) else (if (a3 : Int32) < 0 then (cll (X6_found o 4 m5) fun r13 m14 => some (r13, m14)) else (cll (X4_make (rf o 0) a1 a2 a3 m5) fun _ m10 => cll (X6_foundNothing o a3 m10) fun r11 m12 => some (r11, m12)))))
def X6_set (o : Nat) (a1 : Int32) (a2 : Int32) (a3 : Int32) (mem : Mem) : Option (Int32 × Mem) := cll (X4_isRow (rf o 0) a1 mem) fun r1 m2 => if (r1 : Int32) = 0 then (some ((-1000001), m2)) else (cll (X4_isMissing (rf o 0) a1 m2) fun r4 m5 => if (r4 : Int32) = 0 then (cll (X4_hasPlaces (rf o 0) a1 a2 1 m5) fun r7 m8 => if (r7 : Int32) = 0 then (cll (X6_found o 2 m8) fun r14 m15 => some (r14, m15)) else (cll (X4_put (rf o 0) a1 a2 a3 m8) fun r10 m11 => cll (X6_foundNothing o r10 m11) fun r12 m13 => some (r12, m13))) else (cll (X6_found o 1 m5) fun r16 m17 => some (r16, m17)))
def X6_copy_b47 (o : Nat)    (mem : Mem) : Option (Int32 × Mem) := cll (X6_found o 1 mem) fun r28 m29 => some (r28, m29)
def X6_copy_b100 (o : Nat)    (mem : Mem) : Option (Int32 × Mem) := cll (X6_found o 2 mem) fun r30 m31 => some (r30, m31)
def X6_copy (o : Nat) (a1 : Int32) (a2 : Int32) (a3 : Int32) (a4 : Int32) (a5 : Int32) (mem : Mem) : Option (Int32 × Mem) := cll (X4_isRow (rf o 0) a1 mem) fun r1 m2 => if (r1 : Int32) = 0 then (some ((-1000001), m2)) else (cll (X4_isRow (rf o 0) a3 m2) fun r4 m5 => if (r4 : Int32) = 0 then (some ((-1000001), m5)) else (cll (X4_isMissing (rf o 0) a1 m5) fun r7 m8 => if (r7 : Int32) = 0 then (cll (X4_isMissing (rf o 0) a3 m8) fun r10 m11 => if (r10 : Int32) = 0 then (cll (X4_haveOneLane (rf o 0) a1 a3 m11) fun r13 m14 => if (r13 : Int32) = 0 then (cll (X6_found o 5 m14) fun r26 m27 => some (r26, m27)) else (cll (X4_hasPlaces (rf o 0) a1 a2 a5 m14) fun r16 m17 => if (r16 : Int32) = 0 then (X6_copy_b100 o  m17) else (cll (X4_hasPlaces (rf o 0) a3 a4 a5 m17) fun r19 m20 => if (r19 : Int32) = 0 then (X6_copy_b100 o  m20) else (cll (X4_move (rf o 0) a1 a2 a3 a4 a5 m20) fun _ m23 => cll (X6_foundNothing o a5 m23) fun r24 m25 => some (r24, m25))))) else (X6_copy_b47 o  m11)) else (X6_copy_b47 o  m8)))
def X6_drop (o : Nat) (a1 : Int32) (mem : Mem) : Option (Int32 × Mem) := cll (X4_isRow (rf o 0) a1 mem) fun r1 m2 => if (r1 : Int32) = 0 then (some ((-1000001), m2)) else (cll (X4_isMissing (rf o 0) a1 m2) fun r4 m5 => if (r4 : Int32) = 0 then (cll (X4_remove (rf o 0) a1 m5) fun r7 m8 => cll (X6_foundNothing o r7 m8) fun r9 m10 => some (r9, m10)) else (cll (X6_found o 1 m5) fun r11 m12 => some (r11, m12)))
def X6_feed (o : Nat) (a1 : Int32) (mem : Mem) : Option (Int32 × Mem) := if (a1 : Int32) < 0 then (some ((-1000001), mem)) else (if 255 < (a1 : Int32) then (some ((-1000001), mem)) else (cll (X5_isFull (rf o 1) mem) fun r3 m4 => if (r3 : Int32) = 0 then (cll (X5_append (rf o 1) a1 m4) fun r6 m7 => some (r6, m7)) else (some ((-1000003), m4))))
def X6_office (o : Nat) (mem : Mem) : Option (Int32 × Mem) := cll (X5_readInto (rf o 1) (rf o 3) mem) fun r1 m2 => cll (X5_empty (rf o 1) m2) fun _ m4 => if (r1 : Int32) = 0 then (cll (X3_becomes (rf o 2) (rf o 3) m4) fun _ m7 => cll (X0_forgetAll (rf o 6) m7) fun _ m9 => some (m9 (rf o 2) 7, m9)) else (some ((-1000100) - ((st2 m4 o 9 r1) (rf o 1) 2), (st2 m4 o 9 r1)))
def X6_fault (o : Nat) (mem : Mem) : Option (Int32 × Mem) := some (mem o 9, mem)
def X6_read (o : Nat) (a1 : Int32) (a2 : Int32) (mem : Mem) : Option (Int32 × Mem) := cll (X3_hasReader (rf o 2) a1 mem) fun r1 m2 => if (r1 : Int32) = 0 then (some ((-1000001), m2)) else (cll (X3_hasLetter (rf o 2) a2 m2) fun r4 m5 => if (r4 : Int32) = 0 then (some ((-1000001), m5)) else (cll (X3_isFit (rf o 2) a1 m5) fun r7 m8 => if (r7 : Int32) = 0 then (some ((-1000002), m8)) else (cll (X0_letRead (rf o 6) (rf o 2) a1 a2 0 m8) fun _ m11 => ald m11 (rf (rf o 2) 9) a1 fun z12 => some (z12, m11))))
def X6_aloud (o : Nat) (a1 : Int32) (a2 : Int32) (a3 : Int32) (mem : Mem) : Option (Int32 × Mem) := cll (X3_hasReader (rf o 2) a1 mem) fun r1 m2 => if (r1 : Int32) = 0 then (some ((-1000001), m2)) else (cll (X3_hasLetter (rf o 2) a3 m2) fun r4 m5 => if (r4 : Int32) = 0 then (some ((-1000001), m5)) else (cll (X3_hasReaders (rf o 2) a2 m5) fun r7 m8 => if (r7 : Int32) = 0 then (some ((-1000001), m8)) else (cll (X6_inSet a2 a1 m8) fun r10 m11 => if (r10 : Int32) = 0 then (cll (X3_isFit (rf o 2) a1 m11) fun r13 m14 => if (r13 : Int32) = 0 then (some ((-1000002), m14)) else (cll (X3_areAlive (rf o 2) a2 m14) fun r16 m17 => if (r16 : Int32) = 0 then (some ((-1000002), m17)) else (cll (X0_letRead (rf o 6) (rf o 2) a1 a3 a2 m17) fun _ m20 => ald m20 (rf (rf o 2) 9) a1 fun z21 => some (z21, m20)))) else (some ((-1000001), m11)))))
def X6_cross (o : Nat) (a1 : Int32) (a2 : Int32) (mem : Mem) : Option (Int32 × Mem) := cll (X3_hasLetter (rf o 2) a1 mem) fun r1 m2 => if (r1 : Int32) = 0 then (some ((-1000001), m2)) else (if (a2 : Int32) < 1 then (some ((-1000001), m2)) else (if (a2 : Int32) < 40 then (ald m2 (rf (rf o 2) 5) a1 fun z6 => if a2 < z6 then (cll (X0_letCross (rf o 6) (rf o 2) a1 a2 m2) fun _ m9 => ald m9 (rf (rf o 2) 5) a1 fun z10 => some (z10, m9)) else (some ((-1000002), m2))) else (some ((-1000001), m2))))
def X6_day (o : Nat) (mem : Mem) : Option (Int32 × Mem) := if ((mem (rf o 2) 0) : Int32) = 0 then (some ((-1000002), mem)) else (if ((mem (rf o 2) 2) : Int32) < 999 then (cll (X0_letDayGo (rf o 6) (rf o 2) mem) fun _ m4 => some (m4 (rf o 2) 2, m4)) else (some ((-1000003), mem)))
def X6_undo (o : Nat) (mem : Mem) : Option (Int32 × Mem) := if ((mem (rf o 6) 8) : Int32) = 0 then (some ((-1000002), mem)) else (cll (X0_takeBack (rf o 6) (rf o 2) mem) fun _ m3 => some (m3 (rf o 6) 8, m3))
def X6_reader (o : Nat) (a1 : Int32) (a2 : Int32) (mem : Mem) : Option (Int32 × Mem) := cll (X3_hasReader (rf o 2) a1 mem) fun r1 m2 => if (r1 : Int32) = 0 then (some ((-1000001), m2)) else (if (a2 : Int32) = 0 then (ald m2 (rf (rf o 2) 9) a1 fun z5 => some (z5, m2)) else if (a2 : Int32) = 1 then (ald m2 (rf (rf o 2) 10) a1 fun z7 => some (z7, m2)) else if (a2 : Int32) = 2 then (cll (X3_isAlive (rf o 2) a1 m2) fun r9 m10 => if (r9 : Int32) = 0 then (some (0, m10)) else (some (1, m10))) else if (a2 : Int32) = 3 then (cll (X3_isFit (rf o 2) a1 m2) fun r13 m14 => if (r13 : Int32) = 0 then (some (0, m14)) else (some (1, m14))) else if (a2 : Int32) = 4 then (cll (X3_lettersReadBy (rf o 2) a1 m2) fun r17 m18 => some (r17, m18)) else if (a2 : Int32) = 5 then (ald m2 (rf (rf o 2) 11) a1 fun z20 => some (z20, m2)) else (some ((-1000001), m2)))
def X6_letter (o : Nat) (a1 : Int32) (a2 : Int32) (mem : Mem) : Option (Int32 × Mem) := cll (X3_hasLetter (rf o 2) a1 mem) fun r1 m2 => if (r1 : Int32) = 0 then (some ((-1000001), m2)) else (if (a2 : Int32) = 0 then (ald m2 (rf (rf o 2) 5) a1 fun z5 => some (z5, m2)) else if (a2 : Int32) = 1 then (ald m2 (rf (rf o 2) 6) a1 fun z7 => some (z7, m2)) else if (a2 : Int32) = 2 then (cll (X3_timesReadByAll (rf o 2) a1 m2) fun r9 m10 => some (r9, m10)) else if (a2 : Int32) = 3 then (cll (X3_readersOf (rf o 2) a1 m2) fun r12 m13 => some (r12, m13)) else (some ((-1000001), m2)))
def X6_costs (o : Nat) (a1 : Int32) (a2 : Int32) (mem : Mem) : Option (Int32 × Mem) := cll (X3_hasReader (rf o 2) a1 mem) fun r1 m2 => if (r1 : Int32) = 0 then (some ((-1000001), m2)) else (cll (X3_hasLetter (rf o 2) a2 m2) fun r4 m5 => if (r4 : Int32) = 0 then (some ((-1000001), m5)) else (cll (X3_costFor (rf o 2) a1 a2 m5) fun r7 m8 => some (r7, m8)))
def X6_best (o : Nat) (a1 : Int32) (mem : Mem) : Option (Int32 × Mem) := cll (X3_hasLetter (rf o 2) a1 mem) fun r1 m2 => if (r1 : Int32) = 0 then (some ((-1000001), m2)) else (cll (X2_bestReader (rf o 7) (rf o 2) a1 m2) fun r4 m5 => some (r4, m5))
def X6_allRead_b32 (o : Nat)   (x1 : Int32) (mem : Mem) : Option (Int32 × Mem) := cll (X2_handsOutAll (rf o 7) (rf o 2) mem) fun r6 m7 => if (r6 : Int32) = 0 then (some ((-1000000), m7)) else (if (x1 : Int32) = (-1) then (cll (X3_unreadLetters (rf o 2) m7) fun r11 m12 => cll (X3_firstCostOf (rf o 2) r11 m12) fun r13 m14 => some (r13, m14)) else (ald m7 (rf (rf o 7) 1) x1 fun z10 => some (z10, m7)))
def X6_allRead (o : Nat) (a1 : Int32) (mem : Mem) : Option (Int32 × Mem) := if ((mem (rf o 2) 0) : Int32) = 0 then (some ((-1000002), mem)) else (if (a1 : Int32) = (-1) then (X6_allRead_b32 o a1 mem) else (cll (X3_hasLetter (rf o 2) a1 mem) fun r3 m4 => if (r3 : Int32) = 0 then (some ((-1000001), m4)) else (X6_allRead_b32 o a1 m4)))
def X6_isChoice_b9     (mem : Mem) : Option (Int32 × Mem) := chk ((1 : Int32) &&& 1 = 1) (some (1, mem))
def X6_isChoice (a0 : Int32) (mem : Mem) : Option (Int32 × Mem) := if (a0 : Int32) = 0 then (X6_isChoice_b9  mem) else (if (a0 : Int32) = 1 then (X6_isChoice_b9  mem) else (chk ((0 : Int32) &&& 1 = 0) (some (0, mem))))
def X6_bestAloud (o : Nat) (a1 : Int32) (a2 : Int32) (mem : Mem) : Option (Int32 × Mem) := cll (X3_hasLetter (rf o 2) a1 mem) fun r1 m2 => if (r1 : Int32) = 0 then (some ((-1000001), m2)) else (cll (X6_isChoice a2 m2) fun r4 m5 => if (r4 : Int32) = 0 then (some ((-1000001), m5)) else (cll (X2_bestReaderAloud (rf o 7) (rf o 2) a1 m5) fun r7 m8 => if (r7 : Int32) = (-1000000) then (some (r7, m8)) else (if (a2 : Int32) = 0 then (some (r7, m8)) else (cll (X2_spentAloud (rf o 7) (rf o 2) r7 a1 m8) fun r11 m12 => some (r11, m12)))))
def X6_kills (o : Nat) (a1 : Int32) (mem : Mem) : Option (Int32 × Mem) := cll (X3_hasReader (rf o 2) a1 mem) fun r1 m2 => if (r1 : Int32) = 0 then (some ((-1000001), m2)) else (cll (X3_isAlive (rf o 2) a1 m2) fun r4 m5 => if (r4 : Int32) = 0 then (some ((-1000002), m5)) else (cll (X2_shortestDeadly (rf o 7) (rf o 2) a1 m5) fun r7 m8 => some (r7, m8)))
def X6_post (o : Nat) (a1 : Int32) (a2 : Int32) (mem : Mem) : Option (Int32 × Mem) := cll (X3_hasReader (rf o 2) a1 mem) fun r1 m2 => if (r1 : Int32) = 0 then (some ((-1000001), m2)) else (cll (X6_isChoice a2 m2) fun r4 m5 => if (r4 : Int32) = 0 then (some ((-1000001), m5)) else (cll (X3_isAlive (rf o 2) a1 m5) fun r7 m8 => if (r7 : Int32) = 0 then (some ((-1000002), m8)) else (cll (X2_smallestDeadlySet (rf o 7) (rf o 2) a1 m8) fun r10 m11 => if (r10 : Int32) = (-1000000) then (some (r10, m11)) else (if (a2 : Int32) = 1 then (some (r10, m11)) else (cll (J6_bitCount_0f7a4 r10 m11) fun r14 m15 => some (r14, m15))))))
def X6_crossOut (o : Nat) (a1 : Int32) (a2 : Int32) (mem : Mem) : Option (Int32 × Mem) := cll (X3_hasReader (rf o 2) a1 mem) fun r1 m2 => if (r1 : Int32) = 0 then (some ((-1000001), m2)) else (cll (X3_hasLetter (rf o 2) a2 m2) fun r4 m5 => if (r4 : Int32) = 0 then (some ((-1000001), m5)) else (cll (X3_isAlive (rf o 2) a1 m5) fun r7 m8 => if (r7 : Int32) = 0 then (some ((-1000002), m8)) else (cll (X2_fewestToCross (rf o 7) (rf o 2) a1 a2 m8) fun r10 m11 => some (r10, m11))))
def X6_dies (o : Nat) (a1 : Int32) (mem : Mem) : Option (Int32 × Mem) := cll (X3_hasReader (rf o 2) a1 mem) fun r1 m2 => if (r1 : Int32) = 0 then (some ((-1000001), m2)) else (cll (X3_isAlive (rf o 2) a1 m2) fun r4 m5 => if (r4 : Int32) = 0 then (some ((-1000000), m5)) else (ald m5 (rf (rf o 2) 10) a1 fun z7 => ald m5 (rf (rf o 2) 9) a1 fun z8 => some (((m5 (rf o 2) 2) + z7) - z8, m5)))
def X6_late (o : Nat) (a1 : Int32) (mem : Mem) : Option (Int32 × Mem) := if ((mem (rf o 2) 0) : Int32) = 0 then (some ((-1000002), mem)) else (if (a1 : Int32) < 0 then (some ((-1000001), mem)) else (if 99 < (a1 : Int32) then (some ((-1000001), mem)) else (cll (X3_unreadDueAhead (rf o 2) ((mem (rf o 2) 2) + a1) mem) fun r4 m5 => some (r4, m5))))
def X6_soOld (o : Nat) (a1 : Int32) (a2 : Int32) (a3 : Int32) (mem : Mem) : Option (Int32 × Mem) := cll (X3_hasReader (rf o 2) a1 mem) fun r1 m2 => if (r1 : Int32) = 0 then (some ((-1000001), m2)) else (if (a2 : Int32) < 0 then (some ((-1000001), m2)) else (if 999 < (a2 : Int32) then (some ((-1000001), m2)) else (cll (X6_isChoice a3 m2) fun r6 m7 => if (r6 : Int32) = 0 then (some ((-1000001), m7)) else (ald m7 (rf (rf o 2) 8) a1 fun z9 => if (a3 : Int32) = 0 then (cll (X2_setsThatCost (rf o 7) (rf o 2) ((a2 - z9) - (m7 (rf o 2) 2)) m7) fun r13 m14 => some (r13, m14)) else (cll (X2_leastSetThatCosts (rf o 7) (rf o 2) ((a2 - z9) - (m7 (rf o 2) 2)) m7) fun r11 m12 => some (r11, m12))))))
def X6_ages_b96 (o : Nat)   : Nat → Int32 → Int32 → Int32 → Int32 → Int32 → Mem → Option (Int32 × Mem)
  | 0 => fun _ _ _ _ _ _ => none
  | n + 1 => fun x2 x3 x4 x5 x6 mem => if x6 < x4 then (cll (X4_item (rf o 0) x2 (x3 + x6) mem) fun r27 m28 => cll (X2_tellAge (rf o 7) (rf o 2) x5 r27 m28) fun _ m30 => X6_ages_b96 o n x2 x3 x4 (r27 + 1) (x6 + 1) m30) else (cll (X2_waysToRead (rf o 7) mem) fun r23 m24 => cll (X6_foundNothing o r23 m24) fun r25 m26 => some (r25, m26))
def X6_ages (o : Nat) (a1 : Int32) (a2 : Int32) (a3 : Int32) (a4 : Int32) (mem : Mem) : Option (Int32 × Mem) := cll (X3_hasReader (rf o 2) a1 mem) fun r1 m2 => if (r1 : Int32) = 0 then (some ((-1000001), m2)) else (cll (X4_isRow (rf o 0) a2 m2) fun r4 m5 => if (r4 : Int32) = 0 then (some ((-1000001), m5)) else (if (a4 : Int32) < 1 then (some ((-1000001), m5)) else (if 6 < (a4 : Int32) then (some ((-1000001), m5)) else (cll (X4_isMissing (rf o 0) a2 m5) fun r9 m10 => if (r9 : Int32) = 0 then (cll (X4_hasPlaces (rf o 0) a2 a3 a4 m10) fun r12 m13 => if (r12 : Int32) = 0 then (cll (X6_found o 2 m13) fun r18 m19 => some (r18, m19)) else (cll (X2_noReadingYet (rf o 7) m13) fun _ m16 => ald m16 (rf (rf o 2) 8) a1 fun z17 => X6_ages_b96 o fu a2 a3 a4 z17 0 m16)) else (cll (X6_found o 1 m10) fun r20 m21 => some (r20, m21))))))
def X6_burnt_b105 (o : Nat)   (x6 : Int32) (s0 : Int32) (mem : Mem) : Option (Int32 × Mem) := if 1 < (x6 : Int32) then (chk (¬ (x6 : Int32) = 0) <| some (s0 / x6, mem)) else (some (s0, mem))
def X6_burnt (o : Nat) (a1 : Int32) (a2 : Int32) (a3 : Int32) (mem : Mem) : Option (Int32 × Mem) := cll (X3_hasReader (rf o 2) a1 mem) fun r1 m2 => if (r1 : Int32) = 0 then (some ((-1000001), m2)) else (if (a2 : Int32) < 0 then (some ((-1000001), m2)) else (if 10 < (a2 : Int32) then (some ((-1000001), m2)) else (cll (X6_isChoice a3 m2) fun r6 m7 => if (r6 : Int32) = 0 then (some ((-1000001), m7)) else (cll (X3_isAlive (rf o 2) a1 m7) fun r9 m10 => if (r9 : Int32) = 0 then (some ((-1000002), m10)) else (cll (X2_weightOfSurviving (rf o 7) (rf o 2) a1 a2 m10) fun r12 m13 => cll (X3_unreadLetters (rf o 2) m13) fun r14 m15 => cll (J6_bitCount_0f7a4 r14 m15) fun r16 m17 => cll (X2_power (rf o 7) 10 r16 m17) fun r18 m19 => cll (X2_commonDivisor (rf o 7) r12 r18 m19) fun r20 m21 => if (a3 : Int32) = 0 then (X6_burnt_b105 o r20 r12 m21) else (X6_burnt_b105 o r20 r18 m21))))))
def X6_imageNumbered (o : Nat) (a1 : Int32) (mem : Mem) : Option (Nat × Mem) := if (a1 : Int32) = 0 then (some ((rf o 4), mem)) else (some ((rf o 5), mem))
def X6_image (o : Nat) (a1 : Int32) (mem : Mem) : Option (Int32 × Mem) := cll (X6_isChoice a1 mem) fun r1 m2 => if (r1 : Int32) = 0 then (some ((-1000001), m2)) else (if ((m2 (rf o 2) 0) : Int32) = 0 then (some ((-1000002), m2)) else (cll (X6_imageNumbered o a1 m2) fun r5 m6 => chk (kd r5 = 3) <| cll (X3_becomes r5 (rf o 2) m6) fun _ m9 => some (1, m9)))
def X6_restore (o : Nat) (a1 : Int32) (mem : Mem) : Option (Int32 × Mem) := cll (X6_isChoice a1 mem) fun r1 m2 => if (r1 : Int32) = 0 then (some ((-1000001), m2)) else (cll (X6_imageNumbered o a1 m2) fun r4 m5 => chk (kd r4 = 3) <| if ((m5 r4 0) : Int32) = 0 then (some ((-1000002), m5)) else (cll (X6_imageNumbered o a1 m5) fun r8 m9 => chk (kd r8 = 3) <| cll (X3_becomes (rf o 2) r8 m9) fun _ m12 => cll (X0_forgetAll (rf o 6) m12) fun _ m14 => some (1, m14)))
def X6_kind (o : Nat) (a1 : Int32) (mem : Mem) : Option (Int32 × Mem) := cll (X3_hasLetter (rf o 2) a1 mem) fun r1 m2 => if (r1 : Int32) = 0 then (some ((-1000001), m2)) else (ald m2 (rf (rf o 2) 4) a1 fun z4 => some (z4, m2))
def X6_isKindOf_b26     (mem : Mem) : Option (Int32 × Mem) := chk ((1 : Int32) &&& 1 = 1) (some (1, mem))
def X6_isKindOf (a0 : Int32) (a1 : Int32) (mem : Mem) : Option (Int32 × Mem) := if (a1 : Int32) = 0 then (chk ((1 : Int32) &&& 1 = 1) (some (1, mem))) else (if a0 = a1 then (chk ((1 : Int32) &&& 1 = 1) (some (1, mem))) else (if (a1 : Int32) = 1 then (if (a0 : Int32) = 2 then (X6_isKindOf_b26  mem) else (if (a0 : Int32) = 3 then (X6_isKindOf_b26  mem) else (chk ((0 : Int32) &&& 1 = 0) (some (0, mem))))) else (if (a1 : Int32) = 4 then (if (a0 : Int32) = 5 then (chk ((1 : Int32) &&& 1 = 1) (some (1, mem))) else (chk ((0 : Int32) &&& 1 = 0) (some (0, mem)))) else (chk ((0 : Int32) &&& 1 = 0) (some (0, mem))))))
def X6_as (o : Nat) (a1 : Int32) (a2 : Int32) (mem : Mem) : Option (Int32 × Mem) := cll (X3_hasLetter (rf o 2) a1 mem) fun r1 m2 => if (r1 : Int32) = 0 then (some ((-1000001), m2)) else (if (a2 : Int32) < 0 then (some ((-1000001), m2)) else (if 5 < (a2 : Int32) then (some ((-1000001), m2)) else (ald m2 (rf (rf o 2) 4) a1 fun z6 => cll (X6_isKindOf z6 a2 m2) fun r7 m8 => if (r7 : Int32) = 0 then (cll (X6_found o 3 m8) fun r12 m13 => some (r12, m13)) else (cll (X6_foundNothing o a1 m8) fun r10 m11 => some (r10, m11)))))
def X6_ask (o : Nat) (a1 : Int32) (a2 : Int32) (mem : Mem) : Option (Int32 × Mem) := cll (X3_hasLetter (rf o 2) a1 mem) fun r1 m2 => if (r1 : Int32) = 0 then (some ((-1000001), m2)) else (cll (X6_isChoice a2 m2) fun r4 m5 => if (r4 : Int32) = 0 then (some ((-1000001), m5)) else (cll (X1_answer (rf o 8) (rf o 2) a1 a2 m5) fun r7 m8 => some (r7, m8)))
def X6_trace (o : Nat) (a1 : Int32) (mem : Mem) : Option (Int32 × Mem) := if (a1 : Int32) < 0 then (some ((-1000000), mem)) else (if a1 < (mem (rf o 8) 1) then (ald mem (rf (rf o 8) 0) a1 fun z3 => some (z3, mem)) else (some ((-1000000), mem)))
def X6_count (o : Nat) (a1 : Int32) (mem : Mem) : Option (Int32 × Mem) := if (a1 : Int32) = 0 then (cll (X4_present (rf o 0) mem) fun r2 m3 => some (r2, m3)) else if (a1 : Int32) = 1 then (some (mem (rf o 2) 3, mem)) else if (a1 : Int32) = 2 then (some (mem (rf o 2) 7, mem)) else if (a1 : Int32) = 3 then (some (mem (rf o 2) 2, mem)) else if (a1 : Int32) = 4 then (cll (X3_howManyAlive (rf o 2) mem) fun r8 m9 => some (r8, m9)) else if (a1 : Int32) = 5 then (cll (X3_howManyFit (rf o 2) mem) fun r11 m12 => some (r11, m12)) else if (a1 : Int32) = 6 then (cll (X3_unreadLetters (rf o 2) mem) fun r14 m15 => cll (J6_bitCount_0f7a4 r14 m15) fun r16 m17 => some (r16, m17)) else if (a1 : Int32) = 7 then (some (mem (rf o 6) 8, mem)) else if (a1 : Int32) = 8 then (some (mem (rf o 1) 1, mem)) else (some ((-1000001), mem))
def X6_status (o : Nat) (mem : Mem) : Option (Int32 × Mem) := some (mem o 10, mem)
def X7_in (l0 : Int64) (l2 : Int64) (l4 : Int64) (mem : Mem) : Option (Int32 × Mem) := if (lg_cmp l0 l2) < 0 then (chk ((0 : Int32) &&& 1 = 0) (some (0, mem))) else (if 0 < (lg_cmp l0 l4) then (chk ((0 : Int32) &&& 1 = 0) (some (0, mem))) else (chk ((1 : Int32) &&& 1 = 1) (some (1, mem))))
def X7_has (a0 : Int32) (a1 : Int32) (mem : Mem) : Option (Int32 × Mem) := if (((a0 >>> (a1 &&& 31)) &&& 1) : Int32) = 1 then (chk ((1 : Int32) &&& 1 = 1) (some (1, mem))) else (chk ((0 : Int32) &&& 1 = 0) (some (0, mem)))
def X7_finds (o : Nat) (a1 : Int32) (mem : Mem) : Option (Int32 × Mem) := some ((-1000010) - a1, (st2 mem o 3 a1))
def X7_tells (o : Nat) (a1 : Int32) (mem : Mem) : Option (Int32 × Mem) := some (a1, (st2 mem o 3 0))
def X7_isRow (a0 : Int32) (mem : Mem) : Option (Int32 × Mem) := cll (X7_in ((a0 : Int32).toInt64) 0 7 mem) fun r1 m2 => chk ((r1 : Int32) &&& 1 = r1) (some (r1, m2))
def X7_row_b55 (o : Nat)   : Nat → Int32 → Int32 → Int32 → Mem → Option (Int32 × Mem)
  | 0 => fun _ _ _ _ => none
  | n + 1 => fun x1 x3 x4 mem => if (x4 : Int32) < 40 then (ast mem (rf o 2) ((40 * x1) + x4) 0 fun m16 => X7_row_b55 o n x1 x3 (x4 + 1) m16) else (cll (X7_tells o x3 mem) fun r14 m15 => some (r14, m15))
def X7_row (o : Nat) (a1 : Int32) (a2 : Int32) (a3 : Int32) (mem : Mem) : Option (Int32 × Mem) := cll (X7_isRow a1 mem) fun r1 m2 => if (r1 : Int32) = 0 then (some ((-1000001), m2)) else (cll (X7_in ((a2 : Int32).toInt64) 0 2 m2) fun r4 m5 => if (r4 : Int32) = 0 then (some ((-1000001), m5)) else (if 40 < (a3 : Int32) then (some ((-1000001), m5)) else (if (a3 : Int32) < 0 then (cll (X7_finds o 4 m5) fun r11 m12 => some (r11, m12)) else (ast m5 (rf o 0) a1 a2 fun m9 => ast m9 (rf o 1) a1 a3 fun m10 => X7_row_b55 o fu a1 a3 0 m10))))
def X7_cutTo (a0 : Int32) (a1 : Int32) (mem : Mem) : Option (Int32 × Mem) := if (a0 : Int32) = 0 then (some ((a1 <<< (24 &&& 31)) >>> (24 &&& 31), mem)) else (if (a0 : Int32) = 1 then (some ((a1 <<< (16 &&& 31)) >>> (16 &&& 31), mem)) else (some (a1, mem)))
def X7_set (o : Nat) (a1 : Int32) (a2 : Int32) (a3 : Int32) (mem : Mem) : Option (Int32 × Mem) := cll (X7_isRow a1 mem) fun r1 m2 => if (r1 : Int32) = 0 then (some ((-1000001), m2)) else (ald m2 (rf o 1) a1 fun z4 => if (z4 : Int32) < 0 then (cll (X7_finds o 1 m2) fun r19 m20 => some (r19, m20)) else (ald m2 (rf o 1) a1 fun z6 => cll (X7_in ((a2 : Int32).toInt64) 0 ((z6 - 1 : Int32).toInt64) m2) fun r7 m8 => if (r7 : Int32) = 0 then (cll (X7_finds o 2 m8) fun r17 m18 => some (r17, m18)) else (ald m8 (rf o 0) a1 fun z10 => cll (X7_cutTo z10 a3 m8) fun r11 m12 => ast m12 (rf o 2) ((40 * a1) + a2) r11 fun m13 => ald m13 (rf o 2) ((40 * a1) + a2) fun z14 => cll (X7_tells o z14 m13) fun r15 m16 => some (r15, m16))))
def X7_copy_b35 (o : Nat)    (mem : Mem) : Option (Int32 × Mem) := cll (X7_finds o 1 mem) fun r23 m24 => some (r23, m24)
def X7_copy_b111 (o : Nat)    (mem : Mem) : Option (Int32 × Mem) := cll (X7_finds o 2 mem) fun r25 m26 => some (r25, m26)
def X7_copy_b157 (o : Nat)   : Nat → Int32 → Int32 → Int32 → Int32 → Mem → Option (Int32 × Mem)
  | 0 => fun _ _ _ _ _ => none
  | n + 1 => fun x3 x4 x5 x6 mem => if x6 < x5 then (ald mem (rf o 4) x6 fun z33 => ast mem (rf o 2) (((40 * x3) + x4) + x6) z33 fun m34 => X7_copy_b157 o n x3 x4 x5 (x6 + 1) m34) else (cll (X7_tells o x5 mem) fun r31 m32 => some (r31, m32))
def X7_copy_b120 (o : Nat)   : Nat → Int32 → Int32 → Int32 → Int32 → Int32 → Int32 → Mem → Option (Int32 × Mem)
  | 0 => fun _ _ _ _ _ _ _ => none
  | n + 1 => fun x1 x2 x3 x4 x5 x6 mem => if x6 < x5 then (ald mem (rf o 2) (((40 * x1) + x2) + x6) fun z28 => ast mem (rf o 4) x6 z28 fun m29 => X7_copy_b120 o n x1 x2 x3 x4 x5 (x6 + 1) m29) else (X7_copy_b157 o fu x3 x4 x5 0 mem)
def X7_copy (o : Nat) (a1 : Int32) (a2 : Int32) (a3 : Int32) (a4 : Int32) (a5 : Int32) (mem : Mem) : Option (Int32 × Mem) := cll (X7_isRow a1 mem) fun r1 m2 => if (r1 : Int32) = 0 then (some ((-1000001), m2)) else (cll (X7_isRow a3 m2) fun r4 m5 => if (r4 : Int32) = 0 then (some ((-1000001), m5)) else (ald m5 (rf o 1) a1 fun z7 => if (z7 : Int32) < 0 then (X7_copy_b35 o  m5) else (ald m5 (rf o 1) a3 fun z9 => if (z9 : Int32) < 0 then (X7_copy_b35 o  m5) else (ald m5 (rf o 0) a1 fun z11 => ald m5 (rf o 0) a3 fun z12 => if z11 = z12 then (if (a5 : Int32) < 0 then (X7_copy_b111 o  m5) else (if (a2 : Int32) < 0 then (X7_copy_b111 o  m5) else (if (a4 : Int32) < 0 then (X7_copy_b111 o  m5) else (ald m5 (rf o 1) a1 fun z17 => if 0 < (lg_cmp (((a2 : Int32).toInt64) + ((a5 : Int32).toInt64)) ((z17 : Int32).toInt64)) then (X7_copy_b111 o  m5) else (ald m5 (rf o 1) a3 fun z19 => if 0 < (lg_cmp (((a4 : Int32).toInt64) + ((a5 : Int32).toInt64)) ((z19 : Int32).toInt64)) then (X7_copy_b111 o  m5) else (X7_copy_b120 o fu a1 a2 a3 a4 a5 0 m5)))))) else (cll (X7_finds o 5 m5) fun r21 m22 => some (r21, m22))))))
def X7_drop (o : Nat) (a1 : Int32) (mem : Mem) : Option (Int32 × Mem) := cll (X7_isRow a1 mem) fun r1 m2 => if (r1 : Int32) = 0 then (some ((-1000001), m2)) else (ald m2 (rf o 1) a1 fun z4 => if (z4 : Int32) < 0 then (cll (X7_finds o 1 m2) fun r10 m11 => some (r10, m11)) else (ald m2 (rf o 1) a1 fun z6 => ast m2 (rf o 1) a1 (-1) fun m7 => cll (X7_tells o z6 m7) fun r8 m9 => some (r8, m9)))
def X7_status (o : Nat) (mem : Mem) : Option (Int32 × Mem) := some (mem o 3, mem)
def X7_letters (o : Nat) (mem : Mem) : Option (Int32 × Mem) := ald mem (rf o 5) 2 fun z1 => some (z1, mem)
def X7_readers (o : Nat) (mem : Mem) : Option (Int32 × Mem) := ald mem (rf o 5) 3 fun z1 => some (z1, mem)
def X7_isLetter (o : Nat) (a1 : Int32) (mem : Mem) : Option (Int32 × Mem) := cll (X7_letters o mem) fun r1 m2 => cll (X7_in ((a1 : Int32).toInt64) 0 ((r1 - 1 : Int32).toInt64) m2) fun r3 m4 => chk ((r3 : Int32) &&& 1 = r3) (some (r3, m4))
def X7_isReader (o : Nat) (a1 : Int32) (mem : Mem) : Option (Int32 × Mem) := cll (X7_readers o mem) fun r1 m2 => cll (X7_in ((a1 : Int32).toInt64) 0 ((r1 - 1 : Int32).toInt64) m2) fun r3 m4 => chk ((r3 : Int32) &&& 1 = r3) (some (r3, m4))
def X7_sort (o : Nat) (a1 : Int32) (mem : Mem) : Option (Int32 × Mem) := ald mem (rf o 5) (5 + a1) fun z1 => some (z1, mem)
def X7_age (o : Nat) (a1 : Int32) (mem : Mem) : Option (Int32 × Mem) := ald mem (rf o 5) (31 + a1) fun z1 => some (z1, mem)
def X7_span (o : Nat) (a1 : Int32) (mem : Mem) : Option (Int32 × Mem) := ald mem (rf o 5) (27 + a1) fun z1 => some (z1, mem)
def X7_isAlive (o : Nat) (a1 : Int32) (mem : Mem) : Option (Int32 × Mem) := cll (X7_age o a1 mem) fun r1 m2 => cll (X7_span o a1 m2) fun r3 m4 => if r1 < r3 then (chk ((1 : Int32) &&& 1 = 1) (some (1, m4))) else (chk ((0 : Int32) &&& 1 = 0) (some (0, m4)))
def X7_isFit (o : Nat) (a1 : Int32) (mem : Mem) : Option (Int32 × Mem) := cll (X7_isAlive o a1 mem) fun r1 m2 => if (r1 : Int32) = 0 then (chk ((0 : Int32) &&& 1 = 0) (some (0, m2))) else (cll (X7_age o a1 m2) fun r4 m5 => ald m5 (rf o 5) 1 fun z6 => if r4 < z6 then (chk ((1 : Int32) &&& 1 = 1) (some (1, m5))) else (chk ((0 : Int32) &&& 1 = 0) (some (0, m5))))
def X7_readBy (o : Nat) (a1 : Int32) (a2 : Int32) (mem : Mem) : Option (Int32 × Mem) := ald mem (rf o 5) ((39 + (4 * a1)) + a2) fun z1 => some (z1, mem)
def X7_readOf_b4 (o : Nat)   : Nat → Int32 → Int32 → Int32 → Mem → Option (Int32 × Mem)
  | 0 => fun _ _ _ _ => none
  | n + 1 => fun x1 x2 x3 mem => cll (X7_readers o mem) fun r1 m2 => if x3 < r1 then (cll (X7_readBy o x1 x3 m2) fun r4 m5 => X7_readOf_b4 o n x1 (x2 + r4) (x3 + 1) m5) else (some (x2, m2))
def X7_readOf (o : Nat) (a1 : Int32) (mem : Mem) : Option (Int32 × Mem) := X7_readOf_b4 o fu a1 0 0 mem
def X7_upwards (a0 : Int32) (a1 : Int32) (mem : Mem) : Option (Int32 × Mem) := chk (¬ (a1 : Int32) = 0) <| some (((a0 + a1) - 1) / a1, mem)
def X7_firstCost (a0 : Int32) (a1 : Int32) (mem : Mem) : Option (Int32 × Mem) := if (a0 : Int32) = 1 then (some (a1, mem)) else if (a0 : Int32) = 2 then (some (3 * a1, mem)) else if (a0 : Int32) = 3 then (cll (X7_upwards a1 2 mem) fun r4 m5 => some (r4, m5)) else if (a0 : Int32) = 4 then (some (0, mem)) else (cll (X7_upwards a1 10 mem) fun r7 m8 => some (r7, m8))
def X7_costBy (o : Nat) (a1 : Int32) (a2 : Int32) (a3 : Int32) (mem : Mem) : Option (Int32 × Mem) := cll (X7_sort o a2 mem) fun r1 m2 => cll (X7_firstCost r1 a3 m2) fun r3 m4 => cll (X7_readBy o a2 a1 m4) fun r5 m6 => if 0 < (r5 : Int32) then (cll (X7_upwards r3 2 m6) fun r8 m9 => some (r8, m9)) else (some (r3, m6))
def X7_cost (o : Nat) (a1 : Int32) (a2 : Int32) (mem : Mem) : Option (Int32 × Mem) := ald mem (rf o 5) (11 + a2) fun z1 => cll (X7_costBy o a1 a2 z1 mem) fun r2 m3 => some (r2, m3)
def X7_feed (o : Nat) (a1 : Int32) (mem : Mem) : Option (Int32 × Mem) := cll (X7_in ((a1 : Int32).toInt64) 0 255 mem) fun r1 m2 => if (r1 : Int32) = 0 then (some ((-1000001), m2)) else (if ((m2 o 7) : Int32) = 120 then (some ((-1000003), m2)) else (ast m2 (rf o 6) (m2 o 7) a1 fun m5 => some ((st2 m5 o 7 ((m5 o 7) + 1)) o 7, (st2 m5 o 7 ((m5 o 7) + 1)))))
def X7_here (o : Nat) (mem : Mem) : Option (Int32 × Mem) := if (mem o 9) < (mem o 7) then (ald mem (rf o 6) (mem o 9) fun z2 => some (z2, mem)) else (some ((-1), mem))
def X7_fails (o : Nat) (a1 : Int32) (a2 : Int32) (mem : Mem) : Option (Int32 × Mem) := chk ((0 : Int32) &&& 1 = 0) (some (0, (st2 (st2 mem o 8 a1) o 10 a2)))
def X7_sign (o : Nat) (a1 : Int32) (mem : Mem) : Option (Int32 × Mem) := cll (X7_here o mem) fun r1 m2 => if r1 = a1 then (chk ((1 : Int32) &&& 1 = 1) (some (1, (st2 m2 o 9 ((m2 o 9) + 1))))) else (cll (X7_fails o 1 (m2 o 9) m2) fun r5 m6 => chk ((r5 : Int32) &&& 1 = r5) (some (r5, m6)))
def X7_takeNumber_b94 (o : Nat)   (x3 : Int32) (mem : Mem) : Option (Int32 × Mem) := cll (X7_fails o 1 x3 mem) fun r18 m19 => chk ((r18 : Int32) &&& 1 = r18) (some (r18, m19))
def X7_takeNumber_b125 (o : Nat)    (mem : Mem) : Option (Int32 × Mem) := chk ((1 : Int32) &&& 1 = 1) (some (1, mem))
def X7_takeNumber_b60 (o : Nat)  (k10 : Int32 → Int32 → Int32 → Mem → Option (Int32 × Mem)) (x1 : Int32) (x2 : Int32) (x3 : Int32) (s1 : Int32) (mem : Mem) : Option (Int32 × Mem) := k10 x1 x2 x3 (st2 (st2 mem o 11 s1) o 9 (((st2 mem o 11 s1) o 9) + 1))
def X7_takeNumber_b10 (o : Nat)   : Nat → Int32 → Int32 → Int32 → Mem → Option (Int32 × Mem)
  | 0 => fun _ _ _ _ => none
  | n + 1 => fun x1 x2 x3 mem => cll (X7_here o mem) fun r2 m3 => cll (X7_in ((r2 : Int32).toInt64) 48 57 m3) fun r4 m5 => if (r4 : Int32) = 0 then (if (m5 o 9) = x3 then (X7_takeNumber_b94 o x3 m5) else (if 3 < (((m5 o 9) - x3) : Int32) then (X7_takeNumber_b94 o x3 m5) else (cll (X7_in ((m5 o 11 : Int32).toInt64) ((x1 : Int32).toInt64) ((x2 : Int32).toInt64) m5) fun r9 m10 => if (r9 : Int32) = 0 then (cll (X7_fails o 2 x3 m10) fun r12 m13 => if (r12 : Int32) = 0 then (chk ((0 : Int32) &&& 1 = 0) (some (0, m13))) else (X7_takeNumber_b125 o  m13)) else (X7_takeNumber_b125 o  m10)))) else (if 1000 < ((m5 o 11) : Int32) then (X7_takeNumber_b60 o (X7_takeNumber_b10 o n) x1 x2 x3 (m5 o 11) m5) else (cll (X7_here o m5) fun r16 m17 => X7_takeNumber_b60 o (X7_takeNumber_b10 o n) x1 x2 x3 (((10 * (m5 o 11)) + r16) - 48) m17))
def X7_takeNumber (o : Nat) (a1 : Int32) (a2 : Int32) (mem : Mem) : Option (Int32 × Mem) := X7_takeNumber_b10 o fu a1 a2 (mem o 9) (st2 mem o 11 0)
def X7_into (o : Nat) (a1 : Int32) (a2 : Int32) (a3 : Int32) (mem : Mem) : Option (Int32 × Mem) := cll (X7_takeNumber o a2 a3 mem) fun r1 m2 => ast m2 (rf o 12) a1 (m2 o 11) fun m3 => chk ((r1 : Int32) &&& 1 = r1) (some (r1, m3))
def X7_sortOf (a0 : Int32) (mem : Mem) : Option (Int32 × Mem) := if (a0 : Int32) = 112 then (some (1, mem)) else (if (a0 : Int32) = 118 then (some (2, mem)) else (if (a0 : Int32) = 108 then (some (3, mem)) else (if (a0 : Int32) = 102 then (some (4, mem)) else (if (a0 : Int32) = 115 then (some (5, mem)) else (some (0, mem))))))
def X7_takeLetter (o : Nat) (mem : Mem) : Option (Int32 × Mem) := ald mem (rf o 12) 2 fun z1 => if (z1 : Int32) = 6 then (cll (X7_fails o 3 (mem o 9) mem) fun r23 m24 => chk ((r23 : Int32) &&& 1 = r23) (some (r23, m24))) else (cll (X7_here o mem) fun r3 m4 => cll (X7_sortOf r3 m4) fun r5 m6 => ast m6 (rf o 12) (5 + z1) r5 fun m7 => ald m7 (rf o 12) 2 fun z8 => ast m7 (rf o 12) 2 (z8 + 1) fun m9 => cll (X7_into o (11 + z1) 1 40 (st2 m9 o 9 ((m9 o 9) + 1))) fun r11 m12 => if (r11 : Int32) = 0 then (chk ((0 : Int32) &&& 1 = 0) (some (0, m12))) else (cll (X7_sign o 44 m12) fun r14 m15 => if (r14 : Int32) = 0 then (chk ((0 : Int32) &&& 1 = 0) (some (0, m15))) else (cll (X7_into o (17 + z1) 1 99 m15) fun r17 m18 => if (r17 : Int32) = 0 then (chk ((0 : Int32) &&& 1 = 0) (some (0, m18))) else (cll (X7_sign o 59 m18) fun r20 m21 => if (r20 : Int32) = 0 then (chk ((0 : Int32) &&& 1 = 0) (some (0, m21))) else (chk ((1 : Int32) &&& 1 = 1) (some (1, m21)))))))
def X7_takeReader_b95 (o : Nat)   (x1 : Int32) (s0 : Int32) (mem : Mem) : Option (Int32 × Mem) := ald mem (rf o 12) (23 + x1) fun z18 => ast mem (rf o 12) (31 + x1) z18 fun m19 => if (s0 : Int32) = 0 then (chk ((0 : Int32) &&& 1 = 0) (some (0, m19))) else (cll (X7_sign o 59 m19) fun r21 m22 => if (r21 : Int32) = 0 then (chk ((0 : Int32) &&& 1 = 0) (some (0, m22))) else (chk ((1 : Int32) &&& 1 = 1) (some (1, m22))))
def X7_takeReader_b94 (o : Nat)   (x1 : Int32) (mem : Mem) : Option (Int32 × Mem) := X7_takeReader_b95 o x1 0 mem
def X7_takeReader (o : Nat) (mem : Mem) : Option (Int32 × Mem) := ald mem (rf o 12) 3 fun z1 => if (z1 : Int32) = 4 then (cll (X7_fails o 3 (mem o 9) mem) fun r16 m17 => chk ((r16 : Int32) &&& 1 = r16) (some (r16, m17))) else (ald mem (rf o 12) 3 fun z3 => ast mem (rf o 12) 3 (z3 + 1) fun m4 => cll (X7_into o (23 + z1) 0 99 (st2 m4 o 9 ((m4 o 9) + 1))) fun r6 m7 => if (r6 : Int32) = 0 then (X7_takeReader_b94 o z1 m7) else (cll (X7_sign o 44 m7) fun r9 m10 => if (r9 : Int32) = 0 then (X7_takeReader_b94 o z1 m10) else (ald m10 (rf o 12) (23 + z1) fun z12 => cll (X7_into o (27 + z1) (z12 + 1) 999 m10) fun r13 m14 => if (r13 : Int32) = 0 then (X7_takeReader_b94 o z1 m14) else (X7_takeReader_b95 o z1 1 m14))))
def X7_takeNext_b39 (o : Nat)    (mem : Mem) : Option (Int32 × Mem) := cll (X7_fails o 1 (mem o 9) mem) fun r13 m14 => chk ((r13 : Int32) &&& 1 = r13) (some (r13, m14))
def X7_takeNext (o : Nat) (mem : Mem) : Option (Int32 × Mem) := cll (X7_here o mem) fun r1 m2 => if (r1 : Int32) = 114 then (cll (X7_takeReader o m2) fun r11 m12 => chk ((r11 : Int32) &&& 1 = r11) (some (r11, m12))) else (cll (X7_sortOf r1 m2) fun r4 m5 => if 0 < (r4 : Int32) then (ald m5 (rf o 12) 3 fun z7 => if (z7 : Int32) = 0 then (cll (X7_takeLetter o m5) fun r9 m10 => chk ((r9 : Int32) &&& 1 = r9) (some (r9, m10))) else (X7_takeNext_b39 o  m5)) else (X7_takeNext_b39 o  m5))
def X7_takeOffice_b36 (o : Nat)   : Nat → Int32 → Mem → Option (Int32 × Mem)
  | 0 => fun _ _ => none
  | n + 1 => fun x1 mem => if (x1 : Int32) = 0 then (chk ((x1 : Int32) &&& 1 = x1) (some (x1, mem))) else (if (mem o 9) < (mem o 7) then (cll (X7_takeNext o mem) fun r12 m13 => X7_takeOffice_b36 o n r12 m13) else (chk ((x1 : Int32) &&& 1 = x1) (some (x1, mem))))
def X7_takeOffice_b35 (o : Nat)   (s0 : Int32) (mem : Mem) : Option (Int32 × Mem) := X7_takeOffice_b36 o fu s0 mem
def X7_takeOffice_b34 (o : Nat)    (mem : Mem) : Option (Int32 × Mem) := X7_takeOffice_b35 o 0 mem
def X7_takeOffice (o : Nat) (mem : Mem) : Option (Int32 × Mem) := cll (X7_sign o 111 mem) fun r1 m2 => if (r1 : Int32) = 0 then (X7_takeOffice_b34 o  m2) else (cll (X7_into o 1 1 999 m2) fun r4 m5 => if (r4 : Int32) = 0 then (X7_takeOffice_b34 o  m5) else (cll (X7_sign o 59 m5) fun r7 m8 => if (r7 : Int32) = 0 then (X7_takeOffice_b34 o  m8) else (X7_takeOffice_b35 o 1 m8)))
def X7_office_b50 (o : Nat)   : Nat → Int32 → Mem → Option (Int32 × Mem)
  | 0 => fun _ _ => none
  | n + 1 => fun x2 mem => if (x2 : Int32) < 63 then (ald mem (rf o 12) x2 fun z13 => ast mem (rf o 5) x2 z13 fun m14 => X7_office_b50 o n (x2 + 1) m14) else (ast mem (rf o 5) 0 1 fun m9 => cll (X7_readers o (st2 m9 o 13 0)) fun r11 m12 => some (r11, m12))
def X7_office_b7 (o : Nat)   : Nat → Int32 → Mem → Option (Int32 × Mem)
  | 0 => fun _ _ => none
  | n + 1 => fun x1 mem => if (x1 : Int32) < 63 then (ast mem (rf o 12) x1 0 fun m7 => X7_office_b7 o n (x1 + 1) m7) else (cll (X7_takeOffice o mem) fun r3 m4 => if (r3 : Int32) = 0 then (some ((-1000100) - ((st2 m4 o 7 0) o 10), (st2 m4 o 7 0))) else (X7_office_b50 o fu 0 (st2 m4 o 7 0)))
def X7_office (o : Nat) (mem : Mem) : Option (Int32 × Mem) := X7_office_b7 o fu 0 (st2 mem o 9 0)
def X7_fault (o : Nat) (mem : Mem) : Option (Int32 × Mem) := some (mem o 8, mem)
def X7_putInto_b2 (o : Nat) (p1 : Nat)   : Nat → Int32 → Int32 → Mem → Option (Unit × Mem)
  | 0 => fun _ _ _ => none
  | n + 1 => fun x2 x3 mem => if (x3 : Int32) < 63 then (ald mem (rf o 5) x3 fun z2 => ast mem p1 (x2 + x3) z2 fun m3 => X7_putInto_b2 o p1 n x2 (x3 + 1) m3) else (some ((), mem))
def X7_putInto (o : Nat) (p1 : Nat) (a2 : Int32) (mem : Mem) : Option (Unit × Mem) := X7_putInto_b2 o p1 fu a2 0 mem
def X7_takeFrom_b2 (o : Nat) (p1 : Nat)   : Nat → Int32 → Int32 → Mem → Option (Unit × Mem)
  | 0 => fun _ _ _ => none
  | n + 1 => fun x2 x3 mem => if (x3 : Int32) < 63 then (ald mem p1 (x2 + x3) fun z2 => ast mem (rf o 5) x3 z2 fun m3 => X7_takeFrom_b2 o p1 n x2 (x3 + 1) m3) else (some ((), mem))
def X7_takeFrom (o : Nat) (p1 : Nat) (a2 : Int32) (mem : Mem) : Option (Unit × Mem) := X7_takeFrom_b2 o p1 fu a2 0 mem
def X7_remember_b50 (o : Nat)    (mem : Mem) : Option (Unit × Mem) := cll (X7_putInto o (rf o 14) (63 * (mem o 13)) mem) fun _ m3 => some ((), (st2 m3 o 13 ((m3 o 13) + 1)))
def X7_remember_b12 (o : Nat)   : Nat → Int32 → Mem → Option (Unit × Mem)
  | 0 => fun _ _ => none
  | n + 1 => fun x1 mem => if (x1 : Int32) < 1512 then (ald mem (rf o 14) x1 fun z7 => ast mem (rf o 14) (x1 - 63) z7 fun m8 => X7_remember_b12 o n (x1 + 1) m8) else (X7_remember_b50 o  (st2 mem o 13 ((mem o 13) - 1)))
def X7_remember (o : Nat) (mem : Mem) : Option (Unit × Mem) := if ((mem o 13) : Int32) = 24 then (X7_remember_b12 o fu 63 mem) else (X7_remember_b50 o  mem)
def X7_readNow_b40 (o : Nat)   (s1 : Int32) (s2 : Int32) (s3 : Int32) (mem : Mem) : Option (Unit × Mem) := ast mem (rf o 5) s1 (s2 + s3) fun m7 => some ((), m7)
def X7_readNow (o : Nat) (a1 : Int32) (a2 : Int32) (a3 : Int32) (mem : Mem) : Option (Unit × Mem) := ald mem (rf o 5) (31 + a1) fun z1 => ast mem (rf o 5) (31 + a1) (z1 + a3) fun m2 => ald m2 (rf o 5) ((39 + (4 * a2)) + a1) fun z3 => cll (X7_isAlive o a1 m2) fun r4 m5 => if (r4 : Int32) = 0 then (X7_readNow_b40 o ((39 + (4 * a2)) + a1) z3 0 m5) else (X7_readNow_b40 o ((39 + (4 * a2)) + a1) z3 1 m5)
def X7_read (o : Nat) (a1 : Int32) (a2 : Int32) (mem : Mem) : Option (Int32 × Mem) := cll (X7_isReader o a1 mem) fun r1 m2 => if (r1 : Int32) = 0 then (some ((-1000001), m2)) else (cll (X7_isLetter o a2 m2) fun r4 m5 => if (r4 : Int32) = 0 then (some ((-1000001), m5)) else (cll (X7_isFit o a1 m5) fun r7 m8 => if (r7 : Int32) = 0 then (some ((-1000002), m8)) else (cll (X7_remember o m8) fun _ m11 => cll (X7_cost o a1 a2 m11) fun r12 m13 => cll (X7_readNow o a1 a2 r12 m13) fun _ m15 => cll (X7_age o a1 m15) fun r16 m17 => some (r16, m17))))
def X7_alive_b28 (o : Nat)  (k4 : Int32 → Int32 → Mem → Option (Int32 × Mem)) (x2 : Int32) (s0 : Int32) (s1 : Int32) (mem : Mem) : Option (Int32 × Mem) := k4 (s0 ||| s1) (x2 + 1) mem
def X7_alive_b4 (o : Nat)   : Nat → Int32 → Int32 → Mem → Option (Int32 × Mem)
  | 0 => fun _ _ _ => none
  | n + 1 => fun x1 x2 mem => cll (X7_readers o mem) fun r1 m2 => if x2 < r1 then (cll (X7_isAlive o x2 m2) fun r4 m5 => if (r4 : Int32) = 0 then (X7_alive_b28 o (X7_alive_b4 o n) x2 x1 0 m5) else (X7_alive_b28 o (X7_alive_b4 o n) x2 x1 (1 <<< (x2 &&& 31)) m5)) else (some (x1, m2))
def X7_alive (o : Nat) (mem : Mem) : Option (Int32 × Mem) := X7_alive_b4 o fu 0 0 mem
def X7_aloud_b144 (o : Nat)  (k90 : Int32 → Int32 → Int32 → Int32 → Int32 → Mem → Option (Int32 × Mem)) (x1 : Int32) (x2 : Int32) (x3 : Int32) (x4 : Int32) (x5 : Int32) (mem : Mem) : Option (Int32 × Mem) := k90 x1 x2 x3 x4 (x5 + 1) mem
def X7_aloud_b90 (o : Nat)   : Nat → Int32 → Int32 → Int32 → Int32 → Int32 → Mem → Option (Int32 × Mem)
  | 0 => fun _ _ _ _ _ _ => none
  | n + 1 => fun x1 x2 x3 x4 x5 mem => cll (X7_readers o mem) fun r27 m28 => if x5 < r27 then (cll (X7_has x2 x5 m28) fun r32 m33 => if (r32 : Int32) = 0 then (X7_aloud_b144 o (X7_aloud_b90 o n) x1 x2 x3 x4 x5 m33) else (ald m33 (rf o 5) (31 + x5) fun z35 => cll (X7_upwards x4 10 m33) fun r36 m37 => ast m37 (rf o 5) (31 + x5) (z35 + r36) fun m38 => ald m38 (rf o 5) (35 + x5) fun z39 => ast m38 (rf o 5) (35 + x5) (z39 ||| (1 <<< (x3 &&& 31))) fun m40 => X7_aloud_b144 o (X7_aloud_b90 o n) x1 x2 x3 x4 x5 m40)) else (cll (X7_age o x1 m28) fun r30 m31 => some (r30, m31))
def X7_aloud (o : Nat) (a1 : Int32) (a2 : Int32) (a3 : Int32) (mem : Mem) : Option (Int32 × Mem) := cll (X7_isReader o a1 mem) fun r1 m2 => if (r1 : Int32) = 0 then (some ((-1000001), m2)) else (cll (X7_readers o m2) fun r4 m5 => cll (X7_in ((a2 : Int32).toInt64) 0 (((1 <<< (r4 &&& 31)) - 1 : Int32).toInt64) m5) fun r6 m7 => if (r6 : Int32) = 0 then (some ((-1000001), m7)) else (cll (X7_has a2 a1 m7) fun r9 m10 => if (r9 : Int32) = 0 then (cll (X7_isLetter o a3 m10) fun r12 m13 => if (r12 : Int32) = 0 then (some ((-1000001), m13)) else (cll (X7_isFit o a1 m13) fun r15 m16 => if (r15 : Int32) = 0 then (some ((-1000002), m16)) else (cll (X7_alive o m16) fun r18 m19 => if ((a2 &&& (r18 ^^^ (-1))) : Int32) = 0 then (cll (X7_remember o m19) fun _ m22 => cll (X7_cost o a1 a3 m22) fun r23 m24 => cll (X7_readNow o a1 a3 r23 m24) fun _ m26 => X7_aloud_b90 o fu a1 a2 a3 r23 0 m26) else (some ((-1000002), m19))))) else (some ((-1000001), m10))))
def X7_cross (o : Nat) (a1 : Int32) (a2 : Int32) (mem : Mem) : Option (Int32 × Mem) := cll (X7_isLetter o a1 mem) fun r1 m2 => if (r1 : Int32) = 0 then (some ((-1000001), m2)) else (cll (X7_in ((a2 : Int32).toInt64) 1 39 m2) fun r4 m5 => if (r4 : Int32) = 0 then (some ((-1000001), m5)) else (ald m5 (rf o 5) (11 + a1) fun z7 => if a2 < z7 then (cll (X7_remember o m5) fun _ m10 => ald m10 (rf o 5) (11 + a1) fun z11 => ast m10 (rf o 5) (11 + a1) (z11 - a2) fun m12 => ald m12 (rf o 5) (11 + a1) fun z13 => some (z13, m12)) else (some ((-1000002), m5))))
def X7_day_b43 (o : Nat)   : Nat → Int32 → Mem → Option (Int32 × Mem)
  | 0 => fun _ _ => none
  | n + 1 => fun x1 mem => cll (X7_readers o mem) fun r9 m10 => if x1 < r9 then (ald m10 (rf o 5) (31 + x1) fun z13 => ast m10 (rf o 5) (31 + x1) (z13 + 1) fun m14 => X7_day_b43 o n (x1 + 1) m14) else (ald m10 (rf o 5) 4 fun z12 => some (z12, m10))
def X7_day (o : Nat) (mem : Mem) : Option (Int32 × Mem) := ald mem (rf o 5) 0 fun z1 => if (z1 : Int32) = 0 then (some ((-1000002), mem)) else (ald mem (rf o 5) 4 fun z3 => if (z3 : Int32) = 999 then (some ((-1000003), mem)) else (cll (X7_remember o mem) fun _ m6 => ald m6 (rf o 5) 4 fun z7 => ast m6 (rf o 5) 4 (z7 + 1) fun m8 => X7_day_b43 o fu 0 m8))
def X7_undo (o : Nat) (mem : Mem) : Option (Int32 × Mem) := if ((mem o 13) : Int32) = 0 then (some ((-1000002), mem)) else (cll (X7_takeFrom o (rf o 14) (63 * ((st2 mem o 13 ((mem o 13) - 1)) o 13)) (st2 mem o 13 ((mem o 13) - 1))) fun _ m4 => some (m4 o 13, m4))
def X7_hasRead_b29 (o : Nat)  (k4 : Int32 → Int32 → Int32 → Mem → Option (Int32 × Mem)) (x1 : Int32) (x3 : Int32) (s0 : Int32) (s1 : Int32) (mem : Mem) : Option (Int32 × Mem) := k4 x1 (s0 ||| s1) (x3 + 1) mem
def X7_hasRead_b4 (o : Nat)   : Nat → Int32 → Int32 → Int32 → Mem → Option (Int32 × Mem)
  | 0 => fun _ _ _ _ => none
  | n + 1 => fun x1 x2 x3 mem => cll (X7_letters o mem) fun r1 m2 => if x3 < r1 then (cll (X7_readBy o x3 x1 m2) fun r4 m5 => if 0 < (r4 : Int32) then (X7_hasRead_b29 o (X7_hasRead_b4 o n) x1 x3 x2 (1 <<< (x3 &&& 31)) m5) else (X7_hasRead_b29 o (X7_hasRead_b4 o n) x1 x3 x2 0 m5)) else (some (x2, m2))
def X7_hasRead (o : Nat) (a1 : Int32) (mem : Mem) : Option (Int32 × Mem) := X7_hasRead_b4 o fu a1 0 0 mem
def X7_reader (o : Nat) (a1 : Int32) (a2 : Int32) (mem : Mem) : Option (Int32 × Mem) := cll (X7_isReader o a1 mem) fun r1 m2 => if (r1 : Int32) = 0 then (some ((-1000001), m2)) else (if (a2 : Int32) = 0 then (cll (X7_age o a1 m2) fun r5 m6 => some (r5, m6)) else if (a2 : Int32) = 1 then (cll (X7_span o a1 m2) fun r8 m9 => some (r8, m9)) else if (a2 : Int32) = 2 then (cll (X7_isAlive o a1 m2) fun r11 m12 => if (r11 : Int32) = 0 then (some (0, m12)) else (some (1, m12))) else if (a2 : Int32) = 3 then (cll (X7_isFit o a1 m2) fun r15 m16 => if (r15 : Int32) = 0 then (some (0, m16)) else (some (1, m16))) else if (a2 : Int32) = 4 then (cll (X7_hasRead o a1 m2) fun r19 m20 => some (r19, m20)) else if (a2 : Int32) = 5 then (ald m2 (rf o 5) (35 + a1) fun z22 => some (z22, m2)) else (some ((-1000001), m2)))
def X7_whoRead_b29 (o : Nat)  (k4 : Int32 → Int32 → Int32 → Mem → Option (Int32 × Mem)) (x1 : Int32) (x3 : Int32) (s0 : Int32) (s1 : Int32) (mem : Mem) : Option (Int32 × Mem) := k4 x1 (s0 ||| s1) (x3 + 1) mem
def X7_whoRead_b4 (o : Nat)   : Nat → Int32 → Int32 → Int32 → Mem → Option (Int32 × Mem)
  | 0 => fun _ _ _ _ => none
  | n + 1 => fun x1 x2 x3 mem => cll (X7_readers o mem) fun r1 m2 => if x3 < r1 then (cll (X7_readBy o x1 x3 m2) fun r4 m5 => if 0 < (r4 : Int32) then (X7_whoRead_b29 o (X7_whoRead_b4 o n) x1 x3 x2 (1 <<< (x3 &&& 31)) m5) else (X7_whoRead_b29 o (X7_whoRead_b4 o n) x1 x3 x2 0 m5)) else (some (x2, m2))
def X7_whoRead (o : Nat) (a1 : Int32) (mem : Mem) : Option (Int32 × Mem) := X7_whoRead_b4 o fu a1 0 0 mem
def X7_letter (o : Nat) (a1 : Int32) (a2 : Int32) (mem : Mem) : Option (Int32 × Mem) := cll (X7_isLetter o a1 mem) fun r1 m2 => if (r1 : Int32) = 0 then (some ((-1000001), m2)) else (cll (X7_in ((a2 : Int32).toInt64) 0 3 m2) fun r4 m5 => if (r4 : Int32) = 0 then (some ((-1000001), m5)) else (if (a2 : Int32) = 0 then (ald m5 (rf o 5) (11 + a1) fun z15 => some (z15, m5)) else (if (a2 : Int32) = 1 then (ald m5 (rf o 5) (17 + a1) fun z14 => some (z14, m5)) else (if (a2 : Int32) = 2 then (cll (X7_readOf o a1 m5) fun r12 m13 => some (r12, m13)) else (cll (X7_whoRead o a1 m5) fun r10 m11 => some (r10, m11))))))
def X7_costs (o : Nat) (a1 : Int32) (a2 : Int32) (mem : Mem) : Option (Int32 × Mem) := cll (X7_isReader o a1 mem) fun r1 m2 => if (r1 : Int32) = 0 then (some ((-1000001), m2)) else (cll (X7_isLetter o a2 m2) fun r4 m5 => if (r4 : Int32) = 0 then (some ((-1000001), m5)) else (cll (X7_cost o a1 a2 m5) fun r7 m8 => some (r7, m8)))
def X7_best_b96 (o : Nat)  (k19 : Int32 → Int32 → Int32 → Int32 → Mem → Option (Int32 × Mem)) (x1 : Int32) (x2 : Int32) (x4 : Int32) (s0 : Int32) (mem : Mem) : Option (Int32 × Mem) := k19 x1 x2 s0 (x4 + 1) mem
def X7_best_b84 (o : Nat)  (k19 : Int32 → Int32 → Int32 → Int32 → Mem → Option (Int32 × Mem)) (x1 : Int32) (x3 : Int32) (x4 : Int32) (x5 : Int32) (x6 : Int32) (s0 : Int32) (mem : Mem) : Option (Int32 × Mem) := if (x6 : Int32) = 0 then (X7_best_b96 o k19 x1 s0 x4 x3 mem) else (X7_best_b96 o k19 x1 s0 x4 x5 mem)
def X7_best_b71 (o : Nat)  (k19 : Int32 → Int32 → Int32 → Int32 → Mem → Option (Int32 × Mem)) (x1 : Int32) (x2 : Int32) (x3 : Int32) (x4 : Int32) (x5 : Int32) (s0 : Int32) (mem : Mem) : Option (Int32 × Mem) := if (s0 : Int32) = 0 then (X7_best_b84 o k19 x1 x3 x4 x5 s0 x2 mem) else (X7_best_b84 o k19 x1 x3 x4 x5 s0 x4 mem)
def X7_best_b70 (o : Nat)  (k19 : Int32 → Int32 → Int32 → Int32 → Mem → Option (Int32 × Mem)) (x1 : Int32) (x2 : Int32) (x3 : Int32) (x4 : Int32) (x5 : Int32) (mem : Mem) : Option (Int32 × Mem) := X7_best_b71 o k19 x1 x2 x3 x4 x5 0 mem
def X7_best_b19 (o : Nat)   : Nat → Int32 → Int32 → Int32 → Int32 → Mem → Option (Int32 × Mem)
  | 0 => fun _ _ _ _ _ => none
  | n + 1 => fun x1 x2 x3 x4 mem => cll (X7_readers o mem) fun r4 m5 => if x4 < r4 then (cll (X7_span o x4 m5) fun r7 m8 => cll (X7_age o x4 m8) fun r9 m10 => cll (X7_cost o x4 x1 m10) fun r11 m12 => cll (X7_isFit o x4 m12) fun r13 m14 => if (r13 : Int32) = 0 then (X7_best_b70 o (X7_best_b19 o n) x1 x2 x3 x4 ((r7 - r9) - r11) m14) else (if x3 < ((r7 - r9) - r11) then (X7_best_b71 o (X7_best_b19 o n) x1 x2 x3 x4 ((r7 - r9) - r11) 1 m14) else (X7_best_b70 o (X7_best_b19 o n) x1 x2 x3 x4 ((r7 - r9) - r11) m14))) else (some (x2, m5))
def X7_best (o : Nat) (a1 : Int32) (mem : Mem) : Option (Int32 × Mem) := cll (X7_isLetter o a1 mem) fun r1 m2 => if (r1 : Int32) = 0 then (some ((-1000001), m2)) else (X7_best_b19 o fu a1 (-1000000) 0 0 m2)
def X7_unread_b28 (o : Nat)  (k4 : Int32 → Int32 → Mem → Option (Int32 × Mem)) (x2 : Int32) (s0 : Int32) (s1 : Int32) (mem : Mem) : Option (Int32 × Mem) := k4 (s0 ||| s1) (x2 + 1) mem
def X7_unread_b4 (o : Nat)   : Nat → Int32 → Int32 → Mem → Option (Int32 × Mem)
  | 0 => fun _ _ _ => none
  | n + 1 => fun x1 x2 mem => cll (X7_letters o mem) fun r1 m2 => if x2 < r1 then (cll (X7_readOf o x2 m2) fun r4 m5 => if (r4 : Int32) = 0 then (X7_unread_b28 o (X7_unread_b4 o n) x2 x1 (1 <<< (x2 &&& 31)) m5) else (X7_unread_b28 o (X7_unread_b4 o n) x2 x1 0 m5)) else (some (x1, m2))
def X7_unread (o : Nat) (mem : Mem) : Option (Int32 × Mem) := X7_unread_b4 o fu 0 0 mem
def X7_spentBy_b246 (o : Nat)  (k208 : Int32 → Int32 → Int32 → Mem → Option (Int32 × Mem)) (x4 : Int32) (x6 : Int32) (s0 : Int32) (mem : Mem) : Option (Int32 × Mem) := k208 x4 s0 (x6 + 1) mem
def X7_spentBy_b245 (o : Nat)  (k208 : Int32 → Int32 → Int32 → Mem → Option (Int32 × Mem)) (x4 : Int32) (x6 : Int32) (mem : Mem) : Option (Int32 × Mem) := X7_spentBy_b246 o k208 x4 x6 0 mem
def X7_spentBy_b241 (o : Nat)  (k208 : Int32 → Int32 → Int32 → Mem → Option (Int32 × Mem)) (x4 : Int32) (x6 : Int32) (mem : Mem) : Option (Int32 × Mem) := X7_spentBy_b246 o k208 x4 x6 1 mem
def X7_spentBy_b208 (o : Nat)   : Nat → Int32 → Int32 → Int32 → Mem → Option (Int32 × Mem)
  | 0 => fun _ _ _ _ => none
  | n + 1 => fun x4 x5 x6 mem => cll (X7_readers o mem) fun r42 m43 => if x6 < r42 then (if (x5 : Int32) = 0 then (X7_spentBy_b245 o (X7_spentBy_b208 o n) x4 x6 m43) else (ald m43 (rf o 16) x6 fun z47 => if 0 < (z47 : Int32) then (X7_spentBy_b241 o (X7_spentBy_b208 o n) x4 x6 m43) else (cll (X7_isFit o x6 m43) fun r49 m50 => if (r49 : Int32) = 0 then (X7_spentBy_b241 o (X7_spentBy_b208 o n) x4 x6 m50) else (X7_spentBy_b245 o (X7_spentBy_b208 o n) x4 x6 m50)))) else (if (x5 : Int32) = 0 then (some (1000000, m43)) else (some (x4, m43)))
def X7_spentBy_b199 (o : Nat)  (k120 : Int32 → Int32 → Int32 → Int32 → Mem → Option (Int32 × Mem)) (x2 : Int32) (x4 : Int32) (x5 : Int32) (x6 : Int32) (mem : Mem) : Option (Int32 × Mem) := k120 x2 x4 x5 (x6 + 1) mem
def X7_spentBy_b197 (o : Nat)  (k120 : Int32 → Int32 → Int32 → Int32 → Mem → Option (Int32 × Mem)) (x2 : Int32) (x4 : Int32) (x6 : Int32) (s0 : Int32) (mem : Mem) : Option (Int32 × Mem) := X7_spentBy_b199 o k120 x2 x4 s0 x6 mem
def X7_spentBy_b196 (o : Nat)  (k120 : Int32 → Int32 → Int32 → Int32 → Mem → Option (Int32 × Mem)) (x2 : Int32) (x4 : Int32) (x6 : Int32) (mem : Mem) : Option (Int32 × Mem) := X7_spentBy_b197 o k120 x2 x4 x6 0 mem
def X7_spentBy_b120 (o : Nat)   : Nat → Int32 → Int32 → Int32 → Int32 → Mem → Option (Int32 × Mem)
  | 0 => fun _ _ _ _ _ => none
  | n + 1 => fun x2 x4 x5 x6 mem => cll (X7_letters o mem) fun r25 m26 => if x6 < r25 then (cll (X7_has x2 x6 m26) fun r28 m29 => if (r28 : Int32) = 0 then (X7_spentBy_b199 o (X7_spentBy_b120 o n) x2 x4 x5 x6 m29) else (ald m29 (rf o 15) x6 fun z31 => ald m29 (rf o 16) z31 fun z32 => cll (X7_cost o z31 x6 m29) fun r33 m34 => ast m34 (rf o 16) z31 (z32 - r33) fun m35 => cll (X7_cost o z31 x6 m35) fun r36 m37 => if (x5 : Int32) = 0 then (X7_spentBy_b196 o (X7_spentBy_b120 o n) x2 (x4 + r36) x6 m37) else (cll (X7_isFit o z31 m37) fun r39 m40 => if (r39 : Int32) = 0 then (X7_spentBy_b196 o (X7_spentBy_b120 o n) x2 (x4 + r36) x6 m40) else (X7_spentBy_b197 o (X7_spentBy_b120 o n) x2 (x4 + r36) x6 1 m40)))) else (X7_spentBy_b208 o fu x4 x5 0 m26)
def X7_spentBy_b79 (o : Nat)   : Nat → Int32 → Int32 → Int32 → Mem → Option (Int32 × Mem)
  | 0 => fun _ _ _ _ => none
  | n + 1 => fun x2 x4 x5 mem => cll (X7_readers o mem) fun r11 m12 => if x5 < r11 then (cll (X7_span o x5 m12) fun r14 m15 => cll (X7_age o x5 m15) fun r16 m17 => ast m17 (rf o 16) x5 (r14 - r16) fun m18 => X7_spentBy_b79 o n x2 x4 (x5 + 1) m18) else (X7_spentBy_b120 o fu x2 x4 1 0 m12)
def X7_spentBy_b69 (o : Nat)  (k18 : Int32 → Int32 → Int32 → Int32 → Mem → Option (Int32 × Mem)) (x2 : Int32) (x4 : Int32) (x5 : Int32) (s0 : Int32) (mem : Mem) : Option (Int32 × Mem) := k18 x2 s0 x4 (x5 + (-1)) mem
def X7_spentBy_b49 (o : Nat)  (k18 : Int32 → Int32 → Int32 → Int32 → Mem → Option (Int32 × Mem)) (x2 : Int32) (x3 : Int32) (x4 : Int32) (x5 : Int32) (s1 : Int32) (s2 : Int32) (mem : Mem) : Option (Int32 × Mem) := ast mem (rf o 15) s1 s2 fun m19 => cll (X7_has x2 x5 m19) fun r20 m21 => if (r20 : Int32) = 0 then (X7_spentBy_b69 o k18 x2 x4 x5 x3 m21) else (cll (X7_readers o m21) fun r23 m24 => chk (¬ (r23 : Int32) = 0) <| X7_spentBy_b69 o k18 x2 x4 x5 (x3 / r23) m24)
def X7_spentBy_b18 (o : Nat)   : Nat → Int32 → Int32 → Int32 → Int32 → Mem → Option (Int32 × Mem)
  | 0 => fun _ _ _ _ _ => none
  | n + 1 => fun x2 x3 x4 x5 mem => if (x5 : Int32) < 0 then (X7_spentBy_b79 o fu x2 x4 0 mem) else (cll (X7_has x2 x5 mem) fun r6 m7 => if (r6 : Int32) = 0 then (X7_spentBy_b49 o (X7_spentBy_b18 o n) x2 x3 x4 x5 x5 (-1000000) m7) else (cll (X7_readers o m7) fun r9 m10 => chk (¬ (r9 : Int32) = 0) <| X7_spentBy_b49 o (X7_spentBy_b18 o n) x2 x3 x4 x5 x5 (x3 - x3 / r9 * r9) m10))
def X7_spentBy (o : Nat) (a1 : Int32) (mem : Mem) : Option (Int32 × Mem) := cll (X7_unread o mem) fun r1 m2 => cll (X7_letters o m2) fun r3 m4 => X7_spentBy_b18 o fu r1 a1 0 (r3 - 1) m4
def X7_bits_b4    : Nat → Int32 → Int32 → Int32 → Mem → Option (Int32 × Mem)
  | 0 => fun _ _ _ _ => none
  | n + 1 => fun x0 x1 x2 mem => if (x2 : Int32) < 8 then (X7_bits_b4 n x0 (x1 + ((x0 >>> (x2 &&& 31)) &&& 1)) (x2 + 1) mem) else (some (x1, mem))
def X7_bits (a0 : Int32) (mem : Mem) : Option (Int32 × Mem) := X7_bits_b4 fu a0 0 0 mem
def X7_allRead_b127 (o : Nat)   (x4 : Int32) (mem : Mem) : Option (Int32 × Mem) := if (x4 : Int32) = 1000000 then (some ((-1000000), mem)) else (some (x4, mem))
def X7_allRead_b107 (o : Nat)  (k65 : Int32 → Int32 → Int32 → Int32 → Int32 → Mem → Option (Int32 × Mem)) (x1 : Int32) (x2 : Int32) (x3 : Int32) (x5 : Int32) (s0 : Int32) (mem : Mem) : Option (Int32 × Mem) := k65 x1 x2 x3 s0 (x5 + 1) mem
def X7_allRead_b92 (o : Nat)  (k65 : Int32 → Int32 → Int32 → Int32 → Int32 → Mem → Option (Int32 × Mem)) (x1 : Int32) (x2 : Int32) (x4 : Int32) (x5 : Int32) (x6 : Int32) (s0 : Int32) (mem : Mem) : Option (Int32 × Mem) := if x6 < x4 then (X7_allRead_b107 o k65 x1 x2 s0 x5 x6 mem) else (X7_allRead_b107 o k65 x1 x2 s0 x5 x4 mem)
def X7_allRead_b65 (o : Nat)   : Nat → Int32 → Int32 → Int32 → Int32 → Int32 → Mem → Option (Int32 × Mem)
  | 0 => fun _ _ _ _ _ _ => none
  | n + 1 => fun x1 x2 x3 x4 x5 mem => if x5 < x2 then (cll (X7_spentBy o x5 mem) fun r20 m21 => if r20 < x4 then (X7_allRead_b92 o (X7_allRead_b65 o n) x1 x2 x4 x5 r20 x5 m21) else (X7_allRead_b92 o (X7_allRead_b65 o n) x1 x2 x4 x5 r20 x3 m21)) else (if (x4 : Int32) = 1000000 then (X7_allRead_b127 o x4 mem) else (if (x1 : Int32) = (-1) then (X7_allRead_b127 o x4 mem) else (cll (X7_spentBy o x3 mem) fun r17 m18 => ald m18 (rf o 15) x1 fun z19 => some (z19, m18))))
def X7_allRead_b38 (o : Nat)   : Nat → Int32 → Int32 → Int32 → Mem → Option (Int32 × Mem)
  | 0 => fun _ _ _ _ => none
  | n + 1 => fun x1 x2 x3 mem => if 0 < (x3 : Int32) then (cll (X7_readers o mem) fun r12 m13 => X7_allRead_b38 o n x1 (x2 * r12) (x3 + (-1)) m13) else (X7_allRead_b65 o fu x1 x2 (-1000000) 1000000 0 mem)
def X7_allRead_b28 (o : Nat)   (x1 : Int32) (mem : Mem) : Option (Int32 × Mem) := cll (X7_unread o mem) fun r7 m8 => cll (X7_bits r7 m8) fun r9 m10 => X7_allRead_b38 o fu x1 1 r9 m10
def X7_allRead (o : Nat) (a1 : Int32) (mem : Mem) : Option (Int32 × Mem) := ald mem (rf o 5) 0 fun z1 => if (z1 : Int32) = 0 then (some ((-1000002), mem)) else (if (a1 : Int32) = (-1) then (X7_allRead_b28 o a1 mem) else (cll (X7_isLetter o a1 mem) fun r4 m5 => if (r4 : Int32) = 0 then (some ((-1000001), m5)) else (X7_allRead_b28 o a1 m5)))
def X7_aloudBy (o : Nat) (a1 : Int32) (a2 : Int32) (mem : Mem) : Option (Int32 × Mem) := cll (X7_alive o mem) fun r1 m2 => cll (X7_bits (r1 &&& ((1 <<< (a1 &&& 31)) ^^^ (-1))) m2) fun r3 m4 => cll (X7_cost o a1 a2 m4) fun r5 m6 => cll (X7_cost o a1 a2 m6) fun r7 m8 => cll (X7_upwards r7 10 m8) fun r9 m10 => some (r5 + (r3 * r9), m10)
def X7_bestAloud_b138 (o : Nat)   (x3 : Int32) (mem : Mem) : Option (Int32 × Mem) := some (x3, mem)
def X7_bestAloud_b120 (o : Nat)  (k31 : Int32 → Int32 → Int32 → Int32 → Int32 → Mem → Option (Int32 × Mem)) (x1 : Int32) (x2 : Int32) (x3 : Int32) (x5 : Int32) (s0 : Int32) (mem : Mem) : Option (Int32 × Mem) := k31 x1 x2 x3 s0 (x5 + 1) mem
def X7_bestAloud_b102 (o : Nat)  (k31 : Int32 → Int32 → Int32 → Int32 → Int32 → Mem → Option (Int32 × Mem)) (x1 : Int32) (x2 : Int32) (x4 : Int32) (x5 : Int32) (x6 : Int32) (s0 : Int32) (mem : Mem) : Option (Int32 × Mem) := if (x6 : Int32) = 0 then (X7_bestAloud_b120 o k31 x1 x2 s0 x5 x4 mem) else (cll (X7_aloudBy o x5 x1 mem) fun r27 m28 => X7_bestAloud_b120 o k31 x1 x2 s0 x5 r27 m28)
def X7_bestAloud_b89 (o : Nat)  (k31 : Int32 → Int32 → Int32 → Int32 → Int32 → Mem → Option (Int32 × Mem)) (x1 : Int32) (x2 : Int32) (x3 : Int32) (x4 : Int32) (x5 : Int32) (s0 : Int32) (mem : Mem) : Option (Int32 × Mem) := if (s0 : Int32) = 0 then (X7_bestAloud_b102 o k31 x1 x2 x4 x5 s0 x3 mem) else (X7_bestAloud_b102 o k31 x1 x2 x4 x5 s0 x5 mem)
def X7_bestAloud_b88 (o : Nat)  (k31 : Int32 → Int32 → Int32 → Int32 → Int32 → Mem → Option (Int32 × Mem)) (x1 : Int32) (x2 : Int32) (x3 : Int32) (x4 : Int32) (x5 : Int32) (mem : Mem) : Option (Int32 × Mem) := X7_bestAloud_b89 o k31 x1 x2 x3 x4 x5 0 mem
def X7_bestAloud_b31 (o : Nat)   : Nat → Int32 → Int32 → Int32 → Int32 → Int32 → Mem → Option (Int32 × Mem)
  | 0 => fun _ _ _ _ _ _ => none
  | n + 1 => fun x1 x2 x3 x4 x5 mem => cll (X7_readers o mem) fun r7 m8 => if x5 < r7 then (cll (X7_isFit o x5 m8) fun r12 m13 => if (r12 : Int32) = 0 then (X7_bestAloud_b88 o (X7_bestAloud_b31 o n) x1 x2 x3 x4 x5 m13) else (cll (X7_age o x5 m13) fun r15 m16 => cll (X7_cost o x5 x1 m16) fun r17 m18 => cll (X7_span o x5 m18) fun r19 m20 => if (r15 + r17) < r19 then (cll (X7_aloudBy o x5 x1 m20) fun r22 m23 => if r22 < x4 then (X7_bestAloud_b89 o (X7_bestAloud_b31 o n) x1 x2 x3 x4 x5 1 m23) else (X7_bestAloud_b88 o (X7_bestAloud_b31 o n) x1 x2 x3 x4 x5 m23)) else (X7_bestAloud_b88 o (X7_bestAloud_b31 o n) x1 x2 x3 x4 x5 m20))) else (if (x3 : Int32) = (-1000000) then (X7_bestAloud_b138 o x3 m8) else (if (x2 : Int32) = 0 then (X7_bestAloud_b138 o x3 m8) else (some (x4, m8))))
def X7_bestAloud (o : Nat) (a1 : Int32) (a2 : Int32) (mem : Mem) : Option (Int32 × Mem) := cll (X7_isLetter o a1 mem) fun r1 m2 => if (r1 : Int32) = 0 then (some ((-1000001), m2)) else (cll (X7_in ((a2 : Int32).toInt64) 0 1 m2) fun r4 m5 => if (r4 : Int32) = 0 then (some ((-1000001), m5)) else (X7_bestAloud_b31 o fu a1 a2 (-1000000) 1000000 0 m5))
def X7_kills_b113 (o : Nat)  (k31 : Int32 → Int32 → Int32 → Int32 → Mem → Option (Int32 × Mem)) (x1 : Int32) (x2 : Int32) (x4 : Int32) (s0 : Int32) (mem : Mem) : Option (Int32 × Mem) := k31 x1 x2 s0 (x4 + 1) mem
def X7_kills_b93 (o : Nat)  (k31 : Int32 → Int32 → Int32 → Int32 → Mem → Option (Int32 × Mem)) (x1 : Int32) (x3 : Int32) (x4 : Int32) (x5 : Int32) (s0 : Int32) (mem : Mem) : Option (Int32 × Mem) := if (x5 : Int32) = 0 then (X7_kills_b113 o k31 x1 s0 x4 x3 mem) else (ald mem (rf o 5) (11 + x4) fun z21 => X7_kills_b113 o k31 x1 s0 x4 z21 mem)
def X7_kills_b80 (o : Nat)  (k31 : Int32 → Int32 → Int32 → Int32 → Mem → Option (Int32 × Mem)) (x1 : Int32) (x2 : Int32) (x3 : Int32) (x4 : Int32) (s0 : Int32) (mem : Mem) : Option (Int32 × Mem) := if (s0 : Int32) = 0 then (X7_kills_b93 o k31 x1 x3 x4 s0 x2 mem) else (X7_kills_b93 o k31 x1 x3 x4 s0 x4 mem)
def X7_kills_b79 (o : Nat)  (k31 : Int32 → Int32 → Int32 → Int32 → Mem → Option (Int32 × Mem)) (x1 : Int32) (x2 : Int32) (x3 : Int32) (x4 : Int32) (mem : Mem) : Option (Int32 × Mem) := X7_kills_b80 o k31 x1 x2 x3 x4 0 mem
def X7_kills_b31 (o : Nat)   : Nat → Int32 → Int32 → Int32 → Int32 → Mem → Option (Int32 × Mem)
  | 0 => fun _ _ _ _ _ => none
  | n + 1 => fun x1 x2 x3 x4 mem => cll (X7_letters o mem) fun r7 m8 => if x4 < r7 then (cll (X7_age o x1 m8) fun r10 m11 => cll (X7_cost o x1 x4 m11) fun r12 m13 => cll (X7_span o x1 m13) fun r14 m15 => if (r10 + r12) < r14 then (X7_kills_b79 o (X7_kills_b31 o n) x1 x2 x3 x4 m15) else (ald m15 (rf o 5) (11 + x4) fun z17 => if z17 < x3 then (X7_kills_b80 o (X7_kills_b31 o n) x1 x2 x3 x4 1 m15) else (X7_kills_b79 o (X7_kills_b31 o n) x1 x2 x3 x4 m15))) else (some (x2, m8))
def X7_kills (o : Nat) (a1 : Int32) (mem : Mem) : Option (Int32 × Mem) := cll (X7_isReader o a1 mem) fun r1 m2 => if (r1 : Int32) = 0 then (some ((-1000001), m2)) else (cll (X7_isAlive o a1 m2) fun r4 m5 => if (r4 : Int32) = 0 then (some ((-1000002), m5)) else (X7_kills_b31 o fu a1 (-1000000) 1000000 0 m5))
def X7_costAll_b35 (o : Nat)  (k5 : Int32 → Int32 → Int32 → Int32 → Mem → Option (Int32 × Mem)) (x1 : Int32) (x2 : Int32) (x4 : Int32) (s0 : Int32) (s1 : Int32) (mem : Mem) : Option (Int32 × Mem) := k5 x1 x2 (s0 + s1) (x4 + 1) mem
def X7_costAll_b5 (o : Nat)   : Nat → Int32 → Int32 → Int32 → Int32 → Mem → Option (Int32 × Mem)
  | 0 => fun _ _ _ _ _ => none
  | n + 1 => fun x1 x2 x3 x4 mem => cll (X7_letters o mem) fun r1 m2 => if x4 < r1 then (cll (X7_has x2 x4 m2) fun r4 m5 => if (r4 : Int32) = 0 then (X7_costAll_b35 o (X7_costAll_b5 o n) x1 x2 x4 x3 0 m5) else (cll (X7_cost o x1 x4 m5) fun r7 m8 => X7_costAll_b35 o (X7_costAll_b5 o n) x1 x2 x4 x3 r7 m8)) else (some (x3, m2))
def X7_costAll (o : Nat) (a1 : Int32) (a2 : Int32) (mem : Mem) : Option (Int32 × Mem) := X7_costAll_b5 o fu a1 a2 0 0 mem
def X7_post_b124 (o : Nat)   (x3 : Int32) (mem : Mem) : Option (Int32 × Mem) := some (x3, mem)
def X7_post_b106 (o : Nat)  (k38 : Int32 → Int32 → Int32 → Int32 → Mem → Option (Int32 × Mem)) (x1 : Int32) (x2 : Int32) (x4 : Int32) (s0 : Int32) (mem : Mem) : Option (Int32 × Mem) := k38 x1 x2 s0 (x4 + 1) mem
def X7_post_b105 (o : Nat)  (k38 : Int32 → Int32 → Int32 → Int32 → Mem → Option (Int32 × Mem)) (x1 : Int32) (x2 : Int32) (x3 : Int32) (x4 : Int32) (mem : Mem) : Option (Int32 × Mem) := X7_post_b106 o k38 x1 x2 x4 x3 mem
def X7_post_b72 (o : Nat)  (k38 : Int32 → Int32 → Int32 → Int32 → Mem → Option (Int32 × Mem)) (x1 : Int32) (x2 : Int32) (x3 : Int32) (x4 : Int32) (s0 : Int32) (mem : Mem) : Option (Int32 × Mem) := if (s0 : Int32) = 0 then (X7_post_b105 o k38 x1 x2 x3 x4 mem) else (cll (X7_age o x1 mem) fun r24 m25 => cll (X7_costAll o x1 x4 m25) fun r26 m27 => cll (X7_span o x1 m27) fun r28 m29 => if (r24 + r26) < r28 then (X7_post_b105 o k38 x1 x2 x3 x4 m29) else (X7_post_b106 o k38 x1 x2 x4 x4 m29))
def X7_post_b67 (o : Nat)  (k38 : Int32 → Int32 → Int32 → Int32 → Mem → Option (Int32 × Mem)) (x1 : Int32) (x2 : Int32) (x3 : Int32) (x4 : Int32) (mem : Mem) : Option (Int32 × Mem) := X7_post_b72 o k38 x1 x2 x3 x4 1 mem
def X7_post_b38 (o : Nat)   : Nat → Int32 → Int32 → Int32 → Int32 → Mem → Option (Int32 × Mem)
  | 0 => fun _ _ _ _ _ => none
  | n + 1 => fun x1 x2 x3 x4 mem => cll (X7_letters o mem) fun r10 m11 => if x4 < (1 <<< (r10 &&& 31)) then (if (x3 : Int32) = (-1000000) then (X7_post_b67 o (X7_post_b38 o n) x1 x2 x3 x4 m11) else (cll (X7_bits x4 m11) fun r18 m19 => cll (X7_bits x3 m19) fun r20 m21 => if r18 < r20 then (X7_post_b67 o (X7_post_b38 o n) x1 x2 x3 x4 m21) else (X7_post_b72 o (X7_post_b38 o n) x1 x2 x3 x4 0 m21))) else (if (x3 : Int32) = (-1000000) then (X7_post_b124 o x3 m11) else (if (x2 : Int32) = 1 then (X7_post_b124 o x3 m11) else (cll (X7_bits x3 m11) fun r15 m16 => some (r15, m16))))
def X7_post (o : Nat) (a1 : Int32) (a2 : Int32) (mem : Mem) : Option (Int32 × Mem) := cll (X7_isReader o a1 mem) fun r1 m2 => if (r1 : Int32) = 0 then (some ((-1000001), m2)) else (cll (X7_in ((a2 : Int32).toInt64) 0 1 m2) fun r4 m5 => if (r4 : Int32) = 0 then (some ((-1000001), m5)) else (cll (X7_isAlive o a1 m5) fun r7 m8 => if (r7 : Int32) = 0 then (some ((-1000002), m8)) else (X7_post_b38 o fu a1 a2 (-1000000) 0 m8)))
def X7_crossOut_b32 (o : Nat)   : Nat → Int32 → Int32 → Int32 → Mem → Option (Int32 × Mem)
  | 0 => fun _ _ _ _ => none
  | n + 1 => fun x1 x2 x3 mem => ald mem (rf o 5) (11 + x2) fun z10 => if x3 < z10 then (cll (X7_age o x1 mem) fun r12 m13 => ald m13 (rf o 5) (11 + x2) fun z14 => cll (X7_costBy o x1 x2 (z14 - x3) m13) fun r15 m16 => cll (X7_span o x1 m16) fun r17 m18 => if (r12 + r15) < r17 then (some (x3, m18)) else (X7_crossOut_b32 o n x1 x2 (x3 + 1) m18)) else (some ((-1000000), mem))
def X7_crossOut (o : Nat) (a1 : Int32) (a2 : Int32) (mem : Mem) : Option (Int32 × Mem) := cll (X7_isReader o a1 mem) fun r1 m2 => if (r1 : Int32) = 0 then (some ((-1000001), m2)) else (cll (X7_isLetter o a2 m2) fun r4 m5 => if (r4 : Int32) = 0 then (some ((-1000001), m5)) else (cll (X7_isAlive o a1 m5) fun r7 m8 => if (r7 : Int32) = 0 then (some ((-1000002), m8)) else (X7_crossOut_b32 o fu a1 a2 0 m8)))
def X7_dies (o : Nat) (a1 : Int32) (mem : Mem) : Option (Int32 × Mem) := cll (X7_isReader o a1 mem) fun r1 m2 => if (r1 : Int32) = 0 then (some ((-1000001), m2)) else (cll (X7_isAlive o a1 m2) fun r4 m5 => if (r4 : Int32) = 0 then (some ((-1000000), m5)) else (ald m5 (rf o 5) 4 fun z7 => cll (X7_span o a1 m5) fun r8 m9 => cll (X7_age o a1 m9) fun r10 m11 => some ((z7 + r8) - r10, m11)))
def X7_late_b67 (o : Nat)  (k31 : Int32 → Int32 → Int32 → Mem → Option (Int32 × Mem)) (x1 : Int32) (x3 : Int32) (s0 : Int32) (s1 : Int32) (mem : Mem) : Option (Int32 × Mem) := k31 x1 (s0 ||| s1) (x3 + 1) mem
def X7_late_b31 (o : Nat)   : Nat → Int32 → Int32 → Int32 → Mem → Option (Int32 × Mem)
  | 0 => fun _ _ _ _ => none
  | n + 1 => fun x1 x2 x3 mem => cll (X7_letters o mem) fun r6 m7 => if x3 < r6 then (ald m7 (rf o 5) (17 + x3) fun z11 => ald m7 (rf o 5) 4 fun z12 => if z11 < (z12 + x1) then (X7_late_b67 o (X7_late_b31 o n) x1 x3 x2 (1 <<< (x3 &&& 31)) m7) else (X7_late_b67 o (X7_late_b31 o n) x1 x3 x2 0 m7)) else (cll (X7_unread o m7) fun r9 m10 => some (x2 &&& r9, m10))
def X7_late (o : Nat) (a1 : Int32) (mem : Mem) : Option (Int32 × Mem) := ald mem (rf o 5) 0 fun z1 => if (z1 : Int32) = 0 then (some ((-1000002), mem)) else (cll (X7_in ((a1 : Int32).toInt64) 0 99 mem) fun r3 m4 => if (r3 : Int32) = 0 then (some ((-1000001), m4)) else (X7_late_b31 o fu a1 0 0 m4))
def X7_firstAll_b42 (o : Nat)  (k4 : Int32 → Int32 → Int32 → Mem → Option (Int32 × Mem)) (x1 : Int32) (x3 : Int32) (s0 : Int32) (s1 : Int32) (mem : Mem) : Option (Int32 × Mem) := k4 x1 (s0 + s1) (x3 + 1) mem
def X7_firstAll_b4 (o : Nat)   : Nat → Int32 → Int32 → Int32 → Mem → Option (Int32 × Mem)
  | 0 => fun _ _ _ _ => none
  | n + 1 => fun x1 x2 x3 mem => cll (X7_letters o mem) fun r1 m2 => if x3 < r1 then (cll (X7_has x1 x3 m2) fun r4 m5 => if (r4 : Int32) = 0 then (X7_firstAll_b42 o (X7_firstAll_b4 o n) x1 x3 x2 0 m5) else (cll (X7_sort o x3 m5) fun r7 m8 => ald m8 (rf o 5) (11 + x3) fun z9 => cll (X7_firstCost r7 z9 m8) fun r10 m11 => X7_firstAll_b42 o (X7_firstAll_b4 o n) x1 x3 x2 r10 m11)) else (some (x2, m2))
def X7_firstAll (o : Nat) (a1 : Int32) (mem : Mem) : Option (Int32 × Mem) := X7_firstAll_b4 o fu a1 0 0 mem
def X7_soOld_b119 (o : Nat)  (k43 : Int32 → Int32 → Int32 → Int32 → Int32 → Int32 → Mem → Option (Int32 × Mem)) (x1 : Int32) (x2 : Int32) (x3 : Int32) (x5 : Int32) (x6 : Int32) (s0 : Int32) (s1 : Int32) (mem : Mem) : Option (Int32 × Mem) := k43 x1 x2 x3 (s0 + s1) x5 (x6 + 1) mem
def X7_soOld_b105 (o : Nat)  (k43 : Int32 → Int32 → Int32 → Int32 → Int32 → Int32 → Mem → Option (Int32 × Mem)) (x1 : Int32) (x2 : Int32) (x3 : Int32) (x4 : Int32) (x6 : Int32) (x7 : Int32) (s0 : Int32) (mem : Mem) : Option (Int32 × Mem) := if (x7 : Int32) = 0 then (X7_soOld_b119 o k43 x1 x2 x3 s0 x6 x4 0 mem) else (X7_soOld_b119 o k43 x1 x2 x3 s0 x6 x4 1 mem)
def X7_soOld_b103 (o : Nat)  (k43 : Int32 → Int32 → Int32 → Int32 → Int32 → Int32 → Mem → Option (Int32 × Mem)) (x1 : Int32) (x2 : Int32) (x3 : Int32) (x4 : Int32) (x5 : Int32) (x6 : Int32) (x7 : Int32) (mem : Mem) : Option (Int32 × Mem) := X7_soOld_b105 o k43 x1 x2 x3 x4 x6 x7 x5 mem
def X7_soOld_b86 (o : Nat)  (k43 : Int32 → Int32 → Int32 → Int32 → Int32 → Int32 → Mem → Option (Int32 × Mem)) (x1 : Int32) (x2 : Int32) (x3 : Int32) (x4 : Int32) (x5 : Int32) (x6 : Int32) (s0 : Int32) (mem : Mem) : Option (Int32 × Mem) := if (s0 : Int32) = 0 then (X7_soOld_b103 o k43 x1 x2 x3 x4 x5 x6 s0 mem) else (if (x4 : Int32) = 0 then (X7_soOld_b105 o k43 x1 x2 x3 x4 x6 s0 x6 mem) else (X7_soOld_b103 o k43 x1 x2 x3 x4 x5 x6 s0 mem))
def X7_soOld_b43 (o : Nat)   : Nat → Int32 → Int32 → Int32 → Int32 → Int32 → Int32 → Mem → Option (Int32 × Mem)
  | 0 => fun _ _ _ _ _ _ _ => none
  | n + 1 => fun x1 x2 x3 x4 x5 x6 mem => cll (X7_letters o mem) fun r10 m11 => if x6 < (1 <<< (r10 &&& 31)) then (ald m11 (rf o 5) (23 + x1) fun z14 => ald m11 (rf o 5) 4 fun z15 => cll (X7_firstAll o x6 m11) fun r16 m17 => if ((z14 + z15) + r16) = x2 then (X7_soOld_b86 o (X7_soOld_b43 o n) x1 x2 x3 x4 x5 x6 1 m17) else (X7_soOld_b86 o (X7_soOld_b43 o n) x1 x2 x3 x4 x5 x6 0 m17)) else (if (x3 : Int32) = 0 then (some (x4, m11)) else (some (x5, m11)))
def X7_soOld (o : Nat) (a1 : Int32) (a2 : Int32) (a3 : Int32) (mem : Mem) : Option (Int32 × Mem) := cll (X7_isReader o a1 mem) fun r1 m2 => if (r1 : Int32) = 0 then (some ((-1000001), m2)) else (cll (X7_in ((a2 : Int32).toInt64) 0 999 m2) fun r4 m5 => if (r4 : Int32) = 0 then (some ((-1000001), m5)) else (cll (X7_in ((a3 : Int32).toInt64) 0 1 m5) fun r7 m8 => if (r7 : Int32) = 0 then (some ((-1000001), m8)) else (X7_soOld_b43 o fu a1 a2 a3 0 (-1000000) 0 m8)))
def X7_readOn_b130 (o : Nat)   : Nat → Int32 → Mem → Option (Unit × Mem)
  | 0 => fun _ _ => none
  | n + 1 => fun x2 mem => if (x2 : Int32) < 64 then (ald mem (rf o 18) x2 fun z7 => ast mem (rf o 17) x2 z7 fun m8 => X7_readOn_b130 o n (x2 + 1) m8) else (some ((), mem))
def X7_readOn_b114 (o : Nat)  (k36 : Int32 → Int32 → Mem → Option (Unit × Mem)) (k44 : Int32 → Int32 → Int32 → Mem → Option (Unit × Mem)) (x1 : Int32) (x2 : Int32) (x3 : Int32) (s1 : Int32) (s2 : Int32) (s3 : Int32) (mem : Mem) : Option (Unit × Mem) := ast mem (rf o 18) s1 (s2 + s3) fun m24 => k44 x1 x2 (x3 + 1) m24
def X7_readOn_b86 (o : Nat)  (k36 : Int32 → Int32 → Mem → Option (Unit × Mem)) (k44 : Int32 → Int32 → Int32 → Mem → Option (Unit × Mem)) (x1 : Int32) (x2 : Int32) (x3 : Int32) (s0 : Int32) (mem : Mem) : Option (Unit × Mem) := ald mem (rf o 18) (x2 ||| (1 <<< (x3 &&& 31))) fun z21 => if (s0 : Int32) = 0 then (X7_readOn_b114 o k36 k44 x1 x2 x3 (x2 ||| (1 <<< (x3 &&& 31))) z21 0 mem) else (ald mem (rf o 17) x2 fun z23 => X7_readOn_b114 o k36 k44 x1 x2 x3 (x2 ||| (1 <<< (x3 &&& 31))) z21 z23 mem)
def X7_readOn_b85 (o : Nat)  (k36 : Int32 → Int32 → Mem → Option (Unit × Mem)) (k44 : Int32 → Int32 → Int32 → Mem → Option (Unit × Mem)) (x1 : Int32) (x2 : Int32) (x3 : Int32) (mem : Mem) : Option (Unit × Mem) := X7_readOn_b86 o k36 k44 x1 x2 x3 0 mem
def X7_readOn_b44 (o : Nat)  (k36 : Int32 → Int32 → Mem → Option (Unit × Mem)) : Nat → Int32 → Int32 → Int32 → Mem → Option (Unit × Mem)
  | 0 => fun _ _ _ _ => none
  | n + 1 => fun x1 x2 x3 mem => cll (X7_letters o mem) fun r9 m10 => if x3 < r9 then (cll (X7_has x2 x3 m10) fun r12 m13 => if (r12 : Int32) = 0 then (cll (X7_sort o x3 m13) fun r15 m16 => ald m16 (rf o 5) (11 + x3) fun z17 => cll (X7_firstCost r15 z17 m16) fun r18 m19 => if r18 = x1 then (X7_readOn_b86 o k36 (X7_readOn_b44 o k36 n) x1 x2 x3 1 m19) else (X7_readOn_b85 o k36 (X7_readOn_b44 o k36 n) x1 x2 x3 m19)) else (X7_readOn_b85 o k36 (X7_readOn_b44 o k36 n) x1 x2 x3 m13)) else (k36 x1 (x2 + 1) m10)
def X7_readOn_b36 (o : Nat)   : Nat → Int32 → Int32 → Mem → Option (Unit × Mem)
  | 0 => fun _ _ _ => none
  | n + 1 => fun x1 x2 mem => if (x2 : Int32) < 64 then (X7_readOn_b44 o (X7_readOn_b36 o n) fu x1 x2 0 mem) else (X7_readOn_b130 o fu 0 mem)
def X7_readOn_b27 (o : Nat)  (k2 : Int32 → Int32 → Mem → Option (Unit × Mem)) (x1 : Int32) (x2 : Int32) (s1 : Int32) (s2 : Int32) (mem : Mem) : Option (Unit × Mem) := ast mem (rf o 18) s1 s2 fun m5 => k2 x1 (x2 + 1) m5
def X7_readOn_b2 (o : Nat)   : Nat → Int32 → Int32 → Mem → Option (Unit × Mem)
  | 0 => fun _ _ _ => none
  | n + 1 => fun x1 x2 mem => if (x2 : Int32) < 64 then (if (x1 : Int32) = 0 then (ald mem (rf o 17) x2 fun z3 => X7_readOn_b27 o (X7_readOn_b2 o n) x1 x2 x2 z3 mem) else (X7_readOn_b27 o (X7_readOn_b2 o n) x1 x2 x2 0 mem)) else (X7_readOn_b36 o fu x1 0 mem)
def X7_readOn (o : Nat) (a1 : Int32) (mem : Mem) : Option (Unit × Mem) := X7_readOn_b2 o fu a1 0 mem
def X7_ages_b67 (o : Nat)    (mem : Mem) : Option (Int32 × Mem) := cll (X7_finds o 2 mem) fun r17 m18 => some (r17, m18)
def X7_ages_b212 (o : Nat)   : Nat → Int32 → Int32 → Mem → Option (Int32 × Mem)
  | 0 => fun _ _ _ => none
  | n + 1 => fun x7 x8 mem => if (x8 : Int32) < 64 then (ald mem (rf o 17) x8 fun z29 => X7_ages_b212 o n (x7 + z29) (x8 + 1) mem) else (cll (X7_tells o x7 mem) fun r27 m28 => some (r27, m28))
def X7_ages_b180 (o : Nat)  (k121 : Int32 → Int32 → Int32 → Int64 → Int32 → Mem → Option (Int32 × Mem)) (x2 : Int32) (x3 : Int32) (x4 : Int32) (x7 : Int32) (s1 : Int32) (mem : Mem) : Option (Int32 × Mem) := cll (X7_readOn o s1 mem) fun _ m34 => ald m34 (rf o 2) (((40 * x2) + x3) + x7) fun z35 => k121 x2 x3 x4 ((z35 : Int32).toInt64) (x7 + 1) m34
def X7_ages_b156 (o : Nat)  (k121 : Int32 → Int32 → Int32 → Int64 → Int32 → Mem → Option (Int32 × Mem)) (x2 : Int32) (x3 : Int32) (x4 : Int32) (x7 : Int32) (t0 : Int64) (s1 : Int32) (mem : Mem) : Option (Int32 × Mem) := cll (X7_in (t0 - ((s1 : Int32).toInt64)) 0 999 mem) fun r30 m31 => if (r30 : Int32) = 0 then (X7_ages_b180 o k121 x2 x3 x4 x7 (-1) m31) else (X7_ages_b180 o k121 x2 x3 x4 x7 ((t0 - ((s1 : Int32).toInt64) : Int64).toInt32) m31)
def X7_ages_b121 (o : Nat)   : Nat → Int32 → Int32 → Int32 → Int64 → Int32 → Mem → Option (Int32 × Mem)
  | 0 => fun _ _ _ _ _ _ => none
  | n + 1 => fun x2 x3 x4 w5 x7 mem => if x7 < x4 then (ald mem (rf o 2) (((40 * x2) + x3) + x7) fun z23 => if 0 < (x7 : Int32) then (X7_ages_b156 o (X7_ages_b121 o n) x2 x3 x4 x7 (((z23 : Int32).toInt64) - w5) 1 mem) else (X7_ages_b156 o (X7_ages_b121 o n) x2 x3 x4 x7 (((z23 : Int32).toInt64) - w5) 0 mem)) else (X7_ages_b212 o fu 0 0 mem)
def X7_ages_b99 (o : Nat)  (k76 : Int32 → Int32 → Int32 → Int32 → Int32 → Mem → Option (Int32 × Mem)) (x1 : Int32) (x2 : Int32) (x3 : Int32) (x4 : Int32) (x5 : Int32) (s1 : Int32) (s2 : Int32) (mem : Mem) : Option (Int32 × Mem) := ast mem (rf o 17) s1 s2 fun m25 => k76 x1 x2 x3 x4 (x5 + 1) m25
def X7_ages_b76 (o : Nat)   : Nat → Int32 → Int32 → Int32 → Int32 → Int32 → Mem → Option (Int32 × Mem)
  | 0 => fun _ _ _ _ _ _ => none
  | n + 1 => fun x1 x2 x3 x4 x5 mem => if (x5 : Int32) < 64 then (if (x5 : Int32) = 0 then (X7_ages_b99 o (X7_ages_b76 o n) x1 x2 x3 x4 x5 x5 1 mem) else (X7_ages_b99 o (X7_ages_b76 o n) x1 x2 x3 x4 x5 x5 0 mem)) else (ald mem (rf o 5) (23 + x1) fun z20 => X7_ages_b121 o fu x2 x3 x4 ((z20 : Int32).toInt64) 0 mem)
def X7_ages (o : Nat) (a1 : Int32) (a2 : Int32) (a3 : Int32) (a4 : Int32) (mem : Mem) : Option (Int32 × Mem) := cll (X7_isReader o a1 mem) fun r1 m2 => if (r1 : Int32) = 0 then (some ((-1000001), m2)) else (cll (X7_isRow a2 m2) fun r4 m5 => if (r4 : Int32) = 0 then (some ((-1000001), m5)) else (cll (X7_in ((a4 : Int32).toInt64) 1 6 m5) fun r7 m8 => if (r7 : Int32) = 0 then (some ((-1000001), m8)) else (ald m8 (rf o 1) a2 fun z10 => if (z10 : Int32) < 0 then (cll (X7_finds o 1 m8) fun r15 m16 => some (r15, m16)) else (if (a3 : Int32) < 0 then (X7_ages_b67 o  m8) else (ald m8 (rf o 1) a2 fun z13 => if 0 < (lg_cmp (((a3 : Int32).toInt64) + ((a4 : Int32).toInt64)) ((z13 : Int32).toInt64)) then (X7_ages_b67 o  m8) else (X7_ages_b76 o fu a1 a2 a3 a4 0 m8))))))
def X7_burnt_b225 (o : Nat)   : Nat → Int32 → Int64 → Int64 → Int64 → Int64 → Mem → Option (Int32 × Mem)
  | 0 => fun _ _ _ _ _ _ => none
  | n + 1 => fun x3 w5 w7 w9 w11 mem => if (lg_cmp w11 0) = 0 then (if (x3 : Int32) = 0 then (chk (¬ (w9 : Int64) = 0) <| some ((w5 / w9 : Int64).toInt32, mem)) else (chk (¬ (w9 : Int64) = 0) <| some ((w7 / w9 : Int64).toInt32, mem))) else (chk (¬ (w11 : Int64) = 0) <| X7_burnt_b225 o n x3 w5 w7 w11 (w9 - w9 / w11 * w11) mem)
def X7_burnt_b198 (o : Nat)   : Nat → Int32 → Int64 → Int64 → Int32 → Mem → Option (Int32 × Mem)
  | 0 => fun _ _ _ _ _ => none
  | n + 1 => fun x3 w5 w7 x9 mem => if 0 < (x9 : Int32) then (X7_burnt_b198 o n x3 w5 (w7 * 10) (x9 + (-1)) mem) else (X7_burnt_b225 o fu x3 w5 w7 w5 w7 mem)
def X7_burnt_b182 (o : Nat)  (k59 : Int32 → Int32 → Int32 → Int32 → Int64 → Int64 → Int32 → Mem → Option (Int32 × Mem)) (x1 : Int32) (x2 : Int32) (x3 : Int32) (x4 : Int32) (w7 : Int64) (x9 : Int32) (t0 : Int64) (t1 : Int64) (mem : Mem) : Option (Int32 × Mem) := k59 x1 x2 x3 x4 (t0 + t1) w7 (x9 + 1) mem
def X7_burnt_b167 (o : Nat)  (k59 : Int32 → Int32 → Int32 → Int32 → Int64 → Int64 → Int32 → Mem → Option (Int32 × Mem)) (x1 : Int32) (x2 : Int32) (x3 : Int32) (x4 : Int32) (w5 : Int64) (w7 : Int64) (x9 : Int32) (w10 : Int64) (s0 : Int32) (mem : Mem) : Option (Int32 × Mem) := if (s0 : Int32) = 0 then (X7_burnt_b182 o k59 x1 x2 x3 x4 w7 x9 w5 0 mem) else (X7_burnt_b182 o k59 x1 x2 x3 x4 w7 x9 w5 w10 mem)
def X7_burnt_b166 (o : Nat)  (k59 : Int32 → Int32 → Int32 → Int32 → Int64 → Int64 → Int32 → Mem → Option (Int32 × Mem)) (x1 : Int32) (x2 : Int32) (x3 : Int32) (x4 : Int32) (w5 : Int64) (w7 : Int64) (x9 : Int32) (w10 : Int64) (mem : Mem) : Option (Int32 × Mem) := X7_burnt_b167 o k59 x1 x2 x3 x4 w5 w7 x9 w10 0 mem
def X7_burnt_b122 (o : Nat)  (k59 : Int32 → Int32 → Int32 → Int32 → Int64 → Int64 → Int32 → Mem → Option (Int32 × Mem)) (k76 : Int32 → Int32 → Int32 → Int32 → Int64 → Int64 → Int32 → Int64 → Int32 → Mem → Option (Int32 × Mem)) (x1 : Int32) (x2 : Int32) (x3 : Int32) (x4 : Int32) (w5 : Int64) (w7 : Int64) (x9 : Int32) (x12 : Int32) (t0 : Int64) (t1 : Int64) (mem : Mem) : Option (Int32 × Mem) := k76 x1 x2 x3 x4 w5 w7 x9 (t0 * t1) (x12 + 1) mem
def X7_burnt_b76 (o : Nat)  (k59 : Int32 → Int32 → Int32 → Int32 → Int64 → Int64 → Int32 → Mem → Option (Int32 × Mem)) : Nat → Int32 → Int32 → Int32 → Int32 → Int64 → Int64 → Int32 → Int64 → Int32 → Mem → Option (Int32 × Mem)
  | 0 => fun _ _ _ _ _ _ _ _ _ _ => none
  | n + 1 => fun x1 x2 x3 x4 w5 w7 x9 w10 x12 mem => cll (X7_letters o mem) fun r21 m22 => if x12 < r21 then (cll (X7_has x9 x12 m22) fun r32 m33 => if (r32 : Int32) = 0 then (cll (X7_has x4 x12 m33) fun r35 m36 => if (r35 : Int32) = 0 then (X7_burnt_b122 o k59 (X7_burnt_b76 o k59 n) x1 x2 x3 x4 w5 w7 x9 x12 w10 1 m36) else (X7_burnt_b122 o k59 (X7_burnt_b76 o k59 n) x1 x2 x3 x4 w5 w7 x9 x12 w10 ((x2 : Int32).toInt64) m36)) else (X7_burnt_b122 o k59 (X7_burnt_b76 o k59 n) x1 x2 x3 x4 w5 w7 x9 x12 w10 (10 - ((x2 : Int32).toInt64)) m33)) else (if ((x9 &&& (x4 ^^^ (-1))) : Int32) = 0 then (cll (X7_age o x1 m22) fun r25 m26 => cll (X7_costAll o x1 x9 m26) fun r27 m28 => cll (X7_span o x1 m28) fun r29 m30 => if (r25 + r27) < r29 then (X7_burnt_b167 o k59 x1 x2 x3 x4 w5 w7 x9 w10 1 m30) else (X7_burnt_b166 o k59 x1 x2 x3 x4 w5 w7 x9 w10 m30)) else (X7_burnt_b166 o k59 x1 x2 x3 x4 w5 w7 x9 w10 m22))
def X7_burnt_b59 (o : Nat)   : Nat → Int32 → Int32 → Int32 → Int32 → Int64 → Int64 → Int32 → Mem → Option (Int32 × Mem)
  | 0 => fun _ _ _ _ _ _ _ _ => none
  | n + 1 => fun x1 x2 x3 x4 w5 w7 x9 mem => cll (X7_letters o mem) fun r15 m16 => if x9 < (1 <<< (r15 &&& 31)) then (X7_burnt_b76 o (X7_burnt_b59 o n) fu x1 x2 x3 x4 w5 w7 x9 1 0 m16) else (cll (X7_bits x4 m16) fun r18 m19 => X7_burnt_b198 o fu x3 w5 w7 r18 m19)
def X7_burnt (o : Nat) (a1 : Int32) (a2 : Int32) (a3 : Int32) (mem : Mem) : Option (Int32 × Mem) := cll (X7_isReader o a1 mem) fun r1 m2 => if (r1 : Int32) = 0 then (some ((-1000001), m2)) else (cll (X7_in ((a2 : Int32).toInt64) 0 10 m2) fun r4 m5 => if (r4 : Int32) = 0 then (some ((-1000001), m5)) else (cll (X7_in ((a3 : Int32).toInt64) 0 1 m5) fun r7 m8 => if (r7 : Int32) = 0 then (some ((-1000001), m8)) else (cll (X7_isAlive o a1 m8) fun r10 m11 => if (r10 : Int32) = 0 then (some ((-1000002), m11)) else (cll (X7_unread o m11) fun r13 m14 => X7_burnt_b59 o fu a1 a2 a3 r13 0 1 0 m14))))
def X7_image (o : Nat) (a1 : Int32) (mem : Mem) : Option (Int32 × Mem) := cll (X7_in ((a1 : Int32).toInt64) 0 1 mem) fun r1 m2 => if (r1 : Int32) = 0 then (some ((-1000001), m2)) else (ald m2 (rf o 5) 0 fun z4 => if (z4 : Int32) = 0 then (some ((-1000002), m2)) else (cll (X7_putInto o (rf o 19) (63 * a1) m2) fun _ m7 => ast m7 (rf o 20) a1 (vp_nar .boolean 1) fun m8 => some (1, m8)))
def X7_restore (o : Nat) (a1 : Int32) (mem : Mem) : Option (Int32 × Mem) := cll (X7_in ((a1 : Int32).toInt64) 0 1 mem) fun r1 m2 => if (r1 : Int32) = 0 then (some ((-1000001), m2)) else (ald m2 (rf o 20) a1 fun z4 => if (z4 : Int32) = 0 then (some ((-1000002), m2)) else (cll (X7_takeFrom o (rf o 19) (63 * a1) m2) fun _ m7 => some (1, (st2 m7 o 13 0))))
def X7_kind (o : Nat) (a1 : Int32) (mem : Mem) : Option (Int32 × Mem) := cll (X7_isLetter o a1 mem) fun r1 m2 => if (r1 : Int32) = 0 then (some ((-1000001), m2)) else (cll (X7_sort o a1 m2) fun r4 m5 => some (r4, m5))
def X7_isOf_b35 (o : Nat)    (mem : Mem) : Option (Int32 × Mem) := chk ((1 : Int32) &&& 1 = 1) (some (1, mem))
def X7_isOf_b25 (o : Nat)   (x2 : Int32) (x3 : Int32) (mem : Mem) : Option (Int32 × Mem) := if (x2 : Int32) = 4 then (if (x3 : Int32) = 5 then (X7_isOf_b35 o  mem) else (chk ((0 : Int32) &&& 1 = 0) (some (0, mem)))) else (chk ((0 : Int32) &&& 1 = 0) (some (0, mem)))
def X7_isOf (o : Nat) (a1 : Int32) (a2 : Int32) (mem : Mem) : Option (Int32 × Mem) := cll (X7_sort o a1 mem) fun r1 m2 => if (a2 : Int32) = 0 then (X7_isOf_b35 o  m2) else (if r1 = a2 then (X7_isOf_b35 o  m2) else (if (a2 : Int32) = 1 then (if 3 < (r1 : Int32) then (X7_isOf_b25 o a2 r1 m2) else (X7_isOf_b35 o  m2)) else (X7_isOf_b25 o a2 r1 m2)))
def X7_as (o : Nat) (a1 : Int32) (a2 : Int32) (mem : Mem) : Option (Int32 × Mem) := cll (X7_isLetter o a1 mem) fun r1 m2 => if (r1 : Int32) = 0 then (some ((-1000001), m2)) else (cll (X7_in ((a2 : Int32).toInt64) 0 5 m2) fun r4 m5 => if (r4 : Int32) = 0 then (some ((-1000001), m5)) else (cll (X7_isOf o a1 a2 m5) fun r7 m8 => if (r7 : Int32) = 0 then (cll (X7_finds o 3 m8) fun r10 m11 => some (r10, m11)) else (cll (X7_tells o a1 m8) fun r12 m13 => some (r12, m13))))
def X7_leave (o : Nat) (a1 : Int32) (mem : Mem) : Option (Unit × Mem) := if ((mem o 22) : Int32) < 16 then (ast mem (rf o 21) (mem o 22) a1 fun m2 => some ((), (st2 m2 o 22 ((m2 o 22) + 1)))) else (some ((), mem))
def X7_sizeLent (o : Nat) (a1 : Int32) (mem : Mem) : Option (Int32 × Mem) := cll (X7_leave o 10 mem) fun _ m2 => ald m2 (rf o 5) (11 + a1) fun z3 => some (z3, m2)
def X7_markLent (o : Nat) (a1 : Int32) (mem : Mem) : Option (Int32 × Mem) := cll (X7_leave o 20 mem) fun _ m2 => some (a1, m2)
def X7_markOfProse (o : Nat) (a1 : Int32) (mem : Mem) : Option (Int32 × Mem) := cll (X7_leave o 21 mem) fun _ m2 => cll (X7_markLent o a1 m2) fun r3 m4 => cll (X7_readOf o a1 m4) fun r5 m6 => some (r3 + r5, m6)
def X7_sizeOfFigures (o : Nat) (a1 : Int32) (mem : Mem) : Option (Int32 × Mem) := cll (X7_leave o 13 mem) fun _ m2 => cll (X7_sizeLent o a1 m2) fun r3 m4 => some (r3 - 100, m4)
def X7_sizeOfSums (o : Nat) (a1 : Int32) (mem : Mem) : Option (Int32 × Mem) := cll (X7_sort o a1 mem) fun r1 m2 => if (r1 : Int32) = 5 then (cll (X7_leave o 14 m2) fun _ m7 => cll (X7_sizeOfFigures o a1 m7) fun r8 m9 => some (2 * r8, m9)) else (cll (X7_sizeOfFigures o a1 m2) fun r4 m5 => some (r4, m5))
def X7_markOf (o : Nat) (a1 : Int32) (mem : Mem) : Option (Int32 × Mem) := cll (X7_sort o a1 mem) fun r1 m2 => if (r1 : Int32) < 4 then (cll (X7_sort o a1 m2) fun r4 m5 => if (r4 : Int32) = 3 then (cll (X7_leave o 22 m5) fun _ m17 => cll (X7_markOfProse o a1 m17) fun r18 m19 => some (r18 - 1000, m19)) else (cll (X7_sort o a1 m5) fun r7 m8 => if (r7 : Int32) = 2 then (cll (X7_leave o 24 m8) fun _ m13 => cll (X7_markOfProse o a1 m13) fun r14 m15 => some (2 * r14, m15)) else (cll (X7_markOfProse o a1 m8) fun r10 m11 => some (r10, m11)))) else (cll (X7_leave o 23 m2) fun _ m21 => cll (X7_markLent o a1 m21) fun r22 m23 => cll (X7_sizeOfSums o a1 m23) fun r24 m25 => some (r22 - r24, m25))
def X7_sizeOfProse (o : Nat) (a1 : Int32) (mem : Mem) : Option (Int32 × Mem) := cll (X7_leave o 11 mem) fun _ m2 => cll (X7_sizeLent o a1 m2) fun r3 m4 => cll (X7_markOf o a1 m4) fun r5 m6 => some (r3 + r5, m6)
def X7_sizeOf (o : Nat) (a1 : Int32) (mem : Mem) : Option (Int32 × Mem) := cll (X7_sort o a1 mem) fun r1 m2 => if (r1 : Int32) < 4 then (cll (X7_sort o a1 m2) fun r4 m5 => if (r4 : Int32) = 2 then (cll (X7_leave o 12 m5) fun _ m10 => cll (X7_sizeOfProse o a1 m10) fun r11 m12 => some (-r11, m12)) else (cll (X7_sizeOfProse o a1 m5) fun r7 m8 => some (r7, m8))) else (cll (X7_sizeOfSums o a1 m2) fun r13 m14 => some (r13, m14))
def X7_ask (o : Nat) (a1 : Int32) (a2 : Int32) (mem : Mem) : Option (Int32 × Mem) := cll (X7_isLetter o a1 mem) fun r1 m2 => if (r1 : Int32) = 0 then (some ((-1000001), m2)) else (cll (X7_in ((a2 : Int32).toInt64) 0 1 m2) fun r4 m5 => if (r4 : Int32) = 0 then (some ((-1000001), m5)) else (if (a2 : Int32) = 0 then (cll (X7_sizeOf o a1 (st2 m5 o 22 0)) fun r11 m12 => some (r11, m12)) else (cll (X7_markOf o a1 (st2 m5 o 22 0)) fun r9 m10 => some (r9, m10))))
def X7_trace (o : Nat) (a1 : Int32) (mem : Mem) : Option (Int32 × Mem) := cll (X7_in ((a1 : Int32).toInt64) 0 (((mem o 22) - 1 : Int32).toInt64) mem) fun r1 m2 => if (r1 : Int32) = 0 then (some ((-1000000), m2)) else (ald m2 (rf o 21) a1 fun z4 => some (z4, m2))
def X7_fit_b26 (o : Nat)  (k4 : Int32 → Int32 → Mem → Option (Int32 × Mem)) (x2 : Int32) (s0 : Int32) (s1 : Int32) (mem : Mem) : Option (Int32 × Mem) := k4 (s0 + s1) (x2 + 1) mem
def X7_fit_b4 (o : Nat)   : Nat → Int32 → Int32 → Mem → Option (Int32 × Mem)
  | 0 => fun _ _ _ => none
  | n + 1 => fun x1 x2 mem => cll (X7_readers o mem) fun r1 m2 => if x2 < r1 then (cll (X7_isFit o x2 m2) fun r4 m5 => if (r4 : Int32) = 0 then (X7_fit_b26 o (X7_fit_b4 o n) x2 x1 0 m5) else (X7_fit_b26 o (X7_fit_b4 o n) x2 x1 1 m5)) else (some (x1, m2))
def X7_fit (o : Nat) (mem : Mem) : Option (Int32 × Mem) := X7_fit_b4 o fu 0 0 mem
def X7_count_b25 (o : Nat)  (k4 : Int32 → Int32 → Int32 → Mem → Option (Int32 × Mem)) (x1 : Int32) (x3 : Int32) (s0 : Int32) (s1 : Int32) (mem : Mem) : Option (Int32 × Mem) := k4 x1 (s0 + s1) (x3 + 1) mem
def X7_count_b4 (o : Nat)   : Nat → Int32 → Int32 → Int32 → Mem → Option (Int32 × Mem)
  | 0 => fun _ _ _ _ => none
  | n + 1 => fun x1 x2 x3 mem => if (x3 : Int32) < 8 then (ald mem (rf o 1) x3 fun z26 => if (z26 : Int32) < 0 then (X7_count_b25 o (X7_count_b4 o n) x1 x3 x2 0 mem) else (X7_count_b25 o (X7_count_b4 o n) x1 x3 x2 1 mem)) else (if (x1 : Int32) = 0 then (some (x2, mem)) else if (x1 : Int32) = 1 then (cll (X7_letters o mem) fun r4 m5 => some (r4, m5)) else if (x1 : Int32) = 2 then (cll (X7_readers o mem) fun r7 m8 => some (r7, m8)) else if (x1 : Int32) = 3 then (ald mem (rf o 5) 4 fun z10 => some (z10, mem)) else if (x1 : Int32) = 4 then (cll (X7_alive o mem) fun r12 m13 => cll (X7_bits r12 m13) fun r14 m15 => some (r14, m15)) else if (x1 : Int32) = 5 then (cll (X7_fit o mem) fun r17 m18 => some (r17, m18)) else if (x1 : Int32) = 6 then (cll (X7_unread o mem) fun r20 m21 => cll (X7_bits r20 m21) fun r22 m23 => some (r22, m23)) else if (x1 : Int32) = 7 then (some (mem o 13, mem)) else if (x1 : Int32) = 8 then (some (mem o 7, mem)) else (some ((-1000001), mem)))
def X7_count (o : Nat) (a1 : Int32) (mem : Mem) : Option (Int32 × Mem) := X7_count_b4 o fu a1 0 0 mem
end
section
/-! ===== THE WORLD AS IT GROWS: the first n cells are there; fl says which references of an object are set ===== -/
def fVn (G : Gt) (k : Nat) (fk : Nat → Bool) (row : Nat → Int32) (j : Nat) : Value := if ir (kd k) j = true then (if fk j = true then .ref (gA G (rf k j)) else .null) else .int (row j)
def cellF (G : Gt) (k : Nat) (fk : Nat → Bool) (row : Nat → Int32) : va_E := if kd k = 100 then .inl (gI G, ln k, .inl row) else if kd k = 101 then .inl (gZ G, ln k, .inl row) else .inr (kd k, (List.range (nf (kd k))).map (fVn G k fk row))
def cellsN (G : Gt) (n : Nat) (fl : Nat → Nat → Bool) (mem : Mem) : va_W := (List.range n).map (fun k => (gA G k, cellF G k (fl k) (mem k)))
def flS (fl : Nat → Nat → Bool) (k j : Nat) : Nat → Nat → Bool := fun a => if a = k then (fun b => if b = j then true else fl k b) else fl a
def fl1 (fl : Nat → Nat → Bool) (k : Nat) (f : Nat → Bool) : Nat → Nat → Bool := fun a => if a = k then f else fl a
theorem cn_at {G : Gt} {n : Nat} {fl : Nat → Nat → Bool} {mem : Mem} {k : Nat} (h : k < n) : (cellsN G n fl mem)[k]? = some (gA G k, cellF G k (fl k) (mem k)) := by
  unfold cellsN
  rw [List.getElem?_map, List.getElem?_range h]
  rfl
theorem cn_len {G : Gt} {n : Nat} {fl : Nat → Nat → Bool} {mem : Mem} : (cellsN G n fl mem).length = n := by simp [cellsN]
theorem cn_set {G : Gt} {n : Nat} {fl : Nat → Nat → Bool} {mem : Mem} {k : Nat} {f : Nat → Bool} {row : Nat → Int32} (h : k < n) : (cellsN G n fl mem).set k (gA G k, cellF G k f row) = cellsN G n (fl1 fl k f) (st1 mem k row) := by
  apply List.ext_getElem?
  intro i
  rw [List.getElem?_set]
  by_cases hi : k = i
  · subst hi
    rw [if_pos rfl, if_pos (by rw [cn_len]; exact h), cn_at h]
    simp [st1, fl1]
  · rw [if_neg hi]
    by_cases h2 : i < n
    · rw [cn_at h2, cn_at h2]
      simp [st1, fl1, Ne.symm hi]
    · rw [List.getElem?_eq_none (by rw [cn_len]; omega), List.getElem?_eq_none (by rw [cn_len]; omega)]
theorem cn_succ {G : Gt} {n : Nat} {fl : Nat → Nat → Bool} {mem : Mem} : cellsN G (n + 1) fl mem = cellsN G n fl mem ++ [(gA G n, cellF G n (fl n) (mem n))] := by
  unfold cellsN
  rw [List.range_succ, List.map_append]
  rfl
theorem cellF_i {G : Gt} {k : Nat} {f : Nat → Bool} {row : Nat → Int32} (h : kd k = 100) : cellF G k f row = .inl (gI G, ln k, .inl row) := by simp [cellF, h]
theorem cellF_z {G : Gt} {k : Nat} {f : Nat → Bool} {row : Nat → Int32} (h : kd k = 101) : cellF G k f row = .inl (gZ G, ln k, .inl row) := by simp [cellF, h]
theorem cellF_o {G : Gt} {k c : Nat} {f : Nat → Bool} {row : Nat → Int32} (h : kd k = c) (hc : c < 100) : cellF G k f row = .inr (c, (List.range (nf c)).map (fVn G k f row)) := by
  subst h
  unfold cellF
  rw [if_neg (by omega), if_neg (by omega)]
theorem fn_at {G : Gt} {k n j : Nat} {f : Nat → Bool} {row : Nat → Int32} (h : j < n) : ((List.range n).map (fVn G k f row))[j]? = some (fVn G k f row j) := by
  rw [List.getElem?_map, List.getElem?_range h]
  rfl
theorem fn_set {G : Gt} {k n c j : Nat} {f : Nat → Bool} {row : Nat → Int32} (hk : kd k = c) (hj : ir c j = true) : ((List.range n).map (fVn G k f row)).set j (.ref (gA G (rf k j))) = (List.range n).map (fVn G k (fun b => if b = j then true else f b) row) := by
  apply List.ext_getElem?
  intro i
  rw [List.getElem?_set]
  by_cases h2 : i < n
  · rw [fn_at h2, fn_at h2]
    by_cases hi : j = i
    · subst hi
      rw [if_pos rfl, if_pos (by simp; exact h2)]
      simp [fVn, hk, hj]
    · rw [if_neg hi]
      simp [fVn, Ne.symm hi]
  · rw [List.getElem?_eq_none (l := (List.range n).map (fVn G k (fun b => if b = j then true else f b) row)) (by simp; omega), List.getElem?_eq_none (l := (List.range n).map (fVn G k f row)) (by simp; omega)]
    by_cases hi : j = i
    · rw [if_pos hi, if_neg (by simp; omega)]
    · rw [if_neg hi]
def PW (G : Gt) (base n : Nat) (fl : Nat → Nat → Bool) (mem : Mem) (H : Heap) : Prop := va_P (gD G) vwCl (cellsN G n fl mem) H ∧ H.size = base + n ∧ ∀ k, n ≤ k → mem k = fun _ => 0
def aB (base : Nat) : Nat → Prop := fun q => base ≤ q
def C0 (G : Gt) (U : State) : Prop := va_K (gD G) vwCl [(gI G, .int), (gZ G, .boolean)] U ∧ ∀ w ∈ NW, va_Nw w U
theorem C0.moved {G : Gt} {s U : State} (h : C0 G s) (hW : s.WarmedH U.vm) : C0 G U := ⟨h.1.moved hW.alike, fun w hw => nest_warm (List.mem_filter.mp hw).2 hW (h.2 w hw)⟩
theorem C0.same {G : Gt} {s U : State} (h : C0 G s) (hW : s.vm = U.vm) : C0 G U := ⟨h.1.moved (by rw [hW]; exact Vm.Alike.refl _), fun w hw => nest_same (List.mem_filter.mp hw).2 hW (h.2 w hw)⟩
theorem cn_D {G : Gt} {base n : Nat} {fl : Nat → Nat → Bool} {mem : Mem} (hB : ∀ k, gA G k = base + k) : va_D (aB base) (cellsN G n fl mem) := by
  have key : ∀ (k : Nat) (q : Nat × va_E), (cellsN G n fl mem)[k]? = some q → k < n ∧ q.1 = base + k := by
    intro k q hq
    have hk : k < n := by
      have := (List.getElem?_eq_some_iff.mp hq).1
      rwa [cn_len] at this
    rw [cn_at hk] at hq
    cases hq
    exact ⟨hk, hB k⟩
  refine ⟨fun i j p q hi hj e => ?_, fun k q hq => ?_⟩
  · obtain ⟨a1, a2⟩ := key i p hi
    obtain ⟨b1, b2⟩ := key j q hj
    omega
  · obtain ⟨a1, a2⟩ := key k q hq
    show base ≤ q.1
    omega
theorem PW.congr {G : Gt} {base n : Nat} {fl fl' : Nat → Nat → Bool} {mem : Mem} {H : Heap} (h : PW G base n fl mem H) (e : ∀ k, k < n → kd k < 100 → ∀ j, j < nf (kd k) → ir (kd k) j = true → fl k j = fl' k j) : PW G base n fl' mem H := by
  have e2 : cellsN G n fl mem = cellsN G n fl' mem := by
    unfold cellsN
    apply List.map_congr_left
    intro k hk
    have hk := List.mem_range.mp hk
    congr 1
    unfold cellF
    by_cases h1 : kd k = 100
    · rw [if_pos h1, if_pos h1]
    · rw [if_neg h1, if_neg h1]
      by_cases h2 : kd k = 101
      · rw [if_pos h2, if_pos h2]
      · rw [if_neg h2, if_neg h2]
        congr 2
        apply List.map_congr_left
        intro j hj
        have hj := List.mem_range.mp hj
        unfold fVn
        by_cases h3 : ir (kd k) j = true
        · rw [if_pos h3, if_pos h3]
          have hlt : kd k < 100 := by
            apply Nat.not_le.mp
            intro q
            have : nf (kd k) = 0 := by
              unfold nf
              rw [List.getD_eq_getElem?_getD, List.getElem?_eq_none (by exact Nat.le_trans (by decide) q)]
              rfl
            omega
          rw [e k hk hlt j hj h3]
        · rw [if_neg h3, if_neg h3]
  exact ⟨by rw [← e2]; exact h.1, h.2⟩
def EQC (G : Gt) (base : Nat) (Q : Nat → (Nat → Nat → Bool) → Mem → Prop) : Array Value → State → Outcome → State → Prop := fun _ st oc t => (oc = .returned none ∧ ∃ n fl mem, Q n fl mem ∧ PW G base n fl mem t.heap) ∧ va_F (aB base) st t
def EvC (G : Gt) (base : Nat) (cc : ByteArray) (nL : Nat) (own : String) (ini : Bool) (d mc ms : Nat) (Q : Nat → (Nat → Nat → Bool) → Mem → Prop) (pc : Nat) (lv : List (Nat × Value)) (st : List Value) (n : Nat) (fl : Nat → Nat → Bool) (mem : Mem) (kc ks : Nat) : Prop :=
  ∀ (p : Program) (e : Env) (s : State) (m : MethodId) (args : Array Value) (below : List Frame) (meth : Method) (c : Code) (H : Heap) (locs : List Loc) (ls : Array Slot),
    (∀ k, gA G k = base + k) → base ≤ s.heap.size → p.tables.exec = Jvm.exec → c.code = cc → c.maxLocals = nL → meth.sig.returnType = none → s.vm.findClass own = some m.cls → meth.locks = false → (ini = true → meth.name = "<init>") → (∀ w ∈ AW, w.before args s = true) → C0 G s →
    PW G base n fl mem H → va_S (aB base) s.heap H locs → lv_has ls nL lv →
    W p (gL G) e { frames := d, cells := mc, slots := ms, locals := 64 * d } s m args below meth c H locs kc ks (MQ below (EQC G base Q) args s mc ms (aB base)) (F0 m pc ls st)
def ConC (G : Gt) (base : Nat) (y : MethodName) (bytes : ByteArray) (nL : Nat) (d mc ms : Nat) (vs : List Value) (n : Nat) (fl : Nat → Nat → Bool) (mem : Mem) (Q : Nat → (Nat → Nat → Bool) → Mem → Prop) : Prop :=
  Met (gL G) y (Cond.code y bytes nL none :: AW) { frames := d, cells := mc, slots := ms, locals := 64 * d } (va_Pc vs (fun U => PW G base n fl mem U.heap ∧ C0 G U ∧ (∀ k, gA G k = base + k))) (EQC G base Q) mc ms (aB base)
section RULESC
variable {G : Gt} {base : Nat} {cc : ByteArray} {nL : Nat} {own : String} {ini : Bool} {d mc ms : Nat} {Q : Nat → (Nat → Nat → Bool) → Mem → Prop} {pc q : Nat} {lv lv2 : List (Nat × Value)} {st stk : List Value} {n nn : Nat} {fl : Nat → Nat → Bool} {mem : Mem} {kc ks : Nat}
theorem evc_aload_n {k : Fin 4} {i x : Nat} (hd : decode cc pc = .ok (.aload_n k, 1)) (hi : (k : Nat) = i) (j : Nat) (hp : pc + 1 = q) (hj : lv[j]? = some (i, .ref x)) (kk : EvC G base cc nL own ini d mc ms Q q lv (.ref x :: st) n fl mem kc ks) : EvC G base cc nL own ini d mc ms Q pc lv st n fl mem kc ks := by
  subst hp
  intro p e s m args below meth c H locs ls g1 g2 hx hb hml hr hown hlk hin hts hC hP hS hl
  exact lv_aload_n hx hb hd hi (lv_at hl j hj) (kk p e s m args below meth c H locs ls g1 g2 hx hb hml hr hown hlk hin hts hC hP hS hl)
theorem evc_iload_n {k : Fin 4} {i : Nat} {x : Int32} (hd : decode cc pc = .ok (.iload_n k, 1)) (hi : (k : Nat) = i) (j : Nat) (hp : pc + 1 = q) (hj : lv[j]? = some (i, .int x)) (kk : EvC G base cc nL own ini d mc ms Q q lv (.int x :: st) n fl mem kc ks) : EvC G base cc nL own ini d mc ms Q pc lv st n fl mem kc ks := by
  subst hp
  intro p e s m args below meth c H locs ls g1 g2 hx hb hml hr hown hlk hin hts hC hP hS hl
  exact lv_iload_n hx hb hd hi (lv_at hl j hj) (kk p e s m args below meth c H locs ls g1 g2 hx hb hml hr hown hlk hin hts hC hP hS hl)
theorem evc_istore_n {k : Fin 4} {i : Nat} {x : Int32} (hd : decode cc pc = .ok (.istore_n k, 1)) (hi : (k : Nat) = i) (hp : pc + 1 = q) (hn : i < nL) (hf : (i, Value.int x) :: lv.filter (fun q => !(q.1 == i) && !(q.1 + 1 == i && q.2.category == 2)) = lv2) (kk : EvC G base cc nL own ini d mc ms Q q lv2 st n fl mem kc ks) : EvC G base cc nL own ini d mc ms Q pc lv (.int x :: st) n fl mem kc ks := by
  subst hp
  intro p e s m args below meth c H locs ls g1 g2 hx hb hml hr hown hlk hin hts hC hP hS hl
  exact lv_istore_n hx hb hd hi hl hn hf (fun ls hl => kk p e s m args below meth c H locs ls g1 g2 hx hb hml hr hown hlk hin hts hC hP hS hl)
theorem evc_iinc {i : Nat} {k : Int} {x v : Int32} (hd : decode cc pc = .ok (.iinc i k, 3)) (j : Nat) (hp : pc + 3 = q) (hj : lv[j]? = some (i, .int x)) (hv0 : x + Int32.ofInt k = v) (hn : i < nL) (hf : (i, Value.int v) :: lv.filter (fun q => !(q.1 == i) && !(q.1 + 1 == i && q.2.category == 2)) = lv2) (kk : EvC G base cc nL own ini d mc ms Q q lv2 st n fl mem kc ks) : EvC G base cc nL own ini d mc ms Q pc lv st n fl mem kc ks := by
  subst hp
  intro p e s m args below meth c H locs ls g1 g2 hx hb hml hr hown hlk hin hts hC hP hS hl
  exact lv_iinc hx hb hd hl hj hv0 hn hf (fun ls hl => kk p e s m args below meth c H locs ls g1 g2 hx hb hml hr hown hlk hin hts hC hP hS hl)
theorem evc_iconst {k : Int} {v : Int32} (hd : decode cc pc = .ok (.iconst k, 1)) (hp : pc + 1 = q) (hv0 : Int32.ofInt k = v) (kk : EvC G base cc nL own ini d mc ms Q q lv (.int v :: st) n fl mem kc ks) : EvC G base cc nL own ini d mc ms Q pc lv st n fl mem kc ks := by
  subst hp
  intro p e s m args below meth c H locs ls g1 g2 hx hb hml hr hown hlk hin hts hC hP hS hl
  exact lv_iconst hx hb hd hv0 (kk p e s m args below meth c H locs ls g1 g2 hx hb hml hr hown hlk hin hts hC hP hS hl)
theorem evc_bipush {k : Int} {v : Int32} (hd : decode cc pc = .ok (.bipush k, 2)) (hp : pc + 2 = q) (hv0 : (Int8.ofInt k).toInt32 = v) (kk : EvC G base cc nL own ini d mc ms Q q lv (.int v :: st) n fl mem kc ks) : EvC G base cc nL own ini d mc ms Q pc lv st n fl mem kc ks := by
  subst hp
  intro p e s m args below meth c H locs ls g1 g2 hx hb hml hr hown hlk hin hts hC hP hS hl
  exact lv_bipush hx hb hd hv0 (kk p e s m args below meth c H locs ls g1 g2 hx hb hml hr hown hlk hin hts hC hP hS hl)
theorem evc_sipush {k : Int} {v : Int32} (hd : decode cc pc = .ok (.sipush k, 3)) (hp : pc + 3 = q) (hv0 : (Int16.ofInt k).toInt32 = v) (kk : EvC G base cc nL own ini d mc ms Q q lv (.int v :: st) n fl mem kc ks) : EvC G base cc nL own ini d mc ms Q pc lv st n fl mem kc ks := by
  subst hp
  intro p e s m args below meth c H locs ls g1 g2 hx hb hml hr hown hlk hin hts hC hP hS hl
  exact lv_sipush hx hb hd hv0 (kk p e s m args below meth c H locs ls g1 g2 hx hb hml hr hown hlk hin hts hC hP hS hl)
theorem evc_dup {va : Value} (hd : decode cc pc = .ok (.dup, 1)) (hp : pc + 1 = q) (hva : va.category = 1) (kk : EvC G base cc nL own ini d mc ms Q q lv (va :: va :: st) n fl mem kc ks) : EvC G base cc nL own ini d mc ms Q pc lv (va :: st) n fl mem kc ks := by
  subst hp
  intro p e s m args below meth c H locs ls g1 g2 hx hb hml hr hown hlk hin hts hC hP hS hl
  exact lv_dup hx hb hd hva (kk p e s m args below meth c H locs ls g1 g2 hx hb hml hr hown hlk hin hts hC hP hS hl)
theorem evc_goto {off : Int} {t : Nat} (hd : decode cc pc = .ok (.goto off, 3)) (ht : (pc : Int) + off = (t : Int)) (kk : EvC G base cc nL own ini d mc ms Q t lv st n fl mem kc ks) : EvC G base cc nL own ini d mc ms Q pc lv st n fl mem kc ks := by
  intro p e s m args below meth c H locs ls g1 g2 hx hb hml hr hown hlk hin hts hC hP hS hl
  exact lv_goto hx hb hd ht (kk p e s m args below meth c H locs ls g1 g2 hx hb hml hr hown hlk hin hts hC hP hS hl)
theorem evc_icmp_ge {x y : Int32} {off : Int} {t : Nat} (hd : decode cc pc = .ok (.if_icmp .ge off, 3)) (ht : (pc : Int) + off = (t : Int)) (hp : pc + 3 = q) (k1 : y ≤ x → EvC G base cc nL own ini d mc ms Q t lv st n fl mem kc ks) (k2 : ¬ y ≤ x → EvC G base cc nL own ini d mc ms Q q lv st n fl mem kc ks) : EvC G base cc nL own ini d mc ms Q pc lv (.int y :: .int x :: st) n fl mem kc ks := by
  subst hp
  intro p e s m args below meth c H locs ls g1 g2 hx hb hml hr hown hlk hin hts hC hP hS hl
  exact lv_icmp_ge hx hb hd ht (fun h => k1 h p e s m args below meth c H locs ls g1 g2 hx hb hml hr hown hlk hin hts hC hP hS hl) (fun h => k2 h p e s m args below meth c H locs ls g1 g2 hx hb hml hr hown hlk hin hts hC hP hS hl)
theorem evc_sub {lv' : List (Nat × Value)} (is : List Nat) (hl : lv_pick lv is = lv') (kk : EvC G base cc nL own ini d mc ms Q pc lv' st n fl mem kc ks) : EvC G base cc nL own ini d mc ms Q pc lv st n fl mem kc ks :=
  fun p e s m args below meth c H locs ls g1 g2 hx hb hml hr hown hlk hin hts hC hP hS hl2 => kk p e s m args below meth c H locs ls g1 g2 hx hb hml hr hown hlk hin hts hC hP hS (lv_sub hl2 is hl)
theorem evc_congr {fl' : Nat → Nat → Bool} (h : ∀ k, k < n → kd k < 100 → ∀ j, j < nf (kd k) → ir (kd k) j = true → fl k j = fl' k j) (kk : EvC G base cc nL own ini d mc ms Q pc lv st n fl' mem kc ks) : EvC G base cc nL own ini d mc ms Q pc lv st n fl mem kc ks :=
  fun p e s m args below meth c H locs ls g1 g2 hx hb hml hr hown hlk hin hts hC hP hS hl => kk p e s m args below meth c H locs ls g1 g2 hx hb hml hr hown hlk hin hts hC (hP.congr h) hS hl
theorem evc_objInit {idx a : Nat} (hd : decode cc pc = .ok (.invokespecial idx, 3)) (hp : pc + 3 = q) (hL : Cond.methodLink own idx Lib.objectInit ∈ AW) (w1 : Cond.instanceMethod Lib.objectInit ∈ AW) (w2 : Cond.code Lib.objectInit ⟨#[0xb1]⟩ 1 none ∈ AW) (hdd : 1 ≤ d) (hst : st = []) (kk : EvC G base cc nL own ini d mc ms Q q lv st n fl mem kc ks) : EvC G base cc nL own ini d mc ms Q pc lv (.ref a :: st) n fl mem kc ks := by
  subst hp
  subst hst
  intro p e s m args below meth c H locs ls g1 g2 hx hb hml hr hown hlk hin hts hC hP hS hl
  refine W.objInit hx hb hown (hts _ hL) (hts _ w1) (hts _ w2) rfl (by rw [hml]; exact hl.1) rfl hd hdd ?_ ?_
  · show 0 + 0 + 12 ≤ 64 * d
    omega
  · exact kk p e s m args below meth c H locs ls g1 g2 hx hb hml hr hown hlk hin hts hC hP hS hl
theorem evc_vret (hd : decode cc pc = .ok (.return_, 1)) (hkc : kc = mc) (hks : ks = ms) (hQ : Q n fl mem) : EvC G base cc nL own ini d mc ms Q pc lv [] n fl mem kc ks := by
  subst hkc
  subst hks
  intro p e s m args below meth c H locs ls g1 g2 hx hb hml hr hown hlk hin hts hC hP hS hl
  exact W.vret hx hb hr (fun t ht hW => ⟨⟨rfl, n, fl, mem, hQ, by rw [ht]; exact hP⟩, hS.F ht⟩) hS.2.2 hd
/-- a class that is made: its cell comes at the end -/
theorem evc_new {index : Nat} {C : String} {T : u_T} {ci : Nat} (hd : decode cc pc = .ok (.new index, 3)) (hp : pc + 3 = q) (hnn : n + 1 = nn) (F : CF ci C T) (hk : kd n = ci) (hci : ci < 100) (hdf : ∀ (ty : Nat → FieldType), (∀ k, k < nf ci → parseFieldDescriptor (T k).2.2.1 = some (ty k)) → ∀ j, j < nf ci → defaultValue (ty j) = if ir ci j = true then .null else .int 0) (w1 : Cond.classLink own index C ∈ AW) (w2 : Cond.instantiable C (nf ci) ∈ AW) (w3 : Cond.initialized C ∈ AW) (hfl : fl n = fun _ => false) (h1 : kc + 1 ≤ mc) (h2 : ks + nf ci ≤ ms)
    (kk : EvC G base cc nL own ini d mc ms Q q lv (.ref (gA G n) :: st) nn fl mem (kc + 1) (ks + nf ci)) : EvC G base cc nL own ini d mc ms Q pc lv st n fl mem kc ks := by
  subst hnn
  subst hp
  intro p e s m args below meth c H locs ls g1 g2 hx hb hml hr hown hlk hin hts hC hP hS hl
  obtain ⟨hc, hin1, ⟨ty0, hty0⟩, hnm⟩ := F
  have hKn := hC.1.1 ci _ hc
  refine W.newcK hx hb hown (hts _ w1) (hts _ w2) (hts _ w3) rfl hd h1 h2 hKn.2.1 hP.2.1 fun H1 kC hkC e1 z1 o1 => ?_
  have hsz := hP.2.1
  have hold : va_P (gD G) vwCl (cellsN G n fl mem) H1 := hP.1.kept (fun k x hx => o1 x.1 (by have := ((hP.1 k x hx).lt); omega))
  have hnew : va_P (gD G) vwCl (cellsN G (n + 1) fl mem) H1 := by
    rw [cn_succ]
    refine hold.app (fun k x hx => ?_)
    have hz : k < 1 := (List.getElem?_eq_some_iff.mp hx).1
    rw [show k = 0 by omega] at hx
    cases hx
    rw [cellF_o hk hci]
    refine ⟨_, hc, ?_⟩
    rw [g1 n]
    refine (u_born ty0 hts hin1 hKn hkC e1 hty0).to fun j hj => ?_
    rw [hdf ty0 hty0 j hj]
    show _ = ((List.range (nf ci)).map (fVn G n (fl n) (mem n))).getD j .null
    rw [List.getD_eq_getElem?_getD, fn_at hj]
    show _ = fVn G n (fl n) (mem n) j
    unfold fVn
    rw [hk, hfl, hP.2.2 n (Nat.le_refl n)]
    rfl
  have hbn : base + n = gA G n := (g1 n).symm
  have hfin : PW G base (n + 1) fl mem H1 := ⟨hnew, by rw [z1]; omega, fun k hk => hP.2.2 k (by omega)⟩
  have hS1 : va_S (aB base) s.heap H1 locs := ⟨by have := hS.1; omega, fun x h1 h2 => (o1 x (by have := hS.1; omega)).trans (hS.2.1 x h1 h2), hS.2.2⟩
  have := kk p e s m args below meth c H1 locs ls g1 g2 hx hb hml hr hown hlk hin hts hC hfin hS1 hl
  rw [← hbn] at this
  exact this
theorem evc_newa {atype : ArrayType} {ty : FieldType} {kdn N : Nat} {v : Int32} (hd : decode cc pc = .ok (.newarray atype, 2)) (hp : pc + 2 = q) (hnn : n + 1 = nn) (hty : newarray.typeOf atype = ty) (w1 : Cond.arrayClass (newarray.typeOf atype) ∈ AW) (hcase : (ty = .int ∧ kdn = 100) ∨ (ty = .boolean ∧ kdn = 101)) (hk : kd n = kdn) (hN : ln n = N) (hv0 : ¬ v < 0) (hvN : v.toNatClampNeg = N) (hb0 : N * componentBytes (newarray.typeOf atype) ≤ 536870912) (h1 : kc + 1 ≤ mc) (h2 : ks + N ≤ ms)
    (kk : EvC G base cc nL own ini d mc ms Q q lv (.ref (gA G n) :: st) nn fl mem (kc + 1) (ks + N)) : EvC G base cc nL own ini d mc ms Q pc lv (.int v :: st) n fl mem kc ks := by
  subst hnn
  subst hp
  intro p e s m args below meth c H locs ls g1 g2 hx hb hml hr hown hlk hin hts hC hP hS hl
  refine va_newaK hx hb (hts _ w1) rfl hd rfl hv0 hvN hb0 h1 h2 hP.2.1 fun H1 cA e1 z1 o1 hAr hNm => ?_
  have hsz := hP.2.1
  have hold : va_P (gD G) vwCl (cellsN G n fl mem) H1 := hP.1.kept (fun k x hx => o1 x.1 (by have := ((hP.1 k x hx).lt); omega))
  have hnew : va_P (gD G) vwCl (cellsN G (n + 1) fl mem) H1 := by
    rw [cn_succ]
    refine hold.app (fun k x hx => ?_)
    have hz : k < 1 := (List.getElem?_eq_some_iff.mp hx).1
    rw [show k = 0 by omega] at hx
    cases hx
    rw [hty] at e1 hNm
    rcases hcase with ⟨rfl, rfl⟩ | ⟨rfl, rfl⟩
    · have hcA : cA = gI G := Option.some.inj (hNm.symm.trans (hC.1.2 0 _ rfl).2)
      rw [cellF_i hk, hN]
      show H1[gA G n]? = some (vp_cell (gI G) (N, .inl (mem n)))
      rw [g1 n, e1, hcA, vp_cell_i, hP.2.2 n (Nat.le_refl n)]
      rfl
    · have hcA : cA = gZ G := Option.some.inj (hNm.symm.trans (hC.1.2 1 _ rfl).2)
      rw [cellF_z hk, hN]
      show H1[gA G n]? = some (vp_cell (gZ G) (N, .inl (mem n)))
      rw [g1 n, e1, hcA, vp_cell_i, hP.2.2 n (Nat.le_refl n)]
      rfl
  have hbn : base + n = gA G n := (g1 n).symm
  have hfin : PW G base (n + 1) fl mem H1 := ⟨hnew, by rw [z1]; omega, fun k hk => hP.2.2 k (by omega)⟩
  have hS1 : va_S (aB base) s.heap H1 locs := ⟨by have := hS.1; omega, fun x h1 h2 => (o1 x (by have := hS.1; omega)).trans (hS.2.1 x h1 h2), hS.2.2⟩
  have := kk p e s m args below meth c H1 locs ls g1 g2 hx hb hml hr hown hlk hin hts hC hfin hS1 hl
  rw [← hbn] at this
  exact this
/-- a final reference field is set in a constructor -/
theorem evc_putR {index : Nat} {T : u_T} {ci k0 j v : Nat} {ty : FieldType} (hd : decode cc pc = .ok (.putfield index, 3)) (hp : pc + 3 = q) (hini : ini = true) (F : CF ci own T) (hk : kd k0 = ci) (hj : j < nf ci) (hci : ci < 100) (hlt : k0 < n) (hv : rf k0 j = v) (hL : Cond.fieldLink own index (T j).1 (T j).2.1 (T j).2.2.1 ∈ AW) (hi : ir ci j = true) (hfin : (T j).2.2.2 = true) (hdecl : (T j).1 = own) (hty : parseFieldDescriptor (T j).2.2.1 = some ty) (hn : ∀ a, narrow ty (.ref a) = .ref a) (hfit : ∀ a, fits ty (.ref a) = true)
    (kk : EvC G base cc nL own ini d mc ms Q q lv st n (fl1 fl k0 (fun b => if b = j then true else fl k0 b)) mem kc ks) : EvC G base cc nL own ini d mc ms Q pc lv (.ref (gA G v) :: .ref (gA G k0) :: st) n fl mem kc ks := by
  subst hp
  subst hv
  intro p e s m args below meth c H locs ls g1 g2 hx hb hml hr hown hlk hin2 hts hC hP hS hl
  obtain ⟨hc, hin, ⟨ty0, hty0⟩, hnm⟩ := F
  have hap := va_apart (own := own) hts hin ty0 hty0 hnm hC.1 hc
  have he := cn_at (G := G) (fl := fl) (mem := mem) hlt
  rw [cellF_o hk hci] at he
  obtain ⟨r, h1, cell, q1, q2, q3, q4⟩ := hP.1 k0 _ he
  have hr1 : r = (own, T, nf ci) := Option.some.inj (h1.symm.trans hc)
  subst hr1
  obtain ⟨hSl, hfc, kC, hkC, hkind⟩ := hC.1.1 ci _ hc
  obtain ⟨cf, kf, fi, f, hif, hsl⟩ := hSl j hj
  have hlay := hts _ (hin _ (u_in_lay hj))
  unfold u_lay at hlay
  rw [if_pos hfin] at hlay
  have hst := (u_facts hfc hkC (u_lays hts hin hj) hif).1
  have hcf : m.cls = cf := by
    obtain ⟨_, _, c', _, _, _, -, -, hf', -, -, -, hown2, -⟩ := Cond.laysFinal_spec hlay
    have e1 : c' = cf := by have := hif.symm.trans hf'; simp at this; exact this.1.symm
    rw [hdecl] at hown2
    rw [← e1]; exact Option.some.inj (hown.symm.trans hown2)
  have h6 := u_fits hfc hkC hkind (Or.inr hlay) hif hty (hn (gA G (rf k0 j))) (hfit _)
  refine W.putFinK hx hb hown (hts _ hL) hif hst hcf (hin2 hini) (by rw [q2]; exact h6) q1 q3 (by rw [hsl]; exact k2_hasslot (q4 j hj)) rfl rfl hd fun H' e1 e2 e3 => ?_
  rw [hsl] at e1 ⊢
  have hset := hP.1.set (cn_D g1) he (e := .inr (ci, ((List.range (nf ci)).map (fVn G k0 (fl k0) (mem k0))).set j (.ref (gA G (rf k0 j))))) (H1 := H') ⟨_, hc, t_OB.to (V := updV (vp_V ((List.range (nf ci)).map (fVn G k0 (fl k0) (mem k0)))) j (.ref (gA G (rf k0 j)))) ⟨_, e1, q2, q3, t_set q4 hap hj _⟩ (fun i _ => vp_updV_set (by simp; exact hj) _ i)⟩ e3
  rw [fn_set hk hi, ← cellF_o (G := G) hk hci, cn_set hlt] at hset
  have hst1 : st1 mem k0 (mem k0) = mem := by
    funext a
    unfold st1
    by_cases ha : a = k0
    · rw [if_pos ha, ha]
    · rw [if_neg ha]
  rw [hst1] at hset
  exact kk p e s m args below meth c H' _ ls g1 g2 hx hb hml hr hown hlk hin2 hts hC ⟨hset, by rw [e2]; exact hP.2.1, hP.2.2⟩ (hS.put e2 e3 (by show base ≤ _; rw [g1]; omega)) hl
theorem evc_getR {index : Nat} {T : u_T} {ci k0 j v : Nat} (hd : decode cc pc = .ok (.getfield index, 3)) (hp : pc + 3 = q) (F : CF ci own T) (hk : kd k0 = ci) (hj : j < nf ci) (hci : ci < 100) (hlt : k0 < n) (hv : rf k0 j = v) (hL : Cond.fieldLink own index (T j).1 (T j).2.1 (T j).2.2.1 ∈ AW) (hi : ir ci j = true) (hf : fl k0 j = true) (kk : EvC G base cc nL own ini d mc ms Q q lv (.ref (gA G v) :: st) n fl mem kc ks) : EvC G base cc nL own ini d mc ms Q pc lv (.ref (gA G k0) :: st) n fl mem kc ks := by
  subst hp
  subst hv
  intro p e s m args below meth c H locs ls g1 g2 hx hb hml hr hown hlk hin2 hts hC hP hS hl
  obtain ⟨hc, hin, -, -⟩ := F
  have he := cn_at (G := G) (fl := fl) (mem := mem) hlt
  rw [cellF_o hk hci] at he
  have hfs := fn_at (G := G) (k := k0) (f := fl k0) (row := mem k0) hj
  rw [show fVn G k0 (fl k0) (mem k0) j = .ref (gA G (rf k0 j)) by unfold fVn; rw [hk, if_pos hi, if_pos hf]] at hfs
  exact va_get hx hb hts hin hown hC.1 hP.1 k0 he hc j hj (hts _ hL) (fun x h => h) hfs hd (kk p e s m args below meth c H locs ls g1 g2 hx hb hml hr hown hlk hin2 hts hC hP hS hl)
theorem evc_alen {k0 : Nat} (hd : decode cc pc = .ok (.arraylength, 1)) (hp : pc + 1 = q) (hk : kd k0 = 100) (hlt : k0 < n) (kk : EvC G base cc nL own ini d mc ms Q q lv (.int (Int32.ofNat (ln k0)) :: st) n fl mem kc ks) : EvC G base cc nL own ini d mc ms Q pc lv (.ref (gA G k0) :: st) n fl mem kc ks := by
  subst hp
  intro p e s m args below meth c H locs ls g1 g2 hx hb hml hr hown hlk hin2 hts hC hP hS hl
  have he := cn_at (G := G) (fl := fl) (mem := mem) hlt
  rw [cellF_i hk] at he
  exact va_alen hx hb hC.1 hP.1 k0 0 he rfl rfl hd (kk p e s m args below meth c H locs ls g1 g2 hx hb hml hr hown hlk hin2 hts hC hP hS hl)
theorem evc_iast {k0 : Nat} {i x : Int32} (hd : decode cc pc = .ok (.iastore, 1)) (hp : pc + 1 = q) (hk : kd k0 = 100) (hlt : k0 < n) (hin : vp_in i (ln k0)) (kk : EvC G base cc nL own ini d mc ms Q q lv st n fl (st2 mem k0 i.toNatClampNeg x) kc ks) : EvC G base cc nL own ini d mc ms Q pc lv (.int x :: .int i :: .ref (gA G k0) :: st) n fl mem kc ks := by
  subst hp
  intro p e s m args below meth c H locs ls g1 g2 hx hb hml hr hown hlk hin2 hts hC hP hS hl
  have he := cn_at (G := G) (fl := fl) (mem := mem) hlt
  rw [cellF_i hk] at he
  refine W.iast hx hb (hP.1 k0 _ he) ((hC.1.2 0 _ rfl).1 (ln k0) (fun j => .int (mem k0 j))) (fun q => by cases q) (by show ¬ (i < 0 ∨ (arrV _ _ _).slots.size ≤ _); rw [arrV_size]; exact hin) rfl rfl hd fun H1 e1 z oq => ?_
  have hset := hP.1.set (cn_D g1) he (e := .inl (gI G, ln k0, .inl (upd (mem k0) i.toNatClampNeg x))) (H1 := H1) (by
    show H1[gA G k0]? = some (vp_cell _ _)
    rw [e1]
    rw [vp_cell_i, vp_cell_i, arrV_store]
    congr 2
    funext q
    by_cases hq : q = i.toNatClampNeg
    · subst hq
      simp [updV, upd]
    · simp [updV, upd, hq]) oq
  rw [← cellF_i (G := G) (f := fl k0) hk, cn_set hlt] at hset
  have hfl : fl1 fl k0 (fl k0) = fl := by
    funext a
    unfold fl1
    by_cases ha : a = k0
    · rw [if_pos ha, ha]
    · rw [if_neg ha]
  rw [hfl] at hset
  exact kk p e s m args below meth c H1 _ ls g1 g2 hx hb hml hr hown hlk hin2 hts hC ⟨hset, by rw [z]; exact hP.2.1, fun a ha => by show st1 _ _ _ a = _; unfold st1; rw [if_neg (by omega)]; exact hP.2.2 a ha⟩ (hS.put z oq (by show base ≤ _; rw [g1]; omega)) hl
-- calls
variable {y : MethodName} {bytes : ByteArray} {maxL : Nat} {d2 mc2 ms2 np index : Nat} {As vs : List Value} {Q2 : Nat → (Nat → Nat → Bool) → Mem → Prop}
theorem conC_of (hy : plainName y.cls = true) (hini : ini = true → y.name = "<init>") (hn : (lg_sl vs).length ≤ nL) (h : EvC G base cc nL y.cls ini d mc ms Q 0 (lv_args 0 vs) [] n fl mem 0 0) : ConC G base y cc nL d mc ms vs n fl mem Q := by
  refine Met.ofW (cc := cc) (maxL := nL) (ret := none) hy rfl ?_
  intro p e s m args below meth c s₁ B hml hpc
  obtain ⟨rfl, hP, hC, hB⟩ := hpc
  have hts0 := atoms_spec (ws := Cond.code y cc nL none :: AW) B.pre
  have hl := lv_entry vs (n := nL) hn
  rw [lg_entry_eq]
  generalize (lg_sl vs ++ List.replicate (nL - (lg_sl vs).length) Slot.unset).toArray = ls at hl ⊢
  exact h p e s m _ below meth c s.heap [] ls hB (by have := hP.2.1; omega) B.exec B.bytes hml B.returns (findClass_of_methodNamed B.named) B.notSynchronized (fun hi => (name_of_methodNamed B.named B.method).1.trans (hini hi)) (fun w hw => hts0 w (List.mem_cons_of_mem _ hw)) hC hP va_S.rf hl
theorem evc_run (hp : pc + 3 = q) {As2 : Array Value}
    (hrun : ∀ (p : Program) (e : Env) (s : State) (m : MethodId) (args : Array Value) (below : List Frame) (meth : Method) (c : Code) (H : Heap) (locs : List Loc) (ls : Array Slot),
      (∀ k, gA G k = base + k) → p.tables.exec = Jvm.exec → c.code = cc → c.maxLocals = nL → s.vm.findClass own = some m.cls → (∀ w ∈ AW, w.before args s = true) → C0 G s → PW G base n fl mem H → lv_has ls nL lv →
      va_Run p (gL G) e { frames := d, cells := mc, slots := ms, locals := 64 * d } s m args below meth c H locs kc ks mc2 ms2 (F0 m pc ls stk) st (EQC G base Q2 As2) (aB base))
    (kk : ∀ n2 fl2 mem2, Q2 n2 fl2 mem2 → EvC G base cc nL own ini d mc ms Q q lv st n2 fl2 mem2 (kc + mc2) (ks + ms2)) : EvC G base cc nL own ini d mc ms Q pc lv stk n fl mem kc ks := by
  subst hp
  intro p e s m args below meth c H locs ls g1 g2 hx hb hml hr hown hlk hin2 hts hC hP hS hl
  have hR := hrun p e s m args below meth c H locs ls g1 hx hb hml hown hts hC hP hl
  intro T hT X
  obtain ⟨v, st₀, t, T', L, h0, X', hL, e1, e4, ⟨⟨hvv, n2, fl2, mem2, hQ2, hW⟩, hz, hk⟩, go⟩ := hR T hT X
  cases hvv
  rw [h0] at hz hk
  have hS1 : va_S (aB base) s.heap T'.heap (locs ++ L) := ⟨Nat.le_trans hS.1 (by rw [e1]; exact hz), fun q h1 h2 => by rw [e1, hk q (Nat.lt_of_lt_of_le h1 hS.1) h2]; exact hS.2.1 q h1 h2, fun q hq => by
      rcases List.mem_append.mp hq with h | h
      · exact hS.2.2 q h
      · exact hL q h⟩
  obtain ⟨t2, a1, b1⟩ := kk n2 fl2 mem2 hQ2 p e s m args below meth c T'.heap (locs ++ L) ls g1 g2 hx hb hml hr hown hlk hin2 hts hC (by rw [e1]; exact hW) hS1 hl T' rfl X'
  exact ⟨t2, go t2 a1, b1⟩
theorem pcC_blind : FrameBlind (va_Pc vs (fun U => PW G base n fl mem U.heap ∧ C0 G U ∧ (∀ k, gA G k = base + k))) := fun a U g mk h => ⟨h.1, h.2.1, h.2.2.1.same rfl, h.2.2.2⟩
theorem evc_callI {b : Nat} (hd : decode cc pc = .ok (.invokespecial index, 3)) (hp : pc + 3 = q) (hL : Cond.methodLink own index y ∈ AW) (w1 : Cond.code y bytes maxL none ∈ AW) (w2 : Cond.instanceMethod y ∈ AW) (w3 : Cond.initialized y.cls ∈ AW) (hy : y.name = "<init>") (w5 : okD (some np) y) (hc : ConC G base y bytes maxL d2 mc2 ms2 (.ref (gA G b) :: As) n fl mem Q2) (hn : As.length = np) (hdd : d2 + 1 ≤ d) (hmx : maxL ≤ 40) (hst : stk = As.reverse ++ .ref (gA G b) :: st) (hcat : (st.map fun v => v.category).sum ≤ 8) (h1 : kc + mc2 ≤ mc) (h2 : ks + ms2 ≤ ms)
    (kk : ∀ n2 fl2 mem2, Q2 n2 fl2 mem2 → EvC G base cc nL own ini d mc ms Q q lv st n2 fl2 mem2 (kc + mc2) (ks + ms2)) : EvC G base cc nL own ini d mc ms Q pc lv stk n fl mem kc ks := by
  refine evc_run hp (As2 := (Value.ref (gA G b) :: As).toArray) (fun p e s m args below meth c H locs ls g1 hx hb hml hown hts hC hP hl => ?_) kk
  refine va_runI (As := As) (rest := st) (n := np) ⟨hx, hb, hml, hown, hts⟩ hc (cwI np hts (goodAW fun w hw => ?_) rfl rfl rfl (hts _ w3) (hts _ hL) (hts _ w2) hy w5 ⟨hdd, ?_⟩) ⟨pcC_blind, fun U hU hW => ⟨rfl, by rw [hU]; exact hP, hC.moved hW, g1⟩⟩ rfl hn hl.1 hst (lv_room hcat) hd ⟨h1, h2⟩
  · rcases List.mem_cons.mp hw with rfl | hw
    · exact w1
    · exact hw
  · show 8 + (maxL + 11) + 64 * d2 ≤ 64 * d
    omega
theorem evc_callIN {b : Nat} {host : String} (hd : decode cc pc = .ok (.invokespecial index, 3)) (hp : pc + 3 = q) (hL : Cond.methodLinkNest own index y host ∈ NW) (w1 : Cond.code y bytes maxL none ∈ AW) (w2 : Cond.instanceMethod y ∈ AW) (w3 : Cond.initialized y.cls ∈ AW) (hy : y.name = "<init>") (w5 : okD (some np) y) (hc : ConC G base y bytes maxL d2 mc2 ms2 (.ref (gA G b) :: As) n fl mem Q2) (hn : As.length = np) (hdd : d2 + 1 ≤ d) (hmx : maxL ≤ 40) (hst : stk = As.reverse ++ .ref (gA G b) :: st) (hcat : (st.map fun v => v.category).sum ≤ 8) (h1 : kc + mc2 ≤ mc) (h2 : ks + ms2 ≤ ms)
    (kk : ∀ n2 fl2 mem2, Q2 n2 fl2 mem2 → EvC G base cc nL own ini d mc ms Q q lv st n2 fl2 mem2 (kc + mc2) (ks + ms2)) : EvC G base cc nL own ini d mc ms Q pc lv stk n fl mem kc ks := by
  refine evc_run hp (As2 := (Value.ref (gA G b) :: As).toArray) (fun p e s m args below meth c H locs ls g1 hx hb hml hown hts hC hP hl => ?_) kk
  refine va_runIN (As := As) (rest := st) (n := np) ⟨hx, hb, hml, hown, hts⟩ hc ⟨va_cnB np hts (goodAW fun w hw => ?_) rfl rfl rfl (hC.2 _ hL) (hts _ w3) w5 ⟨hdd, ?_⟩, hy, hts _ w2⟩ ⟨pcC_blind, fun U hU hW => ⟨rfl, by rw [hU]; exact hP, hC.moved hW, g1⟩⟩ rfl hn hl.1 hst (lv_room hcat) hd ⟨h1, h2⟩
  · rcases List.mem_cons.mp hw with rfl | hw
    · exact w1
    · exact hw
  · show 8 + (maxL + 11) + 64 * d2 ≤ 64 * d
    omega
theorem evc_callS (hd : decode cc pc = .ok (.invokestatic index, 3)) (hp : pc + 3 = q) (hL : Cond.methodLink own index y ∈ AW) (hM : MTS y bytes maxL none np) (hc : ConC G base y bytes maxL d2 mc2 ms2 As n fl mem Q2) (hn : As.length = np) (hdd : d2 + 1 ≤ d) (hmx : maxL ≤ 40) (hst : stk = As.reverse ++ st) (hcat : (st.map fun v => v.category).sum ≤ 8) (h1 : kc + mc2 ≤ mc) (h2 : ks + ms2 ≤ ms)
    (kk : ∀ n2 fl2 mem2, Q2 n2 fl2 mem2 → EvC G base cc nL own ini d mc ms Q q lv st n2 fl2 mem2 (kc + mc2) (ks + ms2)) : EvC G base cc nL own ini d mc ms Q pc lv stk n fl mem kc ks := by
  refine evc_run hp (As2 := As.toArray) (fun p e s m args below meth c H locs ls g1 hx hb hml hown hts hC hP hl => ?_) kk
  obtain ⟨w1, w2, w4, w5⟩ := hM
  refine va_runS (As := As) (rest := st) (n := np) ⟨hx, hb, hml, hown, hts⟩ hc (va_cwS np hts (goodAW fun w hw => ?_) rfl rfl rfl w5 ⟨hdd, ?_⟩) ⟨pcC_blind, fun U hU hW => ⟨rfl, by rw [hU]; exact hP, hC.moved hW, g1⟩⟩ rfl hn hl.1 hst (lv_room hcat) hd ⟨h1, h2⟩
  · simp only [va_wsS, List.cons_append, List.nil_append, List.mem_cons] at hw
    rcases hw with rfl | rfl | rfl | rfl | hw
    · exact hL
    · exact w2
    · exact w4
    · exact w1
    · exact hw
  · show 8 + (maxL + 11) + 64 * d2 ≤ 64 * d
    omega
end RULESC
end
section
def flA (fl : Nat → Nat → Bool) (lo hi : Nat) : Nat → Nat → Bool := fun a => if lo ≤ a ∧ a < hi then (fun _ => true) else fl a
theorem gap_n {a k g h : Nat} (hak : ¬ a = k) (hin : k ≤ a ∧ a < h) (e : h = k + (g + 1)) : a - (k + 1) < g ∧ k + 1 + (a - (k + 1)) = a := by omega
theorem oi_i : Cond.instanceMethod Lib.objectInit ∈ AW := AW_t (tb_1 (i := 18) rfl) rfl
theorem oi_c : Cond.code Lib.objectInit ⟨#[0xb1]⟩ 1 none ∈ AW := AW_t (tb_1 (i := 19) rfl) rfl
theorem arr_i : Cond.arrayClass (newarray.typeOf .int) ∈ AW := AW_t (tb_1 (i := 39) rfl) rfl
theorem arr_z : Cond.arrayClass (newarray.typeOf .boolean) ∈ AW := AW_t (tb_4 (i := 103) rfl) rfl
theorem df_0 : ∀ (ty : Nat → FieldType), (∀ k, k < nf 0 → parseFieldDescriptor (TX0 k).2.2.1 = some (ty k)) → ∀ j, j < nf 0 → defaultValue (ty j) = if ir 0 j = true then .null else .int 0 := by
  intro ty h j hj
  have e := h j hj
  rw [tyX0_ok j hj] at e
  rw [← Option.some.inj e]
  exact (show ∀ j, j < nf 0 → defaultValue (tyX0 j) = if ir 0 j = true then .null else .int 0 by decide) j hj
theorem df_1 : ∀ (ty : Nat → FieldType), (∀ k, k < nf 1 → parseFieldDescriptor (TX1 k).2.2.1 = some (ty k)) → ∀ j, j < nf 1 → defaultValue (ty j) = if ir 1 j = true then .null else .int 0 := by
  intro ty h j hj
  have e := h j hj
  rw [tyX1_ok j hj] at e
  rw [← Option.some.inj e]
  exact (show ∀ j, j < nf 1 → defaultValue (tyX1 j) = if ir 1 j = true then .null else .int 0 by decide) j hj
theorem df_2 : ∀ (ty : Nat → FieldType), (∀ k, k < nf 2 → parseFieldDescriptor (TX2 k).2.2.1 = some (ty k)) → ∀ j, j < nf 2 → defaultValue (ty j) = if ir 2 j = true then .null else .int 0 := by
  intro ty h j hj
  have e := h j hj
  rw [tyX2_ok j hj] at e
  rw [← Option.some.inj e]
  exact (show ∀ j, j < nf 2 → defaultValue (tyX2 j) = if ir 2 j = true then .null else .int 0 by decide) j hj
theorem df_3 : ∀ (ty : Nat → FieldType), (∀ k, k < nf 3 → parseFieldDescriptor (TX3 k).2.2.1 = some (ty k)) → ∀ j, j < nf 3 → defaultValue (ty j) = if ir 3 j = true then .null else .int 0 := by
  intro ty h j hj
  have e := h j hj
  rw [tyX3_ok j hj] at e
  rw [← Option.some.inj e]
  exact (show ∀ j, j < nf 3 → defaultValue (tyX3 j) = if ir 3 j = true then .null else .int 0 by decide) j hj
theorem df_4 : ∀ (ty : Nat → FieldType), (∀ k, k < nf 4 → parseFieldDescriptor (TX4 k).2.2.1 = some (ty k)) → ∀ j, j < nf 4 → defaultValue (ty j) = if ir 4 j = true then .null else .int 0 := by
  intro ty h j hj
  have e := h j hj
  rw [tyX4_ok j hj] at e
  rw [← Option.some.inj e]
  exact (show ∀ j, j < nf 4 → defaultValue (tyX4 j) = if ir 4 j = true then .null else .int 0 by decide) j hj
theorem df_5 : ∀ (ty : Nat → FieldType), (∀ k, k < nf 5 → parseFieldDescriptor (TX5 k).2.2.1 = some (ty k)) → ∀ j, j < nf 5 → defaultValue (ty j) = if ir 5 j = true then .null else .int 0 := by
  intro ty h j hj
  have e := h j hj
  rw [tyX5_ok j hj] at e
  rw [← Option.some.inj e]
  exact (show ∀ j, j < nf 5 → defaultValue (tyX5 j) = if ir 5 j = true then .null else .int 0 by decide) j hj
theorem df_6 : ∀ (ty : Nat → FieldType), (∀ k, k < nf 6 → parseFieldDescriptor (TX6 k).2.2.1 = some (ty k)) → ∀ j, j < nf 6 → defaultValue (ty j) = if ir 6 j = true then .null else .int 0 := by
  intro ty h j hj
  have e := h j hj
  rw [tyX6_ok j hj] at e
  rw [← Option.some.inj e]
  exact (show ∀ j, j < nf 6 → defaultValue (tyX6 j) = if ir 6 j = true then .null else .int 0 by decide) j hj
theorem df_7 : ∀ (ty : Nat → FieldType), (∀ k, k < nf 7 → parseFieldDescriptor (TX7 k).2.2.1 = some (ty k)) → ∀ j, j < nf 7 → defaultValue (ty j) = if ir 7 j = true then .null else .int 0 := by
  intro ty h j hj
  have e := h j hj
  rw [tyX7_ok j hj] at e
  rw [← Option.some.inj e]
  exact (show ∀ j, j < nf 7 → defaultValue (tyX7 j) = if ir 7 j = true then .null else .int 0 by decide) j hj
theorem sf_4_hk1 {k : Nat} (h : kd k = 4) : kd (k + 1) = 100 := (show ∀ k, k < NC → kd k = 4 → kd (k + 1) = 100 by decide +kernel) k (kd_lt h (by decide)) h
theorem sf_4_hn1 {k : Nat} (h : kd k = 4) : ln (k + 1) = 8 := (show ∀ k, k < NC → kd k = 4 → ln (k + 1) = 8 by decide +kernel) k (kd_lt h (by decide)) h
theorem sf_4_hk2 {k : Nat} (h : kd k = 4) : kd (k + 2) = 100 := (show ∀ k, k < NC → kd k = 4 → kd (k + 2) = 100 by decide +kernel) k (kd_lt h (by decide)) h
theorem sf_4_hn2 {k : Nat} (h : kd k = 4) : ln (k + 2) = 8 := (show ∀ k, k < NC → kd k = 4 → ln (k + 2) = 8 by decide +kernel) k (kd_lt h (by decide)) h
theorem sf_4_hk3 {k : Nat} (h : kd k = 4) : kd (k + 3) = 100 := (show ∀ k, k < NC → kd k = 4 → kd (k + 3) = 100 by decide +kernel) k (kd_lt h (by decide)) h
theorem sf_4_hn3 {k : Nat} (h : kd k = 4) : ln (k + 3) = 320 := (show ∀ k, k < NC → kd k = 4 → ln (k + 3) = 320 by decide +kernel) k (kd_lt h (by decide)) h
theorem sf_4_hr0 {k : Nat} (h : kd k = 4) : rf k 0 = k + 1 := (show ∀ k, k < NC → kd k = 4 → rf k 0 = k + 1 by decide +kernel) k (kd_lt h (by decide)) h
theorem sf_4_hr1 {k : Nat} (h : kd k = 4) : rf k 1 = k + 2 := (show ∀ k, k < NC → kd k = 4 → rf k 1 = k + 2 by decide +kernel) k (kd_lt h (by decide)) h
theorem sf_4_hr2 {k : Nat} (h : kd k = 4) : rf k 2 = k + 3 := (show ∀ k, k < NC → kd k = 4 → rf k 2 = k + 3 by decide +kernel) k (kd_lt h (by decide)) h
theorem sf_4_A {k : Nat} (h : kd k = 4) : ∀ i, i < 3 → 100 ≤ kd (k + 1 + i) := (show ∀ k, k < NC → kd k = 4 → ∀ i, i < 3 → 100 ≤ kd (k + 1 + i) by decide +kernel) k (kd_lt h (by decide)) h
theorem sf_5_hk1 {k : Nat} (h : kd k = 5) : kd (k + 1) = 100 := (show ∀ k, k < NC → kd k = 5 → kd (k + 1) = 100 by decide +kernel) k (kd_lt h (by decide)) h
theorem sf_5_hn1 {k : Nat} (h : kd k = 5) : ln (k + 1) = 120 := (show ∀ k, k < NC → kd k = 5 → ln (k + 1) = 120 by decide +kernel) k (kd_lt h (by decide)) h
theorem sf_5_hr0 {k : Nat} (h : kd k = 5) : rf k 0 = k + 1 := (show ∀ k, k < NC → kd k = 5 → rf k 0 = k + 1 by decide +kernel) k (kd_lt h (by decide)) h
theorem sf_5_A {k : Nat} (h : kd k = 5) : ∀ i, i < 1 → 100 ≤ kd (k + 1 + i) := (show ∀ k, k < NC → kd k = 5 → ∀ i, i < 1 → 100 ≤ kd (k + 1 + i) by decide +kernel) k (kd_lt h (by decide)) h
theorem sf_3_hk1 {k : Nat} (h : kd k = 3) : kd (k + 1) = 100 := (show ∀ k, k < NC → kd k = 3 → kd (k + 1) = 100 by decide +kernel) k (kd_lt h (by decide)) h
theorem sf_3_hn1 {k : Nat} (h : kd k = 3) : ln (k + 1) = 6 := (show ∀ k, k < NC → kd k = 3 → ln (k + 1) = 6 by decide +kernel) k (kd_lt h (by decide)) h
theorem sf_3_hk2 {k : Nat} (h : kd k = 3) : kd (k + 2) = 100 := (show ∀ k, k < NC → kd k = 3 → kd (k + 2) = 100 by decide +kernel) k (kd_lt h (by decide)) h
theorem sf_3_hn2 {k : Nat} (h : kd k = 3) : ln (k + 2) = 6 := (show ∀ k, k < NC → kd k = 3 → ln (k + 2) = 6 by decide +kernel) k (kd_lt h (by decide)) h
theorem sf_3_hk3 {k : Nat} (h : kd k = 3) : kd (k + 3) = 100 := (show ∀ k, k < NC → kd k = 3 → kd (k + 3) = 100 by decide +kernel) k (kd_lt h (by decide)) h
theorem sf_3_hn3 {k : Nat} (h : kd k = 3) : ln (k + 3) = 6 := (show ∀ k, k < NC → kd k = 3 → ln (k + 3) = 6 by decide +kernel) k (kd_lt h (by decide)) h
theorem sf_3_hk4 {k : Nat} (h : kd k = 3) : kd (k + 4) = 100 := (show ∀ k, k < NC → kd k = 3 → kd (k + 4) = 100 by decide +kernel) k (kd_lt h (by decide)) h
theorem sf_3_hn4 {k : Nat} (h : kd k = 3) : ln (k + 4) = 4 := (show ∀ k, k < NC → kd k = 3 → ln (k + 4) = 4 by decide +kernel) k (kd_lt h (by decide)) h
theorem sf_3_hk5 {k : Nat} (h : kd k = 3) : kd (k + 5) = 100 := (show ∀ k, k < NC → kd k = 3 → kd (k + 5) = 100 by decide +kernel) k (kd_lt h (by decide)) h
theorem sf_3_hn5 {k : Nat} (h : kd k = 3) : ln (k + 5) = 4 := (show ∀ k, k < NC → kd k = 3 → ln (k + 5) = 4 by decide +kernel) k (kd_lt h (by decide)) h
theorem sf_3_hk6 {k : Nat} (h : kd k = 3) : kd (k + 6) = 100 := (show ∀ k, k < NC → kd k = 3 → kd (k + 6) = 100 by decide +kernel) k (kd_lt h (by decide)) h
theorem sf_3_hn6 {k : Nat} (h : kd k = 3) : ln (k + 6) = 4 := (show ∀ k, k < NC → kd k = 3 → ln (k + 6) = 4 by decide +kernel) k (kd_lt h (by decide)) h
theorem sf_3_hk7 {k : Nat} (h : kd k = 3) : kd (k + 7) = 100 := (show ∀ k, k < NC → kd k = 3 → kd (k + 7) = 100 by decide +kernel) k (kd_lt h (by decide)) h
theorem sf_3_hn7 {k : Nat} (h : kd k = 3) : ln (k + 7) = 4 := (show ∀ k, k < NC → kd k = 3 → ln (k + 7) = 4 by decide +kernel) k (kd_lt h (by decide)) h
theorem sf_3_hk8 {k : Nat} (h : kd k = 3) : kd (k + 8) = 100 := (show ∀ k, k < NC → kd k = 3 → kd (k + 8) = 100 by decide +kernel) k (kd_lt h (by decide)) h
theorem sf_3_hn8 {k : Nat} (h : kd k = 3) : ln (k + 8) = 24 := (show ∀ k, k < NC → kd k = 3 → ln (k + 8) = 24 by decide +kernel) k (kd_lt h (by decide)) h
theorem sf_3_hr4 {k : Nat} (h : kd k = 3) : rf k 4 = k + 1 := (show ∀ k, k < NC → kd k = 3 → rf k 4 = k + 1 by decide +kernel) k (kd_lt h (by decide)) h
theorem sf_3_hr5 {k : Nat} (h : kd k = 3) : rf k 5 = k + 2 := (show ∀ k, k < NC → kd k = 3 → rf k 5 = k + 2 by decide +kernel) k (kd_lt h (by decide)) h
theorem sf_3_hr6 {k : Nat} (h : kd k = 3) : rf k 6 = k + 3 := (show ∀ k, k < NC → kd k = 3 → rf k 6 = k + 3 by decide +kernel) k (kd_lt h (by decide)) h
theorem sf_3_hr8 {k : Nat} (h : kd k = 3) : rf k 8 = k + 4 := (show ∀ k, k < NC → kd k = 3 → rf k 8 = k + 4 by decide +kernel) k (kd_lt h (by decide)) h
theorem sf_3_hr9 {k : Nat} (h : kd k = 3) : rf k 9 = k + 5 := (show ∀ k, k < NC → kd k = 3 → rf k 9 = k + 5 by decide +kernel) k (kd_lt h (by decide)) h
theorem sf_3_hr10 {k : Nat} (h : kd k = 3) : rf k 10 = k + 6 := (show ∀ k, k < NC → kd k = 3 → rf k 10 = k + 6 by decide +kernel) k (kd_lt h (by decide)) h
theorem sf_3_hr11 {k : Nat} (h : kd k = 3) : rf k 11 = k + 7 := (show ∀ k, k < NC → kd k = 3 → rf k 11 = k + 7 by decide +kernel) k (kd_lt h (by decide)) h
theorem sf_3_hr12 {k : Nat} (h : kd k = 3) : rf k 12 = k + 8 := (show ∀ k, k < NC → kd k = 3 → rf k 12 = k + 8 by decide +kernel) k (kd_lt h (by decide)) h
theorem sf_3_A {k : Nat} (h : kd k = 3) : ∀ i, i < 8 → 100 ≤ kd (k + 1 + i) := (show ∀ k, k < NC → kd k = 3 → ∀ i, i < 8 → 100 ≤ kd (k + 1 + i) by decide +kernel) k (kd_lt h (by decide)) h
theorem sf_0_hk1 {k : Nat} (h : kd k = 0) : kd (k + 1) = 100 := (show ∀ k, k < NC → kd k = 0 → kd (k + 1) = 100 by decide +kernel) k (kd_lt h (by decide)) h
theorem sf_0_hn1 {k : Nat} (h : kd k = 0) : ln (k + 1) = 24 := (show ∀ k, k < NC → kd k = 0 → ln (k + 1) = 24 by decide +kernel) k (kd_lt h (by decide)) h
theorem sf_0_hk2 {k : Nat} (h : kd k = 0) : kd (k + 2) = 100 := (show ∀ k, k < NC → kd k = 0 → kd (k + 2) = 100 by decide +kernel) k (kd_lt h (by decide)) h
theorem sf_0_hn2 {k : Nat} (h : kd k = 0) : ln (k + 2) = 24 := (show ∀ k, k < NC → kd k = 0 → ln (k + 2) = 24 by decide +kernel) k (kd_lt h (by decide)) h
theorem sf_0_hk3 {k : Nat} (h : kd k = 0) : kd (k + 3) = 100 := (show ∀ k, k < NC → kd k = 0 → kd (k + 3) = 100 by decide +kernel) k (kd_lt h (by decide)) h
theorem sf_0_hn3 {k : Nat} (h : kd k = 0) : ln (k + 3) = 24 := (show ∀ k, k < NC → kd k = 0 → ln (k + 3) = 24 by decide +kernel) k (kd_lt h (by decide)) h
theorem sf_0_hk4 {k : Nat} (h : kd k = 0) : kd (k + 4) = 100 := (show ∀ k, k < NC → kd k = 0 → kd (k + 4) = 100 by decide +kernel) k (kd_lt h (by decide)) h
theorem sf_0_hn4 {k : Nat} (h : kd k = 0) : ln (k + 4) = 24 := (show ∀ k, k < NC → kd k = 0 → ln (k + 4) = 24 by decide +kernel) k (kd_lt h (by decide)) h
theorem sf_0_hk5 {k : Nat} (h : kd k = 0) : kd (k + 5) = 100 := (show ∀ k, k < NC → kd k = 0 → kd (k + 5) = 100 by decide +kernel) k (kd_lt h (by decide)) h
theorem sf_0_hn5 {k : Nat} (h : kd k = 0) : ln (k + 5) = 24 := (show ∀ k, k < NC → kd k = 0 → ln (k + 5) = 24 by decide +kernel) k (kd_lt h (by decide)) h
theorem sf_0_hk6 {k : Nat} (h : kd k = 0) : kd (k + 6) = 100 := (show ∀ k, k < NC → kd k = 0 → kd (k + 6) = 100 by decide +kernel) k (kd_lt h (by decide)) h
theorem sf_0_hn6 {k : Nat} (h : kd k = 0) : ln (k + 6) = 24 := (show ∀ k, k < NC → kd k = 0 → ln (k + 6) = 24 by decide +kernel) k (kd_lt h (by decide)) h
theorem sf_0_hk7 {k : Nat} (h : kd k = 0) : kd (k + 7) = 100 := (show ∀ k, k < NC → kd k = 0 → kd (k + 7) = 100 by decide +kernel) k (kd_lt h (by decide)) h
theorem sf_0_hn7 {k : Nat} (h : kd k = 0) : ln (k + 7) = 24 := (show ∀ k, k < NC → kd k = 0 → ln (k + 7) = 24 by decide +kernel) k (kd_lt h (by decide)) h
theorem sf_0_hr0 {k : Nat} (h : kd k = 0) : rf k 0 = k + 1 := (show ∀ k, k < NC → kd k = 0 → rf k 0 = k + 1 by decide +kernel) k (kd_lt h (by decide)) h
theorem sf_0_hr1 {k : Nat} (h : kd k = 0) : rf k 1 = k + 2 := (show ∀ k, k < NC → kd k = 0 → rf k 1 = k + 2 by decide +kernel) k (kd_lt h (by decide)) h
theorem sf_0_hr2 {k : Nat} (h : kd k = 0) : rf k 2 = k + 3 := (show ∀ k, k < NC → kd k = 0 → rf k 2 = k + 3 by decide +kernel) k (kd_lt h (by decide)) h
theorem sf_0_hr3 {k : Nat} (h : kd k = 0) : rf k 3 = k + 4 := (show ∀ k, k < NC → kd k = 0 → rf k 3 = k + 4 by decide +kernel) k (kd_lt h (by decide)) h
theorem sf_0_hr4 {k : Nat} (h : kd k = 0) : rf k 4 = k + 5 := (show ∀ k, k < NC → kd k = 0 → rf k 4 = k + 5 by decide +kernel) k (kd_lt h (by decide)) h
theorem sf_0_hr5 {k : Nat} (h : kd k = 0) : rf k 5 = k + 6 := (show ∀ k, k < NC → kd k = 0 → rf k 5 = k + 6 by decide +kernel) k (kd_lt h (by decide)) h
theorem sf_0_hr6 {k : Nat} (h : kd k = 0) : rf k 6 = k + 7 := (show ∀ k, k < NC → kd k = 0 → rf k 6 = k + 7 by decide +kernel) k (kd_lt h (by decide)) h
theorem sf_0_A {k : Nat} (h : kd k = 0) : ∀ i, i < 7 → 100 ≤ kd (k + 1 + i) := (show ∀ k, k < NC → kd k = 0 → ∀ i, i < 7 → 100 ≤ kd (k + 1 + i) by decide +kernel) k (kd_lt h (by decide)) h
theorem sf_2_hk1 {k : Nat} (h : kd k = 2) : kd (k + 1) = 100 := (show ∀ k, k < NC → kd k = 2 → kd (k + 1) = 100 by decide +kernel) k (kd_lt h (by decide)) h
theorem sf_2_hn1 {k : Nat} (h : kd k = 2) : ln (k + 1) = 4 := (show ∀ k, k < NC → kd k = 2 → ln (k + 1) = 4 by decide +kernel) k (kd_lt h (by decide)) h
theorem sf_2_hk2 {k : Nat} (h : kd k = 2) : kd (k + 2) = 100 := (show ∀ k, k < NC → kd k = 2 → kd (k + 2) = 100 by decide +kernel) k (kd_lt h (by decide)) h
theorem sf_2_hn2 {k : Nat} (h : kd k = 2) : ln (k + 2) = 6 := (show ∀ k, k < NC → kd k = 2 → ln (k + 2) = 6 by decide +kernel) k (kd_lt h (by decide)) h
theorem sf_2_hk3 {k : Nat} (h : kd k = 2) : kd (k + 3) = 100 := (show ∀ k, k < NC → kd k = 2 → kd (k + 3) = 100 by decide +kernel) k (kd_lt h (by decide)) h
theorem sf_2_hn3 {k : Nat} (h : kd k = 2) : ln (k + 3) = 64 := (show ∀ k, k < NC → kd k = 2 → ln (k + 3) = 64 by decide +kernel) k (kd_lt h (by decide)) h
theorem sf_2_hr0 {k : Nat} (h : kd k = 2) : rf k 0 = k + 1 := (show ∀ k, k < NC → kd k = 2 → rf k 0 = k + 1 by decide +kernel) k (kd_lt h (by decide)) h
theorem sf_2_hr1 {k : Nat} (h : kd k = 2) : rf k 1 = k + 2 := (show ∀ k, k < NC → kd k = 2 → rf k 1 = k + 2 by decide +kernel) k (kd_lt h (by decide)) h
theorem sf_2_hr2 {k : Nat} (h : kd k = 2) : rf k 2 = k + 3 := (show ∀ k, k < NC → kd k = 2 → rf k 2 = k + 3 by decide +kernel) k (kd_lt h (by decide)) h
theorem sf_2_A {k : Nat} (h : kd k = 2) : ∀ i, i < 3 → 100 ≤ kd (k + 1 + i) := (show ∀ k, k < NC → kd k = 2 → ∀ i, i < 3 → 100 ≤ kd (k + 1 + i) by decide +kernel) k (kd_lt h (by decide)) h
theorem sf_1_hk1 {k : Nat} (h : kd k = 1) : kd (k + 1) = 100 := (show ∀ k, k < NC → kd k = 1 → kd (k + 1) = 100 by decide +kernel) k (kd_lt h (by decide)) h
theorem sf_1_hn1 {k : Nat} (h : kd k = 1) : ln (k + 1) = 16 := (show ∀ k, k < NC → kd k = 1 → ln (k + 1) = 16 by decide +kernel) k (kd_lt h (by decide)) h
theorem sf_1_hr0 {k : Nat} (h : kd k = 1) : rf k 0 = k + 1 := (show ∀ k, k < NC → kd k = 1 → rf k 0 = k + 1 by decide +kernel) k (kd_lt h (by decide)) h
theorem sf_1_A {k : Nat} (h : kd k = 1) : ∀ i, i < 1 → 100 ≤ kd (k + 1 + i) := (show ∀ k, k < NC → kd k = 1 → ∀ i, i < 1 → 100 ≤ kd (k + 1 + i) by decide +kernel) k (kd_lt h (by decide)) h
theorem sf_7_hk1 {k : Nat} (h : kd k = 7) : kd (k + 1) = 100 := (show ∀ k, k < NC → kd k = 7 → kd (k + 1) = 100 by decide +kernel) k (kd_lt h (by decide)) h
theorem sf_7_hn1 {k : Nat} (h : kd k = 7) : ln (k + 1) = 8 := (show ∀ k, k < NC → kd k = 7 → ln (k + 1) = 8 by decide +kernel) k (kd_lt h (by decide)) h
theorem sf_7_hk2 {k : Nat} (h : kd k = 7) : kd (k + 2) = 100 := (show ∀ k, k < NC → kd k = 7 → kd (k + 2) = 100 by decide +kernel) k (kd_lt h (by decide)) h
theorem sf_7_hn2 {k : Nat} (h : kd k = 7) : ln (k + 2) = 8 := (show ∀ k, k < NC → kd k = 7 → ln (k + 2) = 8 by decide +kernel) k (kd_lt h (by decide)) h
theorem sf_7_hk3 {k : Nat} (h : kd k = 7) : kd (k + 3) = 100 := (show ∀ k, k < NC → kd k = 7 → kd (k + 3) = 100 by decide +kernel) k (kd_lt h (by decide)) h
theorem sf_7_hn3 {k : Nat} (h : kd k = 7) : ln (k + 3) = 320 := (show ∀ k, k < NC → kd k = 7 → ln (k + 3) = 320 by decide +kernel) k (kd_lt h (by decide)) h
theorem sf_7_hk4 {k : Nat} (h : kd k = 7) : kd (k + 4) = 100 := (show ∀ k, k < NC → kd k = 7 → kd (k + 4) = 100 by decide +kernel) k (kd_lt h (by decide)) h
theorem sf_7_hn4 {k : Nat} (h : kd k = 7) : ln (k + 4) = 40 := (show ∀ k, k < NC → kd k = 7 → ln (k + 4) = 40 by decide +kernel) k (kd_lt h (by decide)) h
theorem sf_7_hk5 {k : Nat} (h : kd k = 7) : kd (k + 5) = 100 := (show ∀ k, k < NC → kd k = 7 → kd (k + 5) = 100 by decide +kernel) k (kd_lt h (by decide)) h
theorem sf_7_hn5 {k : Nat} (h : kd k = 7) : ln (k + 5) = 63 := (show ∀ k, k < NC → kd k = 7 → ln (k + 5) = 63 by decide +kernel) k (kd_lt h (by decide)) h
theorem sf_7_hk6 {k : Nat} (h : kd k = 7) : kd (k + 6) = 100 := (show ∀ k, k < NC → kd k = 7 → kd (k + 6) = 100 by decide +kernel) k (kd_lt h (by decide)) h
theorem sf_7_hn6 {k : Nat} (h : kd k = 7) : ln (k + 6) = 120 := (show ∀ k, k < NC → kd k = 7 → ln (k + 6) = 120 by decide +kernel) k (kd_lt h (by decide)) h
theorem sf_7_hk7 {k : Nat} (h : kd k = 7) : kd (k + 7) = 100 := (show ∀ k, k < NC → kd k = 7 → kd (k + 7) = 100 by decide +kernel) k (kd_lt h (by decide)) h
theorem sf_7_hn7 {k : Nat} (h : kd k = 7) : ln (k + 7) = 63 := (show ∀ k, k < NC → kd k = 7 → ln (k + 7) = 63 by decide +kernel) k (kd_lt h (by decide)) h
theorem sf_7_hk8 {k : Nat} (h : kd k = 7) : kd (k + 8) = 100 := (show ∀ k, k < NC → kd k = 7 → kd (k + 8) = 100 by decide +kernel) k (kd_lt h (by decide)) h
theorem sf_7_hn8 {k : Nat} (h : kd k = 7) : ln (k + 8) = 1512 := (show ∀ k, k < NC → kd k = 7 → ln (k + 8) = 1512 by decide +kernel) k (kd_lt h (by decide)) h
theorem sf_7_hk9 {k : Nat} (h : kd k = 7) : kd (k + 9) = 100 := (show ∀ k, k < NC → kd k = 7 → kd (k + 9) = 100 by decide +kernel) k (kd_lt h (by decide)) h
theorem sf_7_hn9 {k : Nat} (h : kd k = 7) : ln (k + 9) = 6 := (show ∀ k, k < NC → kd k = 7 → ln (k + 9) = 6 by decide +kernel) k (kd_lt h (by decide)) h
theorem sf_7_hk10 {k : Nat} (h : kd k = 7) : kd (k + 10) = 100 := (show ∀ k, k < NC → kd k = 7 → kd (k + 10) = 100 by decide +kernel) k (kd_lt h (by decide)) h
theorem sf_7_hn10 {k : Nat} (h : kd k = 7) : ln (k + 10) = 4 := (show ∀ k, k < NC → kd k = 7 → ln (k + 10) = 4 by decide +kernel) k (kd_lt h (by decide)) h
theorem sf_7_hk11 {k : Nat} (h : kd k = 7) : kd (k + 11) = 100 := (show ∀ k, k < NC → kd k = 7 → kd (k + 11) = 100 by decide +kernel) k (kd_lt h (by decide)) h
theorem sf_7_hn11 {k : Nat} (h : kd k = 7) : ln (k + 11) = 64 := (show ∀ k, k < NC → kd k = 7 → ln (k + 11) = 64 by decide +kernel) k (kd_lt h (by decide)) h
theorem sf_7_hk12 {k : Nat} (h : kd k = 7) : kd (k + 12) = 100 := (show ∀ k, k < NC → kd k = 7 → kd (k + 12) = 100 by decide +kernel) k (kd_lt h (by decide)) h
theorem sf_7_hn12 {k : Nat} (h : kd k = 7) : ln (k + 12) = 64 := (show ∀ k, k < NC → kd k = 7 → ln (k + 12) = 64 by decide +kernel) k (kd_lt h (by decide)) h
theorem sf_7_hk13 {k : Nat} (h : kd k = 7) : kd (k + 13) = 100 := (show ∀ k, k < NC → kd k = 7 → kd (k + 13) = 100 by decide +kernel) k (kd_lt h (by decide)) h
theorem sf_7_hn13 {k : Nat} (h : kd k = 7) : ln (k + 13) = 126 := (show ∀ k, k < NC → kd k = 7 → ln (k + 13) = 126 by decide +kernel) k (kd_lt h (by decide)) h
theorem sf_7_hk14 {k : Nat} (h : kd k = 7) : kd (k + 14) = 101 := (show ∀ k, k < NC → kd k = 7 → kd (k + 14) = 101 by decide +kernel) k (kd_lt h (by decide)) h
theorem sf_7_hn14 {k : Nat} (h : kd k = 7) : ln (k + 14) = 2 := (show ∀ k, k < NC → kd k = 7 → ln (k + 14) = 2 by decide +kernel) k (kd_lt h (by decide)) h
theorem sf_7_hk15 {k : Nat} (h : kd k = 7) : kd (k + 15) = 100 := (show ∀ k, k < NC → kd k = 7 → kd (k + 15) = 100 by decide +kernel) k (kd_lt h (by decide)) h
theorem sf_7_hn15 {k : Nat} (h : kd k = 7) : ln (k + 15) = 16 := (show ∀ k, k < NC → kd k = 7 → ln (k + 15) = 16 by decide +kernel) k (kd_lt h (by decide)) h
theorem sf_7_hr0 {k : Nat} (h : kd k = 7) : rf k 0 = k + 1 := (show ∀ k, k < NC → kd k = 7 → rf k 0 = k + 1 by decide +kernel) k (kd_lt h (by decide)) h
theorem sf_7_hr1 {k : Nat} (h : kd k = 7) : rf k 1 = k + 2 := (show ∀ k, k < NC → kd k = 7 → rf k 1 = k + 2 by decide +kernel) k (kd_lt h (by decide)) h
theorem sf_7_hr2 {k : Nat} (h : kd k = 7) : rf k 2 = k + 3 := (show ∀ k, k < NC → kd k = 7 → rf k 2 = k + 3 by decide +kernel) k (kd_lt h (by decide)) h
theorem sf_7_hr4 {k : Nat} (h : kd k = 7) : rf k 4 = k + 4 := (show ∀ k, k < NC → kd k = 7 → rf k 4 = k + 4 by decide +kernel) k (kd_lt h (by decide)) h
theorem sf_7_hr5 {k : Nat} (h : kd k = 7) : rf k 5 = k + 5 := (show ∀ k, k < NC → kd k = 7 → rf k 5 = k + 5 by decide +kernel) k (kd_lt h (by decide)) h
theorem sf_7_hr6 {k : Nat} (h : kd k = 7) : rf k 6 = k + 6 := (show ∀ k, k < NC → kd k = 7 → rf k 6 = k + 6 by decide +kernel) k (kd_lt h (by decide)) h
theorem sf_7_hr12 {k : Nat} (h : kd k = 7) : rf k 12 = k + 7 := (show ∀ k, k < NC → kd k = 7 → rf k 12 = k + 7 by decide +kernel) k (kd_lt h (by decide)) h
theorem sf_7_hr14 {k : Nat} (h : kd k = 7) : rf k 14 = k + 8 := (show ∀ k, k < NC → kd k = 7 → rf k 14 = k + 8 by decide +kernel) k (kd_lt h (by decide)) h
theorem sf_7_hr15 {k : Nat} (h : kd k = 7) : rf k 15 = k + 9 := (show ∀ k, k < NC → kd k = 7 → rf k 15 = k + 9 by decide +kernel) k (kd_lt h (by decide)) h
theorem sf_7_hr16 {k : Nat} (h : kd k = 7) : rf k 16 = k + 10 := (show ∀ k, k < NC → kd k = 7 → rf k 16 = k + 10 by decide +kernel) k (kd_lt h (by decide)) h
theorem sf_7_hr17 {k : Nat} (h : kd k = 7) : rf k 17 = k + 11 := (show ∀ k, k < NC → kd k = 7 → rf k 17 = k + 11 by decide +kernel) k (kd_lt h (by decide)) h
theorem sf_7_hr18 {k : Nat} (h : kd k = 7) : rf k 18 = k + 12 := (show ∀ k, k < NC → kd k = 7 → rf k 18 = k + 12 by decide +kernel) k (kd_lt h (by decide)) h
theorem sf_7_hr19 {k : Nat} (h : kd k = 7) : rf k 19 = k + 13 := (show ∀ k, k < NC → kd k = 7 → rf k 19 = k + 13 by decide +kernel) k (kd_lt h (by decide)) h
theorem sf_7_hr20 {k : Nat} (h : kd k = 7) : rf k 20 = k + 14 := (show ∀ k, k < NC → kd k = 7 → rf k 20 = k + 14 by decide +kernel) k (kd_lt h (by decide)) h
theorem sf_7_hr21 {k : Nat} (h : kd k = 7) : rf k 21 = k + 15 := (show ∀ k, k < NC → kd k = 7 → rf k 21 = k + 15 by decide +kernel) k (kd_lt h (by decide)) h
theorem sf_7_A {k : Nat} (h : kd k = 7) : ∀ i, i < 15 → 100 ≤ kd (k + 1 + i) := (show ∀ k, k < NC → kd k = 7 → ∀ i, i < 15 → 100 ≤ kd (k + 1 + i) by decide +kernel) k (kd_lt h (by decide)) h
theorem ml_X4_19 : Cond.methodLink RX4 19 yJ7_fill_53178 ∈ AW := AW_t (tb_1 (i := 26) rfl) rfl
theorem ml_X6_18 : Cond.methodLinkNest RX6 18 yX5_init "AgingLetters" ∈ NW := NW_t (tb_1 (i := 42) rfl) rfl
theorem ml_X6_25 : Cond.methodLinkNest RX6 25 yX3_init "AgingLetters" ∈ NW := NW_t (tb_1 (i := 63) rfl) rfl
theorem ml_X6_41 : Cond.methodLinkNest RX6 41 yX0_init "AgingLetters" ∈ NW := NW_t (tb_1 (i := 136) rfl) rfl
theorem ml_X6_48 : Cond.methodLinkNest RX6 48 yX2_init "AgingLetters" ∈ NW := NW_t (tb_1 (i := 171) rfl) rfl
theorem ml_X6_55 : Cond.methodLinkNest RX6 55 yX1_init "AgingLetters" ∈ NW := NW_t (tb_1 (i := 188) rfl) rfl
theorem ml_X6_9 : Cond.methodLink RX6 9 yX4_init ∈ AW := AW_t (tb_1 (i := 22) rfl) rfl
-- Arrays.fill over a part of the world
theorem ef_0 : decode cJ7_fill_53178 0 = .ok (.iconst 0, 1) := by decide +kernel
theorem ef_1 : decode cJ7_fill_53178 1 = .ok (.istore_n 2, 1) := by decide +kernel
theorem ef_2 : decode cJ7_fill_53178 2 = .ok (.aload_n 0, 1) := by decide +kernel
theorem ef_3 : decode cJ7_fill_53178 3 = .ok (.arraylength, 1) := by decide +kernel
theorem ef_4 : decode cJ7_fill_53178 4 = .ok (.istore_n 3, 1) := by decide +kernel
theorem ef_5 : decode cJ7_fill_53178 5 = .ok (.iload_n 2, 1) := by decide +kernel
theorem ef_6 : decode cJ7_fill_53178 6 = .ok (.iload_n 3, 1) := by decide +kernel
theorem ef_7 : decode cJ7_fill_53178 7 = .ok (.if_icmp .ge 13, 3) := by decide +kernel
theorem ef_10 : decode cJ7_fill_53178 10 = .ok (.aload_n 0, 1) := by decide +kernel
theorem ef_11 : decode cJ7_fill_53178 11 = .ok (.iload_n 2, 1) := by decide +kernel
theorem ef_12 : decode cJ7_fill_53178 12 = .ok (.iload_n 1, 1) := by decide +kernel
theorem ef_13 : decode cJ7_fill_53178 13 = .ok (.iastore, 1) := by decide +kernel
theorem ef_14 : decode cJ7_fill_53178 14 = .ok (.iinc 2 1, 3) := by decide +kernel
theorem ef_17 : decode cJ7_fill_53178 17 = .ok (.goto (-12), 3) := by decide +kernel
theorem ef_20 : decode cJ7_fill_53178 20 = .ok (.return_, 1) := by decide +kernel
def fillM (mem : Mem) (a : Nat) (v : Int32) (i : Nat) : Mem := st1 mem a (fun j => if j < i then v else mem a j)
theorem fillM_0 (mem : Mem) (a : Nat) (v : Int32) : fillM mem a v 0 = mem := by
  funext k j
  unfold fillM st1
  by_cases h : k = a
  · rw [if_pos h, h, if_neg (Nat.not_lt_zero j)]
  · rw [if_neg h]
theorem fillM_s (mem : Mem) (a : Nat) (v : Int32) (i : Nat) : st2 (fillM mem a v i) a i v = fillM mem a v (i + 1) := by
  funext k j
  simp only [st2, st1, fillM, upd]
  by_cases h : k = a
  · subst h
    simp only [if_true]
    show (if j = i then v else if j < i then v else mem k j) = _
    by_cases hj : j = i
    · rw [if_pos hj, if_pos (by omega)]
    · rw [if_neg hj]
      by_cases hl : j < i
      · rw [if_pos hl, if_pos (by omega)]
      · rw [if_neg hl, if_neg (by omega)]
  · rw [if_neg h, if_neg h, if_neg h]
set_option maxRecDepth 100000 in
theorem fill_loop (G : Gt) (base n : Nat) (fl : Nat → Nat → Bool) (mem : Mem) (a : Nat) (ha : kd a = 100) (hlt : a < n) (hln : ln a < 2 ^ 31) (v : Int32) : ∀ (k i : Nat), i ≤ ln a → ln a - i < k → EvC G base cJ7_fill_53178 4 RJ7 false 1 0 0 (fun n2 fl2 m2 => n2 = n ∧ fl2 = fl ∧ m2 = st1 mem a (fun j => if j < ln a then v else mem a j)) 5 [(0, .ref (gA G a)), (1, .int v), (2, .int (nI i)), (3, .int (nI (ln a)))] [] n fl (fillM mem a v i) 0 0 := by
  intro k
  induction k with
  | zero => intro i _ h; omega
  | succ k ih =>
    intro i hi hk
    refine evc_iload_n (q := 6) ef_5 rfl 2 rfl rfl ?_
    refine evc_iload_n (q := 7) ef_6 rfl 3 rfl rfl ?_
    refine evc_icmp_ge (t := 20) (q := 10) ef_7 rfl rfl (fun hc => ?_) (fun hc => ?_)
    · have he : i = ln a := by
        have := (nI_leI hln (by omega)).mp hc
        omega
      subst he
      exact evc_vret ef_20 rfl rfl ⟨rfl, rfl, rfl⟩
    · have hl : i < ln a := by
        apply Nat.not_le.mp
        intro q
        exact hc ((nI_leI hln (by omega)).mpr q)
      refine evc_aload_n (q := 11) ef_10 rfl 0 rfl rfl ?_
      refine evc_iload_n (q := 12) ef_11 rfl 2 rfl rfl ?_
      refine evc_iload_n (q := 13) ef_12 rfl 1 rfl rfl ?_
      refine evc_iast (q := 14) ef_13 rfl ha hlt (vp_in_nI hl hln) ?_
      rw [nI_clamp (by omega), fillM_s]
      refine evc_iinc (q := 17) (lv2 := [(2, .int _), (0, .ref _), (1, .int _), (3, .int _)]) (v := nI (i + 1)) ef_14 2 rfl rfl (by rw [li_1]; exact nI_1 i) (Nat.le_of_ble_eq_true rfl) rfl ?_
      refine evc_goto (t := 5) ef_17 rfl ?_
      refine evc_sub (lv' := [(0, .ref _), (1, .int _), (2, .int _), (3, .int _)]) [1, 2, 0, 3] rfl ?_
      exact ih (i + 1) (by omega) (by omega)
set_option maxRecDepth 100000 in
theorem conC_fill (G : Gt) (base n : Nat) (fl : Nat → Nat → Bool) (mem : Mem) (a : Nat) (ha : kd a = 100) (hlt : a < n) (hln : ln a < 2 ^ 31) (v : Int32) : ConC G base yJ7_fill_53178 cJ7_fill_53178 4 1 0 0 [.ref (gA G a), .int v] n fl mem (fun n2 fl2 m2 => n2 = n ∧ fl2 = fl ∧ m2 = st1 mem a (fun j => if j < ln a then v else mem a j)) := by
  refine conC_of (ini := false) (by decide) (fun h => by cases h) (Nat.le_of_ble_eq_true rfl) ?_
  show EvC G base cJ7_fill_53178 4 RJ7 false 1 0 0 _ 0 [(0, .ref (gA G a)), (1, .int v)] [] n fl mem 0 0
  refine evc_iconst (q := 1) (v := 0) ef_0 rfl (by decide) ?_
  refine evc_istore_n (q := 2) (lv2 := [(2, .int 0), (0, .ref _), (1, .int _)]) ef_1 rfl rfl (Nat.le_of_ble_eq_true rfl) rfl ?_
  refine evc_aload_n (q := 3) ef_2 rfl 1 rfl rfl ?_
  refine evc_alen (q := 4) ef_3 rfl ha hlt ?_
  refine evc_istore_n (q := 5) (lv2 := [(3, .int _), (2, .int 0), (0, .ref _), (1, .int _)]) ef_4 rfl rfl (Nat.le_of_ble_eq_true rfl) rfl ?_
  refine evc_sub (lv' := [(0, .ref _), (1, .int _), (2, .int 0), (3, .int _)]) [2, 3, 1, 0] rfl ?_
  have h := fill_loop G base n fl mem a ha hlt hln v (ln a + 1) 0 (Nat.zero_le _) (by omega)
  rw [fillM_0, nI_0] at h
  exact h

theorem dX4_init_0 : decode cX4_init 0 = .ok (.aload_n 0, 1) := by decide +kernel
theorem dX4_init_1 : decode cX4_init 1 = .ok (.invokespecial 1, 3) := by decide +kernel
theorem dX4_init_4 : decode cX4_init 4 = .ok (.aload_n 0, 1) := by decide +kernel
theorem dX4_init_5 : decode cX4_init 5 = .ok (.bipush 8, 2) := by decide +kernel
theorem dX4_init_7 : decode cX4_init 7 = .ok (.newarray .int, 2) := by decide +kernel
theorem dX4_init_9 : decode cX4_init 9 = .ok (.putfield 9, 3) := by decide +kernel
theorem dX4_init_12 : decode cX4_init 12 = .ok (.aload_n 0, 1) := by decide +kernel
theorem dX4_init_13 : decode cX4_init 13 = .ok (.bipush 8, 2) := by decide +kernel
theorem dX4_init_15 : decode cX4_init 15 = .ok (.newarray .int, 2) := by decide +kernel
theorem dX4_init_17 : decode cX4_init 17 = .ok (.putfield 13, 3) := by decide +kernel
theorem dX4_init_20 : decode cX4_init 20 = .ok (.aload_n 0, 1) := by decide +kernel
theorem dX4_init_21 : decode cX4_init 21 = .ok (.sipush 320, 3) := by decide +kernel
theorem dX4_init_24 : decode cX4_init 24 = .ok (.newarray .int, 2) := by decide +kernel
theorem dX4_init_26 : decode cX4_init 26 = .ok (.putfield 16, 3) := by decide +kernel
theorem dX4_init_29 : decode cX4_init 29 = .ok (.aload_n 0, 1) := by decide +kernel
theorem dX4_init_30 : decode cX4_init 30 = .ok (.getfield 9, 3) := by decide +kernel
theorem dX4_init_33 : decode cX4_init 33 = .ok (.iconst (-1), 1) := by decide +kernel
theorem dX4_init_34 : decode cX4_init 34 = .ok (.invokestatic 19, 3) := by decide +kernel
theorem dX4_init_37 : decode cX4_init 37 = .ok (.return_, 1) := by decide +kernel
theorem dX5_init_0 : decode cX5_init 0 = .ok (.aload_n 0, 1) := by decide +kernel
theorem dX5_init_1 : decode cX5_init 1 = .ok (.invokespecial 3, 3) := by decide +kernel
theorem dX5_init_4 : decode cX5_init 4 = .ok (.aload_n 0, 1) := by decide +kernel
theorem dX5_init_5 : decode cX5_init 5 = .ok (.bipush 120, 2) := by decide +kernel
theorem dX5_init_7 : decode cX5_init 7 = .ok (.newarray .int, 2) := by decide +kernel
theorem dX5_init_9 : decode cX5_init 9 = .ok (.putfield 11, 3) := by decide +kernel
theorem dX5_init_12 : decode cX5_init 12 = .ok (.return_, 1) := by decide +kernel
theorem dX3_init_0 : decode cX3_init 0 = .ok (.aload_n 0, 1) := by decide +kernel
theorem dX3_init_1 : decode cX3_init 1 = .ok (.invokespecial 3, 3) := by decide +kernel
theorem dX3_init_4 : decode cX3_init 4 = .ok (.aload_n 0, 1) := by decide +kernel
theorem dX3_init_5 : decode cX3_init 5 = .ok (.bipush 6, 2) := by decide +kernel
theorem dX3_init_7 : decode cX3_init 7 = .ok (.newarray .int, 2) := by decide +kernel
theorem dX3_init_9 : decode cX3_init 9 = .ok (.putfield 9, 3) := by decide +kernel
theorem dX3_init_12 : decode cX3_init 12 = .ok (.aload_n 0, 1) := by decide +kernel
theorem dX3_init_13 : decode cX3_init 13 = .ok (.bipush 6, 2) := by decide +kernel
theorem dX3_init_15 : decode cX3_init 15 = .ok (.newarray .int, 2) := by decide +kernel
theorem dX3_init_17 : decode cX3_init 17 = .ok (.putfield 15, 3) := by decide +kernel
theorem dX3_init_20 : decode cX3_init 20 = .ok (.aload_n 0, 1) := by decide +kernel
theorem dX3_init_21 : decode cX3_init 21 = .ok (.bipush 6, 2) := by decide +kernel
theorem dX3_init_23 : decode cX3_init 23 = .ok (.newarray .int, 2) := by decide +kernel
theorem dX3_init_25 : decode cX3_init 25 = .ok (.putfield 18, 3) := by decide +kernel
theorem dX3_init_28 : decode cX3_init 28 = .ok (.aload_n 0, 1) := by decide +kernel
theorem dX3_init_29 : decode cX3_init 29 = .ok (.iconst 4, 1) := by decide +kernel
theorem dX3_init_30 : decode cX3_init 30 = .ok (.newarray .int, 2) := by decide +kernel
theorem dX3_init_32 : decode cX3_init 32 = .ok (.putfield 21, 3) := by decide +kernel
theorem dX3_init_35 : decode cX3_init 35 = .ok (.aload_n 0, 1) := by decide +kernel
theorem dX3_init_36 : decode cX3_init 36 = .ok (.iconst 4, 1) := by decide +kernel
theorem dX3_init_37 : decode cX3_init 37 = .ok (.newarray .int, 2) := by decide +kernel
theorem dX3_init_39 : decode cX3_init 39 = .ok (.putfield 24, 3) := by decide +kernel
theorem dX3_init_42 : decode cX3_init 42 = .ok (.aload_n 0, 1) := by decide +kernel
theorem dX3_init_43 : decode cX3_init 43 = .ok (.iconst 4, 1) := by decide +kernel
theorem dX3_init_44 : decode cX3_init 44 = .ok (.newarray .int, 2) := by decide +kernel
theorem dX3_init_46 : decode cX3_init 46 = .ok (.putfield 27, 3) := by decide +kernel
theorem dX3_init_49 : decode cX3_init 49 = .ok (.aload_n 0, 1) := by decide +kernel
theorem dX3_init_50 : decode cX3_init 50 = .ok (.iconst 4, 1) := by decide +kernel
theorem dX3_init_51 : decode cX3_init 51 = .ok (.newarray .int, 2) := by decide +kernel
theorem dX3_init_53 : decode cX3_init 53 = .ok (.putfield 30, 3) := by decide +kernel
theorem dX3_init_56 : decode cX3_init 56 = .ok (.aload_n 0, 1) := by decide +kernel
theorem dX3_init_57 : decode cX3_init 57 = .ok (.bipush 24, 2) := by decide +kernel
theorem dX3_init_59 : decode cX3_init 59 = .ok (.newarray .int, 2) := by decide +kernel
theorem dX3_init_61 : decode cX3_init 61 = .ok (.putfield 33, 3) := by decide +kernel
theorem dX3_init_64 : decode cX3_init 64 = .ok (.return_, 1) := by decide +kernel
theorem dX0_init_0 : decode cX0_init 0 = .ok (.aload_n 0, 1) := by decide +kernel
theorem dX0_init_1 : decode cX0_init 1 = .ok (.invokespecial 1, 3) := by decide +kernel
theorem dX0_init_4 : decode cX0_init 4 = .ok (.aload_n 0, 1) := by decide +kernel
theorem dX0_init_5 : decode cX0_init 5 = .ok (.bipush 24, 2) := by decide +kernel
theorem dX0_init_7 : decode cX0_init 7 = .ok (.newarray .int, 2) := by decide +kernel
theorem dX0_init_9 : decode cX0_init 9 = .ok (.putfield 9, 3) := by decide +kernel
theorem dX0_init_12 : decode cX0_init 12 = .ok (.aload_n 0, 1) := by decide +kernel
theorem dX0_init_13 : decode cX0_init 13 = .ok (.bipush 24, 2) := by decide +kernel
theorem dX0_init_15 : decode cX0_init 15 = .ok (.newarray .int, 2) := by decide +kernel
theorem dX0_init_17 : decode cX0_init 17 = .ok (.putfield 13, 3) := by decide +kernel
theorem dX0_init_20 : decode cX0_init 20 = .ok (.aload_n 0, 1) := by decide +kernel
theorem dX0_init_21 : decode cX0_init 21 = .ok (.bipush 24, 2) := by decide +kernel
theorem dX0_init_23 : decode cX0_init 23 = .ok (.newarray .int, 2) := by decide +kernel
theorem dX0_init_25 : decode cX0_init 25 = .ok (.putfield 16, 3) := by decide +kernel
theorem dX0_init_28 : decode cX0_init 28 = .ok (.aload_n 0, 1) := by decide +kernel
theorem dX0_init_29 : decode cX0_init 29 = .ok (.bipush 24, 2) := by decide +kernel
theorem dX0_init_31 : decode cX0_init 31 = .ok (.newarray .int, 2) := by decide +kernel
theorem dX0_init_33 : decode cX0_init 33 = .ok (.putfield 19, 3) := by decide +kernel
theorem dX0_init_36 : decode cX0_init 36 = .ok (.aload_n 0, 1) := by decide +kernel
theorem dX0_init_37 : decode cX0_init 37 = .ok (.bipush 24, 2) := by decide +kernel
theorem dX0_init_39 : decode cX0_init 39 = .ok (.newarray .int, 2) := by decide +kernel
theorem dX0_init_41 : decode cX0_init 41 = .ok (.putfield 22, 3) := by decide +kernel
theorem dX0_init_44 : decode cX0_init 44 = .ok (.aload_n 0, 1) := by decide +kernel
theorem dX0_init_45 : decode cX0_init 45 = .ok (.bipush 24, 2) := by decide +kernel
theorem dX0_init_47 : decode cX0_init 47 = .ok (.newarray .int, 2) := by decide +kernel
theorem dX0_init_49 : decode cX0_init 49 = .ok (.putfield 25, 3) := by decide +kernel
theorem dX0_init_52 : decode cX0_init 52 = .ok (.aload_n 0, 1) := by decide +kernel
theorem dX0_init_53 : decode cX0_init 53 = .ok (.bipush 24, 2) := by decide +kernel
theorem dX0_init_55 : decode cX0_init 55 = .ok (.newarray .int, 2) := by decide +kernel
theorem dX0_init_57 : decode cX0_init 57 = .ok (.putfield 28, 3) := by decide +kernel
theorem dX0_init_60 : decode cX0_init 60 = .ok (.return_, 1) := by decide +kernel
theorem dX2_init_0 : decode cX2_init 0 = .ok (.aload_n 0, 1) := by decide +kernel
theorem dX2_init_1 : decode cX2_init 1 = .ok (.invokespecial 3, 3) := by decide +kernel
theorem dX2_init_4 : decode cX2_init 4 = .ok (.aload_n 0, 1) := by decide +kernel
theorem dX2_init_5 : decode cX2_init 5 = .ok (.iconst 4, 1) := by decide +kernel
theorem dX2_init_6 : decode cX2_init 6 = .ok (.newarray .int, 2) := by decide +kernel
theorem dX2_init_8 : decode cX2_init 8 = .ok (.putfield 9, 3) := by decide +kernel
theorem dX2_init_11 : decode cX2_init 11 = .ok (.aload_n 0, 1) := by decide +kernel
theorem dX2_init_12 : decode cX2_init 12 = .ok (.bipush 6, 2) := by decide +kernel
theorem dX2_init_14 : decode cX2_init 14 = .ok (.newarray .int, 2) := by decide +kernel
theorem dX2_init_16 : decode cX2_init 16 = .ok (.putfield 15, 3) := by decide +kernel
theorem dX2_init_19 : decode cX2_init 19 = .ok (.aload_n 0, 1) := by decide +kernel
theorem dX2_init_20 : decode cX2_init 20 = .ok (.bipush 64, 2) := by decide +kernel
theorem dX2_init_22 : decode cX2_init 22 = .ok (.newarray .int, 2) := by decide +kernel
theorem dX2_init_24 : decode cX2_init 24 = .ok (.putfield 18, 3) := by decide +kernel
theorem dX2_init_27 : decode cX2_init 27 = .ok (.return_, 1) := by decide +kernel
theorem dX1_init_0 : decode cX1_init 0 = .ok (.aload_n 0, 1) := by decide +kernel
theorem dX1_init_1 : decode cX1_init 1 = .ok (.invokespecial 1, 3) := by decide +kernel
theorem dX1_init_4 : decode cX1_init 4 = .ok (.aload_n 0, 1) := by decide +kernel
theorem dX1_init_5 : decode cX1_init 5 = .ok (.bipush 16, 2) := by decide +kernel
theorem dX1_init_7 : decode cX1_init 7 = .ok (.newarray .int, 2) := by decide +kernel
theorem dX1_init_9 : decode cX1_init 9 = .ok (.putfield 9, 3) := by decide +kernel
theorem dX1_init_12 : decode cX1_init 12 = .ok (.return_, 1) := by decide +kernel
theorem dX7_init_0 : decode cX7_init 0 = .ok (.aload_n 0, 1) := by decide +kernel
theorem dX7_init_1 : decode cX7_init 1 = .ok (.invokespecial 1, 3) := by decide +kernel
theorem dX7_init_4 : decode cX7_init 4 = .ok (.aload_n 0, 1) := by decide +kernel
theorem dX7_init_5 : decode cX7_init 5 = .ok (.bipush 8, 2) := by decide +kernel
theorem dX7_init_7 : decode cX7_init 7 = .ok (.newarray .int, 2) := by decide +kernel
theorem dX7_init_9 : decode cX7_init 9 = .ok (.putfield 7, 3) := by decide +kernel
theorem dX7_init_12 : decode cX7_init 12 = .ok (.aload_n 0, 1) := by decide +kernel
theorem dX7_init_13 : decode cX7_init 13 = .ok (.bipush 8, 2) := by decide +kernel
theorem dX7_init_15 : decode cX7_init 15 = .ok (.newarray .int, 2) := by decide +kernel
theorem dX7_init_17 : decode cX7_init 17 = .ok (.putfield 13, 3) := by decide +kernel
theorem dX7_init_20 : decode cX7_init 20 = .ok (.aload_n 0, 1) := by decide +kernel
theorem dX7_init_21 : decode cX7_init 21 = .ok (.sipush 320, 3) := by decide +kernel
theorem dX7_init_24 : decode cX7_init 24 = .ok (.newarray .int, 2) := by decide +kernel
theorem dX7_init_26 : decode cX7_init 26 = .ok (.putfield 16, 3) := by decide +kernel
theorem dX7_init_29 : decode cX7_init 29 = .ok (.aload_n 0, 1) := by decide +kernel
theorem dX7_init_30 : decode cX7_init 30 = .ok (.bipush 40, 2) := by decide +kernel
theorem dX7_init_32 : decode cX7_init 32 = .ok (.newarray .int, 2) := by decide +kernel
theorem dX7_init_34 : decode cX7_init 34 = .ok (.putfield 19, 3) := by decide +kernel
theorem dX7_init_37 : decode cX7_init 37 = .ok (.aload_n 0, 1) := by decide +kernel
theorem dX7_init_38 : decode cX7_init 38 = .ok (.bipush 63, 2) := by decide +kernel
theorem dX7_init_40 : decode cX7_init 40 = .ok (.newarray .int, 2) := by decide +kernel
theorem dX7_init_42 : decode cX7_init 42 = .ok (.putfield 22, 3) := by decide +kernel
theorem dX7_init_45 : decode cX7_init 45 = .ok (.aload_n 0, 1) := by decide +kernel
theorem dX7_init_46 : decode cX7_init 46 = .ok (.bipush 120, 2) := by decide +kernel
theorem dX7_init_48 : decode cX7_init 48 = .ok (.newarray .int, 2) := by decide +kernel
theorem dX7_init_50 : decode cX7_init 50 = .ok (.putfield 25, 3) := by decide +kernel
theorem dX7_init_53 : decode cX7_init 53 = .ok (.aload_n 0, 1) := by decide +kernel
theorem dX7_init_54 : decode cX7_init 54 = .ok (.bipush 63, 2) := by decide +kernel
theorem dX7_init_56 : decode cX7_init 56 = .ok (.newarray .int, 2) := by decide +kernel
theorem dX7_init_58 : decode cX7_init 58 = .ok (.putfield 28, 3) := by decide +kernel
theorem dX7_init_61 : decode cX7_init 61 = .ok (.aload_n 0, 1) := by decide +kernel
theorem dX7_init_62 : decode cX7_init 62 = .ok (.sipush 1512, 3) := by decide +kernel
theorem dX7_init_65 : decode cX7_init 65 = .ok (.newarray .int, 2) := by decide +kernel
theorem dX7_init_67 : decode cX7_init 67 = .ok (.putfield 31, 3) := by decide +kernel
theorem dX7_init_70 : decode cX7_init 70 = .ok (.aload_n 0, 1) := by decide +kernel
theorem dX7_init_71 : decode cX7_init 71 = .ok (.bipush 6, 2) := by decide +kernel
theorem dX7_init_73 : decode cX7_init 73 = .ok (.newarray .int, 2) := by decide +kernel
theorem dX7_init_75 : decode cX7_init 75 = .ok (.putfield 34, 3) := by decide +kernel
theorem dX7_init_78 : decode cX7_init 78 = .ok (.aload_n 0, 1) := by decide +kernel
theorem dX7_init_79 : decode cX7_init 79 = .ok (.iconst 4, 1) := by decide +kernel
theorem dX7_init_80 : decode cX7_init 80 = .ok (.newarray .int, 2) := by decide +kernel
theorem dX7_init_82 : decode cX7_init 82 = .ok (.putfield 37, 3) := by decide +kernel
theorem dX7_init_85 : decode cX7_init 85 = .ok (.aload_n 0, 1) := by decide +kernel
theorem dX7_init_86 : decode cX7_init 86 = .ok (.bipush 64, 2) := by decide +kernel
theorem dX7_init_88 : decode cX7_init 88 = .ok (.newarray .int, 2) := by decide +kernel
theorem dX7_init_90 : decode cX7_init 90 = .ok (.putfield 40, 3) := by decide +kernel
theorem dX7_init_93 : decode cX7_init 93 = .ok (.aload_n 0, 1) := by decide +kernel
theorem dX7_init_94 : decode cX7_init 94 = .ok (.bipush 64, 2) := by decide +kernel
theorem dX7_init_96 : decode cX7_init 96 = .ok (.newarray .int, 2) := by decide +kernel
theorem dX7_init_98 : decode cX7_init 98 = .ok (.putfield 43, 3) := by decide +kernel
theorem dX7_init_101 : decode cX7_init 101 = .ok (.aload_n 0, 1) := by decide +kernel
theorem dX7_init_102 : decode cX7_init 102 = .ok (.bipush 126, 2) := by decide +kernel
theorem dX7_init_104 : decode cX7_init 104 = .ok (.newarray .int, 2) := by decide +kernel
theorem dX7_init_106 : decode cX7_init 106 = .ok (.putfield 46, 3) := by decide +kernel
theorem dX7_init_109 : decode cX7_init 109 = .ok (.aload_n 0, 1) := by decide +kernel
theorem dX7_init_110 : decode cX7_init 110 = .ok (.iconst 2, 1) := by decide +kernel
theorem dX7_init_111 : decode cX7_init 111 = .ok (.newarray .boolean, 2) := by decide +kernel
theorem dX7_init_113 : decode cX7_init 113 = .ok (.putfield 49, 3) := by decide +kernel
theorem dX7_init_116 : decode cX7_init 116 = .ok (.aload_n 0, 1) := by decide +kernel
theorem dX7_init_117 : decode cX7_init 117 = .ok (.bipush 16, 2) := by decide +kernel
theorem dX7_init_119 : decode cX7_init 119 = .ok (.newarray .int, 2) := by decide +kernel
theorem dX7_init_121 : decode cX7_init 121 = .ok (.putfield 53, 3) := by decide +kernel
theorem dX7_init_124 : decode cX7_init 124 = .ok (.iconst 0, 1) := by decide +kernel
theorem dX7_init_125 : decode cX7_init 125 = .ok (.istore_n 1, 1) := by decide +kernel
theorem dX7_init_126 : decode cX7_init 126 = .ok (.iload_n 1, 1) := by decide +kernel
theorem dX7_init_127 : decode cX7_init 127 = .ok (.bipush 8, 2) := by decide +kernel
theorem dX7_init_129 : decode cX7_init 129 = .ok (.if_icmp .ge 16, 3) := by decide +kernel
theorem dX7_init_132 : decode cX7_init 132 = .ok (.aload_n 0, 1) := by decide +kernel
theorem dX7_init_133 : decode cX7_init 133 = .ok (.getfield 13, 3) := by decide +kernel
theorem dX7_init_136 : decode cX7_init 136 = .ok (.iload_n 1, 1) := by decide +kernel
theorem dX7_init_137 : decode cX7_init 137 = .ok (.iconst (-1), 1) := by decide +kernel
theorem dX7_init_138 : decode cX7_init 138 = .ok (.iastore, 1) := by decide +kernel
theorem dX7_init_139 : decode cX7_init 139 = .ok (.iinc 1 1, 3) := by decide +kernel
theorem dX7_init_142 : decode cX7_init 142 = .ok (.goto (-16), 3) := by decide +kernel
theorem dX7_init_145 : decode cX7_init 145 = .ok (.return_, 1) := by decide +kernel
theorem dX6_init_0 : decode cX6_init 0 = .ok (.aload_n 0, 1) := by decide +kernel
theorem dX6_init_1 : decode cX6_init 1 = .ok (.invokespecial 1, 3) := by decide +kernel
theorem dX6_init_4 : decode cX6_init 4 = .ok (.aload_n 0, 1) := by decide +kernel
theorem dX6_init_5 : decode cX6_init 5 = .ok (.new 7, 3) := by decide +kernel
theorem dX6_init_8 : decode cX6_init 8 = .ok (.dup, 1) := by decide +kernel
theorem dX6_init_9 : decode cX6_init 9 = .ok (.invokespecial 9, 3) := by decide +kernel
theorem dX6_init_12 : decode cX6_init 12 = .ok (.putfield 10, 3) := by decide +kernel
theorem dX6_init_15 : decode cX6_init 15 = .ok (.aload_n 0, 1) := by decide +kernel
theorem dX6_init_16 : decode cX6_init 16 = .ok (.new 16, 3) := by decide +kernel
theorem dX6_init_19 : decode cX6_init 19 = .ok (.dup, 1) := by decide +kernel
theorem dX6_init_20 : decode cX6_init 20 = .ok (.invokespecial 18, 3) := by decide +kernel
theorem dX6_init_23 : decode cX6_init 23 = .ok (.putfield 19, 3) := by decide +kernel
theorem dX6_init_26 : decode cX6_init 26 = .ok (.aload_n 0, 1) := by decide +kernel
theorem dX6_init_27 : decode cX6_init 27 = .ok (.new 23, 3) := by decide +kernel
theorem dX6_init_30 : decode cX6_init 30 = .ok (.dup, 1) := by decide +kernel
theorem dX6_init_31 : decode cX6_init 31 = .ok (.invokespecial 25, 3) := by decide +kernel
theorem dX6_init_34 : decode cX6_init 34 = .ok (.putfield 26, 3) := by decide +kernel
theorem dX6_init_37 : decode cX6_init 37 = .ok (.aload_n 0, 1) := by decide +kernel
theorem dX6_init_38 : decode cX6_init 38 = .ok (.new 23, 3) := by decide +kernel
theorem dX6_init_41 : decode cX6_init 41 = .ok (.dup, 1) := by decide +kernel
theorem dX6_init_42 : decode cX6_init 42 = .ok (.invokespecial 25, 3) := by decide +kernel
theorem dX6_init_45 : decode cX6_init 45 = .ok (.putfield 30, 3) := by decide +kernel
theorem dX6_init_48 : decode cX6_init 48 = .ok (.aload_n 0, 1) := by decide +kernel
theorem dX6_init_49 : decode cX6_init 49 = .ok (.new 23, 3) := by decide +kernel
theorem dX6_init_52 : decode cX6_init 52 = .ok (.dup, 1) := by decide +kernel
theorem dX6_init_53 : decode cX6_init 53 = .ok (.invokespecial 25, 3) := by decide +kernel
theorem dX6_init_56 : decode cX6_init 56 = .ok (.putfield 33, 3) := by decide +kernel
theorem dX6_init_59 : decode cX6_init 59 = .ok (.aload_n 0, 1) := by decide +kernel
theorem dX6_init_60 : decode cX6_init 60 = .ok (.new 23, 3) := by decide +kernel
theorem dX6_init_63 : decode cX6_init 63 = .ok (.dup, 1) := by decide +kernel
theorem dX6_init_64 : decode cX6_init 64 = .ok (.invokespecial 25, 3) := by decide +kernel
theorem dX6_init_67 : decode cX6_init 67 = .ok (.putfield 36, 3) := by decide +kernel
theorem dX6_init_70 : decode cX6_init 70 = .ok (.aload_n 0, 1) := by decide +kernel
theorem dX6_init_71 : decode cX6_init 71 = .ok (.new 39, 3) := by decide +kernel
theorem dX6_init_74 : decode cX6_init 74 = .ok (.dup, 1) := by decide +kernel
theorem dX6_init_75 : decode cX6_init 75 = .ok (.invokespecial 41, 3) := by decide +kernel
theorem dX6_init_78 : decode cX6_init 78 = .ok (.putfield 42, 3) := by decide +kernel
theorem dX6_init_81 : decode cX6_init 81 = .ok (.aload_n 0, 1) := by decide +kernel
theorem dX6_init_82 : decode cX6_init 82 = .ok (.new 46, 3) := by decide +kernel
theorem dX6_init_85 : decode cX6_init 85 = .ok (.dup, 1) := by decide +kernel
theorem dX6_init_86 : decode cX6_init 86 = .ok (.invokespecial 48, 3) := by decide +kernel
theorem dX6_init_89 : decode cX6_init 89 = .ok (.putfield 49, 3) := by decide +kernel
theorem dX6_init_92 : decode cX6_init 92 = .ok (.aload_n 0, 1) := by decide +kernel
theorem dX6_init_93 : decode cX6_init 93 = .ok (.new 53, 3) := by decide +kernel
theorem dX6_init_96 : decode cX6_init 96 = .ok (.dup, 1) := by decide +kernel
theorem dX6_init_97 : decode cX6_init 97 = .ok (.invokespecial 55, 3) := by decide +kernel
theorem dX6_init_100 : decode cX6_init 100 = .ok (.putfield 56, 3) := by decide +kernel
theorem dX6_init_103 : decode cX6_init 103 = .ok (.return_, 1) := by decide +kernel
set_option maxRecDepth 100000 in
set_option maxHeartbeats 4000000 in
theorem conC_X4 (G : Gt) (base k : Nat) (hk : kd k = 4) (fl : Nat → Nat → Bool) (mem : Mem) : ConC G base yX4_init cX4_init 1 2 3 336 [.ref (gA G k)] (k + 1) fl mem (fun n2 fl2 mem2 => n2 = k + 4 ∧ fl2 = flA fl k (k + 4) ∧ mem2 = st1 mem (k + 1) (fun j => if j < 8 then (-1) else mem (k + 1) j)) := by
  have hk1 := sf_4_hk1 hk
  have hn1 := sf_4_hn1 hk
  have hk2 := sf_4_hk2 hk
  have hn2 := sf_4_hn2 hk
  have hk3 := sf_4_hk3 hk
  have hn3 := sf_4_hn3 hk
  have hr0 := sf_4_hr0 hk
  have hr1 := sf_4_hr1 hk
  have hr2 := sf_4_hr2 hk
  refine conC_of (ini := true) (by decide) (fun _ => rfl) (Nat.le_of_ble_eq_true rfl) ?_
  show EvC G base cX4_init 1 RX4 true 2 3 336 _ 0 [(0, .ref (gA G k))] [] (k + 1) fl mem 0 0
  refine evc_aload_n (q := 1) dX4_init_0 rfl 0 rfl rfl ?_
  refine evc_objInit (q := 4) dX4_init_1 rfl (AW_t (tb_1 (i := 25) rfl) rfl) oi_i oi_c (Nat.le_of_ble_eq_true rfl) rfl ?_
  refine evc_aload_n (q := 5) dX4_init_4 rfl 0 rfl rfl ?_
  refine evc_bipush (q := 7) (v := 8) dX4_init_5 rfl (by decide) ?_
  refine evc_newa (q := 9) (nn := k + 2) (ty := .int) (kdn := 100) (N := 8) dX4_init_7 rfl rfl rfl arr_i (Or.inl ⟨rfl, rfl⟩) hk1 hn1 (by decide) (by decide) (Nat.le_of_ble_eq_true rfl) (Nat.le_of_ble_eq_true rfl) (Nat.le_of_ble_eq_true rfl) ?_
  refine evc_putR (q := 12) (ci := 4) (j := 0) (T := TX4) (ty := .array .int) dX4_init_9 rfl rfl cf_4 hk (by decide) (by decide) (by omega) hr0 (AW_t (tb_1 (i := 29) rfl) rfl) rfl rfl rfl (by decide +kernel) (fun _ => rfl) (fun _ => rfl) ?_
  refine evc_aload_n (q := 13) dX4_init_12 rfl 0 rfl rfl ?_
  refine evc_bipush (q := 15) (v := 8) dX4_init_13 rfl (by decide) ?_
  refine evc_newa (q := 17) (nn := k + 3) (ty := .int) (kdn := 100) (N := 8) dX4_init_15 rfl rfl rfl arr_i (Or.inl ⟨rfl, rfl⟩) hk2 hn2 (by decide) (by decide) (Nat.le_of_ble_eq_true rfl) (Nat.le_of_ble_eq_true rfl) (Nat.le_of_ble_eq_true rfl) ?_
  refine evc_putR (q := 20) (ci := 4) (j := 1) (T := TX4) (ty := .array .int) dX4_init_17 rfl rfl cf_4 hk (by decide) (by decide) (by omega) hr1 (AW_t (tb_1 (i := 30) rfl) rfl) rfl rfl rfl (by decide +kernel) (fun _ => rfl) (fun _ => rfl) ?_
  refine evc_aload_n (q := 21) dX4_init_20 rfl 0 rfl rfl ?_
  refine evc_sipush (q := 24) (v := 320) dX4_init_21 rfl (by decide) ?_
  refine evc_newa (q := 26) (nn := k + 4) (ty := .int) (kdn := 100) (N := 320) dX4_init_24 rfl rfl rfl arr_i (Or.inl ⟨rfl, rfl⟩) hk3 hn3 (by decide) (by decide) (Nat.le_of_ble_eq_true rfl) (Nat.le_of_ble_eq_true rfl) (Nat.le_of_ble_eq_true rfl) ?_
  refine evc_putR (q := 29) (ci := 4) (j := 2) (T := TX4) (ty := .array .int) dX4_init_26 rfl rfl cf_4 hk (by decide) (by decide) (by omega) hr2 (AW_t (tb_1 (i := 31) rfl) rfl) rfl rfl rfl (by decide +kernel) (fun _ => rfl) (fun _ => rfl) ?_
  refine evc_aload_n (q := 30) dX4_init_29 rfl 0 rfl rfl ?_
  refine evc_getR (q := 33) (ci := 4) (j := 0) (T := TX4) dX4_init_30 rfl cf_4 hk (by decide) (by decide) (by omega) hr0 (AW_t (tb_1 (i := 29) rfl) rfl) rfl (by simp [fl1, flA]) ?_
  refine evc_iconst (q := 34) (v := (-1)) dX4_init_33 rfl (by decide) ?_
  refine evc_callS (q := 37) dX4_init_34 rfl ml_X4_19 mt_J7_fill_53178 (conC_fill G base _ _ _ (k + 1) hk1 (by omega) (by rw [hn1]; decide) _) rfl (Nat.le_of_ble_eq_true rfl) (Nat.le_of_ble_eq_true rfl) rfl (Nat.le_of_ble_eq_true rfl) (Nat.le_of_ble_eq_true rfl) (Nat.le_of_ble_eq_true rfl) (fun n2 fl2 mem2 hQ => ?_)
  obtain ⟨rfl, rfl, rfl⟩ := hQ
  rw [hn1]
  refine evc_congr (fl' := flA fl k (k + 4)) (fun a ha h100 j hj hir => ?_) ?_
  · by_cases hak : a = k
    · subst hak
      rw [hk] at hj hir
      have hj2 := (show ∀ j, j < nf 4 → ir 4 j = true → (j = 0 ∨ j = 1 ∨ j = 2) by decide) j hj hir
      rcases hj2 with rfl | rfl | rfl <;> simp [fl1, flA, ha]
    · by_cases hin : k ≤ a ∧ a < k + 4
      · exfalso
        obtain ⟨g1, g2⟩ := gap_n hak hin (g := 3) rfl
        have h9 := sf_4_A hk (a - (k + 1)) g1
        rw [g2] at h9
        exact absurd h100 (Nat.not_lt.mpr h9)
      · simp only [fl1, if_neg hak, flA, if_neg hin]
  exact evc_vret dX4_init_37 rfl rfl ⟨rfl, rfl, rfl⟩
set_option maxRecDepth 100000 in
set_option maxHeartbeats 4000000 in
theorem conC_X5 (G : Gt) (base k : Nat) (hk : kd k = 5) (fl : Nat → Nat → Bool) (mem : Mem) : ConC G base yX5_init cX5_init 1 1 1 120 [.ref (gA G k)] (k + 1) fl mem (fun n2 fl2 mem2 => n2 = k + 2 ∧ fl2 = flA fl k (k + 2) ∧ mem2 = mem) := by
  have hk1 := sf_5_hk1 hk
  have hn1 := sf_5_hn1 hk
  have hr0 := sf_5_hr0 hk
  refine conC_of (ini := true) (by decide) (fun _ => rfl) (Nat.le_of_ble_eq_true rfl) ?_
  show EvC G base cX5_init 1 RX5 true 1 1 120 _ 0 [(0, .ref (gA G k))] [] (k + 1) fl mem 0 0
  refine evc_aload_n (q := 1) dX5_init_0 rfl 0 rfl rfl ?_
  refine evc_objInit (q := 4) dX5_init_1 rfl (AW_t (tb_1 (i := 45) rfl) rfl) oi_i oi_c (Nat.le_of_ble_eq_true rfl) rfl ?_
  refine evc_aload_n (q := 5) dX5_init_4 rfl 0 rfl rfl ?_
  refine evc_bipush (q := 7) (v := 120) dX5_init_5 rfl (by decide) ?_
  refine evc_newa (q := 9) (nn := k + 2) (ty := .int) (kdn := 100) (N := 120) dX5_init_7 rfl rfl rfl arr_i (Or.inl ⟨rfl, rfl⟩) hk1 hn1 (by decide) (by decide) (Nat.le_of_ble_eq_true rfl) (Nat.le_of_ble_eq_true rfl) (Nat.le_of_ble_eq_true rfl) ?_
  refine evc_putR (q := 12) (ci := 5) (j := 0) (T := TX5) (ty := .array .int) dX5_init_9 rfl rfl cf_5 hk (by decide) (by decide) (by omega) hr0 (AW_t (tb_1 (i := 46) rfl) rfl) rfl rfl rfl (by decide +kernel) (fun _ => rfl) (fun _ => rfl) ?_
  refine evc_congr (fl' := flA fl k (k + 2)) (fun a ha h100 j hj hir => ?_) ?_
  · by_cases hak : a = k
    · subst hak
      rw [hk] at hj hir
      have hj2 := (show ∀ j, j < nf 5 → ir 5 j = true → (j = 0) by decide) j hj hir
      rcases hj2 with rfl <;> simp [fl1, flA, ha]
    · by_cases hin : k ≤ a ∧ a < k + 2
      · exfalso
        obtain ⟨g1, g2⟩ := gap_n hak hin (g := 1) rfl
        have h9 := sf_5_A hk (a - (k + 1)) g1
        rw [g2] at h9
        exact absurd h100 (Nat.not_lt.mpr h9)
      · simp only [fl1, if_neg hak, flA, if_neg hin]
  exact evc_vret dX5_init_12 rfl rfl ⟨rfl, rfl, rfl⟩
set_option maxRecDepth 100000 in
set_option maxHeartbeats 4000000 in
theorem conC_X3 (G : Gt) (base k : Nat) (hk : kd k = 3) (fl : Nat → Nat → Bool) (mem : Mem) : ConC G base yX3_init cX3_init 1 1 8 58 [.ref (gA G k)] (k + 1) fl mem (fun n2 fl2 mem2 => n2 = k + 9 ∧ fl2 = flA fl k (k + 9) ∧ mem2 = mem) := by
  have hk1 := sf_3_hk1 hk
  have hn1 := sf_3_hn1 hk
  have hk2 := sf_3_hk2 hk
  have hn2 := sf_3_hn2 hk
  have hk3 := sf_3_hk3 hk
  have hn3 := sf_3_hn3 hk
  have hk4 := sf_3_hk4 hk
  have hn4 := sf_3_hn4 hk
  have hk5 := sf_3_hk5 hk
  have hn5 := sf_3_hn5 hk
  have hk6 := sf_3_hk6 hk
  have hn6 := sf_3_hn6 hk
  have hk7 := sf_3_hk7 hk
  have hn7 := sf_3_hn7 hk
  have hk8 := sf_3_hk8 hk
  have hn8 := sf_3_hn8 hk
  have hr4 := sf_3_hr4 hk
  have hr5 := sf_3_hr5 hk
  have hr6 := sf_3_hr6 hk
  have hr8 := sf_3_hr8 hk
  have hr9 := sf_3_hr9 hk
  have hr10 := sf_3_hr10 hk
  have hr11 := sf_3_hr11 hk
  have hr12 := sf_3_hr12 hk
  refine conC_of (ini := true) (by decide) (fun _ => rfl) (Nat.le_of_ble_eq_true rfl) ?_
  show EvC G base cX3_init 1 RX3 true 1 8 58 _ 0 [(0, .ref (gA G k))] [] (k + 1) fl mem 0 0
  refine evc_aload_n (q := 1) dX3_init_0 rfl 0 rfl rfl ?_
  refine evc_objInit (q := 4) dX3_init_1 rfl (AW_t (tb_1 (i := 66) rfl) rfl) oi_i oi_c (Nat.le_of_ble_eq_true rfl) rfl ?_
  refine evc_aload_n (q := 5) dX3_init_4 rfl 0 rfl rfl ?_
  refine evc_bipush (q := 7) (v := 6) dX3_init_5 rfl (by decide) ?_
  refine evc_newa (q := 9) (nn := k + 2) (ty := .int) (kdn := 100) (N := 6) dX3_init_7 rfl rfl rfl arr_i (Or.inl ⟨rfl, rfl⟩) hk1 hn1 (by decide) (by decide) (Nat.le_of_ble_eq_true rfl) (Nat.le_of_ble_eq_true rfl) (Nat.le_of_ble_eq_true rfl) ?_
  refine evc_putR (q := 12) (ci := 3) (j := 4) (T := TX3) (ty := .array .int) dX3_init_9 rfl rfl cf_3 hk (by decide) (by decide) (by omega) hr4 (AW_t (tb_1 (i := 79) rfl) rfl) rfl rfl rfl (by decide +kernel) (fun _ => rfl) (fun _ => rfl) ?_
  refine evc_aload_n (q := 13) dX3_init_12 rfl 0 rfl rfl ?_
  refine evc_bipush (q := 15) (v := 6) dX3_init_13 rfl (by decide) ?_
  refine evc_newa (q := 17) (nn := k + 3) (ty := .int) (kdn := 100) (N := 6) dX3_init_15 rfl rfl rfl arr_i (Or.inl ⟨rfl, rfl⟩) hk2 hn2 (by decide) (by decide) (Nat.le_of_ble_eq_true rfl) (Nat.le_of_ble_eq_true rfl) (Nat.le_of_ble_eq_true rfl) ?_
  refine evc_putR (q := 20) (ci := 3) (j := 5) (T := TX3) (ty := .array .int) dX3_init_17 rfl rfl cf_3 hk (by decide) (by decide) (by omega) hr5 (AW_t (tb_1 (i := 82) rfl) rfl) rfl rfl rfl (by decide +kernel) (fun _ => rfl) (fun _ => rfl) ?_
  refine evc_aload_n (q := 21) dX3_init_20 rfl 0 rfl rfl ?_
  refine evc_bipush (q := 23) (v := 6) dX3_init_21 rfl (by decide) ?_
  refine evc_newa (q := 25) (nn := k + 4) (ty := .int) (kdn := 100) (N := 6) dX3_init_23 rfl rfl rfl arr_i (Or.inl ⟨rfl, rfl⟩) hk3 hn3 (by decide) (by decide) (Nat.le_of_ble_eq_true rfl) (Nat.le_of_ble_eq_true rfl) (Nat.le_of_ble_eq_true rfl) ?_
  refine evc_putR (q := 28) (ci := 3) (j := 6) (T := TX3) (ty := .array .int) dX3_init_25 rfl rfl cf_3 hk (by decide) (by decide) (by omega) hr6 (AW_t (tb_1 (i := 87) rfl) rfl) rfl rfl rfl (by decide +kernel) (fun _ => rfl) (fun _ => rfl) ?_
  refine evc_aload_n (q := 29) dX3_init_28 rfl 0 rfl rfl ?_
  refine evc_iconst (q := 30) (v := 4) dX3_init_29 rfl (by decide) ?_
  refine evc_newa (q := 32) (nn := k + 5) (ty := .int) (kdn := 100) (N := 4) dX3_init_30 rfl rfl rfl arr_i (Or.inl ⟨rfl, rfl⟩) hk4 hn4 (by decide) (by decide) (Nat.le_of_ble_eq_true rfl) (Nat.le_of_ble_eq_true rfl) (Nat.le_of_ble_eq_true rfl) ?_
  refine evc_putR (q := 35) (ci := 3) (j := 8) (T := TX3) (ty := .array .int) dX3_init_32 rfl rfl cf_3 hk (by decide) (by decide) (by omega) hr8 (AW_t (tb_1 (i := 94) rfl) rfl) rfl rfl rfl (by decide +kernel) (fun _ => rfl) (fun _ => rfl) ?_
  refine evc_aload_n (q := 36) dX3_init_35 rfl 0 rfl rfl ?_
  refine evc_iconst (q := 37) (v := 4) dX3_init_36 rfl (by decide) ?_
  refine evc_newa (q := 39) (nn := k + 6) (ty := .int) (kdn := 100) (N := 4) dX3_init_37 rfl rfl rfl arr_i (Or.inl ⟨rfl, rfl⟩) hk5 hn5 (by decide) (by decide) (Nat.le_of_ble_eq_true rfl) (Nat.le_of_ble_eq_true rfl) (Nat.le_of_ble_eq_true rfl) ?_
  refine evc_putR (q := 42) (ci := 3) (j := 9) (T := TX3) (ty := .array .int) dX3_init_39 rfl rfl cf_3 hk (by decide) (by decide) (by omega) hr9 (AW_t (tb_1 (i := 96) rfl) rfl) rfl rfl rfl (by decide +kernel) (fun _ => rfl) (fun _ => rfl) ?_
  refine evc_aload_n (q := 43) dX3_init_42 rfl 0 rfl rfl ?_
  refine evc_iconst (q := 44) (v := 4) dX3_init_43 rfl (by decide) ?_
  refine evc_newa (q := 46) (nn := k + 7) (ty := .int) (kdn := 100) (N := 4) dX3_init_44 rfl rfl rfl arr_i (Or.inl ⟨rfl, rfl⟩) hk6 hn6 (by decide) (by decide) (Nat.le_of_ble_eq_true rfl) (Nat.le_of_ble_eq_true rfl) (Nat.le_of_ble_eq_true rfl) ?_
  refine evc_putR (q := 49) (ci := 3) (j := 10) (T := TX3) (ty := .array .int) dX3_init_46 rfl rfl cf_3 hk (by decide) (by decide) (by omega) hr10 (AW_t (tb_1 (i := 100) rfl) rfl) rfl rfl rfl (by decide +kernel) (fun _ => rfl) (fun _ => rfl) ?_
  refine evc_aload_n (q := 50) dX3_init_49 rfl 0 rfl rfl ?_
  refine evc_iconst (q := 51) (v := 4) dX3_init_50 rfl (by decide) ?_
  refine evc_newa (q := 53) (nn := k + 8) (ty := .int) (kdn := 100) (N := 4) dX3_init_51 rfl rfl rfl arr_i (Or.inl ⟨rfl, rfl⟩) hk7 hn7 (by decide) (by decide) (Nat.le_of_ble_eq_true rfl) (Nat.le_of_ble_eq_true rfl) (Nat.le_of_ble_eq_true rfl) ?_
  refine evc_putR (q := 56) (ci := 3) (j := 11) (T := TX3) (ty := .array .int) dX3_init_53 rfl rfl cf_3 hk (by decide) (by decide) (by omega) hr11 (AW_t (tb_1 (i := 103) rfl) rfl) rfl rfl rfl (by decide +kernel) (fun _ => rfl) (fun _ => rfl) ?_
  refine evc_aload_n (q := 57) dX3_init_56 rfl 0 rfl rfl ?_
  refine evc_bipush (q := 59) (v := 24) dX3_init_57 rfl (by decide) ?_
  refine evc_newa (q := 61) (nn := k + 9) (ty := .int) (kdn := 100) (N := 24) dX3_init_59 rfl rfl rfl arr_i (Or.inl ⟨rfl, rfl⟩) hk8 hn8 (by decide) (by decide) (Nat.le_of_ble_eq_true rfl) (Nat.le_of_ble_eq_true rfl) (Nat.le_of_ble_eq_true rfl) ?_
  refine evc_putR (q := 64) (ci := 3) (j := 12) (T := TX3) (ty := .array .int) dX3_init_61 rfl rfl cf_3 hk (by decide) (by decide) (by omega) hr12 (AW_t (tb_1 (i := 106) rfl) rfl) rfl rfl rfl (by decide +kernel) (fun _ => rfl) (fun _ => rfl) ?_
  refine evc_congr (fl' := flA fl k (k + 9)) (fun a ha h100 j hj hir => ?_) ?_
  · by_cases hak : a = k
    · subst hak
      rw [hk] at hj hir
      have hj2 := (show ∀ j, j < nf 3 → ir 3 j = true → (j = 4 ∨ j = 5 ∨ j = 6 ∨ j = 8 ∨ j = 9 ∨ j = 10 ∨ j = 11 ∨ j = 12) by decide) j hj hir
      rcases hj2 with rfl | rfl | rfl | rfl | rfl | rfl | rfl | rfl <;> simp [fl1, flA, ha]
    · by_cases hin : k ≤ a ∧ a < k + 9
      · exfalso
        obtain ⟨g1, g2⟩ := gap_n hak hin (g := 8) rfl
        have h9 := sf_3_A hk (a - (k + 1)) g1
        rw [g2] at h9
        exact absurd h100 (Nat.not_lt.mpr h9)
      · simp only [fl1, if_neg hak, flA, if_neg hin]
  exact evc_vret dX3_init_64 rfl rfl ⟨rfl, rfl, rfl⟩
set_option maxRecDepth 100000 in
set_option maxHeartbeats 4000000 in
theorem conC_X0 (G : Gt) (base k : Nat) (hk : kd k = 0) (fl : Nat → Nat → Bool) (mem : Mem) : ConC G base yX0_init cX0_init 1 1 7 168 [.ref (gA G k)] (k + 1) fl mem (fun n2 fl2 mem2 => n2 = k + 8 ∧ fl2 = flA fl k (k + 8) ∧ mem2 = mem) := by
  have hk1 := sf_0_hk1 hk
  have hn1 := sf_0_hn1 hk
  have hk2 := sf_0_hk2 hk
  have hn2 := sf_0_hn2 hk
  have hk3 := sf_0_hk3 hk
  have hn3 := sf_0_hn3 hk
  have hk4 := sf_0_hk4 hk
  have hn4 := sf_0_hn4 hk
  have hk5 := sf_0_hk5 hk
  have hn5 := sf_0_hn5 hk
  have hk6 := sf_0_hk6 hk
  have hn6 := sf_0_hn6 hk
  have hk7 := sf_0_hk7 hk
  have hn7 := sf_0_hn7 hk
  have hr0 := sf_0_hr0 hk
  have hr1 := sf_0_hr1 hk
  have hr2 := sf_0_hr2 hk
  have hr3 := sf_0_hr3 hk
  have hr4 := sf_0_hr4 hk
  have hr5 := sf_0_hr5 hk
  have hr6 := sf_0_hr6 hk
  refine conC_of (ini := true) (by decide) (fun _ => rfl) (Nat.le_of_ble_eq_true rfl) ?_
  show EvC G base cX0_init 1 RX0 true 1 7 168 _ 0 [(0, .ref (gA G k))] [] (k + 1) fl mem 0 0
  refine evc_aload_n (q := 1) dX0_init_0 rfl 0 rfl rfl ?_
  refine evc_objInit (q := 4) dX0_init_1 rfl (AW_t (tb_1 (i := 139) rfl) rfl) oi_i oi_c (Nat.le_of_ble_eq_true rfl) rfl ?_
  refine evc_aload_n (q := 5) dX0_init_4 rfl 0 rfl rfl ?_
  refine evc_bipush (q := 7) (v := 24) dX0_init_5 rfl (by decide) ?_
  refine evc_newa (q := 9) (nn := k + 2) (ty := .int) (kdn := 100) (N := 24) dX0_init_7 rfl rfl rfl arr_i (Or.inl ⟨rfl, rfl⟩) hk1 hn1 (by decide) (by decide) (Nat.le_of_ble_eq_true rfl) (Nat.le_of_ble_eq_true rfl) (Nat.le_of_ble_eq_true rfl) ?_
  refine evc_putR (q := 12) (ci := 0) (j := 0) (T := TX0) (ty := .array .int) dX0_init_9 rfl rfl cf_0 hk (by decide) (by decide) (by omega) hr0 (AW_t (tb_1 (i := 140) rfl) rfl) rfl rfl rfl (by decide +kernel) (fun _ => rfl) (fun _ => rfl) ?_
  refine evc_aload_n (q := 13) dX0_init_12 rfl 0 rfl rfl ?_
  refine evc_bipush (q := 15) (v := 24) dX0_init_13 rfl (by decide) ?_
  refine evc_newa (q := 17) (nn := k + 3) (ty := .int) (kdn := 100) (N := 24) dX0_init_15 rfl rfl rfl arr_i (Or.inl ⟨rfl, rfl⟩) hk2 hn2 (by decide) (by decide) (Nat.le_of_ble_eq_true rfl) (Nat.le_of_ble_eq_true rfl) (Nat.le_of_ble_eq_true rfl) ?_
  refine evc_putR (q := 20) (ci := 0) (j := 1) (T := TX0) (ty := .array .int) dX0_init_17 rfl rfl cf_0 hk (by decide) (by decide) (by omega) hr1 (AW_t (tb_1 (i := 141) rfl) rfl) rfl rfl rfl (by decide +kernel) (fun _ => rfl) (fun _ => rfl) ?_
  refine evc_aload_n (q := 21) dX0_init_20 rfl 0 rfl rfl ?_
  refine evc_bipush (q := 23) (v := 24) dX0_init_21 rfl (by decide) ?_
  refine evc_newa (q := 25) (nn := k + 4) (ty := .int) (kdn := 100) (N := 24) dX0_init_23 rfl rfl rfl arr_i (Or.inl ⟨rfl, rfl⟩) hk3 hn3 (by decide) (by decide) (Nat.le_of_ble_eq_true rfl) (Nat.le_of_ble_eq_true rfl) (Nat.le_of_ble_eq_true rfl) ?_
  refine evc_putR (q := 28) (ci := 0) (j := 2) (T := TX0) (ty := .array .int) dX0_init_25 rfl rfl cf_0 hk (by decide) (by decide) (by omega) hr2 (AW_t (tb_1 (i := 142) rfl) rfl) rfl rfl rfl (by decide +kernel) (fun _ => rfl) (fun _ => rfl) ?_
  refine evc_aload_n (q := 29) dX0_init_28 rfl 0 rfl rfl ?_
  refine evc_bipush (q := 31) (v := 24) dX0_init_29 rfl (by decide) ?_
  refine evc_newa (q := 33) (nn := k + 5) (ty := .int) (kdn := 100) (N := 24) dX0_init_31 rfl rfl rfl arr_i (Or.inl ⟨rfl, rfl⟩) hk4 hn4 (by decide) (by decide) (Nat.le_of_ble_eq_true rfl) (Nat.le_of_ble_eq_true rfl) (Nat.le_of_ble_eq_true rfl) ?_
  refine evc_putR (q := 36) (ci := 0) (j := 3) (T := TX0) (ty := .array .int) dX0_init_33 rfl rfl cf_0 hk (by decide) (by decide) (by omega) hr3 (AW_t (tb_1 (i := 143) rfl) rfl) rfl rfl rfl (by decide +kernel) (fun _ => rfl) (fun _ => rfl) ?_
  refine evc_aload_n (q := 37) dX0_init_36 rfl 0 rfl rfl ?_
  refine evc_bipush (q := 39) (v := 24) dX0_init_37 rfl (by decide) ?_
  refine evc_newa (q := 41) (nn := k + 6) (ty := .int) (kdn := 100) (N := 24) dX0_init_39 rfl rfl rfl arr_i (Or.inl ⟨rfl, rfl⟩) hk5 hn5 (by decide) (by decide) (Nat.le_of_ble_eq_true rfl) (Nat.le_of_ble_eq_true rfl) (Nat.le_of_ble_eq_true rfl) ?_
  refine evc_putR (q := 44) (ci := 0) (j := 4) (T := TX0) (ty := .array .int) dX0_init_41 rfl rfl cf_0 hk (by decide) (by decide) (by omega) hr4 (AW_t (tb_1 (i := 144) rfl) rfl) rfl rfl rfl (by decide +kernel) (fun _ => rfl) (fun _ => rfl) ?_
  refine evc_aload_n (q := 45) dX0_init_44 rfl 0 rfl rfl ?_
  refine evc_bipush (q := 47) (v := 24) dX0_init_45 rfl (by decide) ?_
  refine evc_newa (q := 49) (nn := k + 7) (ty := .int) (kdn := 100) (N := 24) dX0_init_47 rfl rfl rfl arr_i (Or.inl ⟨rfl, rfl⟩) hk6 hn6 (by decide) (by decide) (Nat.le_of_ble_eq_true rfl) (Nat.le_of_ble_eq_true rfl) (Nat.le_of_ble_eq_true rfl) ?_
  refine evc_putR (q := 52) (ci := 0) (j := 5) (T := TX0) (ty := .array .int) dX0_init_49 rfl rfl cf_0 hk (by decide) (by decide) (by omega) hr5 (AW_t (tb_1 (i := 145) rfl) rfl) rfl rfl rfl (by decide +kernel) (fun _ => rfl) (fun _ => rfl) ?_
  refine evc_aload_n (q := 53) dX0_init_52 rfl 0 rfl rfl ?_
  refine evc_bipush (q := 55) (v := 24) dX0_init_53 rfl (by decide) ?_
  refine evc_newa (q := 57) (nn := k + 8) (ty := .int) (kdn := 100) (N := 24) dX0_init_55 rfl rfl rfl arr_i (Or.inl ⟨rfl, rfl⟩) hk7 hn7 (by decide) (by decide) (Nat.le_of_ble_eq_true rfl) (Nat.le_of_ble_eq_true rfl) (Nat.le_of_ble_eq_true rfl) ?_
  refine evc_putR (q := 60) (ci := 0) (j := 6) (T := TX0) (ty := .array .int) dX0_init_57 rfl rfl cf_0 hk (by decide) (by decide) (by omega) hr6 (AW_t (tb_1 (i := 146) rfl) rfl) rfl rfl rfl (by decide +kernel) (fun _ => rfl) (fun _ => rfl) ?_
  refine evc_congr (fl' := flA fl k (k + 8)) (fun a ha h100 j hj hir => ?_) ?_
  · by_cases hak : a = k
    · subst hak
      rw [hk] at hj hir
      have hj2 := (show ∀ j, j < nf 0 → ir 0 j = true → (j = 0 ∨ j = 1 ∨ j = 2 ∨ j = 3 ∨ j = 4 ∨ j = 5 ∨ j = 6) by decide) j hj hir
      rcases hj2 with rfl | rfl | rfl | rfl | rfl | rfl | rfl <;> simp [fl1, flA, ha]
    · by_cases hin : k ≤ a ∧ a < k + 8
      · exfalso
        obtain ⟨g1, g2⟩ := gap_n hak hin (g := 7) rfl
        have h9 := sf_0_A hk (a - (k + 1)) g1
        rw [g2] at h9
        exact absurd h100 (Nat.not_lt.mpr h9)
      · simp only [fl1, if_neg hak, flA, if_neg hin]
  exact evc_vret dX0_init_60 rfl rfl ⟨rfl, rfl, rfl⟩
set_option maxRecDepth 100000 in
set_option maxHeartbeats 4000000 in
theorem conC_X2 (G : Gt) (base k : Nat) (hk : kd k = 2) (fl : Nat → Nat → Bool) (mem : Mem) : ConC G base yX2_init cX2_init 1 1 3 74 [.ref (gA G k)] (k + 1) fl mem (fun n2 fl2 mem2 => n2 = k + 4 ∧ fl2 = flA fl k (k + 4) ∧ mem2 = mem) := by
  have hk1 := sf_2_hk1 hk
  have hn1 := sf_2_hn1 hk
  have hk2 := sf_2_hk2 hk
  have hn2 := sf_2_hn2 hk
  have hk3 := sf_2_hk3 hk
  have hn3 := sf_2_hn3 hk
  have hr0 := sf_2_hr0 hk
  have hr1 := sf_2_hr1 hk
  have hr2 := sf_2_hr2 hk
  refine conC_of (ini := true) (by decide) (fun _ => rfl) (Nat.le_of_ble_eq_true rfl) ?_
  show EvC G base cX2_init 1 RX2 true 1 3 74 _ 0 [(0, .ref (gA G k))] [] (k + 1) fl mem 0 0
  refine evc_aload_n (q := 1) dX2_init_0 rfl 0 rfl rfl ?_
  refine evc_objInit (q := 4) dX2_init_1 rfl (AW_t (tb_1 (i := 174) rfl) rfl) oi_i oi_c (Nat.le_of_ble_eq_true rfl) rfl ?_
  refine evc_aload_n (q := 5) dX2_init_4 rfl 0 rfl rfl ?_
  refine evc_iconst (q := 6) (v := 4) dX2_init_5 rfl (by decide) ?_
  refine evc_newa (q := 8) (nn := k + 2) (ty := .int) (kdn := 100) (N := 4) dX2_init_6 rfl rfl rfl arr_i (Or.inl ⟨rfl, rfl⟩) hk1 hn1 (by decide) (by decide) (Nat.le_of_ble_eq_true rfl) (Nat.le_of_ble_eq_true rfl) (Nat.le_of_ble_eq_true rfl) ?_
  refine evc_putR (q := 11) (ci := 2) (j := 0) (T := TX2) (ty := .array .int) dX2_init_8 rfl rfl cf_2 hk (by decide) (by decide) (by omega) hr0 (AW_t (tb_1 (i := 175) rfl) rfl) rfl rfl rfl (by decide +kernel) (fun _ => rfl) (fun _ => rfl) ?_
  refine evc_aload_n (q := 12) dX2_init_11 rfl 0 rfl rfl ?_
  refine evc_bipush (q := 14) (v := 6) dX2_init_12 rfl (by decide) ?_
  refine evc_newa (q := 16) (nn := k + 3) (ty := .int) (kdn := 100) (N := 6) dX2_init_14 rfl rfl rfl arr_i (Or.inl ⟨rfl, rfl⟩) hk2 hn2 (by decide) (by decide) (Nat.le_of_ble_eq_true rfl) (Nat.le_of_ble_eq_true rfl) (Nat.le_of_ble_eq_true rfl) ?_
  refine evc_putR (q := 19) (ci := 2) (j := 1) (T := TX2) (ty := .array .int) dX2_init_16 rfl rfl cf_2 hk (by decide) (by decide) (by omega) hr1 (AW_t (tb_1 (i := 176) rfl) rfl) rfl rfl rfl (by decide +kernel) (fun _ => rfl) (fun _ => rfl) ?_
  refine evc_aload_n (q := 20) dX2_init_19 rfl 0 rfl rfl ?_
  refine evc_bipush (q := 22) (v := 64) dX2_init_20 rfl (by decide) ?_
  refine evc_newa (q := 24) (nn := k + 4) (ty := .int) (kdn := 100) (N := 64) dX2_init_22 rfl rfl rfl arr_i (Or.inl ⟨rfl, rfl⟩) hk3 hn3 (by decide) (by decide) (Nat.le_of_ble_eq_true rfl) (Nat.le_of_ble_eq_true rfl) (Nat.le_of_ble_eq_true rfl) ?_
  refine evc_putR (q := 27) (ci := 2) (j := 2) (T := TX2) (ty := .array .int) dX2_init_24 rfl rfl cf_2 hk (by decide) (by decide) (by omega) hr2 (AW_t (tb_1 (i := 178) rfl) rfl) rfl rfl rfl (by decide +kernel) (fun _ => rfl) (fun _ => rfl) ?_
  refine evc_congr (fl' := flA fl k (k + 4)) (fun a ha h100 j hj hir => ?_) ?_
  · by_cases hak : a = k
    · subst hak
      rw [hk] at hj hir
      have hj2 := (show ∀ j, j < nf 2 → ir 2 j = true → (j = 0 ∨ j = 1 ∨ j = 2) by decide) j hj hir
      rcases hj2 with rfl | rfl | rfl <;> simp [fl1, flA, ha]
    · by_cases hin : k ≤ a ∧ a < k + 4
      · exfalso
        obtain ⟨g1, g2⟩ := gap_n hak hin (g := 3) rfl
        have h9 := sf_2_A hk (a - (k + 1)) g1
        rw [g2] at h9
        exact absurd h100 (Nat.not_lt.mpr h9)
      · simp only [fl1, if_neg hak, flA, if_neg hin]
  exact evc_vret dX2_init_27 rfl rfl ⟨rfl, rfl, rfl⟩
set_option maxRecDepth 100000 in
set_option maxHeartbeats 4000000 in
theorem conC_X1 (G : Gt) (base k : Nat) (hk : kd k = 1) (fl : Nat → Nat → Bool) (mem : Mem) : ConC G base yX1_init cX1_init 1 1 1 16 [.ref (gA G k)] (k + 1) fl mem (fun n2 fl2 mem2 => n2 = k + 2 ∧ fl2 = flA fl k (k + 2) ∧ mem2 = mem) := by
  have hk1 := sf_1_hk1 hk
  have hn1 := sf_1_hn1 hk
  have hr0 := sf_1_hr0 hk
  refine conC_of (ini := true) (by decide) (fun _ => rfl) (Nat.le_of_ble_eq_true rfl) ?_
  show EvC G base cX1_init 1 RX1 true 1 1 16 _ 0 [(0, .ref (gA G k))] [] (k + 1) fl mem 0 0
  refine evc_aload_n (q := 1) dX1_init_0 rfl 0 rfl rfl ?_
  refine evc_objInit (q := 4) dX1_init_1 rfl (AW_t (tb_1 (i := 191) rfl) rfl) oi_i oi_c (Nat.le_of_ble_eq_true rfl) rfl ?_
  refine evc_aload_n (q := 5) dX1_init_4 rfl 0 rfl rfl ?_
  refine evc_bipush (q := 7) (v := 16) dX1_init_5 rfl (by decide) ?_
  refine evc_newa (q := 9) (nn := k + 2) (ty := .int) (kdn := 100) (N := 16) dX1_init_7 rfl rfl rfl arr_i (Or.inl ⟨rfl, rfl⟩) hk1 hn1 (by decide) (by decide) (Nat.le_of_ble_eq_true rfl) (Nat.le_of_ble_eq_true rfl) (Nat.le_of_ble_eq_true rfl) ?_
  refine evc_putR (q := 12) (ci := 1) (j := 0) (T := TX1) (ty := .array .int) dX1_init_9 rfl rfl cf_1 hk (by decide) (by decide) (by omega) hr0 (AW_t (tb_1 (i := 192) rfl) rfl) rfl rfl rfl (by decide +kernel) (fun _ => rfl) (fun _ => rfl) ?_
  refine evc_congr (fl' := flA fl k (k + 2)) (fun a ha h100 j hj hir => ?_) ?_
  · by_cases hak : a = k
    · subst hak
      rw [hk] at hj hir
      have hj2 := (show ∀ j, j < nf 1 → ir 1 j = true → (j = 0) by decide) j hj hir
      rcases hj2 with rfl <;> simp [fl1, flA, ha]
    · by_cases hin : k ≤ a ∧ a < k + 2
      · exfalso
        obtain ⟨g1, g2⟩ := gap_n hak hin (g := 1) rfl
        have h9 := sf_1_A hk (a - (k + 1)) g1
        rw [g2] at h9
        exact absurd h100 (Nat.not_lt.mpr h9)
      · simp only [fl1, if_neg hak, flA, if_neg hin]
  exact evc_vret dX1_init_12 rfl rfl ⟨rfl, rfl, rfl⟩
-- the loop of the reference's constructor stands ahead
set_option maxRecDepth 100000 in
theorem model_loop (G : Gt) (base k : Nat) (hk : kd k = 7) (fl : Nat → Nat → Bool) (mem : Mem) (mc ms : Nat) : ∀ (z i : Nat), i ≤ 8 → 8 - i ≤ z → ∀ (n : Nat), n = k + 16 → EvC G base cX7_init 2 RX7 true 1 mc ms (fun n2 fl2 m2 => n2 = n ∧ fl2 = flA fl k n ∧ m2 = st1 mem (k + 2) (fun j => if j < 8 then (-1) else mem (k + 2) j)) 126 [(0, .ref (gA G k)), (1, .int (nI i))] [] n (flA fl k n) (fillM mem (k + 2) (-1) i) mc ms := by
  intro z
  induction z with
  | zero =>
    intro i hi hz n hn
    have he : i = 8 := by omega
    subst he
    refine evc_iload_n (q := 127) dX7_init_126 rfl 1 rfl rfl ?_
    refine evc_bipush (q := 129) (v := 8) dX7_init_127 rfl (by decide) ?_
    refine evc_icmp_ge (t := 145) (q := 132) dX7_init_129 rfl rfl (fun hc => ?_) (fun hc => ?_)
    · exact evc_vret dX7_init_145 rfl rfl ⟨rfl, rfl, rfl⟩
    · exact absurd (by decide) hc
  | succ z ih =>
    intro i hi hz n hn
    refine evc_iload_n (q := 127) dX7_init_126 rfl 1 rfl rfl ?_
    refine evc_bipush (q := 129) (v := 8) dX7_init_127 rfl (by decide) ?_
    refine evc_icmp_ge (t := 145) (q := 132) dX7_init_129 rfl rfl (fun hc => ?_) (fun hc => ?_)
    · have he : i = 8 := by
        have := (nI_leI (a := 8) (b := i) (by decide) (by omega)).mp hc
        omega
      subst he
      exact evc_vret dX7_init_145 rfl rfl ⟨rfl, rfl, rfl⟩
    · have hl : i < 8 := by
        apply Nat.not_le.mp
        intro q
        exact hc ((nI_leI (a := 8) (b := i) (by decide) (by omega)).mpr q)
      have hk2 := sf_7_hk2 hk
      have hn2 := sf_7_hn2 hk
      have hr1 := sf_7_hr1 hk
      refine evc_aload_n (q := 133) dX7_init_132 rfl 0 rfl rfl ?_
      refine evc_getR (q := 136) (ci := 7) (j := 1) (T := TX7) dX7_init_133 rfl cf_7 hk (by decide) (by decide) (by omega) hr1 (AW_t (tb_4 (i := 34) rfl) rfl) rfl (by unfold flA; rw [if_pos (by omega)]) ?_
      refine evc_iload_n (q := 137) dX7_init_136 rfl 1 rfl rfl ?_
      refine evc_iconst (q := 138) (v := (-1)) dX7_init_137 rfl (by decide) ?_
      refine evc_iast (q := 139) dX7_init_138 rfl hk2 (by omega) (by rw [hn2]; exact vp_in_nI hl (by decide)) ?_
      rw [nI_clamp (by omega), fillM_s]
      refine evc_iinc (q := 142) (lv2 := [(1, .int _), (0, .ref _)]) (v := nI (i + 1)) dX7_init_139 1 rfl rfl (by rw [li_1]; exact nI_1 i) (Nat.le_of_ble_eq_true rfl) rfl ?_
      refine evc_goto (t := 126) dX7_init_142 rfl ?_
      refine evc_sub (lv' := [(0, .ref _), (1, .int _)]) [1, 0] rfl ?_
      exact ih (i + 1) (by omega) (by omega) n hn

set_option maxRecDepth 100000 in
set_option maxHeartbeats 4000000 in
theorem conC_X7 (G : Gt) (base k : Nat) (hk : kd k = 7) (fl : Nat → Nat → Bool) (mem : Mem) : ConC G base yX7_init cX7_init 2 1 15 2416 [.ref (gA G k)] (k + 1) fl mem (fun n2 fl2 mem2 => n2 = k + 16 ∧ fl2 = flA fl k (k + 16) ∧ mem2 = st1 mem (k + 2) (fun j => if j < 8 then (-1) else mem (k + 2) j)) := by
  have hk1 := sf_7_hk1 hk
  have hn1 := sf_7_hn1 hk
  have hk2 := sf_7_hk2 hk
  have hn2 := sf_7_hn2 hk
  have hk3 := sf_7_hk3 hk
  have hn3 := sf_7_hn3 hk
  have hk4 := sf_7_hk4 hk
  have hn4 := sf_7_hn4 hk
  have hk5 := sf_7_hk5 hk
  have hn5 := sf_7_hn5 hk
  have hk6 := sf_7_hk6 hk
  have hn6 := sf_7_hn6 hk
  have hk7 := sf_7_hk7 hk
  have hn7 := sf_7_hn7 hk
  have hk8 := sf_7_hk8 hk
  have hn8 := sf_7_hn8 hk
  have hk9 := sf_7_hk9 hk
  have hn9 := sf_7_hn9 hk
  have hk10 := sf_7_hk10 hk
  have hn10 := sf_7_hn10 hk
  have hk11 := sf_7_hk11 hk
  have hn11 := sf_7_hn11 hk
  have hk12 := sf_7_hk12 hk
  have hn12 := sf_7_hn12 hk
  have hk13 := sf_7_hk13 hk
  have hn13 := sf_7_hn13 hk
  have hk14 := sf_7_hk14 hk
  have hn14 := sf_7_hn14 hk
  have hk15 := sf_7_hk15 hk
  have hn15 := sf_7_hn15 hk
  have hr0 := sf_7_hr0 hk
  have hr1 := sf_7_hr1 hk
  have hr2 := sf_7_hr2 hk
  have hr4 := sf_7_hr4 hk
  have hr5 := sf_7_hr5 hk
  have hr6 := sf_7_hr6 hk
  have hr12 := sf_7_hr12 hk
  have hr14 := sf_7_hr14 hk
  have hr15 := sf_7_hr15 hk
  have hr16 := sf_7_hr16 hk
  have hr17 := sf_7_hr17 hk
  have hr18 := sf_7_hr18 hk
  have hr19 := sf_7_hr19 hk
  have hr20 := sf_7_hr20 hk
  have hr21 := sf_7_hr21 hk
  refine conC_of (ini := true) (by decide) (fun _ => rfl) (Nat.le_of_ble_eq_true rfl) ?_
  show EvC G base cX7_init 2 RX7 true 1 15 2416 _ 0 [(0, .ref (gA G k))] [] (k + 1) fl mem 0 0
  refine evc_aload_n (q := 1) dX7_init_0 rfl 0 rfl rfl ?_
  refine evc_objInit (q := 4) dX7_init_1 rfl (AW_t (tb_4 (i := 32) rfl) rfl) oi_i oi_c (Nat.le_of_ble_eq_true rfl) rfl ?_
  refine evc_aload_n (q := 5) dX7_init_4 rfl 0 rfl rfl ?_
  refine evc_bipush (q := 7) (v := 8) dX7_init_5 rfl (by decide) ?_
  refine evc_newa (q := 9) (nn := k + 2) (ty := .int) (kdn := 100) (N := 8) dX7_init_7 rfl rfl rfl arr_i (Or.inl ⟨rfl, rfl⟩) hk1 hn1 (by decide) (by decide) (Nat.le_of_ble_eq_true rfl) (Nat.le_of_ble_eq_true rfl) (Nat.le_of_ble_eq_true rfl) ?_
  refine evc_putR (q := 12) (ci := 7) (j := 0) (T := TX7) (ty := .array .int) dX7_init_9 rfl rfl cf_7 hk (by decide) (by decide) (by omega) hr0 (AW_t (tb_4 (i := 33) rfl) rfl) rfl rfl rfl (by decide +kernel) (fun _ => rfl) (fun _ => rfl) ?_
  refine evc_aload_n (q := 13) dX7_init_12 rfl 0 rfl rfl ?_
  refine evc_bipush (q := 15) (v := 8) dX7_init_13 rfl (by decide) ?_
  refine evc_newa (q := 17) (nn := k + 3) (ty := .int) (kdn := 100) (N := 8) dX7_init_15 rfl rfl rfl arr_i (Or.inl ⟨rfl, rfl⟩) hk2 hn2 (by decide) (by decide) (Nat.le_of_ble_eq_true rfl) (Nat.le_of_ble_eq_true rfl) (Nat.le_of_ble_eq_true rfl) ?_
  refine evc_putR (q := 20) (ci := 7) (j := 1) (T := TX7) (ty := .array .int) dX7_init_17 rfl rfl cf_7 hk (by decide) (by decide) (by omega) hr1 (AW_t (tb_4 (i := 34) rfl) rfl) rfl rfl rfl (by decide +kernel) (fun _ => rfl) (fun _ => rfl) ?_
  refine evc_aload_n (q := 21) dX7_init_20 rfl 0 rfl rfl ?_
  refine evc_sipush (q := 24) (v := 320) dX7_init_21 rfl (by decide) ?_
  refine evc_newa (q := 26) (nn := k + 4) (ty := .int) (kdn := 100) (N := 320) dX7_init_24 rfl rfl rfl arr_i (Or.inl ⟨rfl, rfl⟩) hk3 hn3 (by decide) (by decide) (Nat.le_of_ble_eq_true rfl) (Nat.le_of_ble_eq_true rfl) (Nat.le_of_ble_eq_true rfl) ?_
  refine evc_putR (q := 29) (ci := 7) (j := 2) (T := TX7) (ty := .array .int) dX7_init_26 rfl rfl cf_7 hk (by decide) (by decide) (by omega) hr2 (AW_t (tb_4 (i := 35) rfl) rfl) rfl rfl rfl (by decide +kernel) (fun _ => rfl) (fun _ => rfl) ?_
  refine evc_aload_n (q := 30) dX7_init_29 rfl 0 rfl rfl ?_
  refine evc_bipush (q := 32) (v := 40) dX7_init_30 rfl (by decide) ?_
  refine evc_newa (q := 34) (nn := k + 5) (ty := .int) (kdn := 100) (N := 40) dX7_init_32 rfl rfl rfl arr_i (Or.inl ⟨rfl, rfl⟩) hk4 hn4 (by decide) (by decide) (Nat.le_of_ble_eq_true rfl) (Nat.le_of_ble_eq_true rfl) (Nat.le_of_ble_eq_true rfl) ?_
  refine evc_putR (q := 37) (ci := 7) (j := 4) (T := TX7) (ty := .array .int) dX7_init_34 rfl rfl cf_7 hk (by decide) (by decide) (by omega) hr4 (AW_t (tb_4 (i := 37) rfl) rfl) rfl rfl rfl (by decide +kernel) (fun _ => rfl) (fun _ => rfl) ?_
  refine evc_aload_n (q := 38) dX7_init_37 rfl 0 rfl rfl ?_
  refine evc_bipush (q := 40) (v := 63) dX7_init_38 rfl (by decide) ?_
  refine evc_newa (q := 42) (nn := k + 6) (ty := .int) (kdn := 100) (N := 63) dX7_init_40 rfl rfl rfl arr_i (Or.inl ⟨rfl, rfl⟩) hk5 hn5 (by decide) (by decide) (Nat.le_of_ble_eq_true rfl) (Nat.le_of_ble_eq_true rfl) (Nat.le_of_ble_eq_true rfl) ?_
  refine evc_putR (q := 45) (ci := 7) (j := 5) (T := TX7) (ty := .array .int) dX7_init_42 rfl rfl cf_7 hk (by decide) (by decide) (by omega) hr5 (AW_t (tb_4 (i := 38) rfl) rfl) rfl rfl rfl (by decide +kernel) (fun _ => rfl) (fun _ => rfl) ?_
  refine evc_aload_n (q := 46) dX7_init_45 rfl 0 rfl rfl ?_
  refine evc_bipush (q := 48) (v := 120) dX7_init_46 rfl (by decide) ?_
  refine evc_newa (q := 50) (nn := k + 7) (ty := .int) (kdn := 100) (N := 120) dX7_init_48 rfl rfl rfl arr_i (Or.inl ⟨rfl, rfl⟩) hk6 hn6 (by decide) (by decide) (Nat.le_of_ble_eq_true rfl) (Nat.le_of_ble_eq_true rfl) (Nat.le_of_ble_eq_true rfl) ?_
  refine evc_putR (q := 53) (ci := 7) (j := 6) (T := TX7) (ty := .array .int) dX7_init_50 rfl rfl cf_7 hk (by decide) (by decide) (by omega) hr6 (AW_t (tb_4 (i := 39) rfl) rfl) rfl rfl rfl (by decide +kernel) (fun _ => rfl) (fun _ => rfl) ?_
  refine evc_aload_n (q := 54) dX7_init_53 rfl 0 rfl rfl ?_
  refine evc_bipush (q := 56) (v := 63) dX7_init_54 rfl (by decide) ?_
  refine evc_newa (q := 58) (nn := k + 8) (ty := .int) (kdn := 100) (N := 63) dX7_init_56 rfl rfl rfl arr_i (Or.inl ⟨rfl, rfl⟩) hk7 hn7 (by decide) (by decide) (Nat.le_of_ble_eq_true rfl) (Nat.le_of_ble_eq_true rfl) (Nat.le_of_ble_eq_true rfl) ?_
  refine evc_putR (q := 61) (ci := 7) (j := 12) (T := TX7) (ty := .array .int) dX7_init_58 rfl rfl cf_7 hk (by decide) (by decide) (by omega) hr12 (AW_t (tb_4 (i := 45) rfl) rfl) rfl rfl rfl (by decide +kernel) (fun _ => rfl) (fun _ => rfl) ?_
  refine evc_aload_n (q := 62) dX7_init_61 rfl 0 rfl rfl ?_
  refine evc_sipush (q := 65) (v := 1512) dX7_init_62 rfl (by decide) ?_
  refine evc_newa (q := 67) (nn := k + 9) (ty := .int) (kdn := 100) (N := 1512) dX7_init_65 rfl rfl rfl arr_i (Or.inl ⟨rfl, rfl⟩) hk8 hn8 (by decide) (by decide) (Nat.le_of_ble_eq_true rfl) (Nat.le_of_ble_eq_true rfl) (Nat.le_of_ble_eq_true rfl) ?_
  refine evc_putR (q := 70) (ci := 7) (j := 14) (T := TX7) (ty := .array .int) dX7_init_67 rfl rfl cf_7 hk (by decide) (by decide) (by omega) hr14 (AW_t (tb_4 (i := 47) rfl) rfl) rfl rfl rfl (by decide +kernel) (fun _ => rfl) (fun _ => rfl) ?_
  refine evc_aload_n (q := 71) dX7_init_70 rfl 0 rfl rfl ?_
  refine evc_bipush (q := 73) (v := 6) dX7_init_71 rfl (by decide) ?_
  refine evc_newa (q := 75) (nn := k + 10) (ty := .int) (kdn := 100) (N := 6) dX7_init_73 rfl rfl rfl arr_i (Or.inl ⟨rfl, rfl⟩) hk9 hn9 (by decide) (by decide) (Nat.le_of_ble_eq_true rfl) (Nat.le_of_ble_eq_true rfl) (Nat.le_of_ble_eq_true rfl) ?_
  refine evc_putR (q := 78) (ci := 7) (j := 15) (T := TX7) (ty := .array .int) dX7_init_75 rfl rfl cf_7 hk (by decide) (by decide) (by omega) hr15 (AW_t (tb_4 (i := 48) rfl) rfl) rfl rfl rfl (by decide +kernel) (fun _ => rfl) (fun _ => rfl) ?_
  refine evc_aload_n (q := 79) dX7_init_78 rfl 0 rfl rfl ?_
  refine evc_iconst (q := 80) (v := 4) dX7_init_79 rfl (by decide) ?_
  refine evc_newa (q := 82) (nn := k + 11) (ty := .int) (kdn := 100) (N := 4) dX7_init_80 rfl rfl rfl arr_i (Or.inl ⟨rfl, rfl⟩) hk10 hn10 (by decide) (by decide) (Nat.le_of_ble_eq_true rfl) (Nat.le_of_ble_eq_true rfl) (Nat.le_of_ble_eq_true rfl) ?_
  refine evc_putR (q := 85) (ci := 7) (j := 16) (T := TX7) (ty := .array .int) dX7_init_82 rfl rfl cf_7 hk (by decide) (by decide) (by omega) hr16 (AW_t (tb_4 (i := 49) rfl) rfl) rfl rfl rfl (by decide +kernel) (fun _ => rfl) (fun _ => rfl) ?_
  refine evc_aload_n (q := 86) dX7_init_85 rfl 0 rfl rfl ?_
  refine evc_bipush (q := 88) (v := 64) dX7_init_86 rfl (by decide) ?_
  refine evc_newa (q := 90) (nn := k + 12) (ty := .int) (kdn := 100) (N := 64) dX7_init_88 rfl rfl rfl arr_i (Or.inl ⟨rfl, rfl⟩) hk11 hn11 (by decide) (by decide) (Nat.le_of_ble_eq_true rfl) (Nat.le_of_ble_eq_true rfl) (Nat.le_of_ble_eq_true rfl) ?_
  refine evc_putR (q := 93) (ci := 7) (j := 17) (T := TX7) (ty := .array .int) dX7_init_90 rfl rfl cf_7 hk (by decide) (by decide) (by omega) hr17 (AW_t (tb_4 (i := 50) rfl) rfl) rfl rfl rfl (by decide +kernel) (fun _ => rfl) (fun _ => rfl) ?_
  refine evc_aload_n (q := 94) dX7_init_93 rfl 0 rfl rfl ?_
  refine evc_bipush (q := 96) (v := 64) dX7_init_94 rfl (by decide) ?_
  refine evc_newa (q := 98) (nn := k + 13) (ty := .int) (kdn := 100) (N := 64) dX7_init_96 rfl rfl rfl arr_i (Or.inl ⟨rfl, rfl⟩) hk12 hn12 (by decide) (by decide) (Nat.le_of_ble_eq_true rfl) (Nat.le_of_ble_eq_true rfl) (Nat.le_of_ble_eq_true rfl) ?_
  refine evc_putR (q := 101) (ci := 7) (j := 18) (T := TX7) (ty := .array .int) dX7_init_98 rfl rfl cf_7 hk (by decide) (by decide) (by omega) hr18 (AW_t (tb_4 (i := 51) rfl) rfl) rfl rfl rfl (by decide +kernel) (fun _ => rfl) (fun _ => rfl) ?_
  refine evc_aload_n (q := 102) dX7_init_101 rfl 0 rfl rfl ?_
  refine evc_bipush (q := 104) (v := 126) dX7_init_102 rfl (by decide) ?_
  refine evc_newa (q := 106) (nn := k + 14) (ty := .int) (kdn := 100) (N := 126) dX7_init_104 rfl rfl rfl arr_i (Or.inl ⟨rfl, rfl⟩) hk13 hn13 (by decide) (by decide) (Nat.le_of_ble_eq_true rfl) (Nat.le_of_ble_eq_true rfl) (Nat.le_of_ble_eq_true rfl) ?_
  refine evc_putR (q := 109) (ci := 7) (j := 19) (T := TX7) (ty := .array .int) dX7_init_106 rfl rfl cf_7 hk (by decide) (by decide) (by omega) hr19 (AW_t (tb_4 (i := 52) rfl) rfl) rfl rfl rfl (by decide +kernel) (fun _ => rfl) (fun _ => rfl) ?_
  refine evc_aload_n (q := 110) dX7_init_109 rfl 0 rfl rfl ?_
  refine evc_iconst (q := 111) (v := 2) dX7_init_110 rfl (by decide) ?_
  refine evc_newa (q := 113) (nn := k + 15) (ty := .boolean) (kdn := 101) (N := 2) dX7_init_111 rfl rfl rfl arr_z (Or.inr ⟨rfl, rfl⟩) hk14 hn14 (by decide) (by decide) (Nat.le_of_ble_eq_true rfl) (Nat.le_of_ble_eq_true rfl) (Nat.le_of_ble_eq_true rfl) ?_
  refine evc_putR (q := 116) (ci := 7) (j := 20) (T := TX7) (ty := .array .boolean) dX7_init_113 rfl rfl cf_7 hk (by decide) (by decide) (by omega) hr20 (AW_t (tb_4 (i := 53) rfl) rfl) rfl rfl rfl (by decide +kernel) (fun _ => rfl) (fun _ => rfl) ?_
  refine evc_aload_n (q := 117) dX7_init_116 rfl 0 rfl rfl ?_
  refine evc_bipush (q := 119) (v := 16) dX7_init_117 rfl (by decide) ?_
  refine evc_newa (q := 121) (nn := k + 16) (ty := .int) (kdn := 100) (N := 16) dX7_init_119 rfl rfl rfl arr_i (Or.inl ⟨rfl, rfl⟩) hk15 hn15 (by decide) (by decide) (Nat.le_of_ble_eq_true rfl) (Nat.le_of_ble_eq_true rfl) (Nat.le_of_ble_eq_true rfl) ?_
  refine evc_putR (q := 124) (ci := 7) (j := 21) (T := TX7) (ty := .array .int) dX7_init_121 rfl rfl cf_7 hk (by decide) (by decide) (by omega) hr21 (AW_t (tb_4 (i := 54) rfl) rfl) rfl rfl rfl (by decide +kernel) (fun _ => rfl) (fun _ => rfl) ?_
  refine evc_iconst (q := 125) (v := 0) dX7_init_124 rfl (by decide) ?_
  refine evc_congr (fl' := flA fl k (k + 16)) (fun a ha h100 j hj hir => ?_) ?_
  · by_cases hak : a = k
    · subst hak
      rw [hk] at hj hir
      have hj2 := (show ∀ j, j < nf 7 → ir 7 j = true → (j = 0 ∨ j = 1 ∨ j = 2 ∨ j = 4 ∨ j = 5 ∨ j = 6 ∨ j = 12 ∨ j = 14 ∨ j = 15 ∨ j = 16 ∨ j = 17 ∨ j = 18 ∨ j = 19 ∨ j = 20 ∨ j = 21) by decide) j hj hir
      rcases hj2 with rfl | rfl | rfl | rfl | rfl | rfl | rfl | rfl | rfl | rfl | rfl | rfl | rfl | rfl | rfl <;> simp [fl1, flA, ha]
    · by_cases hin : k ≤ a ∧ a < k + 16
      · exfalso
        obtain ⟨g1, g2⟩ := gap_n hak hin (g := 15) rfl
        have h9 := sf_7_A hk (a - (k + 1)) g1
        rw [g2] at h9
        exact absurd h100 (Nat.not_lt.mpr h9)
      · simp only [fl1, if_neg hak, flA, if_neg hin]
  refine evc_istore_n (q := 126) (lv2 := [(1, .int 0), (0, .ref _)]) dX7_init_125 rfl rfl (Nat.le_of_ble_eq_true rfl) rfl ?_
  refine evc_sub (lv' := [(0, .ref _), (1, .int 0)]) [1, 0] rfl ?_
  have h := model_loop G base k hk fl mem 15 2416 8 0 (by omega) (by omega) (k + 16) rfl
  rw [fillM_0, nI_0] at h
  exact h
set_option maxRecDepth 100000 in
set_option maxHeartbeats 4000000 in
theorem conC_X6 (G : Gt) (base : Nat) (fl : Nat → Nat → Bool) (hfl : ∀ k, 1 ≤ k → fl k = fun _ => false) (mem : Mem) : ConC G base yX6_init cX6_init 1 3 56 1019 [.ref (gA G 0)] 1 fl mem (fun n2 fl2 mem2 => n2 = 57 ∧ fl2 = flA fl 0 57 ∧ mem2 = st1 mem 2 (fun j => if j < 8 then (-1) else mem 2 j)) := by
  refine conC_of (ini := true) (by decide) (fun _ => rfl) (Nat.le_of_ble_eq_true rfl) ?_
  show EvC G base cX6_init 1 RX6 true 3 56 1019 _ 0 [(0, .ref (gA G 0))] [] 1 fl mem 0 0
  refine evc_aload_n (q := 1) dX6_init_0 rfl 0 rfl rfl ?_
  refine evc_objInit (q := 4) dX6_init_1 rfl (AW_t (tb_1 (i := 17) rfl) rfl) oi_i oi_c (Nat.le_of_ble_eq_true rfl) rfl ?_
  refine evc_aload_n (q := 5) dX6_init_4 rfl 0 rfl rfl ?_
  refine evc_new (q := 8) (nn := 2) (ci := 4) (C := RX4) (T := TX4) dX6_init_5 rfl rfl cf_4 (by decide) (by decide) df_4 (AW_t (tb_1 (i := 20) rfl) rfl) (AW_t (tb_1 (i := 21) rfl) rfl) (AW_t (tb_1 (i := 2) rfl) rfl) (by simp [fl1, flA, hfl]) (Nat.le_of_ble_eq_true rfl) (Nat.le_of_ble_eq_true rfl) ?_
  refine evc_dup (q := 9) dX6_init_8 rfl rfl ?_
  refine evc_callI (q := 12) dX6_init_9 rfl ml_X6_9 (AW_t (tb_1 (i := 24) rfl) rfl) (AW_t (tb_1 (i := 23) rfl) rfl) (AW_t (tb_1 (i := 2) rfl) rfl) rfl ⟨by decide, by decide, by decide +kernel⟩ (conC_X4 G base 1 (by decide) _ _) rfl (Nat.le_of_ble_eq_true rfl) (Nat.le_of_ble_eq_true rfl) rfl (Nat.le_of_ble_eq_true rfl) (Nat.le_of_ble_eq_true rfl) (Nat.le_of_ble_eq_true rfl) (fun n2 fl2 mem2 hQ => ?_)
  obtain ⟨rfl, rfl, rfl⟩ := hQ
  refine evc_putR (q := 15) (ci := 6) (j := 0) (T := TX6) (ty := .object "AgingLetters$Rows") dX6_init_12 rfl rfl cf_6 (by decide) (by decide) (by decide) (by decide) (by decide) (AW_t (tb_1 (i := 201) rfl) rfl) rfl rfl rfl (by decide +kernel) (fun _ => rfl) (fun _ => rfl) ?_
  refine evc_aload_n (q := 16) dX6_init_15 rfl 0 rfl rfl ?_
  refine evc_new (q := 19) (nn := 6) (ci := 5) (C := RX5) (T := TX5) dX6_init_16 rfl rfl cf_5 (by decide) (by decide) df_5 (AW_t (tb_1 (i := 40) rfl) rfl) (AW_t (tb_1 (i := 41) rfl) rfl) (AW_t (tb_1 (i := 4) rfl) rfl) (by simp [fl1, flA, hfl]) (Nat.le_of_ble_eq_true rfl) (Nat.le_of_ble_eq_true rfl) ?_
  refine evc_dup (q := 20) dX6_init_19 rfl rfl ?_
  refine evc_callIN (q := 23) dX6_init_20 rfl ml_X6_18 (AW_t (tb_1 (i := 44) rfl) rfl) (AW_t (tb_1 (i := 43) rfl) rfl) (AW_t (tb_1 (i := 4) rfl) rfl) rfl ⟨by decide, by decide, by decide +kernel⟩ (conC_X5 G base 5 (by decide) _ _) rfl (Nat.le_of_ble_eq_true rfl) (Nat.le_of_ble_eq_true rfl) rfl (Nat.le_of_ble_eq_true rfl) (Nat.le_of_ble_eq_true rfl) (Nat.le_of_ble_eq_true rfl) (fun n2 fl2 mem2 hQ => ?_)
  obtain ⟨rfl, rfl, rfl⟩ := hQ
  refine evc_putR (q := 26) (ci := 6) (j := 1) (T := TX6) (ty := .object "AgingLetters$Tape") dX6_init_23 rfl rfl cf_6 (by decide) (by decide) (by decide) (by decide) (by decide) (AW_t (tb_1 (i := 202) rfl) rfl) rfl rfl rfl (by decide +kernel) (fun _ => rfl) (fun _ => rfl) ?_
  refine evc_aload_n (q := 27) dX6_init_26 rfl 0 rfl rfl ?_
  refine evc_new (q := 30) (nn := 8) (ci := 3) (C := RX3) (T := TX3) dX6_init_27 rfl rfl cf_3 (by decide) (by decide) df_3 (AW_t (tb_1 (i := 61) rfl) rfl) (AW_t (tb_1 (i := 62) rfl) rfl) (AW_t (tb_1 (i := 5) rfl) rfl) (by simp [fl1, flA, hfl]) (Nat.le_of_ble_eq_true rfl) (Nat.le_of_ble_eq_true rfl) ?_
  refine evc_dup (q := 31) dX6_init_30 rfl rfl ?_
  refine evc_callIN (q := 34) dX6_init_31 rfl ml_X6_25 (AW_t (tb_1 (i := 65) rfl) rfl) (AW_t (tb_1 (i := 64) rfl) rfl) (AW_t (tb_1 (i := 5) rfl) rfl) rfl ⟨by decide, by decide, by decide +kernel⟩ (conC_X3 G base 7 (by decide) _ _) rfl (Nat.le_of_ble_eq_true rfl) (Nat.le_of_ble_eq_true rfl) rfl (Nat.le_of_ble_eq_true rfl) (Nat.le_of_ble_eq_true rfl) (Nat.le_of_ble_eq_true rfl) (fun n2 fl2 mem2 hQ => ?_)
  obtain ⟨rfl, rfl, rfl⟩ := hQ
  refine evc_putR (q := 37) (ci := 6) (j := 2) (T := TX6) (ty := .object "AgingLetters$Office") dX6_init_34 rfl rfl cf_6 (by decide) (by decide) (by decide) (by decide) (by decide) (AW_t (tb_1 (i := 203) rfl) rfl) rfl rfl rfl (by decide +kernel) (fun _ => rfl) (fun _ => rfl) ?_
  refine evc_aload_n (q := 38) dX6_init_37 rfl 0 rfl rfl ?_
  refine evc_new (q := 41) (nn := 17) (ci := 3) (C := RX3) (T := TX3) dX6_init_38 rfl rfl cf_3 (by decide) (by decide) df_3 (AW_t (tb_1 (i := 61) rfl) rfl) (AW_t (tb_1 (i := 62) rfl) rfl) (AW_t (tb_1 (i := 5) rfl) rfl) (by simp [fl1, flA, hfl]) (Nat.le_of_ble_eq_true rfl) (Nat.le_of_ble_eq_true rfl) ?_
  refine evc_dup (q := 42) dX6_init_41 rfl rfl ?_
  refine evc_callIN (q := 45) dX6_init_42 rfl ml_X6_25 (AW_t (tb_1 (i := 65) rfl) rfl) (AW_t (tb_1 (i := 64) rfl) rfl) (AW_t (tb_1 (i := 5) rfl) rfl) rfl ⟨by decide, by decide, by decide +kernel⟩ (conC_X3 G base 16 (by decide) _ _) rfl (Nat.le_of_ble_eq_true rfl) (Nat.le_of_ble_eq_true rfl) rfl (Nat.le_of_ble_eq_true rfl) (Nat.le_of_ble_eq_true rfl) (Nat.le_of_ble_eq_true rfl) (fun n2 fl2 mem2 hQ => ?_)
  obtain ⟨rfl, rfl, rfl⟩ := hQ
  refine evc_putR (q := 48) (ci := 6) (j := 3) (T := TX6) (ty := .object "AgingLetters$Office") dX6_init_45 rfl rfl cf_6 (by decide) (by decide) (by decide) (by decide) (by decide) (AW_t (tb_1 (i := 204) rfl) rfl) rfl rfl rfl (by decide +kernel) (fun _ => rfl) (fun _ => rfl) ?_
  refine evc_aload_n (q := 49) dX6_init_48 rfl 0 rfl rfl ?_
  refine evc_new (q := 52) (nn := 26) (ci := 3) (C := RX3) (T := TX3) dX6_init_49 rfl rfl cf_3 (by decide) (by decide) df_3 (AW_t (tb_1 (i := 61) rfl) rfl) (AW_t (tb_1 (i := 62) rfl) rfl) (AW_t (tb_1 (i := 5) rfl) rfl) (by simp [fl1, flA, hfl]) (Nat.le_of_ble_eq_true rfl) (Nat.le_of_ble_eq_true rfl) ?_
  refine evc_dup (q := 53) dX6_init_52 rfl rfl ?_
  refine evc_callIN (q := 56) dX6_init_53 rfl ml_X6_25 (AW_t (tb_1 (i := 65) rfl) rfl) (AW_t (tb_1 (i := 64) rfl) rfl) (AW_t (tb_1 (i := 5) rfl) rfl) rfl ⟨by decide, by decide, by decide +kernel⟩ (conC_X3 G base 25 (by decide) _ _) rfl (Nat.le_of_ble_eq_true rfl) (Nat.le_of_ble_eq_true rfl) rfl (Nat.le_of_ble_eq_true rfl) (Nat.le_of_ble_eq_true rfl) (Nat.le_of_ble_eq_true rfl) (fun n2 fl2 mem2 hQ => ?_)
  obtain ⟨rfl, rfl, rfl⟩ := hQ
  refine evc_putR (q := 59) (ci := 6) (j := 4) (T := TX6) (ty := .object "AgingLetters$Office") dX6_init_56 rfl rfl cf_6 (by decide) (by decide) (by decide) (by decide) (by decide) (AW_t (tb_1 (i := 205) rfl) rfl) rfl rfl rfl (by decide +kernel) (fun _ => rfl) (fun _ => rfl) ?_
  refine evc_aload_n (q := 60) dX6_init_59 rfl 0 rfl rfl ?_
  refine evc_new (q := 63) (nn := 35) (ci := 3) (C := RX3) (T := TX3) dX6_init_60 rfl rfl cf_3 (by decide) (by decide) df_3 (AW_t (tb_1 (i := 61) rfl) rfl) (AW_t (tb_1 (i := 62) rfl) rfl) (AW_t (tb_1 (i := 5) rfl) rfl) (by simp [fl1, flA, hfl]) (Nat.le_of_ble_eq_true rfl) (Nat.le_of_ble_eq_true rfl) ?_
  refine evc_dup (q := 64) dX6_init_63 rfl rfl ?_
  refine evc_callIN (q := 67) dX6_init_64 rfl ml_X6_25 (AW_t (tb_1 (i := 65) rfl) rfl) (AW_t (tb_1 (i := 64) rfl) rfl) (AW_t (tb_1 (i := 5) rfl) rfl) rfl ⟨by decide, by decide, by decide +kernel⟩ (conC_X3 G base 34 (by decide) _ _) rfl (Nat.le_of_ble_eq_true rfl) (Nat.le_of_ble_eq_true rfl) rfl (Nat.le_of_ble_eq_true rfl) (Nat.le_of_ble_eq_true rfl) (Nat.le_of_ble_eq_true rfl) (fun n2 fl2 mem2 hQ => ?_)
  obtain ⟨rfl, rfl, rfl⟩ := hQ
  refine evc_putR (q := 70) (ci := 6) (j := 5) (T := TX6) (ty := .object "AgingLetters$Office") dX6_init_67 rfl rfl cf_6 (by decide) (by decide) (by decide) (by decide) (by decide) (AW_t (tb_1 (i := 206) rfl) rfl) rfl rfl rfl (by decide +kernel) (fun _ => rfl) (fun _ => rfl) ?_
  refine evc_aload_n (q := 71) dX6_init_70 rfl 0 rfl rfl ?_
  refine evc_new (q := 74) (nn := 44) (ci := 0) (C := RX0) (T := TX0) dX6_init_71 rfl rfl cf_0 (by decide) (by decide) df_0 (AW_t (tb_1 (i := 134) rfl) rfl) (AW_t (tb_1 (i := 135) rfl) rfl) (AW_t (tb_1 (i := 6) rfl) rfl) (by simp [fl1, flA, hfl]) (Nat.le_of_ble_eq_true rfl) (Nat.le_of_ble_eq_true rfl) ?_
  refine evc_dup (q := 75) dX6_init_74 rfl rfl ?_
  refine evc_callIN (q := 78) dX6_init_75 rfl ml_X6_41 (AW_t (tb_1 (i := 138) rfl) rfl) (AW_t (tb_1 (i := 137) rfl) rfl) (AW_t (tb_1 (i := 6) rfl) rfl) rfl ⟨by decide, by decide, by decide +kernel⟩ (conC_X0 G base 43 (by decide) _ _) rfl (Nat.le_of_ble_eq_true rfl) (Nat.le_of_ble_eq_true rfl) rfl (Nat.le_of_ble_eq_true rfl) (Nat.le_of_ble_eq_true rfl) (Nat.le_of_ble_eq_true rfl) (fun n2 fl2 mem2 hQ => ?_)
  obtain ⟨rfl, rfl, rfl⟩ := hQ
  refine evc_putR (q := 81) (ci := 6) (j := 6) (T := TX6) (ty := .object "AgingLetters$Acts") dX6_init_78 rfl rfl cf_6 (by decide) (by decide) (by decide) (by decide) (by decide) (AW_t (tb_1 (i := 207) rfl) rfl) rfl rfl rfl (by decide +kernel) (fun _ => rfl) (fun _ => rfl) ?_
  refine evc_aload_n (q := 82) dX6_init_81 rfl 0 rfl rfl ?_
  refine evc_new (q := 85) (nn := 52) (ci := 2) (C := RX2) (T := TX2) dX6_init_82 rfl rfl cf_2 (by decide) (by decide) df_2 (AW_t (tb_1 (i := 169) rfl) rfl) (AW_t (tb_1 (i := 170) rfl) rfl) (AW_t (tb_1 (i := 7) rfl) rfl) (by simp [fl1, flA, hfl]) (Nat.le_of_ble_eq_true rfl) (Nat.le_of_ble_eq_true rfl) ?_
  refine evc_dup (q := 86) dX6_init_85 rfl rfl ?_
  refine evc_callIN (q := 89) dX6_init_86 rfl ml_X6_48 (AW_t (tb_1 (i := 173) rfl) rfl) (AW_t (tb_1 (i := 172) rfl) rfl) (AW_t (tb_1 (i := 7) rfl) rfl) rfl ⟨by decide, by decide, by decide +kernel⟩ (conC_X2 G base 51 (by decide) _ _) rfl (Nat.le_of_ble_eq_true rfl) (Nat.le_of_ble_eq_true rfl) rfl (Nat.le_of_ble_eq_true rfl) (Nat.le_of_ble_eq_true rfl) (Nat.le_of_ble_eq_true rfl) (fun n2 fl2 mem2 hQ => ?_)
  obtain ⟨rfl, rfl, rfl⟩ := hQ
  refine evc_putR (q := 92) (ci := 6) (j := 7) (T := TX6) (ty := .object "AgingLetters$Foretold") dX6_init_89 rfl rfl cf_6 (by decide) (by decide) (by decide) (by decide) (by decide) (AW_t (tb_1 (i := 208) rfl) rfl) rfl rfl rfl (by decide +kernel) (fun _ => rfl) (fun _ => rfl) ?_
  refine evc_aload_n (q := 93) dX6_init_92 rfl 0 rfl rfl ?_
  refine evc_new (q := 96) (nn := 56) (ci := 1) (C := RX1) (T := TX1) dX6_init_93 rfl rfl cf_1 (by decide) (by decide) df_1 (AW_t (tb_1 (i := 186) rfl) rfl) (AW_t (tb_1 (i := 187) rfl) rfl) (AW_t (tb_1 (i := 8) rfl) rfl) (by simp [fl1, flA, hfl]) (Nat.le_of_ble_eq_true rfl) (Nat.le_of_ble_eq_true rfl) ?_
  refine evc_dup (q := 97) dX6_init_96 rfl rfl ?_
  refine evc_callIN (q := 100) dX6_init_97 rfl ml_X6_55 (AW_t (tb_1 (i := 190) rfl) rfl) (AW_t (tb_1 (i := 189) rfl) rfl) (AW_t (tb_1 (i := 8) rfl) rfl) rfl ⟨by decide, by decide, by decide +kernel⟩ (conC_X1 G base 55 (by decide) _ _) rfl (Nat.le_of_ble_eq_true rfl) (Nat.le_of_ble_eq_true rfl) rfl (Nat.le_of_ble_eq_true rfl) (Nat.le_of_ble_eq_true rfl) (Nat.le_of_ble_eq_true rfl) (fun n2 fl2 mem2 hQ => ?_)
  obtain ⟨rfl, rfl, rfl⟩ := hQ
  refine evc_putR (q := 103) (ci := 6) (j := 8) (T := TX6) (ty := .object "AgingLetters$Asks") dX6_init_100 rfl rfl cf_6 (by decide) (by decide) (by decide) (by decide) (by decide) (AW_t (tb_1 (i := 209) rfl) rfl) rfl rfl rfl (by decide +kernel) (fun _ => rfl) (fun _ => rfl) ?_
  refine evc_congr (fl' := flA fl 0 57) (fun a ha h100 j hj hir => ?_) ?_
  · have h0 : ∀ a, a < 57 → kd a < 100 → (a = 0 ∨ a = 1 ∨ a = 5 ∨ a = 7 ∨ a = 16 ∨ a = 25 ∨ a = 34 ∨ a = 43 ∨ a = 51 ∨ a = 55) := by decide
    rcases h0 a ha h100 with rfl | rfl | rfl | rfl | rfl | rfl | rfl | rfl | rfl | rfl
    · have hj2 := (show ∀ j, j < nf 6 → ir 6 j = true → (j = 0 ∨ j = 1 ∨ j = 2 ∨ j = 3 ∨ j = 4 ∨ j = 5 ∨ j = 6 ∨ j = 7 ∨ j = 8) by decide) j hj hir
      rcases hj2 with rfl | rfl | rfl | rfl | rfl | rfl | rfl | rfl | rfl <;> simp [fl1, flA]
    · simp [fl1, flA]
    · simp [fl1, flA]
    · simp [fl1, flA]
    · simp [fl1, flA]
    · simp [fl1, flA]
    · simp [fl1, flA]
    · simp [fl1, flA]
    · simp [fl1, flA]
    · simp [fl1, flA]
  · exact evc_vret dX6_init_103 rfl rfl ⟨rfl, rfl, rfl⟩
end
