section
-- ===== PART A: goes FIRST, ahead of the names: the tables' words, and 'selects' of the private methods out of them =====
/-- a private method of a class that the tables say can be made, by its rows of tables_1 -/
def lw_okq (q : MethodName × Nat) : Prop := (q.1.cls ≠ "java/lang/invoke/MethodHandle" ∧ q.1.cls ≠ "java/lang/invoke/VarHandle") ∧ Cond.instantiable q.1.cls q.2 ∈ tables_1 ∧ Cond.privateMethod q.1 ∈ tables_1 ∧ Cond.instanceMethod q.1 ∈ tables_1
theorem lw_p0 : lw_okq (⟨"AgingLetters", "found", "(I)I"⟩, 11) := ⟨⟨by decide +kernel, by decide +kernel⟩, List.mem_of_getElem? (i := 13) (by decide +kernel), List.mem_of_getElem? (i := 249) (by decide +kernel), List.mem_of_getElem? (i := 250) (by decide +kernel)⟩
theorem lw_p1 : lw_okq (⟨"AgingLetters", "foundNothing", "(I)I"⟩, 11) := ⟨⟨by decide +kernel, by decide +kernel⟩, List.mem_of_getElem? (i := 13) (by decide +kernel), List.mem_of_getElem? (i := 258) (by decide +kernel), List.mem_of_getElem? (i := 259) (by decide +kernel)⟩
theorem lw_p2 : lw_okq (⟨"AgingLetters$Tape", "readLaw", "(LAgingLetters$Office;)I"⟩, 4) := ⟨⟨by decide +kernel, by decide +kernel⟩, List.mem_of_getElem? (i := 41) (by decide +kernel), List.mem_of_getElem? (i := 327) (by decide +kernel), List.mem_of_getElem? (i := 328) (by decide +kernel)⟩
theorem lw_p3 : lw_okq (⟨"AgingLetters$Tape", "takeSign", "(I)I"⟩, 4) := ⟨⟨by decide +kernel, by decide +kernel⟩, List.mem_of_getElem? (i := 41) (by decide +kernel), List.mem_of_getElem? (i := 331) (by decide +kernel), List.mem_of_getElem? (i := 332) (by decide +kernel)⟩
theorem lw_p4 : lw_okq (⟨"AgingLetters$Tape", "takeNumber", "(II)I"⟩, 4) := ⟨⟨by decide +kernel, by decide +kernel⟩, List.mem_of_getElem? (i := 41) (by decide +kernel), List.mem_of_getElem? (i := 335) (by decide +kernel), List.mem_of_getElem? (i := 336) (by decide +kernel)⟩
theorem lw_p5 : lw_okq (⟨"AgingLetters$Tape", "readReader", "(LAgingLetters$Office;)I"⟩, 4) := ⟨⟨by decide +kernel, by decide +kernel⟩, List.mem_of_getElem? (i := 41) (by decide +kernel), List.mem_of_getElem? (i := 342) (by decide +kernel), List.mem_of_getElem? (i := 343) (by decide +kernel)⟩
theorem lw_p6 : lw_okq (⟨"AgingLetters$Tape", "readLetter", "(LAgingLetters$Office;)I"⟩, 4) := ⟨⟨by decide +kernel, by decide +kernel⟩, List.mem_of_getElem? (i := 41) (by decide +kernel), List.mem_of_getElem? (i := 350) (by decide +kernel), List.mem_of_getElem? (i := 351) (by decide +kernel)⟩
theorem lw_p7 : lw_okq (⟨"AgingLetters$Tape", "kindAtPlace", "()I"⟩, 4) := ⟨⟨by decide +kernel, by decide +kernel⟩, List.mem_of_getElem? (i := 41) (by decide +kernel), List.mem_of_getElem? (i := 354) (by decide +kernel), List.mem_of_getElem? (i := 355) (by decide +kernel)⟩
theorem lw_p8 : lw_okq (⟨"AgingLetters$Acts", "keep", "(III)V"⟩, 9) := ⟨⟨by decide +kernel, by decide +kernel⟩, List.mem_of_getElem? (i := 135) (by decide +kernel), List.mem_of_getElem? (i := 441) (by decide +kernel), List.mem_of_getElem? (i := 442) (by decide +kernel)⟩
theorem lw_p9 : lw_okq (⟨"AgingLetters$Acts", "takeReadingBack", "(LAgingLetters$Office;)V"⟩, 9) := ⟨⟨by decide +kernel, by decide +kernel⟩, List.mem_of_getElem? (i := 135) (by decide +kernel), List.mem_of_getElem? (i := 486) (by decide +kernel), List.mem_of_getElem? (i := 487) (by decide +kernel)⟩
theorem lw_p10 : lw_okq (⟨"AgingLetters", "imageNumbered", "(I)LAgingLetters$Office;"⟩, 11) := ⟨⟨by decide +kernel, by decide +kernel⟩, List.mem_of_getElem? (i := 13) (by decide +kernel), List.mem_of_getElem? (i := 683) (by decide +kernel), List.mem_of_getElem? (i := 684) (by decide +kernel)⟩
theorem lw_p11 : lw_okq (⟨"AgingLetters$Asks", "leaveNumber", "(I)V"⟩, 2) := ⟨⟨by decide +kernel, by decide +kernel⟩, List.mem_of_getElem? (i := 187) (by decide +kernel), List.mem_of_getElem? (i := 720) (by decide +kernel), List.mem_of_getElem? (i := 721) (by decide +kernel)⟩
theorem lw_p12 : lw_okq (⟨"AgingLettersModel", "finds", "(I)I"⟩, 23) := ⟨⟨by decide +kernel, by decide +kernel⟩, List.mem_of_getElem? (i := 748) (by decide +kernel), List.mem_of_getElem? (i := 838) (by decide +kernel), List.mem_of_getElem? (i := 839) (by decide +kernel)⟩
theorem lw_p13 : lw_okq (⟨"AgingLettersModel", "tells", "(I)I"⟩, 23) := ⟨⟨by decide +kernel, by decide +kernel⟩, List.mem_of_getElem? (i := 748) (by decide +kernel), List.mem_of_getElem? (i := 843) (by decide +kernel), List.mem_of_getElem? (i := 844) (by decide +kernel)⟩
theorem lw_p14 : lw_okq (⟨"AgingLettersModel", "takeOffice", "()Z"⟩, 23) := ⟨⟨by decide +kernel, by decide +kernel⟩, List.mem_of_getElem? (i := 748) (by decide +kernel), List.mem_of_getElem? (i := 876) (by decide +kernel), List.mem_of_getElem? (i := 877) (by decide +kernel)⟩
theorem lw_p15 : lw_okq (⟨"AgingLettersModel", "sign", "(I)Z"⟩, 23) := ⟨⟨by decide +kernel, by decide +kernel⟩, List.mem_of_getElem? (i := 748) (by decide +kernel), List.mem_of_getElem? (i := 880) (by decide +kernel), List.mem_of_getElem? (i := 881) (by decide +kernel)⟩
def lw_privs_1 : List (MethodName × Nat) := [(⟨"AgingLetters", "found", "(I)I"⟩, 11), (⟨"AgingLetters", "foundNothing", "(I)I"⟩, 11), (⟨"AgingLetters$Tape", "readLaw", "(LAgingLetters$Office;)I"⟩, 4), (⟨"AgingLetters$Tape", "takeSign", "(I)I"⟩, 4), (⟨"AgingLetters$Tape", "takeNumber", "(II)I"⟩, 4), (⟨"AgingLetters$Tape", "readReader", "(LAgingLetters$Office;)I"⟩, 4), (⟨"AgingLetters$Tape", "readLetter", "(LAgingLetters$Office;)I"⟩, 4), (⟨"AgingLetters$Tape", "kindAtPlace", "()I"⟩, 4), (⟨"AgingLetters$Acts", "keep", "(III)V"⟩, 9), (⟨"AgingLetters$Acts", "takeReadingBack", "(LAgingLetters$Office;)V"⟩, 9), (⟨"AgingLetters", "imageNumbered", "(I)LAgingLetters$Office;"⟩, 11), (⟨"AgingLetters$Asks", "leaveNumber", "(I)V"⟩, 2), (⟨"AgingLettersModel", "finds", "(I)I"⟩, 23), (⟨"AgingLettersModel", "tells", "(I)I"⟩, 23), (⟨"AgingLettersModel", "takeOffice", "()Z"⟩, 23), (⟨"AgingLettersModel", "sign", "(I)Z"⟩, 23)]
theorem lw_r1 : ∀ q ∈ lw_privs_1, lw_okq q := List.forall_mem_cons.mpr ⟨lw_p0, List.forall_mem_cons.mpr ⟨lw_p1, List.forall_mem_cons.mpr ⟨lw_p2, List.forall_mem_cons.mpr ⟨lw_p3, List.forall_mem_cons.mpr ⟨lw_p4, List.forall_mem_cons.mpr ⟨lw_p5, List.forall_mem_cons.mpr ⟨lw_p6, List.forall_mem_cons.mpr ⟨lw_p7, List.forall_mem_cons.mpr ⟨lw_p8, List.forall_mem_cons.mpr ⟨lw_p9, List.forall_mem_cons.mpr ⟨lw_p10, List.forall_mem_cons.mpr ⟨lw_p11, List.forall_mem_cons.mpr ⟨lw_p12, List.forall_mem_cons.mpr ⟨lw_p13, List.forall_mem_cons.mpr ⟨lw_p14, List.forall_mem_cons.mpr ⟨lw_p15, fun _ h => absurd h List.not_mem_nil⟩⟩⟩⟩⟩⟩⟩⟩⟩⟩⟩⟩⟩⟩⟩⟩
theorem lw_p16 : lw_okq (⟨"AgingLettersModel", "here", "()I"⟩, 23) := ⟨⟨by decide +kernel, by decide +kernel⟩, List.mem_of_getElem? (i := 748) (by decide +kernel), List.mem_of_getElem? (i := 884) (by decide +kernel), List.mem_of_getElem? (i := 885) (by decide +kernel)⟩
theorem lw_p17 : lw_okq (⟨"AgingLettersModel", "fails", "(II)Z"⟩, 23) := ⟨⟨by decide +kernel, by decide +kernel⟩, List.mem_of_getElem? (i := 748) (by decide +kernel), List.mem_of_getElem? (i := 888) (by decide +kernel), List.mem_of_getElem? (i := 889) (by decide +kernel)⟩
theorem lw_p18 : lw_okq (⟨"AgingLettersModel", "into", "(III)Z"⟩, 23) := ⟨⟨by decide +kernel, by decide +kernel⟩, List.mem_of_getElem? (i := 748) (by decide +kernel), List.mem_of_getElem? (i := 892) (by decide +kernel), List.mem_of_getElem? (i := 893) (by decide +kernel)⟩
theorem lw_p19 : lw_okq (⟨"AgingLettersModel", "takeNumber", "(II)Z"⟩, 23) := ⟨⟨by decide +kernel, by decide +kernel⟩, List.mem_of_getElem? (i := 748) (by decide +kernel), List.mem_of_getElem? (i := 896) (by decide +kernel), List.mem_of_getElem? (i := 897) (by decide +kernel)⟩
theorem lw_p20 : lw_okq (⟨"AgingLettersModel", "takeNext", "()Z"⟩, 23) := ⟨⟨by decide +kernel, by decide +kernel⟩, List.mem_of_getElem? (i := 748) (by decide +kernel), List.mem_of_getElem? (i := 902) (by decide +kernel), List.mem_of_getElem? (i := 903) (by decide +kernel)⟩
theorem lw_p21 : lw_okq (⟨"AgingLettersModel", "takeReader", "()Z"⟩, 23) := ⟨⟨by decide +kernel, by decide +kernel⟩, List.mem_of_getElem? (i := 748) (by decide +kernel), List.mem_of_getElem? (i := 906) (by decide +kernel), List.mem_of_getElem? (i := 907) (by decide +kernel)⟩
theorem lw_p22 : lw_okq (⟨"AgingLettersModel", "takeLetter", "()Z"⟩, 23) := ⟨⟨by decide +kernel, by decide +kernel⟩, List.mem_of_getElem? (i := 748) (by decide +kernel), List.mem_of_getElem? (i := 913) (by decide +kernel), List.mem_of_getElem? (i := 914) (by decide +kernel)⟩
theorem lw_p23 : lw_okq (⟨"AgingLettersModel", "readers", "()I"⟩, 23) := ⟨⟨by decide +kernel, by decide +kernel⟩, List.mem_of_getElem? (i := 748) (by decide +kernel), List.mem_of_getElem? (i := 918) (by decide +kernel), List.mem_of_getElem? (i := 919) (by decide +kernel)⟩
theorem lw_p24 : lw_okq (⟨"AgingLettersModel", "isReader", "(I)Z"⟩, 23) := ⟨⟨by decide +kernel, by decide +kernel⟩, List.mem_of_getElem? (i := 748) (by decide +kernel), List.mem_of_getElem? (i := 930) (by decide +kernel), List.mem_of_getElem? (i := 931) (by decide +kernel)⟩
theorem lw_p25 : lw_okq (⟨"AgingLettersModel", "isLetter", "(I)Z"⟩, 23) := ⟨⟨by decide +kernel, by decide +kernel⟩, List.mem_of_getElem? (i := 748) (by decide +kernel), List.mem_of_getElem? (i := 934) (by decide +kernel), List.mem_of_getElem? (i := 935) (by decide +kernel)⟩
theorem lw_p26 : lw_okq (⟨"AgingLettersModel", "letters", "()I"⟩, 23) := ⟨⟨by decide +kernel, by decide +kernel⟩, List.mem_of_getElem? (i := 748) (by decide +kernel), List.mem_of_getElem? (i := 938) (by decide +kernel), List.mem_of_getElem? (i := 939) (by decide +kernel)⟩
theorem lw_p27 : lw_okq (⟨"AgingLettersModel", "isFit", "(I)Z"⟩, 23) := ⟨⟨by decide +kernel, by decide +kernel⟩, List.mem_of_getElem? (i := 748) (by decide +kernel), List.mem_of_getElem? (i := 942) (by decide +kernel), List.mem_of_getElem? (i := 943) (by decide +kernel)⟩
theorem lw_p28 : lw_okq (⟨"AgingLettersModel", "isAlive", "(I)Z"⟩, 23) := ⟨⟨by decide +kernel, by decide +kernel⟩, List.mem_of_getElem? (i := 748) (by decide +kernel), List.mem_of_getElem? (i := 946) (by decide +kernel), List.mem_of_getElem? (i := 947) (by decide +kernel)⟩
theorem lw_p29 : lw_okq (⟨"AgingLettersModel", "age", "(I)I"⟩, 23) := ⟨⟨by decide +kernel, by decide +kernel⟩, List.mem_of_getElem? (i := 748) (by decide +kernel), List.mem_of_getElem? (i := 950) (by decide +kernel), List.mem_of_getElem? (i := 951) (by decide +kernel)⟩
theorem lw_p30 : lw_okq (⟨"AgingLettersModel", "span", "(I)I"⟩, 23) := ⟨⟨by decide +kernel, by decide +kernel⟩, List.mem_of_getElem? (i := 748) (by decide +kernel), List.mem_of_getElem? (i := 954) (by decide +kernel), List.mem_of_getElem? (i := 955) (by decide +kernel)⟩
theorem lw_p31 : lw_okq (⟨"AgingLettersModel", "remember", "()V"⟩, 23) := ⟨⟨by decide +kernel, by decide +kernel⟩, List.mem_of_getElem? (i := 748) (by decide +kernel), List.mem_of_getElem? (i := 959) (by decide +kernel), List.mem_of_getElem? (i := 960) (by decide +kernel)⟩
def lw_privs_2 : List (MethodName × Nat) := [(⟨"AgingLettersModel", "here", "()I"⟩, 23), (⟨"AgingLettersModel", "fails", "(II)Z"⟩, 23), (⟨"AgingLettersModel", "into", "(III)Z"⟩, 23), (⟨"AgingLettersModel", "takeNumber", "(II)Z"⟩, 23), (⟨"AgingLettersModel", "takeNext", "()Z"⟩, 23), (⟨"AgingLettersModel", "takeReader", "()Z"⟩, 23), (⟨"AgingLettersModel", "takeLetter", "()Z"⟩, 23), (⟨"AgingLettersModel", "readers", "()I"⟩, 23), (⟨"AgingLettersModel", "isReader", "(I)Z"⟩, 23), (⟨"AgingLettersModel", "isLetter", "(I)Z"⟩, 23), (⟨"AgingLettersModel", "letters", "()I"⟩, 23), (⟨"AgingLettersModel", "isFit", "(I)Z"⟩, 23), (⟨"AgingLettersModel", "isAlive", "(I)Z"⟩, 23), (⟨"AgingLettersModel", "age", "(I)I"⟩, 23), (⟨"AgingLettersModel", "span", "(I)I"⟩, 23), (⟨"AgingLettersModel", "remember", "()V"⟩, 23)]
theorem lw_r2 : ∀ q ∈ lw_privs_2, lw_okq q := List.forall_mem_cons.mpr ⟨lw_p16, List.forall_mem_cons.mpr ⟨lw_p17, List.forall_mem_cons.mpr ⟨lw_p18, List.forall_mem_cons.mpr ⟨lw_p19, List.forall_mem_cons.mpr ⟨lw_p20, List.forall_mem_cons.mpr ⟨lw_p21, List.forall_mem_cons.mpr ⟨lw_p22, List.forall_mem_cons.mpr ⟨lw_p23, List.forall_mem_cons.mpr ⟨lw_p24, List.forall_mem_cons.mpr ⟨lw_p25, List.forall_mem_cons.mpr ⟨lw_p26, List.forall_mem_cons.mpr ⟨lw_p27, List.forall_mem_cons.mpr ⟨lw_p28, List.forall_mem_cons.mpr ⟨lw_p29, List.forall_mem_cons.mpr ⟨lw_p30, List.forall_mem_cons.mpr ⟨lw_p31, fun _ h => absurd h List.not_mem_nil⟩⟩⟩⟩⟩⟩⟩⟩⟩⟩⟩⟩⟩⟩⟩⟩
theorem lw_p32 : lw_okq (⟨"AgingLettersModel", "putInto", "([II)V"⟩, 23) := ⟨⟨by decide +kernel, by decide +kernel⟩, List.mem_of_getElem? (i := 748) (by decide +kernel), List.mem_of_getElem? (i := 963) (by decide +kernel), List.mem_of_getElem? (i := 964) (by decide +kernel)⟩
theorem lw_p33 : lw_okq (⟨"AgingLettersModel", "cost", "(II)I"⟩, 23) := ⟨⟨by decide +kernel, by decide +kernel⟩, List.mem_of_getElem? (i := 748) (by decide +kernel), List.mem_of_getElem? (i := 967) (by decide +kernel), List.mem_of_getElem? (i := 968) (by decide +kernel)⟩
theorem lw_p34 : lw_okq (⟨"AgingLettersModel", "costBy", "(III)I"⟩, 23) := ⟨⟨by decide +kernel, by decide +kernel⟩, List.mem_of_getElem? (i := 748) (by decide +kernel), List.mem_of_getElem? (i := 971) (by decide +kernel), List.mem_of_getElem? (i := 972) (by decide +kernel)⟩
theorem lw_p35 : lw_okq (⟨"AgingLettersModel", "sort", "(I)I"⟩, 23) := ⟨⟨by decide +kernel, by decide +kernel⟩, List.mem_of_getElem? (i := 748) (by decide +kernel), List.mem_of_getElem? (i := 975) (by decide +kernel), List.mem_of_getElem? (i := 976) (by decide +kernel)⟩
theorem lw_p36 : lw_okq (⟨"AgingLettersModel", "readBy", "(II)I"⟩, 23) := ⟨⟨by decide +kernel, by decide +kernel⟩, List.mem_of_getElem? (i := 748) (by decide +kernel), List.mem_of_getElem? (i := 985) (by decide +kernel), List.mem_of_getElem? (i := 986) (by decide +kernel)⟩
theorem lw_p37 : lw_okq (⟨"AgingLettersModel", "readNow", "(III)V"⟩, 23) := ⟨⟨by decide +kernel, by decide +kernel⟩, List.mem_of_getElem? (i := 748) (by decide +kernel), List.mem_of_getElem? (i := 989) (by decide +kernel), List.mem_of_getElem? (i := 990) (by decide +kernel)⟩
theorem lw_p38 : lw_okq (⟨"AgingLettersModel", "alive", "()I"⟩, 23) := ⟨⟨by decide +kernel, by decide +kernel⟩, List.mem_of_getElem? (i := 748) (by decide +kernel), List.mem_of_getElem? (i := 1000) (by decide +kernel), List.mem_of_getElem? (i := 1001) (by decide +kernel)⟩
theorem lw_p39 : lw_okq (⟨"AgingLettersModel", "takeFrom", "([II)V"⟩, 23) := ⟨⟨by decide +kernel, by decide +kernel⟩, List.mem_of_getElem? (i := 748) (by decide +kernel), List.mem_of_getElem? (i := 1017) (by decide +kernel), List.mem_of_getElem? (i := 1018) (by decide +kernel)⟩
theorem lw_p40 : lw_okq (⟨"AgingLettersModel", "hasRead", "(I)I"⟩, 23) := ⟨⟨by decide +kernel, by decide +kernel⟩, List.mem_of_getElem? (i := 748) (by decide +kernel), List.mem_of_getElem? (i := 1025) (by decide +kernel), List.mem_of_getElem? (i := 1026) (by decide +kernel)⟩
theorem lw_p41 : lw_okq (⟨"AgingLettersModel", "readOf", "(I)I"⟩, 23) := ⟨⟨by decide +kernel, by decide +kernel⟩, List.mem_of_getElem? (i := 748) (by decide +kernel), List.mem_of_getElem? (i := 1034) (by decide +kernel), List.mem_of_getElem? (i := 1035) (by decide +kernel)⟩
theorem lw_p42 : lw_okq (⟨"AgingLettersModel", "whoRead", "(I)I"⟩, 23) := ⟨⟨by decide +kernel, by decide +kernel⟩, List.mem_of_getElem? (i := 748) (by decide +kernel), List.mem_of_getElem? (i := 1038) (by decide +kernel), List.mem_of_getElem? (i := 1039) (by decide +kernel)⟩
theorem lw_p43 : lw_okq (⟨"AgingLettersModel", "unread", "()I"⟩, 23) := ⟨⟨by decide +kernel, by decide +kernel⟩, List.mem_of_getElem? (i := 748) (by decide +kernel), List.mem_of_getElem? (i := 1055) (by decide +kernel), List.mem_of_getElem? (i := 1056) (by decide +kernel)⟩
theorem lw_p44 : lw_okq (⟨"AgingLettersModel", "spentBy", "(I)I"⟩, 23) := ⟨⟨by decide +kernel, by decide +kernel⟩, List.mem_of_getElem? (i := 748) (by decide +kernel), List.mem_of_getElem? (i := 1063) (by decide +kernel), List.mem_of_getElem? (i := 1064) (by decide +kernel)⟩
theorem lw_p45 : lw_okq (⟨"AgingLettersModel", "aloudBy", "(II)I"⟩, 23) := ⟨⟨by decide +kernel, by decide +kernel⟩, List.mem_of_getElem? (i := 748) (by decide +kernel), List.mem_of_getElem? (i := 1071) (by decide +kernel), List.mem_of_getElem? (i := 1072) (by decide +kernel)⟩
theorem lw_p46 : lw_okq (⟨"AgingLettersModel", "costAll", "(II)I"⟩, 23) := ⟨⟨by decide +kernel, by decide +kernel⟩, List.mem_of_getElem? (i := 748) (by decide +kernel), List.mem_of_getElem? (i := 1083) (by decide +kernel), List.mem_of_getElem? (i := 1084) (by decide +kernel)⟩
theorem lw_p47 : lw_okq (⟨"AgingLettersModel", "firstAll", "(I)I"⟩, 23) := ⟨⟨by decide +kernel, by decide +kernel⟩, List.mem_of_getElem? (i := 748) (by decide +kernel), List.mem_of_getElem? (i := 1105) (by decide +kernel), List.mem_of_getElem? (i := 1106) (by decide +kernel)⟩
def lw_privs_3 : List (MethodName × Nat) := [(⟨"AgingLettersModel", "putInto", "([II)V"⟩, 23), (⟨"AgingLettersModel", "cost", "(II)I"⟩, 23), (⟨"AgingLettersModel", "costBy", "(III)I"⟩, 23), (⟨"AgingLettersModel", "sort", "(I)I"⟩, 23), (⟨"AgingLettersModel", "readBy", "(II)I"⟩, 23), (⟨"AgingLettersModel", "readNow", "(III)V"⟩, 23), (⟨"AgingLettersModel", "alive", "()I"⟩, 23), (⟨"AgingLettersModel", "takeFrom", "([II)V"⟩, 23), (⟨"AgingLettersModel", "hasRead", "(I)I"⟩, 23), (⟨"AgingLettersModel", "readOf", "(I)I"⟩, 23), (⟨"AgingLettersModel", "whoRead", "(I)I"⟩, 23), (⟨"AgingLettersModel", "unread", "()I"⟩, 23), (⟨"AgingLettersModel", "spentBy", "(I)I"⟩, 23), (⟨"AgingLettersModel", "aloudBy", "(II)I"⟩, 23), (⟨"AgingLettersModel", "costAll", "(II)I"⟩, 23), (⟨"AgingLettersModel", "firstAll", "(I)I"⟩, 23)]
theorem lw_r3 : ∀ q ∈ lw_privs_3, lw_okq q := List.forall_mem_cons.mpr ⟨lw_p32, List.forall_mem_cons.mpr ⟨lw_p33, List.forall_mem_cons.mpr ⟨lw_p34, List.forall_mem_cons.mpr ⟨lw_p35, List.forall_mem_cons.mpr ⟨lw_p36, List.forall_mem_cons.mpr ⟨lw_p37, List.forall_mem_cons.mpr ⟨lw_p38, List.forall_mem_cons.mpr ⟨lw_p39, List.forall_mem_cons.mpr ⟨lw_p40, List.forall_mem_cons.mpr ⟨lw_p41, List.forall_mem_cons.mpr ⟨lw_p42, List.forall_mem_cons.mpr ⟨lw_p43, List.forall_mem_cons.mpr ⟨lw_p44, List.forall_mem_cons.mpr ⟨lw_p45, List.forall_mem_cons.mpr ⟨lw_p46, List.forall_mem_cons.mpr ⟨lw_p47, fun _ h => absurd h List.not_mem_nil⟩⟩⟩⟩⟩⟩⟩⟩⟩⟩⟩⟩⟩⟩⟩⟩
theorem lw_p48 : lw_okq (⟨"AgingLettersModel", "readOn", "(I)V"⟩, 23) := ⟨⟨by decide +kernel, by decide +kernel⟩, List.mem_of_getElem? (i := 748) (by decide +kernel), List.mem_of_getElem? (i := 1114) (by decide +kernel), List.mem_of_getElem? (i := 1115) (by decide +kernel)⟩
theorem lw_p49 : lw_okq (⟨"AgingLettersModel", "isOf", "(II)Z"⟩, 23) := ⟨⟨by decide +kernel, by decide +kernel⟩, List.mem_of_getElem? (i := 748) (by decide +kernel), List.mem_of_getElem? (i := 1140) (by decide +kernel), List.mem_of_getElem? (i := 1141) (by decide +kernel)⟩
theorem lw_p50 : lw_okq (⟨"AgingLettersModel", "sizeOf", "(I)I"⟩, 23) := ⟨⟨by decide +kernel, by decide +kernel⟩, List.mem_of_getElem? (i := 748) (by decide +kernel), List.mem_of_getElem? (i := 1148) (by decide +kernel), List.mem_of_getElem? (i := 1149) (by decide +kernel)⟩
theorem lw_p51 : lw_okq (⟨"AgingLettersModel", "sizeOfSums", "(I)I"⟩, 23) := ⟨⟨by decide +kernel, by decide +kernel⟩, List.mem_of_getElem? (i := 748) (by decide +kernel), List.mem_of_getElem? (i := 1152) (by decide +kernel), List.mem_of_getElem? (i := 1153) (by decide +kernel)⟩
theorem lw_p52 : lw_okq (⟨"AgingLettersModel", "leave", "(I)V"⟩, 23) := ⟨⟨by decide +kernel, by decide +kernel⟩, List.mem_of_getElem? (i := 748) (by decide +kernel), List.mem_of_getElem? (i := 1156) (by decide +kernel), List.mem_of_getElem? (i := 1157) (by decide +kernel)⟩
theorem lw_p53 : lw_okq (⟨"AgingLettersModel", "sizeOfFigures", "(I)I"⟩, 23) := ⟨⟨by decide +kernel, by decide +kernel⟩, List.mem_of_getElem? (i := 748) (by decide +kernel), List.mem_of_getElem? (i := 1160) (by decide +kernel), List.mem_of_getElem? (i := 1161) (by decide +kernel)⟩
theorem lw_p54 : lw_okq (⟨"AgingLettersModel", "sizeLent", "(I)I"⟩, 23) := ⟨⟨by decide +kernel, by decide +kernel⟩, List.mem_of_getElem? (i := 748) (by decide +kernel), List.mem_of_getElem? (i := 1164) (by decide +kernel), List.mem_of_getElem? (i := 1165) (by decide +kernel)⟩
theorem lw_p55 : lw_okq (⟨"AgingLettersModel", "sizeOfProse", "(I)I"⟩, 23) := ⟨⟨by decide +kernel, by decide +kernel⟩, List.mem_of_getElem? (i := 748) (by decide +kernel), List.mem_of_getElem? (i := 1168) (by decide +kernel), List.mem_of_getElem? (i := 1169) (by decide +kernel)⟩
theorem lw_p56 : lw_okq (⟨"AgingLettersModel", "markOf", "(I)I"⟩, 23) := ⟨⟨by decide +kernel, by decide +kernel⟩, List.mem_of_getElem? (i := 748) (by decide +kernel), List.mem_of_getElem? (i := 1172) (by decide +kernel), List.mem_of_getElem? (i := 1173) (by decide +kernel)⟩
theorem lw_p57 : lw_okq (⟨"AgingLettersModel", "markLent", "(I)I"⟩, 23) := ⟨⟨by decide +kernel, by decide +kernel⟩, List.mem_of_getElem? (i := 748) (by decide +kernel), List.mem_of_getElem? (i := 1176) (by decide +kernel), List.mem_of_getElem? (i := 1177) (by decide +kernel)⟩
theorem lw_p58 : lw_okq (⟨"AgingLettersModel", "markOfProse", "(I)I"⟩, 23) := ⟨⟨by decide +kernel, by decide +kernel⟩, List.mem_of_getElem? (i := 748) (by decide +kernel), List.mem_of_getElem? (i := 1180) (by decide +kernel), List.mem_of_getElem? (i := 1181) (by decide +kernel)⟩
theorem lw_p59 : lw_okq (⟨"AgingLettersModel", "fit", "()I"⟩, 23) := ⟨⟨by decide +kernel, by decide +kernel⟩, List.mem_of_getElem? (i := 748) (by decide +kernel), List.mem_of_getElem? (i := 1192) (by decide +kernel), List.mem_of_getElem? (i := 1193) (by decide +kernel)⟩
def lw_privs_4 : List (MethodName × Nat) := [(⟨"AgingLettersModel", "readOn", "(I)V"⟩, 23), (⟨"AgingLettersModel", "isOf", "(II)Z"⟩, 23), (⟨"AgingLettersModel", "sizeOf", "(I)I"⟩, 23), (⟨"AgingLettersModel", "sizeOfSums", "(I)I"⟩, 23), (⟨"AgingLettersModel", "leave", "(I)V"⟩, 23), (⟨"AgingLettersModel", "sizeOfFigures", "(I)I"⟩, 23), (⟨"AgingLettersModel", "sizeLent", "(I)I"⟩, 23), (⟨"AgingLettersModel", "sizeOfProse", "(I)I"⟩, 23), (⟨"AgingLettersModel", "markOf", "(I)I"⟩, 23), (⟨"AgingLettersModel", "markLent", "(I)I"⟩, 23), (⟨"AgingLettersModel", "markOfProse", "(I)I"⟩, 23), (⟨"AgingLettersModel", "fit", "()I"⟩, 23)]
theorem lw_r4 : ∀ q ∈ lw_privs_4, lw_okq q := List.forall_mem_cons.mpr ⟨lw_p48, List.forall_mem_cons.mpr ⟨lw_p49, List.forall_mem_cons.mpr ⟨lw_p50, List.forall_mem_cons.mpr ⟨lw_p51, List.forall_mem_cons.mpr ⟨lw_p52, List.forall_mem_cons.mpr ⟨lw_p53, List.forall_mem_cons.mpr ⟨lw_p54, List.forall_mem_cons.mpr ⟨lw_p55, List.forall_mem_cons.mpr ⟨lw_p56, List.forall_mem_cons.mpr ⟨lw_p57, List.forall_mem_cons.mpr ⟨lw_p58, List.forall_mem_cons.mpr ⟨lw_p59, fun _ h => absurd h List.not_mem_nil⟩⟩⟩⟩⟩⟩⟩⟩⟩⟩⟩⟩
def lw_privs : List (MethodName × Nat) := lw_privs_1 ++ (lw_privs_2 ++ (lw_privs_3 ++ (lw_privs_4)))
def lw_tbl : List Cond := k2_sels lw_privs ++ tables_1
theorem lw_privs_ok : ∀ q ∈ lw_privs, lw_okq q := by
  show ∀ q ∈ lw_privs_1 ++ (lw_privs_2 ++ (lw_privs_3 ++ (lw_privs_4))), lw_okq q
  exact List.forall_mem_append.mpr ⟨lw_r1, List.forall_mem_append.mpr ⟨lw_r2, List.forall_mem_append.mpr ⟨lw_r3, lw_r4⟩⟩⟩
end
section
def RX0 : String := "AgingLetters$Acts"
def TX0 : u_T := fun k => match k with
  | 0 => ("AgingLetters$Acts", "sorts", "[I", true)
  | 1 => ("AgingLetters$Acts", "readers", "[I", true)
  | 2 => ("AgingLetters$Acts", "letters", "[I", true)
  | 3 => ("AgingLetters$Acts", "amounts", "[I", true)
  | 4 => ("AgingLetters$Acts", "timesMore", "[I", true)
  | 5 => ("AgingLetters$Acts", "listeners", "[I", true)
  | 6 => ("AgingLetters$Acts", "newListeners", "[I", true)
  | 7 => ("AgingLetters$Acts", "next", "I", false)
  | _ => ("AgingLetters$Acts", "kept", "I", false)
def tyX0 : Nat → FieldType := fun k => match k with
  | 0 => .array .int
  | 1 => .array .int
  | 2 => .array .int
  | 3 => .array .int
  | 4 => .array .int
  | 5 => .array .int
  | 6 => .array .int
  | 7 => .int
  | _ => .int
abbrev wsX00 : List Cond := u_ws RX0 TX0 9
theorem nmX0 : ∀ a, a < 9 → ∀ b, b < 9 → a ≠ b → (TX0 a).2.1 ≠ (TX0 b).2.1 := by decide +kernel
theorem tyX0_ok : ∀ k, k < 9 → parseFieldDescriptor (TX0 k).2.2.1 = some (tyX0 k) := by decide +kernel
abbrev cX0_init : ByteArray := prog_2_method_1_code
def yX0_init : MethodName := ⟨RX0, "<init>", "()V"⟩
abbrev cX0_forgetAll : ByteArray := prog_2_method_2_code
def yX0_forgetAll : MethodName := ⟨RX0, "forgetAll", "()V"⟩
abbrev cX0_letRead : ByteArray := prog_2_method_3_code
def yX0_letRead : MethodName := ⟨RX0, "letRead", "(LAgingLetters$Office;III)V"⟩
abbrev cX0_letHear : ByteArray := prog_2_method_4_code
def yX0_letHear : MethodName := ⟨RX0, "letHear", "(LAgingLetters$Office;III)I"⟩
abbrev cX0_letCross : ByteArray := prog_2_method_5_code
def yX0_letCross : MethodName := ⟨RX0, "letCross", "(LAgingLetters$Office;II)V"⟩
abbrev cX0_letDayGo : ByteArray := prog_2_method_6_code
def yX0_letDayGo : MethodName := ⟨RX0, "letDayGo", "(LAgingLetters$Office;)V"⟩
abbrev cX0_moveDay : ByteArray := prog_2_method_7_code
def yX0_moveDay : MethodName := ⟨RX0, "moveDay", "(LAgingLetters$Office;I)V"⟩
abbrev cX0_keep : ByteArray := prog_2_method_8_code
def yX0_keep : MethodName := ⟨RX0, "keep", "(III)V"⟩
abbrev cX0_takeBack : ByteArray := prog_2_method_9_code
def yX0_takeBack : MethodName := ⟨RX0, "takeBack", "(LAgingLetters$Office;)V"⟩
abbrev cX0_takeReadingBack : ByteArray := prog_2_method_10_code
def yX0_takeReadingBack : MethodName := ⟨RX0, "takeReadingBack", "(LAgingLetters$Office;)V"⟩
def RX1 : String := "AgingLetters$Asks"
def TX1 : u_T := fun k => match k with
  | 0 => ("AgingLetters$Asks", "bodies", "[I", true)
  | _ => ("AgingLetters$Asks", "begun", "I", false)
def tyX1 : Nat → FieldType := fun k => match k with
  | 0 => .array .int
  | _ => .int
abbrev wsX10 : List Cond := u_ws RX1 TX1 2
theorem nmX1 : ∀ a, a < 2 → ∀ b, b < 2 → a ≠ b → (TX1 a).2.1 ≠ (TX1 b).2.1 := by decide +kernel
theorem tyX1_ok : ∀ k, k < 2 → parseFieldDescriptor (TX1 k).2.2.1 = some (tyX1 k) := by decide +kernel
abbrev cX1_init : ByteArray := prog_3_method_1_code
def yX1_init : MethodName := ⟨RX1, "<init>", "()V"⟩
abbrev cX1_answer : ByteArray := prog_3_method_2_code
def yX1_answer : MethodName := ⟨RX1, "answer", "(LAgingLetters$Office;II)I"⟩
abbrev cX1_bodyFor : ByteArray := prog_3_method_3_code
def yX1_bodyFor : MethodName := ⟨RX1, "bodyFor", "(LAgingLetters$Office;II)I"⟩
abbrev cX1_begin : ByteArray := prog_3_method_4_code
def yX1_begin : MethodName := ⟨RX1, "begin", "(LAgingLetters$Asks;ILAgingLetters$Office;II)I"⟩
abbrev cX1_leaveNumber : ByteArray := prog_3_method_5_code
def yX1_leaveNumber : MethodName := ⟨RX1, "leaveNumber", "(I)V"⟩
def RX2 : String := "AgingLetters$Foretold"
def TX2 : u_T := fun k => match k with
  | 0 => ("AgingLetters$Foretold", "takenOn", "[I", true)
  | 1 => ("AgingLetters$Foretold", "taker", "[I", true)
  | _ => ("AgingLetters$Foretold", "ways", "[I", true)
def tyX2 : Nat → FieldType := fun k => match k with
  | 0 => .array .int
  | 1 => .array .int
  | _ => .array .int
abbrev wsX20 : List Cond := u_ws RX2 TX2 3
theorem nmX2 : ∀ a, a < 3 → ∀ b, b < 3 → a ≠ b → (TX2 a).2.1 ≠ (TX2 b).2.1 := by decide +kernel
theorem tyX2_ok : ∀ k, k < 3 → parseFieldDescriptor (TX2 k).2.2.1 = some (tyX2 k) := by decide +kernel
abbrev cX2_init : ByteArray := prog_4_method_1_code
def yX2_init : MethodName := ⟨RX2, "<init>", "()V"⟩
abbrev cX2_bestReader : ByteArray := prog_4_method_2_code
def yX2_bestReader : MethodName := ⟨RX2, "bestReader", "(LAgingLetters$Office;I)I"⟩
abbrev cX2_bestReaderAloud : ByteArray := prog_4_method_3_code
def yX2_bestReaderAloud : MethodName := ⟨RX2, "bestReaderAloud", "(LAgingLetters$Office;I)I"⟩
abbrev cX2_spentAloud : ByteArray := prog_4_method_4_code
def yX2_spentAloud : MethodName := ⟨RX2, "spentAloud", "(LAgingLetters$Office;II)I"⟩
abbrev cX2_handsOutAll : ByteArray := prog_4_method_5_code
def yX2_handsOutAll : MethodName := ⟨RX2, "handsOutAll", "(LAgingLetters$Office;)Z"⟩
abbrev cX2_handsOut : ByteArray := prog_4_method_6_code
def yX2_handsOut : MethodName := ⟨RX2, "handsOut", "(LAgingLetters$Office;I[I[I)Z"⟩
abbrev cX2_shortestDeadly : ByteArray := prog_4_method_7_code
def yX2_shortestDeadly : MethodName := ⟨RX2, "shortestDeadly", "(LAgingLetters$Office;I)I"⟩
abbrev cX2_smallestDeadlySet : ByteArray := prog_4_method_8_code
def yX2_smallestDeadlySet : MethodName := ⟨RX2, "smallestDeadlySet", "(LAgingLetters$Office;I)I"⟩
abbrev cX2_fewestToCross : ByteArray := prog_4_method_9_code
def yX2_fewestToCross : MethodName := ⟨RX2, "fewestToCross", "(LAgingLetters$Office;II)I"⟩
abbrev cX2_setsThatCost : ByteArray := prog_4_method_10_code
def yX2_setsThatCost : MethodName := ⟨RX2, "setsThatCost", "(LAgingLetters$Office;I)I"⟩
abbrev cX2_leastSetThatCosts : ByteArray := prog_4_method_11_code
def yX2_leastSetThatCosts : MethodName := ⟨RX2, "leastSetThatCosts", "(LAgingLetters$Office;I)I"⟩
abbrev cX2_noReadingYet : ByteArray := prog_4_method_12_code
def yX2_noReadingYet : MethodName := ⟨RX2, "noReadingYet", "()V"⟩
abbrev cX2_tellAge : ByteArray := prog_4_method_13_code
def yX2_tellAge : MethodName := ⟨RX2, "tellAge", "(LAgingLetters$Office;II)V"⟩
abbrev cX2_waysToRead : ByteArray := prog_4_method_14_code
def yX2_waysToRead : MethodName := ⟨RX2, "waysToRead", "()I"⟩
abbrev cX2_weightOfSurviving : ByteArray := prog_4_method_15_code
def yX2_weightOfSurviving : MethodName := ⟨RX2, "weightOfSurviving", "(LAgingLetters$Office;II)I"⟩
abbrev cX2_power : ByteArray := prog_4_method_16_code
def yX2_power : MethodName := ⟨RX2, "power", "(II)I"⟩
abbrev cX2_commonDivisor : ByteArray := prog_4_method_17_code
def yX2_commonDivisor : MethodName := ⟨RX2, "commonDivisor", "(II)I"⟩
def RX3 : String := "AgingLetters$Office"
def TX3 : u_T := fun k => match k with
  | 0 => ("AgingLetters$Office", "stands", "Z", false)
  | 1 => ("AgingLetters$Office", "retires", "I", false)
  | 2 => ("AgingLetters$Office", "today", "I", false)
  | 3 => ("AgingLetters$Office", "letterCount", "I", false)
  | 4 => ("AgingLetters$Office", "kinds", "[I", true)
  | 5 => ("AgingLetters$Office", "pages", "[I", true)
  | 6 => ("AgingLetters$Office", "due", "[I", true)
  | 7 => ("AgingLetters$Office", "readerCount", "I", false)
  | 8 => ("AgingLetters$Office", "firstAge", "[I", true)
  | 9 => ("AgingLetters$Office", "age", "[I", true)
  | 10 => ("AgingLetters$Office", "span", "[I", true)
  | 11 => ("AgingLetters$Office", "heard", "[I", true)
  | _ => ("AgingLetters$Office", "timesRead", "[I", true)
def tyX3 : Nat → FieldType := fun k => match k with
  | 0 => .boolean
  | 1 => .int
  | 2 => .int
  | 3 => .int
  | 4 => .array .int
  | 5 => .array .int
  | 6 => .array .int
  | 7 => .int
  | 8 => .array .int
  | 9 => .array .int
  | 10 => .array .int
  | 11 => .array .int
  | _ => .array .int
abbrev wsX30 : List Cond := u_ws RX3 TX3 13
theorem nmX3 : ∀ a, a < 13 → ∀ b, b < 13 → a ≠ b → (TX3 a).2.1 ≠ (TX3 b).2.1 := by decide +kernel
theorem tyX3_ok : ∀ k, k < 13 → parseFieldDescriptor (TX3 k).2.2.1 = some (tyX3 k) := by decide +kernel
abbrev cX3_init : ByteArray := prog_5_method_1_code
def yX3_init : MethodName := ⟨RX3, "<init>", "()V"⟩
abbrev cX3_clear : ByteArray := prog_5_method_2_code
def yX3_clear : MethodName := ⟨RX3, "clear", "()V"⟩
abbrev cX3_becomes : ByteArray := prog_5_method_3_code
def yX3_becomes : MethodName := ⟨RX3, "becomes", "(LAgingLetters$Office;)V"⟩
abbrev cX3_addLetter : ByteArray := prog_5_method_4_code
def yX3_addLetter : MethodName := ⟨RX3, "addLetter", "(III)V"⟩
abbrev cX3_addReader : ByteArray := prog_5_method_5_code
def yX3_addReader : MethodName := ⟨RX3, "addReader", "(II)V"⟩
abbrev cX3_hasLetter : ByteArray := prog_5_method_6_code
def yX3_hasLetter : MethodName := ⟨RX3, "hasLetter", "(I)Z"⟩
abbrev cX3_hasReader : ByteArray := prog_5_method_7_code
def yX3_hasReader : MethodName := ⟨RX3, "hasReader", "(I)Z"⟩
abbrev cX3_hasReaders : ByteArray := prog_5_method_8_code
def yX3_hasReaders : MethodName := ⟨RX3, "hasReaders", "(I)Z"⟩
abbrev cX3_isAlive : ByteArray := prog_5_method_9_code
def yX3_isAlive : MethodName := ⟨RX3, "isAlive", "(I)Z"⟩
abbrev cX3_isFit : ByteArray := prog_5_method_10_code
def yX3_isFit : MethodName := ⟨RX3, "isFit", "(I)Z"⟩
abbrev cX3_survives : ByteArray := prog_5_method_11_code
def yX3_survives : MethodName := ⟨RX3, "survives", "(II)Z"⟩
abbrev cX3_areAlive : ByteArray := prog_5_method_12_code
def yX3_areAlive : MethodName := ⟨RX3, "areAlive", "(I)Z"⟩
abbrev cX3_howManyAlive : ByteArray := prog_5_method_13_code
def yX3_howManyAlive : MethodName := ⟨RX3, "howManyAlive", "()I"⟩
abbrev cX3_howManyFit : ByteArray := prog_5_method_14_code
def yX3_howManyFit : MethodName := ⟨RX3, "howManyFit", "()I"⟩
abbrev cX3_hasRead : ByteArray := prog_5_method_15_code
def yX3_hasRead : MethodName := ⟨RX3, "hasRead", "(II)Z"⟩
abbrev cX3_addTimesRead : ByteArray := prog_5_method_16_code
def yX3_addTimesRead : MethodName := ⟨RX3, "addTimesRead", "(III)V"⟩
abbrev cX3_timesReadByAll : ByteArray := prog_5_method_17_code
def yX3_timesReadByAll : MethodName := ⟨RX3, "timesReadByAll", "(I)I"⟩
abbrev cX3_readersOf : ByteArray := prog_5_method_18_code
def yX3_readersOf : MethodName := ⟨RX3, "readersOf", "(I)I"⟩
abbrev cX3_lettersReadBy : ByteArray := prog_5_method_19_code
def yX3_lettersReadBy : MethodName := ⟨RX3, "lettersReadBy", "(I)I"⟩
abbrev cX3_unreadLetters : ByteArray := prog_5_method_20_code
def yX3_unreadLetters : MethodName := ⟨RX3, "unreadLetters", "()I"⟩
abbrev cX3_unreadDueAhead : ByteArray := prog_5_method_21_code
def yX3_unreadDueAhead : MethodName := ⟨RX3, "unreadDueAhead", "(I)I"⟩
abbrev cX3_costFor : ByteArray := prog_5_method_22_code
def yX3_costFor : MethodName := ⟨RX3, "costFor", "(II)I"⟩
abbrev cX3_costFor_ : ByteArray := prog_5_method_23_code
def yX3_costFor_ : MethodName := ⟨RX3, "costFor", "(III)I"⟩
abbrev cX3_firstCost : ByteArray := prog_5_method_24_code
def yX3_firstCost : MethodName := ⟨RX3, "firstCost", "(I)I"⟩
abbrev cX3_firstCostOf : ByteArray := prog_5_method_25_code
def yX3_firstCostOf : MethodName := ⟨RX3, "firstCostOf", "(I)I"⟩
abbrev cX3_costOfAll : ByteArray := prog_5_method_26_code
def yX3_costOfAll : MethodName := ⟨RX3, "costOfAll", "(II)I"⟩
abbrev cX3_costOfPages : ByteArray := prog_5_method_27_code
def yX3_costOfPages : MethodName := ⟨RX3, "costOfPages", "(II)I"⟩
def RX4 : String := "AgingLetters$Rows"
def TX4 : u_T := fun k => match k with
  | 0 => ("AgingLetters$Rows", "lanes", "[I", true)
  | 1 => ("AgingLetters$Rows", "sizes", "[I", true)
  | _ => ("AgingLetters$Rows", "items", "[I", true)
def tyX4 : Nat → FieldType := fun k => match k with
  | 0 => .array .int
  | 1 => .array .int
  | _ => .array .int
abbrev wsX40 : List Cond := u_ws RX4 TX4 3
theorem nmX4 : ∀ a, a < 3 → ∀ b, b < 3 → a ≠ b → (TX4 a).2.1 ≠ (TX4 b).2.1 := by decide +kernel
theorem tyX4_ok : ∀ k, k < 3 → parseFieldDescriptor (TX4 k).2.2.1 = some (tyX4 k) := by decide +kernel
abbrev cX4_init : ByteArray := prog_6_method_1_code
def yX4_init : MethodName := ⟨RX4, "<init>", "()V"⟩
abbrev cX4_isRow : ByteArray := prog_6_method_2_code
def yX4_isRow : MethodName := ⟨RX4, "isRow", "(I)Z"⟩
abbrev cX4_isLane : ByteArray := prog_6_method_3_code
def yX4_isLane : MethodName := ⟨RX4, "isLane", "(I)Z"⟩
abbrev cX4_isMissing : ByteArray := prog_6_method_4_code
def yX4_isMissing : MethodName := ⟨RX4, "isMissing", "(I)Z"⟩
abbrev cX4_haveOneLane : ByteArray := prog_6_method_5_code
def yX4_haveOneLane : MethodName := ⟨RX4, "haveOneLane", "(II)Z"⟩
abbrev cX4_hasPlaces : ByteArray := prog_6_method_6_code
def yX4_hasPlaces : MethodName := ⟨RX4, "hasPlaces", "(III)Z"⟩
abbrev cX4_make : ByteArray := prog_6_method_7_code
def yX4_make : MethodName := ⟨RX4, "make", "(III)V"⟩
abbrev cX4_put : ByteArray := prog_6_method_8_code
def yX4_put : MethodName := ⟨RX4, "put", "(III)I"⟩
abbrev cX4_item : ByteArray := prog_6_method_9_code
def yX4_item : MethodName := ⟨RX4, "item", "(II)I"⟩
abbrev cX4_move : ByteArray := prog_6_method_10_code
def yX4_move : MethodName := ⟨RX4, "move", "(IIIII)V"⟩
abbrev cX4_remove : ByteArray := prog_6_method_11_code
def yX4_remove : MethodName := ⟨RX4, "remove", "(I)I"⟩
abbrev cX4_present : ByteArray := prog_6_method_12_code
def yX4_present : MethodName := ⟨RX4, "present", "()I"⟩
def RX5 : String := "AgingLetters$Tape"
def TX5 : u_T := fun k => match k with
  | 0 => ("AgingLetters$Tape", "bytes", "[I", true)
  | 1 => ("AgingLetters$Tape", "length", "I", false)
  | 2 => ("AgingLetters$Tape", "place", "I", false)
  | _ => ("AgingLetters$Tape", "number", "I", false)
def tyX5 : Nat → FieldType := fun k => match k with
  | 0 => .array .int
  | 1 => .int
  | 2 => .int
  | _ => .int
abbrev wsX50 : List Cond := u_ws RX5 TX5 4
theorem nmX5 : ∀ a, a < 4 → ∀ b, b < 4 → a ≠ b → (TX5 a).2.1 ≠ (TX5 b).2.1 := by decide +kernel
theorem tyX5_ok : ∀ k, k < 4 → parseFieldDescriptor (TX5 k).2.2.1 = some (tyX5 k) := by decide +kernel
abbrev cX5_init : ByteArray := prog_7_method_1_code
def yX5_init : MethodName := ⟨RX5, "<init>", "()V"⟩
abbrev cX5_isFull : ByteArray := prog_7_method_2_code
def yX5_isFull : MethodName := ⟨RX5, "isFull", "()Z"⟩
abbrev cX5_append : ByteArray := prog_7_method_3_code
def yX5_append : MethodName := ⟨RX5, "append", "(I)I"⟩
abbrev cX5_empty : ByteArray := prog_7_method_4_code
def yX5_empty : MethodName := ⟨RX5, "empty", "()V"⟩
abbrev cX5_readInto : ByteArray := prog_7_method_5_code
def yX5_readInto : MethodName := ⟨RX5, "readInto", "(LAgingLetters$Office;)I"⟩
abbrev cX5_readLaw : ByteArray := prog_7_method_6_code
def yX5_readLaw : MethodName := ⟨RX5, "readLaw", "(LAgingLetters$Office;)I"⟩
abbrev cX5_readLetter : ByteArray := prog_7_method_7_code
def yX5_readLetter : MethodName := ⟨RX5, "readLetter", "(LAgingLetters$Office;)I"⟩
abbrev cX5_readReader : ByteArray := prog_7_method_8_code
def yX5_readReader : MethodName := ⟨RX5, "readReader", "(LAgingLetters$Office;)I"⟩
abbrev cX5_kindAtPlace : ByteArray := prog_7_method_9_code
def yX5_kindAtPlace : MethodName := ⟨RX5, "kindAtPlace", "()I"⟩
abbrev cX5_takeSign : ByteArray := prog_7_method_10_code
def yX5_takeSign : MethodName := ⟨RX5, "takeSign", "(I)I"⟩
abbrev cX5_takeNumber : ByteArray := prog_7_method_11_code
def yX5_takeNumber : MethodName := ⟨RX5, "takeNumber", "(II)I"⟩
abbrev cX5_isFigure : ByteArray := prog_7_method_12_code
def yX5_isFigure : MethodName := ⟨RX5, "isFigure", "(I)Z"⟩
def RX6 : String := "AgingLetters"
def TX6 : u_T := fun k => match k with
  | 0 => ("AgingLetters", "rows", "LAgingLetters$Rows;", true)
  | 1 => ("AgingLetters", "tape", "LAgingLetters$Tape;", true)
  | 2 => ("AgingLetters", "now", "LAgingLetters$Office;", true)
  | 3 => ("AgingLetters", "draft", "LAgingLetters$Office;", true)
  | 4 => ("AgingLetters", "firstImage", "LAgingLetters$Office;", true)
  | 5 => ("AgingLetters", "secondImage", "LAgingLetters$Office;", true)
  | 6 => ("AgingLetters", "acts", "LAgingLetters$Acts;", true)
  | 7 => ("AgingLetters", "foretold", "LAgingLetters$Foretold;", true)
  | 8 => ("AgingLetters", "asks", "LAgingLetters$Asks;", true)
  | 9 => ("AgingLetters", "latestFault", "I", false)
  | _ => ("AgingLetters", "latestFinding", "I", false)
def tyX6 : Nat → FieldType := fun k => match k with
  | 0 => .object "AgingLetters$Rows"
  | 1 => .object "AgingLetters$Tape"
  | 2 => .object "AgingLetters$Office"
  | 3 => .object "AgingLetters$Office"
  | 4 => .object "AgingLetters$Office"
  | 5 => .object "AgingLetters$Office"
  | 6 => .object "AgingLetters$Acts"
  | 7 => .object "AgingLetters$Foretold"
  | 8 => .object "AgingLetters$Asks"
  | 9 => .int
  | _ => .int
abbrev wsX60 : List Cond := u_ws RX6 TX6 11
theorem nmX6 : ∀ a, a < 11 → ∀ b, b < 11 → a ≠ b → (TX6 a).2.1 ≠ (TX6 b).2.1 := by decide +kernel
theorem tyX6_ok : ∀ k, k < 11 → parseFieldDescriptor (TX6 k).2.2.1 = some (tyX6 k) := by decide +kernel
abbrev cX6_init : ByteArray := prog_1_method_1_code
def yX6_init : MethodName := ⟨RX6, "<init>", "()V"⟩
abbrev cX6_row : ByteArray := prog_1_method_2_code
def yX6_row : MethodName := ⟨RX6, "row", "(III)I"⟩
abbrev cX6_set : ByteArray := prog_1_method_3_code
def yX6_set : MethodName := ⟨RX6, "set", "(III)I"⟩
abbrev cX6_copy : ByteArray := prog_1_method_4_code
def yX6_copy : MethodName := ⟨RX6, "copy", "(IIIII)I"⟩
abbrev cX6_drop : ByteArray := prog_1_method_5_code
def yX6_drop : MethodName := ⟨RX6, "drop", "(I)I"⟩
abbrev cX6_feed : ByteArray := prog_1_method_6_code
def yX6_feed : MethodName := ⟨RX6, "feed", "(I)I"⟩
abbrev cX6_office : ByteArray := prog_1_method_7_code
def yX6_office : MethodName := ⟨RX6, "office", "()I"⟩
abbrev cX6_fault : ByteArray := prog_1_method_8_code
def yX6_fault : MethodName := ⟨RX6, "fault", "()I"⟩
abbrev cX6_read : ByteArray := prog_1_method_9_code
def yX6_read : MethodName := ⟨RX6, "read", "(II)I"⟩
abbrev cX6_aloud : ByteArray := prog_1_method_10_code
def yX6_aloud : MethodName := ⟨RX6, "aloud", "(III)I"⟩
abbrev cX6_cross : ByteArray := prog_1_method_11_code
def yX6_cross : MethodName := ⟨RX6, "cross", "(II)I"⟩
abbrev cX6_day : ByteArray := prog_1_method_12_code
def yX6_day : MethodName := ⟨RX6, "day", "()I"⟩
abbrev cX6_undo : ByteArray := prog_1_method_13_code
def yX6_undo : MethodName := ⟨RX6, "undo", "()I"⟩
abbrev cX6_reader : ByteArray := prog_1_method_14_code
def yX6_reader : MethodName := ⟨RX6, "reader", "(II)I"⟩
abbrev cX6_letter : ByteArray := prog_1_method_15_code
def yX6_letter : MethodName := ⟨RX6, "letter", "(II)I"⟩
abbrev cX6_costs : ByteArray := prog_1_method_16_code
def yX6_costs : MethodName := ⟨RX6, "costs", "(II)I"⟩
abbrev cX6_best : ByteArray := prog_1_method_17_code
def yX6_best : MethodName := ⟨RX6, "best", "(I)I"⟩
abbrev cX6_allRead : ByteArray := prog_1_method_18_code
def yX6_allRead : MethodName := ⟨RX6, "allRead", "(I)I"⟩
abbrev cX6_bestAloud : ByteArray := prog_1_method_19_code
def yX6_bestAloud : MethodName := ⟨RX6, "bestAloud", "(II)I"⟩
abbrev cX6_kills : ByteArray := prog_1_method_20_code
def yX6_kills : MethodName := ⟨RX6, "kills", "(I)I"⟩
abbrev cX6_post : ByteArray := prog_1_method_21_code
def yX6_post : MethodName := ⟨RX6, "post", "(II)I"⟩
abbrev cX6_crossOut : ByteArray := prog_1_method_22_code
def yX6_crossOut : MethodName := ⟨RX6, "crossOut", "(II)I"⟩
abbrev cX6_dies : ByteArray := prog_1_method_23_code
def yX6_dies : MethodName := ⟨RX6, "dies", "(I)I"⟩
abbrev cX6_late : ByteArray := prog_1_method_24_code
def yX6_late : MethodName := ⟨RX6, "late", "(I)I"⟩
abbrev cX6_soOld : ByteArray := prog_1_method_25_code
def yX6_soOld : MethodName := ⟨RX6, "soOld", "(III)I"⟩
abbrev cX6_ages : ByteArray := prog_1_method_26_code
def yX6_ages : MethodName := ⟨RX6, "ages", "(IIII)I"⟩
abbrev cX6_burnt : ByteArray := prog_1_method_27_code
def yX6_burnt : MethodName := ⟨RX6, "burnt", "(III)I"⟩
abbrev cX6_image : ByteArray := prog_1_method_28_code
def yX6_image : MethodName := ⟨RX6, "image", "(I)I"⟩
abbrev cX6_restore : ByteArray := prog_1_method_29_code
def yX6_restore : MethodName := ⟨RX6, "restore", "(I)I"⟩
abbrev cX6_kind : ByteArray := prog_1_method_30_code
def yX6_kind : MethodName := ⟨RX6, "kind", "(I)I"⟩
abbrev cX6_as : ByteArray := prog_1_method_31_code
def yX6_as : MethodName := ⟨RX6, "as", "(II)I"⟩
abbrev cX6_ask : ByteArray := prog_1_method_32_code
def yX6_ask : MethodName := ⟨RX6, "ask", "(II)I"⟩
abbrev cX6_trace : ByteArray := prog_1_method_33_code
def yX6_trace : MethodName := ⟨RX6, "trace", "(I)I"⟩
abbrev cX6_count : ByteArray := prog_1_method_34_code
def yX6_count : MethodName := ⟨RX6, "count", "(I)I"⟩
abbrev cX6_status : ByteArray := prog_1_method_35_code
def yX6_status : MethodName := ⟨RX6, "status", "()I"⟩
abbrev cX6_found : ByteArray := prog_1_method_36_code
def yX6_found : MethodName := ⟨RX6, "found", "(I)I"⟩
abbrev cX6_foundNothing : ByteArray := prog_1_method_37_code
def yX6_foundNothing : MethodName := ⟨RX6, "foundNothing", "(I)I"⟩
abbrev cX6_imageNumbered : ByteArray := prog_1_method_38_code
def yX6_imageNumbered : MethodName := ⟨RX6, "imageNumbered", "(I)LAgingLetters$Office;"⟩
abbrev cX6_isChoice : ByteArray := prog_1_method_39_code
def yX6_isChoice : MethodName := ⟨RX6, "isChoice", "(I)Z"⟩
abbrev cX6_inSet : ByteArray := prog_1_method_40_code
def yX6_inSet : MethodName := ⟨RX6, "inSet", "(II)Z"⟩
abbrev cX6_halfUp : ByteArray := prog_1_method_41_code
def yX6_halfUp : MethodName := ⟨RX6, "halfUp", "(I)I"⟩
abbrev cX6_tenthUp : ByteArray := prog_1_method_42_code
def yX6_tenthUp : MethodName := ⟨RX6, "tenthUp", "(I)I"⟩
abbrev cX6_isKindOf : ByteArray := prog_1_method_43_code
def yX6_isKindOf : MethodName := ⟨RX6, "isKindOf", "(II)Z"⟩
def RX7 : String := "AgingLettersModel"
def TX7 : u_T := fun k => match k with
  | 0 => ("AgingLettersModel", "rowLane", "[I", true)
  | 1 => ("AgingLettersModel", "rowSize", "[I", true)
  | 2 => ("AgingLettersModel", "rows", "[I", true)
  | 3 => ("AgingLettersModel", "status", "I", false)
  | 4 => ("AgingLettersModel", "taken", "[I", true)
  | 5 => ("AgingLettersModel", "now", "[I", true)
  | 6 => ("AgingLettersModel", "tape", "[I", true)
  | 7 => ("AgingLettersModel", "taped", "I", false)
  | 8 => ("AgingLettersModel", "fault", "I", false)
  | 9 => ("AgingLettersModel", "at0", "I", false)
  | 10 => ("AgingLettersModel", "faultAt", "I", false)
  | 11 => ("AgingLettersModel", "number", "I", false)
  | 12 => ("AgingLettersModel", "read", "[I", true)
  | 13 => ("AgingLettersModel", "acts", "I", false)
  | 14 => ("AgingLettersModel", "past", "[I", true)
  | 15 => ("AgingLettersModel", "given", "[I", true)
  | 16 => ("AgingLettersModel", "left", "[I", true)
  | 17 => ("AgingLettersModel", "ways", "[I", true)
  | 18 => ("AgingLettersModel", "waysThen", "[I", true)
  | 19 => ("AgingLettersModel", "images", "[I", true)
  | 20 => ("AgingLettersModel", "isKept", "[Z", true)
  | 21 => ("AgingLettersModel", "trace", "[I", true)
  | _ => ("AgingLettersModel", "traced", "I", false)
def tyX7 : Nat → FieldType := fun k => match k with
  | 0 => .array .int
  | 1 => .array .int
  | 2 => .array .int
  | 3 => .int
  | 4 => .array .int
  | 5 => .array .int
  | 6 => .array .int
  | 7 => .int
  | 8 => .int
  | 9 => .int
  | 10 => .int
  | 11 => .int
  | 12 => .array .int
  | 13 => .int
  | 14 => .array .int
  | 15 => .array .int
  | 16 => .array .int
  | 17 => .array .int
  | 18 => .array .int
  | 19 => .array .int
  | 20 => .array .boolean
  | 21 => .array .int
  | _ => .int
abbrev wsX70 : List Cond := u_ws RX7 TX7 23
theorem nmX7 : ∀ a, a < 23 → ∀ b, b < 23 → a ≠ b → (TX7 a).2.1 ≠ (TX7 b).2.1 := by decide +kernel
theorem tyX7_ok : ∀ k, k < 23 → parseFieldDescriptor (TX7 k).2.2.1 = some (tyX7 k) := by decide +kernel
abbrev cX7_init : ByteArray := prog_9_method_1_code
def yX7_init : MethodName := ⟨RX7, "<init>", "()V"⟩
abbrev cX7_in : ByteArray := prog_9_method_3_code
def yX7_in : MethodName := ⟨RX7, "in", "(JJJ)Z"⟩
abbrev cX7_has : ByteArray := prog_9_method_4_code
def yX7_has : MethodName := ⟨RX7, "has", "(II)Z"⟩
abbrev cX7_finds : ByteArray := prog_9_method_5_code
def yX7_finds : MethodName := ⟨RX7, "finds", "(I)I"⟩
abbrev cX7_tells : ByteArray := prog_9_method_6_code
def yX7_tells : MethodName := ⟨RX7, "tells", "(I)I"⟩
abbrev cX7_isRow : ByteArray := prog_9_method_7_code
def yX7_isRow : MethodName := ⟨RX7, "isRow", "(I)Z"⟩
abbrev cX7_row : ByteArray := prog_9_method_8_code
def yX7_row : MethodName := ⟨RX7, "row", "(III)I"⟩
abbrev cX7_cutTo : ByteArray := prog_9_method_9_code
def yX7_cutTo : MethodName := ⟨RX7, "cutTo", "(II)I"⟩
abbrev cX7_set : ByteArray := prog_9_method_10_code
def yX7_set : MethodName := ⟨RX7, "set", "(III)I"⟩
abbrev cX7_copy : ByteArray := prog_9_method_11_code
def yX7_copy : MethodName := ⟨RX7, "copy", "(IIIII)I"⟩
abbrev cX7_drop : ByteArray := prog_9_method_12_code
def yX7_drop : MethodName := ⟨RX7, "drop", "(I)I"⟩
abbrev cX7_status : ByteArray := prog_9_method_13_code
def yX7_status : MethodName := ⟨RX7, "status", "()I"⟩
abbrev cX7_letters : ByteArray := prog_9_method_14_code
def yX7_letters : MethodName := ⟨RX7, "letters", "()I"⟩
abbrev cX7_readers : ByteArray := prog_9_method_15_code
def yX7_readers : MethodName := ⟨RX7, "readers", "()I"⟩
abbrev cX7_isLetter : ByteArray := prog_9_method_16_code
def yX7_isLetter : MethodName := ⟨RX7, "isLetter", "(I)Z"⟩
abbrev cX7_isReader : ByteArray := prog_9_method_17_code
def yX7_isReader : MethodName := ⟨RX7, "isReader", "(I)Z"⟩
abbrev cX7_sort : ByteArray := prog_9_method_18_code
def yX7_sort : MethodName := ⟨RX7, "sort", "(I)I"⟩
abbrev cX7_age : ByteArray := prog_9_method_19_code
def yX7_age : MethodName := ⟨RX7, "age", "(I)I"⟩
abbrev cX7_span : ByteArray := prog_9_method_20_code
def yX7_span : MethodName := ⟨RX7, "span", "(I)I"⟩
abbrev cX7_isAlive : ByteArray := prog_9_method_21_code
def yX7_isAlive : MethodName := ⟨RX7, "isAlive", "(I)Z"⟩
abbrev cX7_isFit : ByteArray := prog_9_method_22_code
def yX7_isFit : MethodName := ⟨RX7, "isFit", "(I)Z"⟩
abbrev cX7_readBy : ByteArray := prog_9_method_23_code
def yX7_readBy : MethodName := ⟨RX7, "readBy", "(II)I"⟩
abbrev cX7_readOf : ByteArray := prog_9_method_24_code
def yX7_readOf : MethodName := ⟨RX7, "readOf", "(I)I"⟩
abbrev cX7_upwards : ByteArray := prog_9_method_25_code
def yX7_upwards : MethodName := ⟨RX7, "upwards", "(II)I"⟩
abbrev cX7_firstCost : ByteArray := prog_9_method_26_code
def yX7_firstCost : MethodName := ⟨RX7, "firstCost", "(II)I"⟩
abbrev cX7_costBy : ByteArray := prog_9_method_27_code
def yX7_costBy : MethodName := ⟨RX7, "costBy", "(III)I"⟩
abbrev cX7_cost : ByteArray := prog_9_method_28_code
def yX7_cost : MethodName := ⟨RX7, "cost", "(II)I"⟩
abbrev cX7_feed : ByteArray := prog_9_method_29_code
def yX7_feed : MethodName := ⟨RX7, "feed", "(I)I"⟩
abbrev cX7_here : ByteArray := prog_9_method_30_code
def yX7_here : MethodName := ⟨RX7, "here", "()I"⟩
abbrev cX7_fails : ByteArray := prog_9_method_31_code
def yX7_fails : MethodName := ⟨RX7, "fails", "(II)Z"⟩
abbrev cX7_sign : ByteArray := prog_9_method_32_code
def yX7_sign : MethodName := ⟨RX7, "sign", "(I)Z"⟩
abbrev cX7_takeNumber : ByteArray := prog_9_method_33_code
def yX7_takeNumber : MethodName := ⟨RX7, "takeNumber", "(II)Z"⟩
abbrev cX7_into : ByteArray := prog_9_method_34_code
def yX7_into : MethodName := ⟨RX7, "into", "(III)Z"⟩
abbrev cX7_sortOf : ByteArray := prog_9_method_35_code
def yX7_sortOf : MethodName := ⟨RX7, "sortOf", "(I)I"⟩
abbrev cX7_takeLetter : ByteArray := prog_9_method_36_code
def yX7_takeLetter : MethodName := ⟨RX7, "takeLetter", "()Z"⟩
abbrev cX7_takeReader : ByteArray := prog_9_method_37_code
def yX7_takeReader : MethodName := ⟨RX7, "takeReader", "()Z"⟩
abbrev cX7_takeNext : ByteArray := prog_9_method_38_code
def yX7_takeNext : MethodName := ⟨RX7, "takeNext", "()Z"⟩
abbrev cX7_takeOffice : ByteArray := prog_9_method_39_code
def yX7_takeOffice : MethodName := ⟨RX7, "takeOffice", "()Z"⟩
abbrev cX7_office : ByteArray := prog_9_method_40_code
def yX7_office : MethodName := ⟨RX7, "office", "()I"⟩
abbrev cX7_fault : ByteArray := prog_9_method_41_code
def yX7_fault : MethodName := ⟨RX7, "fault", "()I"⟩
abbrev cX7_putInto : ByteArray := prog_9_method_42_code
def yX7_putInto : MethodName := ⟨RX7, "putInto", "([II)V"⟩
abbrev cX7_takeFrom : ByteArray := prog_9_method_43_code
def yX7_takeFrom : MethodName := ⟨RX7, "takeFrom", "([II)V"⟩
abbrev cX7_remember : ByteArray := prog_9_method_44_code
def yX7_remember : MethodName := ⟨RX7, "remember", "()V"⟩
abbrev cX7_readNow : ByteArray := prog_9_method_45_code
def yX7_readNow : MethodName := ⟨RX7, "readNow", "(III)V"⟩
abbrev cX7_read : ByteArray := prog_9_method_46_code
def yX7_read : MethodName := ⟨RX7, "read", "(II)I"⟩
abbrev cX7_alive : ByteArray := prog_9_method_47_code
def yX7_alive : MethodName := ⟨RX7, "alive", "()I"⟩
abbrev cX7_aloud : ByteArray := prog_9_method_48_code
def yX7_aloud : MethodName := ⟨RX7, "aloud", "(III)I"⟩
abbrev cX7_cross : ByteArray := prog_9_method_49_code
def yX7_cross : MethodName := ⟨RX7, "cross", "(II)I"⟩
abbrev cX7_day : ByteArray := prog_9_method_50_code
def yX7_day : MethodName := ⟨RX7, "day", "()I"⟩
abbrev cX7_undo : ByteArray := prog_9_method_51_code
def yX7_undo : MethodName := ⟨RX7, "undo", "()I"⟩
abbrev cX7_hasRead : ByteArray := prog_9_method_52_code
def yX7_hasRead : MethodName := ⟨RX7, "hasRead", "(I)I"⟩
abbrev cX7_reader : ByteArray := prog_9_method_53_code
def yX7_reader : MethodName := ⟨RX7, "reader", "(II)I"⟩
abbrev cX7_whoRead : ByteArray := prog_9_method_54_code
def yX7_whoRead : MethodName := ⟨RX7, "whoRead", "(I)I"⟩
abbrev cX7_letter : ByteArray := prog_9_method_55_code
def yX7_letter : MethodName := ⟨RX7, "letter", "(II)I"⟩
abbrev cX7_costs : ByteArray := prog_9_method_56_code
def yX7_costs : MethodName := ⟨RX7, "costs", "(II)I"⟩
abbrev cX7_best : ByteArray := prog_9_method_57_code
def yX7_best : MethodName := ⟨RX7, "best", "(I)I"⟩
abbrev cX7_unread : ByteArray := prog_9_method_58_code
def yX7_unread : MethodName := ⟨RX7, "unread", "()I"⟩
abbrev cX7_spentBy : ByteArray := prog_9_method_59_code
def yX7_spentBy : MethodName := ⟨RX7, "spentBy", "(I)I"⟩
abbrev cX7_bits : ByteArray := prog_9_method_60_code
def yX7_bits : MethodName := ⟨RX7, "bits", "(I)I"⟩
abbrev cX7_allRead : ByteArray := prog_9_method_61_code
def yX7_allRead : MethodName := ⟨RX7, "allRead", "(I)I"⟩
abbrev cX7_aloudBy : ByteArray := prog_9_method_62_code
def yX7_aloudBy : MethodName := ⟨RX7, "aloudBy", "(II)I"⟩
abbrev cX7_bestAloud : ByteArray := prog_9_method_63_code
def yX7_bestAloud : MethodName := ⟨RX7, "bestAloud", "(II)I"⟩
abbrev cX7_kills : ByteArray := prog_9_method_64_code
def yX7_kills : MethodName := ⟨RX7, "kills", "(I)I"⟩
abbrev cX7_costAll : ByteArray := prog_9_method_65_code
def yX7_costAll : MethodName := ⟨RX7, "costAll", "(II)I"⟩
abbrev cX7_post : ByteArray := prog_9_method_66_code
def yX7_post : MethodName := ⟨RX7, "post", "(II)I"⟩
abbrev cX7_crossOut : ByteArray := prog_9_method_67_code
def yX7_crossOut : MethodName := ⟨RX7, "crossOut", "(II)I"⟩
abbrev cX7_dies : ByteArray := prog_9_method_68_code
def yX7_dies : MethodName := ⟨RX7, "dies", "(I)I"⟩
abbrev cX7_late : ByteArray := prog_9_method_69_code
def yX7_late : MethodName := ⟨RX7, "late", "(I)I"⟩
abbrev cX7_firstAll : ByteArray := prog_9_method_70_code
def yX7_firstAll : MethodName := ⟨RX7, "firstAll", "(I)I"⟩
abbrev cX7_soOld : ByteArray := prog_9_method_71_code
def yX7_soOld : MethodName := ⟨RX7, "soOld", "(III)I"⟩
abbrev cX7_readOn : ByteArray := prog_9_method_72_code
def yX7_readOn : MethodName := ⟨RX7, "readOn", "(I)V"⟩
abbrev cX7_ages : ByteArray := prog_9_method_73_code
def yX7_ages : MethodName := ⟨RX7, "ages", "(IIII)I"⟩
abbrev cX7_burnt : ByteArray := prog_9_method_74_code
def yX7_burnt : MethodName := ⟨RX7, "burnt", "(III)I"⟩
abbrev cX7_image : ByteArray := prog_9_method_75_code
def yX7_image : MethodName := ⟨RX7, "image", "(I)I"⟩
abbrev cX7_restore : ByteArray := prog_9_method_76_code
def yX7_restore : MethodName := ⟨RX7, "restore", "(I)I"⟩
abbrev cX7_kind : ByteArray := prog_9_method_77_code
def yX7_kind : MethodName := ⟨RX7, "kind", "(I)I"⟩
abbrev cX7_isOf : ByteArray := prog_9_method_78_code
def yX7_isOf : MethodName := ⟨RX7, "isOf", "(II)Z"⟩
abbrev cX7_as : ByteArray := prog_9_method_79_code
def yX7_as : MethodName := ⟨RX7, "as", "(II)I"⟩
abbrev cX7_leave : ByteArray := prog_9_method_80_code
def yX7_leave : MethodName := ⟨RX7, "leave", "(I)V"⟩
abbrev cX7_sizeLent : ByteArray := prog_9_method_81_code
def yX7_sizeLent : MethodName := ⟨RX7, "sizeLent", "(I)I"⟩
abbrev cX7_markLent : ByteArray := prog_9_method_82_code
def yX7_markLent : MethodName := ⟨RX7, "markLent", "(I)I"⟩
abbrev cX7_markOfProse : ByteArray := prog_9_method_83_code
def yX7_markOfProse : MethodName := ⟨RX7, "markOfProse", "(I)I"⟩
abbrev cX7_sizeOfFigures : ByteArray := prog_9_method_84_code
def yX7_sizeOfFigures : MethodName := ⟨RX7, "sizeOfFigures", "(I)I"⟩
abbrev cX7_sizeOfSums : ByteArray := prog_9_method_85_code
def yX7_sizeOfSums : MethodName := ⟨RX7, "sizeOfSums", "(I)I"⟩
abbrev cX7_markOf : ByteArray := prog_9_method_86_code
def yX7_markOf : MethodName := ⟨RX7, "markOf", "(I)I"⟩
abbrev cX7_sizeOfProse : ByteArray := prog_9_method_87_code
def yX7_sizeOfProse : MethodName := ⟨RX7, "sizeOfProse", "(I)I"⟩
abbrev cX7_sizeOf : ByteArray := prog_9_method_88_code
def yX7_sizeOf : MethodName := ⟨RX7, "sizeOf", "(I)I"⟩
abbrev cX7_ask : ByteArray := prog_9_method_89_code
def yX7_ask : MethodName := ⟨RX7, "ask", "(II)I"⟩
abbrev cX7_trace : ByteArray := prog_9_method_90_code
def yX7_trace : MethodName := ⟨RX7, "trace", "(I)I"⟩
abbrev cX7_fit : ByteArray := prog_9_method_91_code
def yX7_fit : MethodName := ⟨RX7, "fit", "()I"⟩
abbrev cX7_count : ByteArray := prog_9_method_92_code
def yX7_count : MethodName := ⟨RX7, "count", "(I)I"⟩
def RJ6 : String := "java/lang/Integer"
def TJ6 : u_T := fun k => match k with
  | _ => ("", "", "", false)
def tyJ6 : Nat → FieldType := fun k => match k with
  | _ => .int
abbrev wsJ60 : List Cond := u_ws RJ6 TJ6 0
theorem nmJ6 : ∀ a, a < 0 → ∀ b, b < 0 → a ≠ b → (TJ6 a).2.1 ≠ (TJ6 b).2.1 := by decide +kernel
theorem tyJ6_ok : ∀ k, k < 0 → parseFieldDescriptor (TJ6 k).2.2.1 = some (tyJ6 k) := by decide +kernel
abbrev cJ6_bitCount_0f7a4 : ByteArray := prog_10_method_49_code
def yJ6_bitCount_0f7a4 : MethodName := ⟨RJ6, "bitCount", "(I)I"⟩
def RJ10 : String := "java/lang/System"
def TJ10 : u_T := fun k => match k with
  | _ => ("", "", "", false)
def tyJ10 : Nat → FieldType := fun k => match k with
  | _ => .int
abbrev wsJ100 : List Cond := u_ws RJ10 TJ10 0
theorem nmJ10 : ∀ a, a < 0 → ∀ b, b < 0 → a ≠ b → (TJ10 a).2.1 ≠ (TJ10 b).2.1 := by decide +kernel
theorem tyJ10_ok : ∀ k, k < 0 → parseFieldDescriptor (TJ10 k).2.2.1 = some (tyJ10 k) := by decide +kernel
def RJ7 : String := "java/util/Arrays"
def TJ7 : u_T := fun k => match k with
  | _ => ("", "", "", false)
def tyJ7 : Nat → FieldType := fun k => match k with
  | _ => .int
abbrev wsJ70 : List Cond := u_ws RJ7 TJ7 0
theorem nmJ7 : ∀ a, a < 0 → ∀ b, b < 0 → a ≠ b → (TJ7 a).2.1 ≠ (TJ7 b).2.1 := by decide +kernel
theorem tyJ7_ok : ∀ k, k < 0 → parseFieldDescriptor (TJ7 k).2.2.1 = some (tyJ7 k) := by decide +kernel
abbrev cJ7_fill_53178 : ByteArray := prog_12_method_103_code
def yJ7_fill_53178 : MethodName := ⟨RJ7, "fill", "([II)V"⟩
def RL : String := "AgingLettersLaw"
abbrev cL_law : ByteArray := code
def yL_law : MethodName := ⟨RL, "law", "([I)Z"⟩
abbrev vwCl : List vw_C := [(RX0, TX0, 9), (RX1, TX1, 2), (RX2, TX2, 3), (RX3, TX3, 13), (RX4, TX4, 3), (RX5, TX5, 4), (RX6, TX6, 11), (RX7, TX7, 23)]
end
section
/-! ===== THE WORLD'S SHAPE (made by wip/whole/shape.py out of the constructors): cells in the order in which they are made ===== -/
def NC : Nat := 73
/-- the kind of a cell: the place of its class in vwCl; 100 a row of ints, 101 of booleans -/
def kdL : List Nat := [6, 4, 100, 100, 100, 5, 100, 3, 100, 100, 100, 100, 100, 100, 100, 100, 3, 100, 100, 100, 100, 100, 100, 100, 100, 3, 100, 100, 100, 100, 100, 100, 100, 100, 3, 100, 100, 100, 100, 100, 100, 100, 100, 0, 100, 100, 100, 100, 100, 100, 100, 2, 100, 100, 100, 1, 100, 7, 100, 100, 100, 100, 100, 100, 100, 100, 100, 100, 100, 100, 100, 101, 100]
def kd (k : Nat) : Nat := kdL.getD k 200
def lnL : List Nat := [0, 0, 8, 8, 320, 0, 120, 0, 6, 6, 6, 4, 4, 4, 4, 24, 0, 6, 6, 6, 4, 4, 4, 4, 24, 0, 6, 6, 6, 4, 4, 4, 4, 24, 0, 6, 6, 6, 4, 4, 4, 4, 24, 0, 24, 24, 24, 24, 24, 24, 24, 0, 4, 6, 64, 0, 16, 0, 8, 8, 320, 40, 63, 120, 63, 1512, 6, 4, 64, 64, 126, 2, 16]
def ln (k : Nat) : Nat := lnL.getD k 0
/-- where an object's references lead -/
def rfL : List (List Nat) := [[1, 5, 7, 16, 25, 34, 43, 51, 55, 999, 999], [2, 3, 4], [], [], [], [6, 999, 999, 999], [], [999, 999, 999, 999, 8, 9, 10, 999, 11, 12, 13, 14, 15], [], [], [], [], [], [], [], [], [999, 999, 999, 999, 17, 18, 19, 999, 20, 21, 22, 23, 24], [], [], [], [], [], [], [], [], [999, 999, 999, 999, 26, 27, 28, 999, 29, 30, 31, 32, 33], [], [], [], [], [], [], [], [], [999, 999, 999, 999, 35, 36, 37, 999, 38, 39, 40, 41, 42], [], [], [], [], [], [], [], [], [44, 45, 46, 47, 48, 49, 50, 999, 999], [], [], [], [], [], [], [], [52, 53, 54], [], [], [], [56, 999], [], [58, 59, 60, 999, 61, 62, 63, 999, 999, 999, 999, 999, 64, 999, 65, 66, 67, 68, 69, 70, 71, 72, 999], [], [], [], [], [], [], [], [], [], [], [], [], [], [], []]
def rf (k j : Nat) : Nat := (rfL.getD k []).getD j 999
def nfL : List Nat := [9, 2, 3, 13, 3, 4, 11, 23]
def nf (c : Nat) : Nat := nfL.getD c 0
def irL : List (List Bool) := [[true, true, true, true, true, true, true, false, false], [true, false], [true, true, true], [false, false, false, false, true, true, true, false, true, true, true, true, true], [true, true, true], [true, false, false, false], [true, true, true, true, true, true, true, true, true, false, false], [true, true, true, false, true, true, true, false, false, false, false, false, true, false, true, true, true, true, true, true, true, true, false]]
def ir (c j : Nat) : Bool := (irL.getD c []).getD j false
end
section
/-! ===== THE WORLD AS NUMBERS (mem cell place), THE JUDGEMENT Ev, A RULE AN INSTRUCTION ===== -/
abbrev Mem : Type := Nat → Nat → Int32
abbrev Gt : Type := (Nat → Nat) × va_G × ClassId × ClassId × Nat × Nat × Launch
def gA (G : Gt) (k : Nat) : Nat := G.1 k
def gD (G : Gt) : va_G := G.2.1
def gI (G : Gt) : ClassId := G.2.2.1
def gZ (G : Gt) : ClassId := G.2.2.2.1
def gS (G : Gt) : Nat := G.2.2.2.2.1
def gM (G : Gt) : Nat := G.2.2.2.2.2.1
def gL (G : Gt) : Launch := G.2.2.2.2.2.2
def fV (G : Gt) (k : Nat) (row : Nat → Int32) (j : Nat) : Value := if ir (kd k) j = true then .ref (gA G (rf k j)) else .int (row j)
def cellE (G : Gt) (k : Nat) (row : Nat → Int32) : va_E := if kd k = 100 then .inl (gI G, ln k, .inl row) else if kd k = 101 then .inl (gZ G, ln k, .inl row) else .inr (kd k, (List.range (nf (kd k))).map (fV G k row))
def cells (G : Gt) (mem : Mem) : va_W := (List.range NC).map (fun k => (gA G k, cellE G k (mem k)))
def st1 (mem : Mem) (k : Nat) (row : Nat → Int32) : Mem := fun q => if q = k then row else mem q
def st2 (mem : Mem) (k i : Nat) (v : Int32) : Mem := st1 mem k (upd (mem k) i v)
theorem cells_at {G : Gt} {mem : Mem} {k : Nat} (h : k < NC) : (cells G mem)[k]? = some (gA G k, cellE G k (mem k)) := by
  unfold cells
  rw [List.getElem?_map, List.getElem?_range h]
  rfl
theorem cells_set {G : Gt} {mem : Mem} {k : Nat} {row : Nat → Int32} (h : k < NC) : (cells G mem).set k (gA G k, cellE G k row) = cells G (st1 mem k row) := by
  apply List.ext_getElem?
  intro i
  rw [List.getElem?_set]
  have hl : (cells G mem).length = NC := by simp [cells]
  by_cases hi : k = i
  · subst hi
    rw [if_pos rfl, if_pos (by rw [hl]; exact h), cells_at h]
    simp [st1]
  · rw [if_neg hi]
    by_cases h2 : i < NC
    · rw [cells_at h2, cells_at h2]
      simp [st1, Ne.symm hi]
    · rw [List.getElem?_eq_none (by rw [hl]; omega), List.getElem?_eq_none (by simp [cells]; omega)]
theorem cellE_i {G : Gt} {k : Nat} {row : Nat → Int32} (h : kd k = 100) : cellE G k row = .inl (gI G, ln k, .inl row) := by simp [cellE, h]
theorem cellE_z {G : Gt} {k : Nat} {row : Nat → Int32} (h : kd k = 101) : cellE G k row = .inl (gZ G, ln k, .inl row) := by simp [cellE, h]
theorem cellE_o {G : Gt} {k c : Nat} {row : Nat → Int32} (h : kd k = c) (hc : c < 100) : cellE G k row = .inr (c, (List.range (nf c)).map (fV G k row)) := by
  subst h
  unfold cellE
  rw [if_neg (by omega), if_neg (by omega)]
theorem fs_at {G : Gt} {k n j : Nat} {row : Nat → Int32} (h : j < n) : ((List.range n).map (fV G k row))[j]? = some (fV G k row j) := by
  rw [List.getElem?_map, List.getElem?_range h]
  rfl
theorem fs_set {G : Gt} {k n c j : Nat} {row : Nat → Int32} {v : Int32} (hk : kd k = c) (hj : ir c j = false) : ((List.range n).map (fV G k row)).set j (.int v) = (List.range n).map (fV G k (upd row j v)) := by
  apply List.ext_getElem?
  intro i
  rw [List.getElem?_set]
  by_cases h2 : i < n
  · rw [fs_at h2, fs_at h2]
    by_cases hi : j = i
    · subst hi
      rw [if_pos rfl, if_pos (by simp; exact h2)]
      simp [fV, hk, hj, upd]
    · rw [if_neg hi]
      simp [fV, upd, Ne.symm hi]
  · rw [List.getElem?_eq_none (l := (List.range n).map (fV G k (upd row j v))) (by simp; omega), List.getElem?_eq_none (l := (List.range n).map (fV G k row)) (by simp; omega)]
    by_cases hi : j = i
    · rw [if_pos hi, if_neg (by simp; omega)]
    · rw [if_neg hi]
theorem kd_lt {k c : Nat} (h : kd k = c) (hc : c < 200) : k < NC := by
  apply Nat.not_le.mp
  intro q
  have e : kd k = 200 := by
    unfold kd
    rw [List.getD_eq_getElem?_getD, List.getElem?_eq_none (by exact q)]
    rfl
  omega
/-- words that hold anywhere in the run: the tables' good ones -/
def AW : List Cond := lw_tbl.filter goodWord
def isNest : Cond → Bool
  | .fieldLinkNest .. => true
  | .methodLinkNest .. => true
  | _ => false
def NW : List Cond := tables_1.filter isNest
theorem AW_of {w : Cond} (h : w ∈ lw_tbl) (g : goodWord w = true) : w ∈ AW := List.mem_filter.mpr ⟨h, g⟩
theorem AW_s {w : Cond} (h : w ∈ k2_sels lw_privs) (g : goodWord w = true) : w ∈ AW := AW_of (List.mem_append_left _ h) g
theorem AW_t {w : Cond} (h : w ∈ tables_1) (g : goodWord w = true) : w ∈ AW := AW_of (List.mem_append_right _ h) g
theorem tb_1 {w : Cond} {i : Nat} (h : tables_1_1[i]? = some w) : w ∈ tables_1 := List.mem_append_left _ (List.mem_of_getElem? h)
theorem tb_2 {w : Cond} {i : Nat} (h : tables_1_2[i]? = some w) : w ∈ tables_1 := List.mem_append_right _ (List.mem_append_left _ (List.mem_of_getElem? h))
theorem tb_3 {w : Cond} {i : Nat} (h : tables_1_3[i]? = some w) : w ∈ tables_1 := List.mem_append_right _ (List.mem_append_right _ (List.mem_append_left _ (List.mem_of_getElem? h)))
theorem tb_4 {w : Cond} {i : Nat} (h : tables_1_4[i]? = some w) : w ∈ tables_1 := List.mem_append_right _ (List.mem_append_right _ (List.mem_append_right _ (List.mem_append_left _ (List.mem_of_getElem? h))))
theorem tb_5 {w : Cond} {i : Nat} (h : tables_1_5[i]? = some w) : w ∈ tables_1 := List.mem_append_right _ (List.mem_append_right _ (List.mem_append_right _ (List.mem_append_right _ (List.mem_of_getElem? h))))
theorem NW_t {w : Cond} (h : w ∈ tables_1) (g : isNest w = true) : w ∈ NW := List.mem_filter.mpr ⟨h, g⟩
theorem goodAW {ws : List Cond} (h : ∀ w ∈ ws, w ∈ AW) : GoodIn AW ws := fun w hw => ⟨h w hw, good_of_word (List.mem_filter.mp (h w hw)).2⟩
theorem nest_warm {w : Cond} {s U : State} (hn : isNest w = true) (hW : s.WarmedH U.vm) (h : va_Nw w s) : va_Nw w U := by
  cases w <;> first | (exact va_Nw.warmF hW h) | (exact va_Nw.warmM hW h) | (cases hn)
theorem nest_same {w : Cond} {s U : State} (hn : isNest w = true) (hW : s.vm = U.vm) (h : va_Nw w s) : va_Nw w U := by
  cases w <;> first | (exact va_Nw.same rfl hW h) | (cases hn)
def szB (j : Nat) : Int32 := [10, 11, 12, 11, 13, 14].getD j 0
def mkB (j : Nat) : Int32 := [20, 21, 24, 22, 23, 23].getD j 0
/-- the cells that may be written -/
def gF (G : Gt) : Nat → Prop := fun q => ∃ k, k < NC ∧ q = gA G k
def Ctx (G : Gt) (U : State) (H : Heap) : Prop := va_K (gD G) vwCl [(gI G, .int), (gZ G, .boolean)] U ∧ (∀ w ∈ NW, va_Nw w U) ∧ (∀ i j, i < NC → j < NC → gA G i = gA G j → i = j) ∧
  (va_Z "AgingLetters$Asks" "SIZE_BODIES" "[I" (.ref (gS G)) (gF G) U H ∧ va_T .int (gS G) 6 (fun j => .int (szB j)) (gF G) U H) ∧
  (va_Z "AgingLetters$Asks" "MARK_BODIES" "[I" (.ref (gM G)) (gF G) U H ∧ va_T .int (gM G) 6 (fun j => .int (mkB j)) (gF G) U H)
theorem Ctx.moved {G : Gt} {s U : State} {locs : List Loc} (h : Ctx G s s.heap) (hW : s.WarmedH U.vm) (hS : va_S (gF G) s.heap U.heap locs) : Ctx G U U.heap :=
  ⟨h.1.moved hW.alike, fun w hw => nest_warm (List.mem_filter.mp hw).2 hW (h.2.1 w hw), h.2.2.1, ⟨(h.2.2.2.1.1.kept hS.2.1).moved hW.alike, (h.2.2.2.1.2.kept hS.2.1).moved hW.alike⟩, ⟨(h.2.2.2.2.1.kept hS.2.1).moved hW.alike, (h.2.2.2.2.2.kept hS.2.1).moved hW.alike⟩⟩
theorem Ctx.same {G : Gt} {s U : State} (h : Ctx G s s.heap) (hW : s.vm = U.vm) (hH : s.heap = U.heap) : Ctx G U U.heap := by
  rw [← hH]
  have ha : s.vm.Alike U.vm := by rw [hW]; exact Vm.Alike.refl _
  exact ⟨h.1.moved ha, fun w hw => nest_same (List.mem_filter.mp hw).2 hW (h.2.1 w hw), h.2.2.1, ⟨h.2.2.2.1.1.moved ha, h.2.2.2.1.2.moved ha⟩, ⟨h.2.2.2.2.1.moved ha, h.2.2.2.2.2.moved ha⟩⟩
theorem Ctx.D {G : Gt} {U : State} {H : Heap} (h : Ctx G U H) (mem : Mem) : va_D (gF G) (cells G mem) := by
  have key : ∀ (k : Nat) (q : Nat × va_E), (cells G mem)[k]? = some q → k < NC ∧ q.1 = gA G k := by
    intro k q hq
    have hk : k < NC := by
      have := (List.getElem?_eq_some_iff.mp hq).1
      simpa [cells] using this
    rw [cells_at hk] at hq
    cases hq
    exact ⟨hk, rfl⟩
  refine ⟨fun i j p q hi hj e => ?_, fun k q hq => ?_⟩
  · obtain ⟨a1, a2⟩ := key i p hi
    obtain ⟨b1, b2⟩ := key j q hj
    exact h.2.2.1 i j a1 b1 (by rw [← a2, ← b2]; exact e)
  · obtain ⟨a1, a2⟩ := key k q hq
    exact ⟨k, a1, a2⟩
def World (G : Gt) (mem : Mem) (U : State) : Prop := va_P (gD G) vwCl (cells G mem) U.heap ∧ Ctx G U U.heap
def rmOf (d : Nat) : Room := { frames := d, cells := 0, slots := 0, locals := 64 * d }
def EQ (G : Gt) (v : Option Value) (m1 : Mem) : Array Value → State → Outcome → State → Prop := fun _ st oc t => (oc = .returned v ∧ World G m1 t) ∧ va_F (gF G) st t
/-- from here (place pc, locals lv, operands st, numbers mem) the method returns v and leaves the numbers m1 -/
def Ev (G : Gt) (cc : ByteArray) (nL : Nat) (ret : Option FieldType) (own : String) (d : Nat) (v : Option Value) (m1 : Mem) (pc : Nat) (lv : List (Nat × Value)) (st : List Value) (mem : Mem) : Prop :=
  ∀ (p : Program) (e : Env) (s : State) (m : MethodId) (args : Array Value) (below : List Frame) (meth : Method) (c : Code) (H : Heap) (locs : List Loc) (ls : Array Slot),
    p.tables.exec = Jvm.exec → c.code = cc → c.maxLocals = nL → meth.sig.returnType = ret → s.vm.findClass own = some m.cls → meth.locks = false → (∀ w ∈ AW, w.before args s = true) → Ctx G s s.heap →
    va_P (gD G) vwCl (cells G mem) H → va_S (gF G) s.heap H locs → lv_has ls nL lv →
    W p (gL G) e (rmOf d) s m args below meth c H locs 0 0 (MQ below (EQ G v m1) args s 0 0 (gF G)) (F0 m pc ls st)
/-- .. what the expression o says, if it says anything -/
def EvR {ρ : Type} (tv : ρ → Option Value) (G : Gt) (cc : ByteArray) (nL : Nat) (ret : Option FieldType) (own : String) (d : Nat) (pc : Nat) (lv : List (Nat × Value)) (st : List Value) (mem : Mem) (o : Option (ρ × Mem)) : Prop :=
  ∀ (r : ρ) (m1 : Mem), o = some (r, m1) → Ev G cc nL ret own d (tv r) m1 pc lv st mem
def tvI (r : Int32) : Option Value := some (.int r)
def tvU (_ : Unit) : Option Value := none
def tvR (G : Gt) (k : Nat) : Option Value := some (.ref (gA G k))
/-- a contract: from the world mem, with the arguments vs, the method does what o says -/
def Con {ρ : Type} (tv : ρ → Option Value) (G : Gt) (y : MethodName) (bytes : ByteArray) (nL : Nat) (ret : Option FieldType) (d : Nat) (vs : List Value) (mem : Mem) (o : Option (ρ × Mem)) : Prop :=
  ∀ (r : ρ) (m1 : Mem), o = some (r, m1) → Met (gL G) y (Cond.code y bytes nL ret :: AW) (rmOf d) (va_Pc vs (World G mem)) (EQ G (tv r) m1) 0 0 (gF G)
-- expressions
def inB (i : Int32) (n : Nat) : Bool := decide (0 ≤ i.toInt) && decide (i.toInt < n)
theorem inB_in {i : Int32} {n : Nat} (h : inB i n = true) : vp_in i n := by
  simp only [inB, Bool.and_eq_true, decide_eq_true_eq] at h
  exact vp_in_iff.mpr h
def ald {α : Type} (mem : Mem) (k : Nat) (i : Int32) (f : Int32 → Option α) : Option α := if inB i (ln k) = true then f (mem k i.toNatClampNeg) else none
def ast {α : Type} (mem : Mem) (k : Nat) (i : Int32) (v : Int32) (f : Mem → Option α) : Option α := if inB i (ln k) = true then f (st2 mem k i.toNatClampNeg v) else none
def sld {α : Type} (g : Nat → Int32) (n : Nat) (i : Int32) (f : Int32 → Option α) : Option α := if inB i n = true then f (g i.toNatClampNeg) else none
def cll {α ρ : Type} (o : Option (ρ × Mem)) (f : ρ → Mem → Option α) : Option α := match o with
  | some r => f r.1 r.2
  | none => none
def chk {α : Type} (c : Prop) [Decidable c] (o : Option α) : Option α := if c then o else none
theorem cll_some {α ρ : Type} {o : Option (ρ × Mem)} {f : ρ → Mem → Option α} {z : α} (h : cll o f = some z) : ∃ r m, o = some (r, m) ∧ f r m = some z := by
  cases o with
  | none => cases h
  | some r => exact ⟨r.1, r.2, rfl, h⟩
/-- a class's facts -/
def CF (ci : Nat) (C : String) (T : u_T) : Prop := vwCl[ci]? = some (C, T, nf ci) ∧ (∀ w ∈ u_ws C T (nf ci), w ∈ AW) ∧ (∃ ty : Nat → FieldType, ∀ k, k < nf ci → parseFieldDescriptor (T k).2.2.1 = some (ty k)) ∧ (∀ a, a < nf ci → ∀ b, b < nf ci → a ≠ b → (T a).2.1 ≠ (T b).2.1)
def FL (own : String) (index : Nat) (ref n d : String) : Prop := Cond.fieldLink own index ref n d ∈ AW ∨ ∃ host, Cond.fieldLinkNest own index ref n d host ∈ NW
def okD (d : Option Nat) (y : MethodName) : Prop := y.cls ≠ "java/lang/invoke/MethodHandle" ∧ y.cls ≠ "java/lang/invoke/VarHandle" ∧ (parseMethodDescriptor y.desc).map (fun d => d.parameters.length) = d
def MTV (y : MethodName) (bytes : ByteArray) (maxL : Nat) (ret : Option FieldType) (n : Nat) : Prop := Cond.code y bytes maxL ret ∈ AW ∧ Cond.instanceMethod y ∈ AW ∧ Cond.selects y.cls y y ∈ AW ∧ Cond.initialized y.cls ∈ AW ∧ okD (some n) y
def MTS (y : MethodName) (bytes : ByteArray) (maxL : Nat) (ret : Option FieldType) (n : Nat) : Prop := Cond.code y bytes maxL ret ∈ AW ∧ Cond.static y ∈ AW ∧ Cond.initialized y.cls ∈ AW ∧ okD (some n) y
section RULES
variable {ρ : Type} {tv : ρ → Option Value} {G : Gt} {cc : ByteArray} {nL : Nat} {ret : Option FieldType} {own : String} {d : Nat} {pc q : Nat} {lv lv2 : List (Nat × Value)} {st : List Value} {mem : Mem} {o o2 : Option (ρ × Mem)}
theorem ev_none : EvR tv G cc nL ret own d pc lv st mem none := fun r m1 h => by cases h
theorem ev_sub {lv' : List (Nat × Value)} (ks : List Nat) (hl : lv_pick lv ks = lv') (k : EvR tv G cc nL ret own d pc lv' st mem o) : EvR tv G cc nL ret own d pc lv st mem o :=
  fun r m1 hv p e s m args below meth c H locs ls hx hb hml hr hown hlk hts hC hP hS hl2 => k r m1 hv p e s m args below meth c H locs ls hx hb hml hr hown hlk hts hC hP hS (lv_sub hl2 ks hl)
theorem ev_chk {c : Prop} [Decidable c] (k : c → EvR tv G cc nL ret own d pc lv st mem o) : EvR tv G cc nL ret own d pc lv st mem (chk c o) := by
  unfold chk
  split
  · exact k (by assumption)
  · exact ev_none
theorem ev_ite {c : Prop} [Decidable c] (k1 : c → EvR tv G cc nL ret own d pc lv st mem o) (k2 : ¬ c → EvR tv G cc nL ret own d pc lv st mem o2) : EvR tv G cc nL ret own d pc lv st mem (if c then o else o2) := by
  split
  · exact k1 (by assumption)
  · exact k2 (by assumption)
theorem ev_iconst {n : Int} {v : Int32} (hd : decode cc pc = .ok (.iconst n, 1)) (hp : pc + 1 = q) (hv0 : Int32.ofInt n = v) (k : EvR tv G cc nL ret own d q lv (.int v :: st) mem o) : EvR tv G cc nL ret own d pc lv st mem o := by
  subst hp
  intro r m1 hv p e s m args below meth c H locs ls hx hb hml hr hown hlk hts hC hP hS hl
  exact lv_iconst hx hb hd hv0 (k r m1 hv p e s m args below meth c H locs ls hx hb hml hr hown hlk hts hC hP hS hl)
theorem ev_bipush {n : Int} {v : Int32} (hd : decode cc pc = .ok (.bipush n, 2)) (hp : pc + 2 = q) (hv0 : (Int8.ofInt n).toInt32 = v) (k : EvR tv G cc nL ret own d q lv (.int v :: st) mem o) : EvR tv G cc nL ret own d pc lv st mem o := by
  subst hp
  intro r m1 hv p e s m args below meth c H locs ls hx hb hml hr hown hlk hts hC hP hS hl
  exact lv_bipush hx hb hd hv0 (k r m1 hv p e s m args below meth c H locs ls hx hb hml hr hown hlk hts hC hP hS hl)
theorem ev_sipush {n : Int} {v : Int32} (hd : decode cc pc = .ok (.sipush n, 3)) (hp : pc + 3 = q) (hv0 : (Int16.ofInt n).toInt32 = v) (k : EvR tv G cc nL ret own d q lv (.int v :: st) mem o) : EvR tv G cc nL ret own d pc lv st mem o := by
  subst hp
  intro r m1 hv p e s m args below meth c H locs ls hx hb hml hr hown hlk hts hC hP hS hl
  exact lv_sipush hx hb hd hv0 (k r m1 hv p e s m args below meth c H locs ls hx hb hml hr hown hlk hts hC hP hS hl)
theorem ev_lconst {n : Fin 2} {v : Int64} (hd : decode cc pc = .ok (.lconst n, 1)) (hp : pc + 1 = q) (hv0 : Int64.ofNat (n : Nat) = v) (k : EvR tv G cc nL ret own d q lv (.long v :: st) mem o) : EvR tv G cc nL ret own d pc lv st mem o := by
  subst hp
  intro r m1 hv p e s m args below meth c H locs ls hx hb hml hr hown hlk hts hC hP hS hl
  exact lv_lconst hx hb hd hv0 (k r m1 hv p e s m args below meth c H locs ls hx hb hml hr hown hlk hts hC hP hS hl)
theorem ev_iadd {x y : Int32} (hd : decode cc pc = .ok (.iadd, 1)) (hp : pc + 1 = q)  (k : EvR tv G cc nL ret own d q lv (.int (x + y) :: st) mem o) : EvR tv G cc nL ret own d pc lv (.int y :: .int x :: st) mem o := by
  subst hp
  intro r m1 hv p e s m args below meth c H locs ls hx hb hml hr hown hlk hts hC hP hS hl
  exact lv_iadd hx hb hd  (k r m1 hv p e s m args below meth c H locs ls hx hb hml hr hown hlk hts hC hP hS hl)
theorem ev_isub {x y : Int32} (hd : decode cc pc = .ok (.isub, 1)) (hp : pc + 1 = q)  (k : EvR tv G cc nL ret own d q lv (.int (x - y) :: st) mem o) : EvR tv G cc nL ret own d pc lv (.int y :: .int x :: st) mem o := by
  subst hp
  intro r m1 hv p e s m args below meth c H locs ls hx hb hml hr hown hlk hts hC hP hS hl
  exact lv_isub hx hb hd  (k r m1 hv p e s m args below meth c H locs ls hx hb hml hr hown hlk hts hC hP hS hl)
theorem ev_imul {x y : Int32} (hd : decode cc pc = .ok (.imul, 1)) (hp : pc + 1 = q)  (k : EvR tv G cc nL ret own d q lv (.int (x * y) :: st) mem o) : EvR tv G cc nL ret own d pc lv (.int y :: .int x :: st) mem o := by
  subst hp
  intro r m1 hv p e s m args below meth c H locs ls hx hb hml hr hown hlk hts hC hP hS hl
  exact lv_imul hx hb hd  (k r m1 hv p e s m args below meth c H locs ls hx hb hml hr hown hlk hts hC hP hS hl)
theorem ev_iand {x y : Int32} (hd : decode cc pc = .ok (.iand, 1)) (hp : pc + 1 = q)  (k : EvR tv G cc nL ret own d q lv (.int (x &&& y) :: st) mem o) : EvR tv G cc nL ret own d pc lv (.int y :: .int x :: st) mem o := by
  subst hp
  intro r m1 hv p e s m args below meth c H locs ls hx hb hml hr hown hlk hts hC hP hS hl
  exact lv_iand hx hb hd  (k r m1 hv p e s m args below meth c H locs ls hx hb hml hr hown hlk hts hC hP hS hl)
theorem ev_ior {x y : Int32} (hd : decode cc pc = .ok (.ior, 1)) (hp : pc + 1 = q)  (k : EvR tv G cc nL ret own d q lv (.int (x ||| y) :: st) mem o) : EvR tv G cc nL ret own d pc lv (.int y :: .int x :: st) mem o := by
  subst hp
  intro r m1 hv p e s m args below meth c H locs ls hx hb hml hr hown hlk hts hC hP hS hl
  exact lv_ior hx hb hd  (k r m1 hv p e s m args below meth c H locs ls hx hb hml hr hown hlk hts hC hP hS hl)
theorem ev_ixor {x y : Int32} (hd : decode cc pc = .ok (.ixor, 1)) (hp : pc + 1 = q)  (k : EvR tv G cc nL ret own d q lv (.int (x ^^^ y) :: st) mem o) : EvR tv G cc nL ret own d pc lv (.int y :: .int x :: st) mem o := by
  subst hp
  intro r m1 hv p e s m args below meth c H locs ls hx hb hml hr hown hlk hts hC hP hS hl
  exact lv_ixor hx hb hd  (k r m1 hv p e s m args below meth c H locs ls hx hb hml hr hown hlk hts hC hP hS hl)
theorem ev_ishl {x y : Int32} (hd : decode cc pc = .ok (.ishl, 1)) (hp : pc + 1 = q)  (k : EvR tv G cc nL ret own d q lv (.int (x <<< (y &&& 31)) :: st) mem o) : EvR tv G cc nL ret own d pc lv (.int y :: .int x :: st) mem o := by
  subst hp
  intro r m1 hv p e s m args below meth c H locs ls hx hb hml hr hown hlk hts hC hP hS hl
  exact lv_ishl hx hb hd  (k r m1 hv p e s m args below meth c H locs ls hx hb hml hr hown hlk hts hC hP hS hl)
theorem ev_ishr {x y : Int32} (hd : decode cc pc = .ok (.ishr, 1)) (hp : pc + 1 = q)  (k : EvR tv G cc nL ret own d q lv (.int (x >>> (y &&& 31)) :: st) mem o) : EvR tv G cc nL ret own d pc lv (.int y :: .int x :: st) mem o := by
  subst hp
  intro r m1 hv p e s m args below meth c H locs ls hx hb hml hr hown hlk hts hC hP hS hl
  exact lv_ishr hx hb hd  (k r m1 hv p e s m args below meth c H locs ls hx hb hml hr hown hlk hts hC hP hS hl)
theorem ev_ineg {x : Int32} (hd : decode cc pc = .ok (.ineg, 1)) (hp : pc + 1 = q)  (k : EvR tv G cc nL ret own d q lv (.int (-x) :: st) mem o) : EvR tv G cc nL ret own d pc lv (.int x :: st) mem o := by
  subst hp
  intro r m1 hv p e s m args below meth c H locs ls hx hb hml hr hown hlk hts hC hP hS hl
  exact lv_ineg hx hb hd  (k r m1 hv p e s m args below meth c H locs ls hx hb hml hr hown hlk hts hC hP hS hl)
theorem ev_iushr {x y v : Int32} (hd : decode cc pc = .ok (.iushr, 1)) (hp : pc + 1 = q) (hv0 : (x.toUInt32 >>> (y.toUInt32 &&& Int32.toUInt32 31)).toInt32 = v) (k : EvR tv G cc nL ret own d q lv (.int v :: st) mem o) : EvR tv G cc nL ret own d pc lv (.int y :: .int x :: st) mem o := by
  subst hp
  intro r m1 hv p e s m args below meth c H locs ls hx hb hml hr hown hlk hts hC hP hS hl
  exact lv_iushr hx hb hd hv0 (k r m1 hv p e s m args below meth c H locs ls hx hb hml hr hown hlk hts hC hP hS hl)
theorem ev_ladd {x y : Int64} (hd : decode cc pc = .ok (.ladd, 1)) (hp : pc + 1 = q)  (k : EvR tv G cc nL ret own d q lv (.long (x + y) :: st) mem o) : EvR tv G cc nL ret own d pc lv (.long y :: .long x :: st) mem o := by
  subst hp
  intro r m1 hv p e s m args below meth c H locs ls hx hb hml hr hown hlk hts hC hP hS hl
  exact lv_ladd hx hb hd  (k r m1 hv p e s m args below meth c H locs ls hx hb hml hr hown hlk hts hC hP hS hl)
theorem ev_lsub {x y : Int64} (hd : decode cc pc = .ok (.lsub, 1)) (hp : pc + 1 = q)  (k : EvR tv G cc nL ret own d q lv (.long (x - y) :: st) mem o) : EvR tv G cc nL ret own d pc lv (.long y :: .long x :: st) mem o := by
  subst hp
  intro r m1 hv p e s m args below meth c H locs ls hx hb hml hr hown hlk hts hC hP hS hl
  exact lv_lsub hx hb hd  (k r m1 hv p e s m args below meth c H locs ls hx hb hml hr hown hlk hts hC hP hS hl)
theorem ev_lmul {x y : Int64} (hd : decode cc pc = .ok (.lmul, 1)) (hp : pc + 1 = q)  (k : EvR tv G cc nL ret own d q lv (.long (x * y) :: st) mem o) : EvR tv G cc nL ret own d pc lv (.long y :: .long x :: st) mem o := by
  subst hp
  intro r m1 hv p e s m args below meth c H locs ls hx hb hml hr hown hlk hts hC hP hS hl
  exact lv_lmul hx hb hd  (k r m1 hv p e s m args below meth c H locs ls hx hb hml hr hown hlk hts hC hP hS hl)
theorem ev_i2l {x : Int32} (hd : decode cc pc = .ok (.i2l, 1)) (hp : pc + 1 = q)  (k : EvR tv G cc nL ret own d q lv (.long x.toInt64 :: st) mem o) : EvR tv G cc nL ret own d pc lv (.int x :: st) mem o := by
  subst hp
  intro r m1 hv p e s m args below meth c H locs ls hx hb hml hr hown hlk hts hC hP hS hl
  exact lv_i2l hx hb hd rfl (k r m1 hv p e s m args below meth c H locs ls hx hb hml hr hown hlk hts hC hP hS hl)
theorem ev_l2i {x : Int64} (hd : decode cc pc = .ok (.l2i, 1)) (hp : pc + 1 = q)  (k : EvR tv G cc nL ret own d q lv (.int x.toInt32 :: st) mem o) : EvR tv G cc nL ret own d pc lv (.long x :: st) mem o := by
  subst hp
  intro r m1 hv p e s m args below meth c H locs ls hx hb hml hr hown hlk hts hC hP hS hl
  exact lv_l2i hx hb hd rfl (k r m1 hv p e s m args below meth c H locs ls hx hb hml hr hown hlk hts hC hP hS hl)
theorem ev_i2b {x : Int32} (hd : decode cc pc = .ok (.i2b, 1)) (hp : pc + 1 = q)  (k : EvR tv G cc nL ret own d q lv (.int x.toInt8.toInt32 :: st) mem o) : EvR tv G cc nL ret own d pc lv (.int x :: st) mem o := by
  subst hp
  intro r m1 hv p e s m args below meth c H locs ls hx hb hml hr hown hlk hts hC hP hS hl
  exact lv_i2b hx hb hd rfl (k r m1 hv p e s m args below meth c H locs ls hx hb hml hr hown hlk hts hC hP hS hl)
theorem ev_i2s {x : Int32} (hd : decode cc pc = .ok (.i2s, 1)) (hp : pc + 1 = q)  (k : EvR tv G cc nL ret own d q lv (.int x.toInt16.toInt32 :: st) mem o) : EvR tv G cc nL ret own d pc lv (.int x :: st) mem o := by
  subst hp
  intro r m1 hv p e s m args below meth c H locs ls hx hb hml hr hown hlk hts hC hP hS hl
  exact lv_i2s hx hb hd rfl (k r m1 hv p e s m args below meth c H locs ls hx hb hml hr hown hlk hts hC hP hS hl)
theorem ev_dup {va : Value} (hd : decode cc pc = .ok (.dup, 1)) (hp : pc + 1 = q) (hva : va.category = 1) (k : EvR tv G cc nL ret own d q lv (va :: va :: st) mem o) : EvR tv G cc nL ret own d pc lv (va :: st) mem o := by
  subst hp
  intro r m1 hv p e s m args below meth c H locs ls hx hb hml hr hown hlk hts hC hP hS hl
  exact lv_dup hx hb hd hva (k r m1 hv p e s m args below meth c H locs ls hx hb hml hr hown hlk hts hC hP hS hl)
theorem ev_dup2_11 {va vb : Value} (hd : decode cc pc = .ok (.dup2, 1)) (hp : pc + 1 = q) (hva : va.category = 1) (hvb : vb.category = 1) (k : EvR tv G cc nL ret own d q lv (va :: vb :: va :: vb :: st) mem o) : EvR tv G cc nL ret own d pc lv (va :: vb :: st) mem o := by
  subst hp
  intro r m1 hv p e s m args below meth c H locs ls hx hb hml hr hown hlk hts hC hP hS hl
  exact lv_dup2_11 hx hb hd hva hvb (k r m1 hv p e s m args below meth c H locs ls hx hb hml hr hown hlk hts hC hP hS hl)
theorem ev_lcmp {x y : Int64} (hd : decode cc pc = .ok (.lcmp, 1)) (hp : pc + 1 = q)  (k : EvR tv G cc nL ret own d q lv (.int (lg_cmp x y) :: st) mem o) : EvR tv G cc nL ret own d pc lv (.long y :: .long x :: st) mem o := by
  subst hp
  intro r m1 hv p e s m args below meth c H locs ls hx hb hml hr hown hlk hts hC hP hS hl
  exact W.lcmp hx hb hd (k r m1 hv p e s m args below meth c H locs ls hx hb hml hr hown hlk hts hC hP hS hl)
theorem ev_idiv {x y : Int32} (hd : decode cc pc = .ok (.idiv, 1)) (hp : pc + 1 = q) (k : EvR tv G cc nL ret own d q lv (.int (x / y) :: st) mem o) : EvR tv G cc nL ret own d pc lv (.int y :: .int x :: st) mem (chk (¬ y = 0) o) := by
  subst hp
  refine ev_chk fun hne => ?_
  intro r m1 hv p e s m args below meth c H locs ls hx hb hml hr hown hlk hts hC hP hS hl
  exact lv_idiv hx hb hd hne (k r m1 hv p e s m args below meth c H locs ls hx hb hml hr hown hlk hts hC hP hS hl)
theorem ev_irem {x y : Int32} (hd : decode cc pc = .ok (.irem, 1)) (hp : pc + 1 = q) (k : EvR tv G cc nL ret own d q lv (.int (x - x / y * y) :: st) mem o) : EvR tv G cc nL ret own d pc lv (.int y :: .int x :: st) mem (chk (¬ y = 0) o) := by
  subst hp
  refine ev_chk fun hne => ?_
  intro r m1 hv p e s m args below meth c H locs ls hx hb hml hr hown hlk hts hC hP hS hl
  exact lv_irem hx hb hd hne (k r m1 hv p e s m args below meth c H locs ls hx hb hml hr hown hlk hts hC hP hS hl)
theorem ev_ldiv {x y : Int64} (hd : decode cc pc = .ok (.ldiv, 1)) (hp : pc + 1 = q) (k : EvR tv G cc nL ret own d q lv (.long (x / y) :: st) mem o) : EvR tv G cc nL ret own d pc lv (.long y :: .long x :: st) mem (chk (¬ y = 0) o) := by
  subst hp
  refine ev_chk fun hne => ?_
  intro r m1 hv p e s m args below meth c H locs ls hx hb hml hr hown hlk hts hC hP hS hl
  exact lv_ldiv hx hb hd hne (k r m1 hv p e s m args below meth c H locs ls hx hb hml hr hown hlk hts hC hP hS hl)
theorem ev_lrem {x y : Int64} (hd : decode cc pc = .ok (.lrem, 1)) (hp : pc + 1 = q) (k : EvR tv G cc nL ret own d q lv (.long (x - x / y * y) :: st) mem o) : EvR tv G cc nL ret own d pc lv (.long y :: .long x :: st) mem (chk (¬ y = 0) o) := by
  subst hp
  refine ev_chk fun hne => ?_
  intro r m1 hv p e s m args below meth c H locs ls hx hb hml hr hown hlk hts hC hP hS hl
  exact lv_lrem hx hb hd hne (k r m1 hv p e s m args below meth c H locs ls hx hb hml hr hown hlk hts hC hP hS hl)
theorem ev_iload_n {n : Fin 4} {i : Nat} {x : Int32} (hd : decode cc pc = .ok (.iload_n n, 1)) (hi : (n : Nat) = i) (j : Nat) (hp : pc + 1 = q) (hj : lv[j]? = some (i, .int x)) (k : EvR tv G cc nL ret own d q lv (.int x :: st) mem o) : EvR tv G cc nL ret own d pc lv st mem o := by
  subst hp
  intro r m1 hv p e s m args below meth c H locs ls hx hb hml hr hown hlk hts hC hP hS hl
  exact lv_iload_n hx hb hd hi (lv_at hl j hj) (k r m1 hv p e s m args below meth c H locs ls hx hb hml hr hown hlk hts hC hP hS hl)
theorem ev_iload {i : Nat} {x : Int32} (hd : decode cc pc = .ok (.iload i, 2)) (j : Nat) (hp : pc + 2 = q) (hj : lv[j]? = some (i, .int x)) (k : EvR tv G cc nL ret own d q lv (.int x :: st) mem o) : EvR tv G cc nL ret own d pc lv st mem o := by
  subst hp
  intro r m1 hv p e s m args below meth c H locs ls hx hb hml hr hown hlk hts hC hP hS hl
  exact lv_iload hx hb hd (lv_at hl j hj) (k r m1 hv p e s m args below meth c H locs ls hx hb hml hr hown hlk hts hC hP hS hl)
theorem ev_lload_n {n : Fin 4} {i : Nat} {x : Int64} (hd : decode cc pc = .ok (.lload_n n, 1)) (hi : (n : Nat) = i) (j : Nat) (hp : pc + 1 = q) (hj : lv[j]? = some (i, .long x)) (k : EvR tv G cc nL ret own d q lv (.long x :: st) mem o) : EvR tv G cc nL ret own d pc lv st mem o := by
  subst hp
  intro r m1 hv p e s m args below meth c H locs ls hx hb hml hr hown hlk hts hC hP hS hl
  exact lv_lload_n hx hb hd hi (lv_at hl j hj) (k r m1 hv p e s m args below meth c H locs ls hx hb hml hr hown hlk hts hC hP hS hl)
theorem ev_lload {i : Nat} {x : Int64} (hd : decode cc pc = .ok (.lload i, 2)) (j : Nat) (hp : pc + 2 = q) (hj : lv[j]? = some (i, .long x)) (k : EvR tv G cc nL ret own d q lv (.long x :: st) mem o) : EvR tv G cc nL ret own d pc lv st mem o := by
  subst hp
  intro r m1 hv p e s m args below meth c H locs ls hx hb hml hr hown hlk hts hC hP hS hl
  exact lv_lload hx hb hd (lv_at hl j hj) (k r m1 hv p e s m args below meth c H locs ls hx hb hml hr hown hlk hts hC hP hS hl)
theorem ev_aload_n {n : Fin 4} {i : Nat} {x : Nat} (hd : decode cc pc = .ok (.aload_n n, 1)) (hi : (n : Nat) = i) (j : Nat) (hp : pc + 1 = q) (hj : lv[j]? = some (i, .ref x)) (k : EvR tv G cc nL ret own d q lv (.ref x :: st) mem o) : EvR tv G cc nL ret own d pc lv st mem o := by
  subst hp
  intro r m1 hv p e s m args below meth c H locs ls hx hb hml hr hown hlk hts hC hP hS hl
  exact lv_aload_n hx hb hd hi (lv_at hl j hj) (k r m1 hv p e s m args below meth c H locs ls hx hb hml hr hown hlk hts hC hP hS hl)
theorem ev_aload {i : Nat} {x : Nat} (hd : decode cc pc = .ok (.aload i, 2)) (j : Nat) (hp : pc + 2 = q) (hj : lv[j]? = some (i, .ref x)) (k : EvR tv G cc nL ret own d q lv (.ref x :: st) mem o) : EvR tv G cc nL ret own d pc lv st mem o := by
  subst hp
  intro r m1 hv p e s m args below meth c H locs ls hx hb hml hr hown hlk hts hC hP hS hl
  exact lv_aload hx hb hd (lv_at hl j hj) (k r m1 hv p e s m args below meth c H locs ls hx hb hml hr hown hlk hts hC hP hS hl)
theorem ev_istore_n {n : Fin 4} {i : Nat} {x : Int32} (hd : decode cc pc = .ok (.istore_n n, 1)) (hi : (n : Nat) = i) (hp : pc + 1 = q) (hn : i < nL) (hf : (i, Value.int x) :: lv.filter (fun q => !(q.1 == i) && !(q.1 + 1 == i && q.2.category == 2)) = lv2) (k : EvR tv G cc nL ret own d q lv2 st mem o) : EvR tv G cc nL ret own d pc lv (.int x :: st) mem o := by
  subst hp
  intro r m1 hv p e s m args below meth c H locs ls hx hb hml hr hown hlk hts hC hP hS hl
  exact lv_istore_n hx hb hd hi hl hn hf (fun ls hl => k r m1 hv p e s m args below meth c H locs ls hx hb hml hr hown hlk hts hC hP hS hl)
theorem ev_istore {i : Nat} {x : Int32} (hd : decode cc pc = .ok (.istore i, 2)) (hp : pc + 2 = q) (hn : i < nL) (hf : (i, Value.int x) :: lv.filter (fun q => !(q.1 == i) && !(q.1 + 1 == i && q.2.category == 2)) = lv2) (k : EvR tv G cc nL ret own d q lv2 st mem o) : EvR tv G cc nL ret own d pc lv (.int x :: st) mem o := by
  subst hp
  intro r m1 hv p e s m args below meth c H locs ls hx hb hml hr hown hlk hts hC hP hS hl
  exact lv_istore hx hb hd hl hn hf (fun ls hl => k r m1 hv p e s m args below meth c H locs ls hx hb hml hr hown hlk hts hC hP hS hl)
theorem ev_lstore_n {n : Fin 4} {i : Nat} {x : Int64} (hd : decode cc pc = .ok (.lstore_n n, 1)) (hi : (n : Nat) = i) (hp : pc + 1 = q) (hn : i + 1 < nL) (hf : (i, Value.long x) :: lv.filter (fun q => !(q.1 == i) && (!(q.1 == i + 1) && !(q.1 + 1 == i && q.2.category == 2))) = lv2) (k : EvR tv G cc nL ret own d q lv2 st mem o) : EvR tv G cc nL ret own d pc lv (.long x :: st) mem o := by
  subst hp
  intro r m1 hv p e s m args below meth c H locs ls hx hb hml hr hown hlk hts hC hP hS hl
  exact lv_lstore_n hx hb hd hi hl hn hf (fun ls hl => k r m1 hv p e s m args below meth c H locs ls hx hb hml hr hown hlk hts hC hP hS hl)
theorem ev_lstore {i : Nat} {x : Int64} (hd : decode cc pc = .ok (.lstore i, 2)) (hp : pc + 2 = q) (hn : i + 1 < nL) (hf : (i, Value.long x) :: lv.filter (fun q => !(q.1 == i) && (!(q.1 == i + 1) && !(q.1 + 1 == i && q.2.category == 2))) = lv2) (k : EvR tv G cc nL ret own d q lv2 st mem o) : EvR tv G cc nL ret own d pc lv (.long x :: st) mem o := by
  subst hp
  intro r m1 hv p e s m args below meth c H locs ls hx hb hml hr hown hlk hts hC hP hS hl
  exact lv_lstore hx hb hd hl hn hf (fun ls hl => k r m1 hv p e s m args below meth c H locs ls hx hb hml hr hown hlk hts hC hP hS hl)
theorem ev_iinc {i : Nat} {n : Int} {x v : Int32} (hd : decode cc pc = .ok (.iinc i n, 3)) (j : Nat) (hp : pc + 3 = q) (hj : lv[j]? = some (i, .int x)) (hv0 : x + Int32.ofInt n = v) (hn : i < nL) (hf : (i, Value.int v) :: lv.filter (fun q => !(q.1 == i) && !(q.1 + 1 == i && q.2.category == 2)) = lv2) (k : EvR tv G cc nL ret own d q lv2 st mem o) : EvR tv G cc nL ret own d pc lv st mem o := by
  subst hp
  intro r m1 hv p e s m args below meth c H locs ls hx hb hml hr hown hlk hts hC hP hS hl
  exact lv_iinc hx hb hd hl hj hv0 hn hf (fun ls hl => k r m1 hv p e s m args below meth c H locs ls hx hb hml hr hown hlk hts hC hP hS hl)
theorem ev_goto {off : Int} {t : Nat} (hd : decode cc pc = .ok (.goto off, 3)) (ht : (pc : Int) + off = (t : Int)) (k : EvR tv G cc nL ret own d t lv st mem o) : EvR tv G cc nL ret own d pc lv st mem o := by
  intro r m1 hv p e s m args below meth c H locs ls hx hb hml hr hown hlk hts hC hP hS hl
  exact lv_goto hx hb hd ht (k r m1 hv p e s m args below meth c H locs ls hx hb hml hr hown hlk hts hC hP hS hl)
theorem ev_if_eq {x : Int32} {off : Int} {t : Nat} (hd : decode cc pc = .ok (.ifCond .eq off, 3)) (ht : (pc : Int) + off = (t : Int)) (hp : pc + 3 = q) (k1 : x = 0 → EvR tv G cc nL ret own d t lv st mem o) (k2 : ¬ (x = 0) → EvR tv G cc nL ret own d q lv st mem o2) : EvR tv G cc nL ret own d pc lv (.int x :: st) mem (if x = 0 then o else o2) := by
  subst hp
  intro r m1 hv p e s m args below meth c H locs ls hx hb hml hr hown hlk hts hC hP hS hl
  exact lv_if_eq hx hb hd ht (fun hc => (k1 hc) r m1 (by rw [if_pos hc] at hv; exact hv) p e s m args below meth c H locs ls hx hb hml hr hown hlk hts hC hP hS hl) (fun hc => (k2 hc) r m1 (by rw [if_neg hc] at hv; exact hv) p e s m args below meth c H locs ls hx hb hml hr hown hlk hts hC hP hS hl)
theorem ev_icmp_eq {x y : Int32} {off : Int} {t : Nat} (hd : decode cc pc = .ok (.if_icmp .eq off, 3)) (ht : (pc : Int) + off = (t : Int)) (hp : pc + 3 = q) (k1 : x = y → EvR tv G cc nL ret own d t lv st mem o) (k2 : ¬ (x = y) → EvR tv G cc nL ret own d q lv st mem o2) : EvR tv G cc nL ret own d pc lv (.int y :: .int x :: st) mem (if x = y then o else o2) := by
  subst hp
  intro r m1 hv p e s m args below meth c H locs ls hx hb hml hr hown hlk hts hC hP hS hl
  exact lv_icmp_eq hx hb hd ht (fun hc => (k1 hc) r m1 (by rw [if_pos hc] at hv; exact hv) p e s m args below meth c H locs ls hx hb hml hr hown hlk hts hC hP hS hl) (fun hc => (k2 hc) r m1 (by rw [if_neg hc] at hv; exact hv) p e s m args below meth c H locs ls hx hb hml hr hown hlk hts hC hP hS hl)
theorem ev_if_ne {x : Int32} {off : Int} {t : Nat} (hd : decode cc pc = .ok (.ifCond .ne off, 3)) (ht : (pc : Int) + off = (t : Int)) (hp : pc + 3 = q) (k2 : x = 0 → EvR tv G cc nL ret own d q lv st mem o2) (k1 : ¬ (x = 0) → EvR tv G cc nL ret own d t lv st mem o) : EvR tv G cc nL ret own d pc lv (.int x :: st) mem (if x = 0 then o2 else o) := by
  subst hp
  intro r m1 hv p e s m args below meth c H locs ls hx hb hml hr hown hlk hts hC hP hS hl
  exact lv_if_ne hx hb hd ht (fun hc => (k1 hc) r m1 (by rw [if_neg hc] at hv; exact hv) p e s m args below meth c H locs ls hx hb hml hr hown hlk hts hC hP hS hl) (fun hc => (k2 hc) r m1 (by rw [if_pos hc] at hv; exact hv) p e s m args below meth c H locs ls hx hb hml hr hown hlk hts hC hP hS hl)
theorem ev_icmp_ne {x y : Int32} {off : Int} {t : Nat} (hd : decode cc pc = .ok (.if_icmp .ne off, 3)) (ht : (pc : Int) + off = (t : Int)) (hp : pc + 3 = q) (k2 : x = y → EvR tv G cc nL ret own d q lv st mem o2) (k1 : ¬ (x = y) → EvR tv G cc nL ret own d t lv st mem o) : EvR tv G cc nL ret own d pc lv (.int y :: .int x :: st) mem (if x = y then o2 else o) := by
  subst hp
  intro r m1 hv p e s m args below meth c H locs ls hx hb hml hr hown hlk hts hC hP hS hl
  exact lv_icmp_ne hx hb hd ht (fun hc => (k1 hc) r m1 (by rw [if_neg hc] at hv; exact hv) p e s m args below meth c H locs ls hx hb hml hr hown hlk hts hC hP hS hl) (fun hc => (k2 hc) r m1 (by rw [if_pos hc] at hv; exact hv) p e s m args below meth c H locs ls hx hb hml hr hown hlk hts hC hP hS hl)
theorem ev_if_lt {x : Int32} {off : Int} {t : Nat} (hd : decode cc pc = .ok (.ifCond .lt off, 3)) (ht : (pc : Int) + off = (t : Int)) (hp : pc + 3 = q) (k1 : x < 0 → EvR tv G cc nL ret own d t lv st mem o) (k2 : ¬ (x < 0) → EvR tv G cc nL ret own d q lv st mem o2) : EvR tv G cc nL ret own d pc lv (.int x :: st) mem (if x < 0 then o else o2) := by
  subst hp
  intro r m1 hv p e s m args below meth c H locs ls hx hb hml hr hown hlk hts hC hP hS hl
  exact lv_if_lt hx hb hd ht (fun hc => (k1 hc) r m1 (by rw [if_pos hc] at hv; exact hv) p e s m args below meth c H locs ls hx hb hml hr hown hlk hts hC hP hS hl) (fun hc => (k2 hc) r m1 (by rw [if_neg hc] at hv; exact hv) p e s m args below meth c H locs ls hx hb hml hr hown hlk hts hC hP hS hl)
theorem ev_icmp_lt {x y : Int32} {off : Int} {t : Nat} (hd : decode cc pc = .ok (.if_icmp .lt off, 3)) (ht : (pc : Int) + off = (t : Int)) (hp : pc + 3 = q) (k1 : x < y → EvR tv G cc nL ret own d t lv st mem o) (k2 : ¬ (x < y) → EvR tv G cc nL ret own d q lv st mem o2) : EvR tv G cc nL ret own d pc lv (.int y :: .int x :: st) mem (if x < y then o else o2) := by
  subst hp
  intro r m1 hv p e s m args below meth c H locs ls hx hb hml hr hown hlk hts hC hP hS hl
  exact lv_icmp_lt hx hb hd ht (fun hc => (k1 hc) r m1 (by rw [if_pos hc] at hv; exact hv) p e s m args below meth c H locs ls hx hb hml hr hown hlk hts hC hP hS hl) (fun hc => (k2 hc) r m1 (by rw [if_neg hc] at hv; exact hv) p e s m args below meth c H locs ls hx hb hml hr hown hlk hts hC hP hS hl)
theorem ev_if_ge {x : Int32} {off : Int} {t : Nat} (hd : decode cc pc = .ok (.ifCond .ge off, 3)) (ht : (pc : Int) + off = (t : Int)) (hp : pc + 3 = q) (k2 : x < 0 → EvR tv G cc nL ret own d q lv st mem o2) (k1 : ¬ (x < 0) → EvR tv G cc nL ret own d t lv st mem o) : EvR tv G cc nL ret own d pc lv (.int x :: st) mem (if x < 0 then o2 else o) := by
  subst hp
  intro r m1 hv p e s m args below meth c H locs ls hx hb hml hr hown hlk hts hC hP hS hl
  exact lv_if_ge hx hb hd ht (fun hc => (k1 (by first | exact Int32.not_lt.mpr hc)) r m1 (by rw [if_neg (by first | exact Int32.not_lt.mpr hc)] at hv; exact hv) p e s m args below meth c H locs ls hx hb hml hr hown hlk hts hC hP hS hl) (fun hc => (k2 (by first | exact Int32.not_le.mp hc)) r m1 (by rw [if_pos (by first | exact Int32.not_le.mp hc)] at hv; exact hv) p e s m args below meth c H locs ls hx hb hml hr hown hlk hts hC hP hS hl)
theorem ev_icmp_ge {x y : Int32} {off : Int} {t : Nat} (hd : decode cc pc = .ok (.if_icmp .ge off, 3)) (ht : (pc : Int) + off = (t : Int)) (hp : pc + 3 = q) (k2 : x < y → EvR tv G cc nL ret own d q lv st mem o2) (k1 : ¬ (x < y) → EvR tv G cc nL ret own d t lv st mem o) : EvR tv G cc nL ret own d pc lv (.int y :: .int x :: st) mem (if x < y then o2 else o) := by
  subst hp
  intro r m1 hv p e s m args below meth c H locs ls hx hb hml hr hown hlk hts hC hP hS hl
  exact lv_icmp_ge hx hb hd ht (fun hc => (k1 (by first | exact Int32.not_lt.mpr hc)) r m1 (by rw [if_neg (by first | exact Int32.not_lt.mpr hc)] at hv; exact hv) p e s m args below meth c H locs ls hx hb hml hr hown hlk hts hC hP hS hl) (fun hc => (k2 (by first | exact Int32.not_le.mp hc)) r m1 (by rw [if_pos (by first | exact Int32.not_le.mp hc)] at hv; exact hv) p e s m args below meth c H locs ls hx hb hml hr hown hlk hts hC hP hS hl)
theorem ev_if_gt {x : Int32} {off : Int} {t : Nat} (hd : decode cc pc = .ok (.ifCond .gt off, 3)) (ht : (pc : Int) + off = (t : Int)) (hp : pc + 3 = q) (k1 : 0 < x → EvR tv G cc nL ret own d t lv st mem o) (k2 : ¬ (0 < x) → EvR tv G cc nL ret own d q lv st mem o2) : EvR tv G cc nL ret own d pc lv (.int x :: st) mem (if 0 < x then o else o2) := by
  subst hp
  intro r m1 hv p e s m args below meth c H locs ls hx hb hml hr hown hlk hts hC hP hS hl
  exact lv_if_gt hx hb hd ht (fun hc => (k1 hc) r m1 (by rw [if_pos hc] at hv; exact hv) p e s m args below meth c H locs ls hx hb hml hr hown hlk hts hC hP hS hl) (fun hc => (k2 hc) r m1 (by rw [if_neg hc] at hv; exact hv) p e s m args below meth c H locs ls hx hb hml hr hown hlk hts hC hP hS hl)
theorem ev_icmp_gt {x y : Int32} {off : Int} {t : Nat} (hd : decode cc pc = .ok (.if_icmp .gt off, 3)) (ht : (pc : Int) + off = (t : Int)) (hp : pc + 3 = q) (k1 : y < x → EvR tv G cc nL ret own d t lv st mem o) (k2 : ¬ (y < x) → EvR tv G cc nL ret own d q lv st mem o2) : EvR tv G cc nL ret own d pc lv (.int y :: .int x :: st) mem (if y < x then o else o2) := by
  subst hp
  intro r m1 hv p e s m args below meth c H locs ls hx hb hml hr hown hlk hts hC hP hS hl
  exact lv_icmp_gt hx hb hd ht (fun hc => (k1 hc) r m1 (by rw [if_pos hc] at hv; exact hv) p e s m args below meth c H locs ls hx hb hml hr hown hlk hts hC hP hS hl) (fun hc => (k2 hc) r m1 (by rw [if_neg hc] at hv; exact hv) p e s m args below meth c H locs ls hx hb hml hr hown hlk hts hC hP hS hl)
theorem ev_if_le {x : Int32} {off : Int} {t : Nat} (hd : decode cc pc = .ok (.ifCond .le off, 3)) (ht : (pc : Int) + off = (t : Int)) (hp : pc + 3 = q) (k2 : 0 < x → EvR tv G cc nL ret own d q lv st mem o2) (k1 : ¬ (0 < x) → EvR tv G cc nL ret own d t lv st mem o) : EvR tv G cc nL ret own d pc lv (.int x :: st) mem (if 0 < x then o2 else o) := by
  subst hp
  intro r m1 hv p e s m args below meth c H locs ls hx hb hml hr hown hlk hts hC hP hS hl
  exact lv_if_le hx hb hd ht (fun hc => (k1 (Int32.not_lt.mpr hc)) r m1 (by rw [if_neg (Int32.not_lt.mpr hc)] at hv; exact hv) p e s m args below meth c H locs ls hx hb hml hr hown hlk hts hC hP hS hl) (fun hc => (k2 (Int32.not_le.mp hc)) r m1 (by rw [if_pos (Int32.not_le.mp hc)] at hv; exact hv) p e s m args below meth c H locs ls hx hb hml hr hown hlk hts hC hP hS hl)
theorem ev_icmp_le {x y : Int32} {off : Int} {t : Nat} (hd : decode cc pc = .ok (.if_icmp .le off, 3)) (ht : (pc : Int) + off = (t : Int)) (hp : pc + 3 = q) (k2 : y < x → EvR tv G cc nL ret own d q lv st mem o2) (k1 : ¬ (y < x) → EvR tv G cc nL ret own d t lv st mem o) : EvR tv G cc nL ret own d pc lv (.int y :: .int x :: st) mem (if y < x then o2 else o) := by
  subst hp
  intro r m1 hv p e s m args below meth c H locs ls hx hb hml hr hown hlk hts hC hP hS hl
  exact lv_icmp_le hx hb hd ht (fun hc => (k1 (Int32.not_lt.mpr hc)) r m1 (by rw [if_neg (Int32.not_lt.mpr hc)] at hv; exact hv) p e s m args below meth c H locs ls hx hb hml hr hown hlk hts hC hP hS hl) (fun hc => (k2 (Int32.not_le.mp hc)) r m1 (by rw [if_pos (Int32.not_le.mp hc)] at hv; exact hv) p e s m args below meth c H locs ls hx hb hml hr hown hlk hts hC hP hS hl)
theorem ev_ldc {index : Nat} {v : Int32} (hd : decode cc pc = .ok (.ldc index, 2)) (hp : pc + 2 = q) (hw : Cond.constant own index v ∈ AW) (k : EvR tv G cc nL ret own d q lv (.int v :: st) mem o) : EvR tv G cc nL ret own d pc lv st mem o := by
  subst hp
  intro r m1 hv p e s m args below meth c H locs ls hx hb hml hr hown hlk hts hC hP hS hl
  exact lv_ldc hx hb hown (hts _ hw) hd (k r m1 hv p e s m args below meth c H locs ls hx hb hml hr hown hlk hts hC hP hS hl)
theorem ev_ldcw {index : Nat} {v : Int32} (hd : decode cc pc = .ok (.ldc_w index, 3)) (hp : pc + 3 = q) (hw : Cond.constant own index v ∈ AW) (k : EvR tv G cc nL ret own d q lv (.int v :: st) mem o) : EvR tv G cc nL ret own d pc lv st mem o := by
  subst hp
  intro r m1 hv p e s m args below meth c H locs ls hx hb hml hr hown hlk hts hC hP hS hl
  exact lv_ldcw hx hb hown (hts _ hw) hd (k r m1 hv p e s m args below meth c H locs ls hx hb hml hr hown hlk hts hC hP hS hl)
theorem ev_ldc2 {index : Nat} {v : Int64} (hd : decode cc pc = .ok (.ldc2_w index, 3)) (hp : pc + 3 = q) (hw : Cond.constantLong own index v ∈ AW) (k : EvR tv G cc nL ret own d q lv (.long v :: st) mem o) : EvR tv G cc nL ret own d pc lv st mem o := by
  subst hp
  intro r m1 hv p e s m args below meth c H locs ls hx hb hml hr hown hlk hts hC hP hS hl
  exact lv_ldc2 hx hb hown (hts _ hw) hd (k r m1 hv p e s m args below meth c H locs ls hx hb hml hr hown hlk hts hC hP hS hl)
-- switches: one arm at a time
theorem ev_tsIn {dflt lo hi : Int} {offs : Array Int} {len : Nat} {x : Int32} {off : Int} {t : Nat} (hd : decode cc pc = .ok (.tableswitch dflt lo hi offs, len)) (h1 : ¬ x.toInt < lo) (h2 : ¬ hi < x.toInt) (ho : offs[(x.toInt - lo).toNat]? = some off) (ht : (pc : Int) + off = (t : Int)) (k : EvR tv G cc nL ret own d t lv st mem o) : EvR tv G cc nL ret own d pc lv (.int x :: st) mem o := by
  intro r m1 hv p e s m args below meth c H locs ls hx hb hml hr hown hlk hts hC hP hS hl
  exact lv_tableIn hx hb hd h1 h2 ho ht (k r m1 hv p e s m args below meth c H locs ls hx hb hml hr hown hlk hts hC hP hS hl)
theorem ev_tsOut {dflt lo hi : Int} {offs : Array Int} {len : Nat} {x : Int32} {t : Nat} (hd : decode cc pc = .ok (.tableswitch dflt lo hi offs, len)) (h : x.toInt < lo ∨ hi < x.toInt) (ht : (pc : Int) + dflt = (t : Int)) (k : EvR tv G cc nL ret own d t lv st mem o) : EvR tv G cc nL ret own d pc lv (.int x :: st) mem o := by
  intro r m1 hv p e s m args below meth c H locs ls hx hb hml hr hown hlk hts hC hP hS hl
  exact lv_tableOut hx hb hd h ht (k r m1 hv p e s m args below meth c H locs ls hx hb hml hr hown hlk hts hC hP hS hl)
theorem ev_look {dflt : Int} {ps : Array (Int × Int)} {len : Nat} {x : Int32} {off : Int} {t : Nat} (hd : decode cc pc = .ok (.lookupswitch dflt ps, len)) (hp : (ps.toList.zip (ps.toList.drop 1)).all (fun (a, next) => a.1 < next.1) = true) (ho : Op.lookupswitch.offset ps.toList dflt x.toInt = off) (ht : (pc : Int) + off = (t : Int)) (k : EvR tv G cc nL ret own d t lv st mem o) : EvR tv G cc nL ret own d pc lv (.int x :: st) mem o := by
  intro r m1 hv p e s m args below meth c H locs ls hx hb hml hr hown hlk hts hC hP hS hl
  exact lv_lookup hx hb hd hp ho ht (k r m1 hv p e s m args below meth c H locs ls hx hb hml hr hown hlk hts hC hP hS hl)
-- fields
theorem ev_getV {index : Nat} {C : String} {T : u_T} {ci k0 j : Nat} {v : Value} (hd : decode cc pc = .ok (.getfield index, 3)) (hp : pc + 3 = q) (F : CF ci C T) (hk : kd k0 = ci) (hj : j < nf ci) (hci : ci < 100) (hL : FL own index (T j).1 (T j).2.1 (T j).2.2.1) (hv0 : fV G k0 (mem k0) j = v) (k : EvR tv G cc nL ret own d q lv (v :: st) mem o) : EvR tv G cc nL ret own d pc lv (.ref (gA G k0) :: st) mem o := by
  subst hp
  intro r m1 hv p e s m args below meth c H locs ls hx hb hml hr hown hlk hts hC hP hS hl
  obtain ⟨hc, hin, -, -⟩ := F
  have he := cells_at (G := G) (mem := mem) (kd_lt hk (by omega))
  rw [cellE_o hk hci] at he
  have hfs := fs_at (G := G) (k := k0) (row := mem k0) hj
  rw [hv0] at hfs
  rcases hL with h | ⟨host, h⟩
  · exact va_get hx hb hts hin hown hC.1 hP k0 he hc j hj (hts _ h) (fun x h => h) hfs hd (k r m1 hv p e s m args below meth c H locs ls hx hb hml hr hown hlk hts hC hP hS hl)
  · exact va_getN hx hb hts hin hown hC.1 hP k0 he hc j hj (va_Nw.use (by first | rfl | decide) (hC.2.1 _ h)) (fun x h => h) hfs hd (k r m1 hv p e s m args below meth c H locs ls hx hb hml hr hown hlk hts hC hP hS hl)
theorem ev_getI {index : Nat} {C : String} {T : u_T} {ci k0 j : Nat} (hd : decode cc pc = .ok (.getfield index, 3)) (hp : pc + 3 = q) (F : CF ci C T) (hk : kd k0 = ci) (hj : j < nf ci) (hci : ci < 100) (hL : FL own index (T j).1 (T j).2.1 (T j).2.2.1) (hi : ir ci j = false) (k : EvR tv G cc nL ret own d q lv (.int (mem k0 j) :: st) mem o) : EvR tv G cc nL ret own d pc lv (.ref (gA G k0) :: st) mem o :=
  ev_getV hd hp F hk hj hci hL (by unfold fV; rw [hk, hi]; rfl) k
theorem ev_getR {index : Nat} {C : String} {T : u_T} {ci k0 j : Nat} (hd : decode cc pc = .ok (.getfield index, 3)) (hp : pc + 3 = q) (F : CF ci C T) (hk : kd k0 = ci) (hj : j < nf ci) (hci : ci < 100) (hL : FL own index (T j).1 (T j).2.1 (T j).2.2.1) (hi : ir ci j = true) (k : EvR tv G cc nL ret own d q lv (.ref (gA G (rf k0 j)) :: st) mem o) : EvR tv G cc nL ret own d pc lv (.ref (gA G k0) :: st) mem o :=
  ev_getV hd hp F hk hj hci hL (by unfold fV; rw [hk, hi]; rfl) k
theorem ev_putV {index : Nat} {C : String} {T : u_T} {ci k0 j : Nat} {x : Int32} {ty : FieldType} (hd : decode cc pc = .ok (.putfield index, 3)) (hp : pc + 3 = q) (F : CF ci C T) (hk : kd k0 = ci) (hj : j < nf ci) (hci : ci < 100) (hL : FL own index (T j).1 (T j).2.1 (T j).2.2.1) (hi : ir ci j = false) (hfin : (T j).2.2.2 = false) (hty : parseFieldDescriptor (T j).2.2.1 = some ty) (hn : narrow ty (.int x) = .int x) (hfit : fits ty (.int x) = true) (k : EvR tv G cc nL ret own d q lv st (st2 mem k0 j x) o) : EvR tv G cc nL ret own d pc lv (.int x :: .ref (gA G k0) :: st) mem o := by
  subst hp
  intro r m1 hv p e s m args below meth c H locs ls hx hb hml hr hown hlk hts hC hP hS hl
  obtain ⟨hc, hin, ⟨ty0, hty0⟩, hnm⟩ := F
  have hlt := kd_lt hk (by omega)
  have he := cells_at (G := G) (mem := mem) hlt
  rw [cellE_o hk hci] at he
  have fin : ∀ (H1 : Heap) (locs1 : List Loc), va_P (gD G) vwCl ((cells G mem).set k0 (gA G k0, .inr (ci, ((List.range (nf ci)).map (fV G k0 (mem k0))).set j (.int x)))) H1 → va_S (gF G) s.heap H1 locs1 → W p (gL G) e (rmOf d) s m args below meth c H1 locs1 0 0 (MQ below (EQ G (tv r) m1) args s 0 0 (gF G)) (F0 m (pc + 3) ls st) := by
    intro H1 locs1 hP1 hS1
    rw [fs_set hk hi, ← cellE_o (G := G) hk hci, cells_set hlt] at hP1
    exact k r m1 hv p e s m args below meth c H1 locs1 ls hx hb hml hr hown hlk hts hC hP1 hS1 hl
  rcases hL with h | ⟨host, h⟩
  · exact va_put hx hb hts hin ty0 hty0 hnm hown hC.1 hP (hC.D mem) hS k0 he hc j hj (hts _ h) (fun x h => h) hfin hty hn hfit (by simp; exact hj) hd (fun H1 locs1 hP1 _ hS1 => fin H1 locs1 hP1 hS1)
  · exact va_putN hx hb hts hin ty0 hty0 hnm hown hC.1 hP (hC.D mem) hS k0 he hc j hj (va_Nw.use (by first | rfl | decide) (hC.2.1 _ h)) (fun x h => h) hfin hty hn hfit (by simp; exact hj) hd (fun H1 locs1 hP1 _ hS1 => fin H1 locs1 hP1 hS1)
theorem ev_putI {index : Nat} {C : String} {T : u_T} {ci k0 j : Nat} {x : Int32} (hd : decode cc pc = .ok (.putfield index, 3)) (hp : pc + 3 = q) (F : CF ci C T) (hk : kd k0 = ci) (hj : j < nf ci) (hci : ci < 100) (hL : FL own index (T j).1 (T j).2.1 (T j).2.2.1) (hi : ir ci j = false) (hfin : (T j).2.2.2 = false) (hty : parseFieldDescriptor (T j).2.2.1 = some .int) (k : EvR tv G cc nL ret own d q lv st (st2 mem k0 j x) o) : EvR tv G cc nL ret own d pc lv (.int x :: .ref (gA G k0) :: st) mem o :=
  ev_putV hd hp F hk hj hci hL hi hfin hty rfl rfl k
theorem bool_fits {x : Int32} (h : x &&& 1 = x) : fits .boolean (.int x) = true := by
  have h2 : x.toBitVec &&& 1#32 = x.toBitVec := congrArg Int32.toBitVec h
  have h3 : x.toBitVec = 0#32 ∨ x.toBitVec = 1#32 := by
    have h4 := congrArg BitVec.toNat h2
    rw [BitVec.toNat_and, show (1#32).toNat = 1 from rfl, Nat.and_one_is_mod] at h4
    rcases (show x.toBitVec.toNat = 0 ∨ x.toBitVec.toNat = 1 by omega) with h5 | h5
    · exact Or.inl (BitVec.eq_of_toNat_eq h5)
    · exact Or.inr (BitVec.eq_of_toNat_eq h5)
  show (x == 0 || x == 1) = true
  rcases h3 with h3 | h3
  · rw [show x = 0 from Int32.toBitVec_inj.mp h3]; rfl
  · rw [show x = 1 from Int32.toBitVec_inj.mp h3]; rfl
theorem ev_putZ {index : Nat} {C : String} {T : u_T} {ci k0 j : Nat} {x : Int32} (hd : decode cc pc = .ok (.putfield index, 3)) (hp : pc + 3 = q) (F : CF ci C T) (hk : kd k0 = ci) (hj : j < nf ci) (hci : ci < 100) (hL : FL own index (T j).1 (T j).2.1 (T j).2.2.1) (hi : ir ci j = false) (hfin : (T j).2.2.2 = false) (hty : parseFieldDescriptor (T j).2.2.1 = some .boolean) (k : EvR tv G cc nL ret own d q lv st (st2 mem k0 j x) o) : EvR tv G cc nL ret own d pc lv (.int x :: .ref (gA G k0) :: st) mem (chk (x &&& 1 = x) o) :=
  ev_chk fun h => ev_putV hd hp F hk hj hci hL hi hfin hty (by show Value.int (x &&& 1) = .int x; rw [h]) (bool_fits h) k
-- rows
theorem ev_iald {k0 : Nat} {i : Int32} {f : Int32 → Option (ρ × Mem)} (hd : decode cc pc = .ok (.iaload, 1)) (hp : pc + 1 = q) (hk : kd k0 = 100) (k : ∀ z : Int32, EvR tv G cc nL ret own d q lv (.int z :: st) mem (f z)) : EvR tv G cc nL ret own d pc lv (.int i :: .ref (gA G k0) :: st) mem (ald mem k0 i f) := by
  subst hp
  intro r m1 hv p e s m args below meth c H locs ls hx hb hml hr hown hlk hts hC hP hS hl
  unfold ald at hv
  split at hv
  · rename_i hin
    have he := cells_at (G := G) (mem := mem) (kd_lt hk (by decide))
    rw [cellE_i hk] at he
    exact va_iald hx hb hC.1 hP k0 0 he rfl (inB_in hin) hd ((k _) r m1 hv p e s m args below meth c H locs ls hx hb hml hr hown hlk hts hC hP hS hl)
  · cases hv
theorem ev_zald {k0 : Nat} {i : Int32} {f : Int32 → Option (ρ × Mem)} (hd : decode cc pc = .ok (.baload, 1)) (hp : pc + 1 = q) (hk : kd k0 = 101) (k : ∀ z : Int32, EvR tv G cc nL ret own d q lv (.int z :: st) mem (f z)) : EvR tv G cc nL ret own d pc lv (.int i :: .ref (gA G k0) :: st) mem (ald mem k0 i f) := by
  subst hp
  intro r m1 hv p e s m args below meth c H locs ls hx hb hml hr hown hlk hts hC hP hS hl
  unfold ald at hv
  split at hv
  · rename_i hin
    have he := cells_at (G := G) (mem := mem) (kd_lt hk (by decide))
    rw [cellE_z hk] at he
    exact va_zald hx hb hC.1 hP k0 1 he rfl (inB_in hin) hd ((k _) r m1 hv p e s m args below meth c H locs ls hx hb hml hr hown hlk hts hC hP hS hl)
  · cases hv
theorem ev_iast {k0 : Nat} {i x : Int32} {f : Mem → Option (ρ × Mem)} (hd : decode cc pc = .ok (.iastore, 1)) (hp : pc + 1 = q) (hk : kd k0 = 100) (k : ∀ m' : Mem, EvR tv G cc nL ret own d q lv st m' (f m')) : EvR tv G cc nL ret own d pc lv (.int x :: .int i :: .ref (gA G k0) :: st) mem (ast mem k0 i x f) := by
  subst hp
  intro r m1 hv p e s m args below meth c H locs ls hx hb hml hr hown hlk hts hC hP hS hl
  unfold ast at hv
  split at hv
  · rename_i hin
    have hlt := kd_lt hk (by decide)
    have he := cells_at (G := G) (mem := mem) hlt
    rw [cellE_i hk] at he
    refine va_iast hx hb hC.1 hP (hC.D mem) hS k0 0 he rfl (inB_in hin) hd fun H1 locs1 hP1 _ hS1 => ?_
    rw [← cellE_i (G := G) hk, cells_set hlt] at hP1
    exact (k _) r m1 hv p e s m args below meth c H1 locs1 ls hx hb hml hr hown hlk hts hC hP1 hS1 hl
  · cases hv
theorem ev_zast {k0 : Nat} {i x : Int32} {f : Mem → Option (ρ × Mem)} (hd : decode cc pc = .ok (.bastore, 1)) (hp : pc + 1 = q) (hk : kd k0 = 101) (k : ∀ m' : Mem, EvR tv G cc nL ret own d q lv st m' (f m')) : EvR tv G cc nL ret own d pc lv (.int x :: .int i :: .ref (gA G k0) :: st) mem (ast mem k0 i (vp_nar .boolean x) f) := by
  subst hp
  intro r m1 hv p e s m args below meth c H locs ls hx hb hml hr hown hlk hts hC hP hS hl
  unfold ast at hv
  split at hv
  · rename_i hin
    have hlt := kd_lt hk (by decide)
    have he := cells_at (G := G) (mem := mem) hlt
    rw [cellE_z hk] at he
    refine va_zast hx hb hC.1 hP (hC.D mem) hS k0 1 he rfl (inB_in hin) hd fun H1 locs1 hP1 _ hS1 => ?_
    rw [← cellE_z (G := G) hk, cells_set hlt] at hP1
    exact (k _) r m1 hv p e s m args below meth c H1 locs1 ls hx hb hml hr hown hlk hts hC hP1 hS1 hl
  · cases hv
theorem ev_alen {k0 : Nat} (hd : decode cc pc = .ok (.arraylength, 1)) (hp : pc + 1 = q) (hk : kd k0 = 100) (k : EvR tv G cc nL ret own d q lv (.int (Int32.ofNat (ln k0)) :: st) mem o) : EvR tv G cc nL ret own d pc lv (.ref (gA G k0) :: st) mem o := by
  subst hp
  intro r m1 hv p e s m args below meth c H locs ls hx hb hml hr hown hlk hts hC hP hS hl
  have he := cells_at (G := G) (mem := mem) (kd_lt hk (by decide))
  rw [cellE_i hk] at he
  exact va_alen hx hb hC.1 hP k0 0 he rfl rfl hd (k r m1 hv p e s m args below meth c H locs ls hx hb hml hr hown hlk hts hC hP hS hl)
-- ends
theorem ev_iret {v : Int32} (hd : decode cc pc = .ok (.ireturn, 1)) (hr0 : ret = some .int) : EvR tvI G cc nL ret own d pc lv [.int v] mem (some (v, mem)) := by
  intro r m1 hv p e s m args below meth c H locs ls hx hb hml hr hown hlk hts hC hP hS hl
  cases hv
  exact W.iret hx hb (hr.trans hr0) (fun t ht hW => ⟨⟨rfl, ⟨by rw [ht]; exact hP, hC.moved hW (locs := locs) (by rw [ht]; exact hS)⟩⟩, hS.F ht⟩) hS.2.2 hd
theorem ev_zret {v : Int32} (hd : decode cc pc = .ok (.ireturn, 1)) (hr0 : ret = some .boolean) : EvR tvI G cc nL ret own d pc lv [.int v] mem (chk (v &&& 1 = v) (some (v, mem))) := by
  refine ev_chk fun hn => ?_
  intro r m1 hv p e s m args below meth c H locs ls hx hb hml hr hown hlk hts hC hP hS hl
  cases hv
  exact W.zret hx hb (hr.trans hr0) (by show Value.int (v &&& 1) = .int v; rw [hn]) (fun t ht hW => ⟨⟨rfl, ⟨by rw [ht]; exact hP, hC.moved hW (locs := locs) (by rw [ht]; exact hS)⟩⟩, hS.F ht⟩) hS.2.2 hd
theorem ev_vret (hd : decode cc pc = .ok (.return_, 1)) (hr0 : ret = none) : EvR tvU G cc nL ret own d pc lv [] mem (some ((), mem)) := by
  intro r m1 hv p e s m args below meth c H locs ls hx hb hml hr hown hlk hts hC hP hS hl
  cases hv
  exact W.vret hx hb (hr.trans hr0) (fun t ht hW => ⟨⟨rfl, ⟨by rw [ht]; exact hP, hC.moved hW (locs := locs) (by rw [ht]; exact hS)⟩⟩, hS.F ht⟩) hS.2.2 hd
theorem ev_aret {k0 : Nat} {C : String} (hd : decode cc pc = .ok (.areturn, 1)) (hr0 : ret = some (.object C)) : EvR (tvR G) G cc nL ret own d pc lv [.ref (gA G k0)] mem (some (k0, mem)) := by
  intro r m1 hv p e s m args below meth c H locs ls hx hb hml hr hown hlk hts hC hP hS hl
  cases hv
  exact W.aret hx hb (hr.trans hr0) (Or.inl ⟨_, rfl⟩) (Or.inr ⟨_, rfl⟩) (fun t ht hW => ⟨⟨rfl, ⟨by rw [ht]; exact hP, hC.moved hW (locs := locs) (by rw [ht]; exact hS)⟩⟩, hS.F ht⟩) hS.2.2 hd
-- static rows
theorem ev_gets {index t : Nat} {C n dsc : String} (hd : decode cc pc = .ok (.getstatic index, 3)) (hp : pc + 3 = q) (hL : Cond.fieldLink own index C n dsc ∈ AW) (hZ : ∀ U H, Ctx G U H → va_Z C n dsc (.ref t) (gF G) U H) (k : EvR tv G cc nL ret own d q lv (.ref t :: st) mem o) : EvR tv G cc nL ret own d pc lv st mem o := by
  subst hp
  intro r m1 hv p e s m args below meth c H locs ls hx hb hml hr hown hlk hts hC hP hS hl
  exact va_gets hx hb (hZ _ _ hC) hS hown (hts _ hL) (fun x h => h) hd (k r m1 hv p e s m args below meth c H locs ls hx hb hml hr hown hlk hts hC hP hS hl)
theorem ev_tld {t n : Nat} {g : Nat → Int32} {i : Int32} {f : Int32 → Option (ρ × Mem)} (hd : decode cc pc = .ok (.iaload, 1)) (hp : pc + 1 = q) (hT : ∀ U H, Ctx G U H → va_T .int t n (fun j => .int (g j)) (gF G) U H) (k : ∀ z : Int32, EvR tv G cc nL ret own d q lv (.int z :: st) mem (f z)) : EvR tv G cc nL ret own d pc lv (.int i :: .ref t :: st) mem (sld g n i f) := by
  subst hp
  intro r m1 hv p e s m args below meth c H locs ls hx hb hml hr hown hlk hts hC hP hS hl
  unfold sld at hv
  split at hv
  · rename_i hin
    obtain ⟨cell, h1, h2, h3, h4, h5, h6, h7⟩ := (hT _ _ hC).kept hS.2.1
    have hin2 := inB_in hin
    have hlt : i.toNatClampNeg < n := Nat.not_le.mp fun q => hin2 (Or.inr q)
    refine W.iald (v := .int (g i.toNatClampNeg)) hx hb h1 h2 h3 (fun z => ?_) (h6 _ hlt) rfl rfl hd ((k _) r m1 hv p e s m args below meth c H locs ls hx hb hml hr hown hlk hts hC hP hS hl)
    rcases z with z | z
    · exact hin2 (Or.inl z)
    · exact hin2 (Or.inr (Nat.le_trans h4 z))
  · cases hv
end RULES
section CALLS
variable {ρ : Type} {tv : ρ → Option Value} {G : Gt} {cc : ByteArray} {nL : Nat} {ret : Option FieldType} {own : String} {d : Nat} {pc q : Nat} {lv lv2 : List (Nat × Value)} {st stk : List Value} {mem : Mem} {o : Option (ρ × Mem)}
variable {ρ2 : Type} {tv2 : ρ2 → Option Value} {y : MethodName} {bytes : ByteArray} {maxL : Nat} {ret2 : Option FieldType} {d2 n index : Nat} {As vs : List Value} {o2 : Option (ρ2 × Mem)} {f : ρ2 → Mem → Option (ρ × Mem)}
theorem con_of (hy : plainName y.cls = true) (hn : (lg_sl vs).length ≤ nL) (h : EvR tv G cc nL ret y.cls d 0 (lv_args 0 vs) [] mem o) : Con tv G y cc nL ret d vs mem o := by
  intro r m1 hv
  refine Met.ofW (cc := cc) (maxL := nL) (ret := ret) hy rfl ?_
  intro p e s m args below meth c s₁ B hml hpc
  obtain ⟨rfl, hP, hC⟩ := hpc
  have hts0 := atoms_spec (ws := Cond.code y cc nL ret :: AW) B.pre
  have hl := lv_entry vs (n := nL) hn
  rw [lg_entry_eq]
  generalize (lg_sl vs ++ List.replicate (nL - (lg_sl vs).length) Slot.unset).toArray = ls at hl ⊢
  exact h r m1 hv p e s m _ below meth c s.heap [] ls B.exec B.bytes hml B.returns (findClass_of_methodNamed B.named) B.notSynchronized (fun w hw => hts0 w (List.mem_cons_of_mem _ hw)) hC hP va_S.rf hl
theorem pc_blind : FrameBlind (va_Pc vs (World G mem)) := fun a U g mk h => ⟨h.1, h.2.1, h.2.2.same rfl rfl⟩
theorem pc_pre {s : State} {H : Heap} {locs : List Loc} (hC : Ctx G s s.heap) (hP : va_P (gD G) vwCl (cells G mem) H) (hS : va_S (gF G) s.heap H locs) : ∀ U : State, U.heap = H → s.WarmedH U.vm → va_Pc vs (World G mem) vs.toArray U := fun U hU hW => ⟨rfl, by rw [hU]; exact hP, hC.moved hW (locs := locs) (by rw [hU]; exact hS)⟩
theorem ev_run (hp : pc + 3 = q) {As2 : Array Value}
    (hrun : ∀ (r2 : ρ2) (m2 : Mem), o2 = some (r2, m2) → ∀ (p : Program) (e : Env) (s : State) (m : MethodId) (args : Array Value) (below : List Frame) (meth : Method) (c : Code) (H : Heap) (locs : List Loc) (ls : Array Slot),
      p.tables.exec = Jvm.exec → c.code = cc → c.maxLocals = nL → s.vm.findClass own = some m.cls → (∀ w ∈ AW, w.before args s = true) → Ctx G s s.heap → va_P (gD G) vwCl (cells G mem) H → va_S (gF G) s.heap H locs → lv_has ls nL lv →
      va_Run p (gL G) e (rmOf d) s m args below meth c H locs 0 0 0 0 (F0 m pc ls stk) st (EQ G (tv2 r2) m2 As2) (gF G))
    (k : ∀ (r2 : ρ2) (m2 : Mem), EvR tv G cc nL ret own d q lv ((tv2 r2).toList ++ st) m2 (f r2 m2)) : EvR tv G cc nL ret own d pc lv stk mem (cll o2 f) := by
  subst hp
  intro r m1 hv p e s m args below meth c H locs ls hx hb hml hr hown hlk hts hC hP hS hl
  obtain ⟨r2, m2, e2, e3⟩ := cll_some hv
  have hR := hrun r2 m2 e2 p e s m args below meth c H locs ls hx hb hml hown hts hC hP hS hl
  intro T hT X
  obtain ⟨v, st₀, t, T', L, h0, X', hL, e1, e4, ⟨⟨hvv, hW⟩, hz, hk⟩, go⟩ := hR T hT X
  cases hvv
  rw [h0] at hz hk
  have hS1 : va_S (gF G) s.heap T'.heap (locs ++ L) := ⟨Nat.le_trans hS.1 (by rw [e1]; exact hz), fun q h1 h2 => by rw [e1, hk q (Nat.lt_of_lt_of_le h1 hS.1) h2]; exact hS.2.1 q h1 h2, fun q hq => by
      rcases List.mem_append.mp hq with h | h
      · exact hS.2.2 q h
      · exact hL q h⟩
  obtain ⟨t2, a1, b1⟩ := k r2 m2 r m1 e3 p e s m args below meth c T'.heap (locs ++ L) ls hx hb hml hr hown hlk hts hC (by rw [e1]; exact hW.1) hS1 hl T' rfl X'
  exact ⟨t2, go t2 a1, b1⟩
theorem ev_callV {C : String} {T : u_T} {ci b : Nat} (hd : decode cc pc = .ok (.invokevirtual index, 3)) (hp : pc + 3 = q) (hL : Cond.methodLink own index y ∈ AW) (hM : MTV y bytes maxL ret2 n) (F : CF ci C T) (hC0 : y.cls = C) (hk : kd b = ci) (hci : ci < 100) (hc : Con tv2 G y bytes maxL ret2 d2 (.ref (gA G b) :: As) mem o2) (hn : As.length = n) (hdd : d2 + 1 ≤ d) (hmx : maxL ≤ 40) (hst : stk = As.reverse ++ .ref (gA G b) :: st) (hcat : (st.map fun v => v.category).sum ≤ 8)
    (k : ∀ (r2 : ρ2) (m2 : Mem), EvR tv G cc nL ret own d q lv ((tv2 r2).toList ++ st) m2 (f r2 m2)) : EvR tv G cc nL ret own d pc lv stk mem (cll o2 f) := by
  refine ev_run hp (As2 := (Value.ref (gA G b) :: As).toArray) (fun r2 m2 e2 p e s m args below meth c H locs ls hx hb hml hown hts hC hP hS hl => ?_) k
  subst hC0
  obtain ⟨hc0, -⟩ := F
  obtain ⟨w1, w2, w3, w4, w5⟩ := hM
  have he := cells_at (G := G) (mem := mem) (kd_lt hk (by omega))
  rw [cellE_o hk hci] at he
  refine va_runV (As := As) (rest := st) (n := n) (C := y.cls) ⟨hx, hb, hml, hown, hts⟩ (hc r2 m2 e2) (cwV n hts (goodAW fun w hw => ?_) rfl rfl rfl ⟨rfl, w5⟩ ⟨hdd, ?_⟩) ⟨pc_blind, va_recv hC.1 hP hc0 he, pc_pre hC hP hS⟩ rfl hn hl.1 hst (lv_room hcat) hd ⟨Nat.zero_le _, Nat.zero_le _⟩
  · simp only [wsV, List.cons_append, List.nil_append, List.mem_cons] at hw
    rcases hw with rfl | rfl | rfl | rfl | rfl | hw
    · exact hL
    · exact w2
    · exact w3
    · exact w4
    · exact w1
    · exact hw
  · show 8 + (maxL + 11) + 64 * d2 ≤ 64 * d
    omega
theorem ev_callVN {C : String} {T : u_T} {ci b : Nat} {host : String} (hd : decode cc pc = .ok (.invokevirtual index, 3)) (hp : pc + 3 = q) (hL : Cond.methodLinkNest own index y host ∈ NW) (hM : MTV y bytes maxL ret2 n) (F : CF ci C T) (hC0 : y.cls = C) (hk : kd b = ci) (hci : ci < 100) (hc : Con tv2 G y bytes maxL ret2 d2 (.ref (gA G b) :: As) mem o2) (hn : As.length = n) (hdd : d2 + 1 ≤ d) (hmx : maxL ≤ 40) (hst : stk = As.reverse ++ .ref (gA G b) :: st) (hcat : (st.map fun v => v.category).sum ≤ 8)
    (k : ∀ (r2 : ρ2) (m2 : Mem), EvR tv G cc nL ret own d q lv ((tv2 r2).toList ++ st) m2 (f r2 m2)) : EvR tv G cc nL ret own d pc lv stk mem (cll o2 f) := by
  refine ev_run hp (As2 := (Value.ref (gA G b) :: As).toArray) (fun r2 m2 e2 p e s m args below meth c H locs ls hx hb hml hown hts hC hP hS hl => ?_) k
  subst hC0
  obtain ⟨hc0, -⟩ := F
  obtain ⟨w1, w2, w3, w4, w5⟩ := hM
  have he := cells_at (G := G) (mem := mem) (kd_lt hk (by omega))
  rw [cellE_o hk hci] at he
  refine va_runVN (As := As) (rest := st) (n := n) (C := y.cls) ⟨hx, hb, hml, hown, hts⟩ (hc r2 m2 e2) ⟨va_cnB n hts (goodAW fun w hw => ?_) rfl rfl rfl (hC.2.1 _ hL) (hts _ w4) w5 ⟨hdd, ?_⟩, hts _ w2, hts _ w3⟩ ⟨pc_blind, va_recv hC.1 hP hc0 he, pc_pre hC hP hS⟩ rfl hn hl.1 hst (lv_room hcat) hd ⟨Nat.zero_le _, Nat.zero_le _⟩
  · rcases List.mem_cons.mp hw with rfl | hw
    · exact w1
    · exact hw
  · show 8 + (maxL + 11) + 64 * d2 ≤ 64 * d
    omega
theorem ev_callS (hd : decode cc pc = .ok (.invokestatic index, 3)) (hp : pc + 3 = q) (hL : Cond.methodLink own index y ∈ AW) (hM : MTS y bytes maxL ret2 n) (hc : Con tv2 G y bytes maxL ret2 d2 As mem o2) (hn : As.length = n) (hdd : d2 + 1 ≤ d) (hmx : maxL ≤ 40) (hst : stk = As.reverse ++ st) (hcat : (st.map fun v => v.category).sum ≤ 8)
    (k : ∀ (r2 : ρ2) (m2 : Mem), EvR tv G cc nL ret own d q lv ((tv2 r2).toList ++ st) m2 (f r2 m2)) : EvR tv G cc nL ret own d pc lv stk mem (cll o2 f) := by
  refine ev_run hp (As2 := As.toArray) (fun r2 m2 e2 p e s m args below meth c H locs ls hx hb hml hown hts hC hP hS hl => ?_) k
  obtain ⟨w1, w2, w4, w5⟩ := hM
  refine va_runS (As := As) (rest := st) (n := n) ⟨hx, hb, hml, hown, hts⟩ (hc r2 m2 e2) (va_cwS n hts (goodAW fun w hw => ?_) rfl rfl rfl w5 ⟨hdd, ?_⟩) ⟨pc_blind, pc_pre hC hP hS⟩ rfl hn hl.1 hst (lv_room hcat) hd ⟨Nat.zero_le _, Nat.zero_le _⟩
  · simp only [va_wsS, List.cons_append, List.nil_append, List.mem_cons] at hw
    rcases hw with rfl | rfl | rfl | rfl | hw
    · exact hL
    · exact w2
    · exact w4
    · exact w1
    · exact hw
  · show 8 + (maxL + 11) + 64 * d2 ≤ 64 * d
    omega
theorem ev_callSN {host : String} (hd : decode cc pc = .ok (.invokestatic index, 3)) (hp : pc + 3 = q) (hL : Cond.methodLinkNest own index y host ∈ NW) (hM : MTS y bytes maxL ret2 n) (hc : Con tv2 G y bytes maxL ret2 d2 As mem o2) (hn : As.length = n) (hdd : d2 + 1 ≤ d) (hmx : maxL ≤ 40) (hst : stk = As.reverse ++ st) (hcat : (st.map fun v => v.category).sum ≤ 8)
    (k : ∀ (r2 : ρ2) (m2 : Mem), EvR tv G cc nL ret own d q lv ((tv2 r2).toList ++ st) m2 (f r2 m2)) : EvR tv G cc nL ret own d pc lv stk mem (cll o2 f) := by
  refine ev_run hp (As2 := As.toArray) (fun r2 m2 e2 p e s m args below meth c H locs ls hx hb hml hown hts hC hP hS hl => ?_) k
  obtain ⟨w1, w2, w4, w5⟩ := hM
  refine va_runSN (As := As) (rest := st) (n := n) ⟨hx, hb, hml, hown, hts⟩ (hc r2 m2 e2) ⟨va_cnB n hts (goodAW fun w hw => ?_) rfl rfl rfl (hC.2.1 _ hL) (hts _ w4) w5 ⟨hdd, ?_⟩, hts _ w2, trivial⟩ ⟨pc_blind, pc_pre hC hP hS⟩ rfl hn hl.1 hst (lv_room hcat) hd ⟨Nat.zero_le _, Nat.zero_le _⟩
  · rcases List.mem_cons.mp hw with rfl | hw
    · exact w1
    · exact hw
  · show 8 + (maxL + 11) + 64 * d2 ≤ 64 * d
    omega
/-- the JDK's copy of a row's part -/
def acp {α : Type} (mem : Mem) (k0 : Nat) (sp : Int32) (k1 : Nat) (dp n : Int32) (f : Mem → Option α) : Option α :=
  if (¬ sp < 0 ∧ ¬ dp < 0 ∧ ¬ n < 0) ∧ sp.toNatClampNeg + n.toNatClampNeg ≤ ln k0 ∧ dp.toNatClampNeg + n.toNatClampNeg ≤ ln k1 then f (st1 mem k1 (va_cpy (mem k0) (mem k1) sp.toNatClampNeg dp.toNatClampNeg n.toNatClampNeg)) else none
theorem ev_copy {k0 k1 : Nat} {sp dp n : Int32} {f : Mem → Option (ρ × Mem)} (hd : decode cc pc = .ok (.invokestatic index, 3)) (hp : pc + 3 = q) (hL : Cond.methodLink own index arraycopyName ∈ AW) (w1 : Cond.native arraycopyName ∈ AW) (w2 : Cond.static arraycopyName ∈ AW) (w3 : Cond.initialized "java/lang/System" ∈ AW) (h0 : kd k0 = 100) (h1 : kd k1 = 100) (hdd : 2 ≤ d) (hcat : (st.map fun v => v.category).sum ≤ 8) (k : ∀ m' : Mem, EvR tv G cc nL ret own d q lv st m' (f m')) : EvR tv G cc nL ret own d pc lv (.int n :: .int dp :: .ref (gA G k1) :: .int sp :: .ref (gA G k0) :: st) mem (acp mem k0 sp k1 dp n f) := by
  subst hp
  intro r m1 hv p e s m args below meth c H locs ls hx hb hml hr hown hlk hts hC hP hS hl
  unfold acp at hv
  split at hv
  · rename_i hin
    obtain ⟨⟨a1, a2, a3⟩, a4, a5⟩ := hin
    have hlt := kd_lt h1 (by decide)
    have he := cells_at (G := G) (mem := mem) (kd_lt h0 (by decide))
    rw [cellE_i h0] at he
    have he1 := cells_at (G := G) (mem := mem) hlt
    rw [cellE_i h1] at he1
    refine va_copyi hx hb (hml.trans hl.1.symm) hown (hts _ hL) (hts _ w1) (hts _ w2) (hts _ w3) hC.1 hP (hC.D mem) hS k0 k1 0 0 he he1 rfl rfl rfl a1 a2 a3 a4 a5 (fun _ _ => rfl) ?_ ?_ hd fun H1 locs1 hP1 _ hS1 => ?_
    · show 1 ≤ d
      omega
    · show _ ≤ 64 * d
      have : nativeFrameWords "java/lang/System" "arraycopy" 5 + 11 ≤ 100 := by decide
      omega
    rw [← cellE_i (G := G) h1, cells_set hlt] at hP1
    exact (k _) r m1 hv p e s m args below meth c H1 locs1 ls hx hb hml hr hown hlk hts hC hP1 hS1 hl
  · cases hv
end CALLS
end
