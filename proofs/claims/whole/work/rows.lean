section
-- ===== PART A: goes FIRST, ahead of the names: the tables' words, and 'selects' of the private methods out of them =====
/-- a private method of a class that the tables say can be made, by its rows of tables_1 -/
def lw_okq (q : MethodName × Nat) : Prop := (q.1.cls ≠ "java/lang/invoke/MethodHandle" ∧ q.1.cls ≠ "java/lang/invoke/VarHandle") ∧ Cond.instantiable q.1.cls q.2 ∈ tables_1 ∧ Cond.privateMethod q.1 ∈ tables_1 ∧ Cond.instanceMethod q.1 ∈ tables_1
theorem lw_p0 : lw_okq (⟨"ToldOver", "refuseRow", "(II)I"⟩, 11) := ⟨⟨by decide +kernel, by decide +kernel⟩, List.mem_of_getElem? (i := 17) (by decide +kernel), List.mem_of_getElem? (i := 284) (by decide +kernel), List.mem_of_getElem? (i := 285) (by decide +kernel)⟩
theorem lw_p1 : lw_okq (⟨"ToldOver$Sheets", "areThere", "(III)Z"⟩, 3) := ⟨⟨by decide +kernel, by decide +kernel⟩, List.mem_of_getElem? (i := 25) (by decide +kernel), List.mem_of_getElem? (i := 303) (by decide +kernel), List.mem_of_getElem? (i := 304) (by decide +kernel)⟩
theorem lw_p2 : lw_okq (⟨"ToldOver", "comeTo", "(I)I"⟩, 11) := ⟨⟨by decide +kernel, by decide +kernel⟩, List.mem_of_getElem? (i := 17) (by decide +kernel), List.mem_of_getElem? (i := 307) (by decide +kernel), List.mem_of_getElem? (i := 308) (by decide +kernel)⟩
theorem lw_p3 : lw_okq (⟨"ToldOver$Reader", "takesSign", "(I)Z"⟩, 7) := ⟨⟨by decide +kernel, by decide +kernel⟩, List.mem_of_getElem? (i := 48) (by decide +kernel), List.mem_of_getElem? (i := 319) (by decide +kernel), List.mem_of_getElem? (i := 320) (by decide +kernel)⟩
theorem lw_p4 : lw_okq (⟨"ToldOver$Reader", "takeDigit", "(II)I"⟩, 7) := ⟨⟨by decide +kernel, by decide +kernel⟩, List.mem_of_getElem? (i := 48) (by decide +kernel), List.mem_of_getElem? (i := 323) (by decide +kernel), List.mem_of_getElem? (i := 324) (by decide +kernel)⟩
theorem lw_p5 : lw_okq (⟨"ToldOver$Reader", "takesTable", "(II)Z"⟩, 7) := ⟨⟨by decide +kernel, by decide +kernel⟩, List.mem_of_getElem? (i := 48) (by decide +kernel), List.mem_of_getElem? (i := 327) (by decide +kernel), List.mem_of_getElem? (i := 328) (by decide +kernel)⟩
theorem lw_p6 : lw_okq (⟨"ToldOver$Reader", "takesWord", "([II)Z"⟩, 7) := ⟨⟨by decide +kernel, by decide +kernel⟩, List.mem_of_getElem? (i := 48) (by decide +kernel), List.mem_of_getElem? (i := 331) (by decide +kernel), List.mem_of_getElem? (i := 332) (by decide +kernel)⟩
theorem lw_p7 : lw_okq (⟨"ToldOver$Tongues", "takeWord", "([II)V"⟩, 3) := ⟨⟨by decide +kernel, by decide +kernel⟩, List.mem_of_getElem? (i := 80) (by decide +kernel), List.mem_of_getElem? (i := 346) (by decide +kernel), List.mem_of_getElem? (i := 347) (by decide +kernel)⟩
theorem lw_p8 : lw_okq (⟨"ToldOver", "isWord", "(I)Z"⟩, 11) := ⟨⟨by decide +kernel, by decide +kernel⟩, List.mem_of_getElem? (i := 17) (by decide +kernel), List.mem_of_getElem? (i := 362) (by decide +kernel), List.mem_of_getElem? (i := 363) (by decide +kernel)⟩
theorem lw_p9 : lw_okq (⟨"ToldOver", "isWordOrNothing", "(I)Z"⟩, 11) := ⟨⟨by decide +kernel, by decide +kernel⟩, List.mem_of_getElem? (i := 17) (by decide +kernel), List.mem_of_getElem? (i := 366) (by decide +kernel), List.mem_of_getElem? (i := 367) (by decide +kernel)⟩
theorem lw_p10 : lw_okq (⟨"ToldOver$Hearing", "saidAndHeard", "(III)I"⟩, 4) := ⟨⟨by decide +kernel, by decide +kernel⟩, List.mem_of_getElem? (i := 144) (by decide +kernel), List.mem_of_getElem? (i := 512) (by decide +kernel), List.mem_of_getElem? (i := 513) (by decide +kernel)⟩
theorem lw_p11 : lw_okq (⟨"ToldOver$Hearing", "passing", "(IIII)I"⟩, 4) := ⟨⟨by decide +kernel, by decide +kernel⟩, List.mem_of_getElem? (i := 144) (by decide +kernel), List.mem_of_getElem? (i := 516) (by decide +kernel), List.mem_of_getElem? (i := 517) (by decide +kernel)⟩
theorem lw_p12 : lw_okq (⟨"ToldOver", "refusesHeard", "(IIII)Z"⟩, 11) := ⟨⟨by decide +kernel, by decide +kernel⟩, List.mem_of_getElem? (i := 17) (by decide +kernel), List.mem_of_getElem? (i := 526) (by decide +kernel), List.mem_of_getElem? (i := 527) (by decide +kernel)⟩
theorem lw_p13 : lw_okq (⟨"ToldOver$Protocol", "weighOne", "(I)V"⟩, 4) := ⟨⟨by decide +kernel, by decide +kernel⟩, List.mem_of_getElem? (i := 185) (by decide +kernel), List.mem_of_getElem? (i := 599) (by decide +kernel), List.mem_of_getElem? (i := 600) (by decide +kernel)⟩
theorem lw_p14 : lw_okq (⟨"ToldOver$Protocol", "minutesOf", "(I)I"⟩, 4) := ⟨⟨by decide +kernel, by decide +kernel⟩, List.mem_of_getElem? (i := 185) (by decide +kernel), List.mem_of_getElem? (i := 616) (by decide +kernel), List.mem_of_getElem? (i := 617) (by decide +kernel)⟩
theorem lw_p15 : lw_okq (⟨"ToldOver$Protocol", "isBetter", "(II)Z"⟩, 4) := ⟨⟨by decide +kernel, by decide +kernel⟩, List.mem_of_getElem? (i := 185) (by decide +kernel), List.mem_of_getElem? (i := 620) (by decide +kernel), List.mem_of_getElem? (i := 621) (by decide +kernel)⟩
def lw_privs_1 : List (MethodName × Nat) := [(⟨"ToldOver", "refuseRow", "(II)I"⟩, 11), (⟨"ToldOver$Sheets", "areThere", "(III)Z"⟩, 3), (⟨"ToldOver", "comeTo", "(I)I"⟩, 11), (⟨"ToldOver$Reader", "takesSign", "(I)Z"⟩, 7), (⟨"ToldOver$Reader", "takeDigit", "(II)I"⟩, 7), (⟨"ToldOver$Reader", "takesTable", "(II)Z"⟩, 7), (⟨"ToldOver$Reader", "takesWord", "([II)Z"⟩, 7), (⟨"ToldOver$Tongues", "takeWord", "([II)V"⟩, 3), (⟨"ToldOver", "isWord", "(I)Z"⟩, 11), (⟨"ToldOver", "isWordOrNothing", "(I)Z"⟩, 11), (⟨"ToldOver$Hearing", "saidAndHeard", "(III)I"⟩, 4), (⟨"ToldOver$Hearing", "passing", "(IIII)I"⟩, 4), (⟨"ToldOver", "refusesHeard", "(IIII)Z"⟩, 11), (⟨"ToldOver$Protocol", "weighOne", "(I)V"⟩, 4), (⟨"ToldOver$Protocol", "minutesOf", "(I)I"⟩, 4), (⟨"ToldOver$Protocol", "isBetter", "(II)Z"⟩, 4)]
theorem lw_r1 : ∀ q ∈ lw_privs_1, lw_okq q := List.forall_mem_cons.mpr ⟨lw_p0, List.forall_mem_cons.mpr ⟨lw_p1, List.forall_mem_cons.mpr ⟨lw_p2, List.forall_mem_cons.mpr ⟨lw_p3, List.forall_mem_cons.mpr ⟨lw_p4, List.forall_mem_cons.mpr ⟨lw_p5, List.forall_mem_cons.mpr ⟨lw_p6, List.forall_mem_cons.mpr ⟨lw_p7, List.forall_mem_cons.mpr ⟨lw_p8, List.forall_mem_cons.mpr ⟨lw_p9, List.forall_mem_cons.mpr ⟨lw_p10, List.forall_mem_cons.mpr ⟨lw_p11, List.forall_mem_cons.mpr ⟨lw_p12, List.forall_mem_cons.mpr ⟨lw_p13, List.forall_mem_cons.mpr ⟨lw_p14, List.forall_mem_cons.mpr ⟨lw_p15, fun _ h => absurd h List.not_mem_nil⟩⟩⟩⟩⟩⟩⟩⟩⟩⟩⟩⟩⟩⟩⟩⟩
theorem lw_p16 : lw_okq (⟨"ToldOver$Protocol", "gainOf", "(I)I"⟩, 4) := ⟨⟨by decide +kernel, by decide +kernel⟩, List.mem_of_getElem? (i := 185) (by decide +kernel), List.mem_of_getElem? (i := 624) (by decide +kernel), List.mem_of_getElem? (i := 625) (by decide +kernel)⟩
theorem lw_p17 : lw_okq (⟨"ToldOver$Shifts", "workMinute", "(IJ)V"⟩, 4) := ⟨⟨by decide +kernel, by decide +kernel⟩, List.mem_of_getElem? (i := 208) (by decide +kernel), List.mem_of_getElem? (i := 641) (by decide +kernel), List.mem_of_getElem? (i := 642) (by decide +kernel)⟩
theorem lw_p18 : lw_okq (⟨"ToldOver$Shifts", "workFirst", "(II)V"⟩, 4) := ⟨⟨by decide +kernel, by decide +kernel⟩, List.mem_of_getElem? (i := 208) (by decide +kernel), List.mem_of_getElem? (i := 645) (by decide +kernel), List.mem_of_getElem? (i := 646) (by decide +kernel)⟩
theorem lw_p19 : lw_okq (⟨"ToldOver$Shifts", "workSecond", "(IIJ)V"⟩, 4) := ⟨⟨by decide +kernel, by decide +kernel⟩, List.mem_of_getElem? (i := 208) (by decide +kernel), List.mem_of_getElem? (i := 665) (by decide +kernel), List.mem_of_getElem? (i := 666) (by decide +kernel)⟩
theorem lw_p20 : lw_okq (⟨"ToldOver$Crew", "toldBySworn", "(I)I"⟩, 4) := ⟨⟨by decide +kernel, by decide +kernel⟩, List.mem_of_getElem? (i := 100) (by decide +kernel), List.mem_of_getElem? (i := 742) (by decide +kernel), List.mem_of_getElem? (i := 743) (by decide +kernel)⟩
theorem lw_p21 : lw_okq (⟨"ToldOver$Crew", "mark", "(I)V"⟩, 4) := ⟨⟨by decide +kernel, by decide +kernel⟩, List.mem_of_getElem? (i := 100) (by decide +kernel), List.mem_of_getElem? (i := 746) (by decide +kernel), List.mem_of_getElem? (i := 747) (by decide +kernel)⟩
theorem lw_p22 : lw_okq (⟨"ToldOver$Crew", "toldByTrained", "(I)I"⟩, 4) := ⟨⟨by decide +kernel, by decide +kernel⟩, List.mem_of_getElem? (i := 100) (by decide +kernel), List.mem_of_getElem? (i := 750) (by decide +kernel), List.mem_of_getElem? (i := 751) (by decide +kernel)⟩
theorem lw_p23 : lw_okq (⟨"ToldOver$Crew", "toldByKin", "(I)I"⟩, 4) := ⟨⟨by decide +kernel, by decide +kernel⟩, List.mem_of_getElem? (i := 100) (by decide +kernel), List.mem_of_getElem? (i := 754) (by decide +kernel), List.mem_of_getElem? (i := 755) (by decide +kernel)⟩
theorem lw_p24 : lw_okq (⟨"ToldOverModel", "against", "(IIII)I"⟩, 28) := ⟨⟨by decide +kernel, by decide +kernel⟩, List.mem_of_getElem? (i := 782) (by decide +kernel), List.mem_of_getElem? (i := 886) (by decide +kernel), List.mem_of_getElem? (i := 887) (by decide +kernel)⟩
theorem lw_p25 : lw_okq (⟨"ToldOverModel", "fails", "(I)I"⟩, 28) := ⟨⟨by decide +kernel, by decide +kernel⟩, List.mem_of_getElem? (i := 782) (by decide +kernel), List.mem_of_getElem? (i := 890) (by decide +kernel), List.mem_of_getElem? (i := 891) (by decide +kernel)⟩
theorem lw_p26 : lw_okq (⟨"ToldOverModel", "readTongues", "(I)Z"⟩, 28) := ⟨⟨by decide +kernel, by decide +kernel⟩, List.mem_of_getElem? (i := 782) (by decide +kernel), List.mem_of_getElem? (i := 894) (by decide +kernel), List.mem_of_getElem? (i := 895) (by decide +kernel)⟩
theorem lw_p27 : lw_okq (⟨"ToldOverModel", "isCode", "(II)Z"⟩, 28) := ⟨⟨by decide +kernel, by decide +kernel⟩, List.mem_of_getElem? (i := 782) (by decide +kernel), List.mem_of_getElem? (i := 898) (by decide +kernel), List.mem_of_getElem? (i := 899) (by decide +kernel)⟩
theorem lw_p28 : lw_okq (⟨"ToldOverModel", "digitAt", "(II)I"⟩, 28) := ⟨⟨by decide +kernel, by decide +kernel⟩, List.mem_of_getElem? (i := 782) (by decide +kernel), List.mem_of_getElem? (i := 902) (by decide +kernel), List.mem_of_getElem? (i := 903) (by decide +kernel)⟩
theorem lw_p29 : lw_okq (⟨"ToldOverModel", "readRows", "(III)Z"⟩, 28) := ⟨⟨by decide +kernel, by decide +kernel⟩, List.mem_of_getElem? (i := 782) (by decide +kernel), List.mem_of_getElem? (i := 906) (by decide +kernel), List.mem_of_getElem? (i := 907) (by decide +kernel)⟩
theorem lw_p30 : lw_okq (⟨"ToldOverModel", "isWord", "(I)Z"⟩, 28) := ⟨⟨by decide +kernel, by decide +kernel⟩, List.mem_of_getElem? (i := 782) (by decide +kernel), List.mem_of_getElem? (i := 914) (by decide +kernel), List.mem_of_getElem? (i := 915) (by decide +kernel)⟩
theorem lw_p31 : lw_okq (⟨"ToldOverModel", "isEnd", "(I)Z"⟩, 28) := ⟨⟨by decide +kernel, by decide +kernel⟩, List.mem_of_getElem? (i := 782) (by decide +kernel), List.mem_of_getElem? (i := 918) (by decide +kernel), List.mem_of_getElem? (i := 919) (by decide +kernel)⟩
def lw_privs_2 : List (MethodName × Nat) := [(⟨"ToldOver$Protocol", "gainOf", "(I)I"⟩, 4), (⟨"ToldOver$Shifts", "workMinute", "(IJ)V"⟩, 4), (⟨"ToldOver$Shifts", "workFirst", "(II)V"⟩, 4), (⟨"ToldOver$Shifts", "workSecond", "(IIJ)V"⟩, 4), (⟨"ToldOver$Crew", "toldBySworn", "(I)I"⟩, 4), (⟨"ToldOver$Crew", "mark", "(I)V"⟩, 4), (⟨"ToldOver$Crew", "toldByTrained", "(I)I"⟩, 4), (⟨"ToldOver$Crew", "toldByKin", "(I)I"⟩, 4), (⟨"ToldOverModel", "against", "(IIII)I"⟩, 28), (⟨"ToldOverModel", "fails", "(I)I"⟩, 28), (⟨"ToldOverModel", "readTongues", "(I)Z"⟩, 28), (⟨"ToldOverModel", "isCode", "(II)Z"⟩, 28), (⟨"ToldOverModel", "digitAt", "(II)I"⟩, 28), (⟨"ToldOverModel", "readRows", "(III)Z"⟩, 28), (⟨"ToldOverModel", "isWord", "(I)Z"⟩, 28), (⟨"ToldOverModel", "isEnd", "(I)Z"⟩, 28)]
theorem lw_r2 : ∀ q ∈ lw_privs_2, lw_okq q := List.forall_mem_cons.mpr ⟨lw_p16, List.forall_mem_cons.mpr ⟨lw_p17, List.forall_mem_cons.mpr ⟨lw_p18, List.forall_mem_cons.mpr ⟨lw_p19, List.forall_mem_cons.mpr ⟨lw_p20, List.forall_mem_cons.mpr ⟨lw_p21, List.forall_mem_cons.mpr ⟨lw_p22, List.forall_mem_cons.mpr ⟨lw_p23, List.forall_mem_cons.mpr ⟨lw_p24, List.forall_mem_cons.mpr ⟨lw_p25, List.forall_mem_cons.mpr ⟨lw_p26, List.forall_mem_cons.mpr ⟨lw_p27, List.forall_mem_cons.mpr ⟨lw_p28, List.forall_mem_cons.mpr ⟨lw_p29, List.forall_mem_cons.mpr ⟨lw_p30, List.forall_mem_cons.mpr ⟨lw_p31, fun _ h => absurd h List.not_mem_nil⟩⟩⟩⟩⟩⟩⟩⟩⟩⟩⟩⟩⟩⟩⟩⟩
theorem lw_p32 : lw_okq (⟨"ToldOverModel", "meantBy", "(II)I"⟩, 28) := ⟨⟨by decide +kernel, by decide +kernel⟩, List.mem_of_getElem? (i := 782) (by decide +kernel), List.mem_of_getElem? (i := 935) (by decide +kernel), List.mem_of_getElem? (i := 936) (by decide +kernel)⟩
theorem lw_p33 : lw_okq (⟨"ToldOverModel", "isInterpreter", "(I)Z"⟩, 28) := ⟨⟨by decide +kernel, by decide +kernel⟩, List.mem_of_getElem? (i := 782) (by decide +kernel), List.mem_of_getElem? (i := 951) (by decide +kernel), List.mem_of_getElem? (i := 952) (by decide +kernel)⟩
theorem lw_p34 : lw_okq (⟨"ToldOverModel", "carried", "(IIII)I"⟩, 28) := ⟨⟨by decide +kernel, by decide +kernel⟩, List.mem_of_getElem? (i := 782) (by decide +kernel), List.mem_of_getElem? (i := 963) (by decide +kernel), List.mem_of_getElem? (i := 964) (by decide +kernel)⟩
theorem lw_p35 : lw_okq (⟨"ToldOverModel", "plainly", "(IIII)I"⟩, 28) := ⟨⟨by decide +kernel, by decide +kernel⟩, List.mem_of_getElem? (i := 782) (by decide +kernel), List.mem_of_getElem? (i := 967) (by decide +kernel), List.mem_of_getElem? (i := 968) (by decide +kernel)⟩
theorem lw_p36 : lw_okq (⟨"ToldOverModel", "lost", "(I)J"⟩, 28) := ⟨⟨by decide +kernel, by decide +kernel⟩, List.mem_of_getElem? (i := 782) (by decide +kernel), List.mem_of_getElem? (i := 980) (by decide +kernel), List.mem_of_getElem? (i := 981) (by decide +kernel)⟩
theorem lw_p37 : lw_okq (⟨"ToldOverModel", "carryOn", "(II)V"⟩, 28) := ⟨⟨by decide +kernel, by decide +kernel⟩, List.mem_of_getElem? (i := 782) (by decide +kernel), List.mem_of_getElem? (i := 987) (by decide +kernel), List.mem_of_getElem? (i := 988) (by decide +kernel)⟩
theorem lw_p38 : lw_okq (⟨"ToldOverModel", "readWitness", "(I)Z"⟩, 28) := ⟨⟨by decide +kernel, by decide +kernel⟩, List.mem_of_getElem? (i := 782) (by decide +kernel), List.mem_of_getElem? (i := 999) (by decide +kernel), List.mem_of_getElem? (i := 1000) (by decide +kernel)⟩
theorem lw_p39 : lw_okq (⟨"ToldOverModel", "answered", "(II)I"⟩, 28) := ⟨⟨by decide +kernel, by decide +kernel⟩, List.mem_of_getElem? (i := 782) (by decide +kernel), List.mem_of_getElem? (i := 1007) (by decide +kernel), List.mem_of_getElem? (i := 1008) (by decide +kernel)⟩
theorem lw_p40 : lw_okq (⟨"ToldOverModel", "allWords", "()I"⟩, 28) := ⟨⟨by decide +kernel, by decide +kernel⟩, List.mem_of_getElem? (i := 782) (by decide +kernel), List.mem_of_getElem? (i := 1016) (by decide +kernel), List.mem_of_getElem? (i := 1017) (by decide +kernel)⟩
theorem lw_p41 : lw_okq (⟨"ToldOverModel", "times", "(IIIII)I"⟩, 28) := ⟨⟨by decide +kernel, by decide +kernel⟩, List.mem_of_getElem? (i := 782) (by decide +kernel), List.mem_of_getElem? (i := 1020) (by decide +kernel), List.mem_of_getElem? (i := 1021) (by decide +kernel)⟩
theorem lw_p42 : lw_okq (⟨"ToldOverModel", "isAsked", "(III)Z"⟩, 28) := ⟨⟨by decide +kernel, by decide +kernel⟩, List.mem_of_getElem? (i := 782) (by decide +kernel), List.mem_of_getElem? (i := 1032) (by decide +kernel), List.mem_of_getElem? (i := 1033) (by decide +kernel)⟩
theorem lw_p43 : lw_okq (⟨"ToldOverModel", "saidBy", "(I)I"⟩, 28) := ⟨⟨by decide +kernel, by decide +kernel⟩, List.mem_of_getElem? (i := 782) (by decide +kernel), List.mem_of_getElem? (i := 1040) (by decide +kernel), List.mem_of_getElem? (i := 1041) (by decide +kernel)⟩
theorem lw_p44 : lw_okq (⟨"ToldOverModel", "overOf", "(II)I"⟩, 28) := ⟨⟨by decide +kernel, by decide +kernel⟩, List.mem_of_getElem? (i := 782) (by decide +kernel), List.mem_of_getElem? (i := 1048) (by decide +kernel), List.mem_of_getElem? (i := 1049) (by decide +kernel)⟩
theorem lw_p45 : lw_okq (⟨"ToldOverModel", "truthOf", "(I)I"⟩, 28) := ⟨⟨by decide +kernel, by decide +kernel⟩, List.mem_of_getElem? (i := 782) (by decide +kernel), List.mem_of_getElem? (i := 1064) (by decide +kernel), List.mem_of_getElem? (i := 1065) (by decide +kernel)⟩
theorem lw_p46 : lw_okq (⟨"ToldOverModel", "layLeast", "(II)V"⟩, 28) := ⟨⟨by decide +kernel, by decide +kernel⟩, List.mem_of_getElem? (i := 782) (by decide +kernel), List.mem_of_getElem? (i := 1085) (by decide +kernel), List.mem_of_getElem? (i := 1086) (by decide +kernel)⟩
theorem lw_p47 : lw_okq (⟨"ToldOverModel", "costBy", "(IIIIII)I"⟩, 28) := ⟨⟨by decide +kernel, by decide +kernel⟩, List.mem_of_getElem? (i := 782) (by decide +kernel), List.mem_of_getElem? (i := 1092) (by decide +kernel), List.mem_of_getElem? (i := 1093) (by decide +kernel)⟩
def lw_privs_3 : List (MethodName × Nat) := [(⟨"ToldOverModel", "meantBy", "(II)I"⟩, 28), (⟨"ToldOverModel", "isInterpreter", "(I)Z"⟩, 28), (⟨"ToldOverModel", "carried", "(IIII)I"⟩, 28), (⟨"ToldOverModel", "plainly", "(IIII)I"⟩, 28), (⟨"ToldOverModel", "lost", "(I)J"⟩, 28), (⟨"ToldOverModel", "carryOn", "(II)V"⟩, 28), (⟨"ToldOverModel", "readWitness", "(I)Z"⟩, 28), (⟨"ToldOverModel", "answered", "(II)I"⟩, 28), (⟨"ToldOverModel", "allWords", "()I"⟩, 28), (⟨"ToldOverModel", "times", "(IIIII)I"⟩, 28), (⟨"ToldOverModel", "isAsked", "(III)Z"⟩, 28), (⟨"ToldOverModel", "saidBy", "(I)I"⟩, 28), (⟨"ToldOverModel", "overOf", "(II)I"⟩, 28), (⟨"ToldOverModel", "truthOf", "(I)I"⟩, 28), (⟨"ToldOverModel", "layLeast", "(II)V"⟩, 28), (⟨"ToldOverModel", "costBy", "(IIIIII)I"⟩, 28)]
theorem lw_r3 : ∀ q ∈ lw_privs_3, lw_okq q := List.forall_mem_cons.mpr ⟨lw_p32, List.forall_mem_cons.mpr ⟨lw_p33, List.forall_mem_cons.mpr ⟨lw_p34, List.forall_mem_cons.mpr ⟨lw_p35, List.forall_mem_cons.mpr ⟨lw_p36, List.forall_mem_cons.mpr ⟨lw_p37, List.forall_mem_cons.mpr ⟨lw_p38, List.forall_mem_cons.mpr ⟨lw_p39, List.forall_mem_cons.mpr ⟨lw_p40, List.forall_mem_cons.mpr ⟨lw_p41, List.forall_mem_cons.mpr ⟨lw_p42, List.forall_mem_cons.mpr ⟨lw_p43, List.forall_mem_cons.mpr ⟨lw_p44, List.forall_mem_cons.mpr ⟨lw_p45, List.forall_mem_cons.mpr ⟨lw_p46, List.forall_mem_cons.mpr ⟨lw_p47, fun _ h => absurd h List.not_mem_nil⟩⟩⟩⟩⟩⟩⟩⟩⟩⟩⟩⟩⟩⟩⟩⟩
theorem lw_p48 : lw_okq (⟨"ToldOverModel", "isOrder", "(II)Z"⟩, 28) := ⟨⟨by decide +kernel, by decide +kernel⟩, List.mem_of_getElem? (i := 782) (by decide +kernel), List.mem_of_getElem? (i := 1106) (by decide +kernel), List.mem_of_getElem? (i := 1107) (by decide +kernel)⟩
theorem lw_p49 : lw_okq (⟨"ToldOverModel", "held", "(II)I"⟩, 28) := ⟨⟨by decide +kernel, by decide +kernel⟩, List.mem_of_getElem? (i := 782) (by decide +kernel), List.mem_of_getElem? (i := 1110) (by decide +kernel), List.mem_of_getElem? (i := 1111) (by decide +kernel)⟩
theorem lw_p50 : lw_okq (⟨"ToldOverModel", "begins", "(I)V"⟩, 28) := ⟨⟨by decide +kernel, by decide +kernel⟩, List.mem_of_getElem? (i := 782) (by decide +kernel), List.mem_of_getElem? (i := 1138) (by decide +kernel), List.mem_of_getElem? (i := 1139) (by decide +kernel)⟩
def lw_privs_4 : List (MethodName × Nat) := [(⟨"ToldOverModel", "isOrder", "(II)Z"⟩, 28), (⟨"ToldOverModel", "held", "(II)I"⟩, 28), (⟨"ToldOverModel", "begins", "(I)V"⟩, 28)]
theorem lw_r4 : ∀ q ∈ lw_privs_4, lw_okq q := List.forall_mem_cons.mpr ⟨lw_p48, List.forall_mem_cons.mpr ⟨lw_p49, List.forall_mem_cons.mpr ⟨lw_p50, fun _ h => absurd h List.not_mem_nil⟩⟩⟩
def lw_privs : List (MethodName × Nat) := lw_privs_1 ++ (lw_privs_2 ++ (lw_privs_3 ++ (lw_privs_4)))
def lw_tbl : List Cond := k2_sels lw_privs ++ tables_1
theorem lw_privs_ok : ∀ q ∈ lw_privs, lw_okq q := by
  show ∀ q ∈ lw_privs_1 ++ (lw_privs_2 ++ (lw_privs_3 ++ (lw_privs_4))), lw_okq q
  exact List.forall_mem_append.mpr ⟨lw_r1, List.forall_mem_append.mpr ⟨lw_r2, List.forall_mem_append.mpr ⟨lw_r3, lw_r4⟩⟩⟩
end
section
/-! ===== BEGIN printed: names, fields, word lists, decode rows ===== -/
def RX0 : String := "ToldOver$Booth"
def TX0 : u_T := fun k => match k with
  | 0 => ("ToldOver$Booth", "end", "I", false)
  | 1 => ("ToldOver$Booth", "held", "I", false)
  | _ => ("ToldOver$Booth", "behind", "I", false)
def tyX0 : Nat → FieldType := fun k => match k with
  | 0 => .int
  | 1 => .int
  | _ => .int
abbrev wsX00 : List Cond := u_ws RX0 TX0 3
theorem nmX0 : ∀ a, a < 3 → ∀ b, b < 3 → a ≠ b → (TX0 a).2.1 ≠ (TX0 b).2.1 := by decide +kernel
theorem tyX0_ok : ∀ k, k < 3 → parseFieldDescriptor (TX0 k).2.2.1 = some (tyX0 k) := by decide +kernel
abbrev cX0_init : ByteArray := prog_2_method_1_code
def yX0_init : MethodName := ⟨RX0, "<init>", "()V"⟩
abbrev cX0_isEachOnce : ByteArray := prog_2_method_2_code
def yX0_isEachOnce : MethodName := ⟨RX0, "isEachOnce", "([III)Z"⟩
abbrev cX0_work : ByteArray := prog_2_method_3_code
def yX0_work : MethodName := ⟨RX0, "work", "([III)V"⟩
def RX1 : String := "ToldOver$Chain"
def TX1 : u_T := fun k => match k with
  | 0 => ("ToldOver$Chain", "whole", "J", false)
  | 1 => ("ToldOver$Chain", "now", "[J", false)
  | 2 => ("ToldOver$Chain", "next", "[J", false)
  | _ => ("ToldOver$Chain", "carried", "[I", true)
def tyX1 : Nat → FieldType := fun k => match k with
  | 0 => .long
  | 1 => .array .long
  | 2 => .array .long
  | _ => .array .int
abbrev wsX10 : List Cond := u_ws RX1 TX1 4
theorem nmX1 : ∀ a, a < 4 → ∀ b, b < 4 → a ≠ b → (TX1 a).2.1 ≠ (TX1 b).2.1 := by decide +kernel
theorem tyX1_ok : ∀ k, k < 4 → parseFieldDescriptor (TX1 k).2.2.1 = some (tyX1 k) := by decide +kernel
abbrev cX1_init : ByteArray := prog_3_method_1_code
def yX1_init : MethodName := ⟨RX1, "<init>", "()V"⟩
abbrev cX1_begin : ByteArray := prog_3_method_2_code
def yX1_begin : MethodName := ⟨RX1, "begin", "(I)V"⟩
abbrev cX1_hand : ByteArray := prog_3_method_3_code
def yX1_hand : MethodName := ⟨RX1, "hand", "(LToldOver$Tongues;III)V"⟩
abbrev cX1_timesAs : ByteArray := prog_3_method_4_code
def yX1_timesAs : MethodName := ⟨RX1, "timesAs", "(II)J"⟩
abbrev cX1_likeliest : ByteArray := prog_3_method_5_code
def yX1_likeliest : MethodName := ⟨RX1, "likeliest", "(I)I"⟩
def RX2 : String := "ToldOver$Crew"
def TX2 : u_T := fun k => match k with
  | 0 => ("ToldOver$Crew", "kinds", "[I", true)
  | 1 => ("ToldOver$Crew", "tired", "[I", true)
  | 2 => ("ToldOver$Crew", "count", "I", false)
  | _ => ("ToldOver$Crew", "marks", "I", false)
def tyX2 : Nat → FieldType := fun k => match k with
  | 0 => .array .int
  | 1 => .array .int
  | 2 => .int
  | _ => .int
abbrev wsX20 : List Cond := u_ws RX2 TX2 4
theorem nmX2 : ∀ a, a < 4 → ∀ b, b < 4 → a ≠ b → (TX2 a).2.1 ≠ (TX2 b).2.1 := by decide +kernel
theorem tyX2_ok : ∀ k, k < 4 → parseFieldDescriptor (TX2 k).2.2.1 = some (tyX2 k) := by decide +kernel
abbrev cX2_init : ByteArray := prog_4_method_1_code
def yX2_init : MethodName := ⟨RX2, "<init>", "()V"⟩
abbrev cX2_has : ByteArray := prog_4_method_2_code
def yX2_has : MethodName := ⟨RX2, "has", "(I)Z"⟩
abbrev cX2_hasAll : ByteArray := prog_4_method_3_code
def yX2_hasAll : MethodName := ⟨RX2, "hasAll", "([III)Z"⟩
abbrev cX2_isFull : ByteArray := prog_4_method_4_code
def yX2_isFull : MethodName := ⟨RX2, "isFull", "()Z"⟩
abbrev cX2_hire : ByteArray := prog_4_method_5_code
def yX2_hire : MethodName := ⟨RX2, "hire", "(II)I"⟩
abbrev cX2_told : ByteArray := prog_4_method_6_code
def yX2_told : MethodName := ⟨RX2, "told", "(I)I"⟩
abbrev cX2_toldByKin : ByteArray := prog_4_method_7_code
def yX2_toldByKin : MethodName := ⟨RX2, "toldByKin", "(I)I"⟩
abbrev cX2_toldByTrained : ByteArray := prog_4_method_8_code
def yX2_toldByTrained : MethodName := ⟨RX2, "toldByTrained", "(I)I"⟩
abbrev cX2_toldBySworn : ByteArray := prog_4_method_9_code
def yX2_toldBySworn : MethodName := ⟨RX2, "toldBySworn", "(I)I"⟩
abbrev cX2_paid : ByteArray := prog_4_method_10_code
def yX2_paid : MethodName := ⟨RX2, "paid", "(I)I"⟩
abbrev cX2_mark : ByteArray := prog_4_method_11_code
def yX2_mark : MethodName := ⟨RX2, "mark", "(I)V"⟩
def RX3 : String := "ToldOver$Hearing"
def TX3 : u_T := fun k => match k with
  | 0 => ("ToldOver$Hearing", "speech", "LToldOver$Tongues;", true)
  | 1 => ("ToldOver$Hearing", "stand", "LToldOver$Witness;", true)
  | 2 => ("ToldOver$Hearing", "there", "[[I", true)
  | _ => ("ToldOver$Hearing", "home", "[[I", true)
def tyX3 : Nat → FieldType := fun k => match k with
  | 0 => .object "ToldOver$Tongues"
  | 1 => .object "ToldOver$Witness"
  | 2 => .array (.array .int)
  | _ => .array (.array .int)
abbrev wsX30 : List Cond := u_ws RX3 TX3 4
theorem nmX3 : ∀ a, a < 4 → ∀ b, b < 4 → a ≠ b → (TX3 a).2.1 ≠ (TX3 b).2.1 := by decide +kernel
theorem tyX3_ok : ∀ k, k < 4 → parseFieldDescriptor (TX3 k).2.2.1 = some (tyX3 k) := by decide +kernel
abbrev cX3_init : ByteArray := prog_5_method_1_code
def yX3_init : MethodName := ⟨RX3, "<init>", "(LToldOver$Tongues;LToldOver$Witness;)V"⟩
abbrev cX3_through : ByteArray := prog_5_method_2_code
def yX3_through : MethodName := ⟨RX3, "through", "(II)V"⟩
abbrev cX3_heardTimes : ByteArray := prog_5_method_3_code
def yX3_heardTimes : MethodName := ⟨RX3, "heardTimes", "(II)I"⟩
abbrev cX3_nothing : ByteArray := prog_5_method_4_code
def yX3_nothing : MethodName := ⟨RX3, "nothing", "(I)I"⟩
abbrev cX3_reachedTimes : ByteArray := prog_5_method_5_code
def yX3_reachedTimes : MethodName := ⟨RX3, "reachedTimes", "(II)I"⟩
abbrev cX3_saidTimes : ByteArray := prog_5_method_6_code
def yX3_saidTimes : MethodName := ⟨RX3, "saidTimes", "(II)I"⟩
abbrev cX3_overTimes : ByteArray := prog_5_method_7_code
def yX3_overTimes : MethodName := ⟨RX3, "overTimes", "(I)I"⟩
abbrev cX3_bestOver : ByteArray := prog_5_method_8_code
def yX3_bestOver : MethodName := ⟨RX3, "bestOver", "(I)I"⟩
abbrev cX3_truth : ByteArray := prog_5_method_9_code
def yX3_truth : MethodName := ⟨RX3, "truth", "(II)I"⟩
abbrev cX3_saidAndHeard : ByteArray := prog_5_method_10_code
def yX3_saidAndHeard : MethodName := ⟨RX3, "saidAndHeard", "(III)I"⟩
abbrev cX3_passing : ByteArray := prog_5_method_11_code
def yX3_passing : MethodName := ⟨RX3, "passing", "(IIII)I"⟩
def RX4 : String := "ToldOver$Protocol"
def TX4 : u_T := fun k => match k with
  | 0 => ("ToldOver$Protocol", "lines", "[[I", true)
  | 1 => ("ToldOver$Protocol", "count", "I", false)
  | 2 => ("ToldOver$Protocol", "whole", "J", false)
  | _ => ("ToldOver$Protocol", "trueOnes", "[J", true)
def tyX4 : Nat → FieldType := fun k => match k with
  | 0 => .array (.array .int)
  | 1 => .int
  | 2 => .long
  | _ => .array .long
abbrev wsX40 : List Cond := u_ws RX4 TX4 4
theorem nmX4 : ∀ a, a < 4 → ∀ b, b < 4 → a ≠ b → (TX4 a).2.1 ≠ (TX4 b).2.1 := by decide +kernel
theorem tyX4_ok : ∀ k, k < 4 → parseFieldDescriptor (TX4 k).2.2.1 = some (tyX4 k) := by decide +kernel
abbrev cX4_init : ByteArray := prog_6_method_1_code
def yX4_init : MethodName := ⟨RX4, "<init>", "()V"⟩
abbrev cX4_clear : ByteArray := prog_6_method_2_code
def yX4_clear : MethodName := ⟨RX4, "clear", "()V"⟩
abbrev cX4_isFull : ByteArray := prog_6_method_3_code
def yX4_isFull : MethodName := ⟨RX4, "isFull", "()Z"⟩
abbrev cX4_nextLine : ByteArray := prog_6_method_4_code
def yX4_nextLine : MethodName := ⟨RX4, "nextLine", "()[I"⟩
abbrev cX4_keepLine : ByteArray := prog_6_method_5_code
def yX4_keepLine : MethodName := ⟨RX4, "keepLine", "()I"⟩
abbrev cX4_weighYes : ByteArray := prog_6_method_6_code
def yX4_weighYes : MethodName := ⟨RX4, "weighYes", "()V"⟩
abbrev cX4_weighOne : ByteArray := prog_6_method_7_code
def yX4_weighOne : MethodName := ⟨RX4, "weighOne", "(I)V"⟩
abbrev cX4_fewerThan : ByteArray := prog_6_method_8_code
def yX4_fewerThan : MethodName := ⟨RX4, "fewerThan", "(I)J"⟩
abbrev cX4_bestSet : ByteArray := prog_6_method_9_code
def yX4_bestSet : MethodName := ⟨RX4, "bestSet", "(I)I"⟩
abbrev cX4_isBetter : ByteArray := prog_6_method_10_code
def yX4_isBetter : MethodName := ⟨RX4, "isBetter", "(II)Z"⟩
abbrev cX4_minutesOf : ByteArray := prog_6_method_11_code
def yX4_minutesOf : MethodName := ⟨RX4, "minutesOf", "(I)I"⟩
abbrev cX4_gainOf : ByteArray := prog_6_method_12_code
def yX4_gainOf : MethodName := ⟨RX4, "gainOf", "(I)I"⟩
def RX5 : String := "ToldOver$Reader"
def TX5 : u_T := fun k => match k with
  | 0 => ("ToldOver$Reader", "digits", "[[I", true)
  | 1 => ("ToldOver$Reader", "words", "I", false)
  | 2 => ("ToldOver$Reader", "please", "I", false)
  | 3 => ("ToldOver$Reader", "row", "[I", false)
  | 4 => ("ToldOver$Reader", "from", "I", false)
  | 5 => ("ToldOver$Reader", "at", "I", false)
  | _ => ("ToldOver$Reader", "end", "I", false)
def tyX5 : Nat → FieldType := fun k => match k with
  | 0 => .array (.array .int)
  | 1 => .int
  | 2 => .int
  | 3 => .array .int
  | 4 => .int
  | 5 => .int
  | _ => .int
abbrev wsX50 : List Cond := u_ws RX5 TX5 7
theorem nmX5 : ∀ a, a < 7 → ∀ b, b < 7 → a ≠ b → (TX5 a).2.1 ≠ (TX5 b).2.1 := by decide +kernel
theorem tyX5_ok : ∀ k, k < 7 → parseFieldDescriptor (TX5 k).2.2.1 = some (tyX5 k) := by decide +kernel
abbrev cX5_init : ByteArray := prog_7_method_1_code
def yX5_init : MethodName := ⟨RX5, "<init>", "()V"⟩
abbrev cX5_open : ByteArray := prog_7_method_2_code
def yX5_open : MethodName := ⟨RX5, "open", "([III)V"⟩
abbrev cX5_place : ByteArray := prog_7_method_3_code
def yX5_place : MethodName := ⟨RX5, "place", "()I"⟩
abbrev cX5_readsTongues : ByteArray := prog_7_method_4_code
def yX5_readsTongues : MethodName := ⟨RX5, "readsTongues", "()Z"⟩
abbrev cX5_readsWitness : ByteArray := prog_7_method_5_code
def yX5_readsWitness : MethodName := ⟨RX5, "readsWitness", "(I)Z"⟩
abbrev cX5_takesTable : ByteArray := prog_7_method_6_code
def yX5_takesTable : MethodName := ⟨RX5, "takesTable", "(II)Z"⟩
abbrev cX5_takesWord : ByteArray := prog_7_method_7_code
def yX5_takesWord : MethodName := ⟨RX5, "takesWord", "([II)Z"⟩
abbrev cX5_takesSign : ByteArray := prog_7_method_8_code
def yX5_takesSign : MethodName := ⟨RX5, "takesSign", "(I)Z"⟩
abbrev cX5_takeDigit : ByteArray := prog_7_method_9_code
def yX5_takeDigit : MethodName := ⟨RX5, "takeDigit", "(II)I"⟩
def RX6 : String := "ToldOver$Sheets"
def TX6 : u_T := fun k => match k with
  | 0 => ("ToldOver$Sheets", "rows", "[[I", true)
  | 1 => ("ToldOver$Sheets", "sorts", "[I", true)
  | _ => ("ToldOver$Sheets", "lengths", "[I", true)
def tyX6 : Nat → FieldType := fun k => match k with
  | 0 => .array (.array .int)
  | 1 => .array .int
  | _ => .array .int
abbrev wsX60 : List Cond := u_ws RX6 TX6 3
theorem nmX6 : ∀ a, a < 3 → ∀ b, b < 3 → a ≠ b → (TX6 a).2.1 ≠ (TX6 b).2.1 := by decide +kernel
theorem tyX6_ok : ∀ k, k < 3 → parseFieldDescriptor (TX6 k).2.2.1 = some (tyX6 k) := by decide +kernel
abbrev cX6_init : ByteArray := prog_8_method_1_code
def yX6_init : MethodName := ⟨RX6, "<init>", "()V"⟩
abbrev cX6_has : ByteArray := prog_8_method_2_code
def yX6_has : MethodName := ⟨RX6, "has", "(I)Z"⟩
abbrev cX6_renew : ByteArray := prog_8_method_3_code
def yX6_renew : MethodName := ⟨RX6, "renew", "(III)V"⟩
abbrev cX6_drop : ByteArray := prog_8_method_4_code
def yX6_drop : MethodName := ⟨RX6, "drop", "(I)Z"⟩
abbrev cX6_write : ByteArray := prog_8_method_5_code
def yX6_write : MethodName := ⟨RX6, "write", "(III)V"⟩
abbrev cX6_isOtherSort : ByteArray := prog_8_method_6_code
def yX6_isOtherSort : MethodName := ⟨RX6, "isOtherSort", "(II)Z"⟩
abbrev cX6_faultOfCell : ByteArray := prog_8_method_7_code
def yX6_faultOfCell : MethodName := ⟨RX6, "faultOfCell", "(II)I"⟩
abbrev cX6_faultOfCells : ByteArray := prog_8_method_8_code
def yX6_faultOfCells : MethodName := ⟨RX6, "faultOfCells", "(IIII)I"⟩
abbrev cX6_faultOfCopy : ByteArray := prog_8_method_9_code
def yX6_faultOfCopy : MethodName := ⟨RX6, "faultOfCopy", "(IIIII)I"⟩
abbrev cX6_areThere : ByteArray := prog_8_method_10_code
def yX6_areThere : MethodName := ⟨RX6, "areThere", "(III)Z"⟩
def RX7 : String := "ToldOver$Shifts"
def TX7 : u_T := fun k => match k with
  | 0 => ("ToldOver$Shifts", "now", "[J", false)
  | 1 => ("ToldOver$Shifts", "next", "[J", false)
  | 2 => ("ToldOver$Shifts", "plannedFor", "I", false)
  | _ => ("ToldOver$Shifts", "planned", "J", false)
def tyX7 : Nat → FieldType := fun k => match k with
  | 0 => .array .long
  | 1 => .array .long
  | 2 => .int
  | _ => .long
abbrev wsX70 : List Cond := u_ws RX7 TX7 4
theorem nmX7 : ∀ a, a < 4 → ∀ b, b < 4 → a ≠ b → (TX7 a).2.1 ≠ (TX7 b).2.1 := by decide +kernel
theorem tyX7_ok : ∀ k, k < 4 → parseFieldDescriptor (TX7 k).2.2.1 = some (tyX7 k) := by decide +kernel
abbrev cX7_init : ByteArray := prog_9_method_1_code
def yX7_init : MethodName := ⟨RX7, "<init>", "()V"⟩
abbrev cX7_plan : ByteArray := prog_9_method_2_code
def yX7_plan : MethodName := ⟨RX7, "plan", "(IIII)V"⟩
abbrev cX7_cost : ByteArray := prog_9_method_3_code
def yX7_cost : MethodName := ⟨RX7, "cost", "()I"⟩
abbrev cX7_worker : ByteArray := prog_9_method_4_code
def yX7_worker : MethodName := ⟨RX7, "worker", "(II)I"⟩
abbrev cX7_workMinute : ByteArray := prog_9_method_5_code
def yX7_workMinute : MethodName := ⟨RX7, "workMinute", "(IJ)V"⟩
abbrev cX7_workFirst : ByteArray := prog_9_method_6_code
def yX7_workFirst : MethodName := ⟨RX7, "workFirst", "(II)V"⟩
abbrev cX7_workSecond : ByteArray := prog_9_method_7_code
def yX7_workSecond : MethodName := ⟨RX7, "workSecond", "(IIJ)V"⟩
abbrev cX7_stateOf : ByteArray := prog_9_method_8_code
def yX7_stateOf : MethodName := ⟨RX7, "stateOf", "(III)I"⟩
abbrev cX7_firstOf : ByteArray := prog_9_method_9_code
def yX7_firstOf : MethodName := ⟨RX7, "firstOf", "(I)I"⟩
abbrev cX7_secondOf : ByteArray := prog_9_method_10_code
def yX7_secondOf : MethodName := ⟨RX7, "secondOf", "(I)I"⟩
abbrev cX7_lastOf : ByteArray := prog_9_method_11_code
def yX7_lastOf : MethodName := ⟨RX7, "lastOf", "(I)I"⟩
def RX8 : String := "ToldOver$Tongues"
def TX8 : u_T := fun k => match k with
  | 0 => ("ToldOver$Tongues", "words", "I", false)
  | 1 => ("ToldOver$Tongues", "told", "[[I", true)
  | _ => ("ToldOver$Tongues", "meanings", "[I", true)
def tyX8 : Nat → FieldType := fun k => match k with
  | 0 => .int
  | 1 => .array (.array .int)
  | _ => .array .int
abbrev wsX80 : List Cond := u_ws RX8 TX8 3
theorem nmX8 : ∀ a, a < 3 → ∀ b, b < 3 → a ≠ b → (TX8 a).2.1 ≠ (TX8 b).2.1 := by decide +kernel
theorem tyX8_ok : ∀ k, k < 3 → parseFieldDescriptor (TX8 k).2.2.1 = some (tyX8 k) := by decide +kernel
abbrev cX8_init : ByteArray := prog_10_method_1_code
def yX8_init : MethodName := ⟨RX8, "<init>", "()V"⟩
abbrev cX8_take : ByteArray := prog_10_method_2_code
def yX8_take : MethodName := ⟨RX8, "take", "([[II)V"⟩
abbrev cX8_takeWord : ByteArray := prog_10_method_3_code
def yX8_takeWord : MethodName := ⟨RX8, "takeWord", "([II)V"⟩
abbrev cX8_twelfths : ByteArray := prog_10_method_4_code
def yX8_twelfths : MethodName := ⟨RX8, "twelfths", "(III)I"⟩
abbrev cX8_meaning : ByteArray := prog_10_method_5_code
def yX8_meaning : MethodName := ⟨RX8, "meaning", "(II)I"⟩
abbrev cX8_sameMeaning : ByteArray := prog_10_method_6_code
def yX8_sameMeaning : MethodName := ⟨RX8, "sameMeaning", "(II)I"⟩
abbrev cX8_carry : ByteArray := prog_10_method_7_code
def yX8_carry : MethodName := ⟨RX8, "carry", "([IIIII)V"⟩
def RX9 : String := "ToldOver$Witness"
def TX9 : u_T := fun k => match k with
  | 0 => ("ToldOver$Witness", "times", "[[I", true)
  | 1 => ("ToldOver$Witness", "present", "Z", false)
  | _ => ("ToldOver$Witness", "please", "I", false)
def tyX9 : Nat → FieldType := fun k => match k with
  | 0 => .array (.array .int)
  | 1 => .boolean
  | _ => .int
abbrev wsX90 : List Cond := u_ws RX9 TX9 3
theorem nmX9 : ∀ a, a < 3 → ∀ b, b < 3 → a ≠ b → (TX9 a).2.1 ≠ (TX9 b).2.1 := by decide +kernel
theorem tyX9_ok : ∀ k, k < 3 → parseFieldDescriptor (TX9 k).2.2.1 = some (tyX9 k) := by decide +kernel
abbrev cX9_init : ByteArray := prog_11_method_1_code
def yX9_init : MethodName := ⟨RX9, "<init>", "()V"⟩
abbrev cX9_leave : ByteArray := prog_11_method_2_code
def yX9_leave : MethodName := ⟨RX9, "leave", "()V"⟩
abbrev cX9_take : ByteArray := prog_11_method_3_code
def yX9_take : MethodName := ⟨RX9, "take", "([[III)V"⟩
def RX10 : String := "ToldOver"
def TX10 : u_T := fun k => match k with
  | 0 => ("ToldOver", "sheets", "LToldOver$Sheets;", true)
  | 1 => ("ToldOver", "reader", "LToldOver$Reader;", true)
  | 2 => ("ToldOver", "speech", "LToldOver$Tongues;", true)
  | 3 => ("ToldOver", "crew", "LToldOver$Crew;", true)
  | 4 => ("ToldOver", "stand", "LToldOver$Witness;", true)
  | 5 => ("ToldOver", "hearing", "LToldOver$Hearing;", true)
  | 6 => ("ToldOver", "chain", "LToldOver$Chain;", true)
  | 7 => ("ToldOver", "protocol", "LToldOver$Protocol;", true)
  | 8 => ("ToldOver", "roster", "LToldOver$Shifts;", true)
  | 9 => ("ToldOver", "cabin", "LToldOver$Booth;", true)
  | _ => ("ToldOver", "latestFault", "I", false)
def tyX10 : Nat → FieldType := fun k => match k with
  | 0 => .object "ToldOver$Sheets"
  | 1 => .object "ToldOver$Reader"
  | 2 => .object "ToldOver$Tongues"
  | 3 => .object "ToldOver$Crew"
  | 4 => .object "ToldOver$Witness"
  | 5 => .object "ToldOver$Hearing"
  | 6 => .object "ToldOver$Chain"
  | 7 => .object "ToldOver$Protocol"
  | 8 => .object "ToldOver$Shifts"
  | 9 => .object "ToldOver$Booth"
  | _ => .int
abbrev wsX100 : List Cond := u_ws RX10 TX10 11
theorem nmX10 : ∀ a, a < 11 → ∀ b, b < 11 → a ≠ b → (TX10 a).2.1 ≠ (TX10 b).2.1 := by decide +kernel
theorem tyX10_ok : ∀ k, k < 11 → parseFieldDescriptor (TX10 k).2.2.1 = some (tyX10 k) := by decide +kernel
abbrev cX10_init : ByteArray := prog_1_method_1_code
def yX10_init : MethodName := ⟨RX10, "<init>", "()V"⟩
abbrev cX10_tongues : ByteArray := prog_1_method_2_code
def yX10_tongues : MethodName := ⟨RX10, "tongues", "(IIII)I"⟩
abbrev cX10_becomes : ByteArray := prog_1_method_3_code
def yX10_becomes : MethodName := ⟨RX10, "becomes", "(III)I"⟩
abbrev cX10_meant : ByteArray := prog_1_method_4_code
def yX10_meant : MethodName := ⟨RX10, "meant", "(II)I"⟩
abbrev cX10_alike : ByteArray := prog_1_method_5_code
def yX10_alike : MethodName := ⟨RX10, "alike", "(II)I"⟩
abbrev cX10_interpreter : ByteArray := prog_1_method_6_code
def yX10_interpreter : MethodName := ⟨RX10, "interpreter", "(II)I"⟩
abbrev cX10_ofInterpreter : ByteArray := prog_1_method_7_code
def yX10_ofInterpreter : MethodName := ⟨RX10, "ofInterpreter", "(II)I"⟩
abbrev cX10_tire : ByteArray := prog_1_method_8_code
def yX10_tire : MethodName := ⟨RX10, "tire", "(II)I"⟩
abbrev cX10_carries : ByteArray := prog_1_method_9_code
def yX10_carries : MethodName := ⟨RX10, "carries", "(IIII)I"⟩
abbrev cX10_returns : ByteArray := prog_1_method_10_code
def yX10_returns : MethodName := ⟨RX10, "returns", "(III)I"⟩
abbrev cX10_hands : ByteArray := prog_1_method_11_code
def yX10_hands : MethodName := ⟨RX10, "hands", "(IIIIIIII)J"⟩
abbrev cX10_witness : ByteArray := prog_1_method_12_code
def yX10_witness : MethodName := ⟨RX10, "witness", "(IIII)I"⟩
abbrev cX10_answers : ByteArray := prog_1_method_13_code
def yX10_answers : MethodName := ⟨RX10, "answers", "(II)I"⟩
abbrev cX10_heard : ByteArray := prog_1_method_14_code
def yX10_heard : MethodName := ⟨RX10, "heard", "(IIII)J"⟩
abbrev cX10_reached : ByteArray := prog_1_method_15_code
def yX10_reached : MethodName := ⟨RX10, "reached", "(IIII)J"⟩
abbrev cX10_said : ByteArray := prog_1_method_16_code
def yX10_said : MethodName := ⟨RX10, "said", "(IIII)J"⟩
abbrev cX10_over : ByteArray := prog_1_method_17_code
def yX10_over : MethodName := ⟨RX10, "over", "(III)J"⟩
abbrev cX10_ask : ByteArray := prog_1_method_18_code
def yX10_ask : MethodName := ⟨RX10, "ask", "(II)I"⟩
abbrev cX10_turn : ByteArray := prog_1_method_19_code
def yX10_turn : MethodName := ⟨RX10, "turn", "(IIIII)I"⟩
abbrev cX10_ofTurn : ByteArray := prog_1_method_20_code
def yX10_ofTurn : MethodName := ⟨RX10, "ofTurn", "(II)I"⟩
abbrev cX10_back : ByteArray := prog_1_method_21_code
def yX10_back : MethodName := ⟨RX10, "back", "(I)I"⟩
abbrev cX10_wrong : ByteArray := prog_1_method_22_code
def yX10_wrong : MethodName := ⟨RX10, "wrong", "(II)J"⟩
abbrev cX10_again : ByteArray := prog_1_method_23_code
def yX10_again : MethodName := ⟨RX10, "again", "(I)I"⟩
abbrev cX10_shifts : ByteArray := prog_1_method_24_code
def yX10_shifts : MethodName := ⟨RX10, "shifts", "(IIIII)I"⟩
abbrev cX10_booth : ByteArray := prog_1_method_25_code
def yX10_booth : MethodName := ⟨RX10, "booth", "(IIIII)I"⟩
abbrev cX10_sheet : ByteArray := prog_1_method_26_code
def yX10_sheet : MethodName := ⟨RX10, "sheet", "(III)I"⟩
abbrev cX10_lose : ByteArray := prog_1_method_27_code
def yX10_lose : MethodName := ⟨RX10, "lose", "(I)I"⟩
abbrev cX10_put : ByteArray := prog_1_method_28_code
def yX10_put : MethodName := ⟨RX10, "put", "(III)I"⟩
abbrev cX10_cell : ByteArray := prog_1_method_29_code
def yX10_cell : MethodName := ⟨RX10, "cell", "(III)J"⟩
abbrev cX10_copy : ByteArray := prog_1_method_30_code
def yX10_copy : MethodName := ⟨RX10, "copy", "(IIIII)I"⟩
abbrev cX10_tell : ByteArray := prog_1_method_31_code
def yX10_tell : MethodName := ⟨RX10, "tell", "(I)I"⟩
abbrev cX10_pay : ByteArray := prog_1_method_32_code
def yX10_pay : MethodName := ⟨RX10, "pay", "(I)I"⟩
abbrev cX10_as : ByteArray := prog_1_method_33_code
def yX10_as : MethodName := ⟨RX10, "as", "(II)I"⟩
abbrev cX10_trace : ByteArray := prog_1_method_34_code
def yX10_trace : MethodName := ⟨RX10, "trace", "()I"⟩
abbrev cX10_fault : ByteArray := prog_1_method_35_code
def yX10_fault : MethodName := ⟨RX10, "fault", "()I"⟩
abbrev cX10_many : ByteArray := prog_1_method_36_code
def yX10_many : MethodName := ⟨RX10, "many", "(I)I"⟩
abbrev cX10_refuseRow : ByteArray := prog_1_method_37_code
def yX10_refuseRow : MethodName := ⟨RX10, "refuseRow", "(II)I"⟩
abbrev cX10_comeTo : ByteArray := prog_1_method_38_code
def yX10_comeTo : MethodName := ⟨RX10, "comeTo", "(I)I"⟩
abbrev cX10_refusesHeard : ByteArray := prog_1_method_39_code
def yX10_refusesHeard : MethodName := ⟨RX10, "refusesHeard", "(IIII)Z"⟩
abbrev cX10_isWord : ByteArray := prog_1_method_40_code
def yX10_isWord : MethodName := ⟨RX10, "isWord", "(I)Z"⟩
abbrev cX10_isWordOrNothing : ByteArray := prog_1_method_41_code
def yX10_isWordOrNothing : MethodName := ⟨RX10, "isWordOrNothing", "(I)Z"⟩
abbrev cX10_isWay : ByteArray := prog_1_method_42_code
def yX10_isWay : MethodName := ⟨RX10, "isWay", "(I)Z"⟩
abbrev cX10_otherWay : ByteArray := prog_1_method_43_code
def yX10_otherWay : MethodName := ⟨RX10, "otherWay", "(I)I"⟩
abbrev cX10_isSort : ByteArray := prog_1_method_44_code
def yX10_isSort : MethodName := ⟨RX10, "isSort", "(I)Z"⟩
abbrev cX10_isKind : ByteArray := prog_1_method_45_code
def yX10_isKind : MethodName := ⟨RX10, "isKind", "(I)Z"⟩
abbrev cX10_isTired : ByteArray := prog_1_method_46_code
def yX10_isTired : MethodName := ⟨RX10, "isTired", "(I)Z"⟩
abbrev cX10_isWhich : ByteArray := prog_1_method_47_code
def yX10_isWhich : MethodName := ⟨RX10, "isWhich", "(I)Z"⟩
abbrev cX10_inLeastTerms : ByteArray := prog_1_method_48_code
def yX10_inLeastTerms : MethodName := ⟨RX10, "inLeastTerms", "(JJI)J"⟩
abbrev cX10_greatestCommon : ByteArray := prog_1_method_49_code
def yX10_greatestCommon : MethodName := ⟨RX10, "greatestCommon", "(JJ)J"⟩
def RX11 : String := "ToldOverModel"
def TX11 : u_T := fun k => match k with
  | 0 => ("ToldOverModel", "fault", "I", false)
  | 1 => ("ToldOverModel", "trace", "I", false)
  | 2 => ("ToldOverModel", "sorts", "[I", true)
  | 3 => ("ToldOverModel", "sheetLong", "[I", true)
  | 4 => ("ToldOverModel", "cells", "[I", true)
  | 5 => ("ToldOverModel", "words", "I", false)
  | 6 => ("ToldOverModel", "table", "[I", true)
  | 7 => ("ToldOverModel", "at", "I", false)
  | 8 => ("ToldOverModel", "readWords", "I", false)
  | 9 => ("ToldOverModel", "readPlease", "I", false)
  | 10 => ("ToldOverModel", "readTable", "[I", true)
  | 11 => ("ToldOverModel", "interpreters", "I", false)
  | 12 => ("ToldOverModel", "kinds", "[I", true)
  | 13 => ("ToldOverModel", "tired", "[I", true)
  | 14 => ("ToldOverModel", "spread", "[J", true)
  | 15 => ("ToldOverModel", "spreadOn", "[J", true)
  | 16 => ("ToldOverModel", "isWitness", "Z", false)
  | 17 => ("ToldOverModel", "please", "I", false)
  | 18 => ("ToldOverModel", "speech", "[I", true)
  | 19 => ("ToldOverModel", "turns", "I", false)
  | 20 => ("ToldOverModel", "turnBy", "[I", true)
  | 21 => ("ToldOverModel", "turnWord", "[I", true)
  | 22 => ("ToldOverModel", "turnHeard", "[I", true)
  | 23 => ("ToldOverModel", "turnStake", "[I", true)
  | 24 => ("ToldOverModel", "turnMinutes", "[I", true)
  | 25 => ("ToldOverModel", "trues", "[J", true)
  | 26 => ("ToldOverModel", "least", "[I", true)
  | _ => ("ToldOverModel", "saidIn", "[I", true)
def tyX11 : Nat → FieldType := fun k => match k with
  | 0 => .int
  | 1 => .int
  | 2 => .array .int
  | 3 => .array .int
  | 4 => .array .int
  | 5 => .int
  | 6 => .array .int
  | 7 => .int
  | 8 => .int
  | 9 => .int
  | 10 => .array .int
  | 11 => .int
  | 12 => .array .int
  | 13 => .array .int
  | 14 => .array .long
  | 15 => .array .long
  | 16 => .boolean
  | 17 => .int
  | 18 => .array .int
  | 19 => .int
  | 20 => .array .int
  | 21 => .array .int
  | 22 => .array .int
  | 23 => .array .int
  | 24 => .array .int
  | 25 => .array .long
  | 26 => .array .int
  | _ => .array .int
abbrev wsX110 : List Cond := u_ws RX11 TX11 28
theorem nmX11 : ∀ a, a < 28 → ∀ b, b < 28 → a ≠ b → (TX11 a).2.1 ≠ (TX11 b).2.1 := by decide +kernel
theorem tyX11_ok : ∀ k, k < 28 → parseFieldDescriptor (TX11 k).2.2.1 = some (tyX11 k) := by decide +kernel
abbrev cX11_init : ByteArray := prog_13_method_1_code
def yX11_init : MethodName := ⟨RX11, "<init>", "()V"⟩
abbrev cX11_fails : ByteArray := prog_13_method_3_code
def yX11_fails : MethodName := ⟨RX11, "fails", "(I)I"⟩
abbrev cX11_lost : ByteArray := prog_13_method_4_code
def yX11_lost : MethodName := ⟨RX11, "lost", "(I)J"⟩
abbrev cX11_within : ByteArray := prog_13_method_5_code
def yX11_within : MethodName := ⟨RX11, "within", "(III)Z"⟩
abbrev cX11_has : ByteArray := prog_13_method_6_code
def yX11_has : MethodName := ⟨RX11, "has", "(II)Z"⟩
abbrev cX11_isWhich : ByteArray := prog_13_method_7_code
def yX11_isWhich : MethodName := ⟨RX11, "isWhich", "(I)Z"⟩
abbrev cX11_share : ByteArray := prog_13_method_8_code
def yX11_share : MethodName := ⟨RX11, "share", "(JJI)J"⟩
abbrev cX11_isSheet : ByteArray := prog_13_method_9_code
def yX11_isSheet : MethodName := ⟨RX11, "isSheet", "(I)Z"⟩
abbrev cX11_isSort : ByteArray := prog_13_method_10_code
def yX11_isSort : MethodName := ⟨RX11, "isSort", "(I)Z"⟩
abbrev cX11_against : ByteArray := prog_13_method_11_code
def yX11_against : MethodName := ⟨RX11, "against", "(IIII)I"⟩
abbrev cX11_isWord : ByteArray := prog_13_method_12_code
def yX11_isWord : MethodName := ⟨RX11, "isWord", "(I)Z"⟩
abbrev cX11_isEnd : ByteArray := prog_13_method_13_code
def yX11_isEnd : MethodName := ⟨RX11, "isEnd", "(I)Z"⟩
abbrev cX11_isWay : ByteArray := prog_13_method_14_code
def yX11_isWay : MethodName := ⟨RX11, "isWay", "(I)Z"⟩
abbrev cX11_digitAt : ByteArray := prog_13_method_15_code
def yX11_digitAt : MethodName := ⟨RX11, "digitAt", "(II)I"⟩
abbrev cX11_isCode : ByteArray := prog_13_method_16_code
def yX11_isCode : MethodName := ⟨RX11, "isCode", "(II)Z"⟩
abbrev cX11_tongues : ByteArray := prog_13_method_17_code
def yX11_tongues : MethodName := ⟨RX11, "tongues", "(IIII)I"⟩
abbrev cX11_readTongues : ByteArray := prog_13_method_18_code
def yX11_readTongues : MethodName := ⟨RX11, "readTongues", "(I)Z"⟩
abbrev cX11_readRows : ByteArray := prog_13_method_19_code
def yX11_readRows : MethodName := ⟨RX11, "readRows", "(III)Z"⟩
abbrev cX11_lacks : ByteArray := prog_13_method_20_code
def yX11_lacks : MethodName := ⟨RX11, "lacks", "([III)I"⟩
abbrev cX11_rowOf : ByteArray := prog_13_method_21_code
def yX11_rowOf : MethodName := ⟨RX11, "rowOf", "(II)I"⟩
abbrev cX11_becomes : ByteArray := prog_13_method_22_code
def yX11_becomes : MethodName := ⟨RX11, "becomes", "(III)I"⟩
abbrev cX11_meantBy : ByteArray := prog_13_method_23_code
def yX11_meantBy : MethodName := ⟨RX11, "meantBy", "(II)I"⟩
abbrev cX11_meant : ByteArray := prog_13_method_24_code
def yX11_meant : MethodName := ⟨RX11, "meant", "(II)I"⟩
abbrev cX11_alike : ByteArray := prog_13_method_25_code
def yX11_alike : MethodName := ⟨RX11, "alike", "(II)I"⟩
abbrev cX11_isInterpreter : ByteArray := prog_13_method_26_code
def yX11_isInterpreter : MethodName := ⟨RX11, "isInterpreter", "(I)Z"⟩
abbrev cX11_interpreter : ByteArray := prog_13_method_27_code
def yX11_interpreter : MethodName := ⟨RX11, "interpreter", "(II)I"⟩
abbrev cX11_ofInterpreter : ByteArray := prog_13_method_28_code
def yX11_ofInterpreter : MethodName := ⟨RX11, "ofInterpreter", "(II)I"⟩
abbrev cX11_tire : ByteArray := prog_13_method_29_code
def yX11_tire : MethodName := ⟨RX11, "tire", "(II)I"⟩
abbrev cX11_plainly : ByteArray := prog_13_method_30_code
def yX11_plainly : MethodName := ⟨RX11, "plainly", "(IIII)I"⟩
abbrev cX11_carried : ByteArray := prog_13_method_31_code
def yX11_carried : MethodName := ⟨RX11, "carried", "(IIII)I"⟩
abbrev cX11_carries : ByteArray := prog_13_method_32_code
def yX11_carries : MethodName := ⟨RX11, "carries", "(IIII)I"⟩
abbrev cX11_returns : ByteArray := prog_13_method_33_code
def yX11_returns : MethodName := ⟨RX11, "returns", "(III)I"⟩
abbrev cX11_hands : ByteArray := prog_13_method_34_code
def yX11_hands : MethodName := ⟨RX11, "hands", "(IIIIIIII)J"⟩
abbrev cX11_carryOn : ByteArray := prog_13_method_35_code
def yX11_carryOn : MethodName := ⟨RX11, "carryOn", "(II)V"⟩
abbrev cX11_witness : ByteArray := prog_13_method_36_code
def yX11_witness : MethodName := ⟨RX11, "witness", "(IIII)I"⟩
abbrev cX11_readWitness : ByteArray := prog_13_method_37_code
def yX11_readWitness : MethodName := ⟨RX11, "readWitness", "(I)Z"⟩
abbrev cX11_answered : ByteArray := prog_13_method_38_code
def yX11_answered : MethodName := ⟨RX11, "answered", "(II)I"⟩
abbrev cX11_answers : ByteArray := prog_13_method_39_code
def yX11_answers : MethodName := ⟨RX11, "answers", "(II)I"⟩
abbrev cX11_times : ByteArray := prog_13_method_40_code
def yX11_times : MethodName := ⟨RX11, "times", "(IIIII)I"⟩
abbrev cX11_allWords : ByteArray := prog_13_method_41_code
def yX11_allWords : MethodName := ⟨RX11, "allWords", "()I"⟩
abbrev cX11_heard : ByteArray := prog_13_method_42_code
def yX11_heard : MethodName := ⟨RX11, "heard", "(IIII)J"⟩
abbrev cX11_isAsked : ByteArray := prog_13_method_43_code
def yX11_isAsked : MethodName := ⟨RX11, "isAsked", "(III)Z"⟩
abbrev cX11_reached : ByteArray := prog_13_method_44_code
def yX11_reached : MethodName := ⟨RX11, "reached", "(IIII)J"⟩
abbrev cX11_saidBy : ByteArray := prog_13_method_45_code
def yX11_saidBy : MethodName := ⟨RX11, "saidBy", "(I)I"⟩
abbrev cX11_said : ByteArray := prog_13_method_46_code
def yX11_said : MethodName := ⟨RX11, "said", "(IIII)J"⟩
abbrev cX11_overOf : ByteArray := prog_13_method_47_code
def yX11_overOf : MethodName := ⟨RX11, "overOf", "(II)I"⟩
abbrev cX11_over : ByteArray := prog_13_method_48_code
def yX11_over : MethodName := ⟨RX11, "over", "(III)J"⟩
abbrev cX11_ask : ByteArray := prog_13_method_49_code
def yX11_ask : MethodName := ⟨RX11, "ask", "(II)I"⟩
abbrev cX11_turn : ByteArray := prog_13_method_50_code
def yX11_turn : MethodName := ⟨RX11, "turn", "(IIIII)I"⟩
abbrev cX11_truthOf : ByteArray := prog_13_method_51_code
def yX11_truthOf : MethodName := ⟨RX11, "truthOf", "(I)I"⟩
abbrev cX11_ofTurn : ByteArray := prog_13_method_52_code
def yX11_ofTurn : MethodName := ⟨RX11, "ofTurn", "(II)I"⟩
abbrev cX11_back : ByteArray := prog_13_method_53_code
def yX11_back : MethodName := ⟨RX11, "back", "(I)I"⟩
abbrev cX11_wrong : ByteArray := prog_13_method_54_code
def yX11_wrong : MethodName := ⟨RX11, "wrong", "(II)J"⟩
abbrev cX11_again : ByteArray := prog_13_method_55_code
def yX11_again : MethodName := ⟨RX11, "again", "(I)I"⟩
abbrev cX11_spot : ByteArray := prog_13_method_56_code
def yX11_spot : MethodName := ⟨RX11, "spot", "(IIII)I"⟩
abbrev cX11_more : ByteArray := prog_13_method_57_code
def yX11_more : MethodName := ⟨RX11, "more", "(I)I"⟩
abbrev cX11_less : ByteArray := prog_13_method_58_code
def yX11_less : MethodName := ⟨RX11, "less", "(I)I"⟩
abbrev cX11_costBy : ByteArray := prog_13_method_59_code
def yX11_costBy : MethodName := ⟨RX11, "costBy", "(IIIIII)I"⟩
abbrev cX11_layLeast : ByteArray := prog_13_method_60_code
def yX11_layLeast : MethodName := ⟨RX11, "layLeast", "(II)V"⟩
abbrev cX11_shifts : ByteArray := prog_13_method_61_code
def yX11_shifts : MethodName := ⟨RX11, "shifts", "(IIIII)I"⟩
abbrev cX11_isOrder : ByteArray := prog_13_method_62_code
def yX11_isOrder : MethodName := ⟨RX11, "isOrder", "(II)Z"⟩
abbrev cX11_booth : ByteArray := prog_13_method_63_code
def yX11_booth : MethodName := ⟨RX11, "booth", "(IIIII)I"⟩
abbrev cX11_held : ByteArray := prog_13_method_64_code
def yX11_held : MethodName := ⟨RX11, "held", "(II)I"⟩
abbrev cX11_sheet : ByteArray := prog_13_method_65_code
def yX11_sheet : MethodName := ⟨RX11, "sheet", "(III)I"⟩
abbrev cX11_lose : ByteArray := prog_13_method_66_code
def yX11_lose : MethodName := ⟨RX11, "lose", "(I)I"⟩
abbrev cX11_put : ByteArray := prog_13_method_67_code
def yX11_put : MethodName := ⟨RX11, "put", "(III)I"⟩
abbrev cX11_cell : ByteArray := prog_13_method_68_code
def yX11_cell : MethodName := ⟨RX11, "cell", "(III)J"⟩
abbrev cX11_copy : ByteArray := prog_13_method_69_code
def yX11_copy : MethodName := ⟨RX11, "copy", "(IIIII)I"⟩
abbrev cX11_begins : ByteArray := prog_13_method_70_code
def yX11_begins : MethodName := ⟨RX11, "begins", "(I)V"⟩
abbrev cX11_tell : ByteArray := prog_13_method_71_code
def yX11_tell : MethodName := ⟨RX11, "tell", "(I)I"⟩
abbrev cX11_pay : ByteArray := prog_13_method_72_code
def yX11_pay : MethodName := ⟨RX11, "pay", "(I)I"⟩
abbrev cX11_as : ByteArray := prog_13_method_73_code
def yX11_as : MethodName := ⟨RX11, "as", "(II)I"⟩
abbrev cX11_trace : ByteArray := prog_13_method_74_code
def yX11_trace : MethodName := ⟨RX11, "trace", "()I"⟩
abbrev cX11_fault : ByteArray := prog_13_method_75_code
def yX11_fault : MethodName := ⟨RX11, "fault", "()I"⟩
abbrev cX11_many : ByteArray := prog_13_method_76_code
def yX11_many : MethodName := ⟨RX11, "many", "(I)I"⟩
def RJ9 : String := "java/lang/Math"
def TJ9 : u_T := fun k => match k with
  | _ => ("", "", "", false)
def tyJ9 : Nat → FieldType := fun k => match k with
  | _ => .int
abbrev wsJ90 : List Cond := u_ws RJ9 TJ9 0
theorem nmJ9 : ∀ a, a < 0 → ∀ b, b < 0 → a ≠ b → (TJ9 a).2.1 ≠ (TJ9 b).2.1 := by decide +kernel
theorem tyJ9_ok : ∀ k, k < 0 → parseFieldDescriptor (TJ9 k).2.2.1 = some (tyJ9 k) := by decide +kernel
abbrev cJ9_max_7cf53 : ByteArray := prog_14_method_65_code
def yJ9_max_7cf53 : MethodName := ⟨RJ9, "max", "(II)I"⟩
abbrev cJ9_min_7cf53 : ByteArray := prog_14_method_69_code
def yJ9_min_7cf53 : MethodName := ⟨RJ9, "min", "(II)I"⟩
abbrev cJ9_min_f86c9 : ByteArray := prog_14_method_70_code
def yJ9_min_f86c9 : MethodName := ⟨RJ9, "min", "(JJ)J"⟩
def RJ10 : String := "java/lang/System"
def TJ10 : u_T := fun k => match k with
  | _ => ("", "", "", false)
def tyJ10 : Nat → FieldType := fun k => match k with
  | _ => .int
abbrev wsJ100 : List Cond := u_ws RJ10 TJ10 0
theorem nmJ10 : ∀ a, a < 0 → ∀ b, b < 0 → a ≠ b → (TJ10 a).2.1 ≠ (TJ10 b).2.1 := by decide +kernel
theorem tyJ10_ok : ∀ k, k < 0 → parseFieldDescriptor (TJ10 k).2.2.1 = some (tyJ10 k) := by decide +kernel
def RJ7 : String := "java/util/Arrays"
def TJ7 : u_T := fun k => match k with
  | _ => ("", "", "", false)
def tyJ7 : Nat → FieldType := fun k => match k with
  | _ => .int
abbrev wsJ70 : List Cond := u_ws RJ7 TJ7 0
theorem nmJ7 : ∀ a, a < 0 → ∀ b, b < 0 → a ≠ b → (TJ7 a).2.1 ≠ (TJ7 b).2.1 := by decide +kernel
theorem tyJ7_ok : ∀ k, k < 0 → parseFieldDescriptor (TJ7 k).2.2.1 = some (tyJ7 k) := by decide +kernel
abbrev cJ7_fill_d0a16 : ByteArray := prog_16_method_101_code
def yJ7_fill_d0a16 : MethodName := ⟨RJ7, "fill", "([JJ)V"⟩
abbrev cJ7_fill_53178 : ByteArray := prog_16_method_103_code
def yJ7_fill_53178 : MethodName := ⟨RJ7, "fill", "([II)V"⟩
def RL : String := "ToldOverLaw"
abbrev cL_law : ByteArray := code
def yL_law : MethodName := ⟨RL, "law", "([I)Z"⟩
abbrev vwCl : List vw_C := [(RX0, TX0, 3), (RX1, TX1, 4), (RX2, TX2, 4), (RX3, TX3, 4), (RX4, TX4, 4), (RX5, TX5, 7), (RX6, TX6, 3), (RX7, TX7, 4), (RX8, TX8, 3), (RX9, TX9, 3), (RX10, TX10, 11), (RX11, TX11, 28)]
end
section
/-! THE WORDS: those of the tables that stay good, and each by its place -/
def zws : List Cond := lw_tbl.filter goodWord
theorem zil0 {w : Cond} (h : w ∈ k2_sels lw_privs) : w ∈ lw_tbl := List.mem_append_left _ h
theorem zil1 {w : Cond} (h : w ∈ tables_1_1) : w ∈ lw_tbl := List.mem_append_right _ (List.mem_append_left _ h)
theorem zil2 {w : Cond} (h : w ∈ tables_1_2) : w ∈ lw_tbl := List.mem_append_right _ (List.mem_append_right _ (List.mem_append_left _ h))
theorem zil3 {w : Cond} (h : w ∈ tables_1_3) : w ∈ lw_tbl := List.mem_append_right _ (List.mem_append_right _ (List.mem_append_right _ (List.mem_append_left _ h)))
theorem zil4 {w : Cond} (h : w ∈ tables_1_4) : w ∈ lw_tbl := List.mem_append_right _ (List.mem_append_right _ (List.mem_append_right _ (List.mem_append_right _ (List.mem_append_left _ h))))
theorem zil5 {w : Cond} (h : w ∈ tables_1_5) : w ∈ lw_tbl := List.mem_append_right _ (List.mem_append_right _ (List.mem_append_right _ (List.mem_append_right _ (List.mem_append_right _ h))))
theorem zin0 {w : Cond} (h : w ∈ k2_sels lw_privs) (hg : goodWord w = true) : w ∈ zws := List.mem_filter.mpr ⟨zil0 h, hg⟩
theorem zin1 {w : Cond} (h : w ∈ tables_1_1) (hg : goodWord w = true) : w ∈ zws := List.mem_filter.mpr ⟨zil1 h, hg⟩
theorem zin2 {w : Cond} (h : w ∈ tables_1_2) (hg : goodWord w = true) : w ∈ zws := List.mem_filter.mpr ⟨zil2 h, hg⟩
theorem zin3 {w : Cond} (h : w ∈ tables_1_3) (hg : goodWord w = true) : w ∈ zws := List.mem_filter.mpr ⟨zil3 h, hg⟩
theorem zin4 {w : Cond} (h : w ∈ tables_1_4) (hg : goodWord w = true) : w ∈ zws := List.mem_filter.mpr ⟨zil4 h, hg⟩
theorem zin5 {w : Cond} (h : w ∈ tables_1_5) (hg : goodWord w = true) : w ∈ zws := List.mem_filter.mpr ⟨zil5 h, hg⟩
theorem zgood {w : Cond} (h : w ∈ zws) : w ∈ lw_tbl ∧ ((w.onTables && w.keeps) = true ∨ ∃ ty, w = .arrayClass ty) := ⟨(List.mem_filter.mp h).1, good_of_word (List.mem_filter.mp h).2⟩
theorem zgoodIn : GoodIn zws zws := fun w h => ⟨h, (zgood h).2⟩
theorem zgoodTbl : GoodIn lw_tbl zws := fun w h => zgood h
set_option maxRecDepth 20000 in
theorem zw_0 : (.selects RX10 yX10_refuseRow yX10_refuseRow : Cond) ∈ zws := zin0 (List.mem_of_getElem? (i := 0) rfl) rfl
set_option maxRecDepth 20000 in
theorem zw_1 : (.selects RX6 yX6_areThere yX6_areThere : Cond) ∈ zws := zin0 (List.mem_of_getElem? (i := 1) rfl) rfl
set_option maxRecDepth 20000 in
theorem zw_2 : (.selects RX10 yX10_comeTo yX10_comeTo : Cond) ∈ zws := zin0 (List.mem_of_getElem? (i := 2) rfl) rfl
set_option maxRecDepth 20000 in
theorem zw_3 : (.selects RX5 yX5_takesSign yX5_takesSign : Cond) ∈ zws := zin0 (List.mem_of_getElem? (i := 3) rfl) rfl
set_option maxRecDepth 20000 in
theorem zw_4 : (.selects RX5 yX5_takeDigit yX5_takeDigit : Cond) ∈ zws := zin0 (List.mem_of_getElem? (i := 4) rfl) rfl
set_option maxRecDepth 20000 in
theorem zw_5 : (.selects RX5 yX5_takesTable yX5_takesTable : Cond) ∈ zws := zin0 (List.mem_of_getElem? (i := 5) rfl) rfl
set_option maxRecDepth 20000 in
theorem zw_6 : (.selects RX5 yX5_takesWord yX5_takesWord : Cond) ∈ zws := zin0 (List.mem_of_getElem? (i := 6) rfl) rfl
set_option maxRecDepth 20000 in
theorem zw_7 : (.selects RX8 yX8_takeWord yX8_takeWord : Cond) ∈ zws := zin0 (List.mem_of_getElem? (i := 7) rfl) rfl
set_option maxRecDepth 20000 in
theorem zw_8 : (.selects RX10 yX10_isWord yX10_isWord : Cond) ∈ zws := zin0 (List.mem_of_getElem? (i := 8) rfl) rfl
set_option maxRecDepth 20000 in
theorem zw_9 : (.selects RX10 yX10_isWordOrNothing yX10_isWordOrNothing : Cond) ∈ zws := zin0 (List.mem_of_getElem? (i := 9) rfl) rfl
set_option maxRecDepth 20000 in
theorem zw_10 : (.selects RX3 yX3_saidAndHeard yX3_saidAndHeard : Cond) ∈ zws := zin0 (List.mem_of_getElem? (i := 10) rfl) rfl
set_option maxRecDepth 20000 in
theorem zw_11 : (.selects RX3 yX3_passing yX3_passing : Cond) ∈ zws := zin0 (List.mem_of_getElem? (i := 11) rfl) rfl
set_option maxRecDepth 20000 in
theorem zw_12 : (.selects RX10 yX10_refusesHeard yX10_refusesHeard : Cond) ∈ zws := zin0 (List.mem_of_getElem? (i := 12) rfl) rfl
set_option maxRecDepth 20000 in
theorem zw_13 : (.selects RX4 yX4_weighOne yX4_weighOne : Cond) ∈ zws := zin0 (List.mem_of_getElem? (i := 13) rfl) rfl
set_option maxRecDepth 20000 in
theorem zw_14 : (.selects RX4 yX4_minutesOf yX4_minutesOf : Cond) ∈ zws := zin0 (List.mem_of_getElem? (i := 14) rfl) rfl
set_option maxRecDepth 20000 in
theorem zw_15 : (.selects RX4 yX4_isBetter yX4_isBetter : Cond) ∈ zws := zin0 (List.mem_of_getElem? (i := 15) rfl) rfl
set_option maxRecDepth 20000 in
theorem zw_16 : (.selects RX4 yX4_gainOf yX4_gainOf : Cond) ∈ zws := zin0 (List.mem_of_getElem? (i := 16) rfl) rfl
set_option maxRecDepth 20000 in
theorem zw_17 : (.selects RX7 yX7_workMinute yX7_workMinute : Cond) ∈ zws := zin0 (List.mem_of_getElem? (i := 17) rfl) rfl
set_option maxRecDepth 20000 in
theorem zw_18 : (.selects RX7 yX7_workFirst yX7_workFirst : Cond) ∈ zws := zin0 (List.mem_of_getElem? (i := 18) rfl) rfl
set_option maxRecDepth 20000 in
theorem zw_19 : (.selects RX7 yX7_workSecond yX7_workSecond : Cond) ∈ zws := zin0 (List.mem_of_getElem? (i := 19) rfl) rfl
set_option maxRecDepth 20000 in
theorem zw_20 : (.selects RX2 yX2_toldBySworn yX2_toldBySworn : Cond) ∈ zws := zin0 (List.mem_of_getElem? (i := 20) rfl) rfl
set_option maxRecDepth 20000 in
theorem zw_21 : (.selects RX2 yX2_mark yX2_mark : Cond) ∈ zws := zin0 (List.mem_of_getElem? (i := 21) rfl) rfl
set_option maxRecDepth 20000 in
theorem zw_22 : (.selects RX2 yX2_toldByTrained yX2_toldByTrained : Cond) ∈ zws := zin0 (List.mem_of_getElem? (i := 22) rfl) rfl
set_option maxRecDepth 20000 in
theorem zw_23 : (.selects RX2 yX2_toldByKin yX2_toldByKin : Cond) ∈ zws := zin0 (List.mem_of_getElem? (i := 23) rfl) rfl
set_option maxRecDepth 20000 in
theorem zw_24 : (.selects RX11 yX11_against yX11_against : Cond) ∈ zws := zin0 (List.mem_of_getElem? (i := 24) rfl) rfl
set_option maxRecDepth 20000 in
theorem zw_25 : (.selects RX11 yX11_fails yX11_fails : Cond) ∈ zws := zin0 (List.mem_of_getElem? (i := 25) rfl) rfl
set_option maxRecDepth 20000 in
theorem zw_26 : (.selects RX11 yX11_readTongues yX11_readTongues : Cond) ∈ zws := zin0 (List.mem_of_getElem? (i := 26) rfl) rfl
set_option maxRecDepth 20000 in
theorem zw_27 : (.selects RX11 yX11_isCode yX11_isCode : Cond) ∈ zws := zin0 (List.mem_of_getElem? (i := 27) rfl) rfl
set_option maxRecDepth 20000 in
theorem zw_28 : (.selects RX11 yX11_digitAt yX11_digitAt : Cond) ∈ zws := zin0 (List.mem_of_getElem? (i := 28) rfl) rfl
set_option maxRecDepth 20000 in
theorem zw_29 : (.selects RX11 yX11_readRows yX11_readRows : Cond) ∈ zws := zin0 (List.mem_of_getElem? (i := 29) rfl) rfl
set_option maxRecDepth 20000 in
theorem zw_30 : (.selects RX11 yX11_isWord yX11_isWord : Cond) ∈ zws := zin0 (List.mem_of_getElem? (i := 30) rfl) rfl
set_option maxRecDepth 20000 in
theorem zw_31 : (.selects RX11 yX11_isEnd yX11_isEnd : Cond) ∈ zws := zin0 (List.mem_of_getElem? (i := 31) rfl) rfl
set_option maxRecDepth 20000 in
theorem zw_32 : (.selects RX11 yX11_meantBy yX11_meantBy : Cond) ∈ zws := zin0 (List.mem_of_getElem? (i := 32) rfl) rfl
set_option maxRecDepth 20000 in
theorem zw_33 : (.selects RX11 yX11_isInterpreter yX11_isInterpreter : Cond) ∈ zws := zin0 (List.mem_of_getElem? (i := 33) rfl) rfl
set_option maxRecDepth 20000 in
theorem zw_34 : (.selects RX11 yX11_carried yX11_carried : Cond) ∈ zws := zin0 (List.mem_of_getElem? (i := 34) rfl) rfl
set_option maxRecDepth 20000 in
theorem zw_35 : (.selects RX11 yX11_plainly yX11_plainly : Cond) ∈ zws := zin0 (List.mem_of_getElem? (i := 35) rfl) rfl
set_option maxRecDepth 20000 in
theorem zw_36 : (.selects RX11 yX11_lost yX11_lost : Cond) ∈ zws := zin0 (List.mem_of_getElem? (i := 36) rfl) rfl
set_option maxRecDepth 20000 in
theorem zw_37 : (.selects RX11 yX11_carryOn yX11_carryOn : Cond) ∈ zws := zin0 (List.mem_of_getElem? (i := 37) rfl) rfl
set_option maxRecDepth 20000 in
theorem zw_38 : (.selects RX11 yX11_readWitness yX11_readWitness : Cond) ∈ zws := zin0 (List.mem_of_getElem? (i := 38) rfl) rfl
set_option maxRecDepth 20000 in
theorem zw_39 : (.selects RX11 yX11_answered yX11_answered : Cond) ∈ zws := zin0 (List.mem_of_getElem? (i := 39) rfl) rfl
set_option maxRecDepth 20000 in
theorem zw_40 : (.selects RX11 yX11_allWords yX11_allWords : Cond) ∈ zws := zin0 (List.mem_of_getElem? (i := 40) rfl) rfl
set_option maxRecDepth 20000 in
theorem zw_41 : (.selects RX11 yX11_times yX11_times : Cond) ∈ zws := zin0 (List.mem_of_getElem? (i := 41) rfl) rfl
set_option maxRecDepth 20000 in
theorem zw_42 : (.selects RX11 yX11_isAsked yX11_isAsked : Cond) ∈ zws := zin0 (List.mem_of_getElem? (i := 42) rfl) rfl
set_option maxRecDepth 20000 in
theorem zw_43 : (.selects RX11 yX11_saidBy yX11_saidBy : Cond) ∈ zws := zin0 (List.mem_of_getElem? (i := 43) rfl) rfl
set_option maxRecDepth 20000 in
theorem zw_44 : (.selects RX11 yX11_overOf yX11_overOf : Cond) ∈ zws := zin0 (List.mem_of_getElem? (i := 44) rfl) rfl
set_option maxRecDepth 20000 in
theorem zw_45 : (.selects RX11 yX11_truthOf yX11_truthOf : Cond) ∈ zws := zin0 (List.mem_of_getElem? (i := 45) rfl) rfl
set_option maxRecDepth 20000 in
theorem zw_46 : (.selects RX11 yX11_layLeast yX11_layLeast : Cond) ∈ zws := zin0 (List.mem_of_getElem? (i := 46) rfl) rfl
set_option maxRecDepth 20000 in
theorem zw_47 : (.selects RX11 yX11_costBy yX11_costBy : Cond) ∈ zws := zin0 (List.mem_of_getElem? (i := 47) rfl) rfl
set_option maxRecDepth 20000 in
theorem zw_48 : (.selects RX11 yX11_isOrder yX11_isOrder : Cond) ∈ zws := zin0 (List.mem_of_getElem? (i := 48) rfl) rfl
set_option maxRecDepth 20000 in
theorem zw_49 : (.selects RX11 yX11_held yX11_held : Cond) ∈ zws := zin0 (List.mem_of_getElem? (i := 49) rfl) rfl
set_option maxRecDepth 20000 in
theorem zw_50 : (.selects RX11 yX11_begins yX11_begins : Cond) ∈ zws := zin0 (List.mem_of_getElem? (i := 50) rfl) rfl
set_option maxRecDepth 20000 in
theorem zw_51 : (.initialized RL : Cond) ∈ zws := zin1 (List.mem_of_getElem? (i := 0) rfl) rfl
set_option maxRecDepth 20000 in
theorem zw_52 : (.initialized RX10 : Cond) ∈ zws := zin1 (List.mem_of_getElem? (i := 1) rfl) rfl
set_option maxRecDepth 20000 in
theorem zw_53 : (.initialized RX6 : Cond) ∈ zws := zin1 (List.mem_of_getElem? (i := 2) rfl) rfl
set_option maxRecDepth 20000 in
theorem zw_54 : (.initialized RJ7 : Cond) ∈ zws := zin1 (List.mem_of_getElem? (i := 3) rfl) rfl
set_option maxRecDepth 20000 in
theorem zw_55 : (.initialized RX5 : Cond) ∈ zws := zin1 (List.mem_of_getElem? (i := 4) rfl) rfl
set_option maxRecDepth 20000 in
theorem zw_56 : (.initialized RX8 : Cond) ∈ zws := zin1 (List.mem_of_getElem? (i := 5) rfl) rfl
set_option maxRecDepth 20000 in
theorem zw_57 : (.initialized RX2 : Cond) ∈ zws := zin1 (List.mem_of_getElem? (i := 6) rfl) rfl
set_option maxRecDepth 20000 in
theorem zw_58 : (.initialized RX9 : Cond) ∈ zws := zin1 (List.mem_of_getElem? (i := 7) rfl) rfl
set_option maxRecDepth 20000 in
theorem zw_59 : (.initialized RX3 : Cond) ∈ zws := zin1 (List.mem_of_getElem? (i := 8) rfl) rfl
set_option maxRecDepth 20000 in
theorem zw_60 : (.initialized RX1 : Cond) ∈ zws := zin1 (List.mem_of_getElem? (i := 9) rfl) rfl
set_option maxRecDepth 20000 in
theorem zw_61 : (.initialized RX4 : Cond) ∈ zws := zin1 (List.mem_of_getElem? (i := 10) rfl) rfl
set_option maxRecDepth 20000 in
theorem zw_62 : (.initialized RX7 : Cond) ∈ zws := zin1 (List.mem_of_getElem? (i := 11) rfl) rfl
set_option maxRecDepth 20000 in
theorem zw_63 : (.initialized RX0 : Cond) ∈ zws := zin1 (List.mem_of_getElem? (i := 12) rfl) rfl
set_option maxRecDepth 20000 in
theorem zw_64 : (.initialized RX11 : Cond) ∈ zws := zin1 (List.mem_of_getElem? (i := 13) rfl) rfl
set_option maxRecDepth 20000 in
theorem zw_65 : (.initialized RJ9 : Cond) ∈ zws := zin1 (List.mem_of_getElem? (i := 14) rfl) rfl
set_option maxRecDepth 20000 in
theorem zw_66 : (.initialized RJ10 : Cond) ∈ zws := zin1 (List.mem_of_getElem? (i := 15) rfl) rfl
set_option maxRecDepth 20000 in
theorem zv_67 : (.classLink RL (7) RX10 : Cond) ∈ lw_tbl := zil1 (List.mem_of_getElem? (i := 16) rfl)
set_option maxRecDepth 20000 in
theorem zv_68 : (.instantiable RX10 (11) : Cond) ∈ lw_tbl := zil1 (List.mem_of_getElem? (i := 17) rfl)
set_option maxRecDepth 20000 in
theorem zw_69 : (.methodLink RL (9) yX10_init : Cond) ∈ zws := zin1 (List.mem_of_getElem? (i := 18) rfl) rfl
set_option maxRecDepth 20000 in
theorem zw_70 : (.instanceMethod yX10_init : Cond) ∈ zws := zin1 (List.mem_of_getElem? (i := 19) rfl) rfl
set_option maxRecDepth 20000 in
theorem zw_71 : (.code yX10_init cX10_init (1) (none : Option Jvm.ClassFile.FieldType) : Cond) ∈ zws := zin1 (List.mem_of_getElem? (i := 20) rfl) rfl
set_option maxRecDepth 20000 in
theorem zw_72 : (.methodLink RX10 (5) objectInit : Cond) ∈ zws := zin1 (List.mem_of_getElem? (i := 21) rfl) rfl
set_option maxRecDepth 20000 in
theorem zw_73 : (.instanceMethod objectInit : Cond) ∈ zws := zin1 (List.mem_of_getElem? (i := 22) rfl) rfl
set_option maxRecDepth 20000 in
theorem zw_74 : (.code objectInit object_method_1_code (1) (none : Option Jvm.ClassFile.FieldType) : Cond) ∈ zws := zin1 (List.mem_of_getElem? (i := 23) rfl) rfl
set_option maxRecDepth 20000 in
theorem zv_75 : (.classLink RX10 (11) RX6 : Cond) ∈ lw_tbl := zil1 (List.mem_of_getElem? (i := 24) rfl)
set_option maxRecDepth 20000 in
theorem zv_76 : (.instantiable RX6 (3) : Cond) ∈ lw_tbl := zil1 (List.mem_of_getElem? (i := 25) rfl)
set_option maxRecDepth 20000 in
theorem zw_77 : (.methodLink RX10 (13) yX6_init : Cond) ∈ zws := zin1 (List.mem_of_getElem? (i := 26) rfl) rfl
set_option maxRecDepth 20000 in
theorem zw_78 : (.instanceMethod yX6_init : Cond) ∈ zws := zin1 (List.mem_of_getElem? (i := 27) rfl) rfl
set_option maxRecDepth 20000 in
theorem zw_79 : (.code yX6_init cX6_init (1) (none : Option Jvm.ClassFile.FieldType) : Cond) ∈ zws := zin1 (List.mem_of_getElem? (i := 28) rfl) rfl
set_option maxRecDepth 20000 in
theorem zw_80 : (.methodLink RX6 (3) objectInit : Cond) ∈ zws := zin1 (List.mem_of_getElem? (i := 29) rfl) rfl
set_option maxRecDepth 20000 in
theorem zv_81 : (.classLink RX6 (11) "[[I" : Cond) ∈ lw_tbl := zil1 (List.mem_of_getElem? (i := 30) rfl)
set_option maxRecDepth 20000 in
theorem zv_82 : (.arrayOver (.array .int) : Cond) ∈ lw_tbl := zil1 (List.mem_of_getElem? (i := 31) rfl)
set_option maxRecDepth 20000 in
theorem zw_83 : (.methodLink RX6 (23) yJ7_fill_53178 : Cond) ∈ zws := zin1 (List.mem_of_getElem? (i := 32) rfl) rfl
set_option maxRecDepth 20000 in
theorem zw_84 : (.static yJ7_fill_53178 : Cond) ∈ zws := zin1 (List.mem_of_getElem? (i := 33) rfl) rfl
set_option maxRecDepth 20000 in
theorem zw_85 : (.code yJ7_fill_53178 cJ7_fill_53178 (4) (none : Option Jvm.ClassFile.FieldType) : Cond) ∈ zws := zin1 (List.mem_of_getElem? (i := 34) rfl) rfl
set_option maxRecDepth 20000 in
theorem zw_86 : (.fieldLink RX6 (13) "ToldOver$Sheets" "rows" "[[I" : Cond) ∈ zws := zin1 (List.mem_of_getElem? (i := 35) rfl) rfl
set_option maxRecDepth 20000 in
theorem zw_87 : (.fieldLink RX10 (95) "ToldOver$Sheets" "rows" "[[I" : Cond) ∈ zws := zin1 (List.mem_of_getElem? (i := 36) rfl) rfl
set_option maxRecDepth 20000 in
theorem zw_88 : (.fieldLink RX6 (16) "ToldOver$Sheets" "sorts" "[I" : Cond) ∈ zws := zin1 (List.mem_of_getElem? (i := 37) rfl) rfl
set_option maxRecDepth 20000 in
theorem zw_89 : (.fieldLink RX6 (20) "ToldOver$Sheets" "lengths" "[I" : Cond) ∈ zws := zin1 (List.mem_of_getElem? (i := 38) rfl) rfl
set_option maxRecDepth 20000 in
theorem zv_97 : (.arrayClass .int : Cond) ∈ lw_tbl := zil1 (List.mem_of_getElem? (i := 46) rfl)
set_option maxRecDepth 20000 in
theorem zv_98 : (.classLink RX10 (18) RX5 : Cond) ∈ lw_tbl := zil1 (List.mem_of_getElem? (i := 47) rfl)
set_option maxRecDepth 20000 in
theorem zv_99 : (.instantiable RX5 (7) : Cond) ∈ lw_tbl := zil1 (List.mem_of_getElem? (i := 48) rfl)
set_option maxRecDepth 20000 in
theorem zv_100 : (.methodLinkNest RX10 (20) yX5_init RX10 : Cond) ∈ lw_tbl := zil1 (List.mem_of_getElem? (i := 49) rfl)
set_option maxRecDepth 20000 in
theorem zw_101 : (.instanceMethod yX5_init : Cond) ∈ zws := zin1 (List.mem_of_getElem? (i := 50) rfl) rfl
set_option maxRecDepth 20000 in
theorem zw_102 : (.code yX5_init cX5_init (1) (none : Option Jvm.ClassFile.FieldType) : Cond) ∈ zws := zin1 (List.mem_of_getElem? (i := 51) rfl) rfl
set_option maxRecDepth 20000 in
theorem zw_103 : (.methodLink RX5 (3) objectInit : Cond) ∈ zws := zin1 (List.mem_of_getElem? (i := 52) rfl) rfl
set_option maxRecDepth 20000 in
theorem zv_104 : (.classLink RX5 (9) "[[I" : Cond) ∈ lw_tbl := zil1 (List.mem_of_getElem? (i := 53) rfl)
set_option maxRecDepth 20000 in
theorem zw_105 : (.fieldLink RX5 (11) "ToldOver$Reader" "digits" "[[I" : Cond) ∈ zws := zin1 (List.mem_of_getElem? (i := 54) rfl) rfl
set_option maxRecDepth 20000 in
theorem zw_106 : (.fieldLink RX10 (111) "ToldOver$Reader" "digits" "[[I" : Cond) ∈ zws := zin1 (List.mem_of_getElem? (i := 55) rfl) rfl
set_option maxRecDepth 20000 in
theorem zw_107 : (.fieldLink RX10 (114) "ToldOver$Reader" "words" "I" : Cond) ∈ zws := zin1 (List.mem_of_getElem? (i := 56) rfl) rfl
set_option maxRecDepth 20000 in
theorem zw_108 : (.fieldLink RX5 (38) "ToldOver$Reader" "words" "I" : Cond) ∈ zws := zin1 (List.mem_of_getElem? (i := 57) rfl) rfl
set_option maxRecDepth 20000 in
theorem zw_109 : (.fieldLink RX5 (45) "ToldOver$Reader" "please" "I" : Cond) ∈ zws := zin1 (List.mem_of_getElem? (i := 58) rfl) rfl
set_option maxRecDepth 20000 in
theorem zw_110 : (.fieldLink RX10 (216) "ToldOver$Reader" "please" "I" : Cond) ∈ zws := zin1 (List.mem_of_getElem? (i := 59) rfl) rfl
set_option maxRecDepth 20000 in
theorem zw_111 : (.fieldLink RX5 (16) "ToldOver$Reader" "row" "[I" : Cond) ∈ zws := zin1 (List.mem_of_getElem? (i := 60) rfl) rfl
set_option maxRecDepth 20000 in
theorem zw_112 : (.fieldLink RX5 (20) "ToldOver$Reader" "from" "I" : Cond) ∈ zws := zin1 (List.mem_of_getElem? (i := 61) rfl) rfl
set_option maxRecDepth 20000 in
theorem zw_113 : (.fieldLink RX5 (24) "ToldOver$Reader" "at" "I" : Cond) ∈ zws := zin1 (List.mem_of_getElem? (i := 62) rfl) rfl
set_option maxRecDepth 20000 in
theorem zw_114 : (.fieldLink RX5 (27) "ToldOver$Reader" "end" "I" : Cond) ∈ zws := zin1 (List.mem_of_getElem? (i := 63) rfl) rfl
set_option maxRecDepth 20000 in
theorem zv_130 : (.classLink RX10 (25) RX8 : Cond) ∈ lw_tbl := zil1 (List.mem_of_getElem? (i := 79) rfl)
set_option maxRecDepth 20000 in
theorem zv_131 : (.instantiable RX8 (3) : Cond) ∈ lw_tbl := zil1 (List.mem_of_getElem? (i := 80) rfl)
set_option maxRecDepth 20000 in
theorem zv_132 : (.methodLinkNest RX10 (27) yX8_init RX10 : Cond) ∈ lw_tbl := zil1 (List.mem_of_getElem? (i := 81) rfl)
set_option maxRecDepth 20000 in
theorem zw_133 : (.instanceMethod yX8_init : Cond) ∈ zws := zin1 (List.mem_of_getElem? (i := 82) rfl) rfl
set_option maxRecDepth 20000 in
theorem zw_134 : (.code yX8_init cX8_init (1) (none : Option Jvm.ClassFile.FieldType) : Cond) ∈ zws := zin1 (List.mem_of_getElem? (i := 83) rfl) rfl
set_option maxRecDepth 20000 in
theorem zw_135 : (.methodLink RX8 (3) objectInit : Cond) ∈ zws := zin1 (List.mem_of_getElem? (i := 84) rfl) rfl
set_option maxRecDepth 20000 in
theorem zv_136 : (.classLink RX8 (9) "[[I" : Cond) ∈ lw_tbl := zil1 (List.mem_of_getElem? (i := 85) rfl)
set_option maxRecDepth 20000 in
theorem zw_137 : (.fieldLink RX8 (20) "ToldOver$Tongues" "words" "I" : Cond) ∈ zws := zin1 (List.mem_of_getElem? (i := 86) rfl) rfl
set_option maxRecDepth 20000 in
theorem zw_138 : (.fieldLink RX3 (27) "ToldOver$Tongues" "words" "I" : Cond) ∈ zws := zin1 (List.mem_of_getElem? (i := 87) rfl) rfl
set_option maxRecDepth 20000 in
theorem zw_139 : (.fieldLink RX10 (128) "ToldOver$Tongues" "words" "I" : Cond) ∈ zws := zin1 (List.mem_of_getElem? (i := 88) rfl) rfl
set_option maxRecDepth 20000 in
theorem zw_140 : (.fieldLink RX1 (32) "ToldOver$Tongues" "words" "I" : Cond) ∈ zws := zin1 (List.mem_of_getElem? (i := 89) rfl) rfl
set_option maxRecDepth 20000 in
theorem zw_141 : (.fieldLink RX8 (11) "ToldOver$Tongues" "told" "[[I" : Cond) ∈ zws := zin1 (List.mem_of_getElem? (i := 90) rfl) rfl
set_option maxRecDepth 20000 in
theorem zw_142 : (.fieldLink RX8 (16) "ToldOver$Tongues" "meanings" "[I" : Cond) ∈ zws := zin1 (List.mem_of_getElem? (i := 91) rfl) rfl
set_option maxRecDepth 20000 in
theorem zv_150 : (.classLink RX10 (32) RX2 : Cond) ∈ lw_tbl := zil1 (List.mem_of_getElem? (i := 99) rfl)
set_option maxRecDepth 20000 in
theorem zv_151 : (.instantiable RX2 (4) : Cond) ∈ lw_tbl := zil1 (List.mem_of_getElem? (i := 100) rfl)
set_option maxRecDepth 20000 in
theorem zv_152 : (.methodLinkNest RX10 (34) yX2_init RX10 : Cond) ∈ lw_tbl := zil1 (List.mem_of_getElem? (i := 101) rfl)
set_option maxRecDepth 20000 in
theorem zw_153 : (.instanceMethod yX2_init : Cond) ∈ zws := zin1 (List.mem_of_getElem? (i := 102) rfl) rfl
set_option maxRecDepth 20000 in
theorem zw_154 : (.code yX2_init cX2_init (1) (none : Option Jvm.ClassFile.FieldType) : Cond) ∈ zws := zin1 (List.mem_of_getElem? (i := 103) rfl) rfl
set_option maxRecDepth 20000 in
theorem zw_155 : (.methodLink RX2 (3) objectInit : Cond) ∈ zws := zin1 (List.mem_of_getElem? (i := 104) rfl) rfl
set_option maxRecDepth 20000 in
theorem zw_156 : (.fieldLink RX2 (11) "ToldOver$Crew" "kinds" "[I" : Cond) ∈ zws := zin1 (List.mem_of_getElem? (i := 105) rfl) rfl
set_option maxRecDepth 20000 in
theorem zw_157 : (.fieldLink RX10 (164) "ToldOver$Crew" "kinds" "[I" : Cond) ∈ zws := zin1 (List.mem_of_getElem? (i := 106) rfl) rfl
set_option maxRecDepth 20000 in
theorem zw_158 : (.fieldLink RX2 (15) "ToldOver$Crew" "tired" "[I" : Cond) ∈ zws := zin1 (List.mem_of_getElem? (i := 107) rfl) rfl
set_option maxRecDepth 20000 in
theorem zw_159 : (.fieldLink RX10 (168) "ToldOver$Crew" "tired" "[I" : Cond) ∈ zws := zin1 (List.mem_of_getElem? (i := 108) rfl) rfl
set_option maxRecDepth 20000 in
theorem zw_160 : (.fieldLink RX2 (18) "ToldOver$Crew" "count" "I" : Cond) ∈ zws := zin1 (List.mem_of_getElem? (i := 109) rfl) rfl
set_option maxRecDepth 20000 in
theorem zw_161 : (.fieldLink RX10 (346) "ToldOver$Crew" "count" "I" : Cond) ∈ zws := zin1 (List.mem_of_getElem? (i := 110) rfl) rfl
set_option maxRecDepth 20000 in
theorem zw_162 : (.fieldLink RX2 (40) "ToldOver$Crew" "marks" "I" : Cond) ∈ zws := zin1 (List.mem_of_getElem? (i := 111) rfl) rfl
set_option maxRecDepth 20000 in
theorem zw_163 : (.fieldLink RX10 (343) "ToldOver$Crew" "marks" "I" : Cond) ∈ zws := zin1 (List.mem_of_getElem? (i := 112) rfl) rfl
set_option maxRecDepth 20000 in
theorem zv_173 : (.classLink RX10 (39) RX9 : Cond) ∈ lw_tbl := zil1 (List.mem_of_getElem? (i := 122) rfl)
set_option maxRecDepth 20000 in
theorem zv_174 : (.instantiable RX9 (3) : Cond) ∈ lw_tbl := zil1 (List.mem_of_getElem? (i := 123) rfl)
set_option maxRecDepth 20000 in
theorem zv_175 : (.methodLinkNest RX10 (41) yX9_init RX10 : Cond) ∈ lw_tbl := zil1 (List.mem_of_getElem? (i := 124) rfl)
set_option maxRecDepth 20000 in
theorem zw_176 : (.instanceMethod yX9_init : Cond) ∈ zws := zin1 (List.mem_of_getElem? (i := 125) rfl) rfl
set_option maxRecDepth 20000 in
theorem zw_177 : (.code yX9_init cX9_init (1) (none : Option Jvm.ClassFile.FieldType) : Cond) ∈ zws := zin1 (List.mem_of_getElem? (i := 126) rfl) rfl
set_option maxRecDepth 20000 in
theorem zw_178 : (.methodLink RX9 (3) objectInit : Cond) ∈ zws := zin1 (List.mem_of_getElem? (i := 127) rfl) rfl
set_option maxRecDepth 20000 in
theorem zv_179 : (.classLink RX9 (9) "[[I" : Cond) ∈ lw_tbl := zil1 (List.mem_of_getElem? (i := 128) rfl)
set_option maxRecDepth 20000 in
theorem zw_180 : (.fieldLink RX9 (11) "ToldOver$Witness" "times" "[[I" : Cond) ∈ zws := zin1 (List.mem_of_getElem? (i := 129) rfl) rfl
set_option maxRecDepth 20000 in
theorem zw_181 : (.fieldLink RX3 (62) "ToldOver$Witness" "times" "[[I" : Cond) ∈ zws := zin1 (List.mem_of_getElem? (i := 130) rfl) rfl
set_option maxRecDepth 20000 in
theorem zw_182 : (.fieldLink RX10 (226) "ToldOver$Witness" "times" "[[I" : Cond) ∈ zws := zin1 (List.mem_of_getElem? (i := 131) rfl) rfl
set_option maxRecDepth 20000 in
theorem zw_183 : (.fieldLink RX9 (16) "ToldOver$Witness" "present" "Z" : Cond) ∈ zws := zin1 (List.mem_of_getElem? (i := 132) rfl) rfl
set_option maxRecDepth 20000 in
theorem zw_184 : (.fieldLink RX10 (222) "ToldOver$Witness" "present" "Z" : Cond) ∈ zws := zin1 (List.mem_of_getElem? (i := 133) rfl) rfl
set_option maxRecDepth 20000 in
theorem zw_185 : (.fieldLink RX9 (20) "ToldOver$Witness" "please" "I" : Cond) ∈ zws := zin1 (List.mem_of_getElem? (i := 134) rfl) rfl
set_option maxRecDepth 20000 in
theorem zw_186 : (.fieldLink RX10 (347) "ToldOver$Witness" "please" "I" : Cond) ∈ zws := zin1 (List.mem_of_getElem? (i := 135) rfl) rfl
set_option maxRecDepth 20000 in
theorem zv_194 : (.classLink RX10 (46) RX3 : Cond) ∈ lw_tbl := zil1 (List.mem_of_getElem? (i := 143) rfl)
set_option maxRecDepth 20000 in
theorem zv_195 : (.instantiable RX3 (4) : Cond) ∈ lw_tbl := zil1 (List.mem_of_getElem? (i := 144) rfl)
set_option maxRecDepth 20000 in
theorem zw_196 : (.methodLink RX10 (48) yX3_init : Cond) ∈ zws := zin1 (List.mem_of_getElem? (i := 145) rfl) rfl
set_option maxRecDepth 20000 in
theorem zw_197 : (.instanceMethod yX3_init : Cond) ∈ zws := zin1 (List.mem_of_getElem? (i := 146) rfl) rfl
set_option maxRecDepth 20000 in
theorem zw_198 : (.code yX3_init cX3_init (3) (none : Option Jvm.ClassFile.FieldType) : Cond) ∈ zws := zin1 (List.mem_of_getElem? (i := 147) rfl) rfl
set_option maxRecDepth 20000 in
theorem zw_199 : (.methodLink RX3 (3) objectInit : Cond) ∈ zws := zin1 (List.mem_of_getElem? (i := 148) rfl) rfl
set_option maxRecDepth 20000 in
theorem zv_200 : (.classLink RX3 (9) "[[I" : Cond) ∈ lw_tbl := zil1 (List.mem_of_getElem? (i := 149) rfl)
set_option maxRecDepth 20000 in
theorem zw_201 : (.fieldLink RX3 (19) "ToldOver$Hearing" "speech" "LToldOver$Tongues;" : Cond) ∈ zws := zin1 (List.mem_of_getElem? (i := 150) rfl) rfl
set_option maxRecDepth 20000 in
theorem zw_202 : (.fieldLink RX3 (23) "ToldOver$Hearing" "stand" "LToldOver$Witness;" : Cond) ∈ zws := zin1 (List.mem_of_getElem? (i := 151) rfl) rfl
set_option maxRecDepth 20000 in
theorem zw_203 : (.fieldLink RX3 (11) "ToldOver$Hearing" "there" "[[I" : Cond) ∈ zws := zin1 (List.mem_of_getElem? (i := 152) rfl) rfl
set_option maxRecDepth 20000 in
theorem zw_204 : (.fieldLink RX3 (16) "ToldOver$Hearing" "home" "[[I" : Cond) ∈ zws := zin1 (List.mem_of_getElem? (i := 153) rfl) rfl
set_option maxRecDepth 20000 in
theorem zv_214 : (.classLink RX10 (55) RX1 : Cond) ∈ lw_tbl := zil1 (List.mem_of_getElem? (i := 163) rfl)
set_option maxRecDepth 20000 in
theorem zv_215 : (.instantiable RX1 (4) : Cond) ∈ lw_tbl := zil1 (List.mem_of_getElem? (i := 164) rfl)
set_option maxRecDepth 20000 in
theorem zv_216 : (.methodLinkNest RX10 (57) yX1_init RX10 : Cond) ∈ lw_tbl := zil1 (List.mem_of_getElem? (i := 165) rfl)
set_option maxRecDepth 20000 in
theorem zw_217 : (.instanceMethod yX1_init : Cond) ∈ zws := zin1 (List.mem_of_getElem? (i := 166) rfl) rfl
set_option maxRecDepth 20000 in
theorem zw_218 : (.code yX1_init cX1_init (1) (none : Option Jvm.ClassFile.FieldType) : Cond) ∈ zws := zin1 (List.mem_of_getElem? (i := 167) rfl) rfl
set_option maxRecDepth 20000 in
theorem zw_219 : (.methodLink RX1 (3) objectInit : Cond) ∈ zws := zin1 (List.mem_of_getElem? (i := 168) rfl) rfl
set_option maxRecDepth 20000 in
theorem zw_220 : (.fieldLink RX1 (22) "ToldOver$Chain" "whole" "J" : Cond) ∈ zws := zin1 (List.mem_of_getElem? (i := 169) rfl) rfl
set_option maxRecDepth 20000 in
theorem zw_221 : (.fieldLink RX10 (205) "ToldOver$Chain" "whole" "J" : Cond) ∈ zws := zin1 (List.mem_of_getElem? (i := 170) rfl) rfl
set_option maxRecDepth 20000 in
theorem zw_222 : (.fieldLink RX1 (9) "ToldOver$Chain" "now" "[J" : Cond) ∈ zws := zin1 (List.mem_of_getElem? (i := 171) rfl) rfl
set_option maxRecDepth 20000 in
theorem zw_223 : (.fieldLink RX1 (15) "ToldOver$Chain" "next" "[J" : Cond) ∈ zws := zin1 (List.mem_of_getElem? (i := 172) rfl) rfl
set_option maxRecDepth 20000 in
theorem zw_224 : (.fieldLink RX1 (18) "ToldOver$Chain" "carried" "[I" : Cond) ∈ zws := zin1 (List.mem_of_getElem? (i := 173) rfl) rfl
set_option maxRecDepth 20000 in
theorem zv_234 : (.arrayClass .long : Cond) ∈ lw_tbl := zil1 (List.mem_of_getElem? (i := 183) rfl)
set_option maxRecDepth 20000 in
theorem zv_235 : (.classLink RX10 (62) RX4 : Cond) ∈ lw_tbl := zil1 (List.mem_of_getElem? (i := 184) rfl)
set_option maxRecDepth 20000 in
theorem zv_236 : (.instantiable RX4 (4) : Cond) ∈ lw_tbl := zil1 (List.mem_of_getElem? (i := 185) rfl)
set_option maxRecDepth 20000 in
theorem zv_237 : (.methodLinkNest RX10 (64) yX4_init RX10 : Cond) ∈ lw_tbl := zil1 (List.mem_of_getElem? (i := 186) rfl)
set_option maxRecDepth 20000 in
theorem zw_238 : (.instanceMethod yX4_init : Cond) ∈ zws := zin1 (List.mem_of_getElem? (i := 187) rfl) rfl
set_option maxRecDepth 20000 in
theorem zw_239 : (.code yX4_init cX4_init (1) (none : Option Jvm.ClassFile.FieldType) : Cond) ∈ zws := zin1 (List.mem_of_getElem? (i := 188) rfl) rfl
set_option maxRecDepth 20000 in
theorem zw_240 : (.methodLink RX4 (1) objectInit : Cond) ∈ zws := zin1 (List.mem_of_getElem? (i := 189) rfl) rfl
set_option maxRecDepth 20000 in
theorem zv_241 : (.classLink RX4 (9) "[[I" : Cond) ∈ lw_tbl := zil1 (List.mem_of_getElem? (i := 190) rfl)
set_option maxRecDepth 20000 in
theorem zw_242 : (.fieldLink RX4 (11) "ToldOver$Protocol" "lines" "[[I" : Cond) ∈ zws := zin1 (List.mem_of_getElem? (i := 191) rfl) rfl
set_option maxRecDepth 20000 in
theorem zw_243 : (.fieldLink RX10 (271) "ToldOver$Protocol" "lines" "[[I" : Cond) ∈ zws := zin1 (List.mem_of_getElem? (i := 192) rfl) rfl
set_option maxRecDepth 20000 in
theorem zw_244 : (.fieldLink RX4 (18) "ToldOver$Protocol" "count" "I" : Cond) ∈ zws := zin1 (List.mem_of_getElem? (i := 193) rfl) rfl
set_option maxRecDepth 20000 in
theorem zw_245 : (.fieldLink RX10 (268) "ToldOver$Protocol" "count" "I" : Cond) ∈ zws := zin1 (List.mem_of_getElem? (i := 194) rfl) rfl
set_option maxRecDepth 20000 in
theorem zw_246 : (.fieldLink RX4 (28) "ToldOver$Protocol" "whole" "J" : Cond) ∈ zws := zin1 (List.mem_of_getElem? (i := 195) rfl) rfl
set_option maxRecDepth 20000 in
theorem zw_247 : (.fieldLink RX10 (281) "ToldOver$Protocol" "whole" "J" : Cond) ∈ zws := zin1 (List.mem_of_getElem? (i := 196) rfl) rfl
set_option maxRecDepth 20000 in
theorem zw_248 : (.fieldLink RX4 (14) "ToldOver$Protocol" "trueOnes" "[J" : Cond) ∈ zws := zin1 (List.mem_of_getElem? (i := 197) rfl) rfl
set_option maxRecDepth 20000 in
theorem zv_258 : (.classLink RX10 (69) RX7 : Cond) ∈ lw_tbl := zil1 (List.mem_of_getElem? (i := 207) rfl)
set_option maxRecDepth 20000 in
theorem zv_259 : (.instantiable RX7 (4) : Cond) ∈ lw_tbl := zil1 (List.mem_of_getElem? (i := 208) rfl)
set_option maxRecDepth 20000 in
theorem zv_260 : (.methodLinkNest RX10 (71) yX7_init RX10 : Cond) ∈ lw_tbl := zil1 (List.mem_of_getElem? (i := 209) rfl)
set_option maxRecDepth 20000 in
theorem zw_261 : (.instanceMethod yX7_init : Cond) ∈ zws := zin1 (List.mem_of_getElem? (i := 210) rfl) rfl
set_option maxRecDepth 20000 in
theorem zw_262 : (.code yX7_init cX7_init (1) (none : Option Jvm.ClassFile.FieldType) : Cond) ∈ zws := zin1 (List.mem_of_getElem? (i := 211) rfl) rfl
set_option maxRecDepth 20000 in
theorem zw_263 : (.methodLink RX7 (7) objectInit : Cond) ∈ zws := zin1 (List.mem_of_getElem? (i := 212) rfl) rfl
set_option maxRecDepth 20000 in
theorem zw_264 : (.fieldLink RX7 (13) "ToldOver$Shifts" "now" "[J" : Cond) ∈ zws := zin1 (List.mem_of_getElem? (i := 213) rfl) rfl
set_option maxRecDepth 20000 in
theorem zw_265 : (.fieldLink RX7 (17) "ToldOver$Shifts" "next" "[J" : Cond) ∈ zws := zin1 (List.mem_of_getElem? (i := 214) rfl) rfl
set_option maxRecDepth 20000 in
theorem zw_266 : (.fieldLink RX7 (20) "ToldOver$Shifts" "plannedFor" "I" : Cond) ∈ zws := zin1 (List.mem_of_getElem? (i := 215) rfl) rfl
set_option maxRecDepth 20000 in
theorem zw_267 : (.fieldLink RX7 (40) "ToldOver$Shifts" "planned" "J" : Cond) ∈ zws := zin1 (List.mem_of_getElem? (i := 216) rfl) rfl
set_option maxRecDepth 20000 in
theorem zv_277 : (.classLink RX10 (76) RX0 : Cond) ∈ lw_tbl := zil1 (List.mem_of_getElem? (i := 226) rfl)
set_option maxRecDepth 20000 in
theorem zv_278 : (.instantiable RX0 (3) : Cond) ∈ lw_tbl := zil1 (List.mem_of_getElem? (i := 227) rfl)
set_option maxRecDepth 20000 in
theorem zv_279 : (.methodLinkNest RX10 (78) yX0_init RX10 : Cond) ∈ lw_tbl := zil1 (List.mem_of_getElem? (i := 228) rfl)
set_option maxRecDepth 20000 in
theorem zw_280 : (.instanceMethod yX0_init : Cond) ∈ zws := zin1 (List.mem_of_getElem? (i := 229) rfl) rfl
set_option maxRecDepth 20000 in
theorem zw_281 : (.code yX0_init cX0_init (1) (none : Option Jvm.ClassFile.FieldType) : Cond) ∈ zws := zin1 (List.mem_of_getElem? (i := 230) rfl) rfl
set_option maxRecDepth 20000 in
theorem zw_282 : (.methodLink RX0 (1) objectInit : Cond) ∈ zws := zin1 (List.mem_of_getElem? (i := 231) rfl) rfl
set_option maxRecDepth 20000 in
theorem zw_283 : (.fieldLink RX0 (7) "ToldOver$Booth" "end" "I" : Cond) ∈ zws := zin1 (List.mem_of_getElem? (i := 232) rfl) rfl
set_option maxRecDepth 20000 in
theorem zw_284 : (.fieldLink RX10 (301) "ToldOver$Booth" "end" "I" : Cond) ∈ zws := zin1 (List.mem_of_getElem? (i := 233) rfl) rfl
set_option maxRecDepth 20000 in
theorem zw_285 : (.fieldLink RX0 (13) "ToldOver$Booth" "held" "I" : Cond) ∈ zws := zin1 (List.mem_of_getElem? (i := 234) rfl) rfl
set_option maxRecDepth 20000 in
theorem zw_286 : (.fieldLink RX10 (304) "ToldOver$Booth" "held" "I" : Cond) ∈ zws := zin1 (List.mem_of_getElem? (i := 235) rfl) rfl
set_option maxRecDepth 20000 in
theorem zw_287 : (.fieldLink RX0 (16) "ToldOver$Booth" "behind" "I" : Cond) ∈ zws := zin1 (List.mem_of_getElem? (i := 236) rfl) rfl
set_option maxRecDepth 20000 in
theorem zw_288 : (.fieldLink RX10 (307) "ToldOver$Booth" "behind" "I" : Cond) ∈ zws := zin1 (List.mem_of_getElem? (i := 237) rfl) rfl
set_option maxRecDepth 20000 in
theorem zw_296 : (.fieldLink RX10 (14) "ToldOver" "sheets" "LToldOver$Sheets;" : Cond) ∈ zws := zin2 (List.mem_of_getElem? (i := 5) rfl) rfl
set_option maxRecDepth 20000 in
theorem zw_297 : (.fieldLink RX10 (21) "ToldOver" "reader" "LToldOver$Reader;" : Cond) ∈ zws := zin2 (List.mem_of_getElem? (i := 6) rfl) rfl
set_option maxRecDepth 20000 in
theorem zw_298 : (.fieldLink RX10 (28) "ToldOver" "speech" "LToldOver$Tongues;" : Cond) ∈ zws := zin2 (List.mem_of_getElem? (i := 7) rfl) rfl
set_option maxRecDepth 20000 in
theorem zw_299 : (.fieldLink RX10 (35) "ToldOver" "crew" "LToldOver$Crew;" : Cond) ∈ zws := zin2 (List.mem_of_getElem? (i := 8) rfl) rfl
set_option maxRecDepth 20000 in
theorem zw_300 : (.fieldLink RX10 (42) "ToldOver" "stand" "LToldOver$Witness;" : Cond) ∈ zws := zin2 (List.mem_of_getElem? (i := 9) rfl) rfl
set_option maxRecDepth 20000 in
theorem zw_301 : (.fieldLink RX10 (51) "ToldOver" "hearing" "LToldOver$Hearing;" : Cond) ∈ zws := zin2 (List.mem_of_getElem? (i := 10) rfl) rfl
set_option maxRecDepth 20000 in
theorem zw_302 : (.fieldLink RX10 (58) "ToldOver" "chain" "LToldOver$Chain;" : Cond) ∈ zws := zin2 (List.mem_of_getElem? (i := 11) rfl) rfl
set_option maxRecDepth 20000 in
theorem zw_303 : (.fieldLink RX10 (65) "ToldOver" "protocol" "LToldOver$Protocol;" : Cond) ∈ zws := zin2 (List.mem_of_getElem? (i := 12) rfl) rfl
set_option maxRecDepth 20000 in
theorem zw_304 : (.fieldLink RX10 (72) "ToldOver" "roster" "LToldOver$Shifts;" : Cond) ∈ zws := zin2 (List.mem_of_getElem? (i := 13) rfl) rfl
set_option maxRecDepth 20000 in
theorem zw_305 : (.fieldLink RX10 (79) "ToldOver" "cabin" "LToldOver$Booth;" : Cond) ∈ zws := zin2 (List.mem_of_getElem? (i := 14) rfl) rfl
set_option maxRecDepth 20000 in
theorem zw_306 : (.fieldLink RX10 (189) "ToldOver" "latestFault" "I" : Cond) ∈ zws := zin2 (List.mem_of_getElem? (i := 15) rfl) rfl
set_option maxRecDepth 20000 in
theorem zw_330 : (.methodLink RL (13) yX10_tongues : Cond) ∈ zws := zin2 (List.mem_of_getElem? (i := 39) rfl) rfl
set_option maxRecDepth 20000 in
theorem zw_331 : (.instanceMethod yX10_tongues : Cond) ∈ zws := zin2 (List.mem_of_getElem? (i := 40) rfl) rfl
set_option maxRecDepth 20000 in
theorem zw_332 : (.selects RX10 yX10_tongues yX10_tongues : Cond) ∈ zws := zin2 (List.mem_of_getElem? (i := 41) rfl) rfl
set_option maxRecDepth 20000 in
theorem zw_333 : (.code yX10_tongues cX10_tongues (7) (some .int) : Cond) ∈ zws := zin2 (List.mem_of_getElem? (i := 42) rfl) rfl
set_option maxRecDepth 20000 in
theorem zw_334 : (.methodLink RX10 (83) yX10_refuseRow : Cond) ∈ zws := zin2 (List.mem_of_getElem? (i := 43) rfl) rfl
set_option maxRecDepth 20000 in
theorem zw_336 : (.instanceMethod yX10_refuseRow : Cond) ∈ zws := zin2 (List.mem_of_getElem? (i := 45) rfl) rfl
set_option maxRecDepth 20000 in
theorem zw_337 : (.code yX10_refuseRow cX10_refuseRow (3) (some .int) : Cond) ∈ zws := zin2 (List.mem_of_getElem? (i := 46) rfl) rfl
set_option maxRecDepth 20000 in
theorem zw_338 : (.methodLink RX10 (192) yX6_has : Cond) ∈ zws := zin2 (List.mem_of_getElem? (i := 47) rfl) rfl
set_option maxRecDepth 20000 in
theorem zw_339 : (.instanceMethod yX6_has : Cond) ∈ zws := zin2 (List.mem_of_getElem? (i := 48) rfl) rfl
set_option maxRecDepth 20000 in
theorem zw_340 : (.selects RX6 yX6_has yX6_has : Cond) ∈ zws := zin2 (List.mem_of_getElem? (i := 49) rfl) rfl
set_option maxRecDepth 20000 in
theorem zw_341 : (.code yX6_has cX6_has (2) (some .boolean) : Cond) ∈ zws := zin2 (List.mem_of_getElem? (i := 50) rfl) rfl
set_option maxRecDepth 20000 in
theorem zw_342 : (.methodLink RX10 (193) yX10_isSort : Cond) ∈ zws := zin2 (List.mem_of_getElem? (i := 51) rfl) rfl
set_option maxRecDepth 20000 in
theorem zw_343 : (.static yX10_isSort : Cond) ∈ zws := zin2 (List.mem_of_getElem? (i := 52) rfl) rfl
set_option maxRecDepth 20000 in
theorem zw_344 : (.code yX10_isSort cX10_isSort (1) (some .boolean) : Cond) ∈ zws := zin2 (List.mem_of_getElem? (i := 53) rfl) rfl
set_option maxRecDepth 20000 in
theorem zw_345 : (.methodLink RX10 (87) yX6_faultOfCells : Cond) ∈ zws := zin2 (List.mem_of_getElem? (i := 54) rfl) rfl
set_option maxRecDepth 20000 in
theorem zw_346 : (.instanceMethod yX6_faultOfCells : Cond) ∈ zws := zin2 (List.mem_of_getElem? (i := 55) rfl) rfl
set_option maxRecDepth 20000 in
theorem zw_347 : (.selects RX6 yX6_faultOfCells yX6_faultOfCells : Cond) ∈ zws := zin2 (List.mem_of_getElem? (i := 56) rfl) rfl
set_option maxRecDepth 20000 in
theorem zw_348 : (.code yX6_faultOfCells cX6_faultOfCells (5) (some .int) : Cond) ∈ zws := zin2 (List.mem_of_getElem? (i := 57) rfl) rfl
set_option maxRecDepth 20000 in
theorem zw_349 : (.methodLink RX6 (29) yX6_isOtherSort : Cond) ∈ zws := zin2 (List.mem_of_getElem? (i := 58) rfl) rfl
set_option maxRecDepth 20000 in
theorem zw_350 : (.instanceMethod yX6_isOtherSort : Cond) ∈ zws := zin2 (List.mem_of_getElem? (i := 59) rfl) rfl
set_option maxRecDepth 20000 in
theorem zw_351 : (.selects RX6 yX6_isOtherSort yX6_isOtherSort : Cond) ∈ zws := zin2 (List.mem_of_getElem? (i := 60) rfl) rfl
set_option maxRecDepth 20000 in
theorem zw_352 : (.code yX6_isOtherSort cX6_isOtherSort (3) (some .boolean) : Cond) ∈ zws := zin2 (List.mem_of_getElem? (i := 61) rfl) rfl
set_option maxRecDepth 20000 in
theorem zw_353 : (.methodLink RX6 (33) yX6_areThere : Cond) ∈ zws := zin2 (List.mem_of_getElem? (i := 62) rfl) rfl
set_option maxRecDepth 20000 in
theorem zw_355 : (.instanceMethod yX6_areThere : Cond) ∈ zws := zin2 (List.mem_of_getElem? (i := 64) rfl) rfl
set_option maxRecDepth 20000 in
theorem zw_356 : (.code yX6_areThere cX6_areThere (4) (some .boolean) : Cond) ∈ zws := zin2 (List.mem_of_getElem? (i := 65) rfl) rfl
set_option maxRecDepth 20000 in
theorem zw_357 : (.methodLink RX10 (91) yX10_comeTo : Cond) ∈ zws := zin2 (List.mem_of_getElem? (i := 66) rfl) rfl
set_option maxRecDepth 20000 in
theorem zw_359 : (.instanceMethod yX10_comeTo : Cond) ∈ zws := zin2 (List.mem_of_getElem? (i := 68) rfl) rfl
set_option maxRecDepth 20000 in
theorem zw_360 : (.code yX10_comeTo cX10_comeTo (2) (some .int) : Cond) ∈ zws := zin2 (List.mem_of_getElem? (i := 69) rfl) rfl
set_option maxRecDepth 20000 in
theorem zw_361 : (.methodLink RX10 (99) yX5_open : Cond) ∈ zws := zin2 (List.mem_of_getElem? (i := 70) rfl) rfl
set_option maxRecDepth 20000 in
theorem zw_362 : (.instanceMethod yX5_open : Cond) ∈ zws := zin2 (List.mem_of_getElem? (i := 71) rfl) rfl
set_option maxRecDepth 20000 in
theorem zw_363 : (.selects RX5 yX5_open yX5_open : Cond) ∈ zws := zin2 (List.mem_of_getElem? (i := 72) rfl) rfl
set_option maxRecDepth 20000 in
theorem zw_364 : (.code yX5_open cX5_open (4) (none : Option Jvm.ClassFile.FieldType) : Cond) ∈ zws := zin2 (List.mem_of_getElem? (i := 73) rfl) rfl
set_option maxRecDepth 20000 in
theorem zw_365 : (.methodLink RX10 (103) yX5_readsTongues : Cond) ∈ zws := zin2 (List.mem_of_getElem? (i := 74) rfl) rfl
set_option maxRecDepth 20000 in
theorem zw_366 : (.instanceMethod yX5_readsTongues : Cond) ∈ zws := zin2 (List.mem_of_getElem? (i := 75) rfl) rfl
set_option maxRecDepth 20000 in
theorem zw_367 : (.selects RX5 yX5_readsTongues yX5_readsTongues : Cond) ∈ zws := zin2 (List.mem_of_getElem? (i := 76) rfl) rfl
set_option maxRecDepth 20000 in
theorem zw_368 : (.code yX5_readsTongues cX5_readsTongues (1) (some .boolean) : Cond) ∈ zws := zin2 (List.mem_of_getElem? (i := 77) rfl) rfl
set_option maxRecDepth 20000 in
theorem zw_369 : (.methodLink RX5 (30) yX5_takesSign : Cond) ∈ zws := zin2 (List.mem_of_getElem? (i := 78) rfl) rfl
set_option maxRecDepth 20000 in
theorem zw_371 : (.instanceMethod yX5_takesSign : Cond) ∈ zws := zin2 (List.mem_of_getElem? (i := 80) rfl) rfl
set_option maxRecDepth 20000 in
theorem zw_372 : (.code yX5_takesSign cX5_takesSign (2) (some .boolean) : Cond) ∈ zws := zin2 (List.mem_of_getElem? (i := 81) rfl) rfl
set_option maxRecDepth 20000 in
theorem zw_373 : (.methodLink RX5 (34) yX5_takeDigit : Cond) ∈ zws := zin2 (List.mem_of_getElem? (i := 82) rfl) rfl
set_option maxRecDepth 20000 in
theorem zw_375 : (.instanceMethod yX5_takeDigit : Cond) ∈ zws := zin2 (List.mem_of_getElem? (i := 84) rfl) rfl
set_option maxRecDepth 20000 in
theorem zw_376 : (.code yX5_takeDigit cX5_takeDigit (3) (some .int) : Cond) ∈ zws := zin2 (List.mem_of_getElem? (i := 85) rfl) rfl
set_option maxRecDepth 20000 in
theorem zw_377 : (.methodLink RX5 (41) yX5_takesTable : Cond) ∈ zws := zin2 (List.mem_of_getElem? (i := 86) rfl) rfl
set_option maxRecDepth 20000 in
theorem zw_379 : (.instanceMethod yX5_takesTable : Cond) ∈ zws := zin2 (List.mem_of_getElem? (i := 88) rfl) rfl
set_option maxRecDepth 20000 in
theorem zw_380 : (.code yX5_takesTable cX5_takesTable (4) (some .boolean) : Cond) ∈ zws := zin2 (List.mem_of_getElem? (i := 89) rfl) rfl
set_option maxRecDepth 20000 in
theorem zw_381 : (.methodLink RX5 (48) yX5_takesWord : Cond) ∈ zws := zin2 (List.mem_of_getElem? (i := 90) rfl) rfl
set_option maxRecDepth 20000 in
theorem zw_383 : (.instanceMethod yX5_takesWord : Cond) ∈ zws := zin2 (List.mem_of_getElem? (i := 92) rfl) rfl
set_option maxRecDepth 20000 in
theorem zw_384 : (.code yX5_takesWord cX5_takesWord (7) (some .boolean) : Cond) ∈ zws := zin2 (List.mem_of_getElem? (i := 93) rfl) rfl
set_option maxRecDepth 20000 in
theorem zw_385 : (.methodLink RX5 (52) Lib.Math.min.name : Cond) ∈ zws := zin2 (List.mem_of_getElem? (i := 94) rfl) rfl
set_option maxRecDepth 20000 in
theorem zw_386 : (.static Lib.Math.min.name : Cond) ∈ zws := zin2 (List.mem_of_getElem? (i := 95) rfl) rfl
set_option maxRecDepth 20000 in
theorem zw_387 : (.code Lib.Math.min.name Lib.Math.min.code (2) (some .int) : Cond) ∈ zws := zin2 (List.mem_of_getElem? (i := 96) rfl) rfl
set_option maxRecDepth 20000 in
theorem zw_388 : (.methodLink RX10 (107) yX5_place : Cond) ∈ zws := zin2 (List.mem_of_getElem? (i := 97) rfl) rfl
set_option maxRecDepth 20000 in
theorem zw_389 : (.instanceMethod yX5_place : Cond) ∈ zws := zin2 (List.mem_of_getElem? (i := 98) rfl) rfl
set_option maxRecDepth 20000 in
theorem zw_390 : (.selects RX5 yX5_place yX5_place : Cond) ∈ zws := zin2 (List.mem_of_getElem? (i := 99) rfl) rfl
set_option maxRecDepth 20000 in
theorem zw_391 : (.code yX5_place cX5_place (1) (some .int) : Cond) ∈ zws := zin2 (List.mem_of_getElem? (i := 100) rfl) rfl
set_option maxRecDepth 20000 in
theorem zw_392 : (.methodLink RX10 (118) yX8_take : Cond) ∈ zws := zin2 (List.mem_of_getElem? (i := 101) rfl) rfl
set_option maxRecDepth 20000 in
theorem zw_393 : (.instanceMethod yX8_take : Cond) ∈ zws := zin2 (List.mem_of_getElem? (i := 102) rfl) rfl
set_option maxRecDepth 20000 in
theorem zw_394 : (.selects RX8 yX8_take yX8_take : Cond) ∈ zws := zin2 (List.mem_of_getElem? (i := 103) rfl) rfl
set_option maxRecDepth 20000 in
theorem zw_395 : (.code yX8_take cX8_take (5) (none : Option Jvm.ClassFile.FieldType) : Cond) ∈ zws := zin2 (List.mem_of_getElem? (i := 104) rfl) rfl
set_option maxRecDepth 20000 in
theorem zw_396 : (.methodLink RX8 (24) yX8_takeWord : Cond) ∈ zws := zin2 (List.mem_of_getElem? (i := 105) rfl) rfl
set_option maxRecDepth 20000 in
theorem zw_398 : (.instanceMethod yX8_takeWord : Cond) ∈ zws := zin2 (List.mem_of_getElem? (i := 107) rfl) rfl
set_option maxRecDepth 20000 in
theorem zw_399 : (.code yX8_takeWord cX8_takeWord (6) (none : Option Jvm.ClassFile.FieldType) : Cond) ∈ zws := zin2 (List.mem_of_getElem? (i := 108) rfl) rfl
set_option maxRecDepth 20000 in
theorem zw_400 : (.methodLink RX10 (122) yX9_leave : Cond) ∈ zws := zin2 (List.mem_of_getElem? (i := 109) rfl) rfl
set_option maxRecDepth 20000 in
theorem zw_401 : (.instanceMethod yX9_leave : Cond) ∈ zws := zin2 (List.mem_of_getElem? (i := 110) rfl) rfl
set_option maxRecDepth 20000 in
theorem zw_402 : (.selects RX9 yX9_leave yX9_leave : Cond) ∈ zws := zin2 (List.mem_of_getElem? (i := 111) rfl) rfl
set_option maxRecDepth 20000 in
theorem zw_403 : (.code yX9_leave cX9_leave (1) (none : Option Jvm.ClassFile.FieldType) : Cond) ∈ zws := zin2 (List.mem_of_getElem? (i := 112) rfl) rfl
set_option maxRecDepth 20000 in
theorem zw_404 : (.methodLink RX10 (125) yX4_clear : Cond) ∈ zws := zin2 (List.mem_of_getElem? (i := 113) rfl) rfl
set_option maxRecDepth 20000 in
theorem zw_405 : (.instanceMethod yX4_clear : Cond) ∈ zws := zin2 (List.mem_of_getElem? (i := 114) rfl) rfl
set_option maxRecDepth 20000 in
theorem zw_406 : (.selects RX4 yX4_clear yX4_clear : Cond) ∈ zws := zin2 (List.mem_of_getElem? (i := 115) rfl) rfl
set_option maxRecDepth 20000 in
theorem zw_407 : (.code yX4_clear cX4_clear (1) (none : Option Jvm.ClassFile.FieldType) : Cond) ∈ zws := zin2 (List.mem_of_getElem? (i := 116) rfl) rfl
set_option maxRecDepth 20000 in
theorem zw_408 : (.methodLink RL (18) yX10_becomes : Cond) ∈ zws := zin2 (List.mem_of_getElem? (i := 117) rfl) rfl
set_option maxRecDepth 20000 in
theorem zw_409 : (.instanceMethod yX10_becomes : Cond) ∈ zws := zin2 (List.mem_of_getElem? (i := 118) rfl) rfl
set_option maxRecDepth 20000 in
theorem zw_410 : (.selects RX10 yX10_becomes yX10_becomes : Cond) ∈ zws := zin2 (List.mem_of_getElem? (i := 119) rfl) rfl
set_option maxRecDepth 20000 in
theorem zw_411 : (.code yX10_becomes cX10_becomes (4) (some .int) : Cond) ∈ zws := zin2 (List.mem_of_getElem? (i := 120) rfl) rfl
set_option maxRecDepth 20000 in
theorem zw_412 : (.methodLink RX10 (129) yX10_isWord : Cond) ∈ zws := zin2 (List.mem_of_getElem? (i := 121) rfl) rfl
set_option maxRecDepth 20000 in
theorem zw_414 : (.instanceMethod yX10_isWord : Cond) ∈ zws := zin2 (List.mem_of_getElem? (i := 123) rfl) rfl
set_option maxRecDepth 20000 in
theorem zw_415 : (.code yX10_isWord cX10_isWord (2) (some .boolean) : Cond) ∈ zws := zin2 (List.mem_of_getElem? (i := 124) rfl) rfl
set_option maxRecDepth 20000 in
theorem zw_416 : (.methodLink RX10 (133) yX10_isWordOrNothing : Cond) ∈ zws := zin2 (List.mem_of_getElem? (i := 125) rfl) rfl
set_option maxRecDepth 20000 in
theorem zw_418 : (.instanceMethod yX10_isWordOrNothing : Cond) ∈ zws := zin2 (List.mem_of_getElem? (i := 127) rfl) rfl
set_option maxRecDepth 20000 in
theorem zw_419 : (.code yX10_isWordOrNothing cX10_isWordOrNothing (2) (some .boolean) : Cond) ∈ zws := zin2 (List.mem_of_getElem? (i := 128) rfl) rfl
set_option maxRecDepth 20000 in
theorem zw_420 : (.methodLink RX10 (136) yX10_isWay : Cond) ∈ zws := zin2 (List.mem_of_getElem? (i := 129) rfl) rfl
set_option maxRecDepth 20000 in
theorem zw_421 : (.static yX10_isWay : Cond) ∈ zws := zin2 (List.mem_of_getElem? (i := 130) rfl) rfl
set_option maxRecDepth 20000 in
theorem zw_422 : (.code yX10_isWay cX10_isWay (1) (some .boolean) : Cond) ∈ zws := zin2 (List.mem_of_getElem? (i := 131) rfl) rfl
set_option maxRecDepth 20000 in
theorem zw_423 : (.methodLink RX10 (139) yX8_twelfths : Cond) ∈ zws := zin2 (List.mem_of_getElem? (i := 132) rfl) rfl
set_option maxRecDepth 20000 in
theorem zw_424 : (.instanceMethod yX8_twelfths : Cond) ∈ zws := zin2 (List.mem_of_getElem? (i := 133) rfl) rfl
set_option maxRecDepth 20000 in
theorem zw_425 : (.selects RX8 yX8_twelfths yX8_twelfths : Cond) ∈ zws := zin2 (List.mem_of_getElem? (i := 134) rfl) rfl
set_option maxRecDepth 20000 in
theorem zw_426 : (.code yX8_twelfths cX8_twelfths (4) (some .int) : Cond) ∈ zws := zin2 (List.mem_of_getElem? (i := 135) rfl) rfl
set_option maxRecDepth 20000 in
theorem zw_427 : (.methodLink RL (23) yX10_meant : Cond) ∈ zws := zin2 (List.mem_of_getElem? (i := 136) rfl) rfl
set_option maxRecDepth 20000 in
theorem zw_428 : (.instanceMethod yX10_meant : Cond) ∈ zws := zin2 (List.mem_of_getElem? (i := 137) rfl) rfl
set_option maxRecDepth 20000 in
theorem zw_429 : (.selects RX10 yX10_meant yX10_meant : Cond) ∈ zws := zin2 (List.mem_of_getElem? (i := 138) rfl) rfl
set_option maxRecDepth 20000 in
theorem zw_430 : (.code yX10_meant cX10_meant (3) (some .int) : Cond) ∈ zws := zin2 (List.mem_of_getElem? (i := 139) rfl) rfl
set_option maxRecDepth 20000 in
theorem zw_431 : (.methodLink RX10 (143) yX8_meaning : Cond) ∈ zws := zin2 (List.mem_of_getElem? (i := 140) rfl) rfl
set_option maxRecDepth 20000 in
theorem zw_432 : (.instanceMethod yX8_meaning : Cond) ∈ zws := zin2 (List.mem_of_getElem? (i := 141) rfl) rfl
set_option maxRecDepth 20000 in
theorem zw_433 : (.selects RX8 yX8_meaning yX8_meaning : Cond) ∈ zws := zin2 (List.mem_of_getElem? (i := 142) rfl) rfl
set_option maxRecDepth 20000 in
theorem zw_434 : (.code yX8_meaning cX8_meaning (3) (some .int) : Cond) ∈ zws := zin2 (List.mem_of_getElem? (i := 143) rfl) rfl
set_option maxRecDepth 20000 in
theorem zw_435 : (.methodLink RL (28) yX10_alike : Cond) ∈ zws := zin2 (List.mem_of_getElem? (i := 144) rfl) rfl
set_option maxRecDepth 20000 in
theorem zw_436 : (.instanceMethod yX10_alike : Cond) ∈ zws := zin2 (List.mem_of_getElem? (i := 145) rfl) rfl
set_option maxRecDepth 20000 in
theorem zw_437 : (.selects RX10 yX10_alike yX10_alike : Cond) ∈ zws := zin2 (List.mem_of_getElem? (i := 146) rfl) rfl
set_option maxRecDepth 20000 in
theorem zw_438 : (.code yX10_alike cX10_alike (3) (some .int) : Cond) ∈ zws := zin2 (List.mem_of_getElem? (i := 147) rfl) rfl
set_option maxRecDepth 20000 in
theorem zw_439 : (.methodLink RX10 (146) yX8_sameMeaning : Cond) ∈ zws := zin2 (List.mem_of_getElem? (i := 148) rfl) rfl
set_option maxRecDepth 20000 in
theorem zw_440 : (.instanceMethod yX8_sameMeaning : Cond) ∈ zws := zin2 (List.mem_of_getElem? (i := 149) rfl) rfl
set_option maxRecDepth 20000 in
theorem zw_441 : (.selects RX8 yX8_sameMeaning yX8_sameMeaning : Cond) ∈ zws := zin2 (List.mem_of_getElem? (i := 150) rfl) rfl
set_option maxRecDepth 20000 in
theorem zw_442 : (.code yX8_sameMeaning cX8_sameMeaning (5) (some .int) : Cond) ∈ zws := zin2 (List.mem_of_getElem? (i := 151) rfl) rfl
set_option maxRecDepth 20000 in
theorem zw_443 : (.methodLink RX8 (28) yX8_meaning : Cond) ∈ zws := zin2 (List.mem_of_getElem? (i := 152) rfl) rfl
set_option maxRecDepth 20000 in
theorem zw_444 : (.methodLink RL (32) yX10_interpreter : Cond) ∈ zws := zin2 (List.mem_of_getElem? (i := 153) rfl) rfl
set_option maxRecDepth 20000 in
theorem zw_445 : (.instanceMethod yX10_interpreter : Cond) ∈ zws := zin2 (List.mem_of_getElem? (i := 154) rfl) rfl
set_option maxRecDepth 20000 in
theorem zw_446 : (.selects RX10 yX10_interpreter yX10_interpreter : Cond) ∈ zws := zin2 (List.mem_of_getElem? (i := 155) rfl) rfl
set_option maxRecDepth 20000 in
theorem zw_447 : (.code yX10_interpreter cX10_interpreter (3) (some .int) : Cond) ∈ zws := zin2 (List.mem_of_getElem? (i := 156) rfl) rfl
set_option maxRecDepth 20000 in
theorem zw_448 : (.methodLink RX10 (149) yX10_isKind : Cond) ∈ zws := zin2 (List.mem_of_getElem? (i := 157) rfl) rfl
set_option maxRecDepth 20000 in
theorem zw_449 : (.static yX10_isKind : Cond) ∈ zws := zin2 (List.mem_of_getElem? (i := 158) rfl) rfl
set_option maxRecDepth 20000 in
theorem zw_450 : (.code yX10_isKind cX10_isKind (1) (some .boolean) : Cond) ∈ zws := zin2 (List.mem_of_getElem? (i := 159) rfl) rfl
set_option maxRecDepth 20000 in
theorem zw_451 : (.methodLink RX10 (152) yX10_isTired : Cond) ∈ zws := zin2 (List.mem_of_getElem? (i := 160) rfl) rfl
set_option maxRecDepth 20000 in
theorem zw_452 : (.static yX10_isTired : Cond) ∈ zws := zin2 (List.mem_of_getElem? (i := 161) rfl) rfl
set_option maxRecDepth 20000 in
theorem zw_453 : (.code yX10_isTired cX10_isTired (1) (some .boolean) : Cond) ∈ zws := zin2 (List.mem_of_getElem? (i := 162) rfl) rfl
set_option maxRecDepth 20000 in
theorem zw_454 : (.methodLink RX10 (155) yX2_isFull : Cond) ∈ zws := zin2 (List.mem_of_getElem? (i := 163) rfl) rfl
set_option maxRecDepth 20000 in
theorem zw_455 : (.instanceMethod yX2_isFull : Cond) ∈ zws := zin2 (List.mem_of_getElem? (i := 164) rfl) rfl
set_option maxRecDepth 20000 in
theorem zw_456 : (.selects RX2 yX2_isFull yX2_isFull : Cond) ∈ zws := zin2 (List.mem_of_getElem? (i := 165) rfl) rfl
set_option maxRecDepth 20000 in
theorem zw_457 : (.code yX2_isFull cX2_isFull (1) (some .boolean) : Cond) ∈ zws := zin2 (List.mem_of_getElem? (i := 166) rfl) rfl
set_option maxRecDepth 20000 in
theorem zw_458 : (.methodLink RX10 (158) yX2_hire : Cond) ∈ zws := zin2 (List.mem_of_getElem? (i := 167) rfl) rfl
set_option maxRecDepth 20000 in
theorem zw_459 : (.instanceMethod yX2_hire : Cond) ∈ zws := zin2 (List.mem_of_getElem? (i := 168) rfl) rfl
set_option maxRecDepth 20000 in
theorem zw_460 : (.selects RX2 yX2_hire yX2_hire : Cond) ∈ zws := zin2 (List.mem_of_getElem? (i := 169) rfl) rfl
set_option maxRecDepth 20000 in
theorem zw_461 : (.code yX2_hire cX2_hire (3) (some .int) : Cond) ∈ zws := zin2 (List.mem_of_getElem? (i := 170) rfl) rfl
set_option maxRecDepth 20000 in
theorem zw_462 : (.methodLink RL (36) yX10_ofInterpreter : Cond) ∈ zws := zin2 (List.mem_of_getElem? (i := 171) rfl) rfl
set_option maxRecDepth 20000 in
theorem zw_463 : (.instanceMethod yX10_ofInterpreter : Cond) ∈ zws := zin2 (List.mem_of_getElem? (i := 172) rfl) rfl
set_option maxRecDepth 20000 in
theorem zw_464 : (.selects RX10 yX10_ofInterpreter yX10_ofInterpreter : Cond) ∈ zws := zin2 (List.mem_of_getElem? (i := 173) rfl) rfl
set_option maxRecDepth 20000 in
theorem zw_465 : (.code yX10_ofInterpreter cX10_ofInterpreter (3) (some .int) : Cond) ∈ zws := zin2 (List.mem_of_getElem? (i := 174) rfl) rfl
set_option maxRecDepth 20000 in
theorem zw_466 : (.methodLink RX10 (161) yX2_has : Cond) ∈ zws := zin2 (List.mem_of_getElem? (i := 175) rfl) rfl
set_option maxRecDepth 20000 in
theorem zw_467 : (.instanceMethod yX2_has : Cond) ∈ zws := zin2 (List.mem_of_getElem? (i := 176) rfl) rfl
set_option maxRecDepth 20000 in
theorem zw_468 : (.selects RX2 yX2_has yX2_has : Cond) ∈ zws := zin2 (List.mem_of_getElem? (i := 177) rfl) rfl
set_option maxRecDepth 20000 in
theorem zw_469 : (.code yX2_has cX2_has (2) (some .boolean) : Cond) ∈ zws := zin2 (List.mem_of_getElem? (i := 178) rfl) rfl
set_option maxRecDepth 20000 in
theorem zw_470 : (.methodLink RL (40) yX10_tire : Cond) ∈ zws := zin2 (List.mem_of_getElem? (i := 179) rfl) rfl
set_option maxRecDepth 20000 in
theorem zw_471 : (.instanceMethod yX10_tire : Cond) ∈ zws := zin2 (List.mem_of_getElem? (i := 180) rfl) rfl
set_option maxRecDepth 20000 in
theorem zw_472 : (.selects RX10 yX10_tire yX10_tire : Cond) ∈ zws := zin2 (List.mem_of_getElem? (i := 181) rfl) rfl
set_option maxRecDepth 20000 in
theorem zw_473 : (.code yX10_tire cX10_tire (4) (some .int) : Cond) ∈ zws := zin2 (List.mem_of_getElem? (i := 182) rfl) rfl
set_option maxRecDepth 20000 in
theorem zw_474 : (.methodLink RL (44) yX10_carries : Cond) ∈ zws := zin2 (List.mem_of_getElem? (i := 183) rfl) rfl
set_option maxRecDepth 20000 in
theorem zw_475 : (.instanceMethod yX10_carries : Cond) ∈ zws := zin2 (List.mem_of_getElem? (i := 184) rfl) rfl
set_option maxRecDepth 20000 in
theorem zw_476 : (.selects RX10 yX10_carries yX10_carries : Cond) ∈ zws := zin2 (List.mem_of_getElem? (i := 185) rfl) rfl
set_option maxRecDepth 20000 in
theorem zw_477 : (.code yX10_carries cX10_carries (5) (some .int) : Cond) ∈ zws := zin2 (List.mem_of_getElem? (i := 186) rfl) rfl
set_option maxRecDepth 20000 in
theorem zw_478 : (.methodLink RX10 (171) yX1_begin : Cond) ∈ zws := zin2 (List.mem_of_getElem? (i := 187) rfl) rfl
set_option maxRecDepth 20000 in
theorem zw_479 : (.instanceMethod yX1_begin : Cond) ∈ zws := zin2 (List.mem_of_getElem? (i := 188) rfl) rfl
set_option maxRecDepth 20000 in
theorem zw_480 : (.selects RX1 yX1_begin yX1_begin : Cond) ∈ zws := zin2 (List.mem_of_getElem? (i := 189) rfl) rfl
set_option maxRecDepth 20000 in
theorem zw_481 : (.code yX1_begin cX1_begin (2) (none : Option Jvm.ClassFile.FieldType) : Cond) ∈ zws := zin2 (List.mem_of_getElem? (i := 190) rfl) rfl
set_option maxRecDepth 20000 in
theorem zw_482 : (.methodLink RX1 (26) yJ7_fill_d0a16 : Cond) ∈ zws := zin2 (List.mem_of_getElem? (i := 191) rfl) rfl
set_option maxRecDepth 20000 in
theorem zw_483 : (.static yJ7_fill_d0a16 : Cond) ∈ zws := zin2 (List.mem_of_getElem? (i := 192) rfl) rfl
set_option maxRecDepth 20000 in
theorem zw_484 : (.code yJ7_fill_d0a16 cJ7_fill_d0a16 (5) (none : Option Jvm.ClassFile.FieldType) : Cond) ∈ zws := zin2 (List.mem_of_getElem? (i := 193) rfl) rfl
set_option maxRecDepth 20000 in
theorem zw_485 : (.methodLink RX10 (175) yX1_hand : Cond) ∈ zws := zin2 (List.mem_of_getElem? (i := 194) rfl) rfl
set_option maxRecDepth 20000 in
theorem zw_486 : (.instanceMethod yX1_hand : Cond) ∈ zws := zin2 (List.mem_of_getElem? (i := 195) rfl) rfl
set_option maxRecDepth 20000 in
theorem zw_487 : (.selects RX1 yX1_hand yX1_hand : Cond) ∈ zws := zin2 (List.mem_of_getElem? (i := 196) rfl) rfl
set_option maxRecDepth 20000 in
theorem zw_488 : (.code yX1_hand cX1_hand (7) (none : Option Jvm.ClassFile.FieldType) : Cond) ∈ zws := zin2 (List.mem_of_getElem? (i := 197) rfl) rfl
set_option maxRecDepth 20000 in
theorem zw_489 : (.methodLink RX1 (38) yX8_carry : Cond) ∈ zws := zin2 (List.mem_of_getElem? (i := 198) rfl) rfl
set_option maxRecDepth 20000 in
theorem zw_490 : (.instanceMethod yX8_carry : Cond) ∈ zws := zin2 (List.mem_of_getElem? (i := 199) rfl) rfl
set_option maxRecDepth 20000 in
theorem zw_491 : (.selects RX8 yX8_carry yX8_carry : Cond) ∈ zws := zin2 (List.mem_of_getElem? (i := 200) rfl) rfl
set_option maxRecDepth 20000 in
theorem zw_492 : (.code yX8_carry cX8_carry (11) (none : Option Jvm.ClassFile.FieldType) : Cond) ∈ zws := zin2 (List.mem_of_getElem? (i := 201) rfl) rfl
set_option maxRecDepth 20000 in
theorem zw_493 : (.constantLong RX1 (42) (144) : Cond) ∈ zws := zin2 (List.mem_of_getElem? (i := 202) rfl) rfl
set_option maxRecDepth 20000 in
theorem zw_494 : (.methodLink RX10 (179) yX1_timesAs : Cond) ∈ zws := zin2 (List.mem_of_getElem? (i := 203) rfl) rfl
set_option maxRecDepth 20000 in
theorem zw_495 : (.instanceMethod yX1_timesAs : Cond) ∈ zws := zin2 (List.mem_of_getElem? (i := 204) rfl) rfl
set_option maxRecDepth 20000 in
theorem zw_496 : (.selects RX1 yX1_timesAs yX1_timesAs : Cond) ∈ zws := zin2 (List.mem_of_getElem? (i := 205) rfl) rfl
set_option maxRecDepth 20000 in
theorem zw_497 : (.code yX1_timesAs cX1_timesAs (6) (some .long) : Cond) ∈ zws := zin2 (List.mem_of_getElem? (i := 206) rfl) rfl
set_option maxRecDepth 20000 in
theorem zw_498 : (.methodLink RL (48) yX10_returns : Cond) ∈ zws := zin2 (List.mem_of_getElem? (i := 207) rfl) rfl
set_option maxRecDepth 20000 in
theorem zw_499 : (.instanceMethod yX10_returns : Cond) ∈ zws := zin2 (List.mem_of_getElem? (i := 208) rfl) rfl
set_option maxRecDepth 20000 in
theorem zw_500 : (.selects RX10 yX10_returns yX10_returns : Cond) ∈ zws := zin2 (List.mem_of_getElem? (i := 209) rfl) rfl
set_option maxRecDepth 20000 in
theorem zw_501 : (.code yX10_returns cX10_returns (4) (some .int) : Cond) ∈ zws := zin2 (List.mem_of_getElem? (i := 210) rfl) rfl
set_option maxRecDepth 20000 in
theorem zw_502 : (.methodLink RX10 (183) yX10_otherWay : Cond) ∈ zws := zin2 (List.mem_of_getElem? (i := 211) rfl) rfl
set_option maxRecDepth 20000 in
theorem zw_503 : (.static yX10_otherWay : Cond) ∈ zws := zin2 (List.mem_of_getElem? (i := 212) rfl) rfl
set_option maxRecDepth 20000 in
theorem zw_504 : (.code yX10_otherWay cX10_otherWay (1) (some .int) : Cond) ∈ zws := zin2 (List.mem_of_getElem? (i := 213) rfl) rfl
set_option maxRecDepth 20000 in
theorem zw_505 : (.methodLink RX10 (186) yX1_likeliest : Cond) ∈ zws := zin2 (List.mem_of_getElem? (i := 214) rfl) rfl
set_option maxRecDepth 20000 in
theorem zw_506 : (.instanceMethod yX1_likeliest : Cond) ∈ zws := zin2 (List.mem_of_getElem? (i := 215) rfl) rfl
set_option maxRecDepth 20000 in
theorem zw_507 : (.selects RX1 yX1_likeliest yX1_likeliest : Cond) ∈ zws := zin2 (List.mem_of_getElem? (i := 216) rfl) rfl
set_option maxRecDepth 20000 in
theorem zw_508 : (.code yX1_likeliest cX1_likeliest (4) (some .int) : Cond) ∈ zws := zin2 (List.mem_of_getElem? (i := 217) rfl) rfl
set_option maxRecDepth 20000 in
theorem zw_509 : (.methodLink RL (52) yX10_hands : Cond) ∈ zws := zin2 (List.mem_of_getElem? (i := 218) rfl) rfl
set_option maxRecDepth 20000 in
theorem zw_510 : (.instanceMethod yX10_hands : Cond) ∈ zws := zin2 (List.mem_of_getElem? (i := 219) rfl) rfl
set_option maxRecDepth 20000 in
theorem zw_511 : (.selects RX10 yX10_hands yX10_hands : Cond) ∈ zws := zin2 (List.mem_of_getElem? (i := 220) rfl) rfl
set_option maxRecDepth 20000 in
theorem zw_512 : (.code yX10_hands cX10_hands (12) (some .long) : Cond) ∈ zws := zin2 (List.mem_of_getElem? (i := 221) rfl) rfl
set_option maxRecDepth 20000 in
theorem zw_513 : (.constantLong RX10 (196) (-9223372036854775808) : Cond) ∈ zws := zin2 (List.mem_of_getElem? (i := 222) rfl) rfl
set_option maxRecDepth 20000 in
theorem zw_514 : (.methodLink RX10 (198) yX2_hasAll : Cond) ∈ zws := zin2 (List.mem_of_getElem? (i := 223) rfl) rfl
set_option maxRecDepth 20000 in
theorem zw_515 : (.instanceMethod yX2_hasAll : Cond) ∈ zws := zin2 (List.mem_of_getElem? (i := 224) rfl) rfl
set_option maxRecDepth 20000 in
theorem zw_516 : (.selects RX2 yX2_hasAll yX2_hasAll : Cond) ∈ zws := zin2 (List.mem_of_getElem? (i := 225) rfl) rfl
set_option maxRecDepth 20000 in
theorem zw_517 : (.code yX2_hasAll cX2_hasAll (5) (some .boolean) : Cond) ∈ zws := zin2 (List.mem_of_getElem? (i := 226) rfl) rfl
set_option maxRecDepth 20000 in
theorem zw_518 : (.methodLink RX2 (22) yX2_has : Cond) ∈ zws := zin2 (List.mem_of_getElem? (i := 227) rfl) rfl
set_option maxRecDepth 20000 in
theorem zw_519 : (.methodLink RX10 (202) yX10_isWhich : Cond) ∈ zws := zin2 (List.mem_of_getElem? (i := 228) rfl) rfl
set_option maxRecDepth 20000 in
theorem zw_520 : (.static yX10_isWhich : Cond) ∈ zws := zin2 (List.mem_of_getElem? (i := 229) rfl) rfl
set_option maxRecDepth 20000 in
theorem zw_521 : (.code yX10_isWhich cX10_isWhich (1) (some .boolean) : Cond) ∈ zws := zin2 (List.mem_of_getElem? (i := 230) rfl) rfl
set_option maxRecDepth 20000 in
theorem zw_522 : (.methodLink RX10 (209) yX10_inLeastTerms : Cond) ∈ zws := zin2 (List.mem_of_getElem? (i := 231) rfl) rfl
set_option maxRecDepth 20000 in
theorem zw_523 : (.static yX10_inLeastTerms : Cond) ∈ zws := zin2 (List.mem_of_getElem? (i := 232) rfl) rfl
set_option maxRecDepth 20000 in
theorem zw_524 : (.code yX10_inLeastTerms cX10_inLeastTerms (7) (some .long) : Cond) ∈ zws := zin2 (List.mem_of_getElem? (i := 233) rfl) rfl
set_option maxRecDepth 20000 in
theorem zw_525 : (.methodLink RX10 (348) yX10_greatestCommon : Cond) ∈ zws := zin2 (List.mem_of_getElem? (i := 234) rfl) rfl
set_option maxRecDepth 20000 in
theorem zw_526 : (.static yX10_greatestCommon : Cond) ∈ zws := zin2 (List.mem_of_getElem? (i := 235) rfl) rfl
set_option maxRecDepth 20000 in
theorem zw_527 : (.code yX10_greatestCommon cX10_greatestCommon (11) (some .long) : Cond) ∈ zws := zin2 (List.mem_of_getElem? (i := 236) rfl) rfl
set_option maxRecDepth 20000 in
theorem zw_528 : (.methodLink RL (57) yX10_witness : Cond) ∈ zws := zin2 (List.mem_of_getElem? (i := 237) rfl) rfl
set_option maxRecDepth 20000 in
theorem zw_529 : (.instanceMethod yX10_witness : Cond) ∈ zws := zin2 (List.mem_of_getElem? (i := 238) rfl) rfl
set_option maxRecDepth 20000 in
theorem zw_530 : (.selects RX10 yX10_witness yX10_witness : Cond) ∈ zws := zin2 (List.mem_of_getElem? (i := 239) rfl) rfl
set_option maxRecDepth 20000 in
theorem zw_531 : (.code yX10_witness cX10_witness (7) (some .int) : Cond) ∈ zws := zin3 (List.mem_of_getElem? (i := 0) rfl) rfl
set_option maxRecDepth 20000 in
theorem zw_532 : (.methodLink RX10 (213) yX5_readsWitness : Cond) ∈ zws := zin3 (List.mem_of_getElem? (i := 1) rfl) rfl
set_option maxRecDepth 20000 in
theorem zw_533 : (.instanceMethod yX5_readsWitness : Cond) ∈ zws := zin3 (List.mem_of_getElem? (i := 2) rfl) rfl
set_option maxRecDepth 20000 in
theorem zw_534 : (.selects RX5 yX5_readsWitness yX5_readsWitness : Cond) ∈ zws := zin3 (List.mem_of_getElem? (i := 3) rfl) rfl
set_option maxRecDepth 20000 in
theorem zw_535 : (.code yX5_readsWitness cX5_readsWitness (2) (some .boolean) : Cond) ∈ zws := zin3 (List.mem_of_getElem? (i := 4) rfl) rfl
set_option maxRecDepth 20000 in
theorem zw_536 : (.methodLink RX10 (219) yX9_take : Cond) ∈ zws := zin3 (List.mem_of_getElem? (i := 5) rfl) rfl
set_option maxRecDepth 20000 in
theorem zw_537 : (.instanceMethod yX9_take : Cond) ∈ zws := zin3 (List.mem_of_getElem? (i := 6) rfl) rfl
set_option maxRecDepth 20000 in
theorem zw_538 : (.selects RX9 yX9_take yX9_take : Cond) ∈ zws := zin3 (List.mem_of_getElem? (i := 7) rfl) rfl
set_option maxRecDepth 20000 in
theorem zw_539 : (.code yX9_take cX9_take (7) (none : Option Jvm.ClassFile.FieldType) : Cond) ∈ zws := zin3 (List.mem_of_getElem? (i := 8) rfl) rfl
set_option maxRecDepth 20000 in
theorem zw_540 : (.methodLink RL (61) yX10_answers : Cond) ∈ zws := zin3 (List.mem_of_getElem? (i := 9) rfl) rfl
set_option maxRecDepth 20000 in
theorem zw_541 : (.instanceMethod yX10_answers : Cond) ∈ zws := zin3 (List.mem_of_getElem? (i := 10) rfl) rfl
set_option maxRecDepth 20000 in
theorem zw_542 : (.selects RX10 yX10_answers yX10_answers : Cond) ∈ zws := zin3 (List.mem_of_getElem? (i := 11) rfl) rfl
set_option maxRecDepth 20000 in
theorem zw_543 : (.code yX10_answers cX10_answers (3) (some .int) : Cond) ∈ zws := zin3 (List.mem_of_getElem? (i := 12) rfl) rfl
set_option maxRecDepth 20000 in
theorem zw_544 : (.methodLink RL (65) yX10_heard : Cond) ∈ zws := zin3 (List.mem_of_getElem? (i := 13) rfl) rfl
set_option maxRecDepth 20000 in
theorem zw_545 : (.instanceMethod yX10_heard : Cond) ∈ zws := zin3 (List.mem_of_getElem? (i := 14) rfl) rfl
set_option maxRecDepth 20000 in
theorem zw_546 : (.selects RX10 yX10_heard yX10_heard : Cond) ∈ zws := zin3 (List.mem_of_getElem? (i := 15) rfl) rfl
set_option maxRecDepth 20000 in
theorem zw_547 : (.code yX10_heard cX10_heard (6) (some .long) : Cond) ∈ zws := zin3 (List.mem_of_getElem? (i := 16) rfl) rfl
set_option maxRecDepth 20000 in
theorem zw_548 : (.methodLink RX10 (229) yX3_through : Cond) ∈ zws := zin3 (List.mem_of_getElem? (i := 17) rfl) rfl
set_option maxRecDepth 20000 in
theorem zw_549 : (.instanceMethod yX3_through : Cond) ∈ zws := zin3 (List.mem_of_getElem? (i := 18) rfl) rfl
set_option maxRecDepth 20000 in
theorem zw_550 : (.selects RX3 yX3_through yX3_through : Cond) ∈ zws := zin3 (List.mem_of_getElem? (i := 19) rfl) rfl
set_option maxRecDepth 20000 in
theorem zw_551 : (.code yX3_through cX3_through (4) (none : Option Jvm.ClassFile.FieldType) : Cond) ∈ zws := zin3 (List.mem_of_getElem? (i := 20) rfl) rfl
set_option maxRecDepth 20000 in
theorem zw_552 : (.methodLink RX3 (33) yX8_carry : Cond) ∈ zws := zin3 (List.mem_of_getElem? (i := 21) rfl) rfl
set_option maxRecDepth 20000 in
theorem zw_553 : (.methodLink RX10 (233) yX3_nothing : Cond) ∈ zws := zin3 (List.mem_of_getElem? (i := 22) rfl) rfl
set_option maxRecDepth 20000 in
theorem zw_554 : (.instanceMethod yX3_nothing : Cond) ∈ zws := zin3 (List.mem_of_getElem? (i := 23) rfl) rfl
set_option maxRecDepth 20000 in
theorem zw_555 : (.selects RX3 yX3_nothing yX3_nothing : Cond) ∈ zws := zin3 (List.mem_of_getElem? (i := 24) rfl) rfl
set_option maxRecDepth 20000 in
theorem zw_556 : (.code yX3_nothing cX3_nothing (4) (some .int) : Cond) ∈ zws := zin3 (List.mem_of_getElem? (i := 25) rfl) rfl
set_option maxRecDepth 20000 in
theorem zw_557 : (.constant RX3 (41) (2985984) : Cond) ∈ zws := zin3 (List.mem_of_getElem? (i := 26) rfl) rfl
set_option maxRecDepth 20000 in
theorem zw_558 : (.methodLink RX3 (42) yX3_heardTimes : Cond) ∈ zws := zin3 (List.mem_of_getElem? (i := 27) rfl) rfl
set_option maxRecDepth 20000 in
theorem zw_559 : (.instanceMethod yX3_heardTimes : Cond) ∈ zws := zin3 (List.mem_of_getElem? (i := 28) rfl) rfl
set_option maxRecDepth 20000 in
theorem zw_560 : (.selects RX3 yX3_heardTimes yX3_heardTimes : Cond) ∈ zws := zin3 (List.mem_of_getElem? (i := 29) rfl) rfl
set_option maxRecDepth 20000 in
theorem zw_561 : (.code yX3_heardTimes cX3_heardTimes (5) (some .int) : Cond) ∈ zws := zin3 (List.mem_of_getElem? (i := 30) rfl) rfl
set_option maxRecDepth 20000 in
theorem zw_562 : (.methodLink RX3 (37) yX3_saidAndHeard : Cond) ∈ zws := zin3 (List.mem_of_getElem? (i := 31) rfl) rfl
set_option maxRecDepth 20000 in
theorem zw_564 : (.instanceMethod yX3_saidAndHeard : Cond) ∈ zws := zin3 (List.mem_of_getElem? (i := 33) rfl) rfl
set_option maxRecDepth 20000 in
theorem zw_565 : (.code yX3_saidAndHeard cX3_saidAndHeard (6) (some .int) : Cond) ∈ zws := zin3 (List.mem_of_getElem? (i := 34) rfl) rfl
set_option maxRecDepth 20000 in
theorem zw_566 : (.methodLink RX3 (49) yX3_passing : Cond) ∈ zws := zin3 (List.mem_of_getElem? (i := 35) rfl) rfl
set_option maxRecDepth 20000 in
theorem zw_568 : (.instanceMethod yX3_passing : Cond) ∈ zws := zin3 (List.mem_of_getElem? (i := 37) rfl) rfl
set_option maxRecDepth 20000 in
theorem zw_569 : (.code yX3_passing cX3_passing (5) (some .int) : Cond) ∈ zws := zin3 (List.mem_of_getElem? (i := 38) rfl) rfl
set_option maxRecDepth 20000 in
theorem zw_570 : (.methodLink RX10 (236) yX3_heardTimes : Cond) ∈ zws := zin3 (List.mem_of_getElem? (i := 39) rfl) rfl
set_option maxRecDepth 20000 in
theorem zw_571 : (.constantLong RX10 (239) (2985984) : Cond) ∈ zws := zin3 (List.mem_of_getElem? (i := 40) rfl) rfl
set_option maxRecDepth 20000 in
theorem zw_572 : (.methodLink RL (70) yX10_reached : Cond) ∈ zws := zin3 (List.mem_of_getElem? (i := 41) rfl) rfl
set_option maxRecDepth 20000 in
theorem zw_573 : (.instanceMethod yX10_reached : Cond) ∈ zws := zin3 (List.mem_of_getElem? (i := 42) rfl) rfl
set_option maxRecDepth 20000 in
theorem zw_574 : (.selects RX10 yX10_reached yX10_reached : Cond) ∈ zws := zin3 (List.mem_of_getElem? (i := 43) rfl) rfl
set_option maxRecDepth 20000 in
theorem zw_575 : (.code yX10_reached cX10_reached (6) (some .long) : Cond) ∈ zws := zin3 (List.mem_of_getElem? (i := 44) rfl) rfl
set_option maxRecDepth 20000 in
theorem zw_576 : (.methodLink RX10 (241) yX10_refusesHeard : Cond) ∈ zws := zin3 (List.mem_of_getElem? (i := 45) rfl) rfl
set_option maxRecDepth 20000 in
theorem zw_578 : (.instanceMethod yX10_refusesHeard : Cond) ∈ zws := zin3 (List.mem_of_getElem? (i := 47) rfl) rfl
set_option maxRecDepth 20000 in
theorem zw_579 : (.code yX10_refusesHeard cX10_refusesHeard (5) (some .boolean) : Cond) ∈ zws := zin3 (List.mem_of_getElem? (i := 48) rfl) rfl
set_option maxRecDepth 20000 in
theorem zw_580 : (.methodLink RX10 (245) yX3_reachedTimes : Cond) ∈ zws := zin3 (List.mem_of_getElem? (i := 49) rfl) rfl
set_option maxRecDepth 20000 in
theorem zw_581 : (.instanceMethod yX3_reachedTimes : Cond) ∈ zws := zin3 (List.mem_of_getElem? (i := 50) rfl) rfl
set_option maxRecDepth 20000 in
theorem zw_582 : (.selects RX3 yX3_reachedTimes yX3_reachedTimes : Cond) ∈ zws := zin3 (List.mem_of_getElem? (i := 51) rfl) rfl
set_option maxRecDepth 20000 in
theorem zw_583 : (.code yX3_reachedTimes cX3_reachedTimes (6) (some .int) : Cond) ∈ zws := zin3 (List.mem_of_getElem? (i := 52) rfl) rfl
set_option maxRecDepth 20000 in
theorem zw_584 : (.methodLink RX3 (46) yX8_meaning : Cond) ∈ zws := zin3 (List.mem_of_getElem? (i := 53) rfl) rfl
set_option maxRecDepth 20000 in
theorem zw_585 : (.methodLink RL (74) yX10_said : Cond) ∈ zws := zin3 (List.mem_of_getElem? (i := 54) rfl) rfl
set_option maxRecDepth 20000 in
theorem zw_586 : (.instanceMethod yX10_said : Cond) ∈ zws := zin3 (List.mem_of_getElem? (i := 55) rfl) rfl
set_option maxRecDepth 20000 in
theorem zw_587 : (.selects RX10 yX10_said yX10_said : Cond) ∈ zws := zin3 (List.mem_of_getElem? (i := 56) rfl) rfl
set_option maxRecDepth 20000 in
theorem zw_588 : (.code yX10_said cX10_said (6) (some .long) : Cond) ∈ zws := zin3 (List.mem_of_getElem? (i := 57) rfl) rfl
set_option maxRecDepth 20000 in
theorem zw_589 : (.methodLink RX10 (248) yX3_saidTimes : Cond) ∈ zws := zin3 (List.mem_of_getElem? (i := 58) rfl) rfl
set_option maxRecDepth 20000 in
theorem zw_590 : (.instanceMethod yX3_saidTimes : Cond) ∈ zws := zin3 (List.mem_of_getElem? (i := 59) rfl) rfl
set_option maxRecDepth 20000 in
theorem zw_591 : (.selects RX3 yX3_saidTimes yX3_saidTimes : Cond) ∈ zws := zin3 (List.mem_of_getElem? (i := 60) rfl) rfl
set_option maxRecDepth 20000 in
theorem zw_592 : (.code yX3_saidTimes cX3_saidTimes (5) (some .int) : Cond) ∈ zws := zin3 (List.mem_of_getElem? (i := 61) rfl) rfl
set_option maxRecDepth 20000 in
theorem zw_593 : (.methodLink RL (78) yX10_over : Cond) ∈ zws := zin3 (List.mem_of_getElem? (i := 62) rfl) rfl
set_option maxRecDepth 20000 in
theorem zw_594 : (.instanceMethod yX10_over : Cond) ∈ zws := zin3 (List.mem_of_getElem? (i := 63) rfl) rfl
set_option maxRecDepth 20000 in
theorem zw_595 : (.selects RX10 yX10_over yX10_over : Cond) ∈ zws := zin3 (List.mem_of_getElem? (i := 64) rfl) rfl
set_option maxRecDepth 20000 in
theorem zw_596 : (.code yX10_over cX10_over (4) (some .long) : Cond) ∈ zws := zin3 (List.mem_of_getElem? (i := 65) rfl) rfl
set_option maxRecDepth 20000 in
theorem zw_597 : (.methodLink RX10 (251) yX3_overTimes : Cond) ∈ zws := zin3 (List.mem_of_getElem? (i := 66) rfl) rfl
set_option maxRecDepth 20000 in
theorem zw_598 : (.instanceMethod yX3_overTimes : Cond) ∈ zws := zin3 (List.mem_of_getElem? (i := 67) rfl) rfl
set_option maxRecDepth 20000 in
theorem zw_599 : (.selects RX3 yX3_overTimes yX3_overTimes : Cond) ∈ zws := zin3 (List.mem_of_getElem? (i := 68) rfl) rfl
set_option maxRecDepth 20000 in
theorem zw_600 : (.code yX3_overTimes cX3_overTimes (5) (some .int) : Cond) ∈ zws := zin3 (List.mem_of_getElem? (i := 69) rfl) rfl
set_option maxRecDepth 20000 in
theorem zw_601 : (.methodLink RL (83) yX10_ask : Cond) ∈ zws := zin3 (List.mem_of_getElem? (i := 70) rfl) rfl
set_option maxRecDepth 20000 in
theorem zw_602 : (.instanceMethod yX10_ask : Cond) ∈ zws := zin3 (List.mem_of_getElem? (i := 71) rfl) rfl
set_option maxRecDepth 20000 in
theorem zw_603 : (.selects RX10 yX10_ask yX10_ask : Cond) ∈ zws := zin3 (List.mem_of_getElem? (i := 72) rfl) rfl
set_option maxRecDepth 20000 in
theorem zw_604 : (.code yX10_ask cX10_ask (3) (some .int) : Cond) ∈ zws := zin3 (List.mem_of_getElem? (i := 73) rfl) rfl
set_option maxRecDepth 20000 in
theorem zw_605 : (.methodLink RX10 (254) yX3_bestOver : Cond) ∈ zws := zin3 (List.mem_of_getElem? (i := 74) rfl) rfl
set_option maxRecDepth 20000 in
theorem zw_606 : (.instanceMethod yX3_bestOver : Cond) ∈ zws := zin3 (List.mem_of_getElem? (i := 75) rfl) rfl
set_option maxRecDepth 20000 in
theorem zw_607 : (.selects RX3 yX3_bestOver yX3_bestOver : Cond) ∈ zws := zin3 (List.mem_of_getElem? (i := 76) rfl) rfl
set_option maxRecDepth 20000 in
theorem zw_608 : (.code yX3_bestOver cX3_bestOver (6) (some .int) : Cond) ∈ zws := zin3 (List.mem_of_getElem? (i := 77) rfl) rfl
set_option maxRecDepth 20000 in
theorem zw_609 : (.methodLink RX3 (53) yX3_overTimes : Cond) ∈ zws := zin3 (List.mem_of_getElem? (i := 78) rfl) rfl
set_option maxRecDepth 20000 in
theorem zw_610 : (.methodLink RL (87) yX10_turn : Cond) ∈ zws := zin3 (List.mem_of_getElem? (i := 79) rfl) rfl
set_option maxRecDepth 20000 in
theorem zw_611 : (.instanceMethod yX10_turn : Cond) ∈ zws := zin3 (List.mem_of_getElem? (i := 80) rfl) rfl
set_option maxRecDepth 20000 in
theorem zw_612 : (.selects RX10 yX10_turn yX10_turn : Cond) ∈ zws := zin3 (List.mem_of_getElem? (i := 81) rfl) rfl
set_option maxRecDepth 20000 in
theorem zw_613 : (.code yX10_turn cX10_turn (7) (some .int) : Cond) ∈ zws := zin3 (List.mem_of_getElem? (i := 82) rfl) rfl
set_option maxRecDepth 20000 in
theorem zw_614 : (.methodLink RX10 (257) yX4_isFull : Cond) ∈ zws := zin3 (List.mem_of_getElem? (i := 83) rfl) rfl
set_option maxRecDepth 20000 in
theorem zw_615 : (.instanceMethod yX4_isFull : Cond) ∈ zws := zin3 (List.mem_of_getElem? (i := 84) rfl) rfl
set_option maxRecDepth 20000 in
theorem zw_616 : (.selects RX4 yX4_isFull yX4_isFull : Cond) ∈ zws := zin3 (List.mem_of_getElem? (i := 85) rfl) rfl
set_option maxRecDepth 20000 in
theorem zw_617 : (.code yX4_isFull cX4_isFull (1) (some .boolean) : Cond) ∈ zws := zin3 (List.mem_of_getElem? (i := 86) rfl) rfl
set_option maxRecDepth 20000 in
theorem zw_618 : (.methodLink RX10 (258) yX4_nextLine : Cond) ∈ zws := zin3 (List.mem_of_getElem? (i := 87) rfl) rfl
set_option maxRecDepth 20000 in
theorem zw_619 : (.instanceMethod yX4_nextLine : Cond) ∈ zws := zin3 (List.mem_of_getElem? (i := 88) rfl) rfl
set_option maxRecDepth 20000 in
theorem zw_620 : (.selects RX4 yX4_nextLine yX4_nextLine : Cond) ∈ zws := zin3 (List.mem_of_getElem? (i := 89) rfl) rfl
set_option maxRecDepth 20000 in
theorem zw_621 : (.code yX4_nextLine cX4_nextLine (1) (some (.array .int)) : Cond) ∈ zws := zin3 (List.mem_of_getElem? (i := 90) rfl) rfl
set_option maxRecDepth 20000 in
theorem zw_622 : (.methodLink RX10 (262) yX3_truth : Cond) ∈ zws := zin3 (List.mem_of_getElem? (i := 91) rfl) rfl
set_option maxRecDepth 20000 in
theorem zw_623 : (.instanceMethod yX3_truth : Cond) ∈ zws := zin3 (List.mem_of_getElem? (i := 92) rfl) rfl
set_option maxRecDepth 20000 in
theorem zw_624 : (.selects RX3 yX3_truth yX3_truth : Cond) ∈ zws := zin3 (List.mem_of_getElem? (i := 93) rfl) rfl
set_option maxRecDepth 20000 in
theorem zw_625 : (.code yX3_truth cX3_truth (4) (some .int) : Cond) ∈ zws := zin3 (List.mem_of_getElem? (i := 94) rfl) rfl
set_option maxRecDepth 20000 in
theorem zw_626 : (.constantLong RX3 (57) (1000) : Cond) ∈ zws := zin3 (List.mem_of_getElem? (i := 95) rfl) rfl
set_option maxRecDepth 20000 in
theorem zw_627 : (.methodLink RX3 (59) yX3_saidTimes : Cond) ∈ zws := zin3 (List.mem_of_getElem? (i := 96) rfl) rfl
set_option maxRecDepth 20000 in
theorem zw_628 : (.methodLink RX10 (265) yX4_keepLine : Cond) ∈ zws := zin3 (List.mem_of_getElem? (i := 97) rfl) rfl
set_option maxRecDepth 20000 in
theorem zw_629 : (.instanceMethod yX4_keepLine : Cond) ∈ zws := zin3 (List.mem_of_getElem? (i := 98) rfl) rfl
set_option maxRecDepth 20000 in
theorem zw_630 : (.selects RX4 yX4_keepLine yX4_keepLine : Cond) ∈ zws := zin3 (List.mem_of_getElem? (i := 99) rfl) rfl
set_option maxRecDepth 20000 in
theorem zw_631 : (.code yX4_keepLine cX4_keepLine (1) (some .int) : Cond) ∈ zws := zin3 (List.mem_of_getElem? (i := 100) rfl) rfl
set_option maxRecDepth 20000 in
theorem zw_632 : (.methodLink RL (92) yX10_ofTurn : Cond) ∈ zws := zin3 (List.mem_of_getElem? (i := 101) rfl) rfl
set_option maxRecDepth 20000 in
theorem zw_633 : (.instanceMethod yX10_ofTurn : Cond) ∈ zws := zin3 (List.mem_of_getElem? (i := 102) rfl) rfl
set_option maxRecDepth 20000 in
theorem zw_634 : (.selects RX10 yX10_ofTurn yX10_ofTurn : Cond) ∈ zws := zin3 (List.mem_of_getElem? (i := 103) rfl) rfl
set_option maxRecDepth 20000 in
theorem zw_635 : (.code yX10_ofTurn cX10_ofTurn (3) (some .int) : Cond) ∈ zws := zin3 (List.mem_of_getElem? (i := 104) rfl) rfl
set_option maxRecDepth 20000 in
theorem zw_636 : (.methodLink RL (96) yX10_back : Cond) ∈ zws := zin3 (List.mem_of_getElem? (i := 105) rfl) rfl
set_option maxRecDepth 20000 in
theorem zw_637 : (.instanceMethod yX10_back : Cond) ∈ zws := zin3 (List.mem_of_getElem? (i := 106) rfl) rfl
set_option maxRecDepth 20000 in
theorem zw_638 : (.selects RX10 yX10_back yX10_back : Cond) ∈ zws := zin3 (List.mem_of_getElem? (i := 107) rfl) rfl
set_option maxRecDepth 20000 in
theorem zw_639 : (.code yX10_back cX10_back (2) (some .int) : Cond) ∈ zws := zin3 (List.mem_of_getElem? (i := 108) rfl) rfl
set_option maxRecDepth 20000 in
theorem zw_640 : (.methodLink RL (101) yX10_wrong : Cond) ∈ zws := zin3 (List.mem_of_getElem? (i := 109) rfl) rfl
set_option maxRecDepth 20000 in
theorem zw_641 : (.instanceMethod yX10_wrong : Cond) ∈ zws := zin3 (List.mem_of_getElem? (i := 110) rfl) rfl
set_option maxRecDepth 20000 in
theorem zw_642 : (.selects RX10 yX10_wrong yX10_wrong : Cond) ∈ zws := zin3 (List.mem_of_getElem? (i := 111) rfl) rfl
set_option maxRecDepth 20000 in
theorem zw_643 : (.code yX10_wrong cX10_wrong (3) (some .long) : Cond) ∈ zws := zin3 (List.mem_of_getElem? (i := 112) rfl) rfl
set_option maxRecDepth 20000 in
theorem zw_644 : (.methodLink RX10 (274) yX4_weighYes : Cond) ∈ zws := zin3 (List.mem_of_getElem? (i := 113) rfl) rfl
set_option maxRecDepth 20000 in
theorem zw_645 : (.instanceMethod yX4_weighYes : Cond) ∈ zws := zin3 (List.mem_of_getElem? (i := 114) rfl) rfl
set_option maxRecDepth 20000 in
theorem zw_646 : (.selects RX4 yX4_weighYes yX4_weighYes : Cond) ∈ zws := zin3 (List.mem_of_getElem? (i := 115) rfl) rfl
set_option maxRecDepth 20000 in
theorem zw_647 : (.code yX4_weighYes cX4_weighYes (2) (none : Option Jvm.ClassFile.FieldType) : Cond) ∈ zws := zin3 (List.mem_of_getElem? (i := 116) rfl) rfl
set_option maxRecDepth 20000 in
theorem zw_648 : (.methodLink RX4 (22) yJ7_fill_d0a16 : Cond) ∈ zws := zin3 (List.mem_of_getElem? (i := 117) rfl) rfl
set_option maxRecDepth 20000 in
theorem zw_649 : (.methodLink RX4 (32) yX4_weighOne : Cond) ∈ zws := zin3 (List.mem_of_getElem? (i := 118) rfl) rfl
set_option maxRecDepth 20000 in
theorem zw_651 : (.instanceMethod yX4_weighOne : Cond) ∈ zws := zin3 (List.mem_of_getElem? (i := 120) rfl) rfl
set_option maxRecDepth 20000 in
theorem zw_652 : (.code yX4_weighOne cX4_weighOne (3) (none : Option Jvm.ClassFile.FieldType) : Cond) ∈ zws := zin3 (List.mem_of_getElem? (i := 121) rfl) rfl
set_option maxRecDepth 20000 in
theorem zw_653 : (.constantLong RX4 (36) (1000) : Cond) ∈ zws := zin3 (List.mem_of_getElem? (i := 122) rfl) rfl
set_option maxRecDepth 20000 in
theorem zw_654 : (.methodLink RX10 (277) yX4_fewerThan : Cond) ∈ zws := zin3 (List.mem_of_getElem? (i := 123) rfl) rfl
set_option maxRecDepth 20000 in
theorem zw_655 : (.instanceMethod yX4_fewerThan : Cond) ∈ zws := zin3 (List.mem_of_getElem? (i := 124) rfl) rfl
set_option maxRecDepth 20000 in
theorem zw_656 : (.selects RX4 yX4_fewerThan yX4_fewerThan : Cond) ∈ zws := zin3 (List.mem_of_getElem? (i := 125) rfl) rfl
set_option maxRecDepth 20000 in
theorem zw_657 : (.code yX4_fewerThan cX4_fewerThan (5) (some .long) : Cond) ∈ zws := zin3 (List.mem_of_getElem? (i := 126) rfl) rfl
set_option maxRecDepth 20000 in
theorem zw_658 : (.methodLink RL (106) yX10_again : Cond) ∈ zws := zin3 (List.mem_of_getElem? (i := 127) rfl) rfl
set_option maxRecDepth 20000 in
theorem zw_659 : (.instanceMethod yX10_again : Cond) ∈ zws := zin3 (List.mem_of_getElem? (i := 128) rfl) rfl
set_option maxRecDepth 20000 in
theorem zw_660 : (.selects RX10 yX10_again yX10_again : Cond) ∈ zws := zin3 (List.mem_of_getElem? (i := 129) rfl) rfl
set_option maxRecDepth 20000 in
theorem zw_661 : (.code yX10_again cX10_again (2) (some .int) : Cond) ∈ zws := zin3 (List.mem_of_getElem? (i := 130) rfl) rfl
set_option maxRecDepth 20000 in
theorem zw_662 : (.methodLink RX10 (282) yX4_bestSet : Cond) ∈ zws := zin3 (List.mem_of_getElem? (i := 131) rfl) rfl
set_option maxRecDepth 20000 in
theorem zw_663 : (.instanceMethod yX4_bestSet : Cond) ∈ zws := zin3 (List.mem_of_getElem? (i := 132) rfl) rfl
set_option maxRecDepth 20000 in
theorem zw_664 : (.selects RX4 yX4_bestSet yX4_bestSet : Cond) ∈ zws := zin3 (List.mem_of_getElem? (i := 133) rfl) rfl
set_option maxRecDepth 20000 in
theorem zw_665 : (.code yX4_bestSet cX4_bestSet (4) (some .int) : Cond) ∈ zws := zin3 (List.mem_of_getElem? (i := 134) rfl) rfl
set_option maxRecDepth 20000 in
theorem zw_666 : (.methodLink RX4 (38) yX4_minutesOf : Cond) ∈ zws := zin3 (List.mem_of_getElem? (i := 135) rfl) rfl
set_option maxRecDepth 20000 in
theorem zw_668 : (.instanceMethod yX4_minutesOf : Cond) ∈ zws := zin3 (List.mem_of_getElem? (i := 137) rfl) rfl
set_option maxRecDepth 20000 in
theorem zw_669 : (.code yX4_minutesOf cX4_minutesOf (4) (some .int) : Cond) ∈ zws := zin3 (List.mem_of_getElem? (i := 138) rfl) rfl
set_option maxRecDepth 20000 in
theorem zw_670 : (.methodLink RX4 (42) yX4_isBetter : Cond) ∈ zws := zin3 (List.mem_of_getElem? (i := 139) rfl) rfl
set_option maxRecDepth 20000 in
theorem zw_672 : (.instanceMethod yX4_isBetter : Cond) ∈ zws := zin3 (List.mem_of_getElem? (i := 141) rfl) rfl
set_option maxRecDepth 20000 in
theorem zw_673 : (.code yX4_isBetter cX4_isBetter (5) (some .boolean) : Cond) ∈ zws := zin3 (List.mem_of_getElem? (i := 142) rfl) rfl
set_option maxRecDepth 20000 in
theorem zw_674 : (.methodLink RX4 (46) yX4_gainOf : Cond) ∈ zws := zin3 (List.mem_of_getElem? (i := 143) rfl) rfl
set_option maxRecDepth 20000 in
theorem zw_676 : (.instanceMethod yX4_gainOf : Cond) ∈ zws := zin3 (List.mem_of_getElem? (i := 145) rfl) rfl
set_option maxRecDepth 20000 in
theorem zw_677 : (.code yX4_gainOf cX4_gainOf (4) (some .int) : Cond) ∈ zws := zin3 (List.mem_of_getElem? (i := 146) rfl) rfl
set_option maxRecDepth 20000 in
theorem zw_678 : (.methodLink RL (110) yX10_shifts : Cond) ∈ zws := zin3 (List.mem_of_getElem? (i := 147) rfl) rfl
set_option maxRecDepth 20000 in
theorem zw_679 : (.instanceMethod yX10_shifts : Cond) ∈ zws := zin3 (List.mem_of_getElem? (i := 148) rfl) rfl
set_option maxRecDepth 20000 in
theorem zw_680 : (.selects RX10 yX10_shifts yX10_shifts : Cond) ∈ zws := zin3 (List.mem_of_getElem? (i := 149) rfl) rfl
set_option maxRecDepth 20000 in
theorem zw_681 : (.code yX10_shifts cX10_shifts (6) (some .int) : Cond) ∈ zws := zin3 (List.mem_of_getElem? (i := 150) rfl) rfl
set_option maxRecDepth 20000 in
theorem zw_682 : (.methodLink RX10 (285) yX7_plan : Cond) ∈ zws := zin3 (List.mem_of_getElem? (i := 151) rfl) rfl
set_option maxRecDepth 20000 in
theorem zw_683 : (.instanceMethod yX7_plan : Cond) ∈ zws := zin3 (List.mem_of_getElem? (i := 152) rfl) rfl
set_option maxRecDepth 20000 in
theorem zw_684 : (.selects RX7 yX7_plan yX7_plan : Cond) ∈ zws := zin3 (List.mem_of_getElem? (i := 153) rfl) rfl
set_option maxRecDepth 20000 in
theorem zw_685 : (.code yX7_plan cX7_plan (7) (none : Option Jvm.ClassFile.FieldType) : Cond) ∈ zws := zin3 (List.mem_of_getElem? (i := 154) rfl) rfl
set_option maxRecDepth 20000 in
theorem zw_686 : (.constantLong RX7 (24) (9223372036854775807) : Cond) ∈ zws := zin3 (List.mem_of_getElem? (i := 155) rfl) rfl
set_option maxRecDepth 20000 in
theorem zw_687 : (.methodLink RX7 (26) yJ7_fill_d0a16 : Cond) ∈ zws := zin3 (List.mem_of_getElem? (i := 156) rfl) rfl
set_option maxRecDepth 20000 in
theorem zw_688 : (.methodLink RX7 (32) yX7_stateOf : Cond) ∈ zws := zin3 (List.mem_of_getElem? (i := 157) rfl) rfl
set_option maxRecDepth 20000 in
theorem zw_689 : (.static yX7_stateOf : Cond) ∈ zws := zin3 (List.mem_of_getElem? (i := 158) rfl) rfl
set_option maxRecDepth 20000 in
theorem zw_690 : (.code yX7_stateOf cX7_stateOf (3) (some .int) : Cond) ∈ zws := zin3 (List.mem_of_getElem? (i := 159) rfl) rfl
set_option maxRecDepth 20000 in
theorem zw_691 : (.methodLink RX7 (36) yX7_workMinute : Cond) ∈ zws := zin3 (List.mem_of_getElem? (i := 160) rfl) rfl
set_option maxRecDepth 20000 in
theorem zw_693 : (.instanceMethod yX7_workMinute : Cond) ∈ zws := zin3 (List.mem_of_getElem? (i := 162) rfl) rfl
set_option maxRecDepth 20000 in
theorem zw_694 : (.code yX7_workMinute cX7_workMinute (5) (none : Option Jvm.ClassFile.FieldType) : Cond) ∈ zws := zin3 (List.mem_of_getElem? (i := 163) rfl) rfl
set_option maxRecDepth 20000 in
theorem zw_695 : (.methodLink RX7 (50) yX7_workFirst : Cond) ∈ zws := zin3 (List.mem_of_getElem? (i := 164) rfl) rfl
set_option maxRecDepth 20000 in
theorem zw_697 : (.instanceMethod yX7_workFirst : Cond) ∈ zws := zin3 (List.mem_of_getElem? (i := 166) rfl) rfl
set_option maxRecDepth 20000 in
theorem zw_698 : (.code yX7_workFirst cX7_workFirst (7) (none : Option Jvm.ClassFile.FieldType) : Cond) ∈ zws := zin3 (List.mem_of_getElem? (i := 167) rfl) rfl
set_option maxRecDepth 20000 in
theorem zw_699 : (.methodLink RX7 (58) yX7_firstOf : Cond) ∈ zws := zin3 (List.mem_of_getElem? (i := 168) rfl) rfl
set_option maxRecDepth 20000 in
theorem zw_700 : (.static yX7_firstOf : Cond) ∈ zws := zin3 (List.mem_of_getElem? (i := 169) rfl) rfl
set_option maxRecDepth 20000 in
theorem zw_701 : (.code yX7_firstOf cX7_firstOf (1) (some .int) : Cond) ∈ zws := zin3 (List.mem_of_getElem? (i := 170) rfl) rfl
set_option maxRecDepth 20000 in
theorem zw_702 : (.methodLink RX7 (62) yX7_lastOf : Cond) ∈ zws := zin3 (List.mem_of_getElem? (i := 171) rfl) rfl
set_option maxRecDepth 20000 in
theorem zw_703 : (.static yX7_lastOf : Cond) ∈ zws := zin3 (List.mem_of_getElem? (i := 172) rfl) rfl
set_option maxRecDepth 20000 in
theorem zw_704 : (.code yX7_lastOf cX7_lastOf (1) (some .int) : Cond) ∈ zws := zin3 (List.mem_of_getElem? (i := 173) rfl) rfl
set_option maxRecDepth 20000 in
theorem zw_705 : (.methodLink RX7 (65) Lib.Math.min.name : Cond) ∈ zws := zin3 (List.mem_of_getElem? (i := 174) rfl) rfl
set_option maxRecDepth 20000 in
theorem zw_706 : (.methodLink RX7 (68) yX7_secondOf : Cond) ∈ zws := zin3 (List.mem_of_getElem? (i := 175) rfl) rfl
set_option maxRecDepth 20000 in
theorem zw_707 : (.static yX7_secondOf : Cond) ∈ zws := zin3 (List.mem_of_getElem? (i := 176) rfl) rfl
set_option maxRecDepth 20000 in
theorem zw_708 : (.code yX7_secondOf cX7_secondOf (1) (some .int) : Cond) ∈ zws := zin3 (List.mem_of_getElem? (i := 177) rfl) rfl
set_option maxRecDepth 20000 in
theorem zw_709 : (.methodLink RX7 (71) Lib.Math.max.name : Cond) ∈ zws := zin3 (List.mem_of_getElem? (i := 178) rfl) rfl
set_option maxRecDepth 20000 in
theorem zw_710 : (.static Lib.Math.max.name : Cond) ∈ zws := zin3 (List.mem_of_getElem? (i := 179) rfl) rfl
set_option maxRecDepth 20000 in
theorem zw_711 : (.code Lib.Math.max.name Lib.Math.max.code (2) (some .int) : Cond) ∈ zws := zin3 (List.mem_of_getElem? (i := 180) rfl) rfl
set_option maxRecDepth 20000 in
theorem zw_712 : (.methodLink RX7 (44) Lib.MathLoose.min_long.x : Cond) ∈ zws := zin3 (List.mem_of_getElem? (i := 181) rfl) rfl
set_option maxRecDepth 20000 in
theorem zw_713 : (.static Lib.MathLoose.min_long.x : Cond) ∈ zws := zin3 (List.mem_of_getElem? (i := 182) rfl) rfl
set_option maxRecDepth 20000 in
theorem zw_714 : (.code Lib.MathLoose.min_long.x Lib.MathLoose.min_long.code (4) (some .long) : Cond) ∈ zws := zin3 (List.mem_of_getElem? (i := 183) rfl) rfl
set_option maxRecDepth 20000 in
theorem zw_715 : (.methodLink RX7 (54) yX7_workSecond : Cond) ∈ zws := zin3 (List.mem_of_getElem? (i := 184) rfl) rfl
set_option maxRecDepth 20000 in
theorem zw_717 : (.instanceMethod yX7_workSecond : Cond) ∈ zws := zin3 (List.mem_of_getElem? (i := 186) rfl) rfl
set_option maxRecDepth 20000 in
theorem zw_718 : (.code yX7_workSecond cX7_workSecond (9) (none : Option Jvm.ClassFile.FieldType) : Cond) ∈ zws := zin3 (List.mem_of_getElem? (i := 187) rfl) rfl
set_option maxRecDepth 20000 in
theorem zw_719 : (.methodLink RX10 (289) yX7_cost : Cond) ∈ zws := zin3 (List.mem_of_getElem? (i := 188) rfl) rfl
set_option maxRecDepth 20000 in
theorem zw_720 : (.instanceMethod yX7_cost : Cond) ∈ zws := zin3 (List.mem_of_getElem? (i := 189) rfl) rfl
set_option maxRecDepth 20000 in
theorem zw_721 : (.selects RX7 yX7_cost yX7_cost : Cond) ∈ zws := zin3 (List.mem_of_getElem? (i := 190) rfl) rfl
set_option maxRecDepth 20000 in
theorem zw_722 : (.code yX7_cost cX7_cost (1) (some .int) : Cond) ∈ zws := zin3 (List.mem_of_getElem? (i := 191) rfl) rfl
set_option maxRecDepth 20000 in
theorem zw_723 : (.methodLink RX10 (292) yX7_worker : Cond) ∈ zws := zin3 (List.mem_of_getElem? (i := 192) rfl) rfl
set_option maxRecDepth 20000 in
theorem zw_724 : (.instanceMethod yX7_worker : Cond) ∈ zws := zin3 (List.mem_of_getElem? (i := 193) rfl) rfl
set_option maxRecDepth 20000 in
theorem zw_725 : (.selects RX7 yX7_worker yX7_worker : Cond) ∈ zws := zin3 (List.mem_of_getElem? (i := 194) rfl) rfl
set_option maxRecDepth 20000 in
theorem zw_726 : (.code yX7_worker cX7_worker (3) (some .int) : Cond) ∈ zws := zin3 (List.mem_of_getElem? (i := 195) rfl) rfl
set_option maxRecDepth 20000 in
theorem zw_727 : (.methodLink RL (114) yX10_booth : Cond) ∈ zws := zin3 (List.mem_of_getElem? (i := 196) rfl) rfl
set_option maxRecDepth 20000 in
theorem zw_728 : (.instanceMethod yX10_booth : Cond) ∈ zws := zin3 (List.mem_of_getElem? (i := 197) rfl) rfl
set_option maxRecDepth 20000 in
theorem zw_729 : (.selects RX10 yX10_booth yX10_booth : Cond) ∈ zws := zin3 (List.mem_of_getElem? (i := 198) rfl) rfl
set_option maxRecDepth 20000 in
theorem zw_730 : (.code yX10_booth cX10_booth (8) (some .int) : Cond) ∈ zws := zin3 (List.mem_of_getElem? (i := 199) rfl) rfl
set_option maxRecDepth 20000 in
theorem zw_731 : (.methodLink RX10 (295) yX0_isEachOnce : Cond) ∈ zws := zin3 (List.mem_of_getElem? (i := 200) rfl) rfl
set_option maxRecDepth 20000 in
theorem zw_732 : (.static yX0_isEachOnce : Cond) ∈ zws := zin3 (List.mem_of_getElem? (i := 201) rfl) rfl
set_option maxRecDepth 20000 in
theorem zw_733 : (.code yX0_isEachOnce cX0_isEachOnce (5) (some .boolean) : Cond) ∈ zws := zin3 (List.mem_of_getElem? (i := 202) rfl) rfl
set_option maxRecDepth 20000 in
theorem zw_734 : (.methodLink RX10 (298) yX0_work : Cond) ∈ zws := zin3 (List.mem_of_getElem? (i := 203) rfl) rfl
set_option maxRecDepth 20000 in
theorem zw_735 : (.instanceMethod yX0_work : Cond) ∈ zws := zin3 (List.mem_of_getElem? (i := 204) rfl) rfl
set_option maxRecDepth 20000 in
theorem zw_736 : (.selects RX0 yX0_work yX0_work : Cond) ∈ zws := zin3 (List.mem_of_getElem? (i := 205) rfl) rfl
set_option maxRecDepth 20000 in
theorem zw_737 : (.code yX0_work cX0_work (7) (none : Option Jvm.ClassFile.FieldType) : Cond) ∈ zws := zin3 (List.mem_of_getElem? (i := 206) rfl) rfl
set_option maxRecDepth 20000 in
theorem zw_738 : (.methodLink RX0 (19) Lib.Math.max.name : Cond) ∈ zws := zin3 (List.mem_of_getElem? (i := 207) rfl) rfl
set_option maxRecDepth 20000 in
theorem zw_739 : (.methodLink RX0 (25) Lib.Math.min.name : Cond) ∈ zws := zin3 (List.mem_of_getElem? (i := 208) rfl) rfl
set_option maxRecDepth 20000 in
theorem zw_740 : (.methodLink RL (118) yX10_sheet : Cond) ∈ zws := zin3 (List.mem_of_getElem? (i := 209) rfl) rfl
set_option maxRecDepth 20000 in
theorem zw_741 : (.instanceMethod yX10_sheet : Cond) ∈ zws := zin3 (List.mem_of_getElem? (i := 210) rfl) rfl
set_option maxRecDepth 20000 in
theorem zw_742 : (.selects RX10 yX10_sheet yX10_sheet : Cond) ∈ zws := zin3 (List.mem_of_getElem? (i := 211) rfl) rfl
set_option maxRecDepth 20000 in
theorem zw_743 : (.code yX10_sheet cX10_sheet (5) (some .int) : Cond) ∈ zws := zin3 (List.mem_of_getElem? (i := 212) rfl) rfl
set_option maxRecDepth 20000 in
theorem zw_744 : (.methodLink RX10 (310) yX6_renew : Cond) ∈ zws := zin3 (List.mem_of_getElem? (i := 213) rfl) rfl
set_option maxRecDepth 20000 in
theorem zw_745 : (.instanceMethod yX6_renew : Cond) ∈ zws := zin3 (List.mem_of_getElem? (i := 214) rfl) rfl
set_option maxRecDepth 20000 in
theorem zw_746 : (.selects RX6 yX6_renew yX6_renew : Cond) ∈ zws := zin3 (List.mem_of_getElem? (i := 215) rfl) rfl
set_option maxRecDepth 20000 in
theorem zw_747 : (.code yX6_renew cX6_renew (4) (none : Option Jvm.ClassFile.FieldType) : Cond) ∈ zws := zin3 (List.mem_of_getElem? (i := 216) rfl) rfl
set_option maxRecDepth 20000 in
theorem zw_748 : (.methodLink RL (122) yX10_lose : Cond) ∈ zws := zin3 (List.mem_of_getElem? (i := 217) rfl) rfl
set_option maxRecDepth 20000 in
theorem zw_749 : (.instanceMethod yX10_lose : Cond) ∈ zws := zin3 (List.mem_of_getElem? (i := 218) rfl) rfl
set_option maxRecDepth 20000 in
theorem zw_750 : (.selects RX10 yX10_lose yX10_lose : Cond) ∈ zws := zin3 (List.mem_of_getElem? (i := 219) rfl) rfl
set_option maxRecDepth 20000 in
theorem zw_751 : (.code yX10_lose cX10_lose (2) (some .int) : Cond) ∈ zws := zin3 (List.mem_of_getElem? (i := 220) rfl) rfl
set_option maxRecDepth 20000 in
theorem zw_752 : (.methodLink RX10 (314) yX6_drop : Cond) ∈ zws := zin3 (List.mem_of_getElem? (i := 221) rfl) rfl
set_option maxRecDepth 20000 in
theorem zw_753 : (.instanceMethod yX6_drop : Cond) ∈ zws := zin3 (List.mem_of_getElem? (i := 222) rfl) rfl
set_option maxRecDepth 20000 in
theorem zw_754 : (.selects RX6 yX6_drop yX6_drop : Cond) ∈ zws := zin3 (List.mem_of_getElem? (i := 223) rfl) rfl
set_option maxRecDepth 20000 in
theorem zw_755 : (.code yX6_drop cX6_drop (3) (some .boolean) : Cond) ∈ zws := zin3 (List.mem_of_getElem? (i := 224) rfl) rfl
set_option maxRecDepth 20000 in
theorem zw_756 : (.methodLink RL (126) yX10_put : Cond) ∈ zws := zin3 (List.mem_of_getElem? (i := 225) rfl) rfl
set_option maxRecDepth 20000 in
theorem zw_757 : (.instanceMethod yX10_put : Cond) ∈ zws := zin3 (List.mem_of_getElem? (i := 226) rfl) rfl
set_option maxRecDepth 20000 in
theorem zw_758 : (.selects RX10 yX10_put yX10_put : Cond) ∈ zws := zin3 (List.mem_of_getElem? (i := 227) rfl) rfl
set_option maxRecDepth 20000 in
theorem zw_759 : (.code yX10_put cX10_put (5) (some .int) : Cond) ∈ zws := zin3 (List.mem_of_getElem? (i := 228) rfl) rfl
set_option maxRecDepth 20000 in
theorem zw_760 : (.methodLink RX10 (317) yX6_faultOfCell : Cond) ∈ zws := zin3 (List.mem_of_getElem? (i := 229) rfl) rfl
set_option maxRecDepth 20000 in
theorem zw_761 : (.instanceMethod yX6_faultOfCell : Cond) ∈ zws := zin3 (List.mem_of_getElem? (i := 230) rfl) rfl
set_option maxRecDepth 20000 in
theorem zw_762 : (.selects RX6 yX6_faultOfCell yX6_faultOfCell : Cond) ∈ zws := zin3 (List.mem_of_getElem? (i := 231) rfl) rfl
set_option maxRecDepth 20000 in
theorem zw_763 : (.code yX6_faultOfCell cX6_faultOfCell (3) (some .int) : Cond) ∈ zws := zin3 (List.mem_of_getElem? (i := 232) rfl) rfl
set_option maxRecDepth 20000 in
theorem zw_764 : (.methodLink RX10 (320) yX6_write : Cond) ∈ zws := zin3 (List.mem_of_getElem? (i := 233) rfl) rfl
set_option maxRecDepth 20000 in
theorem zw_765 : (.instanceMethod yX6_write : Cond) ∈ zws := zin3 (List.mem_of_getElem? (i := 234) rfl) rfl
set_option maxRecDepth 20000 in
theorem zw_766 : (.selects RX6 yX6_write yX6_write : Cond) ∈ zws := zin3 (List.mem_of_getElem? (i := 235) rfl) rfl
set_option maxRecDepth 20000 in
theorem zw_767 : (.code yX6_write cX6_write (4) (none : Option Jvm.ClassFile.FieldType) : Cond) ∈ zws := zin3 (List.mem_of_getElem? (i := 236) rfl) rfl
set_option maxRecDepth 20000 in
theorem zw_768 : (.methodLink RL (130) yX10_cell : Cond) ∈ zws := zin3 (List.mem_of_getElem? (i := 237) rfl) rfl
set_option maxRecDepth 20000 in
theorem zw_769 : (.instanceMethod yX10_cell : Cond) ∈ zws := zin3 (List.mem_of_getElem? (i := 238) rfl) rfl
set_option maxRecDepth 20000 in
theorem zw_770 : (.selects RX10 yX10_cell yX10_cell : Cond) ∈ zws := zin3 (List.mem_of_getElem? (i := 239) rfl) rfl
set_option maxRecDepth 20000 in
theorem zw_771 : (.code yX10_cell cX10_cell (5) (some .long) : Cond) ∈ zws := zin4 (List.mem_of_getElem? (i := 0) rfl) rfl
set_option maxRecDepth 20000 in
theorem zw_772 : (.methodLink RX10 (323) yX6_isOtherSort : Cond) ∈ zws := zin4 (List.mem_of_getElem? (i := 1) rfl) rfl
set_option maxRecDepth 20000 in
theorem zw_773 : (.methodLink RL (134) yX10_copy : Cond) ∈ zws := zin4 (List.mem_of_getElem? (i := 2) rfl) rfl
set_option maxRecDepth 20000 in
theorem zw_774 : (.instanceMethod yX10_copy : Cond) ∈ zws := zin4 (List.mem_of_getElem? (i := 3) rfl) rfl
set_option maxRecDepth 20000 in
theorem zw_775 : (.selects RX10 yX10_copy yX10_copy : Cond) ∈ zws := zin4 (List.mem_of_getElem? (i := 4) rfl) rfl
set_option maxRecDepth 20000 in
theorem zw_776 : (.code yX10_copy cX10_copy (7) (some .int) : Cond) ∈ zws := zin4 (List.mem_of_getElem? (i := 5) rfl) rfl
set_option maxRecDepth 20000 in
theorem zw_777 : (.methodLink RX10 (327) yX6_faultOfCopy : Cond) ∈ zws := zin4 (List.mem_of_getElem? (i := 6) rfl) rfl
set_option maxRecDepth 20000 in
theorem zw_778 : (.instanceMethod yX6_faultOfCopy : Cond) ∈ zws := zin4 (List.mem_of_getElem? (i := 7) rfl) rfl
set_option maxRecDepth 20000 in
theorem zw_779 : (.selects RX6 yX6_faultOfCopy yX6_faultOfCopy : Cond) ∈ zws := zin4 (List.mem_of_getElem? (i := 8) rfl) rfl
set_option maxRecDepth 20000 in
theorem zw_780 : (.code yX6_faultOfCopy cX6_faultOfCopy (6) (some .int) : Cond) ∈ zws := zin4 (List.mem_of_getElem? (i := 9) rfl) rfl
set_option maxRecDepth 20000 in
theorem zw_781 : (.methodLink RX10 (331) arraycopyName : Cond) ∈ zws := zin4 (List.mem_of_getElem? (i := 10) rfl) rfl
set_option maxRecDepth 20000 in
theorem zw_782 : (.static arraycopyName : Cond) ∈ zws := zin4 (List.mem_of_getElem? (i := 11) rfl) rfl
set_option maxRecDepth 20000 in
theorem zw_783 : (.native arraycopyName : Cond) ∈ zws := zin4 (List.mem_of_getElem? (i := 12) rfl) rfl
set_option maxRecDepth 20000 in
theorem zw_784 : (.methodLink RL (138) yX10_tell : Cond) ∈ zws := zin4 (List.mem_of_getElem? (i := 13) rfl) rfl
set_option maxRecDepth 20000 in
theorem zw_785 : (.instanceMethod yX10_tell : Cond) ∈ zws := zin4 (List.mem_of_getElem? (i := 14) rfl) rfl
set_option maxRecDepth 20000 in
theorem zw_786 : (.selects RX10 yX10_tell yX10_tell : Cond) ∈ zws := zin4 (List.mem_of_getElem? (i := 15) rfl) rfl
set_option maxRecDepth 20000 in
theorem zw_787 : (.code yX10_tell cX10_tell (2) (some .int) : Cond) ∈ zws := zin4 (List.mem_of_getElem? (i := 16) rfl) rfl
set_option maxRecDepth 20000 in
theorem zw_788 : (.methodLink RX10 (337) yX2_told : Cond) ∈ zws := zin4 (List.mem_of_getElem? (i := 17) rfl) rfl
set_option maxRecDepth 20000 in
theorem zw_789 : (.instanceMethod yX2_told : Cond) ∈ zws := zin4 (List.mem_of_getElem? (i := 18) rfl) rfl
set_option maxRecDepth 20000 in
theorem zw_790 : (.selects RX2 yX2_told yX2_told : Cond) ∈ zws := zin4 (List.mem_of_getElem? (i := 19) rfl) rfl
set_option maxRecDepth 20000 in
theorem zw_791 : (.code yX2_told cX2_told (2) (some .int) : Cond) ∈ zws := zin4 (List.mem_of_getElem? (i := 20) rfl) rfl
set_option maxRecDepth 20000 in
theorem zw_792 : (.methodLink RX2 (26) yX2_toldBySworn : Cond) ∈ zws := zin4 (List.mem_of_getElem? (i := 21) rfl) rfl
set_option maxRecDepth 20000 in
theorem zw_794 : (.instanceMethod yX2_toldBySworn : Cond) ∈ zws := zin4 (List.mem_of_getElem? (i := 23) rfl) rfl
set_option maxRecDepth 20000 in
theorem zw_795 : (.code yX2_toldBySworn cX2_toldBySworn (3) (some .int) : Cond) ∈ zws := zin4 (List.mem_of_getElem? (i := 24) rfl) rfl
set_option maxRecDepth 20000 in
theorem zw_796 : (.methodLink RX2 (36) yX2_mark : Cond) ∈ zws := zin4 (List.mem_of_getElem? (i := 25) rfl) rfl
set_option maxRecDepth 20000 in
theorem zw_798 : (.instanceMethod yX2_mark : Cond) ∈ zws := zin4 (List.mem_of_getElem? (i := 27) rfl) rfl
set_option maxRecDepth 20000 in
theorem zw_799 : (.code yX2_mark cX2_mark (2) (none : Option Jvm.ClassFile.FieldType) : Cond) ∈ zws := zin4 (List.mem_of_getElem? (i := 28) rfl) rfl
set_option maxRecDepth 20000 in
theorem zw_800 : (.methodLink RX2 (30) yX2_toldByTrained : Cond) ∈ zws := zin4 (List.mem_of_getElem? (i := 29) rfl) rfl
set_option maxRecDepth 20000 in
theorem zw_802 : (.instanceMethod yX2_toldByTrained : Cond) ∈ zws := zin4 (List.mem_of_getElem? (i := 31) rfl) rfl
set_option maxRecDepth 20000 in
theorem zw_803 : (.code yX2_toldByTrained cX2_toldByTrained (2) (some .int) : Cond) ∈ zws := zin4 (List.mem_of_getElem? (i := 32) rfl) rfl
set_option maxRecDepth 20000 in
theorem zw_804 : (.methodLink RX2 (33) yX2_toldByKin : Cond) ∈ zws := zin4 (List.mem_of_getElem? (i := 33) rfl) rfl
set_option maxRecDepth 20000 in
theorem zw_806 : (.instanceMethod yX2_toldByKin : Cond) ∈ zws := zin4 (List.mem_of_getElem? (i := 35) rfl) rfl
set_option maxRecDepth 20000 in
theorem zw_807 : (.code yX2_toldByKin cX2_toldByKin (2) (some .int) : Cond) ∈ zws := zin4 (List.mem_of_getElem? (i := 36) rfl) rfl
set_option maxRecDepth 20000 in
theorem zw_808 : (.methodLink RL (142) yX10_pay : Cond) ∈ zws := zin4 (List.mem_of_getElem? (i := 37) rfl) rfl
set_option maxRecDepth 20000 in
theorem zw_809 : (.instanceMethod yX10_pay : Cond) ∈ zws := zin4 (List.mem_of_getElem? (i := 38) rfl) rfl
set_option maxRecDepth 20000 in
theorem zw_810 : (.selects RX10 yX10_pay yX10_pay : Cond) ∈ zws := zin4 (List.mem_of_getElem? (i := 39) rfl) rfl
set_option maxRecDepth 20000 in
theorem zw_811 : (.code yX10_pay cX10_pay (2) (some .int) : Cond) ∈ zws := zin4 (List.mem_of_getElem? (i := 40) rfl) rfl
set_option maxRecDepth 20000 in
theorem zw_812 : (.methodLink RX10 (340) yX2_paid : Cond) ∈ zws := zin4 (List.mem_of_getElem? (i := 41) rfl) rfl
set_option maxRecDepth 20000 in
theorem zw_813 : (.instanceMethod yX2_paid : Cond) ∈ zws := zin4 (List.mem_of_getElem? (i := 42) rfl) rfl
set_option maxRecDepth 20000 in
theorem zw_814 : (.selects RX2 yX2_paid yX2_paid : Cond) ∈ zws := zin4 (List.mem_of_getElem? (i := 43) rfl) rfl
set_option maxRecDepth 20000 in
theorem zw_815 : (.code yX2_paid cX2_paid (2) (some .int) : Cond) ∈ zws := zin4 (List.mem_of_getElem? (i := 44) rfl) rfl
set_option maxRecDepth 20000 in
theorem zw_816 : (.methodLink RL (146) yX10_as : Cond) ∈ zws := zin4 (List.mem_of_getElem? (i := 45) rfl) rfl
set_option maxRecDepth 20000 in
theorem zw_817 : (.instanceMethod yX10_as : Cond) ∈ zws := zin4 (List.mem_of_getElem? (i := 46) rfl) rfl
set_option maxRecDepth 20000 in
theorem zw_818 : (.selects RX10 yX10_as yX10_as : Cond) ∈ zws := zin4 (List.mem_of_getElem? (i := 47) rfl) rfl
set_option maxRecDepth 20000 in
theorem zw_819 : (.code yX10_as cX10_as (3) (some .int) : Cond) ∈ zws := zin4 (List.mem_of_getElem? (i := 48) rfl) rfl
set_option maxRecDepth 20000 in
theorem zw_820 : (.methodLink RL (150) yX10_trace : Cond) ∈ zws := zin4 (List.mem_of_getElem? (i := 49) rfl) rfl
set_option maxRecDepth 20000 in
theorem zw_821 : (.instanceMethod yX10_trace : Cond) ∈ zws := zin4 (List.mem_of_getElem? (i := 50) rfl) rfl
set_option maxRecDepth 20000 in
theorem zw_822 : (.selects RX10 yX10_trace yX10_trace : Cond) ∈ zws := zin4 (List.mem_of_getElem? (i := 51) rfl) rfl
set_option maxRecDepth 20000 in
theorem zw_823 : (.code yX10_trace cX10_trace (1) (some .int) : Cond) ∈ zws := zin4 (List.mem_of_getElem? (i := 52) rfl) rfl
set_option maxRecDepth 20000 in
theorem zw_824 : (.methodLink RL (155) yX10_fault : Cond) ∈ zws := zin4 (List.mem_of_getElem? (i := 53) rfl) rfl
set_option maxRecDepth 20000 in
theorem zw_825 : (.instanceMethod yX10_fault : Cond) ∈ zws := zin4 (List.mem_of_getElem? (i := 54) rfl) rfl
set_option maxRecDepth 20000 in
theorem zw_826 : (.selects RX10 yX10_fault yX10_fault : Cond) ∈ zws := zin4 (List.mem_of_getElem? (i := 55) rfl) rfl
set_option maxRecDepth 20000 in
theorem zw_827 : (.code yX10_fault cX10_fault (1) (some .int) : Cond) ∈ zws := zin4 (List.mem_of_getElem? (i := 56) rfl) rfl
set_option maxRecDepth 20000 in
theorem zw_828 : (.methodLink RL (159) yX10_many : Cond) ∈ zws := zin4 (List.mem_of_getElem? (i := 57) rfl) rfl
set_option maxRecDepth 20000 in
theorem zw_829 : (.instanceMethod yX10_many : Cond) ∈ zws := zin4 (List.mem_of_getElem? (i := 58) rfl) rfl
set_option maxRecDepth 20000 in
theorem zw_830 : (.selects RX10 yX10_many yX10_many : Cond) ∈ zws := zin4 (List.mem_of_getElem? (i := 59) rfl) rfl
set_option maxRecDepth 20000 in
theorem zw_831 : (.code yX10_many cX10_many (2) (some .int) : Cond) ∈ zws := zin4 (List.mem_of_getElem? (i := 60) rfl) rfl
set_option maxRecDepth 20000 in
theorem zv_832 : (.classLink RL (10) RX11 : Cond) ∈ lw_tbl := zil4 (List.mem_of_getElem? (i := 61) rfl)
set_option maxRecDepth 20000 in
theorem zv_833 : (.instantiable RX11 (28) : Cond) ∈ lw_tbl := zil4 (List.mem_of_getElem? (i := 62) rfl)
set_option maxRecDepth 20000 in
theorem zw_834 : (.methodLink RL (12) yX11_init : Cond) ∈ zws := zin4 (List.mem_of_getElem? (i := 63) rfl) rfl
set_option maxRecDepth 20000 in
theorem zw_835 : (.instanceMethod yX11_init : Cond) ∈ zws := zin4 (List.mem_of_getElem? (i := 64) rfl) rfl
set_option maxRecDepth 20000 in
theorem zw_836 : (.code yX11_init cX11_init (1) (none : Option Jvm.ClassFile.FieldType) : Cond) ∈ zws := zin4 (List.mem_of_getElem? (i := 65) rfl) rfl
set_option maxRecDepth 20000 in
theorem zw_837 : (.methodLink RX11 (1) objectInit : Cond) ∈ zws := zin4 (List.mem_of_getElem? (i := 66) rfl) rfl
set_option maxRecDepth 20000 in
theorem zw_838 : (.fieldLink RX11 (65) "ToldOverModel" "fault" "I" : Cond) ∈ zws := zin4 (List.mem_of_getElem? (i := 67) rfl) rfl
set_option maxRecDepth 20000 in
theorem zw_839 : (.fieldLink RX11 (230) "ToldOverModel" "trace" "I" : Cond) ∈ zws := zin4 (List.mem_of_getElem? (i := 68) rfl) rfl
set_option maxRecDepth 20000 in
theorem zw_840 : (.fieldLink RX11 (9) "ToldOverModel" "sorts" "[I" : Cond) ∈ zws := zin4 (List.mem_of_getElem? (i := 69) rfl) rfl
set_option maxRecDepth 20000 in
theorem zw_841 : (.fieldLink RX11 (13) "ToldOverModel" "sheetLong" "[I" : Cond) ∈ zws := zin4 (List.mem_of_getElem? (i := 70) rfl) rfl
set_option maxRecDepth 20000 in
theorem zw_842 : (.fieldLink RX11 (16) "ToldOverModel" "cells" "[I" : Cond) ∈ zws := zin4 (List.mem_of_getElem? (i := 71) rfl) rfl
set_option maxRecDepth 20000 in
theorem zw_843 : (.fieldLink RX11 (75) "ToldOverModel" "words" "I" : Cond) ∈ zws := zin4 (List.mem_of_getElem? (i := 72) rfl) rfl
set_option maxRecDepth 20000 in
theorem zw_844 : (.fieldLink RX11 (19) "ToldOverModel" "table" "[I" : Cond) ∈ zws := zin4 (List.mem_of_getElem? (i := 73) rfl) rfl
set_option maxRecDepth 20000 in
theorem zw_845 : (.fieldLink RX11 (78) "ToldOverModel" "at" "I" : Cond) ∈ zws := zin4 (List.mem_of_getElem? (i := 74) rfl) rfl
set_option maxRecDepth 20000 in
theorem zw_846 : (.fieldLink RX11 (99) "ToldOverModel" "readWords" "I" : Cond) ∈ zws := zin4 (List.mem_of_getElem? (i := 75) rfl) rfl
set_option maxRecDepth 20000 in
theorem zw_847 : (.fieldLink RX11 (174) "ToldOverModel" "readPlease" "I" : Cond) ∈ zws := zin4 (List.mem_of_getElem? (i := 76) rfl) rfl
set_option maxRecDepth 20000 in
theorem zw_848 : (.fieldLink RX11 (22) "ToldOverModel" "readTable" "[I" : Cond) ∈ zws := zin4 (List.mem_of_getElem? (i := 77) rfl) rfl
set_option maxRecDepth 20000 in
theorem zw_849 : (.fieldLink RX11 (142) "ToldOverModel" "interpreters" "I" : Cond) ∈ zws := zin4 (List.mem_of_getElem? (i := 78) rfl) rfl
set_option maxRecDepth 20000 in
theorem zw_850 : (.fieldLink RX11 (25) "ToldOverModel" "kinds" "[I" : Cond) ∈ zws := zin4 (List.mem_of_getElem? (i := 79) rfl) rfl
set_option maxRecDepth 20000 in
theorem zw_851 : (.fieldLink RX11 (28) "ToldOverModel" "tired" "[I" : Cond) ∈ zws := zin4 (List.mem_of_getElem? (i := 80) rfl) rfl
set_option maxRecDepth 20000 in
theorem zw_852 : (.fieldLink RX11 (31) "ToldOverModel" "spread" "[J" : Cond) ∈ zws := zin4 (List.mem_of_getElem? (i := 81) rfl) rfl
set_option maxRecDepth 20000 in
theorem zw_853 : (.fieldLink RX11 (35) "ToldOverModel" "spreadOn" "[J" : Cond) ∈ zws := zin4 (List.mem_of_getElem? (i := 82) rfl) rfl
set_option maxRecDepth 20000 in
theorem zw_854 : (.fieldLink RX11 (102) "ToldOverModel" "isWitness" "Z" : Cond) ∈ zws := zin4 (List.mem_of_getElem? (i := 83) rfl) rfl
set_option maxRecDepth 20000 in
theorem zw_855 : (.fieldLink RX11 (106) "ToldOverModel" "please" "I" : Cond) ∈ zws := zin4 (List.mem_of_getElem? (i := 84) rfl) rfl
set_option maxRecDepth 20000 in
theorem zw_856 : (.fieldLink RX11 (38) "ToldOverModel" "speech" "[I" : Cond) ∈ zws := zin4 (List.mem_of_getElem? (i := 85) rfl) rfl
set_option maxRecDepth 20000 in
theorem zw_857 : (.fieldLink RX11 (109) "ToldOverModel" "turns" "I" : Cond) ∈ zws := zin4 (List.mem_of_getElem? (i := 86) rfl) rfl
set_option maxRecDepth 20000 in
theorem zw_858 : (.fieldLink RX11 (41) "ToldOverModel" "turnBy" "[I" : Cond) ∈ zws := zin4 (List.mem_of_getElem? (i := 87) rfl) rfl
set_option maxRecDepth 20000 in
theorem zw_859 : (.fieldLink RX11 (44) "ToldOverModel" "turnWord" "[I" : Cond) ∈ zws := zin4 (List.mem_of_getElem? (i := 88) rfl) rfl
set_option maxRecDepth 20000 in
theorem zw_860 : (.fieldLink RX11 (47) "ToldOverModel" "turnHeard" "[I" : Cond) ∈ zws := zin4 (List.mem_of_getElem? (i := 89) rfl) rfl
set_option maxRecDepth 20000 in
theorem zw_861 : (.fieldLink RX11 (50) "ToldOverModel" "turnStake" "[I" : Cond) ∈ zws := zin4 (List.mem_of_getElem? (i := 90) rfl) rfl
set_option maxRecDepth 20000 in
theorem zw_862 : (.fieldLink RX11 (53) "ToldOverModel" "turnMinutes" "[I" : Cond) ∈ zws := zin4 (List.mem_of_getElem? (i := 91) rfl) rfl
set_option maxRecDepth 20000 in
theorem zw_863 : (.fieldLink RX11 (56) "ToldOverModel" "trues" "[J" : Cond) ∈ zws := zin4 (List.mem_of_getElem? (i := 92) rfl) rfl
set_option maxRecDepth 20000 in
theorem zw_864 : (.fieldLink RX11 (59) "ToldOverModel" "least" "[I" : Cond) ∈ zws := zin4 (List.mem_of_getElem? (i := 93) rfl) rfl
set_option maxRecDepth 20000 in
theorem zw_865 : (.fieldLink RX11 (62) "ToldOverModel" "saidIn" "[I" : Cond) ∈ zws := zin4 (List.mem_of_getElem? (i := 94) rfl) rfl
set_option maxRecDepth 20000 in
theorem zw_923 : (.methodLink RL (17) yX11_tongues : Cond) ∈ zws := zin4 (List.mem_of_getElem? (i := 152) rfl) rfl
set_option maxRecDepth 20000 in
theorem zw_924 : (.instanceMethod yX11_tongues : Cond) ∈ zws := zin4 (List.mem_of_getElem? (i := 153) rfl) rfl
set_option maxRecDepth 20000 in
theorem zw_925 : (.selects RX11 yX11_tongues yX11_tongues : Cond) ∈ zws := zin4 (List.mem_of_getElem? (i := 154) rfl) rfl
set_option maxRecDepth 20000 in
theorem zw_926 : (.code yX11_tongues cX11_tongues (8) (some .int) : Cond) ∈ zws := zin4 (List.mem_of_getElem? (i := 155) rfl) rfl
set_option maxRecDepth 20000 in
theorem zw_927 : (.methodLink RX11 (81) yX11_isSheet : Cond) ∈ zws := zin4 (List.mem_of_getElem? (i := 156) rfl) rfl
set_option maxRecDepth 20000 in
theorem zw_928 : (.static yX11_isSheet : Cond) ∈ zws := zin4 (List.mem_of_getElem? (i := 157) rfl) rfl
set_option maxRecDepth 20000 in
theorem zw_929 : (.code yX11_isSheet cX11_isSheet (1) (some .boolean) : Cond) ∈ zws := zin4 (List.mem_of_getElem? (i := 158) rfl) rfl
set_option maxRecDepth 20000 in
theorem zw_930 : (.methodLink RX11 (71) yX11_within : Cond) ∈ zws := zin4 (List.mem_of_getElem? (i := 159) rfl) rfl
set_option maxRecDepth 20000 in
theorem zw_931 : (.static yX11_within : Cond) ∈ zws := zin4 (List.mem_of_getElem? (i := 160) rfl) rfl
set_option maxRecDepth 20000 in
theorem zw_932 : (.code yX11_within cX11_within (3) (some .boolean) : Cond) ∈ zws := zin4 (List.mem_of_getElem? (i := 161) rfl) rfl
set_option maxRecDepth 20000 in
theorem zw_933 : (.methodLink RX11 (85) yX11_isSort : Cond) ∈ zws := zin4 (List.mem_of_getElem? (i := 162) rfl) rfl
set_option maxRecDepth 20000 in
theorem zw_934 : (.static yX11_isSort : Cond) ∈ zws := zin4 (List.mem_of_getElem? (i := 163) rfl) rfl
set_option maxRecDepth 20000 in
theorem zw_935 : (.code yX11_isSort cX11_isSort (1) (some .boolean) : Cond) ∈ zws := zin4 (List.mem_of_getElem? (i := 164) rfl) rfl
set_option maxRecDepth 20000 in
theorem zw_936 : (.methodLink RX11 (88) yX11_against : Cond) ∈ zws := zin4 (List.mem_of_getElem? (i := 165) rfl) rfl
set_option maxRecDepth 20000 in
theorem zw_938 : (.instanceMethod yX11_against : Cond) ∈ zws := zin4 (List.mem_of_getElem? (i := 167) rfl) rfl
set_option maxRecDepth 20000 in
theorem zw_939 : (.code yX11_against cX11_against (5) (some .int) : Cond) ∈ zws := zin4 (List.mem_of_getElem? (i := 168) rfl) rfl
set_option maxRecDepth 20000 in
theorem zw_940 : (.methodLink RX11 (92) yX11_fails : Cond) ∈ zws := zin4 (List.mem_of_getElem? (i := 169) rfl) rfl
set_option maxRecDepth 20000 in
theorem zw_942 : (.instanceMethod yX11_fails : Cond) ∈ zws := zin4 (List.mem_of_getElem? (i := 171) rfl) rfl
set_option maxRecDepth 20000 in
theorem zw_943 : (.code yX11_fails cX11_fails (2) (some .int) : Cond) ∈ zws := zin4 (List.mem_of_getElem? (i := 172) rfl) rfl
set_option maxRecDepth 20000 in
theorem zw_944 : (.methodLink RX11 (96) yX11_readTongues : Cond) ∈ zws := zin4 (List.mem_of_getElem? (i := 173) rfl) rfl
set_option maxRecDepth 20000 in
theorem zw_946 : (.instanceMethod yX11_readTongues : Cond) ∈ zws := zin4 (List.mem_of_getElem? (i := 175) rfl) rfl
set_option maxRecDepth 20000 in
theorem zw_947 : (.code yX11_readTongues cX11_readTongues (2) (some .boolean) : Cond) ∈ zws := zin4 (List.mem_of_getElem? (i := 176) rfl) rfl
set_option maxRecDepth 20000 in
theorem zw_948 : (.methodLink RX11 (112) yX11_isCode : Cond) ∈ zws := zin4 (List.mem_of_getElem? (i := 177) rfl) rfl
set_option maxRecDepth 20000 in
theorem zw_950 : (.instanceMethod yX11_isCode : Cond) ∈ zws := zin4 (List.mem_of_getElem? (i := 179) rfl) rfl
set_option maxRecDepth 20000 in
theorem zw_951 : (.code yX11_isCode cX11_isCode (3) (some .boolean) : Cond) ∈ zws := zin4 (List.mem_of_getElem? (i := 180) rfl) rfl
set_option maxRecDepth 20000 in
theorem zw_952 : (.methodLink RX11 (116) yX11_digitAt : Cond) ∈ zws := zin4 (List.mem_of_getElem? (i := 181) rfl) rfl
set_option maxRecDepth 20000 in
theorem zw_954 : (.instanceMethod yX11_digitAt : Cond) ∈ zws := zin4 (List.mem_of_getElem? (i := 183) rfl) rfl
set_option maxRecDepth 20000 in
theorem zw_955 : (.code yX11_digitAt cX11_digitAt (3) (some .int) : Cond) ∈ zws := zin4 (List.mem_of_getElem? (i := 184) rfl) rfl
set_option maxRecDepth 20000 in
theorem zw_956 : (.methodLink RX11 (120) yX11_readRows : Cond) ∈ zws := zin4 (List.mem_of_getElem? (i := 185) rfl) rfl
set_option maxRecDepth 20000 in
theorem zw_958 : (.instanceMethod yX11_readRows : Cond) ∈ zws := zin4 (List.mem_of_getElem? (i := 187) rfl) rfl
set_option maxRecDepth 20000 in
theorem zw_959 : (.code yX11_readRows cX11_readRows (8) (some .boolean) : Cond) ∈ zws := zin4 (List.mem_of_getElem? (i := 188) rfl) rfl
set_option maxRecDepth 20000 in
theorem zw_960 : (.methodLink RL (22) yX11_becomes : Cond) ∈ zws := zin4 (List.mem_of_getElem? (i := 189) rfl) rfl
set_option maxRecDepth 20000 in
theorem zw_961 : (.instanceMethod yX11_becomes : Cond) ∈ zws := zin4 (List.mem_of_getElem? (i := 190) rfl) rfl
set_option maxRecDepth 20000 in
theorem zw_962 : (.selects RX11 yX11_becomes yX11_becomes : Cond) ∈ zws := zin4 (List.mem_of_getElem? (i := 191) rfl) rfl
set_option maxRecDepth 20000 in
theorem zw_963 : (.code yX11_becomes cX11_becomes (4) (some .int) : Cond) ∈ zws := zin4 (List.mem_of_getElem? (i := 192) rfl) rfl
set_option maxRecDepth 20000 in
theorem zw_964 : (.methodLink RX11 (123) yX11_isWord : Cond) ∈ zws := zin4 (List.mem_of_getElem? (i := 193) rfl) rfl
set_option maxRecDepth 20000 in
theorem zw_966 : (.instanceMethod yX11_isWord : Cond) ∈ zws := zin4 (List.mem_of_getElem? (i := 195) rfl) rfl
set_option maxRecDepth 20000 in
theorem zw_967 : (.code yX11_isWord cX11_isWord (2) (some .boolean) : Cond) ∈ zws := zin4 (List.mem_of_getElem? (i := 196) rfl) rfl
set_option maxRecDepth 20000 in
theorem zw_968 : (.methodLink RX11 (126) yX11_isEnd : Cond) ∈ zws := zin4 (List.mem_of_getElem? (i := 197) rfl) rfl
set_option maxRecDepth 20000 in
theorem zw_970 : (.instanceMethod yX11_isEnd : Cond) ∈ zws := zin4 (List.mem_of_getElem? (i := 199) rfl) rfl
set_option maxRecDepth 20000 in
theorem zw_971 : (.code yX11_isEnd cX11_isEnd (2) (some .boolean) : Cond) ∈ zws := zin4 (List.mem_of_getElem? (i := 200) rfl) rfl
set_option maxRecDepth 20000 in
theorem zw_972 : (.methodLink RX11 (129) yX11_isWay : Cond) ∈ zws := zin4 (List.mem_of_getElem? (i := 201) rfl) rfl
set_option maxRecDepth 20000 in
theorem zw_973 : (.static yX11_isWay : Cond) ∈ zws := zin4 (List.mem_of_getElem? (i := 202) rfl) rfl
set_option maxRecDepth 20000 in
theorem zw_974 : (.code yX11_isWay cX11_isWay (1) (some .boolean) : Cond) ∈ zws := zin4 (List.mem_of_getElem? (i := 203) rfl) rfl
set_option maxRecDepth 20000 in
theorem zw_975 : (.methodLink RX11 (132) yX11_rowOf : Cond) ∈ zws := zin4 (List.mem_of_getElem? (i := 204) rfl) rfl
set_option maxRecDepth 20000 in
theorem zw_976 : (.static yX11_rowOf : Cond) ∈ zws := zin4 (List.mem_of_getElem? (i := 205) rfl) rfl
set_option maxRecDepth 20000 in
theorem zw_977 : (.code yX11_rowOf cX11_rowOf (2) (some .int) : Cond) ∈ zws := zin4 (List.mem_of_getElem? (i := 206) rfl) rfl
set_option maxRecDepth 20000 in
theorem zw_978 : (.methodLink RX11 (135) yX11_lacks : Cond) ∈ zws := zin4 (List.mem_of_getElem? (i := 207) rfl) rfl
set_option maxRecDepth 20000 in
theorem zw_979 : (.static yX11_lacks : Cond) ∈ zws := zin4 (List.mem_of_getElem? (i := 208) rfl) rfl
set_option maxRecDepth 20000 in
theorem zw_980 : (.code yX11_lacks cX11_lacks (5) (some .int) : Cond) ∈ zws := zin4 (List.mem_of_getElem? (i := 209) rfl) rfl
set_option maxRecDepth 20000 in
theorem zw_981 : (.methodLink RL (27) yX11_meant : Cond) ∈ zws := zin4 (List.mem_of_getElem? (i := 210) rfl) rfl
set_option maxRecDepth 20000 in
theorem zw_982 : (.instanceMethod yX11_meant : Cond) ∈ zws := zin4 (List.mem_of_getElem? (i := 211) rfl) rfl
set_option maxRecDepth 20000 in
theorem zw_983 : (.selects RX11 yX11_meant yX11_meant : Cond) ∈ zws := zin4 (List.mem_of_getElem? (i := 212) rfl) rfl
set_option maxRecDepth 20000 in
theorem zw_984 : (.code yX11_meant cX11_meant (3) (some .int) : Cond) ∈ zws := zin4 (List.mem_of_getElem? (i := 213) rfl) rfl
set_option maxRecDepth 20000 in
theorem zw_985 : (.methodLink RX11 (139) yX11_meantBy : Cond) ∈ zws := zin4 (List.mem_of_getElem? (i := 214) rfl) rfl
set_option maxRecDepth 20000 in
theorem zw_987 : (.instanceMethod yX11_meantBy : Cond) ∈ zws := zin4 (List.mem_of_getElem? (i := 216) rfl) rfl
set_option maxRecDepth 20000 in
theorem zw_988 : (.code yX11_meantBy cX11_meantBy (5) (some .int) : Cond) ∈ zws := zin4 (List.mem_of_getElem? (i := 217) rfl) rfl
set_option maxRecDepth 20000 in
theorem zw_989 : (.methodLink RL (31) yX11_alike : Cond) ∈ zws := zin4 (List.mem_of_getElem? (i := 218) rfl) rfl
set_option maxRecDepth 20000 in
theorem zw_990 : (.instanceMethod yX11_alike : Cond) ∈ zws := zin4 (List.mem_of_getElem? (i := 219) rfl) rfl
set_option maxRecDepth 20000 in
theorem zw_991 : (.selects RX11 yX11_alike yX11_alike : Cond) ∈ zws := zin4 (List.mem_of_getElem? (i := 220) rfl) rfl
set_option maxRecDepth 20000 in
theorem zw_992 : (.code yX11_alike cX11_alike (5) (some .int) : Cond) ∈ zws := zin4 (List.mem_of_getElem? (i := 221) rfl) rfl
set_option maxRecDepth 20000 in
theorem zw_993 : (.methodLink RL (35) yX11_interpreter : Cond) ∈ zws := zin4 (List.mem_of_getElem? (i := 222) rfl) rfl
set_option maxRecDepth 20000 in
theorem zw_994 : (.instanceMethod yX11_interpreter : Cond) ∈ zws := zin4 (List.mem_of_getElem? (i := 223) rfl) rfl
set_option maxRecDepth 20000 in
theorem zw_995 : (.selects RX11 yX11_interpreter yX11_interpreter : Cond) ∈ zws := zin4 (List.mem_of_getElem? (i := 224) rfl) rfl
set_option maxRecDepth 20000 in
theorem zw_996 : (.code yX11_interpreter cX11_interpreter (3) (some .int) : Cond) ∈ zws := zin4 (List.mem_of_getElem? (i := 225) rfl) rfl
set_option maxRecDepth 20000 in
theorem zw_997 : (.methodLink RL (39) yX11_ofInterpreter : Cond) ∈ zws := zin4 (List.mem_of_getElem? (i := 226) rfl) rfl
set_option maxRecDepth 20000 in
theorem zw_998 : (.instanceMethod yX11_ofInterpreter : Cond) ∈ zws := zin4 (List.mem_of_getElem? (i := 227) rfl) rfl
set_option maxRecDepth 20000 in
theorem zw_999 : (.selects RX11 yX11_ofInterpreter yX11_ofInterpreter : Cond) ∈ zws := zin4 (List.mem_of_getElem? (i := 228) rfl) rfl
set_option maxRecDepth 20000 in
theorem zw_1000 : (.code yX11_ofInterpreter cX11_ofInterpreter (3) (some .int) : Cond) ∈ zws := zin4 (List.mem_of_getElem? (i := 229) rfl) rfl
set_option maxRecDepth 20000 in
theorem zw_1001 : (.methodLink RX11 (145) yX11_isInterpreter : Cond) ∈ zws := zin4 (List.mem_of_getElem? (i := 230) rfl) rfl
set_option maxRecDepth 20000 in
theorem zw_1003 : (.instanceMethod yX11_isInterpreter : Cond) ∈ zws := zin4 (List.mem_of_getElem? (i := 232) rfl) rfl
set_option maxRecDepth 20000 in
theorem zw_1004 : (.code yX11_isInterpreter cX11_isInterpreter (2) (some .boolean) : Cond) ∈ zws := zin4 (List.mem_of_getElem? (i := 233) rfl) rfl
set_option maxRecDepth 20000 in
theorem zw_1005 : (.methodLink RL (43) yX11_tire : Cond) ∈ zws := zin4 (List.mem_of_getElem? (i := 234) rfl) rfl
set_option maxRecDepth 20000 in
theorem zw_1006 : (.instanceMethod yX11_tire : Cond) ∈ zws := zin4 (List.mem_of_getElem? (i := 235) rfl) rfl
set_option maxRecDepth 20000 in
theorem zw_1007 : (.selects RX11 yX11_tire yX11_tire : Cond) ∈ zws := zin4 (List.mem_of_getElem? (i := 236) rfl) rfl
set_option maxRecDepth 20000 in
theorem zw_1008 : (.code yX11_tire cX11_tire (4) (some .int) : Cond) ∈ zws := zin4 (List.mem_of_getElem? (i := 237) rfl) rfl
set_option maxRecDepth 20000 in
theorem zw_1009 : (.methodLink RL (47) yX11_carries : Cond) ∈ zws := zin4 (List.mem_of_getElem? (i := 238) rfl) rfl
set_option maxRecDepth 20000 in
theorem zw_1010 : (.instanceMethod yX11_carries : Cond) ∈ zws := zin4 (List.mem_of_getElem? (i := 239) rfl) rfl
set_option maxRecDepth 20000 in
theorem zw_1011 : (.selects RX11 yX11_carries yX11_carries : Cond) ∈ zws := zin5 (List.mem_of_getElem? (i := 0) rfl) rfl
set_option maxRecDepth 20000 in
theorem zw_1012 : (.code yX11_carries cX11_carries (5) (some .int) : Cond) ∈ zws := zin5 (List.mem_of_getElem? (i := 1) rfl) rfl
set_option maxRecDepth 20000 in
theorem zw_1013 : (.methodLink RX11 (151) yX11_carried : Cond) ∈ zws := zin5 (List.mem_of_getElem? (i := 2) rfl) rfl
set_option maxRecDepth 20000 in
theorem zw_1015 : (.instanceMethod yX11_carried : Cond) ∈ zws := zin5 (List.mem_of_getElem? (i := 4) rfl) rfl
set_option maxRecDepth 20000 in
theorem zw_1016 : (.code yX11_carried cX11_carried (6) (some .int) : Cond) ∈ zws := zin5 (List.mem_of_getElem? (i := 5) rfl) rfl
set_option maxRecDepth 20000 in
theorem zw_1017 : (.methodLink RX11 (148) yX11_plainly : Cond) ∈ zws := zin5 (List.mem_of_getElem? (i := 6) rfl) rfl
set_option maxRecDepth 20000 in
theorem zw_1019 : (.instanceMethod yX11_plainly : Cond) ∈ zws := zin5 (List.mem_of_getElem? (i := 8) rfl) rfl
set_option maxRecDepth 20000 in
theorem zw_1020 : (.code yX11_plainly cX11_plainly (10) (some .int) : Cond) ∈ zws := zin5 (List.mem_of_getElem? (i := 9) rfl) rfl
set_option maxRecDepth 20000 in
theorem zw_1021 : (.methodLink RL (51) yX11_returns : Cond) ∈ zws := zin5 (List.mem_of_getElem? (i := 10) rfl) rfl
set_option maxRecDepth 20000 in
theorem zw_1022 : (.instanceMethod yX11_returns : Cond) ∈ zws := zin5 (List.mem_of_getElem? (i := 11) rfl) rfl
set_option maxRecDepth 20000 in
theorem zw_1023 : (.selects RX11 yX11_returns yX11_returns : Cond) ∈ zws := zin5 (List.mem_of_getElem? (i := 12) rfl) rfl
set_option maxRecDepth 20000 in
theorem zw_1024 : (.code yX11_returns cX11_returns (9) (some .int) : Cond) ∈ zws := zin5 (List.mem_of_getElem? (i := 13) rfl) rfl
set_option maxRecDepth 20000 in
theorem zw_1025 : (.methodLink RL (56) yX11_hands : Cond) ∈ zws := zin5 (List.mem_of_getElem? (i := 14) rfl) rfl
set_option maxRecDepth 20000 in
theorem zw_1026 : (.instanceMethod yX11_hands : Cond) ∈ zws := zin5 (List.mem_of_getElem? (i := 15) rfl) rfl
set_option maxRecDepth 20000 in
theorem zw_1027 : (.selects RX11 yX11_hands yX11_hands : Cond) ∈ zws := zin5 (List.mem_of_getElem? (i := 16) rfl) rfl
set_option maxRecDepth 20000 in
theorem zw_1028 : (.code yX11_hands cX11_hands (17) (some .long) : Cond) ∈ zws := zin5 (List.mem_of_getElem? (i := 17) rfl) rfl
set_option maxRecDepth 20000 in
theorem zw_1029 : (.constantLong RX11 (69) (-9223372036854775808) : Cond) ∈ zws := zin5 (List.mem_of_getElem? (i := 18) rfl) rfl
set_option maxRecDepth 20000 in
theorem zw_1030 : (.methodLink RX11 (154) yX11_lost : Cond) ∈ zws := zin5 (List.mem_of_getElem? (i := 19) rfl) rfl
set_option maxRecDepth 20000 in
theorem zw_1032 : (.instanceMethod yX11_lost : Cond) ∈ zws := zin5 (List.mem_of_getElem? (i := 21) rfl) rfl
set_option maxRecDepth 20000 in
theorem zw_1033 : (.code yX11_lost cX11_lost (2) (some .long) : Cond) ∈ zws := zin5 (List.mem_of_getElem? (i := 22) rfl) rfl
set_option maxRecDepth 20000 in
theorem zw_1034 : (.methodLink RX11 (158) yX11_isWhich : Cond) ∈ zws := zin5 (List.mem_of_getElem? (i := 23) rfl) rfl
set_option maxRecDepth 20000 in
theorem zw_1035 : (.static yX11_isWhich : Cond) ∈ zws := zin5 (List.mem_of_getElem? (i := 24) rfl) rfl
set_option maxRecDepth 20000 in
theorem zw_1036 : (.code yX11_isWhich cX11_isWhich (1) (some .boolean) : Cond) ∈ zws := zin5 (List.mem_of_getElem? (i := 25) rfl) rfl
set_option maxRecDepth 20000 in
theorem zw_1037 : (.methodLink RX11 (161) yX11_carryOn : Cond) ∈ zws := zin5 (List.mem_of_getElem? (i := 26) rfl) rfl
set_option maxRecDepth 20000 in
theorem zw_1039 : (.instanceMethod yX11_carryOn : Cond) ∈ zws := zin5 (List.mem_of_getElem? (i := 28) rfl) rfl
set_option maxRecDepth 20000 in
theorem zw_1040 : (.code yX11_carryOn cX11_carryOn (5) (none : Option Jvm.ClassFile.FieldType) : Cond) ∈ zws := zin5 (List.mem_of_getElem? (i := 29) rfl) rfl
set_option maxRecDepth 20000 in
theorem zw_1041 : (.constantLong RX11 (165) (144) : Cond) ∈ zws := zin5 (List.mem_of_getElem? (i := 30) rfl) rfl
set_option maxRecDepth 20000 in
theorem zw_1042 : (.methodLink RX11 (167) yX11_share : Cond) ∈ zws := zin5 (List.mem_of_getElem? (i := 31) rfl) rfl
set_option maxRecDepth 20000 in
theorem zw_1043 : (.static yX11_share : Cond) ∈ zws := zin5 (List.mem_of_getElem? (i := 32) rfl) rfl
set_option maxRecDepth 20000 in
theorem zw_1044 : (.code yX11_share cX11_share (11) (some .long) : Cond) ∈ zws := zin5 (List.mem_of_getElem? (i := 33) rfl) rfl
set_option maxRecDepth 20000 in
theorem zw_1045 : (.methodLink RL (60) yX11_witness : Cond) ∈ zws := zin5 (List.mem_of_getElem? (i := 34) rfl) rfl
set_option maxRecDepth 20000 in
theorem zw_1046 : (.instanceMethod yX11_witness : Cond) ∈ zws := zin5 (List.mem_of_getElem? (i := 35) rfl) rfl
set_option maxRecDepth 20000 in
theorem zw_1047 : (.selects RX11 yX11_witness yX11_witness : Cond) ∈ zws := zin5 (List.mem_of_getElem? (i := 36) rfl) rfl
set_option maxRecDepth 20000 in
theorem zw_1048 : (.code yX11_witness cX11_witness (8) (some .int) : Cond) ∈ zws := zin5 (List.mem_of_getElem? (i := 37) rfl) rfl
set_option maxRecDepth 20000 in
theorem zw_1049 : (.methodLink RX11 (171) yX11_readWitness : Cond) ∈ zws := zin5 (List.mem_of_getElem? (i := 38) rfl) rfl
set_option maxRecDepth 20000 in
theorem zw_1051 : (.instanceMethod yX11_readWitness : Cond) ∈ zws := zin5 (List.mem_of_getElem? (i := 40) rfl) rfl
set_option maxRecDepth 20000 in
theorem zw_1052 : (.code yX11_readWitness cX11_readWitness (2) (some .boolean) : Cond) ∈ zws := zin5 (List.mem_of_getElem? (i := 41) rfl) rfl
set_option maxRecDepth 20000 in
theorem zw_1053 : (.methodLink RL (64) yX11_answers : Cond) ∈ zws := zin5 (List.mem_of_getElem? (i := 42) rfl) rfl
set_option maxRecDepth 20000 in
theorem zw_1054 : (.instanceMethod yX11_answers : Cond) ∈ zws := zin5 (List.mem_of_getElem? (i := 43) rfl) rfl
set_option maxRecDepth 20000 in
theorem zw_1055 : (.selects RX11 yX11_answers yX11_answers : Cond) ∈ zws := zin5 (List.mem_of_getElem? (i := 44) rfl) rfl
set_option maxRecDepth 20000 in
theorem zw_1056 : (.code yX11_answers cX11_answers (3) (some .int) : Cond) ∈ zws := zin5 (List.mem_of_getElem? (i := 45) rfl) rfl
set_option maxRecDepth 20000 in
theorem zw_1057 : (.methodLink RX11 (177) yX11_answered : Cond) ∈ zws := zin5 (List.mem_of_getElem? (i := 46) rfl) rfl
set_option maxRecDepth 20000 in
theorem zw_1059 : (.instanceMethod yX11_answered : Cond) ∈ zws := zin5 (List.mem_of_getElem? (i := 48) rfl) rfl
set_option maxRecDepth 20000 in
theorem zw_1060 : (.code yX11_answered cX11_answered (5) (some .int) : Cond) ∈ zws := zin5 (List.mem_of_getElem? (i := 49) rfl) rfl
set_option maxRecDepth 20000 in
theorem zw_1061 : (.methodLink RL (69) yX11_heard : Cond) ∈ zws := zin5 (List.mem_of_getElem? (i := 50) rfl) rfl
set_option maxRecDepth 20000 in
theorem zw_1062 : (.instanceMethod yX11_heard : Cond) ∈ zws := zin5 (List.mem_of_getElem? (i := 51) rfl) rfl
set_option maxRecDepth 20000 in
theorem zw_1063 : (.selects RX11 yX11_heard yX11_heard : Cond) ∈ zws := zin5 (List.mem_of_getElem? (i := 52) rfl) rfl
set_option maxRecDepth 20000 in
theorem zw_1064 : (.code yX11_heard cX11_heard (7) (some .long) : Cond) ∈ zws := zin5 (List.mem_of_getElem? (i := 53) rfl) rfl
set_option maxRecDepth 20000 in
theorem zw_1065 : (.constant RX11 (183) (2985984) : Cond) ∈ zws := zin5 (List.mem_of_getElem? (i := 54) rfl) rfl
set_option maxRecDepth 20000 in
theorem zw_1066 : (.methodLink RX11 (184) yX11_allWords : Cond) ∈ zws := zin5 (List.mem_of_getElem? (i := 55) rfl) rfl
set_option maxRecDepth 20000 in
theorem zw_1068 : (.instanceMethod yX11_allWords : Cond) ∈ zws := zin5 (List.mem_of_getElem? (i := 57) rfl) rfl
set_option maxRecDepth 20000 in
theorem zw_1069 : (.code yX11_allWords cX11_allWords (1) (some .int) : Cond) ∈ zws := zin5 (List.mem_of_getElem? (i := 58) rfl) rfl
set_option maxRecDepth 20000 in
theorem zw_1070 : (.methodLink RX11 (188) yX11_times : Cond) ∈ zws := zin5 (List.mem_of_getElem? (i := 59) rfl) rfl
set_option maxRecDepth 20000 in
theorem zw_1072 : (.instanceMethod yX11_times : Cond) ∈ zws := zin5 (List.mem_of_getElem? (i := 61) rfl) rfl
set_option maxRecDepth 20000 in
theorem zw_1073 : (.code yX11_times cX11_times (10) (some .int) : Cond) ∈ zws := zin5 (List.mem_of_getElem? (i := 62) rfl) rfl
set_option maxRecDepth 20000 in
theorem zw_1074 : (.methodLink RX11 (180) yX11_has : Cond) ∈ zws := zin5 (List.mem_of_getElem? (i := 63) rfl) rfl
set_option maxRecDepth 20000 in
theorem zw_1075 : (.static yX11_has : Cond) ∈ zws := zin5 (List.mem_of_getElem? (i := 64) rfl) rfl
set_option maxRecDepth 20000 in
theorem zw_1076 : (.code yX11_has cX11_has (2) (some .boolean) : Cond) ∈ zws := zin5 (List.mem_of_getElem? (i := 65) rfl) rfl
set_option maxRecDepth 20000 in
theorem zw_1077 : (.constantLong RX11 (192) (2985984) : Cond) ∈ zws := zin5 (List.mem_of_getElem? (i := 66) rfl) rfl
set_option maxRecDepth 20000 in
theorem zw_1078 : (.methodLink RL (73) yX11_reached : Cond) ∈ zws := zin5 (List.mem_of_getElem? (i := 67) rfl) rfl
set_option maxRecDepth 20000 in
theorem zw_1079 : (.instanceMethod yX11_reached : Cond) ∈ zws := zin5 (List.mem_of_getElem? (i := 68) rfl) rfl
set_option maxRecDepth 20000 in
theorem zw_1080 : (.selects RX11 yX11_reached yX11_reached : Cond) ∈ zws := zin5 (List.mem_of_getElem? (i := 69) rfl) rfl
set_option maxRecDepth 20000 in
theorem zw_1081 : (.code yX11_reached cX11_reached (6) (some .long) : Cond) ∈ zws := zin5 (List.mem_of_getElem? (i := 70) rfl) rfl
set_option maxRecDepth 20000 in
theorem zw_1082 : (.methodLink RX11 (194) yX11_isAsked : Cond) ∈ zws := zin5 (List.mem_of_getElem? (i := 71) rfl) rfl
set_option maxRecDepth 20000 in
theorem zw_1084 : (.instanceMethod yX11_isAsked : Cond) ∈ zws := zin5 (List.mem_of_getElem? (i := 73) rfl) rfl
set_option maxRecDepth 20000 in
theorem zw_1085 : (.code yX11_isAsked cX11_isAsked (4) (some .boolean) : Cond) ∈ zws := zin5 (List.mem_of_getElem? (i := 74) rfl) rfl
set_option maxRecDepth 20000 in
theorem zw_1086 : (.methodLink RL (77) yX11_said : Cond) ∈ zws := zin5 (List.mem_of_getElem? (i := 75) rfl) rfl
set_option maxRecDepth 20000 in
theorem zw_1087 : (.instanceMethod yX11_said : Cond) ∈ zws := zin5 (List.mem_of_getElem? (i := 76) rfl) rfl
set_option maxRecDepth 20000 in
theorem zw_1088 : (.selects RX11 yX11_said yX11_said : Cond) ∈ zws := zin5 (List.mem_of_getElem? (i := 77) rfl) rfl
set_option maxRecDepth 20000 in
theorem zw_1089 : (.code yX11_said cX11_said (6) (some .long) : Cond) ∈ zws := zin5 (List.mem_of_getElem? (i := 78) rfl) rfl
set_option maxRecDepth 20000 in
theorem zw_1090 : (.methodLink RX11 (197) yX11_saidBy : Cond) ∈ zws := zin5 (List.mem_of_getElem? (i := 79) rfl) rfl
set_option maxRecDepth 20000 in
theorem zw_1092 : (.instanceMethod yX11_saidBy : Cond) ∈ zws := zin5 (List.mem_of_getElem? (i := 81) rfl) rfl
set_option maxRecDepth 20000 in
theorem zw_1093 : (.code yX11_saidBy cX11_saidBy (4) (some .int) : Cond) ∈ zws := zin5 (List.mem_of_getElem? (i := 82) rfl) rfl
set_option maxRecDepth 20000 in
theorem zw_1094 : (.methodLink RL (82) yX11_over : Cond) ∈ zws := zin5 (List.mem_of_getElem? (i := 83) rfl) rfl
set_option maxRecDepth 20000 in
theorem zw_1095 : (.instanceMethod yX11_over : Cond) ∈ zws := zin5 (List.mem_of_getElem? (i := 84) rfl) rfl
set_option maxRecDepth 20000 in
theorem zw_1096 : (.selects RX11 yX11_over yX11_over : Cond) ∈ zws := zin5 (List.mem_of_getElem? (i := 85) rfl) rfl
set_option maxRecDepth 20000 in
theorem zw_1097 : (.code yX11_over cX11_over (4) (some .long) : Cond) ∈ zws := zin5 (List.mem_of_getElem? (i := 86) rfl) rfl
set_option maxRecDepth 20000 in
theorem zw_1098 : (.methodLink RX11 (200) yX11_overOf : Cond) ∈ zws := zin5 (List.mem_of_getElem? (i := 87) rfl) rfl
set_option maxRecDepth 20000 in
theorem zw_1100 : (.instanceMethod yX11_overOf : Cond) ∈ zws := zin5 (List.mem_of_getElem? (i := 89) rfl) rfl
set_option maxRecDepth 20000 in
theorem zw_1101 : (.code yX11_overOf cX11_overOf (5) (some .int) : Cond) ∈ zws := zin5 (List.mem_of_getElem? (i := 90) rfl) rfl
set_option maxRecDepth 20000 in
theorem zw_1102 : (.methodLink RL (86) yX11_ask : Cond) ∈ zws := zin5 (List.mem_of_getElem? (i := 91) rfl) rfl
set_option maxRecDepth 20000 in
theorem zw_1103 : (.instanceMethod yX11_ask : Cond) ∈ zws := zin5 (List.mem_of_getElem? (i := 92) rfl) rfl
set_option maxRecDepth 20000 in
theorem zw_1104 : (.selects RX11 yX11_ask yX11_ask : Cond) ∈ zws := zin5 (List.mem_of_getElem? (i := 93) rfl) rfl
set_option maxRecDepth 20000 in
theorem zw_1105 : (.code yX11_ask cX11_ask (6) (some .int) : Cond) ∈ zws := zin5 (List.mem_of_getElem? (i := 94) rfl) rfl
set_option maxRecDepth 20000 in
theorem zw_1106 : (.methodLink RL (91) yX11_turn : Cond) ∈ zws := zin5 (List.mem_of_getElem? (i := 95) rfl) rfl
set_option maxRecDepth 20000 in
theorem zw_1107 : (.instanceMethod yX11_turn : Cond) ∈ zws := zin5 (List.mem_of_getElem? (i := 96) rfl) rfl
set_option maxRecDepth 20000 in
theorem zw_1108 : (.selects RX11 yX11_turn yX11_turn : Cond) ∈ zws := zin5 (List.mem_of_getElem? (i := 97) rfl) rfl
set_option maxRecDepth 20000 in
theorem zw_1109 : (.code yX11_turn cX11_turn (6) (some .int) : Cond) ∈ zws := zin5 (List.mem_of_getElem? (i := 98) rfl) rfl
set_option maxRecDepth 20000 in
theorem zw_1110 : (.methodLink RL (95) yX11_ofTurn : Cond) ∈ zws := zin5 (List.mem_of_getElem? (i := 99) rfl) rfl
set_option maxRecDepth 20000 in
theorem zw_1111 : (.instanceMethod yX11_ofTurn : Cond) ∈ zws := zin5 (List.mem_of_getElem? (i := 100) rfl) rfl
set_option maxRecDepth 20000 in
theorem zw_1112 : (.selects RX11 yX11_ofTurn yX11_ofTurn : Cond) ∈ zws := zin5 (List.mem_of_getElem? (i := 101) rfl) rfl
set_option maxRecDepth 20000 in
theorem zw_1113 : (.code yX11_ofTurn cX11_ofTurn (3) (some .int) : Cond) ∈ zws := zin5 (List.mem_of_getElem? (i := 102) rfl) rfl
set_option maxRecDepth 20000 in
theorem zw_1114 : (.methodLink RX11 (205) yX11_truthOf : Cond) ∈ zws := zin5 (List.mem_of_getElem? (i := 103) rfl) rfl
set_option maxRecDepth 20000 in
theorem zw_1116 : (.instanceMethod yX11_truthOf : Cond) ∈ zws := zin5 (List.mem_of_getElem? (i := 105) rfl) rfl
set_option maxRecDepth 20000 in
theorem zw_1117 : (.code yX11_truthOf cX11_truthOf (5) (some .int) : Cond) ∈ zws := zin5 (List.mem_of_getElem? (i := 106) rfl) rfl
set_option maxRecDepth 20000 in
theorem zw_1118 : (.constantLong RX11 (203) (1000) : Cond) ∈ zws := zin5 (List.mem_of_getElem? (i := 107) rfl) rfl
set_option maxRecDepth 20000 in
theorem zw_1119 : (.methodLink RL (100) yX11_back : Cond) ∈ zws := zin5 (List.mem_of_getElem? (i := 108) rfl) rfl
set_option maxRecDepth 20000 in
theorem zw_1120 : (.instanceMethod yX11_back : Cond) ∈ zws := zin5 (List.mem_of_getElem? (i := 109) rfl) rfl
set_option maxRecDepth 20000 in
theorem zw_1121 : (.selects RX11 yX11_back yX11_back : Cond) ∈ zws := zin5 (List.mem_of_getElem? (i := 110) rfl) rfl
set_option maxRecDepth 20000 in
theorem zw_1122 : (.code yX11_back cX11_back (2) (some .int) : Cond) ∈ zws := zin5 (List.mem_of_getElem? (i := 111) rfl) rfl
set_option maxRecDepth 20000 in
theorem zw_1123 : (.methodLink RL (105) yX11_wrong : Cond) ∈ zws := zin5 (List.mem_of_getElem? (i := 112) rfl) rfl
set_option maxRecDepth 20000 in
theorem zw_1124 : (.instanceMethod yX11_wrong : Cond) ∈ zws := zin5 (List.mem_of_getElem? (i := 113) rfl) rfl
set_option maxRecDepth 20000 in
theorem zw_1125 : (.selects RX11 yX11_wrong yX11_wrong : Cond) ∈ zws := zin5 (List.mem_of_getElem? (i := 114) rfl) rfl
set_option maxRecDepth 20000 in
theorem zw_1126 : (.code yX11_wrong cX11_wrong (9) (some .long) : Cond) ∈ zws := zin5 (List.mem_of_getElem? (i := 115) rfl) rfl
set_option maxRecDepth 20000 in
theorem zw_1127 : (.methodLink RL (109) yX11_again : Cond) ∈ zws := zin5 (List.mem_of_getElem? (i := 116) rfl) rfl
set_option maxRecDepth 20000 in
theorem zw_1128 : (.instanceMethod yX11_again : Cond) ∈ zws := zin5 (List.mem_of_getElem? (i := 117) rfl) rfl
set_option maxRecDepth 20000 in
theorem zw_1129 : (.selects RX11 yX11_again yX11_again : Cond) ∈ zws := zin5 (List.mem_of_getElem? (i := 118) rfl) rfl
set_option maxRecDepth 20000 in
theorem zw_1130 : (.code yX11_again cX11_again (9) (some .int) : Cond) ∈ zws := zin5 (List.mem_of_getElem? (i := 119) rfl) rfl
set_option maxRecDepth 20000 in
theorem zw_1131 : (.methodLink RL (113) yX11_shifts : Cond) ∈ zws := zin5 (List.mem_of_getElem? (i := 120) rfl) rfl
set_option maxRecDepth 20000 in
theorem zw_1132 : (.instanceMethod yX11_shifts : Cond) ∈ zws := zin5 (List.mem_of_getElem? (i := 121) rfl) rfl
set_option maxRecDepth 20000 in
theorem zw_1133 : (.selects RX11 yX11_shifts yX11_shifts : Cond) ∈ zws := zin5 (List.mem_of_getElem? (i := 122) rfl) rfl
set_option maxRecDepth 20000 in
theorem zw_1134 : (.code yX11_shifts cX11_shifts (11) (some .int) : Cond) ∈ zws := zin5 (List.mem_of_getElem? (i := 123) rfl) rfl
set_option maxRecDepth 20000 in
theorem zw_1135 : (.methodLink RX11 (221) yX11_layLeast : Cond) ∈ zws := zin5 (List.mem_of_getElem? (i := 124) rfl) rfl
set_option maxRecDepth 20000 in
theorem zw_1137 : (.instanceMethod yX11_layLeast : Cond) ∈ zws := zin5 (List.mem_of_getElem? (i := 126) rfl) rfl
set_option maxRecDepth 20000 in
theorem zw_1138 : (.code yX11_layLeast cX11_layLeast (9) (none : Option Jvm.ClassFile.FieldType) : Cond) ∈ zws := zin5 (List.mem_of_getElem? (i := 127) rfl) rfl
set_option maxRecDepth 20000 in
theorem zw_1139 : (.methodLink RX11 (214) yX11_spot : Cond) ∈ zws := zin5 (List.mem_of_getElem? (i := 128) rfl) rfl
set_option maxRecDepth 20000 in
theorem zw_1140 : (.static yX11_spot : Cond) ∈ zws := zin5 (List.mem_of_getElem? (i := 129) rfl) rfl
set_option maxRecDepth 20000 in
theorem zw_1141 : (.code yX11_spot cX11_spot (4) (some .int) : Cond) ∈ zws := zin5 (List.mem_of_getElem? (i := 130) rfl) rfl
set_option maxRecDepth 20000 in
theorem zw_1142 : (.methodLink RX11 (217) yX11_costBy : Cond) ∈ zws := zin5 (List.mem_of_getElem? (i := 131) rfl) rfl
set_option maxRecDepth 20000 in
theorem zw_1144 : (.instanceMethod yX11_costBy : Cond) ∈ zws := zin5 (List.mem_of_getElem? (i := 133) rfl) rfl
set_option maxRecDepth 20000 in
theorem zw_1145 : (.code yX11_costBy cX11_costBy (10) (some .int) : Cond) ∈ zws := zin5 (List.mem_of_getElem? (i := 134) rfl) rfl
set_option maxRecDepth 20000 in
theorem zw_1146 : (.methodLink RX11 (208) yX11_more : Cond) ∈ zws := zin5 (List.mem_of_getElem? (i := 135) rfl) rfl
set_option maxRecDepth 20000 in
theorem zw_1147 : (.static yX11_more : Cond) ∈ zws := zin5 (List.mem_of_getElem? (i := 136) rfl) rfl
set_option maxRecDepth 20000 in
theorem zw_1148 : (.code yX11_more cX11_more (1) (some .int) : Cond) ∈ zws := zin5 (List.mem_of_getElem? (i := 137) rfl) rfl
set_option maxRecDepth 20000 in
theorem zw_1149 : (.methodLink RX11 (211) yX11_less : Cond) ∈ zws := zin5 (List.mem_of_getElem? (i := 138) rfl) rfl
set_option maxRecDepth 20000 in
theorem zw_1150 : (.static yX11_less : Cond) ∈ zws := zin5 (List.mem_of_getElem? (i := 139) rfl) rfl
set_option maxRecDepth 20000 in
theorem zw_1151 : (.code yX11_less cX11_less (1) (some .int) : Cond) ∈ zws := zin5 (List.mem_of_getElem? (i := 140) rfl) rfl
set_option maxRecDepth 20000 in
theorem zw_1152 : (.methodLink RL (117) yX11_booth : Cond) ∈ zws := zin5 (List.mem_of_getElem? (i := 141) rfl) rfl
set_option maxRecDepth 20000 in
theorem zw_1153 : (.instanceMethod yX11_booth : Cond) ∈ zws := zin5 (List.mem_of_getElem? (i := 142) rfl) rfl
set_option maxRecDepth 20000 in
theorem zw_1154 : (.selects RX11 yX11_booth yX11_booth : Cond) ∈ zws := zin5 (List.mem_of_getElem? (i := 143) rfl) rfl
set_option maxRecDepth 20000 in
theorem zw_1155 : (.code yX11_booth cX11_booth (12) (some .int) : Cond) ∈ zws := zin5 (List.mem_of_getElem? (i := 144) rfl) rfl
set_option maxRecDepth 20000 in
theorem zw_1156 : (.methodLink RX11 (224) yX11_isOrder : Cond) ∈ zws := zin5 (List.mem_of_getElem? (i := 145) rfl) rfl
set_option maxRecDepth 20000 in
theorem zw_1158 : (.instanceMethod yX11_isOrder : Cond) ∈ zws := zin5 (List.mem_of_getElem? (i := 147) rfl) rfl
set_option maxRecDepth 20000 in
theorem zw_1159 : (.code yX11_isOrder cX11_isOrder (5) (some .boolean) : Cond) ∈ zws := zin5 (List.mem_of_getElem? (i := 148) rfl) rfl
set_option maxRecDepth 20000 in
theorem zw_1160 : (.methodLink RX11 (227) yX11_held : Cond) ∈ zws := zin5 (List.mem_of_getElem? (i := 149) rfl) rfl
set_option maxRecDepth 20000 in
theorem zw_1162 : (.instanceMethod yX11_held : Cond) ∈ zws := zin5 (List.mem_of_getElem? (i := 151) rfl) rfl
set_option maxRecDepth 20000 in
theorem zw_1163 : (.code yX11_held cX11_held (7) (some .int) : Cond) ∈ zws := zin5 (List.mem_of_getElem? (i := 152) rfl) rfl
set_option maxRecDepth 20000 in
theorem zw_1164 : (.methodLink RL (121) yX11_sheet : Cond) ∈ zws := zin5 (List.mem_of_getElem? (i := 153) rfl) rfl
set_option maxRecDepth 20000 in
theorem zw_1165 : (.instanceMethod yX11_sheet : Cond) ∈ zws := zin5 (List.mem_of_getElem? (i := 154) rfl) rfl
set_option maxRecDepth 20000 in
theorem zw_1166 : (.selects RX11 yX11_sheet yX11_sheet : Cond) ∈ zws := zin5 (List.mem_of_getElem? (i := 155) rfl) rfl
set_option maxRecDepth 20000 in
theorem zw_1167 : (.code yX11_sheet cX11_sheet (5) (some .int) : Cond) ∈ zws := zin5 (List.mem_of_getElem? (i := 156) rfl) rfl
set_option maxRecDepth 20000 in
theorem zw_1168 : (.methodLink RL (125) yX11_lose : Cond) ∈ zws := zin5 (List.mem_of_getElem? (i := 157) rfl) rfl
set_option maxRecDepth 20000 in
theorem zw_1169 : (.instanceMethod yX11_lose : Cond) ∈ zws := zin5 (List.mem_of_getElem? (i := 158) rfl) rfl
set_option maxRecDepth 20000 in
theorem zw_1170 : (.selects RX11 yX11_lose yX11_lose : Cond) ∈ zws := zin5 (List.mem_of_getElem? (i := 159) rfl) rfl
set_option maxRecDepth 20000 in
theorem zw_1171 : (.code yX11_lose cX11_lose (3) (some .int) : Cond) ∈ zws := zin5 (List.mem_of_getElem? (i := 160) rfl) rfl
set_option maxRecDepth 20000 in
theorem zw_1172 : (.methodLink RL (129) yX11_put : Cond) ∈ zws := zin5 (List.mem_of_getElem? (i := 161) rfl) rfl
set_option maxRecDepth 20000 in
theorem zw_1173 : (.instanceMethod yX11_put : Cond) ∈ zws := zin5 (List.mem_of_getElem? (i := 162) rfl) rfl
set_option maxRecDepth 20000 in
theorem zw_1174 : (.selects RX11 yX11_put yX11_put : Cond) ∈ zws := zin5 (List.mem_of_getElem? (i := 163) rfl) rfl
set_option maxRecDepth 20000 in
theorem zw_1175 : (.code yX11_put cX11_put (4) (some .int) : Cond) ∈ zws := zin5 (List.mem_of_getElem? (i := 164) rfl) rfl
set_option maxRecDepth 20000 in
theorem zw_1176 : (.methodLink RL (133) yX11_cell : Cond) ∈ zws := zin5 (List.mem_of_getElem? (i := 165) rfl) rfl
set_option maxRecDepth 20000 in
theorem zw_1177 : (.instanceMethod yX11_cell : Cond) ∈ zws := zin5 (List.mem_of_getElem? (i := 166) rfl) rfl
set_option maxRecDepth 20000 in
theorem zw_1178 : (.selects RX11 yX11_cell yX11_cell : Cond) ∈ zws := zin5 (List.mem_of_getElem? (i := 167) rfl) rfl
set_option maxRecDepth 20000 in
theorem zw_1179 : (.code yX11_cell cX11_cell (4) (some .long) : Cond) ∈ zws := zin5 (List.mem_of_getElem? (i := 168) rfl) rfl
set_option maxRecDepth 20000 in
theorem zw_1180 : (.methodLink RL (137) yX11_copy : Cond) ∈ zws := zin5 (List.mem_of_getElem? (i := 169) rfl) rfl
set_option maxRecDepth 20000 in
theorem zw_1181 : (.instanceMethod yX11_copy : Cond) ∈ zws := zin5 (List.mem_of_getElem? (i := 170) rfl) rfl
set_option maxRecDepth 20000 in
theorem zw_1182 : (.selects RX11 yX11_copy yX11_copy : Cond) ∈ zws := zin5 (List.mem_of_getElem? (i := 171) rfl) rfl
set_option maxRecDepth 20000 in
theorem zw_1183 : (.code yX11_copy cX11_copy (10) (some .int) : Cond) ∈ zws := zin5 (List.mem_of_getElem? (i := 172) rfl) rfl
set_option maxRecDepth 20000 in
theorem zw_1184 : (.methodLink RL (141) yX11_tell : Cond) ∈ zws := zin5 (List.mem_of_getElem? (i := 173) rfl) rfl
set_option maxRecDepth 20000 in
theorem zw_1185 : (.instanceMethod yX11_tell : Cond) ∈ zws := zin5 (List.mem_of_getElem? (i := 174) rfl) rfl
set_option maxRecDepth 20000 in
theorem zw_1186 : (.selects RX11 yX11_tell yX11_tell : Cond) ∈ zws := zin5 (List.mem_of_getElem? (i := 175) rfl) rfl
set_option maxRecDepth 20000 in
theorem zw_1187 : (.code yX11_tell cX11_tell (3) (some .int) : Cond) ∈ zws := zin5 (List.mem_of_getElem? (i := 176) rfl) rfl
set_option maxRecDepth 20000 in
theorem zw_1188 : (.methodLink RX11 (233) yX11_begins : Cond) ∈ zws := zin5 (List.mem_of_getElem? (i := 177) rfl) rfl
set_option maxRecDepth 20000 in
theorem zw_1190 : (.instanceMethod yX11_begins : Cond) ∈ zws := zin5 (List.mem_of_getElem? (i := 179) rfl) rfl
set_option maxRecDepth 20000 in
theorem zw_1191 : (.code yX11_begins cX11_begins (2) (none : Option Jvm.ClassFile.FieldType) : Cond) ∈ zws := zin5 (List.mem_of_getElem? (i := 180) rfl) rfl
set_option maxRecDepth 20000 in
theorem zw_1192 : (.methodLink RL (145) yX11_pay : Cond) ∈ zws := zin5 (List.mem_of_getElem? (i := 181) rfl) rfl
set_option maxRecDepth 20000 in
theorem zw_1193 : (.instanceMethod yX11_pay : Cond) ∈ zws := zin5 (List.mem_of_getElem? (i := 182) rfl) rfl
set_option maxRecDepth 20000 in
theorem zw_1194 : (.selects RX11 yX11_pay yX11_pay : Cond) ∈ zws := zin5 (List.mem_of_getElem? (i := 183) rfl) rfl
set_option maxRecDepth 20000 in
theorem zw_1195 : (.code yX11_pay cX11_pay (2) (some .int) : Cond) ∈ zws := zin5 (List.mem_of_getElem? (i := 184) rfl) rfl
set_option maxRecDepth 20000 in
theorem zw_1196 : (.methodLink RL (149) yX11_as : Cond) ∈ zws := zin5 (List.mem_of_getElem? (i := 185) rfl) rfl
set_option maxRecDepth 20000 in
theorem zw_1197 : (.instanceMethod yX11_as : Cond) ∈ zws := zin5 (List.mem_of_getElem? (i := 186) rfl) rfl
set_option maxRecDepth 20000 in
theorem zw_1198 : (.selects RX11 yX11_as yX11_as : Cond) ∈ zws := zin5 (List.mem_of_getElem? (i := 187) rfl) rfl
set_option maxRecDepth 20000 in
theorem zw_1199 : (.code yX11_as cX11_as (3) (some .int) : Cond) ∈ zws := zin5 (List.mem_of_getElem? (i := 188) rfl) rfl
set_option maxRecDepth 20000 in
theorem zw_1200 : (.methodLink RL (154) yX11_trace : Cond) ∈ zws := zin5 (List.mem_of_getElem? (i := 189) rfl) rfl
set_option maxRecDepth 20000 in
theorem zw_1201 : (.instanceMethod yX11_trace : Cond) ∈ zws := zin5 (List.mem_of_getElem? (i := 190) rfl) rfl
set_option maxRecDepth 20000 in
theorem zw_1202 : (.selects RX11 yX11_trace yX11_trace : Cond) ∈ zws := zin5 (List.mem_of_getElem? (i := 191) rfl) rfl
set_option maxRecDepth 20000 in
theorem zw_1203 : (.code yX11_trace cX11_trace (1) (some .int) : Cond) ∈ zws := zin5 (List.mem_of_getElem? (i := 192) rfl) rfl
set_option maxRecDepth 20000 in
theorem zw_1204 : (.methodLink RL (158) yX11_fault : Cond) ∈ zws := zin5 (List.mem_of_getElem? (i := 193) rfl) rfl
set_option maxRecDepth 20000 in
theorem zw_1205 : (.instanceMethod yX11_fault : Cond) ∈ zws := zin5 (List.mem_of_getElem? (i := 194) rfl) rfl
set_option maxRecDepth 20000 in
theorem zw_1206 : (.selects RX11 yX11_fault yX11_fault : Cond) ∈ zws := zin5 (List.mem_of_getElem? (i := 195) rfl) rfl
set_option maxRecDepth 20000 in
theorem zw_1207 : (.code yX11_fault cX11_fault (1) (some .int) : Cond) ∈ zws := zin5 (List.mem_of_getElem? (i := 196) rfl) rfl
set_option maxRecDepth 20000 in
theorem zw_1208 : (.methodLink RL (162) yX11_many : Cond) ∈ zws := zin5 (List.mem_of_getElem? (i := 197) rfl) rfl
set_option maxRecDepth 20000 in
theorem zw_1209 : (.instanceMethod yX11_many : Cond) ∈ zws := zin5 (List.mem_of_getElem? (i := 198) rfl) rfl
set_option maxRecDepth 20000 in
theorem zw_1210 : (.selects RX11 yX11_many yX11_many : Cond) ∈ zws := zin5 (List.mem_of_getElem? (i := 199) rfl) rfl
set_option maxRecDepth 20000 in
theorem zw_1211 : (.code yX11_many cX11_many (2) (some .int) : Cond) ∈ zws := zin5 (List.mem_of_getElem? (i := 200) rfl) rfl
end
