section
/-- a private method of a class that the tables say can be made, by its rows of tables_1 -/
def lw_okq (q : MethodName × Nat) : Prop := (q.1.cls ≠ "java/lang/invoke/MethodHandle" ∧ q.1.cls ≠ "java/lang/invoke/VarHandle") ∧ Cond.instantiable q.1.cls q.2 ∈ tables_1 ∧ Cond.privateMethod q.1 ∈ tables_1 ∧ Cond.instanceMethod q.1 ∈ tables_1
theorem lw_p0 : lw_okq (⟨"StackYard$Yard", "ownLayer", "(I)LStackYard$Layer;"⟩, 2) := ⟨⟨by decide +kernel, by decide +kernel⟩, List.mem_of_getElem? (i := 93) (by decide +kernel), List.mem_of_getElem? (i := 313) (by decide +kernel), List.mem_of_getElem? (i := 314) (by decide +kernel)⟩
theorem lw_p1 : lw_okq (⟨"StackYard$Yard", "ownRow", "(II)LStackYard$Row;"⟩, 2) := ⟨⟨by decide +kernel, by decide +kernel⟩, List.mem_of_getElem? (i := 93) (by decide +kernel), List.mem_of_getElem? (i := 397) (by decide +kernel), List.mem_of_getElem? (i := 398) (by decide +kernel)⟩
theorem lw_p2 : lw_okq (⟨"StackYard", "codeIn", "(IIII)I"⟩, 14) := ⟨⟨by decide +kernel, by decide +kernel⟩, List.mem_of_getElem? (i := 20) (by decide +kernel), List.mem_of_getElem? (i := 420) (by decide +kernel), List.mem_of_getElem? (i := 421) (by decide +kernel)⟩
theorem lw_p3 : lw_okq (⟨"StackYard", "slotsKeeping", "()I"⟩, 14) := ⟨⟨by decide +kernel, by decide +kernel⟩, List.mem_of_getElem? (i := 20) (by decide +kernel), List.mem_of_getElem? (i := 463) (by decide +kernel), List.mem_of_getElem? (i := 464) (by decide +kernel)⟩
theorem lw_p4 : lw_okq (⟨"StackYard", "readBox", "(I)V"⟩, 14) := ⟨⟨by decide +kernel, by decide +kernel⟩, List.mem_of_getElem? (i := 20) (by decide +kernel), List.mem_of_getElem? (i := 502) (by decide +kernel), List.mem_of_getElem? (i := 503) (by decide +kernel)⟩
theorem lw_p5 : lw_okq (⟨"StackYard$Grid", "readRow", "(LStackYard$Row;I)V"⟩, 3) := ⟨⟨by decide +kernel, by decide +kernel⟩, List.mem_of_getElem? (i := 108) (by decide +kernel), List.mem_of_getElem? (i := 512) (by decide +kernel), List.mem_of_getElem? (i := 513) (by decide +kernel)⟩
theorem lw_p6 : lw_okq (⟨"StackYard", "findParts", "(I)V"⟩, 14) := ⟨⟨by decide +kernel, by decide +kernel⟩, List.mem_of_getElem? (i := 20) (by decide +kernel), List.mem_of_getElem? (i := 583) (by decide +kernel), List.mem_of_getElem? (i := 584) (by decide +kernel)⟩
theorem lw_p7 : lw_okq (⟨"StackYard$Parts", "gather", "(LStackYard$Grid;II)I"⟩, 5) := ⟨⟨by decide +kernel, by decide +kernel⟩, List.mem_of_getElem? (i := 126) (by decide +kernel), List.mem_of_getElem? (i := 592) (by decide +kernel), List.mem_of_getElem? (i := 593) (by decide +kernel)⟩
theorem lw_p8 : lw_okq (⟨"StackYard$Parts", "freeBelow", "(IILStackYard$Grid;)I"⟩, 5) := ⟨⟨by decide +kernel, by decide +kernel⟩, List.mem_of_getElem? (i := 126) (by decide +kernel), List.mem_of_getElem? (i := 628) (by decide +kernel), List.mem_of_getElem? (i := 629) (by decide +kernel)⟩
theorem lw_p9 : lw_okq (⟨"StackYard", "noteFall", "(II)V"⟩, 14) := ⟨⟨by decide +kernel, by decide +kernel⟩, List.mem_of_getElem? (i := 20) (by decide +kernel), List.mem_of_getElem? (i := 645) (by decide +kernel), List.mem_of_getElem? (i := 646) (by decide +kernel)⟩
theorem lw_p10 : lw_okq (⟨"StackYard$Lamps", "spread", "(ILStackYard$Grid;LStackYard$Kinds;)V"⟩, 1) := ⟨⟨by decide +kernel, by decide +kernel⟩, List.mem_of_getElem? (i := 150) (by decide +kernel), List.mem_of_getElem? (i := 695) (by decide +kernel), List.mem_of_getElem? (i := 696) (by decide +kernel)⟩
theorem lw_p11 : lw_okq (⟨"StackYard$Walk", "reach", "(LStackYard$Grid;II)V"⟩, 3) := ⟨⟨by decide +kernel, by decide +kernel⟩, List.mem_of_getElem? (i := 161) (by decide +kernel), List.mem_of_getElem? (i := 726) (by decide +kernel), List.mem_of_getElem? (i := 727) (by decide +kernel)⟩
theorem lw_p12 : lw_okq (⟨"StackYard$Walk", "leave", "(LStackYard$Grid;I)V"⟩, 3) := ⟨⟨by decide +kernel, by decide +kernel⟩, List.mem_of_getElem? (i := 161) (by decide +kernel), List.mem_of_getElem? (i := 730) (by decide +kernel), List.mem_of_getElem? (i := 731) (by decide +kernel)⟩
theorem lw_p13 : lw_okq (⟨"StackYard", "seekWay", "(III)I"⟩, 14) := ⟨⟨by decide +kernel, by decide +kernel⟩, List.mem_of_getElem? (i := 20) (by decide +kernel), List.mem_of_getElem? (i := 739) (by decide +kernel), List.mem_of_getElem? (i := 740) (by decide +kernel)⟩
theorem lw_p14 : lw_okq (⟨"java/lang/Throwable", "fillInStackTrace", "(I)Ljava/lang/Throwable;"⟩, 6) := ⟨⟨by decide +kernel, by decide +kernel⟩, List.mem_of_getElem? (i := 812) (by decide +kernel), List.mem_of_getElem? (i := 810) (by decide +kernel), List.mem_of_getElem? (i := 811) (by decide +kernel)⟩
theorem lw_p15 : lw_okq (⟨"StackYardModel", "times", "(II)I"⟩, 33) := ⟨⟨by decide +kernel, by decide +kernel⟩, List.mem_of_getElem? (i := 837) (by decide +kernel), List.mem_of_getElem? (i := 962) (by decide +kernel), List.mem_of_getElem? (i := 963) (by decide +kernel)⟩
def lw_privs_1 : List (MethodName × Nat) := [(⟨"StackYard$Yard", "ownLayer", "(I)LStackYard$Layer;"⟩, 2), (⟨"StackYard$Yard", "ownRow", "(II)LStackYard$Row;"⟩, 2), (⟨"StackYard", "codeIn", "(IIII)I"⟩, 14), (⟨"StackYard", "slotsKeeping", "()I"⟩, 14), (⟨"StackYard", "readBox", "(I)V"⟩, 14), (⟨"StackYard$Grid", "readRow", "(LStackYard$Row;I)V"⟩, 3), (⟨"StackYard", "findParts", "(I)V"⟩, 14), (⟨"StackYard$Parts", "gather", "(LStackYard$Grid;II)I"⟩, 5), (⟨"StackYard$Parts", "freeBelow", "(IILStackYard$Grid;)I"⟩, 5), (⟨"StackYard", "noteFall", "(II)V"⟩, 14), (⟨"StackYard$Lamps", "spread", "(ILStackYard$Grid;LStackYard$Kinds;)V"⟩, 1), (⟨"StackYard$Walk", "reach", "(LStackYard$Grid;II)V"⟩, 3), (⟨"StackYard$Walk", "leave", "(LStackYard$Grid;I)V"⟩, 3), (⟨"StackYard", "seekWay", "(III)I"⟩, 14), (⟨"java/lang/Throwable", "fillInStackTrace", "(I)Ljava/lang/Throwable;"⟩, 6), (⟨"StackYardModel", "times", "(II)I"⟩, 33)]
theorem lw_r1 : ∀ q ∈ lw_privs_1, lw_okq q := List.forall_mem_cons.mpr ⟨lw_p0, List.forall_mem_cons.mpr ⟨lw_p1, List.forall_mem_cons.mpr ⟨lw_p2, List.forall_mem_cons.mpr ⟨lw_p3, List.forall_mem_cons.mpr ⟨lw_p4, List.forall_mem_cons.mpr ⟨lw_p5, List.forall_mem_cons.mpr ⟨lw_p6, List.forall_mem_cons.mpr ⟨lw_p7, List.forall_mem_cons.mpr ⟨lw_p8, List.forall_mem_cons.mpr ⟨lw_p9, List.forall_mem_cons.mpr ⟨lw_p10, List.forall_mem_cons.mpr ⟨lw_p11, List.forall_mem_cons.mpr ⟨lw_p12, List.forall_mem_cons.mpr ⟨lw_p13, List.forall_mem_cons.mpr ⟨lw_p14, List.forall_mem_cons.mpr ⟨lw_p15, fun _ h => absurd h List.not_mem_nil⟩⟩⟩⟩⟩⟩⟩⟩⟩⟩⟩⟩⟩⟩⟩⟩
theorem lw_p16 : lw_okq (⟨"StackYardModel", "newLayer", "()I"⟩, 33) := ⟨⟨by decide +kernel, by decide +kernel⟩, List.mem_of_getElem? (i := 837) (by decide +kernel), List.mem_of_getElem? (i := 983) (by decide +kernel), List.mem_of_getElem? (i := 984) (by decide +kernel)⟩
theorem lw_p17 : lw_okq (⟨"StackYardModel", "holdsOf", "(I)I"⟩, 33) := ⟨⟨by decide +kernel, by decide +kernel⟩, List.mem_of_getElem? (i := 837) (by decide +kernel), List.mem_of_getElem? (i := 987) (by decide +kernel), List.mem_of_getElem? (i := 988) (by decide +kernel)⟩
theorem lw_p18 : lw_okq (⟨"StackYardModel", "aloneLayer", "(II)V"⟩, 33) := ⟨⟨by decide +kernel, by decide +kernel⟩, List.mem_of_getElem? (i := 837) (by decide +kernel), List.mem_of_getElem? (i := 995) (by decide +kernel), List.mem_of_getElem? (i := 996) (by decide +kernel)⟩
theorem lw_p19 : lw_okq (⟨"StackYardModel", "newRow", "()I"⟩, 33) := ⟨⟨by decide +kernel, by decide +kernel⟩, List.mem_of_getElem? (i := 837) (by decide +kernel), List.mem_of_getElem? (i := 999) (by decide +kernel), List.mem_of_getElem? (i := 1000) (by decide +kernel)⟩
theorem lw_p20 : lw_okq (⟨"StackYardModel", "meets", "()I"⟩, 33) := ⟨⟨by decide +kernel, by decide +kernel⟩, List.mem_of_getElem? (i := 837) (by decide +kernel), List.mem_of_getElem? (i := 1003) (by decide +kernel), List.mem_of_getElem? (i := 1004) (by decide +kernel)⟩
theorem lw_p21 : lw_okq (⟨"StackYardModel", "isThere", "(IIII)I"⟩, 33) := ⟨⟨by decide +kernel, by decide +kernel⟩, List.mem_of_getElem? (i := 837) (by decide +kernel), List.mem_of_getElem? (i := 1015) (by decide +kernel), List.mem_of_getElem? (i := 1016) (by decide +kernel)⟩
theorem lw_p22 : lw_okq (⟨"StackYardModel", "isKindOrOpen", "(I)Z"⟩, 33) := ⟨⟨by decide +kernel, by decide +kernel⟩, List.mem_of_getElem? (i := 837) (by decide +kernel), List.mem_of_getElem? (i := 1019) (by decide +kernel), List.mem_of_getElem? (i := 1020) (by decide +kernel)⟩
theorem lw_p23 : lw_okq (⟨"StackYardModel", "cell", "(IIII)I"⟩, 33) := ⟨⟨by decide +kernel, by decide +kernel⟩, List.mem_of_getElem? (i := 837) (by decide +kernel), List.mem_of_getElem? (i := 1023) (by decide +kernel), List.mem_of_getElem? (i := 1024) (by decide +kernel)⟩
theorem lw_p24 : lw_okq (⟨"StackYardModel", "change", "(IIIIII)Z"⟩, 33) := ⟨⟨by decide +kernel, by decide +kernel⟩, List.mem_of_getElem? (i := 837) (by decide +kernel), List.mem_of_getElem? (i := 1027) (by decide +kernel), List.mem_of_getElem? (i := 1028) (by decide +kernel)⟩
theorem lw_p25 : lw_okq (⟨"StackYardModel", "aloneRow", "(III)V"⟩, 33) := ⟨⟨by decide +kernel, by decide +kernel⟩, List.mem_of_getElem? (i := 837) (by decide +kernel), List.mem_of_getElem? (i := 1031) (by decide +kernel), List.mem_of_getElem? (i := 1032) (by decide +kernel)⟩
theorem lw_p26 : lw_okq (⟨"StackYardModel", "holdsOfRow", "(I)I"⟩, 33) := ⟨⟨by decide +kernel, by decide +kernel⟩, List.mem_of_getElem? (i := 837) (by decide +kernel), List.mem_of_getElem? (i := 1035) (by decide +kernel), List.mem_of_getElem? (i := 1036) (by decide +kernel)⟩
theorem lw_p27 : lw_okq (⟨"StackYardModel", "kindAt", "(IIII)I"⟩, 33) := ⟨⟨by decide +kernel, by decide +kernel⟩, List.mem_of_getElem? (i := 837) (by decide +kernel), List.mem_of_getElem? (i := 1051) (by decide +kernel), List.mem_of_getElem? (i := 1052) (by decide +kernel)⟩
theorem lw_p28 : lw_okq (⟨"StackYardModel", "copy", "(II)V"⟩, 33) := ⟨⟨by decide +kernel, by decide +kernel⟩, List.mem_of_getElem? (i := 837) (by decide +kernel), List.mem_of_getElem? (i := 1063) (by decide +kernel), List.mem_of_getElem? (i := 1064) (by decide +kernel)⟩
theorem lw_p29 : lw_okq (⟨"StackYardModel", "isIn", "(I)Z"⟩, 33) := ⟨⟨by decide +kernel, by decide +kernel⟩, List.mem_of_getElem? (i := 837) (by decide +kernel), List.mem_of_getElem? (i := 1100) (by decide +kernel), List.mem_of_getElem? (i := 1101) (by decide +kernel)⟩
theorem lw_p30 : lw_okq (⟨"StackYardModel", "kindOf", "(II)I"⟩, 33) := ⟨⟨by decide +kernel, by decide +kernel⟩, List.mem_of_getElem? (i := 837) (by decide +kernel), List.mem_of_getElem? (i := 1104) (by decide +kernel), List.mem_of_getElem? (i := 1105) (by decide +kernel)⟩
theorem lw_p31 : lw_okq (⟨"StackYardModel", "changeAt", "(IIII)Z"⟩, 33) := ⟨⟨by decide +kernel, by decide +kernel⟩, List.mem_of_getElem? (i := 837) (by decide +kernel), List.mem_of_getElem? (i := 1108) (by decide +kernel), List.mem_of_getElem? (i := 1109) (by decide +kernel)⟩
def lw_privs_2 : List (MethodName × Nat) := [(⟨"StackYardModel", "newLayer", "()I"⟩, 33), (⟨"StackYardModel", "holdsOf", "(I)I"⟩, 33), (⟨"StackYardModel", "aloneLayer", "(II)V"⟩, 33), (⟨"StackYardModel", "newRow", "()I"⟩, 33), (⟨"StackYardModel", "meets", "()I"⟩, 33), (⟨"StackYardModel", "isThere", "(IIII)I"⟩, 33), (⟨"StackYardModel", "isKindOrOpen", "(I)Z"⟩, 33), (⟨"StackYardModel", "cell", "(IIII)I"⟩, 33), (⟨"StackYardModel", "change", "(IIIIII)Z"⟩, 33), (⟨"StackYardModel", "aloneRow", "(III)V"⟩, 33), (⟨"StackYardModel", "holdsOfRow", "(I)I"⟩, 33), (⟨"StackYardModel", "kindAt", "(IIII)I"⟩, 33), (⟨"StackYardModel", "copy", "(II)V"⟩, 33), (⟨"StackYardModel", "isIn", "(I)Z"⟩, 33), (⟨"StackYardModel", "kindOf", "(II)I"⟩, 33), (⟨"StackYardModel", "changeAt", "(IIII)Z"⟩, 33)]
theorem lw_r2 : ∀ q ∈ lw_privs_2, lw_okq q := List.forall_mem_cons.mpr ⟨lw_p16, List.forall_mem_cons.mpr ⟨lw_p17, List.forall_mem_cons.mpr ⟨lw_p18, List.forall_mem_cons.mpr ⟨lw_p19, List.forall_mem_cons.mpr ⟨lw_p20, List.forall_mem_cons.mpr ⟨lw_p21, List.forall_mem_cons.mpr ⟨lw_p22, List.forall_mem_cons.mpr ⟨lw_p23, List.forall_mem_cons.mpr ⟨lw_p24, List.forall_mem_cons.mpr ⟨lw_p25, List.forall_mem_cons.mpr ⟨lw_p26, List.forall_mem_cons.mpr ⟨lw_p27, List.forall_mem_cons.mpr ⟨lw_p28, List.forall_mem_cons.mpr ⟨lw_p29, List.forall_mem_cons.mpr ⟨lw_p30, List.forall_mem_cons.mpr ⟨lw_p31, fun _ h => absurd h List.not_mem_nil⟩⟩⟩⟩⟩⟩⟩⟩⟩⟩⟩⟩⟩⟩⟩⟩
theorem lw_p32 : lw_okq (⟨"StackYardModel", "turnOf", "(II)I"⟩, 33) := ⟨⟨by decide +kernel, by decide +kernel⟩, List.mem_of_getElem? (i := 837) (by decide +kernel), List.mem_of_getElem? (i := 1116) (by decide +kernel), List.mem_of_getElem? (i := 1117) (by decide +kernel)⟩
theorem lw_p33 : lw_okq (⟨"StackYardModel", "kindBeside", "(III)I"⟩, 33) := ⟨⟨by decide +kernel, by decide +kernel⟩, List.mem_of_getElem? (i := 837) (by decide +kernel), List.mem_of_getElem? (i := 1128) (by decide +kernel), List.mem_of_getElem? (i := 1129) (by decide +kernel)⟩
theorem lw_p34 : lw_okq (⟨"StackYardModel", "reads", "(I)V"⟩, 33) := ⟨⟨by decide +kernel, by decide +kernel⟩, List.mem_of_getElem? (i := 837) (by decide +kernel), List.mem_of_getElem? (i := 1139) (by decide +kernel), List.mem_of_getElem? (i := 1140) (by decide +kernel)⟩
theorem lw_p35 : lw_okq (⟨"StackYardModel", "along", "(I)I"⟩, 33) := ⟨⟨by decide +kernel, by decide +kernel⟩, List.mem_of_getElem? (i := 837) (by decide +kernel), List.mem_of_getElem? (i := 1147) (by decide +kernel), List.mem_of_getElem? (i := 1148) (by decide +kernel)⟩
theorem lw_p36 : lw_okq (⟨"StackYardModel", "findParts", "(I)V"⟩, 33) := ⟨⟨by decide +kernel, by decide +kernel⟩, List.mem_of_getElem? (i := 837) (by decide +kernel), List.mem_of_getElem? (i := 1160) (by decide +kernel), List.mem_of_getElem? (i := 1161) (by decide +kernel)⟩
theorem lw_p37 : lw_okq (⟨"StackYardModel", "isLoose", "(II)Z"⟩, 33) := ⟨⟨by decide +kernel, by decide +kernel⟩, List.mem_of_getElem? (i := 837) (by decide +kernel), List.mem_of_getElem? (i := 1172) (by decide +kernel), List.mem_of_getElem? (i := 1173) (by decide +kernel)⟩
theorem lw_p38 : lw_okq (⟨"StackYardModel", "falls", "(II)I"⟩, 33) := ⟨⟨by decide +kernel, by decide +kernel⟩, List.mem_of_getElem? (i := 837) (by decide +kernel), List.mem_of_getElem? (i := 1176) (by decide +kernel), List.mem_of_getElem? (i := 1177) (by decide +kernel)⟩
theorem lw_p39 : lw_okq (⟨"StackYardModel", "nextToFall", "(I)I"⟩, 33) := ⟨⟨by decide +kernel, by decide +kernel⟩, List.mem_of_getElem? (i := 837) (by decide +kernel), List.mem_of_getElem? (i := 1184) (by decide +kernel), List.mem_of_getElem? (i := 1185) (by decide +kernel)⟩
theorem lw_p40 : lw_okq (⟨"StackYardModel", "fall", "(III)V"⟩, 33) := ⟨⟨by decide +kernel, by decide +kernel⟩, List.mem_of_getElem? (i := 837) (by decide +kernel), List.mem_of_getElem? (i := 1188) (by decide +kernel), List.mem_of_getElem? (i := 1189) (by decide +kernel)⟩
theorem lw_p41 : lw_okq (⟨"StackYardModel", "loadOf", "(II)I"⟩, 33) := ⟨⟨by decide +kernel, by decide +kernel⟩, List.mem_of_getElem? (i := 837) (by decide +kernel), List.mem_of_getElem? (i := 1200) (by decide +kernel), List.mem_of_getElem? (i := 1201) (by decide +kernel)⟩
theorem lw_p42 : lw_okq (⟨"StackYardModel", "shines", "(I)V"⟩, 33) := ⟨⟨by decide +kernel, by decide +kernel⟩, List.mem_of_getElem? (i := 837) (by decide +kernel), List.mem_of_getElem? (i := 1212) (by decide +kernel), List.mem_of_getElem? (i := 1213) (by decide +kernel)⟩
theorem lw_p43 : lw_okq (⟨"StackYardModel", "isStand", "(I)Z"⟩, 33) := ⟨⟨by decide +kernel, by decide +kernel⟩, List.mem_of_getElem? (i := 837) (by decide +kernel), List.mem_of_getElem? (i := 1228) (by decide +kernel), List.mem_of_getElem? (i := 1229) (by decide +kernel)⟩
theorem lw_p44 : lw_okq (⟨"StackYardModel", "isFree", "(I)Z"⟩, 33) := ⟨⟨by decide +kernel, by decide +kernel⟩, List.mem_of_getElem? (i := 837) (by decide +kernel), List.mem_of_getElem? (i := 1232) (by decide +kernel), List.mem_of_getElem? (i := 1233) (by decide +kernel)⟩
theorem lw_p45 : lw_okq (⟨"StackYardModel", "goes", "(III)I"⟩, 33) := ⟨⟨by decide +kernel, by decide +kernel⟩, List.mem_of_getElem? (i := 837) (by decide +kernel), List.mem_of_getElem? (i := 1240) (by decide +kernel), List.mem_of_getElem? (i := 1241) (by decide +kernel)⟩
theorem lw_p46 : lw_okq (⟨"StackYardModel", "findBlocks", "(I)V"⟩, 33) := ⟨⟨by decide +kernel, by decide +kernel⟩, List.mem_of_getElem? (i := 837) (by decide +kernel), List.mem_of_getElem? (i := 1244) (by decide +kernel), List.mem_of_getElem? (i := 1245) (by decide +kernel)⟩
theorem lw_p47 : lw_okq (⟨"StackYardModel", "goesIn", "(IIII)Z"⟩, 33) := ⟨⟨by decide +kernel, by decide +kernel⟩, List.mem_of_getElem? (i := 837) (by decide +kernel), List.mem_of_getElem? (i := 1248) (by decide +kernel), List.mem_of_getElem? (i := 1249) (by decide +kernel)⟩
def lw_privs_3 : List (MethodName × Nat) := [(⟨"StackYardModel", "turnOf", "(II)I"⟩, 33), (⟨"StackYardModel", "kindBeside", "(III)I"⟩, 33), (⟨"StackYardModel", "reads", "(I)V"⟩, 33), (⟨"StackYardModel", "along", "(I)I"⟩, 33), (⟨"StackYardModel", "findParts", "(I)V"⟩, 33), (⟨"StackYardModel", "isLoose", "(II)Z"⟩, 33), (⟨"StackYardModel", "falls", "(II)I"⟩, 33), (⟨"StackYardModel", "nextToFall", "(I)I"⟩, 33), (⟨"StackYardModel", "fall", "(III)V"⟩, 33), (⟨"StackYardModel", "loadOf", "(II)I"⟩, 33), (⟨"StackYardModel", "shines", "(I)V"⟩, 33), (⟨"StackYardModel", "isStand", "(I)Z"⟩, 33), (⟨"StackYardModel", "isFree", "(I)Z"⟩, 33), (⟨"StackYardModel", "goes", "(III)I"⟩, 33), (⟨"StackYardModel", "findBlocks", "(I)V"⟩, 33), (⟨"StackYardModel", "goesIn", "(IIII)Z"⟩, 33)]
theorem lw_r3 : ∀ q ∈ lw_privs_3, lw_okq q := List.forall_mem_cons.mpr ⟨lw_p32, List.forall_mem_cons.mpr ⟨lw_p33, List.forall_mem_cons.mpr ⟨lw_p34, List.forall_mem_cons.mpr ⟨lw_p35, List.forall_mem_cons.mpr ⟨lw_p36, List.forall_mem_cons.mpr ⟨lw_p37, List.forall_mem_cons.mpr ⟨lw_p38, List.forall_mem_cons.mpr ⟨lw_p39, List.forall_mem_cons.mpr ⟨lw_p40, List.forall_mem_cons.mpr ⟨lw_p41, List.forall_mem_cons.mpr ⟨lw_p42, List.forall_mem_cons.mpr ⟨lw_p43, List.forall_mem_cons.mpr ⟨lw_p44, List.forall_mem_cons.mpr ⟨lw_p45, List.forall_mem_cons.mpr ⟨lw_p46, List.forall_mem_cons.mpr ⟨lw_p47, fun _ h => absurd h List.not_mem_nil⟩⟩⟩⟩⟩⟩⟩⟩⟩⟩⟩⟩⟩⟩⟩⟩
def lw_privs : List (MethodName × Nat) := lw_privs_1 ++ (lw_privs_2 ++ (lw_privs_3))
def lw_tbl : List Cond := k2_sels lw_privs ++ tables_1
theorem lw_privs_ok : ∀ q ∈ lw_privs, lw_okq q := by
  show ∀ q ∈ lw_privs_1 ++ (lw_privs_2 ++ (lw_privs_3)), lw_okq q
  exact List.forall_mem_append.mpr ⟨lw_r1, List.forall_mem_append.mpr ⟨lw_r2, lw_r3⟩⟩
end
section
def RX0 : String := "StackYard$Box"
def TX0 : u_T := fun k => match k with
  | 0 => ("StackYard$Box", "from", "[I", true)
  | _ => ("StackYard$Box", "upTo", "[I", true)
def tyX0 : Nat → FieldType := fun k => match k with
  | 0 => .array .int
  | _ => .array .int
theorem nmX0 : ∀ a, a < 2 → ∀ b, b < 2 → a ≠ b → (TX0 a).2.1 ≠ (TX0 b).2.1 := by decide +kernel
theorem tyX0_ok : ∀ k, k < 2 → parseFieldDescriptor (TX0 k).2.2.1 = some (tyX0 k) := by decide +kernel
abbrev cX0_init : ByteArray := prog_2_method_1_code
def yX0_init : MethodName := ⟨RX0, "<init>", "()V"⟩
abbrev cX0_become : ByteArray := prog_2_method_2_code
def yX0_become : MethodName := ⟨RX0, "become", "(I)Z"⟩
abbrev cX0_holds : ByteArray := prog_2_method_3_code
def yX0_holds : MethodName := ⟨RX0, "holds", "(I)Z"⟩
abbrev cX0_goesToItself : ByteArray := prog_2_method_4_code
def yX0_goesToItself : MethodName := ⟨RX0, "goesToItself", "(I)Z"⟩
abbrev cX0_turned : ByteArray := prog_2_method_5_code
def yX0_turned : MethodName := ⟨RX0, "turned", "(II)I"⟩
def RX1 : String := "StackYard$Grid"
def TX1 : u_T := fun k => match k with
  | 0 => ("StackYard$Grid", "codes", "[I", true)
  | 1 => ("StackYard$Grid", "listed", "[I", true)
  | _ => ("StackYard$Grid", "blocks", "I", false)
def tyX1 : Nat → FieldType := fun k => match k with
  | 0 => .array .int
  | 1 => .array .int
  | _ => .int
theorem nmX1 : ∀ a, a < 3 → ∀ b, b < 3 → a ≠ b → (TX1 a).2.1 ≠ (TX1 b).2.1 := by decide +kernel
theorem tyX1_ok : ∀ k, k < 3 → parseFieldDescriptor (TX1 k).2.2.1 = some (tyX1 k) := by decide +kernel
abbrev cX1_init : ByteArray := prog_3_method_1_code
def yX1_init : MethodName := ⟨RX1, "<init>", "()V"⟩
abbrev cX1_read : ByteArray := prog_3_method_2_code
def yX1_read : MethodName := ⟨RX1, "read", "(LStackYard$Yard;)V"⟩
abbrev cX1_readRow : ByteArray := prog_3_method_3_code
def yX1_readRow : MethodName := ⟨RX1, "readRow", "(LStackYard$Row;I)V"⟩
abbrev cX1_listOnly : ByteArray := prog_3_method_4_code
def yX1_listOnly : MethodName := ⟨RX1, "listOnly", "(LStackYard$Box;)V"⟩
abbrev cX1_code : ByteArray := prog_3_method_5_code
def yX1_code : MethodName := ⟨RX1, "code", "(I)I"⟩
abbrev cX1_write : ByteArray := prog_3_method_6_code
def yX1_write : MethodName := ⟨RX1, "write", "(II)V"⟩
abbrev cX1_isBlock : ByteArray := prog_3_method_7_code
def yX1_isBlock : MethodName := ⟨RX1, "isBlock", "(I)Z"⟩
abbrev cX1_beside : ByteArray := prog_3_method_8_code
def yX1_beside : MethodName := ⟨RX1, "beside", "(II)I"⟩
abbrev cX1_bareSides : ByteArray := prog_3_method_9_code
def yX1_bareSides : MethodName := ⟨RX1, "bareSides", "(I)I"⟩
abbrev cX1_least : ByteArray := prog_3_method_10_code
def yX1_least : MethodName := ⟨RX1, "least", "(I)I"⟩
abbrev cX1_most : ByteArray := prog_3_method_11_code
def yX1_most : MethodName := ⟨RX1, "most", "(I)I"⟩
abbrev cX1_bears : ByteArray := prog_3_method_12_code
def yX1_bears : MethodName := ⟨RX1, "bears", "(LStackYard$Grid;I)Z"⟩
def RX2 : String := "StackYard$Kinds"
def TX2 : u_T := fun k => match k with
  | 0 => ("StackYard$Kinds", "weights", "[I", true)
  | 1 => ("StackYard$Kinds", "strengths", "[I", true)
  | 2 => ("StackYard$Kinds", "lights", "[I", true)
  | 3 => ("StackYard$Kinds", "losses", "[I", true)
  | 4 => ("StackYard$Kinds", "hanging", "[Z", true)
  | _ => ("StackYard$Kinds", "number", "I", false)
def tyX2 : Nat → FieldType := fun k => match k with
  | 0 => .array .int
  | 1 => .array .int
  | 2 => .array .int
  | 3 => .array .int
  | 4 => .array .boolean
  | _ => .int
theorem nmX2 : ∀ a, a < 6 → ∀ b, b < 6 → a ≠ b → (TX2 a).2.1 ≠ (TX2 b).2.1 := by decide +kernel
theorem tyX2_ok : ∀ k, k < 6 → parseFieldDescriptor (TX2 k).2.2.1 = some (tyX2 k) := by decide +kernel
abbrev cX2_init : ByteArray := prog_4_method_1_code
def yX2_init : MethodName := ⟨RX2, "<init>", "()V"⟩
abbrev cX2_add : ByteArray := prog_4_method_2_code
def yX2_add : MethodName := ⟨RX2, "add", "(IIIIZ)I"⟩
abbrev cX2_isKind : ByteArray := prog_4_method_3_code
def yX2_isKind : MethodName := ⟨RX2, "isKind", "(I)Z"⟩
abbrev cX2_isKindOrOpen : ByteArray := prog_4_method_4_code
def yX2_isKindOrOpen : MethodName := ⟨RX2, "isKindOrOpen", "(I)Z"⟩
abbrev cX2_strengthOf : ByteArray := prog_4_method_5_code
def yX2_strengthOf : MethodName := ⟨RX2, "strengthOf", "(I)I"⟩
abbrev cX2_lightOf : ByteArray := prog_4_method_6_code
def yX2_lightOf : MethodName := ⟨RX2, "lightOf", "(I)I"⟩
abbrev cX2_lossOf : ByteArray := prog_4_method_7_code
def yX2_lossOf : MethodName := ⟨RX2, "lossOf", "(I)I"⟩
abbrev cX2_hangs : ByteArray := prog_4_method_8_code
def yX2_hangs : MethodName := ⟨RX2, "hangs", "(I)Z"⟩
abbrev cX2_loadOn : ByteArray := prog_4_method_9_code
def yX2_loadOn : MethodName := ⟨RX2, "loadOn", "(ILStackYard$Grid;)I"⟩
def RX3 : String := "StackYard$Lamps"
def TX3 : u_T := fun k => match k with
  | _ => ("StackYard$Lamps", "levels", "[I", true)
def tyX3 : Nat → FieldType := fun k => match k with
  | _ => .array .int
theorem nmX3 : ∀ a, a < 1 → ∀ b, b < 1 → a ≠ b → (TX3 a).2.1 ≠ (TX3 b).2.1 := by decide +kernel
theorem tyX3_ok : ∀ k, k < 1 → parseFieldDescriptor (TX3 k).2.2.1 = some (tyX3 k) := by decide +kernel
abbrev cX3_init : ByteArray := prog_5_method_1_code
def yX3_init : MethodName := ⟨RX3, "<init>", "()V"⟩
abbrev cX3_shine : ByteArray := prog_5_method_2_code
def yX3_shine : MethodName := ⟨RX3, "shine", "(LStackYard$Grid;LStackYard$Kinds;)V"⟩
abbrev cX3_spread : ByteArray := prog_5_method_3_code
def yX3_spread : MethodName := ⟨RX3, "spread", "(ILStackYard$Grid;LStackYard$Kinds;)V"⟩
def RX4 : String := "StackYard$Layer"
def TX4 : u_T := fun k => match k with
  | 0 => ("StackYard$Layer", "rows", "[LStackYard$Row;", true)
  | _ => ("StackYard$Layer", "holders", "I", false)
def tyX4 : Nat → FieldType := fun k => match k with
  | 0 => .array (.object "StackYard$Row")
  | _ => .int
theorem nmX4 : ∀ a, a < 2 → ∀ b, b < 2 → a ≠ b → (TX4 a).2.1 ≠ (TX4 b).2.1 := by decide +kernel
theorem tyX4_ok : ∀ k, k < 2 → parseFieldDescriptor (TX4 k).2.2.1 = some (tyX4 k) := by decide +kernel
abbrev cX4_init : ByteArray := prog_6_method_1_code
def yX4_init : MethodName := ⟨RX4, "<init>", "()V"⟩
abbrev cX4_hold : ByteArray := prog_6_method_2_code
def yX4_hold : MethodName := ⟨RX4, "hold", "(LStackYard$Ledger;)V"⟩
abbrev cX4_release : ByteArray := prog_6_method_3_code
def yX4_release : MethodName := ⟨RX4, "release", "(LStackYard$Ledger;)V"⟩
abbrev cX4_setRow : ByteArray := prog_6_method_4_code
def yX4_setRow : MethodName := ⟨RX4, "setRow", "(ILStackYard$Row;LStackYard$Ledger;)V"⟩
def RX5 : String := "StackYard$Ledger"
def TX5 : u_T := fun k => match k with
  | 0 => ("StackYard$Ledger", "layersMade", "I", false)
  | 1 => ("StackYard$Ledger", "rowsMade", "I", false)
  | 2 => ("StackYard$Ledger", "layersHeld", "I", false)
  | _ => ("StackYard$Ledger", "rowsHeld", "I", false)
def tyX5 : Nat → FieldType := fun k => match k with
  | 0 => .int
  | 1 => .int
  | 2 => .int
  | _ => .int
theorem nmX5 : ∀ a, a < 4 → ∀ b, b < 4 → a ≠ b → (TX5 a).2.1 ≠ (TX5 b).2.1 := by decide +kernel
theorem tyX5_ok : ∀ k, k < 4 → parseFieldDescriptor (TX5 k).2.2.1 = some (tyX5 k) := by decide +kernel
abbrev cX5_init : ByteArray := prog_7_method_1_code
def yX5_init : MethodName := ⟨RX5, "<init>", "()V"⟩
def RX6 : String := "StackYard$Parts"
def TX6 : u_T := fun k => match k with
  | 0 => ("StackYard$Parts", "labels", "[I", true)
  | 1 => ("StackYard$Parts", "members", "[I", true)
  | 2 => ("StackYard$Parts", "starts", "[I", true)
  | 3 => ("StackYard$Parts", "carried", "[I", true)
  | _ => ("StackYard$Parts", "number", "I", false)
def tyX6 : Nat → FieldType := fun k => match k with
  | 0 => .array .int
  | 1 => .array .int
  | 2 => .array .int
  | 3 => .array .int
  | _ => .int
theorem nmX6 : ∀ a, a < 5 → ∀ b, b < 5 → a ≠ b → (TX6 a).2.1 ≠ (TX6 b).2.1 := by decide +kernel
theorem tyX6_ok : ∀ k, k < 5 → parseFieldDescriptor (TX6 k).2.2.1 = some (tyX6 k) := by decide +kernel
abbrev cX6_init : ByteArray := prog_8_method_1_code
def yX6_init : MethodName := ⟨RX6, "<init>", "()V"⟩
abbrev cX6_find : ByteArray := prog_8_method_2_code
def yX6_find : MethodName := ⟨RX6, "find", "(LStackYard$Grid;)V"⟩
abbrev cX6_gather : ByteArray := prog_8_method_3_code
def yX6_gather : MethodName := ⟨RX6, "gather", "(LStackYard$Grid;II)I"⟩
abbrev cX6_sizeOf : ByteArray := prog_8_method_4_code
def yX6_sizeOf : MethodName := ⟨RX6, "sizeOf", "(I)I"⟩
abbrev cX6_firstOf : ByteArray := prog_8_method_5_code
def yX6_firstOf : MethodName := ⟨RX6, "firstOf", "(I)I"⟩
abbrev cX6_isLoose : ByteArray := prog_8_method_6_code
def yX6_isLoose : MethodName := ⟨RX6, "isLoose", "(ILStackYard$Grid;LStackYard$Kinds;)Z"⟩
abbrev cX6_stepsOf : ByteArray := prog_8_method_7_code
def yX6_stepsOf : MethodName := ⟨RX6, "stepsOf", "(ILStackYard$Grid;)I"⟩
abbrev cX6_freeBelow : ByteArray := prog_8_method_8_code
def yX6_freeBelow : MethodName := ⟨RX6, "freeBelow", "(IILStackYard$Grid;)I"⟩
abbrev cX6_nextToFall : ByteArray := prog_8_method_9_code
def yX6_nextToFall : MethodName := ⟨RX6, "nextToFall", "(LStackYard$Grid;LStackYard$Kinds;)I"⟩
abbrev cX6_lower : ByteArray := prog_8_method_10_code
def yX6_lower : MethodName := ⟨RX6, "lower", "(IILStackYard$Grid;LStackYard$Yard;)V"⟩
def RX7 : String := "StackYard$Row"
def TX7 : u_T := fun k => match k with
  | 0 => ("StackYard$Row", "cells", "[I", true)
  | _ => ("StackYard$Row", "holders", "I", false)
def tyX7 : Nat → FieldType := fun k => match k with
  | 0 => .array .int
  | _ => .int
theorem nmX7 : ∀ a, a < 2 → ∀ b, b < 2 → a ≠ b → (TX7 a).2.1 ≠ (TX7 b).2.1 := by decide +kernel
theorem tyX7_ok : ∀ k, k < 2 → parseFieldDescriptor (TX7 k).2.2.1 = some (tyX7 k) := by decide +kernel
abbrev cX7_init : ByteArray := prog_9_method_1_code
def yX7_init : MethodName := ⟨RX7, "<init>", "([I)V"⟩
abbrev cX7_hold : ByteArray := prog_9_method_2_code
def yX7_hold : MethodName := ⟨RX7, "hold", "(LStackYard$Ledger;)V"⟩
abbrev cX7_release : ByteArray := prog_9_method_3_code
def yX7_release : MethodName := ⟨RX7, "release", "(LStackYard$Ledger;)V"⟩
def RX8 : String := "StackYard$Turns"
def TX8 : u_T := fun k => match k with
  | _ => ("", "", "", false)
def tyX8 : Nat → FieldType := fun k => match k with
  | _ => .int
theorem nmX8 : ∀ a, a < 0 → ∀ b, b < 0 → a ≠ b → (TX8 a).2.1 ≠ (TX8 b).2.1 := by decide +kernel
theorem tyX8_ok : ∀ k, k < 0 → parseFieldDescriptor (TX8 k).2.2.1 = some (tyX8 k) := by decide +kernel
abbrev cX8_isTurn : ByteArray := prog_10_method_2_code
def yX8_isTurn : MethodName := ⟨RX8, "isTurn", "(I)Z"⟩
abbrev cX8_axisOf : ByteArray := prog_10_method_3_code
def yX8_axisOf : MethodName := ⟨RX8, "axisOf", "(II)I"⟩
abbrev cX8_signOf : ByteArray := prog_10_method_4_code
def yX8_signOf : MethodName := ⟨RX8, "signOf", "(II)I"⟩
abbrev cX8_after : ByteArray := prog_10_method_5_code
def yX8_after : MethodName := ⟨RX8, "after", "(II)I"⟩
def RX9 : String := "StackYard$Walk"
def TX9 : u_T := fun k => match k with
  | 0 => ("StackYard$Walk", "distances", "[I", true)
  | 1 => ("StackYard$Walk", "queue", "[I", true)
  | _ => ("StackYard$Walk", "reached", "I", false)
def tyX9 : Nat → FieldType := fun k => match k with
  | 0 => .array .int
  | 1 => .array .int
  | _ => .int
theorem nmX9 : ∀ a, a < 3 → ∀ b, b < 3 → a ≠ b → (TX9 a).2.1 ≠ (TX9 b).2.1 := by decide +kernel
theorem tyX9_ok : ∀ k, k < 3 → parseFieldDescriptor (TX9 k).2.2.1 = some (tyX9 k) := by decide +kernel
abbrev cX9_init : ByteArray := prog_11_method_1_code
def yX9_init : MethodName := ⟨RX9, "<init>", "()V"⟩
abbrev cX9_steps : ByteArray := prog_11_method_2_code
def yX9_steps : MethodName := ⟨RX9, "steps", "(LStackYard$Grid;II)I"⟩
abbrev cX9_isStand : ByteArray := prog_11_method_3_code
def yX9_isStand : MethodName := ⟨RX9, "isStand", "(LStackYard$Grid;I)Z"⟩
abbrev cX9_leave : ByteArray := prog_11_method_4_code
def yX9_leave : MethodName := ⟨RX9, "leave", "(LStackYard$Grid;I)V"⟩
abbrev cX9_reach : ByteArray := prog_11_method_5_code
def yX9_reach : MethodName := ⟨RX9, "reach", "(LStackYard$Grid;II)V"⟩
def RX10 : String := "StackYard$Yard"
def TX10 : u_T := fun k => match k with
  | 0 => ("StackYard$Yard", "ledger", "LStackYard$Ledger;", true)
  | _ => ("StackYard$Yard", "layers", "[LStackYard$Layer;", true)
def tyX10 : Nat → FieldType := fun k => match k with
  | 0 => .object "StackYard$Ledger"
  | _ => .array (.object "StackYard$Layer")
theorem nmX10 : ∀ a, a < 2 → ∀ b, b < 2 → a ≠ b → (TX10 a).2.1 ≠ (TX10 b).2.1 := by decide +kernel
theorem tyX10_ok : ∀ k, k < 2 → parseFieldDescriptor (TX10 k).2.2.1 = some (tyX10 k) := by decide +kernel
abbrev cX10_init : ByteArray := prog_12_method_1_code
def yX10_init : MethodName := ⟨RX10, "<init>", "(LStackYard$Ledger;)V"⟩
abbrev cX10_layerAt : ByteArray := prog_12_method_2_code
def yX10_layerAt : MethodName := ⟨RX10, "layerAt", "(I)LStackYard$Layer;"⟩
abbrev cX10_rowAt : ByteArray := prog_12_method_3_code
def yX10_rowAt : MethodName := ⟨RX10, "rowAt", "(II)LStackYard$Row;"⟩
abbrev cX10_refusal : ByteArray := prog_12_method_4_code
def yX10_refusal : MethodName := ⟨RX10, "refusal", "(III)I"⟩
abbrev cX10_codeAt : ByteArray := prog_12_method_5_code
def yX10_codeAt : MethodName := ⟨RX10, "codeAt", "(I)I"⟩
abbrev cX10_setLayer : ByteArray := prog_12_method_6_code
def yX10_setLayer : MethodName := ⟨RX10, "setLayer", "(ILStackYard$Layer;)V"⟩
abbrev cX10_addLayer : ByteArray := prog_12_method_7_code
def yX10_addLayer : MethodName := ⟨RX10, "addLayer", "(I)V"⟩
abbrev cX10_addRow : ByteArray := prog_12_method_8_code
def yX10_addRow : MethodName := ⟨RX10, "addRow", "(III)V"⟩
abbrev cX10_take : ByteArray := prog_12_method_9_code
def yX10_take : MethodName := ⟨RX10, "take", "(LStackYard$Yard;)V"⟩
abbrev cX10_clear : ByteArray := prog_12_method_10_code
def yX10_clear : MethodName := ⟨RX10, "clear", "()V"⟩
abbrev cX10_change : ByteArray := prog_12_method_11_code
def yX10_change : MethodName := ⟨RX10, "change", "(II)Z"⟩
abbrev cX10_ownLayer : ByteArray := prog_12_method_12_code
def yX10_ownLayer : MethodName := ⟨RX10, "ownLayer", "(I)LStackYard$Layer;"⟩
abbrev cX10_ownRow : ByteArray := prog_12_method_13_code
def yX10_ownRow : MethodName := ⟨RX10, "ownRow", "(II)LStackYard$Row;"⟩
def RX11 : String := "StackYard"
def TX11 : u_T := fun k => match k with
  | 0 => ("StackYard", "ledger", "LStackYard$Ledger;", true)
  | 1 => ("StackYard", "kinds", "LStackYard$Kinds;", true)
  | 2 => ("StackYard", "region", "LStackYard$Box;", true)
  | 3 => ("StackYard", "yards", "[LStackYard$Yard;", true)
  | 4 => ("StackYard", "slots", "[LStackYard$Yard;", true)
  | 5 => ("StackYard", "keeping", "[Z", true)
  | 6 => ("StackYard", "grid", "LStackYard$Grid;", true)
  | 7 => ("StackYard", "second", "LStackYard$Grid;", true)
  | 8 => ("StackYard", "lumps", "LStackYard$Parts;", true)
  | 9 => ("StackYard", "lamps", "LStackYard$Lamps;", true)
  | 10 => ("StackYard", "walk", "LStackYard$Walk;", true)
  | 11 => ("StackYard", "fallenFrom", "[I", true)
  | 12 => ("StackYard", "fallenSteps", "[I", true)
  | _ => ("StackYard", "fell", "I", false)
def tyX11 : Nat → FieldType := fun k => match k with
  | 0 => .object "StackYard$Ledger"
  | 1 => .object "StackYard$Kinds"
  | 2 => .object "StackYard$Box"
  | 3 => .array (.object "StackYard$Yard")
  | 4 => .array (.object "StackYard$Yard")
  | 5 => .array .boolean
  | 6 => .object "StackYard$Grid"
  | 7 => .object "StackYard$Grid"
  | 8 => .object "StackYard$Parts"
  | 9 => .object "StackYard$Lamps"
  | 10 => .object "StackYard$Walk"
  | 11 => .array .int
  | 12 => .array .int
  | _ => .int
theorem nmX11 : ∀ a, a < 14 → ∀ b, b < 14 → a ≠ b → (TX11 a).2.1 ≠ (TX11 b).2.1 := by decide +kernel
theorem tyX11_ok : ∀ k, k < 14 → parseFieldDescriptor (TX11 k).2.2.1 = some (tyX11 k) := by decide +kernel
abbrev cX11_init : ByteArray := prog_1_method_1_code
def yX11_init : MethodName := ⟨RX11, "<init>", "()V"⟩
abbrev cX11_kind : ByteArray := prog_1_method_2_code
def yX11_kind : MethodName := ⟨RX11, "kind", "(IIIIZ)I"⟩
abbrev cX11_product : ByteArray := prog_1_method_3_code
def yX11_product : MethodName := ⟨RX11, "product", "(II)I"⟩
abbrev cX11_layer : ByteArray := prog_1_method_4_code
def yX11_layer : MethodName := ⟨RX11, "layer", "(II)Z"⟩
abbrev cX11_row : ByteArray := prog_1_method_5_code
def yX11_row : MethodName := ⟨RX11, "row", "(IIII)I"⟩
abbrev cX11_less : ByteArray := prog_1_method_6_code
def yX11_less : MethodName := ⟨RX11, "less", "(II)Z"⟩
abbrev cX11_put : ByteArray := prog_1_method_7_code
def yX11_put : MethodName := ⟨RX11, "put", "(IIIII)I"⟩
abbrev cX11_face : ByteArray := prog_1_method_8_code
def yX11_face : MethodName := ⟨RX11, "face", "(IIIII)I"⟩
abbrev cX11_there : ByteArray := prog_1_method_9_code
def yX11_there : MethodName := ⟨RX11, "there", "(IIII)I"⟩
abbrev cX11_at : ByteArray := prog_1_method_10_code
def yX11_at : MethodName := ⟨RX11, "at", "(IIII)I"⟩
abbrev cX11_turnAt : ByteArray := prog_1_method_11_code
def yX11_turnAt : MethodName := ⟨RX11, "turnAt", "(IIII)I"⟩
abbrev cX11_share : ByteArray := prog_1_method_12_code
def yX11_share : MethodName := ⟨RX11, "share", "(II)Z"⟩
abbrev cX11_keep : ByteArray := prog_1_method_13_code
def yX11_keep : MethodName := ⟨RX11, "keep", "(II)Z"⟩
abbrev cX11_back : ByteArray := prog_1_method_14_code
def yX11_back : MethodName := ⟨RX11, "back", "(II)Z"⟩
abbrev cX11_forget : ByteArray := prog_1_method_15_code
def yX11_forget : MethodName := ⟨RX11, "forget", "(I)Z"⟩
abbrev cX11_same : ByteArray := prog_1_method_16_code
def yX11_same : MethodName := ⟨RX11, "same", "(IIIII)I"⟩
abbrev cX11_made : ByteArray := prog_1_method_17_code
def yX11_made : MethodName := ⟨RX11, "made", "(I)I"⟩
abbrev cX11_box : ByteArray := prog_1_method_18_code
def yX11_box : MethodName := ⟨RX11, "box", "(I)Z"⟩
abbrev cX11_fill : ByteArray := prog_1_method_19_code
def yX11_fill : MethodName := ⟨RX11, "fill", "(III)I"⟩
abbrev cX11_replace : ByteArray := prog_1_method_20_code
def yX11_replace : MethodName := ⟨RX11, "replace", "(III)I"⟩
abbrev cX11_count : ByteArray := prog_1_method_21_code
def yX11_count : MethodName := ⟨RX11, "count", "(II)I"⟩
abbrev cX11_hollow : ByteArray := prog_1_method_22_code
def yX11_hollow : MethodName := ⟨RX11, "hollow", "(I)I"⟩
abbrev cX11_move : ByteArray := prog_1_method_23_code
def yX11_move : MethodName := ⟨RX11, "move", "(IIIZ)I"⟩
abbrev cX11_turnBox : ByteArray := prog_1_method_24_code
def yX11_turnBox : MethodName := ⟨RX11, "turnBox", "(II)I"⟩
abbrev cX11_cut : ByteArray := prog_1_method_25_code
def yX11_cut : MethodName := ⟨RX11, "cut", "(IIIII)I"⟩
abbrev cX11_parts : ByteArray := prog_1_method_26_code
def yX11_parts : MethodName := ⟨RX11, "parts", "(I)I"⟩
abbrev cX11_part : ByteArray := prog_1_method_27_code
def yX11_part : MethodName := ⟨RX11, "part", "(IIII)I"⟩
abbrev cX11_partOf : ByteArray := prog_1_method_28_code
def yX11_partOf : MethodName := ⟨RX11, "partOf", "(III)I"⟩
abbrev cX11_settle : ByteArray := prog_1_method_29_code
def yX11_settle : MethodName := ⟨RX11, "settle", "(I)I"⟩
abbrev cX11_fallen : ByteArray := prog_1_method_30_code
def yX11_fallen : MethodName := ⟨RX11, "fallen", "(II)I"⟩
abbrev cX11_load : ByteArray := prog_1_method_31_code
def yX11_load : MethodName := ⟨RX11, "load", "(IIII)I"⟩
abbrev cX11_overloaded : ByteArray := prog_1_method_32_code
def yX11_overloaded : MethodName := ⟨RX11, "overloaded", "(I)I"⟩
abbrev cX11_light : ByteArray := prog_1_method_33_code
def yX11_light : MethodName := ⟨RX11, "light", "(IIII)I"⟩
abbrev cX11_dark : ByteArray := prog_1_method_34_code
def yX11_dark : MethodName := ⟨RX11, "dark", "(II)I"⟩
abbrev cX11_faces : ByteArray := prog_1_method_35_code
def yX11_faces : MethodName := ⟨RX11, "faces", "(I)I"⟩
abbrev cX11_path : ByteArray := prog_1_method_36_code
def yX11_path : MethodName := ⟨RX11, "path", "(III)I"⟩
abbrev cX11_places : ByteArray := prog_1_method_37_code
def yX11_places : MethodName := ⟨RX11, "places", "(II)I"⟩
abbrev cX11_place : ByteArray := prog_1_method_38_code
def yX11_place : MethodName := ⟨RX11, "place", "(III)I"⟩
abbrev cX11_differs : ByteArray := prog_1_method_39_code
def yX11_differs : MethodName := ⟨RX11, "differs", "(II)I"⟩
abbrev cX11_isYard : ByteArray := prog_1_method_40_code
def yX11_isYard : MethodName := ⟨RX11, "isYard", "(I)Z"⟩
abbrev cX11_isSlot : ByteArray := prog_1_method_41_code
def yX11_isSlot : MethodName := ⟨RX11, "isSlot", "(I)Z"⟩
abbrev cX11_isPlace : ByteArray := prog_1_method_42_code
def yX11_isPlace : MethodName := ⟨RX11, "isPlace", "(I)Z"⟩
abbrev cX11_isCell : ByteArray := prog_1_method_43_code
def yX11_isCell : MethodName := ⟨RX11, "isCell", "(I)Z"⟩
abbrev cX11_cellOf : ByteArray := prog_1_method_44_code
def yX11_cellOf : MethodName := ⟨RX11, "cellOf", "(III)I"⟩
abbrev cX11_zOf : ByteArray := prog_1_method_45_code
def yX11_zOf : MethodName := ⟨RX11, "zOf", "(I)I"⟩
abbrev cX11_xOf : ByteArray := prog_1_method_46_code
def yX11_xOf : MethodName := ⟨RX11, "xOf", "(I)I"⟩
abbrev cX11_wOf : ByteArray := prog_1_method_47_code
def yX11_wOf : MethodName := ⟨RX11, "wOf", "(I)I"⟩
abbrev cX11_strideOf : ByteArray := prog_1_method_48_code
def yX11_strideOf : MethodName := ⟨RX11, "strideOf", "(I)I"⟩
abbrev cX11_along : ByteArray := prog_1_method_49_code
def yX11_along : MethodName := ⟨RX11, "along", "(II)I"⟩
abbrev cX11_codeOf : ByteArray := prog_1_method_50_code
def yX11_codeOf : MethodName := ⟨RX11, "codeOf", "(II)I"⟩
abbrev cX11_kindOf : ByteArray := prog_1_method_51_code
def yX11_kindOf : MethodName := ⟨RX11, "kindOf", "(I)I"⟩
abbrev cX11_turnOf : ByteArray := prog_1_method_52_code
def yX11_turnOf : MethodName := ⟨RX11, "turnOf", "(I)I"⟩
abbrev cX11_tellShift : ByteArray := prog_1_method_53_code
def yX11_tellShift : MethodName := ⟨RX11, "tellShift", "(III)I"⟩
abbrev cX11_isShift : ByteArray := prog_1_method_54_code
def yX11_isShift : MethodName := ⟨RX11, "isShift", "(I)Z"⟩
abbrev cX11_furtherBy : ByteArray := prog_1_method_55_code
def yX11_furtherBy : MethodName := ⟨RX11, "furtherBy", "(II)I"⟩
abbrev cX11_codeIn : ByteArray := prog_1_method_56_code
def yX11_codeIn : MethodName := ⟨RX11, "codeIn", "(IIII)I"⟩
abbrev cX11_slotsKeeping : ByteArray := prog_1_method_57_code
def yX11_slotsKeeping : MethodName := ⟨RX11, "slotsKeeping", "()I"⟩
abbrev cX11_readBox : ByteArray := prog_1_method_58_code
def yX11_readBox : MethodName := ⟨RX11, "readBox", "(I)V"⟩
abbrev cX11_findParts : ByteArray := prog_1_method_59_code
def yX11_findParts : MethodName := ⟨RX11, "findParts", "(I)V"⟩
abbrev cX11_noteFall : ByteArray := prog_1_method_60_code
def yX11_noteFall : MethodName := ⟨RX11, "noteFall", "(II)V"⟩
abbrev cX11_seekWay : ByteArray := prog_1_method_61_code
def yX11_seekWay : MethodName := ⟨RX11, "seekWay", "(III)I"⟩
def RX12 : String := "StackYardModel"
def TX12 : u_T := fun k => match k with
  | 0 => ("StackYardModel", "thrown", "I", false)
  | 1 => ("StackYardModel", "kinds", "I", false)
  | 2 => ("StackYardModel", "weight", "[I", true)
  | 3 => ("StackYardModel", "strength", "[I", true)
  | 4 => ("StackYardModel", "shine", "[I", true)
  | 5 => ("StackYardModel", "loss", "[I", true)
  | 6 => ("StackYardModel", "hangs", "[Z", true)
  | 7 => ("StackYardModel", "held", "[I", true)
  | 8 => ("StackYardModel", "isKept", "[Z", true)
  | 9 => ("StackYardModel", "rowOf", "[I", true)
  | 10 => ("StackYardModel", "length", "[I", true)
  | 11 => ("StackYardModel", "cellKind", "[I", true)
  | 12 => ("StackYardModel", "cellTurn", "[I", true)
  | 13 => ("StackYardModel", "layersMade", "I", false)
  | 14 => ("StackYardModel", "rowsMade", "I", false)
  | 15 => ("StackYardModel", "rowMet", "[Z", true)
  | 16 => ("StackYardModel", "layerMet", "[Z", true)
  | 17 => ("StackYardModel", "low", "[I", true)
  | 18 => ("StackYardModel", "high", "[I", true)
  | 19 => ("StackYardModel", "readKind", "[I", true)
  | 20 => ("StackYardModel", "readTurn", "[I", true)
  | 21 => ("StackYardModel", "marked", "[Z", true)
  | 22 => ("StackYardModel", "partAt", "[I", true)
  | 23 => ("StackYardModel", "partFirst", "[I", true)
  | 24 => ("StackYardModel", "partMany", "I", false)
  | 25 => ("StackYardModel", "queue", "[I", true)
  | 26 => ("StackYardModel", "fell", "I", false)
  | 27 => ("StackYardModel", "fellFirst", "[I", true)
  | 28 => ("StackYardModel", "fellBy", "[I", true)
  | 29 => ("StackYardModel", "glow", "[I", true)
  | 30 => ("StackYardModel", "steps", "[I", true)
  | 31 => ("StackYardModel", "blocks", "[I", true)
  | _ => ("StackYardModel", "blockMany", "I", false)
def tyX12 : Nat → FieldType := fun k => match k with
  | 0 => .int
  | 1 => .int
  | 2 => .array .int
  | 3 => .array .int
  | 4 => .array .int
  | 5 => .array .int
  | 6 => .array .boolean
  | 7 => .array .int
  | 8 => .array .boolean
  | 9 => .array .int
  | 10 => .array .int
  | 11 => .array .int
  | 12 => .array .int
  | 13 => .int
  | 14 => .int
  | 15 => .array .boolean
  | 16 => .array .boolean
  | 17 => .array .int
  | 18 => .array .int
  | 19 => .array .int
  | 20 => .array .int
  | 21 => .array .boolean
  | 22 => .array .int
  | 23 => .array .int
  | 24 => .int
  | 25 => .array .int
  | 26 => .int
  | 27 => .array .int
  | 28 => .array .int
  | 29 => .array .int
  | 30 => .array .int
  | 31 => .array .int
  | _ => .int
theorem nmX12 : ∀ a, a < 33 → ∀ b, b < 33 → a ≠ b → (TX12 a).2.1 ≠ (TX12 b).2.1 := by decide +kernel
theorem tyX12_ok : ∀ k, k < 33 → parseFieldDescriptor (TX12 k).2.2.1 = some (tyX12 k) := by decide +kernel
abbrev cX12_init : ByteArray := prog_14_method_1_code
def yX12_init : MethodName := ⟨RX12, "<init>", "()V"⟩
abbrev cX12_thrown : ByteArray := prog_14_method_2_code
def yX12_thrown : MethodName := ⟨RX12, "thrown", "()I"⟩
abbrev cX12_in : ByteArray := prog_14_method_3_code
def yX12_in : MethodName := ⟨RX12, "in", "(III)Z"⟩
abbrev cX12_isYard : ByteArray := prog_14_method_4_code
def yX12_isYard : MethodName := ⟨RX12, "isYard", "(I)Z"⟩
abbrev cX12_isSlot : ByteArray := prog_14_method_5_code
def yX12_isSlot : MethodName := ⟨RX12, "isSlot", "(I)Z"⟩
abbrev cX12_isTurn : ByteArray := prog_14_method_6_code
def yX12_isTurn : MethodName := ⟨RX12, "isTurn", "(I)Z"⟩
abbrev cX12_to : ByteArray := prog_14_method_7_code
def yX12_to : MethodName := ⟨RX12, "to", "(II)I"⟩
abbrev cX12_sign : ByteArray := prog_14_method_8_code
def yX12_sign : MethodName := ⟨RX12, "sign", "(II)I"⟩
abbrev cX12_kind : ByteArray := prog_14_method_9_code
def yX12_kind : MethodName := ⟨RX12, "kind", "(IIIIZ)I"⟩
abbrev cX12_times : ByteArray := prog_14_method_10_code
def yX12_times : MethodName := ⟨RX12, "times", "(II)I"⟩
abbrev cX12_product : ByteArray := prog_14_method_11_code
def yX12_product : MethodName := ⟨RX12, "product", "(II)I"⟩
abbrev cX12_holdsOf : ByteArray := prog_14_method_12_code
def yX12_holdsOf : MethodName := ⟨RX12, "holdsOf", "(I)I"⟩
abbrev cX12_holdsOfRow : ByteArray := prog_14_method_13_code
def yX12_holdsOfRow : MethodName := ⟨RX12, "holdsOfRow", "(I)I"⟩
abbrev cX12_newLayer : ByteArray := prog_14_method_14_code
def yX12_newLayer : MethodName := ⟨RX12, "newLayer", "()I"⟩
abbrev cX12_meets : ByteArray := prog_14_method_15_code
def yX12_meets : MethodName := ⟨RX12, "meets", "()I"⟩
abbrev cX12_newRow : ByteArray := prog_14_method_16_code
def yX12_newRow : MethodName := ⟨RX12, "newRow", "()I"⟩
abbrev cX12_aloneLayer : ByteArray := prog_14_method_17_code
def yX12_aloneLayer : MethodName := ⟨RX12, "aloneLayer", "(II)V"⟩
abbrev cX12_aloneRow : ByteArray := prog_14_method_18_code
def yX12_aloneRow : MethodName := ⟨RX12, "aloneRow", "(III)V"⟩
abbrev cX12_isThere : ByteArray := prog_14_method_19_code
def yX12_isThere : MethodName := ⟨RX12, "isThere", "(IIII)I"⟩
abbrev cX12_cell : ByteArray := prog_14_method_20_code
def yX12_cell : MethodName := ⟨RX12, "cell", "(IIII)I"⟩
abbrev cX12_change : ByteArray := prog_14_method_21_code
def yX12_change : MethodName := ⟨RX12, "change", "(IIIIII)Z"⟩
abbrev cX12_layer : ByteArray := prog_14_method_22_code
def yX12_layer : MethodName := ⟨RX12, "layer", "(II)Z"⟩
abbrev cX12_row : ByteArray := prog_14_method_23_code
def yX12_row : MethodName := ⟨RX12, "row", "(IIII)I"⟩
abbrev cX12_less : ByteArray := prog_14_method_24_code
def yX12_less : MethodName := ⟨RX12, "less", "(II)Z"⟩
abbrev cX12_isKindOrOpen : ByteArray := prog_14_method_25_code
def yX12_isKindOrOpen : MethodName := ⟨RX12, "isKindOrOpen", "(I)Z"⟩
abbrev cX12_put : ByteArray := prog_14_method_26_code
def yX12_put : MethodName := ⟨RX12, "put", "(IIIII)I"⟩
abbrev cX12_face : ByteArray := prog_14_method_27_code
def yX12_face : MethodName := ⟨RX12, "face", "(IIIII)I"⟩
abbrev cX12_there : ByteArray := prog_14_method_28_code
def yX12_there : MethodName := ⟨RX12, "there", "(IIII)I"⟩
abbrev cX12_kindAt : ByteArray := prog_14_method_29_code
def yX12_kindAt : MethodName := ⟨RX12, "kindAt", "(IIII)I"⟩
abbrev cX12_at : ByteArray := prog_14_method_30_code
def yX12_at : MethodName := ⟨RX12, "at", "(IIII)I"⟩
abbrev cX12_turnAt : ByteArray := prog_14_method_31_code
def yX12_turnAt : MethodName := ⟨RX12, "turnAt", "(IIII)I"⟩
abbrev cX12_copy : ByteArray := prog_14_method_32_code
def yX12_copy : MethodName := ⟨RX12, "copy", "(II)V"⟩
abbrev cX12_share : ByteArray := prog_14_method_33_code
def yX12_share : MethodName := ⟨RX12, "share", "(II)Z"⟩
abbrev cX12_keep : ByteArray := prog_14_method_34_code
def yX12_keep : MethodName := ⟨RX12, "keep", "(II)Z"⟩
abbrev cX12_back : ByteArray := prog_14_method_35_code
def yX12_back : MethodName := ⟨RX12, "back", "(II)Z"⟩
abbrev cX12_forget : ByteArray := prog_14_method_36_code
def yX12_forget : MethodName := ⟨RX12, "forget", "(I)Z"⟩
abbrev cX12_same : ByteArray := prog_14_method_37_code
def yX12_same : MethodName := ⟨RX12, "same", "(IIIII)I"⟩
abbrev cX12_made : ByteArray := prog_14_method_38_code
def yX12_made : MethodName := ⟨RX12, "made", "(I)I"⟩
abbrev cX12_box : ByteArray := prog_14_method_39_code
def yX12_box : MethodName := ⟨RX12, "box", "(I)Z"⟩
abbrev cX12_isIn : ByteArray := prog_14_method_40_code
def yX12_isIn : MethodName := ⟨RX12, "isIn", "(I)Z"⟩
abbrev cX12_kindOf : ByteArray := prog_14_method_41_code
def yX12_kindOf : MethodName := ⟨RX12, "kindOf", "(II)I"⟩
abbrev cX12_turnOf : ByteArray := prog_14_method_42_code
def yX12_turnOf : MethodName := ⟨RX12, "turnOf", "(II)I"⟩
abbrev cX12_changeAt : ByteArray := prog_14_method_43_code
def yX12_changeAt : MethodName := ⟨RX12, "changeAt", "(IIII)Z"⟩
abbrev cX12_fill : ByteArray := prog_14_method_44_code
def yX12_fill : MethodName := ⟨RX12, "fill", "(III)I"⟩
abbrev cX12_replace : ByteArray := prog_14_method_45_code
def yX12_replace : MethodName := ⟨RX12, "replace", "(III)I"⟩
abbrev cX12_count : ByteArray := prog_14_method_46_code
def yX12_count : MethodName := ⟨RX12, "count", "(II)I"⟩
abbrev cX12_next : ByteArray := prog_14_method_47_code
def yX12_next : MethodName := ⟨RX12, "next", "(II)I"⟩
abbrev cX12_kindBeside : ByteArray := prog_14_method_48_code
def yX12_kindBeside : MethodName := ⟨RX12, "kindBeside", "(III)I"⟩
abbrev cX12_reads : ByteArray := prog_14_method_49_code
def yX12_reads : MethodName := ⟨RX12, "reads", "(I)V"⟩
abbrev cX12_hollow : ByteArray := prog_14_method_50_code
def yX12_hollow : MethodName := ⟨RX12, "hollow", "(I)I"⟩
abbrev cX12_move : ByteArray := prog_14_method_51_code
def yX12_move : MethodName := ⟨RX12, "move", "(IIIZ)I"⟩
abbrev cX12_along : ByteArray := prog_14_method_52_code
def yX12_along : MethodName := ⟨RX12, "along", "(I)I"⟩
abbrev cX12_turnBox : ByteArray := prog_14_method_53_code
def yX12_turnBox : MethodName := ⟨RX12, "turnBox", "(II)I"⟩
abbrev cX12_cut : ByteArray := prog_14_method_54_code
def yX12_cut : MethodName := ⟨RX12, "cut", "(IIIII)I"⟩
abbrev cX12_findParts : ByteArray := prog_14_method_55_code
def yX12_findParts : MethodName := ⟨RX12, "findParts", "(I)V"⟩
abbrev cX12_isLoose : ByteArray := prog_14_method_56_code
def yX12_isLoose : MethodName := ⟨RX12, "isLoose", "(II)Z"⟩
abbrev cX12_falls : ByteArray := prog_14_method_57_code
def yX12_falls : MethodName := ⟨RX12, "falls", "(II)I"⟩
abbrev cX12_parts : ByteArray := prog_14_method_58_code
def yX12_parts : MethodName := ⟨RX12, "parts", "(I)I"⟩
abbrev cX12_part : ByteArray := prog_14_method_59_code
def yX12_part : MethodName := ⟨RX12, "part", "(IIII)I"⟩
abbrev cX12_partOf : ByteArray := prog_14_method_60_code
def yX12_partOf : MethodName := ⟨RX12, "partOf", "(III)I"⟩
abbrev cX12_fall : ByteArray := prog_14_method_61_code
def yX12_fall : MethodName := ⟨RX12, "fall", "(III)V"⟩
abbrev cX12_nextToFall : ByteArray := prog_14_method_62_code
def yX12_nextToFall : MethodName := ⟨RX12, "nextToFall", "(I)I"⟩
abbrev cX12_settle : ByteArray := prog_14_method_63_code
def yX12_settle : MethodName := ⟨RX12, "settle", "(I)I"⟩
abbrev cX12_fallen : ByteArray := prog_14_method_64_code
def yX12_fallen : MethodName := ⟨RX12, "fallen", "(II)I"⟩
abbrev cX12_loadOf : ByteArray := prog_14_method_65_code
def yX12_loadOf : MethodName := ⟨RX12, "loadOf", "(II)I"⟩
abbrev cX12_load : ByteArray := prog_14_method_66_code
def yX12_load : MethodName := ⟨RX12, "load", "(IIII)I"⟩
abbrev cX12_overloaded : ByteArray := prog_14_method_67_code
def yX12_overloaded : MethodName := ⟨RX12, "overloaded", "(I)I"⟩
abbrev cX12_shines : ByteArray := prog_14_method_68_code
def yX12_shines : MethodName := ⟨RX12, "shines", "(I)V"⟩
abbrev cX12_light : ByteArray := prog_14_method_69_code
def yX12_light : MethodName := ⟨RX12, "light", "(IIII)I"⟩
abbrev cX12_dark : ByteArray := prog_14_method_70_code
def yX12_dark : MethodName := ⟨RX12, "dark", "(II)I"⟩
abbrev cX12_faces : ByteArray := prog_14_method_71_code
def yX12_faces : MethodName := ⟨RX12, "faces", "(I)I"⟩
abbrev cX12_isStand : ByteArray := prog_14_method_72_code
def yX12_isStand : MethodName := ⟨RX12, "isStand", "(I)Z"⟩
abbrev cX12_isFree : ByteArray := prog_14_method_73_code
def yX12_isFree : MethodName := ⟨RX12, "isFree", "(I)Z"⟩
abbrev cX12_path : ByteArray := prog_14_method_74_code
def yX12_path : MethodName := ⟨RX12, "path", "(III)I"⟩
abbrev cX12_findBlocks : ByteArray := prog_14_method_75_code
def yX12_findBlocks : MethodName := ⟨RX12, "findBlocks", "(I)V"⟩
abbrev cX12_goesIn : ByteArray := prog_14_method_76_code
def yX12_goesIn : MethodName := ⟨RX12, "goesIn", "(IIII)Z"⟩
abbrev cX12_goes : ByteArray := prog_14_method_77_code
def yX12_goes : MethodName := ⟨RX12, "goes", "(III)I"⟩
abbrev cX12_places : ByteArray := prog_14_method_78_code
def yX12_places : MethodName := ⟨RX12, "places", "(II)I"⟩
abbrev cX12_place : ByteArray := prog_14_method_79_code
def yX12_place : MethodName := ⟨RX12, "place", "(III)I"⟩
abbrev cX12_differs : ByteArray := prog_14_method_80_code
def yX12_differs : MethodName := ⟨RX12, "differs", "(II)I"⟩
def RJx8e188 : String := "java/lang/Cloneable"
def TJx8e188 : u_T := fun k => match k with
  | _ => ("", "", "", false)
def tyJx8e188 : Nat → FieldType := fun k => match k with
  | _ => .int
theorem nmJx8e188 : ∀ a, a < 0 → ∀ b, b < 0 → a ≠ b → (TJx8e188 a).2.1 ≠ (TJx8e188 b).2.1 := by decide +kernel
theorem tyJx8e188_ok : ∀ k, k < 0 → parseFieldDescriptor (TJx8e188 k).2.2.1 = some (tyJx8e188 k) := by decide +kernel
def RJ9 : String := "java/lang/Math"
def TJ9 : u_T := fun k => match k with
  | _ => ("", "", "", false)
def tyJ9 : Nat → FieldType := fun k => match k with
  | _ => .int
theorem nmJ9 : ∀ a, a < 0 → ∀ b, b < 0 → a ≠ b → (TJ9 a).2.1 ≠ (TJ9 b).2.1 := by decide +kernel
theorem tyJ9_ok : ∀ k, k < 0 → parseFieldDescriptor (TJ9 k).2.2.1 = some (tyJ9 k) := by decide +kernel
abbrev cJ9_max_7cf53 : ByteArray := prog_18_method_65_code
def yJ9_max_7cf53 : MethodName := ⟨RJ9, "max", "(II)I"⟩
abbrev cJ9_min_7cf53 : ByteArray := prog_18_method_69_code
def yJ9_min_7cf53 : MethodName := ⟨RJ9, "min", "(II)I"⟩
def RL : String := "StackYardLaw"
abbrev cL_fallen : ByteArray := method_3_code
def yL_fallen : MethodName := ⟨RL, "fallen", "(LStackYard;II[J)I"⟩
abbrev cL_law : ByteArray := code
def yL_law : MethodName := ⟨RL, "law", "([I)Z"⟩
abbrev vwCl : List vw_C := [(RX0, TX0, 2), (RX1, TX1, 3), (RX2, TX2, 6), (RX3, TX3, 1), (RX4, TX4, 2), (RX5, TX5, 4), (RX6, TX6, 5), (RX7, TX7, 2), (RX9, TX9, 3), (RX10, TX10, 2), (RX11, TX11, 14), (RX12, TX12, 33)]
end
section
/-! THE SMALL MACHINE: a heap of numbered cells (Mm), locals by place (Lv), and PT: the kit's W at a point whose heap, locals and stack are told by them. -/
-- words: those of the tables that every callee may have
def TG : List Cond := lw_tbl.filter goodWord
theorem TG_good : GoodIn TG TG := fun _ h => ⟨h, good_of_word (List.mem_filter.mp h).2⟩
theorem TG_in {w : Cond} (i : Nat) (h : lw_tbl[i]? = some w) (g : goodWord w = true) : w ∈ TG := List.mem_filter.mpr ⟨List.mem_of_getElem? h, g⟩
-- cells, the heap: how many cells, how many slots, what each holds
abbrev MC : Type := (Nat × vp_A) ⊕ (Nat × List Value)
abbrev Mm : Type := Nat × Nat × (Nat → MC)
abbrev Lv : Type := List (Option Value)
def junk : MC := .inr (99, [])
/-- the world's fixed part: the classes' numbers, the array classes by their tags, the addresses of the cells below 5 (statics, the script), the first address above -/
abbrev GF : Type := va_G × (Nat → ClassId) × (Nat → Nat) × Nat
def adr (X : GF) (i : Nat) : Nat := if i < 5 then X.2.2.1 i else X.2.2.2 + (i - 5)
def AA (X : GF) : Nat → Prop := fun q => X.2.2.2 ≤ q
def up (X : GF) (v : Value) : Value := match v with
  | .ref i => .ref (adr X i)
  | w => w
def upA (X : GF) (a : vp_A) : vp_A := (a.1, match a.2 with
  | .inr (.inr (.inr (.inr f))) => .inr (.inr (.inr (.inr (fun j => (f j).map (adr X)))))
  | w => w)
def upC (X : GF) (c : MC) : va_E := match c with
  | .inl (t, a) => .inl (X.2.1 t, upA X a)
  | .inr (k, fs) => .inr (k, fs.map (up X))
/-- the array types by their tags: 0 int, 1 boolean, 2 long, 3 yards, 4 layers, 5 rows -/
def atT (t : Nat) : FieldType := match t with
  | 0 => .int
  | 1 => .boolean
  | 2 => .long
  | 3 => .object "StackYard$Yard"
  | 4 => .object "StackYard$Layer"
  | _ => .object "StackYard$Row"
def TYS (X : GF) : List (ClassId × FieldType) := [(X.2.1 0, .int), (X.2.1 1, .boolean), (X.2.1 2, .long), (X.2.1 3, .object "StackYard$Yard"), (X.2.1 4, .object "StackYard$Layer"), (X.2.1 5, .object "StackYard$Row")]
/-- the static arrays: class, field, number -/
def STN : List (String × String × Nat) := [("StackYard$Turns", "AXES", 1), ("StackYard$Turns", "SIGNS", 2), ("StackYardModel", "PERMUTED", 3), ("StackYardModel", "EVEN", 4)]
/-- the words that the tables alone don't carry over: links between nest mates, and what a clone asks -/
def isNW : Cond → Bool
  | .methodLinkNest .. => true
  | .castable .. => true
  | _ => false
def NWL : List Cond := lw_tbl.filter isNW
def ST (X : GF) (U : State) (M : Mm) (H : Heap) : Prop :=
  (∀ i : Nat, i < 5 → ∃ (n : Nat) (f : Nat → Int32), M.2.2 i = .inl (0, n, .inl f) ∧ n < 2 ^ 31 ∧ va_T .int (adr X i) n (fun j => .int (f j)) (AA X) U H) ∧
  (∀ q ∈ STN, va_Z q.1 q.2.1 "[I" (.ref (adr X q.2.2)) (AA X) U H) ∧
  (va_Zq "java/lang/Throwable" "UNASSIGNED_STACK" "[Ljava/lang/StackTraceElement;" (AA X) U H ∧ va_Zq "java/lang/Throwable" "SUPPRESSED_SENTINEL" "Ljava/util/List;" (AA X) U H) ∧
  (∀ w ∈ NWL, va_Nw w U)
def Rp (X : GF) (U : State) (M : Mm) (H : Heap) : Prop :=
  (5 ≤ M.1 ∧ H.size = X.2.2.2 + (M.1 - 5)) ∧
  (∀ i : Nat, 5 ≤ i → i < M.1 → va_at X.1 vwCl (adr X i, upC X (M.2.2 i)) H) ∧
  (∀ i : Nat, M.1 ≤ i → M.2.2 i = junk) ∧
  va_K X.1 vwCl (TYS X) U ∧ ST X U M H
/-- a method: code, its class, locals, frames and words of the room, name, what it returns -/
abbrev MI : Type := ByteArray × String × Nat × Nat × Nat × String × Option FieldType
abbrev GT : Type := GF × Program × Launch × Env × Room × State × MethodId × Array Value × List Frame × Method × Code × Nat × Nat × (State → Prop)
abbrev gX (G : GT) : GF := G.1
abbrev gp (G : GT) : Program := G.2.1
abbrev gl (G : GT) : Launch := G.2.2.1
abbrev ge (G : GT) : Env := G.2.2.2.1
abbrev gR (G : GT) : Room := G.2.2.2.2.1
abbrev gs (G : GT) : State := G.2.2.2.2.2.1
abbrev gm (G : GT) : MethodId := G.2.2.2.2.2.2.1
abbrev ga (G : GT) : Array Value := G.2.2.2.2.2.2.2.1
abbrev gb (G : GT) : List Frame := G.2.2.2.2.2.2.2.2.1
abbrev gh (G : GT) : Method := G.2.2.2.2.2.2.2.2.2.1
abbrev gc (G : GT) : Code := G.2.2.2.2.2.2.2.2.2.2.1
abbrev gn (G : GT) : Nat := G.2.2.2.2.2.2.2.2.2.2.2.1
abbrev gz (G : GT) : Nat := G.2.2.2.2.2.2.2.2.2.2.2.2.1
abbrev gQ (G : GT) : State → Prop := G.2.2.2.2.2.2.2.2.2.2.2.2.2
def LOC (X : GF) (ls : Array Slot) (nL : Nat) (L : Lv) : Prop := ls.size = nL ∧ lv_wf ls ∧ ∀ (i : Nat) (v : Value), L[i]? = some (some v) → ls[i]? = some (.val (up X v))
def PT (G : GT) (pc : Nat) (L : Lv) (st : List Value) (M : Mm) : Prop :=
  ∀ (ls : Array Slot) (H : Heap) (locs : List Loc), LOC (gX G) ls (gc G).maxLocals L → Rp (gX G) (gs G) M H → va_S (AA (gX G)) (gs G).heap H locs →
    W (gp G) (gl G) (ge G) (gR G) (gs G) (gm G) (ga G) (gb G) (gh G) (gc G) H locs (M.1 - gn G) (M.2.1 - gz G) (gQ G) (F0 (gm G) pc ls (st.map (up (gX G))))
/-- what holds in a method's body -/
def CX (G : GT) (I : MI) : Prop :=
  (gp G).tables.exec = Jvm.exec ∧ (gc G).code = I.1 ∧ (gs G).vm.findClass I.2.1 = some (gm G).cls ∧ (gc G).maxLocals = I.2.2.1 ∧ (∀ w ∈ TG, w.before (ga G) (gs G) = true) ∧
  (gR G).frames = I.2.2.2.1 ∧ (gR G).locals = I.2.2.2.2.1 ∧ (gh G).name = I.2.2.2.2.2.1 ∧ (gh G).sig.returnType = I.2.2.2.2.2.2 ∧ (gh G).locks = false ∧ (gX G).2.2.2 ≤ (gs G).heap.size ∧ (gl G).flags = flags0
def csum (st : List Value) : Nat := (st.map fun v => v.category).sum
theorem csum_up (X : GF) (st : List Value) : ((st.map (up X)).map fun v => v.category).sum = csum st := by
  unfold csum
  rw [List.map_map]
  congr 1
  refine List.map_congr_left (fun v _ => ?_)
  cases v <;> rfl
theorem csum_cons (v : Value) (st : List Value) : csum (v :: st) = v.category + csum st := by simp [csum]
-- locals
def kil (i : Nat) (L : Lv) : Lv := match L[i - 1]? with
  | some (some v) => if v.category = 2 then L.set (i - 1) none else L
  | _ => L
def stL (i : Nat) (v : Value) (L : Lv) : Lv := (kil i L).set i (some v)
def stJ (i : Nat) (v : Value) (L : Lv) : Lv := ((kil i L).set i (some v)).set (i + 1) none
def lvl (X : GF) (L : Lv) : List (Nat × Value) := (List.range L.length).filterMap (fun j => match L[j]? with
  | some (some v) => some (j, up X v)
  | _ => none)
theorem mem_lvl {X : GF} {L : Lv} {j : Nat} {v : Value} (h : L[j]? = some (some v)) : (j, up X v) ∈ lvl X L := by
  refine List.mem_filterMap.mpr ⟨j, List.mem_range.mpr (List.getElem?_eq_some_iff.mp h).1, ?_⟩
  simp [h]
theorem LOC.has {X : GF} {ls : Array Slot} {nL : Nat} {L : Lv} (h : LOC X ls nL L) : lv_has ls nL (lvl X L) := by
  refine ⟨h.1, h.2.1, fun q hq => ?_⟩
  obtain ⟨j, -, hj⟩ := List.mem_filterMap.mp hq
  cases hL : L[j]? with
  | none => rw [hL] at hj; cases hj
  | some o =>
    cases o with
    | none => rw [hL] at hj; cases hj
    | some v =>
      rw [hL] at hj
      cases hj
      exact h.2.2 j v hL
theorem kil_get {i j : Nat} {L : Lv} {v : Value} (h : (kil i L)[j]? = some (some v)) : L[j]? = some (some v) ∧ ¬ (j + 1 = i ∧ v.category = 2) := by
  unfold kil at h
  split at h
  · rename_i w hw
    by_cases hc : w.category = 2
    · rw [if_pos hc] at h
      by_cases e : j = i - 1
      · subst e
        have hlt := (List.getElem?_eq_some_iff.mp hw).1
        rw [List.getElem?_set_self hlt] at h
        cases h
      · rw [List.getElem?_set_ne (fun q => e q.symm)] at h
        exact ⟨h, fun q => e (by omega)⟩
    · rw [if_neg hc] at h
      refine ⟨h, fun q => ?_⟩
      obtain ⟨q1, q2⟩ := q
      have : i - 1 = j := by omega
      rw [this, h] at hw
      cases hw
      exact hc q2
  · rename_i hno
    refine ⟨h, fun q => ?_⟩
    obtain ⟨q1, q2⟩ := q
    have : i - 1 = j := by omega
    rw [this] at hno
    exact hno _ h
theorem up_cat (X : GF) (v : Value) : (up X v).category = v.category := by cases v <;> rfl
theorem LOC.store {X : GF} {ls' : Array Slot} {nL i : Nat} {L : Lv} {v w : Value} (hw : up X v = w)
    (h' : lv_has ls' nL ((i, w) :: (lvl X L).filter (fun q => !(q.1 == i) && !(q.1 + 1 == i && q.2.category == 2)))) : LOC X ls' nL (stL i v L) := by
  refine ⟨h'.1, h'.2.1, fun j u hj => ?_⟩
  unfold stL at hj
  by_cases e : j = i
  · subst e
    by_cases hlt : j < (kil j L).length
    · rw [List.getElem?_set_self hlt] at hj
      cases hj
      rw [hw]
      exact h'.2.2 (j, w) List.mem_cons_self
    · rw [List.getElem?_eq_none (by rw [List.length_set]; omega)] at hj
      cases hj
  · rw [List.getElem?_set_ne (fun q => e q.symm)] at hj
    obtain ⟨h1, h2⟩ := kil_get hj
    refine h'.2.2 (j, up X u) (List.mem_cons_of_mem _ (List.mem_filter.mpr ⟨mem_lvl h1, ?_⟩))
    rw [up_cat]
    have e1 : (j == i) = false := by simpa using e
    rw [e1]
    cases hq : (j + 1 == i && u.category == 2) with
    | false => rfl
    | true =>
      simp only [Bool.and_eq_true, beq_iff_eq] at hq
      exact absurd hq h2
theorem LOC.storeJ {X : GF} {ls' : Array Slot} {nL i : Nat} {L : Lv} {v w : Value} (hw : up X v = w)
    (h' : lv_has ls' nL ((i, w) :: (lvl X L).filter (fun q => !(q.1 == i) && (!(q.1 == i + 1) && !(q.1 + 1 == i && q.2.category == 2))))) : LOC X ls' nL (stJ i v L) := by
  refine ⟨h'.1, h'.2.1, fun j u hj => ?_⟩
  unfold stJ at hj
  by_cases e2 : j = i + 1
  · subst e2
    by_cases hlt : i + 1 < ((kil i L).set i (some v)).length
    · rw [List.getElem?_set_self hlt] at hj
      cases hj
    · rw [List.getElem?_eq_none (by rw [List.length_set]; omega)] at hj
      cases hj
  · rw [List.getElem?_set_ne (fun q => e2 q.symm)] at hj
    by_cases e : j = i
    · subst e
      by_cases hlt : j < (kil j L).length
      · rw [List.getElem?_set_self hlt] at hj
        cases hj
        rw [hw]
        exact h'.2.2 (j, w) List.mem_cons_self
      · rw [List.getElem?_eq_none (by rw [List.length_set]; omega)] at hj
        cases hj
    · rw [List.getElem?_set_ne (fun q => e q.symm)] at hj
      obtain ⟨h1, h2⟩ := kil_get hj
      refine h'.2.2 (j, up X u) (List.mem_cons_of_mem _ (List.mem_filter.mpr ⟨mem_lvl h1, ?_⟩))
      rw [up_cat]
      have e1 : (j == i) = false := by simpa using e
      have e3 : (j == i + 1) = false := by simpa using e2
      rw [e1, e3]
      cases hq : (j + 1 == i && u.category == 2) with
      | false => rfl
      | true =>
        simp only [Bool.and_eq_true, beq_iff_eq] at hq
        exact absurd hq h2
end
section
/-! ROWS of the small machine: an instruction each, out of the kit's rows. -/
def setC (M : Mm) (a : Nat) (c : MC) : Mm := (M.1, M.2.1, fun b => if b = a then c else M.2.2 b)
def newC (M : Mm) (k : Nat) (c : MC) : Mm := (M.1 + 1, M.2.1 + k, fun b => if b = M.1 then c else M.2.2 b)
theorem va_P1 {D : va_G} {cl : List vw_C} {q : Nat × va_E} {H : Heap} (h : va_at D cl q H) : va_P D cl [q] H := by
  intro k x hx
  have hz : k < 1 := (List.getElem?_eq_some_iff.mp hx).1
  rw [show k = 0 by omega] at hx
  cases hx
  exact h
theorem adr_hi (X : GF) {a : Nat} (h : 5 ≤ a) : adr X a = X.2.2.2 + (a - 5) := by unfold adr; rw [if_neg (by omega)]
theorem Rp.ltA {X : GF} {U : State} {M : Mm} {H : Heap} (h : Rp X U M H) {a : Nat} {t : Nat} {x : vp_A} (hM : M.2.2 a = .inl (t, x)) : a < M.1 := by
  rcases Nat.lt_or_ge a M.1 with q | q
  · exact q
  · rw [h.2.2.1 a q] at hM
    cases hM
theorem Rp.ltO {X : GF} {U : State} {M : Mm} {H : Heap} (h : Rp X U M H) {a ci : Nat} {fs : List Value} (hM : M.2.2 a = .inr (ci, fs)) {r : vw_C} (hc : vwCl[ci]? = some r) : 5 ≤ a ∧ a < M.1 := by
  constructor
  · rcases Nat.lt_or_ge a 5 with q | q
    · obtain ⟨n, f, h1, -⟩ := h.2.2.2.2.1 a q
      rw [h1] at hM
      cases hM
    · exact q
  · rcases Nat.lt_or_ge a M.1 with q | q
    · exact q
    · rw [h.2.2.1 a q] at hM
      cases hM
      cases hc
theorem Rp.P {X : GF} {U : State} {M : Mm} {H : Heap} (h : Rp X U M H) {a : Nat} {c : MC} (hM : M.2.2 a = c) (h5 : 5 ≤ a) (hl : a < M.1) : va_P X.1 vwCl [(adr X a, upC X c)] H := by
  rw [← hM]
  exact va_P1 (h.2.1 a h5 hl)
theorem Rp.K {X : GF} {U : State} {M : Mm} {H : Heap} (h : Rp X U M H) : va_K X.1 vwCl (TYS X) U := h.2.2.2.1
theorem TYS_at (X : GF) {t : Nat} (h : t ≤ 5) : (TYS X)[t]? = some (X.2.1 t, atT t) := by
  rcases (show t = 0 ∨ t = 1 ∨ t = 2 ∨ t = 3 ∨ t = 4 ∨ t = 5 by omega) with rfl | rfl | rfl | rfl | rfl | rfl <;> rfl
theorem ST.kept {X : GF} {U : State} {M M' : Mm} {H H1 : Heap} (h : ST X U M H) (hq : ∀ a : Nat, a < H.size → ¬ AA X a → H1[a]? = H[a]?) (hm : ∀ i : Nat, i < 5 → M'.2.2 i = M.2.2 i) : ST X U M' H1 := by
  obtain ⟨h1, h2, ⟨h3, h4⟩, h5⟩ := h
  refine ⟨fun i hi => ?_, fun q hqm => (h2 q hqm).kept hq, ⟨h3.kept hq, h4.kept hq⟩, h5⟩
  obtain ⟨n, f, a1, a2, a3⟩ := h1 i hi
  exact ⟨n, f, by rw [hm i hi]; exact a1, a2, a3.kept hq⟩
theorem Rp.set {X : GF} {U : State} {M : Mm} {H H1 : Heap} (h : Rp X U M H) {a : Nat} {c : MC} (h5 : 5 ≤ a) (hl : a < M.1) (z : H1.size = H.size) (hn : va_at X.1 vwCl (adr X a, upC X c) H1) (oq : ∀ q : Nat, q ≠ adr X a → H1[q]? = H[q]?) : Rp X U (setC M a c) H1 := by
  obtain ⟨⟨h1, h2⟩, h3, h4, hK, hST⟩ := h
  refine ⟨⟨h1, by rw [z]; exact h2⟩, fun i hi hil => ?_, fun i hi => ?_, hK, ?_⟩
  · show va_at X.1 vwCl (adr X i, upC X (if i = a then c else M.2.2 i)) H1
    by_cases e : i = a
    · rw [if_pos e, e]
      exact hn
    · rw [if_neg e]
      refine (h3 i hi hil).kept (oq _ fun q => e ?_)
      rw [adr_hi X hi, adr_hi X h5] at q
      omega
  · show (if i = a then c else M.2.2 i) = junk
    rw [if_neg (by have : M.1 ≤ i := hi; omega)]
    exact h4 i hi
  · refine hST.kept (fun q hq hA => oq q fun e => hA ?_) (fun i hi => ?_)
    · show X.2.2.2 ≤ q
      rw [e, adr_hi X h5]
      omega
    · show (if i = a then c else M.2.2 i) = M.2.2 i
      rw [if_neg (by omega)]
theorem va_S.put5 {X : GF} {H0 H H1 : Heap} {locs : List Loc} {a k : Nat} (h : va_S (AA X) H0 H locs) (h5 : 5 ≤ a) (z : H1.size = H.size) (oq : ∀ q : Nat, q ≠ adr X a → H1[q]? = H[q]?) : va_S (AA X) H0 H1 (locs ++ [⟨adr X a, k⟩]) :=
  h.put z oq (by show X.2.2.2 ≤ _; rw [adr_hi X h5]; omega)
theorem Rp.new {X : GF} {U : State} {M : Mm} {H H1 : Heap} (h : Rp X U M H) {c : MC} (k : Nat) (z : H1.size = H.size + 1) (hn : va_at X.1 vwCl (H.size, upC X c) H1) (oq : ∀ q : Nat, q < H.size → H1[q]? = H[q]?) : Rp X U (newC M k c) H1 := by
  obtain ⟨⟨h1, h2⟩, h3, h4, hK, hST⟩ := h
  refine ⟨⟨by show 5 ≤ M.1 + 1; omega, by show H1.size = X.2.2.2 + (M.1 + 1 - 5); omega⟩, fun i hi hil => ?_, fun i hi => ?_, hK, ?_⟩
  · show va_at X.1 vwCl (adr X i, upC X (if i = M.1 then c else M.2.2 i)) H1
    by_cases e : i = M.1
    · rw [if_pos e, e, adr_hi X h1, ← h2]
      exact hn
    · rw [if_neg e]
      have hil' : i < M.1 + 1 := hil
      have hi' := h3 i hi (by omega)
      exact hi'.kept (oq _ hi'.lt)
  · have hi' : M.1 + 1 ≤ i := hi
    show (if i = M.1 then c else M.2.2 i) = junk
    rw [if_neg (by omega)]
    exact h4 i (by omega)
  · refine hST.kept (fun q hq _ => oq q hq) (fun i hi => ?_)
    show (if i = M.1 then c else M.2.2 i) = M.2.2 i
    rw [if_neg (by omega)]
theorem va_S.new5 {X : GF} {H0 H H1 : Heap} {locs : List Loc} (h : va_S (AA X) H0 H locs) (z : H1.size = H.size + 1) (oq : ∀ q : Nat, q < H.size → H1[q]? = H[q]?) : va_S (AA X) H0 H1 locs :=
  ⟨Nat.le_trans h.1 (by omega), fun x h1 h2 => (oq x (Nat.lt_of_lt_of_le h1 h.1)).trans (h.2.1 x h1 h2), h.2.2⟩
theorem NWL_cases {w : Cond} (h : w ∈ NWL) : (∃ a i x b, w = .methodLinkNest a i x b) ∨ ∃ C T, w = .castable C T := by
  have h1 := (List.mem_filter.mp h).2
  cases w <;> first | exact Or.inl ⟨_, _, _, _, rfl⟩ | exact Or.inr ⟨_, _, rfl⟩ | cases h1
theorem NWL_warm {s U : State} (hW : s.WarmedH U.vm) (h : ∀ w ∈ NWL, va_Nw w s) : ∀ w ∈ NWL, va_Nw w U := by
  intro w hw
  have h1 := h w hw
  rcases NWL_cases hw with ⟨a, i, x, b, rfl⟩ | ⟨C, T, rfl⟩
  · exact va_Nw.warmM hW h1
  · exact va_Nw.warmC hW h1
theorem NWL_same {s U : State} (hv : s.vm = U.vm) (h : ∀ w ∈ NWL, va_Nw w s) : ∀ w ∈ NWL, va_Nw w U := by
  intro w hw
  have h1 := h w hw
  rcases NWL_cases hw with ⟨a, i, x, b, rfl⟩ | ⟨C, T, rfl⟩
  · exact va_Nw.same rfl hv h1
  · exact va_Nw.same rfl hv h1
theorem Rp.move {X : GF} {s U : State} {M : Mm} {H : Heap} (h : Rp X s M H) (hvm : s.vm.Alike U.vm) (hw : ∀ w ∈ NWL, va_Nw w U) : Rp X U M H := by
  obtain ⟨h1, h2, h3, hK, q1, q2, ⟨q3, q4⟩, -⟩ := h
  refine ⟨h1, h2, h3, va_K.moved hvm hK, fun i hi => ?_, fun q hq => (q2 q hq).moved hvm, ⟨q3.moved hvm, q4.moved hvm⟩, hw⟩
  obtain ⟨n, f, a1, a2, a3⟩ := q1 i hi
  exact ⟨n, f, a1, a2, a3.moved hvm⟩
theorem Rp.W {X : GF} {U : State} {M : Mm} {H : Heap} (h : Rp X U M H) : ∀ w ∈ NWL, va_Nw w U := h.2.2.2.2.2.2.2
theorem Rp.warm {X : GF} {s U : State} {M : Mm} {H : Heap} (h : Rp X s M H) (hW : s.WarmedH U.vm) : Rp X U M H := h.move hW.alike (NWL_warm hW h.W)
section PTrows
variable {G : GT} {I : MI} {pc : Nat} {L : Lv} {st : List Value} {M : Mm}
theorem pt_iconst (C : CX G I) {n : Int} {v : Int32} (hd : decode I.1 pc = .ok (.iconst n, 1)) (hv : Int32.ofInt n = v) (k : PT G (pc + 1) L (.int v :: st) M) : PT G pc L st M :=
  fun ls H locs hl hR hS => lv_iconst C.1 C.2.1 hd hv (k ls H locs hl hR hS)
theorem pt_bipush (C : CX G I) {n : Int} {v : Int32} (hd : decode I.1 pc = .ok (.bipush n, 2)) (hv : (Int8.ofInt n).toInt32 = v) (k : PT G (pc + 2) L (.int v :: st) M) : PT G pc L st M :=
  fun ls H locs hl hR hS => lv_bipush C.1 C.2.1 hd hv (k ls H locs hl hR hS)
theorem pt_sipush (C : CX G I) {n : Int} {v : Int32} (hd : decode I.1 pc = .ok (.sipush n, 3)) (hv : (Int16.ofInt n).toInt32 = v) (k : PT G (pc + 3) L (.int v :: st) M) : PT G pc L st M :=
  fun ls H locs hl hR hS => lv_sipush C.1 C.2.1 hd hv (k ls H locs hl hR hS)
theorem pt_ldc (C : CX G I) {i : Nat} {v : Int32} (hd : decode I.1 pc = .ok (.ldc i, 2)) (hw : Cond.constant I.2.1 i v ∈ TG) (k : PT G (pc + 2) L (.int v :: st) M) : PT G pc L st M :=
  fun ls H locs hl hR hS => lv_ldc C.1 C.2.1 C.2.2.1 (C.2.2.2.2.1 _ hw) hd (k ls H locs hl hR hS)
theorem pt_ldc2 (C : CX G I) {i : Nat} {v : Int64} (hd : decode I.1 pc = .ok (.ldc2_w i, 3)) (hw : Cond.constantLong I.2.1 i v ∈ TG) (k : PT G (pc + 3) L (.long v :: st) M) : PT G pc L st M :=
  fun ls H locs hl hR hS => lv_ldc2 C.1 C.2.1 C.2.2.1 (C.2.2.2.2.1 _ hw) hd (k ls H locs hl hR hS)
theorem pt_null (C : CX G I) (hd : decode I.1 pc = .ok (.aconst_null, 1)) (k : PT G (pc + 1) L (.null :: st) M) : PT G pc L st M :=
  fun ls H locs hl hR hS => lv_null C.1 C.2.1 hd (k ls H locs hl hR hS)
theorem pt_iload_n (C : CX G I) {q : Fin 4} {i : Nat} {x : Int32} (hd : decode I.1 pc = .ok (.iload_n q, 1)) (hi : (q : Nat) = i) (hx : L[i]? = some (some (.int x))) (k : PT G (pc + 1) L (.int x :: st) M) : PT G pc L st M :=
  fun ls H locs hl hR hS => lv_iload_n C.1 C.2.1 hd hi (hl.2.2 i _ hx) (k ls H locs hl hR hS)
theorem pt_iload (C : CX G I) {i : Nat} {x : Int32} (hd : decode I.1 pc = .ok (.iload i, 2)) (hx : L[i]? = some (some (.int x))) (k : PT G (pc + 2) L (.int x :: st) M) : PT G pc L st M :=
  fun ls H locs hl hR hS => lv_iload C.1 C.2.1 hd (hl.2.2 i _ hx) (k ls H locs hl hR hS)
theorem pt_lload (C : CX G I) {i : Nat} {x : Int64} (hd : decode I.1 pc = .ok (.lload i, 2)) (hx : L[i]? = some (some (.long x))) (k : PT G (pc + 2) L (.long x :: st) M) : PT G pc L st M :=
  fun ls H locs hl hR hS => lv_lload C.1 C.2.1 hd (hl.2.2 i _ hx) (k ls H locs hl hR hS)
theorem pt_aload_n (C : CX G I) {q : Fin 4} {i : Nat} {r : Option Nat} (hd : decode I.1 pc = .ok (.aload_n q, 1)) (hi : (q : Nat) = i) (hx : L[i]? = some (some (va_rf r))) (k : PT G (pc + 1) L (va_rf r :: st) M) : PT G pc L st M := by
  intro ls H locs hl hR hS
  cases r with
  | none => exact lv_aload_nN C.1 C.2.1 hd hi (hl.2.2 i _ hx) (k ls H locs hl hR hS)
  | some a => exact lv_aload_n C.1 C.2.1 hd hi (hl.2.2 i _ hx) (k ls H locs hl hR hS)
theorem pt_aload (C : CX G I) {i : Nat} {r : Option Nat} (hd : decode I.1 pc = .ok (.aload i, 2)) (hx : L[i]? = some (some (va_rf r))) (k : PT G (pc + 2) L (va_rf r :: st) M) : PT G pc L st M := by
  intro ls H locs hl hR hS
  cases r with
  | none => exact lv_aloadN C.1 C.2.1 hd (hl.2.2 i _ hx) (k ls H locs hl hR hS)
  | some a => exact lv_aload C.1 C.2.1 hd (hl.2.2 i _ hx) (k ls H locs hl hR hS)
theorem pt_istore_n (C : CX G I) {q : Fin 4} {i : Nat} {x : Int32} (hd : decode I.1 pc = .ok (.istore_n q, 1)) (hi : (q : Nat) = i) (hn : i < I.2.2.1) (k : PT G (pc + 1) (stL i (.int x) L) st M) : PT G pc L (.int x :: st) M :=
  fun _ H locs hl hR hS => lv_istore_n C.1 C.2.1 hd hi hl.has (by rw [C.2.2.2.1]; exact hn) rfl (fun ls' h' => k ls' H locs (LOC.store rfl h') hR hS)
theorem pt_istore (C : CX G I) {i : Nat} {x : Int32} (hd : decode I.1 pc = .ok (.istore i, 2)) (hn : i < I.2.2.1) (k : PT G (pc + 2) (stL i (.int x) L) st M) : PT G pc L (.int x :: st) M :=
  fun _ H locs hl hR hS => lv_istore C.1 C.2.1 hd hl.has (by rw [C.2.2.2.1]; exact hn) rfl (fun ls' h' => k ls' H locs (LOC.store rfl h') hR hS)
theorem pt_lstore (C : CX G I) {i : Nat} {x : Int64} (hd : decode I.1 pc = .ok (.lstore i, 2)) (hn : i + 1 < I.2.2.1) (k : PT G (pc + 2) (stJ i (.long x) L) st M) : PT G pc L (.long x :: st) M :=
  fun _ H locs hl hR hS => lv_lstore C.1 C.2.1 hd hl.has (by rw [C.2.2.2.1]; exact hn) rfl (fun ls' h' => k ls' H locs (LOC.storeJ rfl h') hR hS)
theorem pt_astore_n (C : CX G I) {q : Fin 4} {i : Nat} {r : Option Nat} (hd : decode I.1 pc = .ok (.astore_n q, 1)) (hi : (q : Nat) = i) (hn : i < I.2.2.1) (k : PT G (pc + 1) (stL i (va_rf r) L) st M) : PT G pc L (va_rf r :: st) M := by
  intro ls H locs hl hR hS
  cases r with
  | none => exact lv_astore_nN C.1 C.2.1 hd hi hl.has (by rw [C.2.2.2.1]; exact hn) rfl (fun ls' h' => k ls' H locs (LOC.store rfl h') hR hS)
  | some a => exact lv_astore_n C.1 C.2.1 hd hi hl.has (by rw [C.2.2.2.1]; exact hn) rfl (fun ls' h' => k ls' H locs (LOC.store rfl h') hR hS)
theorem pt_astore (C : CX G I) {i : Nat} {r : Option Nat} (hd : decode I.1 pc = .ok (.astore i, 2)) (hn : i < I.2.2.1) (k : PT G (pc + 2) (stL i (va_rf r) L) st M) : PT G pc L (va_rf r :: st) M := by
  intro ls H locs hl hR hS
  cases r with
  | none => exact lv_astoreN C.1 C.2.1 hd hl.has (by rw [C.2.2.2.1]; exact hn) rfl (fun ls' h' => k ls' H locs (LOC.store rfl h') hR hS)
  | some a => exact lv_astore C.1 C.2.1 hd hl.has (by rw [C.2.2.2.1]; exact hn) rfl (fun ls' h' => k ls' H locs (LOC.store rfl h') hR hS)
theorem pt_iinc (C : CX G I) {i : Nat} {n : Int} {x v : Int32} (hd : decode I.1 pc = .ok (.iinc i n, 3)) (hx : L[i]? = some (some (.int x))) (hv : x + Int32.ofInt n = v) (hn : i < I.2.2.1) (k : PT G (pc + 3) (stL i (.int v) L) st M) : PT G pc L st M := by
  intro ls H locs hl hR hS
  obtain ⟨j, hj⟩ := List.getElem?_of_mem (mem_lvl (X := gX G) hx)
  exact lv_iinc C.1 C.2.1 hd hl.has hj hv (by rw [C.2.2.2.1]; exact hn) rfl (fun ls' h' => k ls' H locs (LOC.store rfl h') hR hS)
theorem pt_iadd (C : CX G I) {x y : Int32} (hd : decode I.1 pc = .ok (.iadd, 1)) (k : PT G (pc + 1) L (.int (x + y) :: st) M) : PT G pc L (.int y :: .int x :: st) M :=
  fun ls H locs hl hR hS => lv_iadd C.1 C.2.1 hd (k ls H locs hl hR hS)
theorem pt_isub (C : CX G I) {x y : Int32} (hd : decode I.1 pc = .ok (.isub, 1)) (k : PT G (pc + 1) L (.int (x - y) :: st) M) : PT G pc L (.int y :: .int x :: st) M :=
  fun ls H locs hl hR hS => lv_isub C.1 C.2.1 hd (k ls H locs hl hR hS)
theorem pt_imul (C : CX G I) {x y : Int32} (hd : decode I.1 pc = .ok (.imul, 1)) (k : PT G (pc + 1) L (.int (x * y) :: st) M) : PT G pc L (.int y :: .int x :: st) M :=
  fun ls H locs hl hR hS => lv_imul C.1 C.2.1 hd (k ls H locs hl hR hS)
theorem pt_iand (C : CX G I) {x y : Int32} (hd : decode I.1 pc = .ok (.iand, 1)) (k : PT G (pc + 1) L (.int (x &&& y) :: st) M) : PT G pc L (.int y :: .int x :: st) M :=
  fun ls H locs hl hR hS => lv_iand C.1 C.2.1 hd (k ls H locs hl hR hS)
theorem pt_idiv (C : CX G I) {x y : Int32} (hd : decode I.1 pc = .ok (.idiv, 1)) (h : ¬ y = 0) (k : PT G (pc + 1) L (.int (x / y) :: st) M) : PT G pc L (.int y :: .int x :: st) M :=
  fun ls H locs hl hR hS => lv_idiv C.1 C.2.1 hd h (k ls H locs hl hR hS)
theorem pt_irem (C : CX G I) {x y : Int32} (hd : decode I.1 pc = .ok (.irem, 1)) (h : ¬ y = 0) (k : PT G (pc + 1) L (.int (x - x / y * y) :: st) M) : PT G pc L (.int y :: .int x :: st) M :=
  fun ls H locs hl hR hS => lv_irem C.1 C.2.1 hd h (k ls H locs hl hR hS)
theorem pt_ineg (C : CX G I) {x : Int32} (hd : decode I.1 pc = .ok (.ineg, 1)) (k : PT G (pc + 1) L (.int (-x) :: st) M) : PT G pc L (.int x :: st) M :=
  fun ls H locs hl hR hS => lv_ineg C.1 C.2.1 hd (k ls H locs hl hR hS)
theorem pt_i2l (C : CX G I) {x : Int32} (hd : decode I.1 pc = .ok (.i2l, 1)) (k : PT G (pc + 1) L (.long x.toInt64 :: st) M) : PT G pc L (.int x :: st) M :=
  fun ls H locs hl hR hS => lv_i2l C.1 C.2.1 hd rfl (k ls H locs hl hR hS)
theorem pt_ladd (C : CX G I) {x y : Int64} (hd : decode I.1 pc = .ok (.ladd, 1)) (k : PT G (pc + 1) L (.long (x + y) :: st) M) : PT G pc L (.long y :: .long x :: st) M :=
  fun ls H locs hl hR hS => lv_ladd C.1 C.2.1 hd (k ls H locs hl hR hS)
theorem pt_lmul (C : CX G I) {x y : Int64} (hd : decode I.1 pc = .ok (.lmul, 1)) (k : PT G (pc + 1) L (.long (x * y) :: st) M) : PT G pc L (.long y :: .long x :: st) M :=
  fun ls H locs hl hR hS => lv_lmul C.1 C.2.1 hd (k ls H locs hl hR hS)
theorem pt_dup (C : CX G I) {v : Value} (hd : decode I.1 pc = .ok (.dup, 1)) (hv : v.category = 1) (k : PT G (pc + 1) L (v :: v :: st) M) : PT G pc L (v :: st) M :=
  fun ls H locs hl hR hS => lv_dup C.1 C.2.1 hd (by rw [up_cat]; exact hv) (k ls H locs hl hR hS)
theorem pt_pop (C : CX G I) {v : Value} (hd : decode I.1 pc = .ok (.pop, 1)) (hv : v.category = 1) (k : PT G (pc + 1) L st M) : PT G pc L (v :: st) M :=
  fun ls H locs hl hR hS => lv_pop C.1 C.2.1 hd (by rw [up_cat]; exact hv) (k ls H locs hl hR hS)
theorem pt_goto (C : CX G I) {off : Int} {tgt : Nat} (hd : decode I.1 pc = .ok (.goto off, 3)) (ht : (pc : Int) + off = (tgt : Int)) (k : PT G tgt L st M) : PT G pc L st M :=
  fun ls H locs hl hR hS => lv_goto C.1 C.2.1 hd ht (k ls H locs hl hR hS)
theorem pt_if_eq (C : CX G I) {x : Int32} {off : Int} {tgt : Nat} (hd : decode I.1 pc = .ok (.ifCond .eq off, 3)) (ht : (pc : Int) + off = (tgt : Int)) (kt : x = 0 → PT G tgt L st M) (kf : ¬ x = 0 → PT G (pc + 3) L st M) : PT G pc L (.int x :: st) M :=
  fun ls H locs hl hR hS => lv_if_eq C.1 C.2.1 hd ht (fun h => kt h ls H locs hl hR hS) (fun h => kf h ls H locs hl hR hS)
theorem pt_if_ne (C : CX G I) {x : Int32} {off : Int} {tgt : Nat} (hd : decode I.1 pc = .ok (.ifCond .ne off, 3)) (ht : (pc : Int) + off = (tgt : Int)) (kt : ¬ x = 0 → PT G tgt L st M) (kf : x = 0 → PT G (pc + 3) L st M) : PT G pc L (.int x :: st) M :=
  fun ls H locs hl hR hS => lv_if_ne C.1 C.2.1 hd ht (fun h => kt h ls H locs hl hR hS) (fun h => kf h ls H locs hl hR hS)
theorem pt_if_lt (C : CX G I) {x : Int32} {off : Int} {tgt : Nat} (hd : decode I.1 pc = .ok (.ifCond .lt off, 3)) (ht : (pc : Int) + off = (tgt : Int)) (kt : x < 0 → PT G tgt L st M) (kf : ¬ x < 0 → PT G (pc + 3) L st M) : PT G pc L (.int x :: st) M :=
  fun ls H locs hl hR hS => lv_if_lt C.1 C.2.1 hd ht (fun h => kt h ls H locs hl hR hS) (fun h => kf h ls H locs hl hR hS)
theorem pt_if_ge (C : CX G I) {x : Int32} {off : Int} {tgt : Nat} (hd : decode I.1 pc = .ok (.ifCond .ge off, 3)) (ht : (pc : Int) + off = (tgt : Int)) (kt : 0 ≤ x → PT G tgt L st M) (kf : ¬ 0 ≤ x → PT G (pc + 3) L st M) : PT G pc L (.int x :: st) M :=
  fun ls H locs hl hR hS => lv_if_ge C.1 C.2.1 hd ht (fun h => kt h ls H locs hl hR hS) (fun h => kf h ls H locs hl hR hS)
theorem pt_if_gt (C : CX G I) {x : Int32} {off : Int} {tgt : Nat} (hd : decode I.1 pc = .ok (.ifCond .gt off, 3)) (ht : (pc : Int) + off = (tgt : Int)) (kt : 0 < x → PT G tgt L st M) (kf : ¬ 0 < x → PT G (pc + 3) L st M) : PT G pc L (.int x :: st) M :=
  fun ls H locs hl hR hS => lv_if_gt C.1 C.2.1 hd ht (fun h => kt h ls H locs hl hR hS) (fun h => kf h ls H locs hl hR hS)
theorem pt_if_le (C : CX G I) {x : Int32} {off : Int} {tgt : Nat} (hd : decode I.1 pc = .ok (.ifCond .le off, 3)) (ht : (pc : Int) + off = (tgt : Int)) (kt : x ≤ 0 → PT G tgt L st M) (kf : ¬ x ≤ 0 → PT G (pc + 3) L st M) : PT G pc L (.int x :: st) M :=
  fun ls H locs hl hR hS => lv_if_le C.1 C.2.1 hd ht (fun h => kt h ls H locs hl hR hS) (fun h => kf h ls H locs hl hR hS)
theorem pt_icmp_eq (C : CX G I) {x y : Int32} {off : Int} {tgt : Nat} (hd : decode I.1 pc = .ok (.if_icmp .eq off, 3)) (ht : (pc : Int) + off = (tgt : Int)) (kt : x = y → PT G tgt L st M) (kf : ¬ x = y → PT G (pc + 3) L st M) : PT G pc L (.int y :: .int x :: st) M :=
  fun ls H locs hl hR hS => lv_icmp_eq C.1 C.2.1 hd ht (fun h => kt h ls H locs hl hR hS) (fun h => kf h ls H locs hl hR hS)
theorem pt_icmp_ne (C : CX G I) {x y : Int32} {off : Int} {tgt : Nat} (hd : decode I.1 pc = .ok (.if_icmp .ne off, 3)) (ht : (pc : Int) + off = (tgt : Int)) (kt : ¬ x = y → PT G tgt L st M) (kf : x = y → PT G (pc + 3) L st M) : PT G pc L (.int y :: .int x :: st) M :=
  fun ls H locs hl hR hS => lv_icmp_ne C.1 C.2.1 hd ht (fun h => kt h ls H locs hl hR hS) (fun h => kf h ls H locs hl hR hS)
theorem pt_icmp_lt (C : CX G I) {x y : Int32} {off : Int} {tgt : Nat} (hd : decode I.1 pc = .ok (.if_icmp .lt off, 3)) (ht : (pc : Int) + off = (tgt : Int)) (kt : x < y → PT G tgt L st M) (kf : ¬ x < y → PT G (pc + 3) L st M) : PT G pc L (.int y :: .int x :: st) M :=
  fun ls H locs hl hR hS => lv_icmp_lt C.1 C.2.1 hd ht (fun h => kt h ls H locs hl hR hS) (fun h => kf h ls H locs hl hR hS)
theorem pt_icmp_ge (C : CX G I) {x y : Int32} {off : Int} {tgt : Nat} (hd : decode I.1 pc = .ok (.if_icmp .ge off, 3)) (ht : (pc : Int) + off = (tgt : Int)) (kt : y ≤ x → PT G tgt L st M) (kf : ¬ y ≤ x → PT G (pc + 3) L st M) : PT G pc L (.int y :: .int x :: st) M :=
  fun ls H locs hl hR hS => lv_icmp_ge C.1 C.2.1 hd ht (fun h => kt h ls H locs hl hR hS) (fun h => kf h ls H locs hl hR hS)
theorem pt_icmp_gt (C : CX G I) {x y : Int32} {off : Int} {tgt : Nat} (hd : decode I.1 pc = .ok (.if_icmp .gt off, 3)) (ht : (pc : Int) + off = (tgt : Int)) (kt : y < x → PT G tgt L st M) (kf : ¬ y < x → PT G (pc + 3) L st M) : PT G pc L (.int y :: .int x :: st) M :=
  fun ls H locs hl hR hS => lv_icmp_gt C.1 C.2.1 hd ht (fun h => kt h ls H locs hl hR hS) (fun h => kf h ls H locs hl hR hS)
theorem pt_icmp_le (C : CX G I) {x y : Int32} {off : Int} {tgt : Nat} (hd : decode I.1 pc = .ok (.if_icmp .le off, 3)) (ht : (pc : Int) + off = (tgt : Int)) (kt : x ≤ y → PT G tgt L st M) (kf : ¬ x ≤ y → PT G (pc + 3) L st M) : PT G pc L (.int y :: .int x :: st) M :=
  fun ls H locs hl hR hS => lv_icmp_le C.1 C.2.1 hd ht (fun h => kt h ls H locs hl hR hS) (fun h => kf h ls H locs hl hR hS)
theorem pt_ifnull (C : CX G I) {r : Option Nat} {off : Int} {tgt : Nat} (hd : decode I.1 pc = .ok (.ifnull off, 3)) (ht : (pc : Int) + off = (tgt : Int)) (kt : r = none → PT G tgt L st M) (kf : ¬ r = none → PT G (pc + 3) L st M) : PT G pc L (va_rf r :: st) M := by
  intro ls H locs hl hR hS
  cases r with
  | none => exact lv_ifnullN C.1 C.2.1 hd ht (kt rfl ls H locs hl hR hS)
  | some a => exact lv_ifnull C.1 C.2.1 hd (kf (fun h => by cases h) ls H locs hl hR hS)
theorem pt_ifnonnull (C : CX G I) {r : Option Nat} {off : Int} {tgt : Nat} (hd : decode I.1 pc = .ok (.ifnonnull off, 3)) (ht : (pc : Int) + off = (tgt : Int)) (kt : ¬ r = none → PT G tgt L st M) (kf : r = none → PT G (pc + 3) L st M) : PT G pc L (va_rf r :: st) M := by
  intro ls H locs hl hR hS
  cases r with
  | none => exact lv_ifnonnullN C.1 C.2.1 hd (kf rfl ls H locs hl hR hS)
  | some a => exact lv_ifnonnull C.1 C.2.1 hd ht (kt (fun h => by cases h) ls H locs hl hR hS)
theorem pt_tableIn (C : CX G I) {dflt lo hi : Int} {offs : Array Int} {len : Nat} {x : Int32} {off : Int} {tgt : Nat} (hd : decode I.1 pc = .ok (.tableswitch dflt lo hi offs, len)) (h1 : ¬ x.toInt < lo) (h2 : ¬ hi < x.toInt) (ho : offs[(x.toInt - lo).toNat]? = some off) (ht : (pc : Int) + off = (tgt : Int)) (k : PT G tgt L st M) : PT G pc L (.int x :: st) M :=
  fun ls H locs hl hR hS => lv_tableIn C.1 C.2.1 hd h1 h2 ho ht (k ls H locs hl hR hS)
theorem pt_tableOut (C : CX G I) {dflt lo hi : Int} {offs : Array Int} {len : Nat} {x : Int32} {tgt : Nat} (hd : decode I.1 pc = .ok (.tableswitch dflt lo hi offs, len)) (h : x.toInt < lo ∨ hi < x.toInt) (ht : (pc : Int) + dflt = (tgt : Int)) (k : PT G tgt L st M) : PT G pc L (.int x :: st) M :=
  fun ls H locs hl hR hS => lv_tableOut C.1 C.2.1 hd h ht (k ls H locs hl hR hS)
theorem up_rf (X : GF) (r : Option Nat) : up X (va_rf r) = va_rf (r.map (adr X)) := by cases r <;> rfl
theorem pt_get (C : CX G I) {a ci k index N : Nat} {fs : List Value} {v : Value} {Cn : String} {T : u_T} (hM : M.2.2 a = .inr (ci, fs)) (hv : fs[k]? = some v) (hc : vwCl[ci]? = some (Cn, T, N)) (hk : k < N) (hin : ∀ w ∈ u_ws Cn T N, w ∈ TG) (hw : Cond.fieldLink I.2.1 index (T k).1 (T k).2.1 (T k).2.2.1 ∈ TG)
    (hd : decode I.1 pc = .ok (.getfield index, 3)) (kk : PT G (pc + 3) L (v :: st) M) : PT G pc L (.ref a :: st) M := by
  intro ls H locs hl hR hS
  obtain ⟨h5, hlt⟩ := hR.ltO hM hc
  exact va_get (D := (gX G).1) (ci := ci) (v := up (gX G) v) (C := Cn) (T := T) (N := N) C.1 C.2.1 C.2.2.2.2.1 hin C.2.2.1 hR.K (hR.P hM h5 hlt) 0 (fs := fs.map (up (gX G))) rfl hc k hk (C.2.2.2.2.1 _ hw) (fun _ h => h) (by rw [List.getElem?_map, hv]; rfl) hd (kk ls H locs hl hR hS)
end PTrows
end
section
/-! ROWS of the small machine that read and write the heap -/
section PTheap
variable {G : GT} {I : MI} {pc : Nat} {L : Lv} {st : List Value} {M : Mm}
theorem ve_i (X : GF) (cA : ClassId) (n : Nat) (f : Nat → Int32) : vp_cell cA (upA X (n, .inl f)) = arrV cA n (fun j => .int (f j)) := rfl
theorem ve_q (X : GF) (cA : ClassId) (n : Nat) (f : Nat → Option Nat) : vp_cell cA (upA X (n, .inr (.inr (.inr (.inr f))))) = arrV cA n (fun j => va_rf ((f j).map (adr X))) := rfl
theorem upC_o (X : GF) (ci : Nat) (fs : List Value) : upC X (.inr (ci, fs)) = .inr (ci, fs.map (up X)) := rfl
theorem put_at {X : GF} {a ci k N : Nat} {fs : List Value} {v : Value} {Cn : String} {T : u_T} {cell : Cell} {H1 : Heap} (hc : vwCl[ci]? = some (Cn, T, N)) (hk : k < N) (hl : k < fs.length)
    (hap : ∀ x y, x < N → y < N → x ≠ y → (X.1.2 ci) x ≠ (X.1.2 ci) y) (q2 : cell.cls = X.1.1 ci) (q3 : cell.vm = .none) (q4 : ∀ j, j < N → cell.slots[(X.1.2 ci) j]? = some (vp_V (fs.map (up X)) j)) (e1 : H1[adr X a]? = some (cell.setSlot ((X.1.2 ci) k) (up X v))) : va_at X.1 vwCl (adr X a, upC X (.inr (ci, fs.set k v))) H1 := by
  refine ⟨_, hc, t_OB.to (V := updV (vp_V (fs.map (up X))) k (up X v)) ⟨_, e1, q2, q3, t_set q4 hap hk _⟩ (fun j _ => ?_)⟩
  rw [vp_updV_set (by rw [List.length_map]; exact hl), List.map_set]
theorem pt_put (C : CX G I) {a ci k index N : Nat} {fs : List Value} {v : Value} {Cn : String} {T : u_T} {ty : FieldType} (hM : M.2.2 a = .inr (ci, fs)) (hl : k < fs.length) (hc : vwCl[ci]? = some (Cn, T, N)) (hk : k < N) (hin : ∀ w ∈ u_ws Cn T N, w ∈ TG)
    (ty0 : Nat → FieldType) (hty : ∀ k, k < N → parseFieldDescriptor (T k).2.2.1 = some (ty0 k)) (hnm : ∀ a, a < N → ∀ b, b < N → a ≠ b → (T a).2.1 ≠ (T b).2.1) (hw : Cond.fieldLink I.2.1 index (T k).1 (T k).2.1 (T k).2.2.1 ∈ TG) (hfin : (T k).2.2.2 = false)
    (hty1 : parseFieldDescriptor (T k).2.2.1 = some ty) (hn : ∀ X : GF, narrow ty (up X v) = up X v ∧ fits ty (up X v) = true)
    (hd : decode I.1 pc = .ok (.putfield index, 3)) (kk : PT G (pc + 3) L st (setC M a (.inr (ci, fs.set k v)))) : PT G pc L (v :: .ref a :: st) M := by
  intro ls H locs hl0 hR hS
  obtain ⟨h5, hlt⟩ := hR.ltO hM hc
  have hap := va_apart (own := I.2.1) C.2.2.2.2.1 hin ty0 hty hnm hR.K hc
  have hat := hR.2.1 a h5 hlt
  rw [hM] at hat
  obtain ⟨r, h1, cell, q1, q2, q3, q4⟩ := hat
  have hr : r = (Cn, T, N) := Option.some.inj (h1.symm.trans hc)
  subst hr
  obtain ⟨hSl, hfc, kC, hkC, hkind⟩ := hR.K.1 ci _ hc
  obtain ⟨cf, kf, fi, f, hi, hsl⟩ := hSl k hk
  have hlay := C.2.2.2.2.1 _ (hin _ (u_in_lay hk))
  unfold u_lay at hlay
  rw [if_neg (by rw [hfin]; decide)] at hlay
  have hst := (u_facts hfc hkC (u_lays C.2.2.2.2.1 hin hk) hi).1
  have h6 := u_store hfc hkC hkind hlay hi hty1 (hn (gX G)).1 (hn (gX G)).2
  refine W.putK C.1 C.2.1 (f := f) ⟨C.2.2.1, C.2.2.2.2.1 _ hw, ⟨_, _, _, hi⟩, hst⟩ (by rw [q2]; exact h6) q1 q3 (by rw [hsl]; exact k2_hasslot (q4 k hk)) rfl rfl hd fun H' e1 e2 e3 => ?_
  rw [hsl] at e1 ⊢
  exact kk ls H' _ hl0 (hR.set h5 hlt e2 (put_at hc hk hl hap q2 q3 q4 e1) e3) (hS.put5 h5 e2 e3)
theorem pt_putF (C : CX G I) {a ci k index N : Nat} {fs : List Value} {v : Value} {Cn : String} {T : u_T} {ty : FieldType} (hM : M.2.2 a = .inr (ci, fs)) (hl : k < fs.length) (hc : vwCl[ci]? = some (Cn, T, N)) (hk : k < N) (hin : ∀ w ∈ u_ws Cn T N, w ∈ TG)
    (ty0 : Nat → FieldType) (hty : ∀ k, k < N → parseFieldDescriptor (T k).2.2.1 = some (ty0 k)) (hnm : ∀ a, a < N → ∀ b, b < N → a ≠ b → (T a).2.1 ≠ (T b).2.1) (hw : Cond.fieldLink I.2.1 index (T k).1 (T k).2.1 (T k).2.2.1 ∈ TG) (hfin : (T k).2.2.2 = true) (hin2 : I.2.2.2.2.2.1 = "<init>") (hdecl : (T k).1 = I.2.1)
    (hty1 : parseFieldDescriptor (T k).2.2.1 = some ty) (hn : ∀ X : GF, narrow ty (up X v) = up X v ∧ fits ty (up X v) = true)
    (hd : decode I.1 pc = .ok (.putfield index, 3)) (kk : PT G (pc + 3) L st (setC M a (.inr (ci, fs.set k v)))) : PT G pc L (v :: .ref a :: st) M := by
  intro ls H locs hl0 hR hS
  obtain ⟨h5, hlt⟩ := hR.ltO hM hc
  have hap := va_apart (own := I.2.1) C.2.2.2.2.1 hin ty0 hty hnm hR.K hc
  have hat := hR.2.1 a h5 hlt
  rw [hM] at hat
  obtain ⟨r, h1, cell, q1, q2, q3, q4⟩ := hat
  have hr : r = (Cn, T, N) := Option.some.inj (h1.symm.trans hc)
  subst hr
  obtain ⟨hSl, hfc, kC, hkC, hkind⟩ := hR.K.1 ci _ hc
  obtain ⟨cf, kf, fi, f, hi, hsl⟩ := hSl k hk
  have hlay := C.2.2.2.2.1 _ (hin _ (u_in_lay hk))
  unfold u_lay at hlay
  rw [if_pos hfin] at hlay
  have hst := (u_facts hfc hkC (u_lays C.2.2.2.2.1 hin hk) hi).1
  have hcf : (gm G).cls = cf := by
    obtain ⟨_, _, c', _, _, _, -, -, hf', -, -, -, hown2, -⟩ := Cond.laysFinal_spec hlay
    have e1 : c' = cf := by have := hi.symm.trans hf'; simp at this; exact this.1.symm
    rw [hdecl] at hown2
    rw [← e1]; exact Option.some.inj (C.2.2.1.symm.trans hown2)
  have h6 := u_fits hfc hkC hkind (Or.inr hlay) hi hty1 (hn (gX G)).1 (hn (gX G)).2
  refine W.putFinK C.1 C.2.1 C.2.2.1 (C.2.2.2.2.1 _ hw) hi hst hcf (C.2.2.2.2.2.2.2.1.trans hin2) (by rw [q2]; exact h6) q1 q3 (by rw [hsl]; exact k2_hasslot (q4 k hk)) rfl rfl hd fun H' e1 e2 e3 => ?_
  rw [hsl] at e1 ⊢
  exact kk ls H' _ hl0 (hR.set h5 hlt e2 (put_at hc hk hl hap q2 q3 q4 e1) e3) (hS.put5 h5 e2 e3)
theorem pt_gets (C : CX G I) {i index : Nat} {Cn nm : String} (hq : (Cn, nm, i) ∈ STN) (hw : Cond.fieldLink I.2.1 index Cn nm "[I" ∈ TG) (hd : decode I.1 pc = .ok (.getstatic index, 3)) (kk : PT G (pc + 3) L (.ref i :: st) M) : PT G pc L st M := by
  intro ls H locs hl hR hS
  obtain ⟨cf, kf, fi, f, a, cell, h1, h2, h3, h4, h5, h6, h7, h8⟩ := hR.2.2.2.2.2.1 _ hq
  exact W.gets C.1 C.2.1 C.2.2.1 (C.2.2.2.2.1 _ hw) h1 h2 h3 h4 h5 (fun e => by rw [e] at h6; cases h6) h7 rfl hd (kk ls H locs hl hR hS)
theorem pt_iald (C : CX G I) {a n : Nat} {f : Nat → Int32} {i : Int32} (hM : M.2.2 a = .inl (0, n, .inl f)) (hin : vp_in i n) (hd : decode I.1 pc = .ok (.iaload, 1)) (kk : PT G (pc + 1) L (.int (f i.toNatClampNeg) :: st) M) : PT G pc L (.int i :: .ref a :: st) M := by
  intro ls H locs hl hR hS
  rcases Nat.lt_or_ge a 5 with q | q
  · obtain ⟨n', f', e1, e2, cell, c1, c2, c3, c4, c5, c6, c7⟩ := hR.2.2.2.2.1 a q
    rw [hM] at e1
    cases e1
    have hlt : i.toNatClampNeg < n := Nat.not_le.mp fun z => hin (Or.inr z)
    exact W.iald C.1 C.2.1 c1 c2 c3 (fun z => z.elim (fun z => hin (Or.inl z)) (fun z => by omega)) (c6 _ hlt) rfl rfl hd (kk ls H locs hl hR hS)
  · exact va_iald C.1 C.2.1 hR.K (hR.P hM q (hR.ltA hM)) 0 0 rfl (TYS_at (gX G) (t := 0) (by decide)) hin hd (kk ls H locs hl hR hS)
theorem pt_zald (C : CX G I) {a n : Nat} {f : Nat → Int32} {i : Int32} (hM : M.2.2 a = .inl (1, n, .inl f)) (hin : vp_in i n) (hd : decode I.1 pc = .ok (.baload, 1)) (kk : PT G (pc + 1) L (.int (f i.toNatClampNeg) :: st) M) : PT G pc L (.int i :: .ref a :: st) M := by
  intro ls H locs hl hR hS
  rcases Nat.lt_or_ge a 5 with q | q
  · obtain ⟨n', f', e1, -⟩ := hR.2.2.2.2.1 a q
    rw [hM] at e1
    cases e1
  · exact va_zald C.1 C.2.1 hR.K (hR.P hM q (hR.ltA hM)) 0 1 rfl (TYS_at (gX G) (t := 1) (by decide)) hin hd (kk ls H locs hl hR hS)
theorem pt_lald (C : CX G I) {a n : Nat} {f : Nat → Int64} {i : Int32} (hM : M.2.2 a = .inl (2, n, .inr (.inl f))) (hin : vp_in i n) (hd : decode I.1 pc = .ok (.laload, 1)) (kk : PT G (pc + 1) L (.long (f i.toNatClampNeg) :: st) M) : PT G pc L (.int i :: .ref a :: st) M := by
  intro ls H locs hl hR hS
  rcases Nat.lt_or_ge a 5 with q | q
  · obtain ⟨n', f', e1, -⟩ := hR.2.2.2.2.1 a q
    rw [hM] at e1
    cases e1
  · exact va_lald C.1 C.2.1 hR.K (hR.P hM q (hR.ltA hM)) 0 2 rfl (TYS_at (gX G) (t := 2) (by decide)) hin hd (kk ls H locs hl hR hS)
theorem pt_aald (C : CX G I) {a n t : Nat} {f : Nat → Option Nat} {i : Int32} (hM : M.2.2 a = .inl (t, n, .inr (.inr (.inr (.inr f))))) (ht : 3 ≤ t ∧ t ≤ 5) (hin : vp_in i n) (hd : decode I.1 pc = .ok (.aaload, 1)) (kk : PT G (pc + 1) L (va_rf (f i.toNatClampNeg) :: st) M) : PT G pc L (.int i :: .ref a :: st) M := by
  intro ls H locs hl hR hS
  rcases Nat.lt_or_ge a 5 with q | q
  · obtain ⟨n', f', e1, -⟩ := hR.2.2.2.2.1 a q
    rw [hM] at e1
    cases e1
  · have k1 := kk ls H locs hl hR hS
    rw [List.map_cons, up_rf] at k1
    obtain ⟨Cn, hCn⟩ : ∃ Cn, atT t = .object Cn := by
      rcases (show t = 3 ∨ t = 4 ∨ t = 5 by omega) with rfl | rfl | rfl <;> exact ⟨_, rfl⟩
    have ht1 := TYS_at (gX G) (t := t) ht.2
    rw [hCn] at ht1
    exact va_aldq C.1 C.2.1 hR.K (hR.P hM q (hR.ltA hM)) 0 t rfl ht1 hin hd k1
theorem pt_alen (C : CX G I) {a n t : Nat} {x : vp_A} {v : Int32} (hM : M.2.2 a = .inl (t, x)) (ht : t ≤ 5) (hx : x.1 = n) (hv : Int32.ofNat n = v) (hd : decode I.1 pc = .ok (.arraylength, 1)) (kk : PT G (pc + 1) L (.int v :: st) M) : PT G pc L (.ref a :: st) M := by
  intro ls H locs hl hR hS
  rcases Nat.lt_or_ge a 5 with q | q
  · obtain ⟨n', f', e1, e2, cell, c1, c2, c3, c4, c5, c6, c7⟩ := hR.2.2.2.2.1 a q
    rw [hM] at e1
    cases e1
    exact W.alen C.1 C.2.1 c1 c2 (by rw [c5, ← hv, ← hx]) rfl rfl hd (kk ls H locs hl hR hS)
  · refine va_alen C.1 C.2.1 hR.K (hR.P hM q (hR.ltA hM)) 0 t (x := upA (gX G) x) rfl (TYS_at (gX G) ht) (v := v) ?_ hd (kk ls H locs hl hR hS)
    show Int32.ofNat x.1 = v
    rw [hx]
    exact hv
theorem pt_iast (C : CX G I) {a n : Nat} {f : Nat → Int32} {i x : Int32} (hM : M.2.2 a = .inl (0, n, .inl f)) (h5 : 5 ≤ a) (hin : vp_in i n) (hd : decode I.1 pc = .ok (.iastore, 1)) (kk : PT G (pc + 1) L st (setC M a (.inl (0, n, .inl (upd f i.toNatClampNeg x))))) : PT G pc L (.int x :: .int i :: .ref a :: st) M := by
  intro ls H locs hl hR hS
  have hlt := hR.ltA hM
  have hat := hR.2.1 a h5 hlt
  rw [hM] at hat
  refine W.iast C.1 C.2.1 hat ((hR.K.2 0 _ (TYS_at (gX G) (t := 0) (by decide))).1 n (fun j => .int (f j))) (fun q => by cases q) (by show ¬ (i < 0 ∨ (arrV _ _ _).slots.size ≤ _); rw [arrV_size]; exact hin) rfl rfl hd fun H1 e z oq => ?_
  refine kk ls H1 _ hl (hR.set h5 hlt z ?_ oq) (hS.put5 h5 z oq)
  show H1[adr (gX G) a]? = some (vp_cell _ (upA (gX G) _))
  rw [e]
  show some ((vp_cell _ (upA (gX G) _)).setSlot _ _) = some (vp_cell _ (upA (gX G) _))
  rw [ve_i, ve_i, arrV_store]
  congr 2
  funext q
  by_cases hq : q = i.toNatClampNeg
  · subst hq
    simp [updV, upd]
  · simp [updV, upd, hq]
theorem pt_zast (C : CX G I) {a n : Nat} {f : Nat → Int32} {i x : Int32} (hM : M.2.2 a = .inl (1, n, .inl f)) (h5 : 5 ≤ a) (hin : vp_in i n) (hx : x = 0 ∨ x = 1) (hd : decode I.1 pc = .ok (.bastore, 1)) (kk : PT G (pc + 1) L st (setC M a (.inl (1, n, .inl (upd f i.toNatClampNeg x))))) : PT G pc L (.int x :: .int i :: .ref a :: st) M := by
  intro ls H locs hl hR hS
  have hlt := hR.ltA hM
  have hat := hR.2.1 a h5 hlt
  rw [hM] at hat
  refine W.zast C.1 C.2.1 hat ((hR.K.2 1 _ (TYS_at (gX G) (t := 1) (by decide))).1 n (fun j => .int (f j))) (fun q => by cases q) (by show ¬ (i < 0 ∨ (arrV _ _ _).slots.size ≤ _); rw [arrV_size]; exact hin) rfl rfl hd fun H1 e z oq => ?_
  refine kk ls H1 _ hl (hR.set h5 hlt z ?_ oq) (hS.put5 h5 z oq)
  have hnb : narrow .boolean (.int x) = .int x := by rcases hx with rfl | rfl <;> rfl
  rw [hnb] at e
  show H1[adr (gX G) a]? = some (vp_cell _ (upA (gX G) _))
  rw [e]
  show some ((vp_cell _ (upA (gX G) _)).setSlot _ _) = some (vp_cell _ (upA (gX G) _))
  rw [ve_i, ve_i, arrV_store]
  congr 2
  funext q
  by_cases hq : q = i.toNatClampNeg
  · subst hq
    simp [updV, upd]
  · simp [updV, upd, hq]
/-- the class whose references an array type of a tag holds: its number in vwCl -/
def atC (t : Nat) : Nat := match t with
  | 3 => 9
  | 4 => 4
  | _ => 7
theorem atC_ok {t : Nat} (h : 3 ≤ t ∧ t ≤ 5) : ∃ r : vw_C, vwCl[atC t]? = some r ∧ atT t = .object r.1 := by
  rcases (show t = 3 ∨ t = 4 ∨ t = 5 by omega) with rfl | rfl | rfl <;> exact ⟨_, rfl, rfl⟩
theorem pt_aast (C : CX G I) {a n t : Nat} {f : Nat → Option Nat} {i : Int32} {r : Option Nat} (hM : M.2.2 a = .inl (t, n, .inr (.inr (.inr (.inr f))))) (ht : 3 ≤ t ∧ t ≤ 5) (h5 : 5 ≤ a) (hin : vp_in i n) (hr : ∀ b, r = some b → ∃ fs, M.2.2 b = .inr (atC t, fs)) (hd : decode I.1 pc = .ok (.aastore, 1)) (kk : PT G (pc + 1) L st (setC M a (.inl (t, n, .inr (.inr (.inr (.inr (va_up f i.toNatClampNeg r)))))))) : PT G pc L (va_rf r :: .int i :: .ref a :: st) M := by
  intro ls H locs hl hR hS
  have hlt := hR.ltA hM
  have hat := hR.2.1 a h5 hlt
  rw [hM] at hat
  have hin' := hin
  obtain ⟨rc, hrc, hrt⟩ := atC_ok ht
  have ht1 := hR.K.2 t _ (TYS_at (gX G) ht.2)
  rw [hrt] at ht1
  have fin : ∀ H1 : Heap, H1[adr (gX G) a]? = some ((vp_cell ((gX G).2.1 t) (upA (gX G) (n, .inr (.inr (.inr (.inr f)))))).setSlot i.toNatClampNeg (up (gX G) (va_rf r))) → va_at (gX G).1 vwCl (adr (gX G) a, upC (gX G) (.inl (t, n, .inr (.inr (.inr (.inr (va_up f i.toNatClampNeg r))))))) H1 := by
    intro H1 e
    show H1[adr (gX G) a]? = some (vp_cell _ (upA (gX G) _))
    rw [e, ve_q, ve_q, arrV_store]
    congr 2
    funext q
    by_cases hq : q = i.toNatClampNeg
    · subst hq
      simp [updV, va_up, up_rf]
    · simp [updV, va_up, hq]
  cases r with
  | none =>
    refine va_WaastN (C := rc.1) C.1 C.2.1 hat (ht1.1 n (fun j => va_rf ((f j).map (adr (gX G))))) (fun h => by cases h) (by show ¬ (i < 0 ∨ (arrV _ _ _).slots.size ≤ _); rw [arrV_size]; exact hin) rfl rfl hd fun H1 e z oq => ?_
    exact kk ls H1 _ hl (hR.set h5 hlt z (fin H1 e) oq) (hS.put5 h5 z oq)
  | some b =>
    obtain ⟨fs, hb⟩ := hr b rfl
    obtain ⟨hb5, hbl⟩ := hR.ltO hb hrc
    have hbt := hR.2.1 b hb5 hbl
    rw [hb] at hbt
    obtain ⟨r', hr', cellV, g1, g2, g3, -⟩ := hbt
    have hcls := (hR.K.1 (atC t) rc hrc).2
    obtain ⟨kA, comp, k1, k2, k3, -⟩ := ht1.2
    have hcomp : comp = (gX G).1.1 (atC t) := Option.some.inj (k3.symm.trans hcls.1)
    subst hcomp
    obtain ⟨kC, hkC, -⟩ := hcls.2
    have hlt2 : i.toNatClampNeg < n := Nat.not_le.mp fun q => hin (Or.inr q)
    have h0 : ¬ i < 0 := fun q => hin (Or.inl q)
    refine W.aast C.1 C.2.1 hat (fun q h => by cases h) (fun h => by cases h) k1 k2 rfl hkC ⟨h0, by show _ < (arrV _ _ _).slots.size; rw [arrV_size]; exact hlt2⟩ g1 (fun q h => by rw [g3] at h; cases h) (by rw [g2]; exact hkC) (by rw [g2]; exact va_assign hcls) rfl rfl hd fun H1 e z oq => ?_
    exact kk ls H1 _ hl (hR.set h5 hlt z (fin H1 e) oq) (hS.put5 h5 z oq)
theorem pt_acmp (C : CX G I) {r q : Option Nat} {off : Int} {tgt : Nat} (hi : ∀ X : GF, ∀ a b, r = some a → q = some b → adr X a = adr X b → a = b) (hd : decode I.1 pc = .ok (.if_acmp .ne off, 3)) (ht : (pc : Int) + off = (tgt : Int)) (kt : ¬ r = q → PT G tgt L st M) (kf : r = q → PT G (pc + 3) L st M) : PT G pc L (va_rf q :: va_rf r :: st) M := by
  intro ls H locs hl hR hS
  rw [List.map_cons, List.map_cons, up_rf, up_rf]
  refine lv_acmp_ne C.1 C.2.1 hd ht (fun h => kt (fun e => h (by rw [e])) ls H locs hl hR hS) (fun h => kf ?_ ls H locs hl hR hS)
  cases r with
  | none =>
    cases q with
    | none => rfl
    | some b => cases h
  | some a =>
    cases q with
    | none => cases h
    | some b => rw [hi (gX G) a b rfl rfl (Option.some.inj h)]
theorem adr_inj (X : GF) {a b : Nat} (ha : 5 ≤ a) (hb : 5 ≤ b) (h : adr X a = adr X b) : a = b := by
  rw [adr_hi X ha, adr_hi X hb] at h
  omega
end PTheap
end
section
/-! ROWS of the small machine that make cells, call and return -/
section PTnew
variable {G : GT} {I : MI} {pc : Nat} {L : Lv} {st : List Value} {M : Mm}
theorem pt_new (C : CX G I) {ci index N : Nat} {fs : List Value} {Cn : String} {T : u_T} (hc : vwCl[ci]? = some (Cn, T, N)) (hin : ∀ w ∈ u_ws Cn T N, w ∈ TG) (ty0 : Nat → FieldType) (hty : ∀ k, k < N → parseFieldDescriptor (T k).2.2.1 = some (ty0 k))
    (hfs : ∀ j, j < N → defaultValue (ty0 j) = vp_V fs j) (hup : ∀ X : GF, fs.map (up X) = fs) (w1 : Cond.classLink I.2.1 index Cn ∈ TG) (w2 : Cond.instantiable Cn N ∈ TG) (w3 : Cond.initialized Cn ∈ TG) (hlow : gn G ≤ M.1 ∧ gz G ≤ M.2.1) (hroom : M.1 + 1 ≤ gn G + (gR G).cells ∧ M.2.1 + N ≤ gz G + (gR G).slots)
    (hd : decode I.1 pc = .ok (.new index, 3)) (kk : PT G (pc + 3) L (.ref M.1 :: st) (newC M N (.inr (ci, fs)))) : PT G pc L st M := by
  intro ls H locs hl hR hS
  have hKn := hR.K.1 ci _ hc
  refine W.newcK C.1 C.2.1 C.2.2.1 (C.2.2.2.2.1 _ w1) (C.2.2.2.2.1 _ w2) (C.2.2.2.2.1 _ w3) rfl hd (by omega) (by omega) hKn.2.1 rfl fun H1 kC hkC e1 z1 o1 => ?_
  have hb : va_at (gX G).1 vwCl (H.size, upC (gX G) (.inr (ci, fs))) H1 := by
    rw [upC_o, hup]
    exact ⟨_, hc, (u_born ty0 C.2.2.2.2.1 hin hKn hkC e1 hty).to hfs⟩
  have k1 := kk ls H1 locs hl (hR.new N z1 hb o1) (hS.new5 z1 o1)
  have e2 : H.size = adr (gX G) M.1 := by rw [adr_hi _ hR.1.1]; exact hR.1.2
  rw [e2]
  refine W.cs (cells' := (newC M N (.inr (ci, fs))).1 - gn G) (slots' := (newC M N (.inr (ci, fs))).2.1 - gz G) ?_ ?_ k1
  · show M.1 - gn G + 1 = M.1 + 1 - gn G
    omega
  · show M.2.1 - gz G + N = M.2.1 + N - gz G
    omega
theorem pt_newa (C : CX G I) {t : Nat} {atype : ArrayType} {n : Int32} {N : Nat} {x : vp_A} (ht : t ≤ 2) (hat : newarray.typeOf atype = atT t) (w1 : Cond.arrayClass (atT t) ∈ TG) (hn : ¬ n < 0) (hN : n.toNatClampNeg = N) (hbig : N ≤ 100000)
    (hx : ∀ (X : GF) (cA : ClassId), vp_cell cA (upA X x) = arrV cA N (fun _ => defaultValue (atT t))) (hlow : gn G ≤ M.1 ∧ gz G ≤ M.2.1) (hroom : M.1 + 1 ≤ gn G + (gR G).cells ∧ M.2.1 + N ≤ gz G + (gR G).slots)
    (hd : decode I.1 pc = .ok (.newarray atype, 2)) (kk : PT G (pc + 2) L (.ref M.1 :: st) (newC M N (.inl (t, x)))) : PT G pc L (.int n :: st) M := by
  intro ls H locs hl hR hS
  have hby : N * componentBytes (newarray.typeOf atype) ≤ 536870912 := by
    rw [hat]
    have : componentBytes (atT t) ≤ 8 := by rcases (show t = 0 ∨ t = 1 ∨ t = 2 by omega) with rfl | rfl | rfl <;> decide
    calc N * componentBytes (atT t) ≤ 100000 * 8 := Nat.mul_le_mul hbig this
      _ ≤ 536870912 := by decide
  refine va_newaK C.1 C.2.1 (by rw [hat]; exact C.2.2.2.2.1 _ w1) rfl hd rfl hn hN hby (by omega) (by omega) rfl fun H1 cA e1 z1 o1 hAr hNm => ?_
  rw [hat] at e1 hNm
  have hk := (hR.K.2 t _ (TYS_at (gX G) (show t ≤ 5 by omega))).2
  have hcA : cA = (gX G).2.1 t := by
    rcases (show t = 0 ∨ t = 1 ∨ t = 2 by omega) with rfl | rfl | rfl <;> exact Option.some.inj (hNm.symm.trans hk)
  have hb : va_at (gX G).1 vwCl (H.size, upC (gX G) (.inl (t, x))) H1 := by
    show H1[H.size]? = some (vp_cell ((gX G).2.1 t) (upA (gX G) x))
    rw [hx, e1, hcA]
  have k1 := kk ls H1 locs hl (hR.new N z1 hb o1) (hS.new5 z1 o1)
  have e2 : H.size = adr (gX G) M.1 := by rw [adr_hi _ hR.1.1]; exact hR.1.2
  rw [e2]
  refine W.cs (cells' := (newC M N (.inl (t, x))).1 - gn G) (slots' := (newC M N (.inl (t, x))).2.1 - gz G) ?_ ?_ k1
  · show M.1 - gn G + 1 = M.1 + 1 - gn G
    omega
  · show M.2.1 - gz G + N = M.2.1 + N - gz G
    omega
theorem pt_anew (C : CX G I) {t index : Nat} {Cn : String} {n : Int32} {N : Nat} (ht : 3 ≤ t ∧ t ≤ 5) (hat : atT t = .object Cn) (w1 : Cond.classLink I.2.1 index Cn ∈ TG) (w2 : Cond.arrayOver (.object Cn) ∈ TG) (hn : ¬ n < 0) (hN : n.toNatClampNeg = N) (hbig : N ≤ 100000)
    (hlow : gn G ≤ M.1 ∧ gz G ≤ M.2.1) (hroom : M.1 + 1 ≤ gn G + (gR G).cells ∧ M.2.1 + N ≤ gz G + (gR G).slots)
    (hd : decode I.1 pc = .ok (.anewarray index, 3)) (kk : PT G (pc + 3) L (.ref M.1 :: st) (newC M N (.inl (t, N, .inr (.inr (.inr (.inr (fun _ => none)))))))) : PT G pc L (.int n :: st) M := by
  intro ls H locs hl hR hS
  subst hN
  refine W.anew C.1 C.2.1 C.2.2.1 (C.2.2.2.2.1 _ w1) (C.2.2.2.2.1 _ w2) rfl hd rfl hn (by omega) (by omega) (by omega) fun cA kA comp f1 f2 f3 f4 => ?_
  generalize hH1 : H.push ({ cls := cA, slots := Array.replicate n.toNatClampNeg .null, vm := .none } : Cell) = H1
  have z1 : H1.size = H.size + 1 := by rw [← hH1, Array.size_push]
  have e1 : H1[H.size]? = some (arrV cA n.toNatClampNeg (fun _ => .null)) := by rw [← hH1, Array.getElem?_push_size, ← arrV_new]
  have o1 : ∀ q : Nat, q < H.size → H1[q]? = H[q]? := fun q hq => by rw [← hH1, Array.getElem?_push, if_neg (Nat.ne_of_lt hq)]
  have hk := hR.K.2 t _ (TYS_at (gX G) ht.2)
  rw [hat] at hk
  obtain ⟨kA', comp', k1, k2, k3, k4⟩ := hk.2
  have hcA : cA = (gX G).2.1 t := Option.some.inj (f1.symm.trans k4)
  have hb : va_at (gX G).1 vwCl (H.size, upC (gX G) (.inl (t, n.toNatClampNeg, .inr (.inr (.inr (.inr (fun _ => none))))))) H1 := by
    show H1[H.size]? = some (vp_cell ((gX G).2.1 t) (upA (gX G) _))
    rw [ve_q, e1, hcA]
    rfl
  have k1 := kk ls H1 locs hl (hR.new _ z1 hb o1) (hS.new5 z1 o1)
  have e2 : H.size = adr (gX G) M.1 := by rw [adr_hi _ hR.1.1]; exact hR.1.2
  rw [e2]
  refine W.cs (cells' := (newC M n.toNatClampNeg (.inl (t, n.toNatClampNeg, .inr (.inr (.inr (.inr (fun _ => none))))))).1 - gn G) (slots' := (newC M n.toNatClampNeg (.inl (t, n.toNatClampNeg, .inr (.inr (.inr (.inr (fun _ => none))))))).2.1 - gz G) ?_ ?_ k1
  · show M.1 - gn G + 1 = M.1 + 1 - gn G
    omega
  · show M.2.1 - gz G + n.toNatClampNeg = M.2.1 + n.toNatClampNeg - gz G
    omega
theorem NWL_in {w : Cond} (i : Nat) (h : lw_tbl[i]? = some w) (g : isNW w = true) : w ∈ NWL := List.mem_filter.mpr ⟨List.mem_of_getElem? h, g⟩
/-- clone of an int array -/
theorem pt_clone (C : CX G I) {a n index : Nat} {f : Nat → Int32} (hM : M.2.2 a = .inl (0, n, .inl f)) (h5 : 5 ≤ a) (w1 : Cond.methodLink I.2.1 index ⟨"[I", "clone", "()Ljava/lang/Object;"⟩ ∈ TG) (w2 : Cond.sameMethod "[I" "java/lang/Object" "clone" "()Ljava/lang/Object;" ∈ TG)
    (w3 : Cond.native ⟨"java/lang/Object", "clone", "()Ljava/lang/Object;"⟩ ∈ TG) (w4 : Cond.instanceMethod ⟨"java/lang/Object", "clone", "()Ljava/lang/Object;"⟩ ∈ TG) (w5 : Cond.selects "[I" ⟨"[I", "clone", "()Ljava/lang/Object;"⟩ ⟨"java/lang/Object", "clone", "()Ljava/lang/Object;"⟩ ∈ TG) (w6 : Cond.castable "[I" "java/lang/Cloneable" ∈ NWL)
    (hfr : 1 ≤ I.2.2.2.1) (hlo : csum st + 14 ≤ I.2.2.2.2.1) (hlow : gn G ≤ M.1 ∧ gz G ≤ M.2.1) (hroom : M.1 + 1 ≤ gn G + (gR G).cells ∧ M.2.1 + n ≤ gz G + (gR G).slots)
    (hd : decode I.1 pc = .ok (.invokevirtual index, 3)) (kk : PT G (pc + 3) L (.ref M.1 :: st) (newC M n (.inl (0, n, .inl f)))) : PT G pc L (.ref a :: st) M := by
  intro ls H locs hl hR hS
  have hlt := hR.ltA hM
  have hP := hR.P hM h5 hlt
  have hk0 := hR.K.2 0 _ (TYS_at (gX G) (t := 0) (by decide))
  have hnm : (gs G).vm.findClass "[I" = some ((gX G).2.1 0) := hk0.2
  obtain ⟨c0, t0', f1, f2, f3⟩ := Cond.castable_spec (va_Nw.use (A := ga G) rfl (hR.W _ w6))
  cases hnm.symm.trans f1
  intro T hT X
  have hcellT : T.heap[adr (gX G) a]? = some (vp_cell ((gX G).2.1 0) (n, .inl f)) := by rw [hT]; exact hP 0 _ rfl
  have hsz : (vp_cell ((gX G).2.1 0) (n, .inl f)).slots.size = n := arrV_size _ _ _
  obtain ⟨-, kA, hkA, comp, hkind⟩ := State.isArrayOf_alike X.warmed.alike (hk0.1 0 (fun _ => .null))
  obtain ⟨-, kS, hkS, compS, hkindS⟩ := hk0.1 0 (fun _ => .null)
  obtain ⟨vm', X', st'⟩ := X.cloneArray C.1 C.2.2.1 (C.2.2.2.2.1 _ w1) (C.2.2.2.2.1 _ w2) (C.2.2.2.2.1 _ w3) (C.2.2.2.2.1 _ w4) (C.2.2.2.2.1 _ w5) (a := adr (gX G) a) (cell := vp_cell ((gX G).2.1 0) (n, .inl f)) hcellT (fun k h => by cases h) (fun h => by cases h) hnm f2 f3
    (fun i v hv => by
      have hk' : T.vm.classes[(gX G).2.1 0]? = some kA := hkA
      have hcl0 : (vp_cell ((gX G).2.1 0) (n, .inl f)).cls = (gX G).2.1 0 := rfl
      rw [hcl0]
      have hlt2 := (Array.getElem?_eq_some_iff.mp hv).1
      rw [hsz] at hlt2
      have : (vp_cell ((gX G).2.1 0) (n, .inl f)).slots[i]? = some (.int (f i)) := arrV_read _ _ hlt2
      rw [this] at hv
      cases hv
      simp [State.fitsSlot, State.slotType?, hk', hkind, atT, fits])
    (g := F0 (gm G) pc ls (.ref (adr (gX G) a) :: st.map (up (gX G)))) rfl hl.1 rfl (by rw [C.2.1]; exact hd) (by rw [C.2.2.2.2.2.1]; exact hfr) (by show 2 * 0 + ((st.map (up (gX G))).map fun v => v.category).sum + 14 ≤ _; rw [csum_up, C.2.2.2.2.2.2.1]; omega) (by omega) (by rw [hsz]; omega) (hloader := Vm.clonesLoader_of_array hkS hkindS)
  rw [hsz] at X'
  generalize hH1 : H.push (vp_cell ((gX G).2.1 0) (n, .inl f)) = H1
  have z1 : H1.size = H.size + 1 := by rw [← hH1, Array.size_push]
  have e1 : H1[H.size]? = some (vp_cell ((gX G).2.1 0) (n, .inl f)) := by rw [← hH1, Array.getElem?_push_size]
  have o1 : ∀ q : Nat, q < H.size → H1[q]? = H[q]? := fun q hq => by rw [← hH1, Array.getElem?_push, if_neg (Nat.ne_of_lt hq)]
  have hb : va_at (gX G).1 vwCl (H.size, upC (gX G) (.inl (0, n, .inl f))) H1 := e1
  have k1 := kk ls H1 locs hl (hR.new n z1 hb o1) (hS.new5 z1 o1)
  have e2 : adr (gX G) M.1 = H.size := by rw [adr_hi _ hR.1.1]; exact hR.1.2.symm
  have k2 : W (gp G) (gl G) (ge G) (gR G) (gs G) (gm G) (ga G) (gb G) (gh G) (gc G) H1 locs (M.1 - gn G + 1) (M.2.1 - gz G + n) (gQ G) (F0 (gm G) (pc + 3) ls (.ref H.size :: st.map (up (gX G)))) := by
    refine W.cs (cells' := (newC M n (.inl (0, n, .inl f))).1 - gn G) (slots' := (newC M n (.inl (0, n, .inl f))).2.1 - gz G) ?_ ?_ ?_
    · show M.1 - gn G + 1 = M.1 + 1 - gn G
      omega
    · show M.2.1 - gz G + n = M.2.1 + n - gz G
      omega
    · rw [← e2]
      exact k1
  obtain ⟨t, b1, b2⟩ := k2 ((T.setVm vm').pushCell (vp_cell ((gX G).2.1 0) (n, .inl f))) (by rw [← hH1, ← hT]; rfl) X'
  refine ⟨t, st' t ?_, b2⟩
  rw [hT]
  exact b1
theorem pt_castA (C : CX G I) {a n index : Nat} {f : Nat → Int32} (hM : M.2.2 a = .inl (0, n, .inl f)) (h5 : 5 ≤ a) (w1 : Cond.classLink I.2.1 index "[I" ∈ TG) (hd : decode I.1 pc = .ok (.checkcast index, 3)) (kk : PT G (pc + 3) L (.ref a :: st) M) : PT G pc L (.ref a :: st) M := by
  intro ls H locs hl hR hS
  have hk0 := (hR.K.2 0 _ (TYS_at (gX G) (t := 0) (by decide))).2
  exact va_castA C.1 C.2.1 C.2.2.1 (C.2.2.2.2.1 _ w1) (hR.P hM h5 (hR.ltA hM)) 0 rfl hk0 hd (kk ls H locs hl hR hS)
theorem pt_objInit (C : CX G I) {a index : Nat} (w1 : Cond.methodLink I.2.1 index Lib.objectInit ∈ TG) (w2 : Cond.instanceMethod Lib.objectInit ∈ TG) (w3 : Cond.code Lib.objectInit ⟨#[0xb1]⟩ 1 none ∈ TG) (hfr : 1 ≤ I.2.2.2.1) (hlo : csum st + 12 ≤ I.2.2.2.2.1)
    (hd : decode I.1 pc = .ok (.invokespecial index, 3)) (kk : PT G (pc + 3) L st M) : PT G pc L (.ref a :: st) M := by
  intro ls H locs hl hR hS
  exact W.objInit C.1 C.2.1 C.2.2.1 (C.2.2.2.2.1 _ w1) (C.2.2.2.2.1 _ w2) (C.2.2.2.2.1 _ w3) rfl hl.1 rfl hd (by rw [C.2.2.2.2.2.1]; exact hfr) (by show 2 * 0 + ((st.map (up (gX G))).map fun v => v.category).sum + 12 ≤ _; rw [csum_up, C.2.2.2.2.2.2.1]; omega) (kk ls H locs hl hR hS)
theorem pt_max (C : CX G I) {index : Nat} {x y : Int32} (w1 : Cond.methodLink I.2.1 index Lib.Math.max.name ∈ TG) (w2 : Cond.static Lib.Math.max.name ∈ TG) (w3 : Cond.initialized "java/lang/Math" ∈ TG) (w4 : Cond.code Lib.Math.max.name Lib.Math.max.code 2 (some .int) ∈ TG) (hfr : 1 ≤ I.2.2.2.1) (hlo : csum st + 13 ≤ I.2.2.2.2.1) (hroom : M.1 ≤ gn G + (gR G).cells ∧ M.2.1 ≤ gz G + (gR G).slots)
    (hd : decode I.1 pc = .ok (.invokestatic index, 3)) (kk : PT G (pc + 3) L (.int (if x < y then y else x) :: st) M) : PT G pc L (.int y :: .int x :: st) M := by
  intro ls H locs hl hR hS
  exact va_mmax C.1 C.2.1 hl.1.symm C.2.2.1 (C.2.2.2.2.1 _ w1) (C.2.2.2.2.1 _ w2) (C.2.2.2.2.1 _ w3) (C.2.2.2.2.1 _ w4) (by rw [C.2.2.2.2.2.1]; exact hfr) (by rw [csum_up, C.2.2.2.2.2.2.1]; exact hlo) (by omega) (by omega) hd (kk ls H locs hl hR hS)
theorem pt_min (C : CX G I) {index : Nat} {x y : Int32} (w1 : Cond.methodLink I.2.1 index Lib.Math.min.name ∈ TG) (w2 : Cond.static Lib.Math.min.name ∈ TG) (w3 : Cond.initialized "java/lang/Math" ∈ TG) (w4 : Cond.code Lib.Math.min.name Lib.Math.min.code 2 (some .int) ∈ TG) (hfr : 1 ≤ I.2.2.2.1) (hlo : csum st + 13 ≤ I.2.2.2.2.1) (hroom : M.1 ≤ gn G + (gR G).cells ∧ M.2.1 ≤ gz G + (gR G).slots)
    (hd : decode I.1 pc = .ok (.invokestatic index, 3)) (kk : PT G (pc + 3) L (.int (if y < x then y else x) :: st) M) : PT G pc L (.int y :: .int x :: st) M := by
  intro ls H locs hl hR hS
  refine va_mmin C.1 C.2.1 hl.1.symm C.2.2.1 (C.2.2.2.2.1 _ w1) (C.2.2.2.2.1 _ w2) (C.2.2.2.2.1 _ w3) (C.2.2.2.2.1 _ w4) (by rw [C.2.2.2.2.2.1]; exact hfr) (by rw [csum_up, C.2.2.2.2.2.2.1]; exact hlo) (by omega) (by omega) hd ?_
  have k1 := kk ls H locs hl hR hS
  exact k1
end PTnew
/-! CONTRACTS: a method and its function of the small machine -/
abbrev FN : Type := List Value → Mm → Option (Option Value × Mm)
def Pcv (X : GF) (as : List Value) (M : Mm) : Array Value → State → Prop := fun a U => a = (as.map (up X)).toArray ∧ Rp X U M U.heap ∧ X.2.2.2 ≤ U.heap.size
def Qcv (X : GF) (v : Option Value) (M' : Mm) : Array Value → State → Outcome → State → Prop := fun _ st o t => o = .returned (v.map (up X)) ∧ Rp X t M' t.heap ∧ va_F (AA X) st t
def MS (l : Launch) (y : MethodName) (I : MI) (f : FN) : Prop := ∀ (X : GF) (as : List Value) (M : Mm) (v : Option Value) (M' : Mm), f as M = some (v, M') →
  (M.1 ≤ M'.1 ∧ M.2.1 ≤ M'.2.1) ∧ Met l y (.code y I.1 I.2.2.1 I.2.2.2.2.2.2 :: TG) ({ frames := I.2.2.2.1, cells := M'.1 - M.1, slots := M'.2.1 - M.2.1, locals := I.2.2.2.2.1 }) (Pcv X as M) (Qcv X v M') (M'.1 - M.1) (M'.2.1 - M.2.1) (AA X)
theorem Pcv_blind (X : GF) (as : List Value) (M : Mm) : FrameBlind (Pcv X as M) := by
  intro a U g mk h
  obtain ⟨h1, h2, h3⟩ := h
  refine ⟨h1, ?_, h3⟩
  have hvm : U.vm = (U.calling g mk a).vm := rfl
  exact h2.move (Vm.Alike.refl U.vm) (NWL_same hvm h2.W)
theorem ws_good {y : MethodName} {b : ByteArray} {n : Nat} {r : Option FieldType} (h : Cond.code y b n r ∈ TG) : GoodIn TG (.code y b n r :: TG) := by
  intro w hw
  rcases List.mem_cons.mp hw with rfl | hw
  · exact TG_good _ h
  · exact TG_good _ hw
/-- the words of a call -/
abbrev CD (y : MethodName) (n : Nat) : Prop := y.cls ≠ "java/lang/invoke/MethodHandle" ∧ y.cls ≠ "java/lang/invoke/VarHandle" ∧ (parseMethodDescriptor y.desc).map (fun d => d.parameters.length) = some n
section PTcalls
variable {G : GT} {I J : MI} {pc : Nat} {L : Lv} {st : List Value} {M M' : Mm} {v : Option Value} {y : MethodName} {f : FN} {index : Nat}
theorem run_fin {a : Array Value} {ls : Array Slot} {H : Heap} {locs : List Loc} {free : Addr → Prop} {st0 : List Value} (hle : M.1 ≤ M'.1 ∧ M.2.1 ≤ M'.2.1) (hlow : gn G ≤ M.1 ∧ gz G ≤ M.2.1)
    (hl : LOC (gX G) ls (gc G).maxLocals L) (hR : Rp (gX G) (gs G) M H) (hS : va_S (AA (gX G)) (gs G).heap H locs) (hfree : ∀ q, free q → AA (gX G) q)
    (hr : va_Run (gp G) (gl G) (ge G) (gR G) (gs G) (gm G) (ga G) (gb G) (gh G) (gc G) H locs (M.1 - gn G) (M.2.1 - gz G) (M'.1 - M.1) (M'.2.1 - M.2.1) (F0 (gm G) pc ls st0) (st.map (up (gX G))) (Qcv (gX G) v M' a) free)
    (kk : PT G (pc + 3) L (v.toList ++ st) M') : W (gp G) (gl G) (ge G) (gR G) (gs G) (gm G) (ga G) (gb G) (gh G) (gc G) H locs (M.1 - gn G) (M.2.1 - gz G) (gQ G) (F0 (gm G) pc ls st0) := by
  intro T hT X
  obtain ⟨v', st₀, t, T', Lc, h0, X', hL, e1, e2, ⟨hv, hR', hz, hk⟩, stp⟩ := hr T hT X
  cases hv
  rw [h0] at hz hk
  have hal : (gs G).vm.Alike t.vm := by rw [← e2]; exact X'.warmed.alike
  have hR1 : Rp (gX G) (gs G) M' T'.heap := by rw [e1]; exact hR'.move hal.symm hR.W
  have hS1 : va_S (AA (gX G)) (gs G).heap T'.heap (locs ++ Lc) := ⟨Nat.le_trans hS.1 (by rw [e1]; exact hz), fun q h1 h2 => by rw [e1, hk q (Nat.lt_of_lt_of_le h1 hS.1) h2]; exact hS.2.1 q h1 h2, fun q hq => by
    rcases List.mem_append.mp hq with h | h
    · exact hS.2.2 q h
    · exact hfree _ (hL q h)⟩
  have k1 := kk ls T'.heap (locs ++ Lc) hl hR1 hS1
  have e3 : (v.toList ++ st).map (up (gX G)) = (v.map (up (gX G))).toList ++ st.map (up (gX G)) := by cases v <;> simp
  rw [e3] at k1
  have k2 : W (gp G) (gl G) (ge G) (gR G) (gs G) (gm G) (ga G) (gb G) (gh G) (gc G) T'.heap (locs ++ Lc) (M.1 - gn G + (M'.1 - M.1)) (M.2.1 - gz G + (M'.2.1 - M.2.1)) (gQ G) (F0 (gm G) (pc + 3) ls ((v.map (up (gX G))).toList ++ st.map (up (gX G)))) :=
    W.cs (by omega) (by omega) k1
  obtain ⟨t2, a1, b1⟩ := k2 T' rfl X'
  exact ⟨t2, stp t2 a1, b1⟩
theorem mroom (hf : MS (gl G) y J f) {as : List Value} (hr : f as M = some (v, M')) (hlow : gn G ≤ M.1 ∧ gz G ≤ M.2.1) (hroom : M'.1 ≤ gn G + (gR G).cells ∧ M'.2.1 ≤ gz G + (gR G).slots) : M.1 - gn G + (M'.1 - M.1) ≤ (gR G).cells ∧ M.2.1 - gz G + (M'.2.1 - M.2.1) ≤ (gR G).slots := by
  obtain ⟨⟨h1, h2⟩, -⟩ := hf (gX G) as M v M' hr
  exact ⟨by omega, by omega⟩
theorem cfix (C : CX G I) : CallFix (gp G) (gm G) (gc G) I.1 I.2.2.1 (gs G) (ga G) TG I.2.1 := ⟨C.1, C.2.1, C.2.2.2.1, C.2.2.1, C.2.2.2.2.1⟩
theorem preU (C : CX G I) {H : Heap} {locs : List Loc} (hR : Rp (gX G) (gs G) M H) (hS : va_S (AA (gX G)) (gs G).heap H locs) {as : List Value} : ∀ U : State, U.heap = H → (gs G).WarmedH U.vm → Pcv (gX G) as M (as.map (up (gX G))).toArray U := by
  intro U hU hW
  refine ⟨rfl, by rw [hU]; exact hR.warm hW, ?_⟩
  rw [hU]
  exact Nat.le_trans C.2.2.2.2.2.2.2.2.2.2.1 hS.1
theorem pt_callV (C : CX G I) (hf : MS (gl G) y J f) {b ci N : Nat} {as fs : List Value} {T : u_T} (hr : f (.ref b :: as) M = some (v, M')) (hb : M.2.2 b = .inr (ci, fs)) (hc : vwCl[ci]? = some (y.cls, T, N))
    (w1 : Cond.methodLink I.2.1 index y ∈ TG) (w2 : Cond.instanceMethod y ∈ TG) (w3 : Cond.selects y.cls y y ∈ TG) (w4 : Cond.initialized y.cls ∈ TG) (w5 : Cond.code y J.1 J.2.2.1 J.2.2.2.2.2.2 ∈ TG) (hdesc : CD y as.length)
    (hfr : J.2.2.2.1 + 1 ≤ I.2.2.2.1) (hlo : 8 + (J.2.2.1 + 11) + J.2.2.2.2.1 ≤ I.2.2.2.2.1) (hst : csum st ≤ 8) (hlow : gn G ≤ M.1 ∧ gz G ≤ M.2.1) (hroom : M'.1 ≤ gn G + (gR G).cells ∧ M'.2.1 ≤ gz G + (gR G).slots)
    (hd : decode I.1 pc = .ok (.invokevirtual index, 3)) (kk : PT G (pc + 3) L (v.toList ++ st) M') : PT G pc L ((Value.ref b :: as).reverse ++ st) M := by
  intro ls H locs hl hR hS
  obtain ⟨hle, hM⟩ := hf (gX G) _ M v M' hr
  have hroom' := mroom hf hr hlow hroom
  obtain ⟨h5, hlt⟩ := hR.ltO hb hc
  have hP := hR.P hb h5 hlt
  have e0 : ((Value.ref b :: as).reverse ++ st).map (up (gX G)) = (as.map (up (gX G))).reverse ++ .ref (adr (gX G) b) :: st.map (up (gX G)) := by simp [up]
  rw [e0]
  exact run_fin hle hlow hl hR hS (fun q h => h) (va_runV (cfix C) hM (C := y.cls) (n := as.length)
    ⟨callB_of as.length C.2.2.2.2.1 (ws_good w5) rfl rfl rfl (C.2.2.2.2.1 _ w4) (C.2.2.2.2.1 _ w1) hdesc ⟨by rw [C.2.2.2.2.2.1]; exact hfr, by rw [C.2.2.2.2.2.2.1]; exact hlo⟩, C.2.2.2.2.1 _ w2, C.2.2.2.2.1 _ w3⟩
    ⟨Pcv_blind _ _ _, va_recv hR.K hP (ci := ci) (q0 := 0) hc rfl, fun U hU hW => preU C hR hS (as := .ref b :: as) U hU hW⟩ rfl (by rw [List.length_map]) (by rw [hl.1]; exact C.2.2.2.1) rfl (lv_room (by rw [csum_up]; exact hst)) hd hroom') kk
theorem pt_callS (C : CX G I) (hf : MS (gl G) y J f) {as : List Value} (hr : f as M = some (v, M'))
    (w1 : Cond.methodLink I.2.1 index y ∈ TG) (w2 : Cond.static y ∈ TG) (w4 : Cond.initialized y.cls ∈ TG) (w5 : Cond.code y J.1 J.2.2.1 J.2.2.2.2.2.2 ∈ TG) (hdesc : CD y as.length)
    (hfr : J.2.2.2.1 + 1 ≤ I.2.2.2.1) (hlo : 8 + (J.2.2.1 + 11) + J.2.2.2.2.1 ≤ I.2.2.2.2.1) (hst : csum st ≤ 8) (hlow : gn G ≤ M.1 ∧ gz G ≤ M.2.1) (hroom : M'.1 ≤ gn G + (gR G).cells ∧ M'.2.1 ≤ gz G + (gR G).slots)
    (hd : decode I.1 pc = .ok (.invokestatic index, 3)) (kk : PT G (pc + 3) L (v.toList ++ st) M') : PT G pc L (as.reverse ++ st) M := by
  intro ls H locs hl hR hS
  obtain ⟨hle, hM⟩ := hf (gX G) _ M v M' hr
  have hroom' := mroom hf hr hlow hroom
  have e0 : (as.reverse ++ st).map (up (gX G)) = (as.map (up (gX G))).reverse ++ st.map (up (gX G)) := by simp
  rw [e0]
  exact run_fin hle hlow hl hR hS (fun q h => h) (va_runS (cfix C) hM (n := as.length)
    ⟨callB_of as.length C.2.2.2.2.1 (ws_good w5) rfl rfl rfl (C.2.2.2.2.1 _ w4) (C.2.2.2.2.1 _ w1) hdesc ⟨by rw [C.2.2.2.2.2.1]; exact hfr, by rw [C.2.2.2.2.2.2.1]; exact hlo⟩, C.2.2.2.2.1 _ w2⟩
    ⟨Pcv_blind _ _ _, fun U hU hW => preU C hR hS (as := as) U hU hW⟩ rfl (by rw [List.length_map]) (by rw [hl.1]; exact C.2.2.2.1) rfl (lv_room (by rw [csum_up]; exact hst)) hd hroom') kk
theorem pt_callI (C : CX G I) (hy : y.name = "<init>") (hret : J.2.2.2.2.2.2 = none) (hf : MS (gl G) y J f) {b : Nat} {as : List Value} (hr : f (.ref b :: as) M = some (v, M'))
    (w1 : Cond.methodLink I.2.1 index y ∈ TG) (w2 : Cond.instanceMethod y ∈ TG) (w4 : Cond.initialized y.cls ∈ TG) (w5 : Cond.code y J.1 J.2.2.1 none ∈ TG) (hdesc : CD y as.length)
    (hfr : J.2.2.2.1 + 1 ≤ I.2.2.2.1) (hlo : 8 + (J.2.2.1 + 11) + J.2.2.2.2.1 ≤ I.2.2.2.2.1) (hst : csum st ≤ 8) (hlow : gn G ≤ M.1 ∧ gz G ≤ M.2.1) (hroom : M'.1 ≤ gn G + (gR G).cells ∧ M'.2.1 ≤ gz G + (gR G).slots)
    (hd : decode I.1 pc = .ok (.invokespecial index, 3)) (kk : PT G (pc + 3) L (v.toList ++ st) M') : PT G pc L ((Value.ref b :: as).reverse ++ st) M := by
  intro ls H locs hl hR hS
  obtain ⟨hle, hM⟩ := hf (gX G) _ M v M' hr
  rw [hret] at hM
  have hroom' := mroom hf hr hlow hroom
  have e0 : ((Value.ref b :: as).reverse ++ st).map (up (gX G)) = (as.map (up (gX G))).reverse ++ .ref (adr (gX G) b) :: st.map (up (gX G)) := by simp [up]
  rw [e0]
  exact run_fin hle hlow hl hR hS (fun q h => h) (va_runI (cfix C) hM (n := as.length)
    ⟨callB_of as.length C.2.2.2.2.1 (ws_good w5) rfl rfl rfl (C.2.2.2.2.1 _ w4) (C.2.2.2.2.1 _ w1) hdesc ⟨by rw [C.2.2.2.2.2.1]; exact hfr, by rw [C.2.2.2.2.2.2.1]; exact hlo⟩, hy, C.2.2.2.2.1 _ w2⟩
    ⟨Pcv_blind _ _ _, fun U hU hW => preU C hR hS (as := .ref b :: as) U hU hW⟩ rfl (by rw [List.length_map]) (by rw [hl.1]; exact C.2.2.2.1) rfl (lv_room (by rw [csum_up]; exact hst)) hd hroom') kk
theorem pt_callSN (C : CX G I) (hf : MS (gl G) y J f) {host : String} {as : List Value} (hr : f as M = some (v, M'))
    (w1 : Cond.methodLinkNest I.2.1 index y host ∈ NWL) (w2 : Cond.static y ∈ TG) (w4 : Cond.initialized y.cls ∈ TG) (w5 : Cond.code y J.1 J.2.2.1 J.2.2.2.2.2.2 ∈ TG) (hdesc : CD y as.length)
    (hfr : J.2.2.2.1 + 1 ≤ I.2.2.2.1) (hlo : 8 + (J.2.2.1 + 11) + J.2.2.2.2.1 ≤ I.2.2.2.2.1) (hst : csum st ≤ 8) (hlow : gn G ≤ M.1 ∧ gz G ≤ M.2.1) (hroom : M'.1 ≤ gn G + (gR G).cells ∧ M'.2.1 ≤ gz G + (gR G).slots)
    (hd : decode I.1 pc = .ok (.invokestatic index, 3)) (kk : PT G (pc + 3) L (v.toList ++ st) M') : PT G pc L (as.reverse ++ st) M := by
  intro ls H locs hl hR hS
  obtain ⟨hle, hM⟩ := hf (gX G) _ M v M' hr
  have hroom' := mroom hf hr hlow hroom
  have e0 : (as.reverse ++ st).map (up (gX G)) = (as.map (up (gX G))).reverse ++ st.map (up (gX G)) := by simp
  rw [e0]
  exact run_fin hle hlow hl hR hS (fun q h => h) (va_runSN (cfix C) hM (n := as.length)
    ⟨va_cnB as.length C.2.2.2.2.1 (ws_good w5) rfl rfl rfl (hR.W _ w1) (C.2.2.2.2.1 _ w4) hdesc ⟨by rw [C.2.2.2.2.2.1]; exact hfr, by rw [C.2.2.2.2.2.2.1]; exact hlo⟩, C.2.2.2.2.1 _ w2, trivial⟩
    ⟨Pcv_blind _ _ _, fun U hU hW => preU C hR hS (as := as) U hU hW⟩ rfl (by rw [List.length_map]) (by rw [hl.1]; exact C.2.2.2.1) rfl (lv_room (by rw [csum_up]; exact hst)) hd hroom') kk
theorem pt_callIN (C : CX G I) (hy : y.name = "<init>") (hret : J.2.2.2.2.2.2 = none) (hf : MS (gl G) y J f) {host : String} {b : Nat} {as : List Value} (hr : f (.ref b :: as) M = some (v, M'))
    (w1 : Cond.methodLinkNest I.2.1 index y host ∈ NWL) (w2 : Cond.instanceMethod y ∈ TG) (w4 : Cond.initialized y.cls ∈ TG) (w5 : Cond.code y J.1 J.2.2.1 none ∈ TG) (hdesc : CD y as.length)
    (hfr : J.2.2.2.1 + 1 ≤ I.2.2.2.1) (hlo : 8 + (J.2.2.1 + 11) + J.2.2.2.2.1 ≤ I.2.2.2.2.1) (hst : csum st ≤ 8) (hlow : gn G ≤ M.1 ∧ gz G ≤ M.2.1) (hroom : M'.1 ≤ gn G + (gR G).cells ∧ M'.2.1 ≤ gz G + (gR G).slots)
    (hd : decode I.1 pc = .ok (.invokespecial index, 3)) (kk : PT G (pc + 3) L (v.toList ++ st) M') : PT G pc L ((Value.ref b :: as).reverse ++ st) M := by
  intro ls H locs hl hR hS
  obtain ⟨hle, hM⟩ := hf (gX G) _ M v M' hr
  rw [hret] at hM
  have hroom' := mroom hf hr hlow hroom
  have e0 : ((Value.ref b :: as).reverse ++ st).map (up (gX G)) = (as.map (up (gX G))).reverse ++ .ref (adr (gX G) b) :: st.map (up (gX G)) := by simp [up]
  rw [e0]
  exact run_fin hle hlow hl hR hS (fun q h => h) (va_runIN (cfix C) hM (n := as.length)
    ⟨va_cnB as.length C.2.2.2.2.1 (ws_good w5) rfl rfl rfl (hR.W _ w1) (C.2.2.2.2.1 _ w4) hdesc ⟨by rw [C.2.2.2.2.2.1]; exact hfr, by rw [C.2.2.2.2.2.2.1]; exact hlo⟩, hy, C.2.2.2.2.1 _ w2⟩
    ⟨Pcv_blind _ _ _, fun U hU hW => preU C hR hS (as := .ref b :: as) U hU hW⟩ rfl (by rw [List.length_map]) (by rw [hl.1]; exact C.2.2.2.1) rfl (lv_room (by rw [csum_up]; exact hst)) hd hroom') kk
end PTcalls
end
section
/-! WHAT THE JAVA MEANS over the small machine: expressions, conditions, statements as functions of locals and heap -/
abbrev DI : Type := Lv → Mm → Option (Int32 × Mm)
abbrev DA : Type := Lv → Mm → Option (Option Nat × Mm)
abbrev DJ : Type := Lv → Mm → Option (Int64 × Mm)
abbrev DC : Type := Lv → Mm → Option (Bool × Mm)
abbrev DR : Type := Lv → Mm → Option (List Value × Mm)
abbrev DV : Type := Lv → Mm → Option (Option Value × Mm)
abbrev SR : Type := Lv × Mm × Nat × Option Value
abbrev DS : Type := Lv → Mm → Option SR
def asI (v : Value) : Option Int32 := match v with
  | .int x => some x
  | _ => none
def asA (v : Value) : Option (Option Nat) := match v with
  | .ref a => some (some a)
  | .null => some none
  | _ => none
def asJ (v : Value) : Option Int64 := match v with
  | .long x => some x
  | _ => none
def inb (i : Int32) (n : Nat) : Bool := decide (0 ≤ i.toInt) && decide (i.toInt < n)
def rdF (ci k a : Nat) (M : Mm) : Option Value := match M.2.2 a with
  | .inr (c, fs) => if c = ci then fs[k]? else none
  | .inl _ => none
def wrF (ci k a : Nat) (v : Value) (M : Mm) : Option Mm := match M.2.2 a with
  | .inr (c, fs) => if c = ci ∧ k < fs.length then some (setC M a (.inr (ci, fs.set k v))) else none
  | .inl _ => none
def rdI (t a : Nat) (i : Int32) (M : Mm) : Option Int32 := match M.2.2 a with
  | .inl (t', n, .inl f) => if t' = t ∧ inb i n = true then some (f i.toNatClampNeg) else none
  | _ => none
def rdJ (a : Nat) (i : Int32) (M : Mm) : Option Int64 := match M.2.2 a with
  | .inl (t', n, .inr (.inl f)) => if t' = 2 ∧ inb i n = true then some (f i.toNatClampNeg) else none
  | _ => none
def rdA (t a : Nat) (i : Int32) (M : Mm) : Option (Option Nat) := match M.2.2 a with
  | .inl (t', n, .inr (.inr (.inr (.inr f)))) => if t' = t ∧ inb i n = true then some (f i.toNatClampNeg) else none
  | _ => none
def wrI (t a : Nat) (i x : Int32) (M : Mm) : Option Mm := match M.2.2 a with
  | .inl (t', n, .inl f) => if t' = t ∧ inb i n = true ∧ 5 ≤ a then some (setC M a (.inl (t, n, .inl (upd f i.toNatClampNeg x)))) else none
  | _ => none
def isC (ci : Nat) (M : Mm) (b : Nat) : Bool := match M.2.2 b with
  | .inr (c, _) => c == ci
  | .inl _ => false
def isE (t : Nat) (M : Mm) (r : Option Nat) : Bool := match r with
  | none => true
  | some b => isC (atC t) M b
def wrA (t a : Nat) (i : Int32) (r : Option Nat) (M : Mm) : Option Mm := match M.2.2 a with
  | .inl (t', n, .inr (.inr (.inr (.inr f)))) => if t' = t ∧ inb i n = true ∧ 5 ≤ a ∧ isE t M r = true then some (setC M a (.inl (t, n, .inr (.inr (.inr (.inr (va_up f i.toNatClampNeg r))))))) else none
  | _ => none
def lenA (a : Nat) (M : Mm) : Option Nat := match M.2.2 a with
  | .inl (t, x) => if t ≤ 5 then some x.1 else none
  | .inr _ => none
-- ints
def cI (v : Int32) : DI := fun _ M => some (v, M)
def lI (i : Nat) : DI := fun L M => (L[i]?).bind fun o => o.bind fun v => (asI v).map fun x => (x, M)
def bI (op : Int32 → Int32 → Option Int32) (a b : DI) : DI := fun L M => (a L M).bind fun q => (b L q.2).bind fun r => (op q.1 r.1).map fun z => (z, r.2)
def oAdd (x y : Int32) : Option Int32 := some (x + y)
def oSub (x y : Int32) : Option Int32 := some (x - y)
def oMul (x y : Int32) : Option Int32 := some (x * y)
def oAnd (x y : Int32) : Option Int32 := some (x &&& y)
def oDiv (x y : Int32) : Option Int32 := if y = 0 then none else some (x / y)
def oRem (x y : Int32) : Option Int32 := if y = 0 then none else some (x - x / y * y)
def oMax (x y : Int32) : Option Int32 := some (if x < y then y else x)
def oMin (x y : Int32) : Option Int32 := some (if y < x then y else x)
def nI1 (a : DI) : DI := fun L M => (a L M).map fun q => (-q.1, q.2)
def fI (ci k : Nat) (e : DA) : DI := fun L M => (e L M).bind fun q => q.1.bind fun a => (rdF ci k a q.2).bind fun v => (asI v).map fun x => (x, q.2)
def gI (t : Nat) (e : DA) (i : DI) : DI := fun L M => (e L M).bind fun q => q.1.bind fun a => (i L q.2).bind fun r => (rdI t a r.1 r.2).map fun x => (x, r.2)
def nA (e : DA) : DI := fun L M => (e L M).bind fun q => q.1.bind fun a => (lenA a q.2).map fun n => (Int32.ofNat n, q.2)
def vI (e : DV) : DI := fun L M => (e L M).bind fun q => q.1.bind fun v => (asI v).map fun x => (x, q.2)
def tI (c : DC) (a b : DI) : DI := fun L M => (c L M).bind fun q => if q.1 = true then a L q.2 else b L q.2
def zI (c : DC) : DI := fun L M => (c L M).map fun q => (if q.1 = true then 1 else 0, q.2)
-- references
def cN : DA := fun _ M => some (none, M)
def cS (i : Nat) : DA := fun _ M => some (some i, M)
def lA (i : Nat) : DA := fun L M => (L[i]?).bind fun o => o.bind fun v => (asA v).map fun x => (x, M)
def fA (ci k : Nat) (e : DA) : DA := fun L M => (e L M).bind fun q => q.1.bind fun a => (rdF ci k a q.2).bind fun v => (asA v).map fun x => (x, q.2)
def gA (t : Nat) (e : DA) (i : DI) : DA := fun L M => (e L M).bind fun q => q.1.bind fun a => (i L q.2).bind fun r => (rdA t a r.1 r.2).map fun x => (x, r.2)
def vA (e : DV) : DA := fun L M => (e L M).bind fun q => q.1.bind fun v => (asA v).map fun x => (x, q.2)
def tA (c : DC) (a b : DA) : DA := fun L M => (c L M).bind fun q => if q.1 = true then a L q.2 else b L q.2
def newO (ci N : Nat) (fs : List Value) (f : FN) (ar : DR) : DA := fun L M => (ar L (newC M N (.inr (ci, fs)))).bind fun q => (f (.ref M.1 :: q.1) q.2).bind fun r => match r.1 with
  | none => some (some M.1, r.2)
  | some _ => none
def newI (t : Nat) (e : DI) : DA := fun L M => (e L M).bind fun q => if 0 ≤ q.1.toInt ∧ q.1.toInt ≤ 100000 then some (some q.2.1, newC q.2 q.1.toNatClampNeg (.inl (t, q.1.toNatClampNeg, .inl (fun _ => 0)))) else none
def newJ (e : DI) : DA := fun L M => (e L M).bind fun q => if 0 ≤ q.1.toInt ∧ q.1.toInt ≤ 100000 then some (some q.2.1, newC q.2 q.1.toNatClampNeg (.inl (2, q.1.toNatClampNeg, .inr (.inl (fun _ => 0))))) else none
def newA (t : Nat) (e : DI) : DA := fun L M => (e L M).bind fun q => if 0 ≤ q.1.toInt ∧ q.1.toInt ≤ 100000 then some (some q.2.1, newC q.2 q.1.toNatClampNeg (.inl (t, q.1.toNatClampNeg, .inr (.inr (.inr (.inr (fun _ => none))))))) else none
/-- an array written out: e, then each value in its place -/
def litI (e : DA) (vs : List (Int32 × Int32)) : DA := fun L M => (e L M).bind fun q => q.1.bind fun a => (vs.foldlM (fun M1 w => wrI 0 a w.1 w.2 M1) q.2).map fun M2 => (some a, M2)
def cloI (e : DA) : DA := fun L M => (e L M).bind fun q => q.1.bind fun a => match q.2.2.2 a with
  | .inl (0, n, .inl f) => if 5 ≤ a then some (some q.2.1, newC q.2 n (.inl (0, n, .inl f))) else none
  | _ => none
-- longs
def cJ (v : Int64) : DJ := fun _ M => some (v, M)
def lJ (i : Nat) : DJ := fun L M => (L[i]?).bind fun o => o.bind fun v => (asJ v).map fun x => (x, M)
def iJ (a : DI) : DJ := fun L M => (a L M).map fun q => (q.1.toInt64, q.2)
def bJ (op : Int64 → Int64 → Option Int64) (a b : DJ) : DJ := fun L M => (a L M).bind fun q => (b L q.2).bind fun r => (op q.1 r.1).map fun z => (z, r.2)
def jAdd (x y : Int64) : Option Int64 := some (x + y)
def jMul (x y : Int64) : Option Int64 := some (x * y)
def gJ (e : DA) (i : DI) : DJ := fun L M => (e L M).bind fun q => q.1.bind fun a => (i L q.2).bind fun r => (rdJ a r.1 r.2).map fun x => (x, r.2)
-- conditions
def kI (op : Int32 → Int32 → Bool) (a b : DI) : DC := fun L M => (a L M).bind fun q => (b L q.2).map fun r => (op q.1 r.1, r.2)
def oEq (x y : Int32) : Bool := decide (x = y)
def oNe (x y : Int32) : Bool := decide (¬ x = y)
def oLt (x y : Int32) : Bool := decide (x < y)
def oGe (x y : Int32) : Bool := decide (y ≤ x)
def oGt (x y : Int32) : Bool := decide (y < x)
def oLe (x y : Int32) : Bool := decide (x ≤ y)
def kJ (op : Int64 → Int64 → Bool) (a b : DJ) : DC := fun L M => (a L M).bind fun q => (b L q.2).map fun r => (op q.1 r.1, r.2)
def jLe (x y : Int64) : Bool := decide (x ≤ y)
def jGt (x y : Int64) : Bool := decide (y < x)
def jEq (x y : Int64) : Bool := decide (x = y)
def jNe (x y : Int64) : Bool := decide (¬ x = y)
def isN (e : DA) : DC := fun L M => (e L M).map fun q => (q.1.isNone, q.2)
def notN (e : DA) : DC := fun L M => (e L M).map fun q => (q.1.isSome, q.2)
def hiA (r : Option Nat) : Bool := match r with
  | none => true
  | some a => decide (5 ≤ a)
def eqA (a b : DA) : DC := fun L M => (a L M).bind fun q => (b L q.2).bind fun r => if hiA q.1 = true ∧ hiA r.1 = true then some (decide (q.1 = r.1), r.2) else none
def andC (a b : DC) : DC := fun L M => (a L M).bind fun q => if q.1 = true then b L q.2 else some (false, q.2)
def orC (a b : DC) : DC := fun L M => (a L M).bind fun q => if q.1 = true then some (true, q.2) else b L q.2
def notC (a : DC) : DC := fun L M => (a L M).map fun q => (!q.1, q.2)
-- arguments, calls
def r0 : DR := fun _ M => some ([], M)
def rI (e : DI) (r : DR) : DR := fun L M => (e L M).bind fun q => (r L q.2).map fun s => (.int q.1 :: s.1, s.2)
def rA (e : DA) (r : DR) : DR := fun L M => (e L M).bind fun q => (r L q.2).map fun s => (va_rf q.1 :: s.1, s.2)
def ivS (f : FN) (r : DR) : DV := fun L M => (r L M).bind fun q => f q.1 q.2
def ivV (ci : Nat) (f : FN) (r : DR) : DV := fun L M => (r L M).bind fun q => match q.1 with
  | .ref b :: _ => if isC ci q.2 b = true then f q.1 q.2 else none
  | _ => none
/-- the superclass's constructor: Object's -/
-- statements: 0 goes on, 1 break, 2 continue, 3 return
def nop : DS := fun L M => some (L, M, 0, none)
def seqS (a b : DS) : DS := fun L M => (a L M).bind fun q => if q.2.2.1 = 0 then b q.1 q.2.1 else some q
def setI (i : Nat) (e : DI) : DS := fun L M => (e L M).map fun q => (stL i (.int q.1) L, q.2, 0, none)
def setA (i : Nat) (e : DA) : DS := fun L M => (e L M).map fun q => (stL i (va_rf q.1) L, q.2, 0, none)
def setJ (i : Nat) (e : DJ) : DS := fun L M => (e L M).map fun q => (stJ i (.long q.1) L, q.2, 0, none)
def incI (i : Nat) (n : Int32) : DS := fun L M => (L[i]?).bind fun o => o.bind fun v => (asI v).map fun x => (stL i (.int (x + n)) L, M, 0, none)
def pfI (ci k : Nat) (o : DA) (e : DI) : DS := fun L M => (o L M).bind fun q => q.1.bind fun a => (e L q.2).bind fun r => (wrF ci k a (.int r.1) r.2).map fun M' => (L, M', 0, none)
def pfA (ci k : Nat) (o : DA) (e : DA) : DS := fun L M => (o L M).bind fun q => q.1.bind fun a => (e L q.2).bind fun r => (wrF ci k a (va_rf r.1) r.2).map fun M' => (L, M', 0, none)
def upF (ci k : Nat) (o : DA) (op : Int32 → Int32 → Option Int32) (e : DI) : DS := fun L M => (o L M).bind fun q => q.1.bind fun a => (rdF ci k a q.2).bind fun v => (asI v).bind fun x => (e L q.2).bind fun r => (op x r.1).bind fun z => (wrF ci k a (.int z) r.2).map fun M' => (L, M', 0, none)
def paI (t : Nat) (o : DA) (i e : DI) : DS := fun L M => (o L M).bind fun q => q.1.bind fun a => (i L q.2).bind fun j => (e L j.2).bind fun r => if t = 0 ∨ (t = 1 ∧ (r.1 = 0 ∨ r.1 = 1)) then (wrI t a j.1 r.1 r.2).map fun M' => (L, M', 0, none) else none
def paA (t : Nat) (o : DA) (i : DI) (e : DA) : DS := fun L M => (o L M).bind fun q => q.1.bind fun a => (i L q.2).bind fun j => (e L j.2).bind fun r => (wrA t a j.1 r.1 r.2).map fun M' => (L, M', 0, none)
def exV (e : DV) : DS := fun L M => (e L M).bind fun q => match q.1 with
  | none => some (L, q.2, 0, none)
  | some _ => none
def exP (e : DV) : DS := fun L M => (e L M).bind fun q => match q.1 with
  | none => none
  | some v => if v.category = 1 then some (L, q.2, 0, none) else none
def ifS (c : DC) (a b : DS) : DS := fun L M => (c L M).bind fun q => if q.1 = true then a L q.2 else b L q.2
def brk : DS := fun L M => some (L, M, 1, none)
def cnt : DS := fun L M => some (L, M, 2, none)
def retV : DS := fun L M => some (L, M, 3, none)
def retI (e : DI) : DS := fun L M => (e L M).map fun q => (L, q.2, 3, some (.int q.1))
def retZ (e : DI) : DS := fun L M => (e L M).bind fun q => if q.1 = 0 ∨ q.1 = 1 then some (L, q.2, 3, some (.int q.1)) else none
def retA (e : DA) : DS := fun L M => (e L M).map fun q => (L, q.2, 3, some (va_rf q.1))
def clr (k : Nat) (L : Lv) : Lv := L.take k ++ List.replicate (L.length - k) none
def scp (k : Nat) (a : DS) : DS := fun L M => (a L M).map fun q => (clr k q.1, q.2)
def thr : DS := fun _ _ => none
def whN (c : DC) (b u : DS) : Nat → DS
  | 0 => fun _ _ => none
  | n + 1 => fun L M => (c L M).bind fun q => if q.1 = true then
      (b L q.2).bind fun r => if r.2.2.1 = 1 then some (r.1, r.2.1, 0, none) else if r.2.2.1 = 3 then some r else
        (u r.1 r.2.1).bind fun s => if s.2.2.1 = 0 then whN c b u n s.1 s.2.1 else none
    else some (L, q.2, 0, none)
def big : Nat := 1000000
def whS (c : DC) (b u : DS) : DS := whN c b u big
def swS (e : DI) (lo : Int) (cs : List DS) (d : DS) : DS := fun L M => (e L M).bind fun q => ((if q.1.toInt < lo then d else (cs[(q.1.toInt - lo).toNat]?).getD d) L q.2).map fun r => if r.2.2.1 = 1 then (r.1, r.2.1, 0, none) else r
-- methods
def cat1 (as : List Value) : Bool := as.all fun v => v.category == 1
def mkL (n : Nat) (as : List Value) : Lv := as.map some ++ List.replicate (n - as.length) none
def runM (n : Nat) (b : DS) : FN := fun as M => if cat1 as = true ∧ as.length ≤ n then (b (mkL n as) M).bind fun q => if q.2.2.1 = 3 then some (q.2.2.2, q.2.1) else none else none
end
section
/-! THE CODE DOES WHAT IT MEANS: a row for each form of Java -/
def LE (M M' : Mm) : Prop := M.1 ≤ M'.1 ∧ M.2.1 ≤ M'.2.1
theorem LE.rf (M : Mm) : LE M M := ⟨Nat.le_refl _, Nat.le_refl _⟩
theorem LE.tr {A B C : Mm} (h : LE A B) (k : LE B C) : LE A C := ⟨Nat.le_trans h.1 k.1, Nat.le_trans h.2 k.2⟩
def LW (G : GT) (M : Mm) : Prop := gn G ≤ M.1 ∧ gz G ≤ M.2.1
def RM (G : GT) (M : Mm) : Prop := M.1 ≤ gn G + (gR G).cells ∧ M.2.1 ≤ gz G + (gR G).slots
theorem LW.up {G : GT} {M M' : Mm} (h : LW G M) (k : LE M M') : LW G M' := ⟨Nat.le_trans h.1 k.1, Nat.le_trans h.2 k.2⟩
theorem RM.dn {G : GT} {M M' : Mm} (h : RM G M') (k : LE M M') : RM G M := ⟨Nat.le_trans k.1 h.1, Nat.le_trans k.2 h.2⟩
/-- an expression's code: from pc to pc', at most d words below it on the stack -/
def IE {α : Type} (em : α → Value) (I : MI) (d pc pc' : Nat) (E : Lv → Mm → Option (α × Mm)) : Prop := ∀ (L : Lv) (M : Mm) (v : α) (M' : Mm), E L M = some (v, M') → LE M M' ∧
  ∀ (G : GT) (st : List Value), CX G I → csum st ≤ d → LW G M → RM G M' → PT G pc' L (em v :: st) M' → PT G pc L st M
def IC (I : MI) (d pc pT pF : Nat) (E : DC) : Prop := ∀ (L : Lv) (M : Mm) (v : Bool) (M' : Mm), E L M = some (v, M') → LE M M' ∧
  ∀ (G : GT) (st : List Value), CX G I → csum st ≤ d → LW G M → RM G M' → (v = true → PT G pT L st M') → (v = false → PT G pF L st M') → PT G pc L st M
def IR (I : MI) (d pc pc' n : Nat) (E : DR) : Prop := ∀ (L : Lv) (M : Mm) (v : List Value) (M' : Mm), E L M = some (v, M') → LE M M' ∧ v.length = n ∧
  ∀ (G : GT) (st : List Value), CX G I → csum st ≤ d → LW G M → RM G M' → PT G pc' L (v.reverse ++ st) M' → PT G pc L st M
def IV (I : MI) (d pc pc' : Nat) (E : DV) : Prop := ∀ (L : Lv) (M : Mm) (v : Option Value) (M' : Mm), E L M = some (v, M') → LE M M' ∧
  ∀ (G : GT) (st : List Value), CX G I → csum st ≤ d → LW G M → RM G M' → PT G pc' L (v.toList ++ st) M' → PT G pc L st M
def retOp (t : Option FieldType) : Instr := match t with
  | none => .return_
  | some (.object _) => .areturn
  | some (.array _) => .areturn
  | some _ => .ireturn
def okR (t : Option FieldType) (v : Option Value) : Prop := match t with
  | none => v = none
  | some .int => ∃ x : Int32, v = some (.int x)
  | some .boolean => ∃ x : Int32, (x = 0 ∨ x = 1) ∧ v = some (.int x)
  | some (.object _) => ∃ r : Option Nat, v = some (va_rf r)
  | some (.array _) => ∃ r : Option Nat, v = some (va_rf r)
  | some _ => False
def RT (G : GT) (I : MI) (v : Option Value) (M : Mm) : Prop := ∀ (L : Lv) (pc : Nat), decode I.1 pc = .ok (retOp I.2.2.2.2.2.2, 1) → okR I.2.2.2.2.2.2 v → PT G pc L v.toList M
/-- a statement's code: where it goes on, breaks, continues -/
def IS (I : MI) (pc tN tB tC : Nat) (S : DS) : Prop := ∀ (L : Lv) (M : Mm) (L' : Lv) (M' : Mm) (c : Nat) (v : Option Value), S L M = some (L', M', c, v) → LE M M' ∧
  ∀ (G : GT), CX G I → LW G M → RM G M' → (c = 0 → PT G tN L' [] M') → (c = 1 → PT G tB L' [] M') → (c = 2 → PT G tC L' [] M') → (c = 3 → RT G I v M') → PT G pc L [] M
def Jp (I : MI) (a t : Nat) : Prop := a = t ∨ ∃ off : Int, decode I.1 a = .ok (.goto off, 3) ∧ (a : Int) + off = (t : Int)
theorem Jp.pt {I : MI} {a t : Nat} (h : Jp I a t) {G : GT} {L : Lv} {st : List Value} {M : Mm} (C : CX G I) (k : PT G t L st M) : PT G a L st M := by
  rcases h with rfl | ⟨off, h1, h2⟩
  · exact k
  · exact pt_goto C h1 h2 k
theorem Jp.rf {I : MI} {a : Nat} : Jp I a a := Or.inl rfl
theorem Jp.go {I : MI} {a t : Nat} {off : Int} (h : decode I.1 a = .ok (.goto off, 3)) (k : (a : Int) + off = (t : Int)) : Jp I a t := Or.inr ⟨off, h, k⟩
theorem csum_int (x : Int32) {st : List Value} {d : Nat} (h : csum st ≤ d) : csum (.int x :: st) ≤ d + 1 := by
  rw [csum_cons]
  show 1 + csum st ≤ d + 1
  omega
theorem csum_rf (r : Option Nat) {st : List Value} {d : Nat} (h : csum st ≤ d) : csum (va_rf r :: st) ≤ d + 1 := by
  rw [csum_cons]
  cases r <;> (show 1 + csum st ≤ d + 1; omega)
theorem csum_ref (a : Nat) {st : List Value} {d : Nat} (h : csum st ≤ d) : csum (.ref a :: st) ≤ d + 1 := csum_rf (some a) h
theorem csum_long (x : Int64) {st : List Value} {d : Nat} (h : csum st ≤ d) : csum (.long x :: st) ≤ d + 2 := by
  rw [csum_cons]
  show 2 + csum st ≤ d + 2
  omega
theorem some2 {α : Type} {a b : α} {M M' : Mm} (h : some (a, M) = some (b, M')) : a = b ∧ M = M' := by cases h; exact ⟨rfl, rfl⟩
theorem inb_in {i : Int32} {n : Nat} (h : inb i n = true) : vp_in i n := by
  unfold inb at h
  simp only [Bool.and_eq_true, decide_eq_true_eq] at h
  exact vp_in_iff.mpr h
section Exprs
variable {I : MI} {d pc p1 p2 : Nat}
theorem ie_iconst {n : Int} {v : Int32} (hd : decode I.1 pc = .ok (.iconst n, 1)) (hv : Int32.ofInt n = v) : IE .int I d pc (pc + 1) (cI v) := by
  intro L M w M' h
  obtain ⟨rfl, rfl⟩ := some2 h
  exact ⟨LE.rf _, fun G st C _ _ _ k => pt_iconst C hd hv k⟩
theorem ie_bipush {n : Int} {v : Int32} (hd : decode I.1 pc = .ok (.bipush n, 2)) (hv : (Int8.ofInt n).toInt32 = v) : IE .int I d pc (pc + 2) (cI v) := by
  intro L M w M' h
  obtain ⟨rfl, rfl⟩ := some2 h
  exact ⟨LE.rf _, fun G st C _ _ _ k => pt_bipush C hd hv k⟩
theorem ie_sipush {n : Int} {v : Int32} (hd : decode I.1 pc = .ok (.sipush n, 3)) (hv : (Int16.ofInt n).toInt32 = v) : IE .int I d pc (pc + 3) (cI v) := by
  intro L M w M' h
  obtain ⟨rfl, rfl⟩ := some2 h
  exact ⟨LE.rf _, fun G st C _ _ _ k => pt_sipush C hd hv k⟩
theorem ie_ldc {i : Nat} {v : Int32} (hd : decode I.1 pc = .ok (.ldc i, 2)) (hw : Cond.constant I.2.1 i v ∈ TG) : IE .int I d pc (pc + 2) (cI v) := by
  intro L M w M' h
  obtain ⟨rfl, rfl⟩ := some2 h
  exact ⟨LE.rf _, fun G st C _ _ _ k => pt_ldc C hd hw k⟩
theorem ij_ldc2 {i : Nat} {v : Int64} (hd : decode I.1 pc = .ok (.ldc2_w i, 3)) (hw : Cond.constantLong I.2.1 i v ∈ TG) : IE .long I d pc (pc + 3) (cJ v) := by
  intro L M w M' h
  obtain ⟨rfl, rfl⟩ := some2 h
  exact ⟨LE.rf _, fun G st C _ _ _ k => pt_ldc2 C hd hw k⟩
theorem lI_spec {i : Nat} {L : Lv} {M M' : Mm} {v : Int32} (h : lI i L M = some (v, M')) : L[i]? = some (some (.int v)) ∧ M' = M := by
  unfold lI at h
  obtain ⟨o, h1, h⟩ := Option.bind_eq_some_iff.mp h
  obtain ⟨w, rfl, h⟩ := Option.bind_eq_some_iff.mp h
  obtain ⟨x, h2, h3⟩ := Option.map_eq_some_iff.mp h
  cases h3
  cases w <;> cases h2
  exact ⟨h1, rfl⟩
theorem lJ_spec {i : Nat} {L : Lv} {M M' : Mm} {v : Int64} (h : lJ i L M = some (v, M')) : L[i]? = some (some (.long v)) ∧ M' = M := by
  unfold lJ at h
  obtain ⟨o, h1, h⟩ := Option.bind_eq_some_iff.mp h
  obtain ⟨w, rfl, h⟩ := Option.bind_eq_some_iff.mp h
  obtain ⟨x, h2, h3⟩ := Option.map_eq_some_iff.mp h
  cases h3
  cases w <;> cases h2
  exact ⟨h1, rfl⟩
theorem asA_rf {v : Value} {r : Option Nat} (h : asA v = some r) : v = va_rf r := by cases v <;> cases h <;> rfl
theorem asI_i {v : Value} {r : Int32} (h : asI v = some r) : v = .int r := by cases v <;> cases h; rfl
theorem lA_spec {i : Nat} {L : Lv} {M M' : Mm} {v : Option Nat} (h : lA i L M = some (v, M')) : L[i]? = some (some (va_rf v)) ∧ M' = M := by
  unfold lA at h
  obtain ⟨o, h1, h⟩ := Option.bind_eq_some_iff.mp h
  obtain ⟨w, rfl, h⟩ := Option.bind_eq_some_iff.mp h
  obtain ⟨x, h2, h3⟩ := Option.map_eq_some_iff.mp h
  cases h3
  rw [asA_rf h2] at h1
  exact ⟨h1, rfl⟩
theorem ie_iload_n {q : Fin 4} {i : Nat} (hd : decode I.1 pc = .ok (.iload_n q, 1)) (hi : (q : Nat) = i) : IE .int I d pc (pc + 1) (lI i) := by
  intro L M w M' h
  obtain ⟨h1, rfl⟩ := lI_spec h
  exact ⟨LE.rf _, fun G st C _ _ _ k => pt_iload_n C hd hi h1 k⟩
theorem ie_iload {i : Nat} (hd : decode I.1 pc = .ok (.iload i, 2)) : IE .int I d pc (pc + 2) (lI i) := by
  intro L M w M' h
  obtain ⟨h1, rfl⟩ := lI_spec h
  exact ⟨LE.rf _, fun G st C _ _ _ k => pt_iload C hd h1 k⟩
theorem ij_lload {i : Nat} (hd : decode I.1 pc = .ok (.lload i, 2)) : IE .long I d pc (pc + 2) (lJ i) := by
  intro L M w M' h
  obtain ⟨h1, rfl⟩ := lJ_spec h
  exact ⟨LE.rf _, fun G st C _ _ _ k => pt_lload C hd h1 k⟩
theorem ia_aload_n {q : Fin 4} {i : Nat} (hd : decode I.1 pc = .ok (.aload_n q, 1)) (hi : (q : Nat) = i) : IE va_rf I d pc (pc + 1) (lA i) := by
  intro L M w M' h
  obtain ⟨h1, rfl⟩ := lA_spec h
  exact ⟨LE.rf _, fun G st C _ _ _ k => pt_aload_n C hd hi h1 k⟩
theorem ia_aload {i : Nat} (hd : decode I.1 pc = .ok (.aload i, 2)) : IE va_rf I d pc (pc + 2) (lA i) := by
  intro L M w M' h
  obtain ⟨h1, rfl⟩ := lA_spec h
  exact ⟨LE.rf _, fun G st C _ _ _ k => pt_aload C hd h1 k⟩
theorem ia_null (hd : decode I.1 pc = .ok (.aconst_null, 1)) : IE va_rf I d pc (pc + 1) cN := by
  intro L M w M' h
  obtain ⟨rfl, rfl⟩ := some2 h
  exact ⟨LE.rf _, fun G st C _ _ _ k => pt_null C hd k⟩
theorem ia_gets {i index : Nat} {Cn nm : String} (hq : (Cn, nm, i) ∈ STN) (hw : Cond.fieldLink I.2.1 index Cn nm "[I" ∈ TG) (hd : decode I.1 pc = .ok (.getstatic index, 3)) : IE va_rf I d pc (pc + 3) (cS i) := by
  intro L M w M' h
  obtain ⟨rfl, rfl⟩ := some2 h
  exact ⟨LE.rf _, fun G st C _ _ _ k => pt_gets C hq hw hd k⟩
theorem ie_bin {op : Int32 → Int32 → Option Int32} {n : Nat} {a b : DI} (ha : IE .int I d pc p1 a) (hb : IE .int I (d + 1) p1 p2 b)
    (hop : ∀ (G : GT) (L : Lv) (st : List Value) (M : Mm) (x y z : Int32), CX G I → csum st ≤ d → RM G M → op x y = some z → PT G (p2 + n) L (.int z :: st) M → PT G p2 L (.int y :: .int x :: st) M) : IE .int I d pc (p2 + n) (bI op a b) := by
  intro L M w M' h
  obtain ⟨⟨x, M1⟩, h1, h⟩ := Option.bind_eq_some_iff.mp h
  obtain ⟨⟨y, M2⟩, h2, h⟩ := Option.bind_eq_some_iff.mp h
  obtain ⟨z, h3, h4⟩ := Option.map_eq_some_iff.mp h
  cases h4
  obtain ⟨l1, k1⟩ := ha L M x M1 h1
  obtain ⟨l2, k2⟩ := hb L M1 y M2 h2
  exact ⟨l1.tr l2, fun G st C hs hw hr k => k1 G st C hs hw (hr.dn l2) (k2 G _ C (csum_int x hs) (hw.up l1) hr (hop G L st M2 x y w C hs hr h3 k))⟩
theorem ie_add {a b : DI} (ha : IE .int I d pc p1 a) (hb : IE .int I (d + 1) p1 p2 b) (hd : decode I.1 p2 = .ok (.iadd, 1)) : IE .int I d pc (p2 + 1) (bI oAdd a b) :=
  ie_bin ha hb fun G L st M x y z C _ _ h k => by cases h; exact pt_iadd C hd k
theorem ie_sub {a b : DI} (ha : IE .int I d pc p1 a) (hb : IE .int I (d + 1) p1 p2 b) (hd : decode I.1 p2 = .ok (.isub, 1)) : IE .int I d pc (p2 + 1) (bI oSub a b) :=
  ie_bin ha hb fun G L st M x y z C _ _ h k => by cases h; exact pt_isub C hd k
theorem ie_mul {a b : DI} (ha : IE .int I d pc p1 a) (hb : IE .int I (d + 1) p1 p2 b) (hd : decode I.1 p2 = .ok (.imul, 1)) : IE .int I d pc (p2 + 1) (bI oMul a b) :=
  ie_bin ha hb fun G L st M x y z C _ _ h k => by cases h; exact pt_imul C hd k
theorem ie_and {a b : DI} (ha : IE .int I d pc p1 a) (hb : IE .int I (d + 1) p1 p2 b) (hd : decode I.1 p2 = .ok (.iand, 1)) : IE .int I d pc (p2 + 1) (bI oAnd a b) :=
  ie_bin ha hb fun G L st M x y z C _ _ h k => by cases h; exact pt_iand C hd k
theorem ie_div {a b : DI} (ha : IE .int I d pc p1 a) (hb : IE .int I (d + 1) p1 p2 b) (hd : decode I.1 p2 = .ok (.idiv, 1)) : IE .int I d pc (p2 + 1) (bI oDiv a b) :=
  ie_bin ha hb fun G L st M x y z C _ _ h k => by
    unfold oDiv at h
    split at h
    · cases h
    · rename_i hy
      cases h
      exact pt_idiv C hd hy k
theorem ie_rem {a b : DI} (ha : IE .int I d pc p1 a) (hb : IE .int I (d + 1) p1 p2 b) (hd : decode I.1 p2 = .ok (.irem, 1)) : IE .int I d pc (p2 + 1) (bI oRem a b) :=
  ie_bin ha hb fun G L st M x y z C _ _ h k => by
    unfold oRem at h
    split at h
    · cases h
    · rename_i hy
      cases h
      exact pt_irem C hd hy k
theorem ie_max {a b : DI} {index : Nat} (ha : IE .int I d pc p1 a) (hb : IE .int I (d + 1) p1 p2 b) (w1 : Cond.methodLink I.2.1 index Lib.Math.max.name ∈ TG) (w2 : Cond.static Lib.Math.max.name ∈ TG) (w3 : Cond.initialized "java/lang/Math" ∈ TG) (w4 : Cond.code Lib.Math.max.name Lib.Math.max.code 2 (some .int) ∈ TG)
    (hfr : 1 ≤ I.2.2.2.1) (hlo : d + 13 ≤ I.2.2.2.2.1) (hd : decode I.1 p2 = .ok (.invokestatic index, 3)) : IE .int I d pc (p2 + 3) (bI oMax a b) :=
  ie_bin ha hb fun G L st M x y z C hs hr h k => by cases h; exact pt_max C w1 w2 w3 w4 hfr (Nat.le_trans (Nat.add_le_add_right hs 13) hlo) hr hd k
theorem ie_min {a b : DI} {index : Nat} (ha : IE .int I d pc p1 a) (hb : IE .int I (d + 1) p1 p2 b) (w1 : Cond.methodLink I.2.1 index Lib.Math.min.name ∈ TG) (w2 : Cond.static Lib.Math.min.name ∈ TG) (w3 : Cond.initialized "java/lang/Math" ∈ TG) (w4 : Cond.code Lib.Math.min.name Lib.Math.min.code 2 (some .int) ∈ TG)
    (hfr : 1 ≤ I.2.2.2.1) (hlo : d + 13 ≤ I.2.2.2.2.1) (hd : decode I.1 p2 = .ok (.invokestatic index, 3)) : IE .int I d pc (p2 + 3) (bI oMin a b) :=
  ie_bin ha hb fun G L st M x y z C hs hr h k => by cases h; exact pt_min C w1 w2 w3 w4 hfr (Nat.le_trans (Nat.add_le_add_right hs 13) hlo) hr hd k
theorem ie_neg {a : DI} (ha : IE .int I d pc p1 a) (hd : decode I.1 p1 = .ok (.ineg, 1)) : IE .int I d pc (p1 + 1) (nI1 a) := by
  intro L M w M' h
  obtain ⟨⟨x, M1⟩, h1, h⟩ := Option.map_eq_some_iff.mp h
  cases h
  obtain ⟨l1, k1⟩ := ha L M x M1 h1
  exact ⟨l1, fun G st C hs hw hr k => k1 G st C hs hw hr (pt_ineg C hd k)⟩
theorem ij_i2l {a : DI} (ha : IE .int I d pc p1 a) (hd : decode I.1 p1 = .ok (.i2l, 1)) : IE .long I d pc (p1 + 1) (iJ a) := by
  intro L M w M' h
  obtain ⟨⟨x, M1⟩, h1, h⟩ := Option.map_eq_some_iff.mp h
  cases h
  obtain ⟨l1, k1⟩ := ha L M x M1 h1
  exact ⟨l1, fun G st C hs hw hr k => k1 G st C hs hw hr (pt_i2l C hd k)⟩
theorem ij_bin {op : Int64 → Int64 → Option Int64} {a b : DJ} (ha : IE .long I d pc p1 a) (hb : IE .long I (d + 2) p1 p2 b)
    (hop : ∀ (G : GT) (L : Lv) (st : List Value) (M : Mm) (x y z : Int64), CX G I → op x y = some z → PT G (p2 + 1) L (.long z :: st) M → PT G p2 L (.long y :: .long x :: st) M) : IE .long I d pc (p2 + 1) (bJ op a b) := by
  intro L M w M' h
  obtain ⟨⟨x, M1⟩, h1, h⟩ := Option.bind_eq_some_iff.mp h
  obtain ⟨⟨y, M2⟩, h2, h⟩ := Option.bind_eq_some_iff.mp h
  obtain ⟨z, h3, h4⟩ := Option.map_eq_some_iff.mp h
  cases h4
  obtain ⟨l1, k1⟩ := ha L M x M1 h1
  obtain ⟨l2, k2⟩ := hb L M1 y M2 h2
  exact ⟨l1.tr l2, fun G st C hs hw hr k => k1 G st C hs hw (hr.dn l2) (k2 G _ C (csum_long x hs) (hw.up l1) hr (hop G L st M2 x y w C h3 k))⟩
theorem ij_add {a b : DJ} (ha : IE .long I d pc p1 a) (hb : IE .long I (d + 2) p1 p2 b) (hd : decode I.1 p2 = .ok (.ladd, 1)) : IE .long I d pc (p2 + 1) (bJ jAdd a b) :=
  ij_bin ha hb fun G L st M x y z C h k => by cases h; exact pt_ladd C hd k
theorem ij_mul {a b : DJ} (ha : IE .long I d pc p1 a) (hb : IE .long I (d + 2) p1 p2 b) (hd : decode I.1 p2 = .ok (.lmul, 1)) : IE .long I d pc (p2 + 1) (bJ jMul a b) :=
  ij_bin ha hb fun G L st M x y z C h k => by cases h; exact pt_lmul C hd k
/-- what a class's field row asks: its number, its table, the words -/
abbrev FW (ci : Nat) (Cn : String) (T : u_T) (N : Nat) : Prop := vwCl[ci]? = some (Cn, T, N) ∧ ∀ w ∈ u_ws Cn T N, w ∈ TG
theorem rdF_spec {ci k a : Nat} {M : Mm} {v : Value} (h : rdF ci k a M = some v) : ∃ fs, M.2.2 a = .inr (ci, fs) ∧ fs[k]? = some v := by
  unfold rdF at h
  split at h
  · rename_i c fs hM
    split at h
    · rename_i hc
      subst hc
      exact ⟨fs, hM, h⟩
    · cases h
  · cases h
theorem ie_fld {ci k index N : Nat} {Cn : String} {T : u_T} {e : DA} (he : IE va_rf I d pc p1 e) (hF : FW ci Cn T N) (hk : k < N) (hw : Cond.fieldLink I.2.1 index (T k).1 (T k).2.1 (T k).2.2.1 ∈ TG) (hd : decode I.1 p1 = .ok (.getfield index, 3)) : IE .int I d pc (p1 + 3) (fI ci k e) := by
  intro L M w M' h
  obtain ⟨⟨r, M1⟩, h1, h⟩ := Option.bind_eq_some_iff.mp h
  obtain ⟨a, h2, h⟩ := Option.bind_eq_some_iff.mp h
  obtain ⟨v, h3, h⟩ := Option.bind_eq_some_iff.mp h
  obtain ⟨x, h4, h5⟩ := Option.map_eq_some_iff.mp h
  cases h5
  have h2 : r = some a := h2
  subst h2
  rw [asI_i h4] at h3
  obtain ⟨fs, hM, hv⟩ := rdF_spec h3
  obtain ⟨l1, k1⟩ := he L M _ M1 h1
  exact ⟨l1, fun G st C hs hw1 hr k2 => k1 G st C hs hw1 hr (pt_get C hM hv hF.1 hk hF.2 hw hd k2)⟩
theorem ia_fld {ci k index N : Nat} {Cn : String} {T : u_T} {e : DA} (he : IE va_rf I d pc p1 e) (hF : FW ci Cn T N) (hk : k < N) (hw : Cond.fieldLink I.2.1 index (T k).1 (T k).2.1 (T k).2.2.1 ∈ TG) (hd : decode I.1 p1 = .ok (.getfield index, 3)) : IE va_rf I d pc (p1 + 3) (fA ci k e) := by
  intro L M w M' h
  obtain ⟨⟨r, M1⟩, h1, h⟩ := Option.bind_eq_some_iff.mp h
  obtain ⟨a, h2, h⟩ := Option.bind_eq_some_iff.mp h
  obtain ⟨v, h3, h⟩ := Option.bind_eq_some_iff.mp h
  obtain ⟨x, h4, h5⟩ := Option.map_eq_some_iff.mp h
  cases h5
  have h2 : r = some a := h2
  subst h2
  rw [asA_rf h4] at h3
  obtain ⟨fs, hM, hv⟩ := rdF_spec h3
  obtain ⟨l1, k1⟩ := he L M _ M1 h1
  exact ⟨l1, fun G st C hs hw1 hr k2 => k1 G st C hs hw1 hr (pt_get C hM hv hF.1 hk hF.2 hw hd k2)⟩
theorem rdI_spec {t a : Nat} {i x : Int32} {M : Mm} (h : rdI t a i M = some x) : ∃ n f, M.2.2 a = .inl (t, n, .inl f) ∧ vp_in i n ∧ x = f i.toNatClampNeg := by
  unfold rdI at h
  split at h
  · rename_i t' n f hM
    split at h
    · rename_i hc
      obtain ⟨rfl, hc⟩ := hc
      cases h
      exact ⟨n, f, hM, inb_in hc, rfl⟩
    · cases h
  · cases h
theorem rdJ_spec {a : Nat} {i : Int32} {x : Int64} {M : Mm} (h : rdJ a i M = some x) : ∃ n f, M.2.2 a = .inl (2, n, .inr (.inl f)) ∧ vp_in i n ∧ x = f i.toNatClampNeg := by
  unfold rdJ at h
  split at h
  · rename_i t' n f hM
    split at h
    · rename_i hc
      obtain ⟨rfl, hc⟩ := hc
      cases h
      exact ⟨n, f, hM, inb_in hc, rfl⟩
    · cases h
  · cases h
theorem rdA_spec {t a : Nat} {i : Int32} {x : Option Nat} {M : Mm} (h : rdA t a i M = some x) : ∃ n f, M.2.2 a = .inl (t, n, .inr (.inr (.inr (.inr f)))) ∧ vp_in i n ∧ x = f i.toNatClampNeg := by
  unfold rdA at h
  split at h
  · rename_i t' n f hM
    split at h
    · rename_i hc
      obtain ⟨rfl, hc⟩ := hc
      cases h
      exact ⟨n, f, hM, inb_in hc, rfl⟩
    · cases h
  · cases h
theorem ie_ald {e : DA} {i : DI} (he : IE va_rf I d pc p1 e) (hi : IE .int I (d + 1) p1 p2 i) (hd : decode I.1 p2 = .ok (.iaload, 1)) : IE .int I d pc (p2 + 1) (gI 0 e i) := by
  intro L M w M' h
  obtain ⟨⟨r, M1⟩, h1, h⟩ := Option.bind_eq_some_iff.mp h
  obtain ⟨a, h2, h⟩ := Option.bind_eq_some_iff.mp h
  obtain ⟨⟨j, M2⟩, h3, h⟩ := Option.bind_eq_some_iff.mp h
  obtain ⟨x, h4, h5⟩ := Option.map_eq_some_iff.mp h
  cases h5
  have h2 : r = some a := h2
  subst h2
  obtain ⟨n, f, hM, hin, rfl⟩ := rdI_spec h4
  obtain ⟨l1, k1⟩ := he L M _ M1 h1
  obtain ⟨l2, k2⟩ := hi L M1 _ M2 h3
  exact ⟨l1.tr l2, fun G st C hs hw hr k => k1 G st C hs hw (hr.dn l2) (k2 G _ C (csum_rf _ hs) (hw.up l1) hr (pt_iald C hM hin hd k))⟩
theorem ie_zald {e : DA} {i : DI} (he : IE va_rf I d pc p1 e) (hi : IE .int I (d + 1) p1 p2 i) (hd : decode I.1 p2 = .ok (.baload, 1)) : IE .int I d pc (p2 + 1) (gI 1 e i) := by
  intro L M w M' h
  obtain ⟨⟨r, M1⟩, h1, h⟩ := Option.bind_eq_some_iff.mp h
  obtain ⟨a, h2, h⟩ := Option.bind_eq_some_iff.mp h
  obtain ⟨⟨j, M2⟩, h3, h⟩ := Option.bind_eq_some_iff.mp h
  obtain ⟨x, h4, h5⟩ := Option.map_eq_some_iff.mp h
  cases h5
  have h2 : r = some a := h2
  subst h2
  obtain ⟨n, f, hM, hin, rfl⟩ := rdI_spec h4
  obtain ⟨l1, k1⟩ := he L M _ M1 h1
  obtain ⟨l2, k2⟩ := hi L M1 _ M2 h3
  exact ⟨l1.tr l2, fun G st C hs hw hr k => k1 G st C hs hw (hr.dn l2) (k2 G _ C (csum_rf _ hs) (hw.up l1) hr (pt_zald C hM hin hd k))⟩
theorem ij_ald {e : DA} {i : DI} (he : IE va_rf I d pc p1 e) (hi : IE .int I (d + 1) p1 p2 i) (hd : decode I.1 p2 = .ok (.laload, 1)) : IE .long I d pc (p2 + 1) (gJ e i) := by
  intro L M w M' h
  obtain ⟨⟨r, M1⟩, h1, h⟩ := Option.bind_eq_some_iff.mp h
  obtain ⟨a, h2, h⟩ := Option.bind_eq_some_iff.mp h
  obtain ⟨⟨j, M2⟩, h3, h⟩ := Option.bind_eq_some_iff.mp h
  obtain ⟨x, h4, h5⟩ := Option.map_eq_some_iff.mp h
  cases h5
  have h2 : r = some a := h2
  subst h2
  obtain ⟨n, f, hM, hin, rfl⟩ := rdJ_spec h4
  obtain ⟨l1, k1⟩ := he L M _ M1 h1
  obtain ⟨l2, k2⟩ := hi L M1 _ M2 h3
  exact ⟨l1.tr l2, fun G st C hs hw hr k => k1 G st C hs hw (hr.dn l2) (k2 G _ C (csum_rf _ hs) (hw.up l1) hr (pt_lald C hM hin hd k))⟩
theorem ia_ald {t : Nat} {e : DA} {i : DI} (he : IE va_rf I d pc p1 e) (hi : IE .int I (d + 1) p1 p2 i) (ht : 3 ≤ t ∧ t ≤ 5) (hd : decode I.1 p2 = .ok (.aaload, 1)) : IE va_rf I d pc (p2 + 1) (gA t e i) := by
  intro L M w M' h
  obtain ⟨⟨r, M1⟩, h1, h⟩ := Option.bind_eq_some_iff.mp h
  obtain ⟨a, h2, h⟩ := Option.bind_eq_some_iff.mp h
  obtain ⟨⟨j, M2⟩, h3, h⟩ := Option.bind_eq_some_iff.mp h
  obtain ⟨x, h4, h5⟩ := Option.map_eq_some_iff.mp h
  cases h5
  have h2 : r = some a := h2
  subst h2
  obtain ⟨n, f, hM, hin, rfl⟩ := rdA_spec h4
  obtain ⟨l1, k1⟩ := he L M _ M1 h1
  obtain ⟨l2, k2⟩ := hi L M1 _ M2 h3
  exact ⟨l1.tr l2, fun G st C hs hw hr k => k1 G st C hs hw (hr.dn l2) (k2 G _ C (csum_rf _ hs) (hw.up l1) hr (pt_aald C hM ht hin hd k))⟩
theorem ie_len {e : DA} (he : IE va_rf I d pc p1 e) (hd : decode I.1 p1 = .ok (.arraylength, 1)) : IE .int I d pc (p1 + 1) (nA e) := by
  intro L M w M' h
  obtain ⟨⟨r, M1⟩, h1, h⟩ := Option.bind_eq_some_iff.mp h
  obtain ⟨a, h2, h⟩ := Option.bind_eq_some_iff.mp h
  obtain ⟨n, h4, h5⟩ := Option.map_eq_some_iff.mp h
  cases h5
  have h2 : r = some a := h2
  subst h2
  unfold lenA at h4
  split at h4
  · rename_i t x hM
    split at h4
    · rename_i ht
      obtain ⟨l1, k1⟩ := he L M _ M1 h1
      exact ⟨l1, fun G st C hs hw hr k => k1 G st C hs hw hr (pt_alen C hM ht (Option.some.inj h4) rfl hd k)⟩
    · cases h4
  · cases h4
theorem ie_ofV {e : DV} (he : IV I d pc p1 e) : IE .int I d pc p1 (vI e) := by
  intro L M w M' h
  obtain ⟨⟨r, M1⟩, h1, h⟩ := Option.bind_eq_some_iff.mp h
  obtain ⟨v, h2, h⟩ := Option.bind_eq_some_iff.mp h
  obtain ⟨x, h4, h5⟩ := Option.map_eq_some_iff.mp h
  cases h5
  have h2 : r = some v := h2
  subst h2
  rw [asI_i h4] at h1
  obtain ⟨l1, k1⟩ := he L M _ M1 h1
  exact ⟨l1, fun G st C hs hw hr k => k1 G st C hs hw hr k⟩
theorem ia_ofV {e : DV} (he : IV I d pc p1 e) : IE va_rf I d pc p1 (vA e) := by
  intro L M w M' h
  obtain ⟨⟨r, M1⟩, h1, h⟩ := Option.bind_eq_some_iff.mp h
  obtain ⟨v, h2, h⟩ := Option.bind_eq_some_iff.mp h
  obtain ⟨x, h4, h5⟩ := Option.map_eq_some_iff.mp h
  cases h5
  have h2 : r = some v := h2
  subst h2
  rw [asA_rf h4] at h1
  obtain ⟨l1, k1⟩ := he L M _ M1 h1
  exact ⟨l1, fun G st C hs hw hr k => k1 G st C hs hw hr k⟩
/-- c ? a : b -/
theorem ie_tern {α : Type} {em : α → Value} {pT pF pTe pe : Nat} {c : DC} {a b : Lv → Mm → Option (α × Mm)} (hc : IC I d pc pT pF c) (ha : IE em I d pT pTe a) (hj : Jp I pTe pe) (hb : IE em I d pF p2 b) (hj2 : Jp I p2 pe) :
    IE em I d pc pe (fun L M => (c L M).bind fun q => if q.1 = true then a L q.2 else b L q.2) := by
  intro L M w M' h
  obtain ⟨⟨r, M1⟩, h1, h⟩ := Option.bind_eq_some_iff.mp h
  obtain ⟨l1, k1⟩ := hc L M _ M1 h1
  cases r with
  | true =>
    obtain ⟨l2, k2⟩ := ha L M1 w M' h
    exact ⟨l1.tr l2, fun G st C hs hw hr k => k1 G st C hs hw (hr.dn l2) (fun _ => k2 G st C hs (hw.up l1) hr (hj.pt C k)) (fun q => by cases q)⟩
  | false =>
    obtain ⟨l2, k2⟩ := hb L M1 w M' h
    exact ⟨l1.tr l2, fun G st C hs hw hr k => k1 G st C hs hw (hr.dn l2) (fun q => by cases q) (fun _ => k2 G st C hs (hw.up l1) hr (hj2.pt C k))⟩
/-- a condition's value: 1 or 0 -/
theorem ie_bool {pT pF pe : Nat} {c : DC} (hc : IC I d pc pT pF c) (h1 : decode I.1 pT = .ok (.iconst 1, 1)) (hj : Jp I (pT + 1) pe) (h0 : decode I.1 pF = .ok (.iconst 0, 1)) (hj2 : Jp I (pF + 1) pe) : IE .int I d pc pe (zI c) := by
  intro L M w M' h
  obtain ⟨⟨r, M1⟩, h2, h⟩ := Option.map_eq_some_iff.mp h
  cases h
  obtain ⟨l1, k1⟩ := hc L M _ M1 h2
  refine ⟨l1, fun G st C hs hw hr k => k1 G st C hs hw hr (fun q => ?_) (fun q => ?_)⟩
  · have q : r = true := q
    subst q
    exact pt_iconst C h1 rfl (hj.pt C k)
  · have q : r = false := q
    subst q
    exact pt_iconst C h0 rfl (hj2.pt C k)
end Exprs
end
section
/-! THE CODE DOES WHAT IT MEANS, second half: conditions, arguments, calls, statements, methods -/
section Conds
variable {I : MI} {d pc p1 p2 : Nat}
theorem ic_bin {op : Int32 → Int32 → Bool} {pT pF : Nat} {a b : DI} (ha : IE .int I d pc p1 a) (hb : IE .int I (d + 1) p1 p2 b)
    (hop : ∀ (G : GT) (L : Lv) (st : List Value) (M : Mm) (x y : Int32), CX G I → (op x y = true → PT G pT L st M) → (op x y = false → PT G pF L st M) → PT G p2 L (.int y :: .int x :: st) M) : IC I d pc pT pF (kI op a b) := by
  intro L M w M' h
  obtain ⟨⟨x, M1⟩, h1, h⟩ := Option.bind_eq_some_iff.mp h
  obtain ⟨⟨y, M2⟩, h2, h⟩ := Option.map_eq_some_iff.mp h
  cases h
  obtain ⟨l1, k1⟩ := ha L M x M1 h1
  obtain ⟨l2, k2⟩ := hb L M1 y M2 h2
  exact ⟨l1.tr l2, fun G st C hs hw hr kt kf => k1 G st C hs hw (hr.dn l2) (k2 G _ C (csum_int x hs) (hw.up l1) hr (hop G L st M2 x y C kt kf))⟩
theorem ic_zero {op : Int32 → Int32 → Bool} {pT pF : Nat} {a : DI} (ha : IE .int I d pc p1 a)
    (hop : ∀ (G : GT) (L : Lv) (st : List Value) (M : Mm) (x : Int32), CX G I → (op x 0 = true → PT G pT L st M) → (op x 0 = false → PT G pF L st M) → PT G p1 L (.int x :: st) M) : IC I d pc pT pF (kI op a (cI 0)) := by
  intro L M w M' h
  obtain ⟨⟨x, M1⟩, h1, h⟩ := Option.bind_eq_some_iff.mp h
  obtain ⟨⟨y, M2⟩, h2, h⟩ := Option.map_eq_some_iff.mp h
  cases h
  obtain ⟨rfl, rfl⟩ := some2 h2
  obtain ⟨l1, k1⟩ := ha L M x M1 h1
  exact ⟨l1, fun G st C hs hw hr kt kf => k1 G st C hs hw hr (hop G L st M1 x C kt kf)⟩
theorem ic_eq_n {a b : DI} {off : Int} {pF : Nat} (ha : IE .int I d pc p1 a) (hb : IE .int I (d + 1) p1 p2 b) (hd : decode I.1 p2 = .ok (.if_icmp .ne off, 3)) (ht : (p2 : Int) + off = (pF : Int)) : IC I d pc (p2 + 3) pF (kI oEq a b) :=
  ic_bin ha hb fun G L st M x y C kt kf => pt_icmp_ne C hd ht (fun h => kf (by simpa [oEq] using h)) (fun h => kt (by simpa [oEq] using h))
theorem iz_eq_n {a : DI} {off : Int} {pF : Nat} (ha : IE .int I d pc p1 a) (hd : decode I.1 p1 = .ok (.ifCond .ne off, 3)) (ht : (p1 : Int) + off = (pF : Int)) : IC I d pc (p1 + 3) pF (kI oEq a (cI 0)) :=
  ic_zero ha fun G L st M x C kt kf => pt_if_ne C hd ht (fun h => kf (by simpa [oEq] using h)) (fun h => kt (by simpa [oEq] using h))
theorem ic_eq_t {a b : DI} {off : Int} {pT : Nat} (ha : IE .int I d pc p1 a) (hb : IE .int I (d + 1) p1 p2 b) (hd : decode I.1 p2 = .ok (.if_icmp .eq off, 3)) (ht : (p2 : Int) + off = (pT : Int)) : IC I d pc pT (p2 + 3) (kI oEq a b) :=
  ic_bin ha hb fun G L st M x y C kt kf => pt_icmp_eq C hd ht (fun h => kt (by simpa [oEq] using h)) (fun h => kf (by simpa [oEq] using h))
theorem iz_eq_t {a : DI} {off : Int} {pT : Nat} (ha : IE .int I d pc p1 a) (hd : decode I.1 p1 = .ok (.ifCond .eq off, 3)) (ht : (p1 : Int) + off = (pT : Int)) : IC I d pc pT (p1 + 3) (kI oEq a (cI 0)) :=
  ic_zero ha fun G L st M x C kt kf => pt_if_eq C hd ht (fun h => kt (by simpa [oEq] using h)) (fun h => kf (by simpa [oEq] using h))
theorem ic_ne_n {a b : DI} {off : Int} {pF : Nat} (ha : IE .int I d pc p1 a) (hb : IE .int I (d + 1) p1 p2 b) (hd : decode I.1 p2 = .ok (.if_icmp .eq off, 3)) (ht : (p2 : Int) + off = (pF : Int)) : IC I d pc (p2 + 3) pF (kI oNe a b) :=
  ic_bin ha hb fun G L st M x y C kt kf => pt_icmp_eq C hd ht (fun h => kf (by simpa [oNe] using h)) (fun h => kt (by simpa [oNe] using h))
theorem iz_ne_n {a : DI} {off : Int} {pF : Nat} (ha : IE .int I d pc p1 a) (hd : decode I.1 p1 = .ok (.ifCond .eq off, 3)) (ht : (p1 : Int) + off = (pF : Int)) : IC I d pc (p1 + 3) pF (kI oNe a (cI 0)) :=
  ic_zero ha fun G L st M x C kt kf => pt_if_eq C hd ht (fun h => kf (by simpa [oNe] using h)) (fun h => kt (by simpa [oNe] using h))
theorem ic_ne_t {a b : DI} {off : Int} {pT : Nat} (ha : IE .int I d pc p1 a) (hb : IE .int I (d + 1) p1 p2 b) (hd : decode I.1 p2 = .ok (.if_icmp .ne off, 3)) (ht : (p2 : Int) + off = (pT : Int)) : IC I d pc pT (p2 + 3) (kI oNe a b) :=
  ic_bin ha hb fun G L st M x y C kt kf => pt_icmp_ne C hd ht (fun h => kt (by simpa [oNe] using h)) (fun h => kf (by simpa [oNe] using h))
theorem iz_ne_t {a : DI} {off : Int} {pT : Nat} (ha : IE .int I d pc p1 a) (hd : decode I.1 p1 = .ok (.ifCond .ne off, 3)) (ht : (p1 : Int) + off = (pT : Int)) : IC I d pc pT (p1 + 3) (kI oNe a (cI 0)) :=
  ic_zero ha fun G L st M x C kt kf => pt_if_ne C hd ht (fun h => kt (by simpa [oNe] using h)) (fun h => kf (by simpa [oNe] using h))
theorem ic_lt_n {a b : DI} {off : Int} {pF : Nat} (ha : IE .int I d pc p1 a) (hb : IE .int I (d + 1) p1 p2 b) (hd : decode I.1 p2 = .ok (.if_icmp .ge off, 3)) (ht : (p2 : Int) + off = (pF : Int)) : IC I d pc (p2 + 3) pF (kI oLt a b) :=
  ic_bin ha hb fun G L st M x y C kt kf => pt_icmp_ge C hd ht (fun h => kf (by simp only [oLt, decide_eq_true_eq, decide_eq_false_iff_not, Int32.lt_iff_toInt_lt, Int32.le_iff_toInt_le] at h ⊢; omega)) (fun h => kt (by simp only [oLt, decide_eq_true_eq, decide_eq_false_iff_not, Int32.lt_iff_toInt_lt, Int32.le_iff_toInt_le] at h ⊢; omega))
theorem iz_lt_n {a : DI} {off : Int} {pF : Nat} (ha : IE .int I d pc p1 a) (hd : decode I.1 p1 = .ok (.ifCond .ge off, 3)) (ht : (p1 : Int) + off = (pF : Int)) : IC I d pc (p1 + 3) pF (kI oLt a (cI 0)) :=
  ic_zero ha fun G L st M x C kt kf => pt_if_ge C hd ht (fun h => kf (by simp only [oLt, decide_eq_true_eq, decide_eq_false_iff_not, Int32.lt_iff_toInt_lt, Int32.le_iff_toInt_le] at h ⊢; omega)) (fun h => kt (by simp only [oLt, decide_eq_true_eq, decide_eq_false_iff_not, Int32.lt_iff_toInt_lt, Int32.le_iff_toInt_le] at h ⊢; omega))
theorem ic_lt_t {a b : DI} {off : Int} {pT : Nat} (ha : IE .int I d pc p1 a) (hb : IE .int I (d + 1) p1 p2 b) (hd : decode I.1 p2 = .ok (.if_icmp .lt off, 3)) (ht : (p2 : Int) + off = (pT : Int)) : IC I d pc pT (p2 + 3) (kI oLt a b) :=
  ic_bin ha hb fun G L st M x y C kt kf => pt_icmp_lt C hd ht (fun h => kt (by simp only [oLt, decide_eq_true_eq, decide_eq_false_iff_not, Int32.lt_iff_toInt_lt, Int32.le_iff_toInt_le] at h ⊢; omega)) (fun h => kf (by simp only [oLt, decide_eq_true_eq, decide_eq_false_iff_not, Int32.lt_iff_toInt_lt, Int32.le_iff_toInt_le] at h ⊢; omega))
theorem iz_lt_t {a : DI} {off : Int} {pT : Nat} (ha : IE .int I d pc p1 a) (hd : decode I.1 p1 = .ok (.ifCond .lt off, 3)) (ht : (p1 : Int) + off = (pT : Int)) : IC I d pc pT (p1 + 3) (kI oLt a (cI 0)) :=
  ic_zero ha fun G L st M x C kt kf => pt_if_lt C hd ht (fun h => kt (by simp only [oLt, decide_eq_true_eq, decide_eq_false_iff_not, Int32.lt_iff_toInt_lt, Int32.le_iff_toInt_le] at h ⊢; omega)) (fun h => kf (by simp only [oLt, decide_eq_true_eq, decide_eq_false_iff_not, Int32.lt_iff_toInt_lt, Int32.le_iff_toInt_le] at h ⊢; omega))
theorem ic_ge_n {a b : DI} {off : Int} {pF : Nat} (ha : IE .int I d pc p1 a) (hb : IE .int I (d + 1) p1 p2 b) (hd : decode I.1 p2 = .ok (.if_icmp .lt off, 3)) (ht : (p2 : Int) + off = (pF : Int)) : IC I d pc (p2 + 3) pF (kI oGe a b) :=
  ic_bin ha hb fun G L st M x y C kt kf => pt_icmp_lt C hd ht (fun h => kf (by simp only [oGe, decide_eq_true_eq, decide_eq_false_iff_not, Int32.lt_iff_toInt_lt, Int32.le_iff_toInt_le] at h ⊢; omega)) (fun h => kt (by simp only [oGe, decide_eq_true_eq, decide_eq_false_iff_not, Int32.lt_iff_toInt_lt, Int32.le_iff_toInt_le] at h ⊢; omega))
theorem iz_ge_n {a : DI} {off : Int} {pF : Nat} (ha : IE .int I d pc p1 a) (hd : decode I.1 p1 = .ok (.ifCond .lt off, 3)) (ht : (p1 : Int) + off = (pF : Int)) : IC I d pc (p1 + 3) pF (kI oGe a (cI 0)) :=
  ic_zero ha fun G L st M x C kt kf => pt_if_lt C hd ht (fun h => kf (by simp only [oGe, decide_eq_true_eq, decide_eq_false_iff_not, Int32.lt_iff_toInt_lt, Int32.le_iff_toInt_le] at h ⊢; omega)) (fun h => kt (by simp only [oGe, decide_eq_true_eq, decide_eq_false_iff_not, Int32.lt_iff_toInt_lt, Int32.le_iff_toInt_le] at h ⊢; omega))
theorem ic_ge_t {a b : DI} {off : Int} {pT : Nat} (ha : IE .int I d pc p1 a) (hb : IE .int I (d + 1) p1 p2 b) (hd : decode I.1 p2 = .ok (.if_icmp .ge off, 3)) (ht : (p2 : Int) + off = (pT : Int)) : IC I d pc pT (p2 + 3) (kI oGe a b) :=
  ic_bin ha hb fun G L st M x y C kt kf => pt_icmp_ge C hd ht (fun h => kt (by simp only [oGe, decide_eq_true_eq, decide_eq_false_iff_not, Int32.lt_iff_toInt_lt, Int32.le_iff_toInt_le] at h ⊢; omega)) (fun h => kf (by simp only [oGe, decide_eq_true_eq, decide_eq_false_iff_not, Int32.lt_iff_toInt_lt, Int32.le_iff_toInt_le] at h ⊢; omega))
theorem iz_ge_t {a : DI} {off : Int} {pT : Nat} (ha : IE .int I d pc p1 a) (hd : decode I.1 p1 = .ok (.ifCond .ge off, 3)) (ht : (p1 : Int) + off = (pT : Int)) : IC I d pc pT (p1 + 3) (kI oGe a (cI 0)) :=
  ic_zero ha fun G L st M x C kt kf => pt_if_ge C hd ht (fun h => kt (by simp only [oGe, decide_eq_true_eq, decide_eq_false_iff_not, Int32.lt_iff_toInt_lt, Int32.le_iff_toInt_le] at h ⊢; omega)) (fun h => kf (by simp only [oGe, decide_eq_true_eq, decide_eq_false_iff_not, Int32.lt_iff_toInt_lt, Int32.le_iff_toInt_le] at h ⊢; omega))
theorem ic_gt_n {a b : DI} {off : Int} {pF : Nat} (ha : IE .int I d pc p1 a) (hb : IE .int I (d + 1) p1 p2 b) (hd : decode I.1 p2 = .ok (.if_icmp .le off, 3)) (ht : (p2 : Int) + off = (pF : Int)) : IC I d pc (p2 + 3) pF (kI oGt a b) :=
  ic_bin ha hb fun G L st M x y C kt kf => pt_icmp_le C hd ht (fun h => kf (by simp only [oGt, decide_eq_true_eq, decide_eq_false_iff_not, Int32.lt_iff_toInt_lt, Int32.le_iff_toInt_le] at h ⊢; omega)) (fun h => kt (by simp only [oGt, decide_eq_true_eq, decide_eq_false_iff_not, Int32.lt_iff_toInt_lt, Int32.le_iff_toInt_le] at h ⊢; omega))
theorem iz_gt_n {a : DI} {off : Int} {pF : Nat} (ha : IE .int I d pc p1 a) (hd : decode I.1 p1 = .ok (.ifCond .le off, 3)) (ht : (p1 : Int) + off = (pF : Int)) : IC I d pc (p1 + 3) pF (kI oGt a (cI 0)) :=
  ic_zero ha fun G L st M x C kt kf => pt_if_le C hd ht (fun h => kf (by simp only [oGt, decide_eq_true_eq, decide_eq_false_iff_not, Int32.lt_iff_toInt_lt, Int32.le_iff_toInt_le] at h ⊢; omega)) (fun h => kt (by simp only [oGt, decide_eq_true_eq, decide_eq_false_iff_not, Int32.lt_iff_toInt_lt, Int32.le_iff_toInt_le] at h ⊢; omega))
theorem ic_gt_t {a b : DI} {off : Int} {pT : Nat} (ha : IE .int I d pc p1 a) (hb : IE .int I (d + 1) p1 p2 b) (hd : decode I.1 p2 = .ok (.if_icmp .gt off, 3)) (ht : (p2 : Int) + off = (pT : Int)) : IC I d pc pT (p2 + 3) (kI oGt a b) :=
  ic_bin ha hb fun G L st M x y C kt kf => pt_icmp_gt C hd ht (fun h => kt (by simp only [oGt, decide_eq_true_eq, decide_eq_false_iff_not, Int32.lt_iff_toInt_lt, Int32.le_iff_toInt_le] at h ⊢; omega)) (fun h => kf (by simp only [oGt, decide_eq_true_eq, decide_eq_false_iff_not, Int32.lt_iff_toInt_lt, Int32.le_iff_toInt_le] at h ⊢; omega))
theorem iz_gt_t {a : DI} {off : Int} {pT : Nat} (ha : IE .int I d pc p1 a) (hd : decode I.1 p1 = .ok (.ifCond .gt off, 3)) (ht : (p1 : Int) + off = (pT : Int)) : IC I d pc pT (p1 + 3) (kI oGt a (cI 0)) :=
  ic_zero ha fun G L st M x C kt kf => pt_if_gt C hd ht (fun h => kt (by simp only [oGt, decide_eq_true_eq, decide_eq_false_iff_not, Int32.lt_iff_toInt_lt, Int32.le_iff_toInt_le] at h ⊢; omega)) (fun h => kf (by simp only [oGt, decide_eq_true_eq, decide_eq_false_iff_not, Int32.lt_iff_toInt_lt, Int32.le_iff_toInt_le] at h ⊢; omega))
theorem ic_le_n {a b : DI} {off : Int} {pF : Nat} (ha : IE .int I d pc p1 a) (hb : IE .int I (d + 1) p1 p2 b) (hd : decode I.1 p2 = .ok (.if_icmp .gt off, 3)) (ht : (p2 : Int) + off = (pF : Int)) : IC I d pc (p2 + 3) pF (kI oLe a b) :=
  ic_bin ha hb fun G L st M x y C kt kf => pt_icmp_gt C hd ht (fun h => kf (by simp only [oLe, decide_eq_true_eq, decide_eq_false_iff_not, Int32.lt_iff_toInt_lt, Int32.le_iff_toInt_le] at h ⊢; omega)) (fun h => kt (by simp only [oLe, decide_eq_true_eq, decide_eq_false_iff_not, Int32.lt_iff_toInt_lt, Int32.le_iff_toInt_le] at h ⊢; omega))
theorem iz_le_n {a : DI} {off : Int} {pF : Nat} (ha : IE .int I d pc p1 a) (hd : decode I.1 p1 = .ok (.ifCond .gt off, 3)) (ht : (p1 : Int) + off = (pF : Int)) : IC I d pc (p1 + 3) pF (kI oLe a (cI 0)) :=
  ic_zero ha fun G L st M x C kt kf => pt_if_gt C hd ht (fun h => kf (by simp only [oLe, decide_eq_true_eq, decide_eq_false_iff_not, Int32.lt_iff_toInt_lt, Int32.le_iff_toInt_le] at h ⊢; omega)) (fun h => kt (by simp only [oLe, decide_eq_true_eq, decide_eq_false_iff_not, Int32.lt_iff_toInt_lt, Int32.le_iff_toInt_le] at h ⊢; omega))
theorem ic_le_t {a b : DI} {off : Int} {pT : Nat} (ha : IE .int I d pc p1 a) (hb : IE .int I (d + 1) p1 p2 b) (hd : decode I.1 p2 = .ok (.if_icmp .le off, 3)) (ht : (p2 : Int) + off = (pT : Int)) : IC I d pc pT (p2 + 3) (kI oLe a b) :=
  ic_bin ha hb fun G L st M x y C kt kf => pt_icmp_le C hd ht (fun h => kt (by simp only [oLe, decide_eq_true_eq, decide_eq_false_iff_not, Int32.lt_iff_toInt_lt, Int32.le_iff_toInt_le] at h ⊢; omega)) (fun h => kf (by simp only [oLe, decide_eq_true_eq, decide_eq_false_iff_not, Int32.lt_iff_toInt_lt, Int32.le_iff_toInt_le] at h ⊢; omega))
theorem iz_le_t {a : DI} {off : Int} {pT : Nat} (ha : IE .int I d pc p1 a) (hd : decode I.1 p1 = .ok (.ifCond .le off, 3)) (ht : (p1 : Int) + off = (pT : Int)) : IC I d pc pT (p1 + 3) (kI oLe a (cI 0)) :=
  ic_zero ha fun G L st M x C kt kf => pt_if_le C hd ht (fun h => kt (by simp only [oLe, decide_eq_true_eq, decide_eq_false_iff_not, Int32.lt_iff_toInt_lt, Int32.le_iff_toInt_le] at h ⊢; omega)) (fun h => kf (by simp only [oLe, decide_eq_true_eq, decide_eq_false_iff_not, Int32.lt_iff_toInt_lt, Int32.le_iff_toInt_le] at h ⊢; omega))
theorem ic_jump {op : Int64 → Int64 → Bool} {pT pF : Nat} {a b : DJ} (ha : IE .long I d pc p1 a) (hb : IE .long I (d + 2) p1 p2 b) (hd : decode I.1 p2 = .ok (.lcmp, 1))
    (hop : ∀ (G : GT) (L : Lv) (st : List Value) (M : Mm) (x y : Int64), CX G I → (op x y = true → PT G pT L st M) → (op x y = false → PT G pF L st M) → PT G (p2 + 1) L (.int (lg_cmp x y) :: st) M) : IC I d pc pT pF (kJ op a b) := by
  intro L M w M' h
  obtain ⟨⟨x, M1⟩, h1, h⟩ := Option.bind_eq_some_iff.mp h
  obtain ⟨⟨y, M2⟩, h2, h⟩ := Option.map_eq_some_iff.mp h
  cases h
  obtain ⟨l1, k1⟩ := ha L M x M1 h1
  obtain ⟨l2, k2⟩ := hb L M1 y M2 h2
  exact ⟨l1.tr l2, fun G st C hs hw hr kt kf => k1 G st C hs hw (hr.dn l2) (k2 G _ C (csum_long x hs) (hw.up l1) hr (fun ls H locs hl hR hS => W.lcmp C.1 C.2.1 hd (hop G L st M2 x y C kt kf ls H locs hl hR hS)))⟩
theorem ij_gt_n {a b : DJ} {off : Int} {pF : Nat} (ha : IE .long I d pc p1 a) (hb : IE .long I (d + 2) p1 p2 b) (hd : decode I.1 p2 = .ok (.lcmp, 1)) (hd2 : decode I.1 (p2 + 1) = .ok (.ifCond .le off, 3)) (ht : ((p2 + 1 : Nat) : Int) + off = (pF : Int)) : IC I d pc (p2 + 1 + 3) pF (kJ jGt a b) :=
  ic_jump ha hb hd fun G L st M x y C kt kf => pt_if_le C hd2 ht (fun h => kf (by
    have h1 := (lg_cmp_le x y).mp h
    simp only [jGt, decide_eq_false_iff_not, Int64.lt_iff_toInt_lt, Int64.le_iff_toInt_le] at h1 ⊢
    omega)) (fun h => kt (by
    have h1 : ¬ x ≤ y := fun q => h ((lg_cmp_le x y).mpr q)
    simp only [jGt, decide_eq_true_eq, Int64.lt_iff_toInt_lt, Int64.le_iff_toInt_le] at h1 ⊢
    omega))
theorem ij_ne_n {a b : DJ} {off : Int} {pF : Nat} (ha : IE .long I d pc p1 a) (hb : IE .long I (d + 2) p1 p2 b) (hd : decode I.1 p2 = .ok (.lcmp, 1)) (hd2 : decode I.1 (p2 + 1) = .ok (.ifCond .eq off, 3)) (ht : ((p2 + 1 : Nat) : Int) + off = (pF : Int)) : IC I d pc (p2 + 1 + 3) pF (kJ jNe a b) :=
  ic_jump ha hb hd fun G L st M x y C kt kf => pt_if_eq C hd2 ht (fun h => kf (by
    have h1 := (lg_cmp_le x y).mp (by rw [h]; decide)
    have h2 := (lg_cmp_ge x y).mp (by rw [h]; decide)
    simp only [jNe, decide_eq_false_iff_not, Decidable.not_not]
    exact Int64.le_antisymm h1 h2)) (fun h => kt (by
    simp only [jNe, decide_eq_true_eq]
    exact fun e => h ((lg_cmp_eq x y).mpr e)))
theorem ic_isnull_n {e : DA} {off : Int} {pF : Nat} (he : IE va_rf I d pc p1 e) (hd : decode I.1 p1 = .ok (.ifnonnull off, 3)) (ht : (p1 : Int) + off = (pF : Int)) : IC I d pc (p1 + 3) pF (isN e) := by
  intro L M w M' h
  obtain ⟨⟨r, M1⟩, h1, h⟩ := Option.map_eq_some_iff.mp h
  cases h
  obtain ⟨l1, k1⟩ := he L M _ M1 h1
  exact ⟨l1, fun G st C hs hw hr kt kf => k1 G st C hs hw hr (pt_ifnonnull C hd ht (fun h => kf (by cases r <;> first | rfl | exact absurd rfl h)) (fun h => kt (by cases h; rfl)))⟩
theorem ic_isnull_t {e : DA} {off : Int} {pT : Nat} (he : IE va_rf I d pc p1 e) (hd : decode I.1 p1 = .ok (.ifnull off, 3)) (ht : (p1 : Int) + off = (pT : Int)) : IC I d pc pT (p1 + 3) (isN e) := by
  intro L M w M' h
  obtain ⟨⟨r, M1⟩, h1, h⟩ := Option.map_eq_some_iff.mp h
  cases h
  obtain ⟨l1, k1⟩ := he L M _ M1 h1
  exact ⟨l1, fun G st C hs hw hr kt kf => k1 G st C hs hw hr (pt_ifnull C hd ht (fun h => kt (by cases h; rfl)) (fun h => kf (by cases r <;> first | rfl | exact absurd rfl h)))⟩
theorem ic_nonnull_n {e : DA} {off : Int} {pF : Nat} (he : IE va_rf I d pc p1 e) (hd : decode I.1 p1 = .ok (.ifnull off, 3)) (ht : (p1 : Int) + off = (pF : Int)) : IC I d pc (p1 + 3) pF (notN e) := by
  intro L M w M' h
  obtain ⟨⟨r, M1⟩, h1, h⟩ := Option.map_eq_some_iff.mp h
  cases h
  obtain ⟨l1, k1⟩ := he L M _ M1 h1
  exact ⟨l1, fun G st C hs hw hr kt kf => k1 G st C hs hw hr (pt_ifnull C hd ht (fun h => kf (by cases h; rfl)) (fun h => kt (by cases r <;> first | rfl | exact absurd rfl h)))⟩
theorem ic_nonnull_t {e : DA} {off : Int} {pT : Nat} (he : IE va_rf I d pc p1 e) (hd : decode I.1 p1 = .ok (.ifnonnull off, 3)) (ht : (p1 : Int) + off = (pT : Int)) : IC I d pc pT (p1 + 3) (notN e) := by
  intro L M w M' h
  obtain ⟨⟨r, M1⟩, h1, h⟩ := Option.map_eq_some_iff.mp h
  cases h
  obtain ⟨l1, k1⟩ := he L M _ M1 h1
  exact ⟨l1, fun G st C hs hw hr kt kf => k1 G st C hs hw hr (pt_ifnonnull C hd ht (fun h => kt (by cases r <;> first | rfl | exact absurd rfl h)) (fun h => kf (by cases h; rfl)))⟩
theorem ic_acmp_n {a b : DA} {off : Int} {pF : Nat} (ha : IE va_rf I d pc p1 a) (hb : IE va_rf I (d + 1) p1 p2 b) (hd : decode I.1 p2 = .ok (.if_acmp .ne off, 3)) (ht : (p2 : Int) + off = (pF : Int)) : IC I d pc (p2 + 3) pF (eqA a b) := by
  intro L M w M' h
  obtain ⟨⟨x, M1⟩, h1, h⟩ := Option.bind_eq_some_iff.mp h
  obtain ⟨⟨y, M2⟩, h2, h⟩ := Option.bind_eq_some_iff.mp h
  split at h
  · rename_i hh
    cases h
    obtain ⟨l1, k1⟩ := ha L M x M1 h1
    obtain ⟨l2, k2⟩ := hb L M1 y M2 h2
    refine ⟨l1.tr l2, fun G st C hs hw hr kt kf => k1 G st C hs hw (hr.dn l2) (k2 G _ C (csum_rf x hs) (hw.up l1) hr (pt_acmp C (fun X a b ea eb e => ?_) hd ht (fun h => kf (by simpa using h)) (fun h => kt (by simpa using h))))⟩
    subst ea
    subst eb
    exact adr_inj X (by simpa [hiA] using hh.1) (by simpa [hiA] using hh.2) e
  · cases h
theorem ic_and {pM pT pF : Nat} {a b : DC} (ha : IC I d pc pM pF a) (hb : IC I d pM pT pF b) : IC I d pc pT pF (andC a b) := by
  intro L M w M' h
  obtain ⟨⟨r, M1⟩, h1, h⟩ := Option.bind_eq_some_iff.mp h
  obtain ⟨l1, k1⟩ := ha L M _ M1 h1
  cases r with
  | true =>
    obtain ⟨l2, k2⟩ := hb L M1 w M' h
    exact ⟨l1.tr l2, fun G st C hs hw hr kt kf => k1 G st C hs hw (hr.dn l2) (fun _ => k2 G st C hs (hw.up l1) hr kt kf) (fun q => by cases q)⟩
  | false =>
    cases h
    exact ⟨l1, fun G st C hs hw hr kt kf => k1 G st C hs hw hr (fun q => by cases q) kf⟩
theorem ic_or {pM pT pF : Nat} {a b : DC} (ha : IC I d pc pT pM a) (hb : IC I d pM pT pF b) : IC I d pc pT pF (orC a b) := by
  intro L M w M' h
  obtain ⟨⟨r, M1⟩, h1, h⟩ := Option.bind_eq_some_iff.mp h
  obtain ⟨l1, k1⟩ := ha L M _ M1 h1
  cases r with
  | true =>
    cases h
    exact ⟨l1, fun G st C hs hw hr kt kf => k1 G st C hs hw hr kt (fun q => by cases q)⟩
  | false =>
    obtain ⟨l2, k2⟩ := hb L M1 w M' h
    exact ⟨l1.tr l2, fun G st C hs hw hr kt kf => k1 G st C hs hw (hr.dn l2) (fun q => by cases q) (fun _ => k2 G st C hs (hw.up l1) hr kt kf)⟩
theorem ic_not {pT pF : Nat} {a : DC} (ha : IC I d pc pF pT a) : IC I d pc pT pF (notC a) := by
  intro L M w M' h
  obtain ⟨⟨r, M1⟩, h1, h⟩ := Option.map_eq_some_iff.mp h
  cases h
  obtain ⟨l1, k1⟩ := ha L M _ M1 h1
  exact ⟨l1, fun G st C hs hw hr kt kf => k1 G st C hs hw hr (fun q => kf (by have q : r = true := q; rw [q]; rfl)) (fun q => kt (by have q : r = false := q; rw [q]; rfl))⟩
end Conds
end
section
/-! THE CODE DOES WHAT IT MEANS, third part: arguments, calls, new cells, statements, methods -/
def MA (y : MethodName) (I : MI) (f : FN) : Prop := (∀ (as : List Value) (M : Mm) (v : Option Value) (M' : Mm), f as M = some (v, M') → LE M M') ∧ ∀ l : Launch, l.flags = flags0 → MS l y I f
section Args
variable {I J : MI} {d pc p1 p2 n : Nat}
theorem ir_nil : IR I d pc pc 0 r0 := by
  intro L M w M' h
  obtain ⟨rfl, rfl⟩ := some2 h
  exact ⟨LE.rf _, rfl, fun G st C hs hw hr k => k⟩
theorem ir_int {e : DI} {r : DR} (he : IE .int I d pc p1 e) (hrr : IR I (d + 1) p1 p2 n r) : IR I d pc p2 (n + 1) (rI e r) := by
  intro L M w M' h
  obtain ⟨⟨x, M1⟩, h1, h⟩ := Option.bind_eq_some_iff.mp h
  obtain ⟨⟨vs, M2⟩, h2, h⟩ := Option.map_eq_some_iff.mp h
  cases h
  obtain ⟨l1, k1⟩ := he L M x M1 h1
  obtain ⟨l2, n2, k2⟩ := hrr L M1 vs M2 h2
  refine ⟨l1.tr l2, by rw [List.length_cons, n2], fun G st C hs hw hr k => k1 G st C hs hw (hr.dn l2) (k2 G _ C (csum_int x hs) (hw.up l1) hr ?_)⟩
  have e : (Value.int x :: vs).reverse ++ st = vs.reverse ++ .int x :: st := by simp
  rw [← e]
  exact k
theorem ir_ref {e : DA} {r : DR} (he : IE va_rf I d pc p1 e) (hrr : IR I (d + 1) p1 p2 n r) : IR I d pc p2 (n + 1) (rA e r) := by
  intro L M w M' h
  obtain ⟨⟨x, M1⟩, h1, h⟩ := Option.bind_eq_some_iff.mp h
  obtain ⟨⟨vs, M2⟩, h2, h⟩ := Option.map_eq_some_iff.mp h
  cases h
  obtain ⟨l1, k1⟩ := he L M x M1 h1
  obtain ⟨l2, n2, k2⟩ := hrr L M1 vs M2 h2
  refine ⟨l1.tr l2, by rw [List.length_cons, n2], fun G st C hs hw hr k => k1 G st C hs hw (hr.dn l2) (k2 G _ C (csum_rf x hs) (hw.up l1) hr ?_)⟩
  have e : (va_rf x :: vs).reverse ++ st = vs.reverse ++ va_rf x :: st := by simp
  rw [← e]
  exact k
/-- the words of a call: the link's own apart -/
abbrev WC (y : MethodName) (J : MI) : Prop := Cond.initialized y.cls ∈ TG ∧ Cond.code y J.1 J.2.2.1 J.2.2.2.2.2.2 ∈ TG ∧ y.cls ≠ "java/lang/invoke/MethodHandle" ∧ y.cls ≠ "java/lang/invoke/VarHandle"
abbrev RC (I J : MI) (d : Nat) : Prop := J.2.2.2.1 + 1 ≤ I.2.2.2.1 ∧ 8 + (J.2.2.1 + 11) + J.2.2.2.2.1 ≤ I.2.2.2.2.1 ∧ d ≤ 8
/-- what a call's row asks of the heap -/
theorem iv_callS {y : MethodName} {f : FN} {r : DR} {index : Nat} (hrr : IR I d pc p1 n r) (hf : MA y J f) (hw : WC y J) (w1 : Cond.methodLink I.2.1 index y ∈ TG) (w2 : Cond.static y ∈ TG) (hn : (parseMethodDescriptor y.desc).map (fun d => d.parameters.length) = some n) (hR : RC I J d)
    (hd : decode I.1 p1 = .ok (.invokestatic index, 3)) : IV I d pc (p1 + 3) (ivS f r) := by
  intro L M w M' h
  obtain ⟨⟨vs, M1⟩, h1, h⟩ := Option.bind_eq_some_iff.mp h
  obtain ⟨l1, n1, k1⟩ := hrr L M vs M1 h1
  have l2 : LE M1 M' := hf.1 vs M1 w M' h
  exact ⟨l1.tr l2, fun G st C hs hw1 hr k => k1 G st C hs hw1 (hr.dn l2) (pt_callS C (hf.2 (gl G) C.2.2.2.2.2.2.2.2.2.2.2) h w1 w2 hw.1 hw.2.1 ⟨hw.2.2.1, hw.2.2.2, by rw [n1]; exact hn⟩ hR.1 hR.2.1 (Nat.le_trans hs hR.2.2) (hw1.up l1) hr hd k)⟩
theorem iv_callSN {y : MethodName} {f : FN} {r : DR} {index : Nat} {host : String} (hrr : IR I d pc p1 n r) (hf : MA y J f) (hw : WC y J) (w1 : Cond.methodLinkNest I.2.1 index y host ∈ NWL) (w2 : Cond.static y ∈ TG) (hn : (parseMethodDescriptor y.desc).map (fun d => d.parameters.length) = some n) (hR : RC I J d)
    (hd : decode I.1 p1 = .ok (.invokestatic index, 3)) : IV I d pc (p1 + 3) (ivS f r) := by
  intro L M w M' h
  obtain ⟨⟨vs, M1⟩, h1, h⟩ := Option.bind_eq_some_iff.mp h
  obtain ⟨l1, n1, k1⟩ := hrr L M vs M1 h1
  have l2 : LE M1 M' := hf.1 vs M1 w M' h
  exact ⟨l1.tr l2, fun G st C hs hw1 hr k => k1 G st C hs hw1 (hr.dn l2) (pt_callSN C (hf.2 (gl G) C.2.2.2.2.2.2.2.2.2.2.2) h w1 w2 hw.1 hw.2.1 ⟨hw.2.2.1, hw.2.2.2, by rw [n1]; exact hn⟩ hR.1 hR.2.1 (Nat.le_trans hs hR.2.2) (hw1.up l1) hr hd k)⟩
theorem isC_spec {ci b : Nat} {M : Mm} (h : isC ci M b = true) : ∃ fs, M.2.2 b = .inr (ci, fs) := by
  unfold isC at h
  split at h
  · rename_i c fs hM
    have : c = ci := by simpa using h
    subst this
    exact ⟨fs, hM⟩
  · cases h
theorem iv_callV {y : MethodName} {f : FN} {r : DR} {index ci N : Nat} {T : u_T} (hrr : IR I d pc p1 (n + 1) r) (hf : MA y J f) (hw : WC y J) (hc : vwCl[ci]? = some (y.cls, T, N)) (w1 : Cond.methodLink I.2.1 index y ∈ TG) (w2 : Cond.instanceMethod y ∈ TG) (w3 : Cond.selects y.cls y y ∈ TG) (hn : (parseMethodDescriptor y.desc).map (fun d => d.parameters.length) = some n) (hR : RC I J d)
    (hd : decode I.1 p1 = .ok (.invokevirtual index, 3)) : IV I d pc (p1 + 3) (ivV ci f r) := by
  intro L M w M' h
  obtain ⟨⟨vs, M1⟩, h1, h⟩ := Option.bind_eq_some_iff.mp h
  obtain ⟨l1, n1, k1⟩ := hrr L M vs M1 h1
  dsimp only at h
  split at h
  · rename_i b as
    split at h
    · rename_i hb
      obtain ⟨fs, hM⟩ := isC_spec hb
      have l2 : LE M1 M' := hf.1 _ M1 w M' h
      have n2 : as.length = n := by simpa using n1
      exact ⟨l1.tr l2, fun G st C hs hw1 hr k => k1 G st C hs hw1 (hr.dn l2) (pt_callV C (hf.2 (gl G) C.2.2.2.2.2.2.2.2.2.2.2) h hM hc w1 w2 w3 hw.1 hw.2.1 ⟨hw.2.2.1, hw.2.2.2, by rw [n2]; exact hn⟩ hR.1 hR.2.1 (Nat.le_trans hs hR.2.2) (hw1.up l1) hr hd k)⟩
    · cases h
  · cases h
/-- what a new object's row asks of its class -/
abbrev NW (ci : Nat) (Cn : String) (T : u_T) (N : Nat) (fs : List Value) : Prop := FW ci Cn T N ∧ (∃ ty0 : Nat → FieldType, (∀ k, k < N → parseFieldDescriptor (T k).2.2.1 = some (ty0 k)) ∧ ∀ j, j < N → defaultValue (ty0 j) = vp_V fs j) ∧ (∀ X : GF, fs.map (up X) = fs) ∧ Cond.instantiable Cn N ∈ TG ∧ Cond.initialized Cn ∈ TG
theorem new_le {M : Mm} {k : Nat} {c : MC} : LE M (newC M k c) := ⟨Nat.le_succ _, Nat.le_add_right _ _⟩
theorem ia_newO {y : MethodName} {f : FN} {r : DR} {index i2 ci N : Nat} {Cn : String} {T : u_T} {fs : List Value} (hN : NW ci Cn T N fs) (w0 : Cond.classLink I.2.1 index Cn ∈ TG) (hd : decode I.1 pc = .ok (.new index, 3)) (hd2 : decode I.1 (pc + 3) = .ok (.dup, 1))
    (hrr : IR I (d + 2) (pc + 4) p1 n r) (hf : MA y J f) (hy : y.name = "<init>") (hret : J.2.2.2.2.2.2 = none) (hw : WC y J) (w1 : Cond.methodLink I.2.1 i2 y ∈ TG ∨ ∃ host, Cond.methodLinkNest I.2.1 i2 y host ∈ NWL) (w2 : Cond.instanceMethod y ∈ TG) (hn : (parseMethodDescriptor y.desc).map (fun d => d.parameters.length) = some n) (hR : RC I J (d + 1))
    (hd3 : decode I.1 p1 = .ok (.invokespecial i2, 3)) : IE va_rf I d pc (p1 + 3) (newO ci N fs f r) := by
  intro L M w M' h
  obtain ⟨⟨vs, M1⟩, h1, h⟩ := Option.bind_eq_some_iff.mp h
  obtain ⟨⟨o, M2⟩, h2, h⟩ := Option.bind_eq_some_iff.mp h
  obtain ⟨l1, n1, k1⟩ := hrr L _ vs M1 h1
  have l2 : LE M1 M2 := hf.1 _ M1 _ M2 h2
  dsimp only at h
  split at h
  · rename_i ho
    cases h
    refine ⟨new_le.tr (l1.tr l2), fun G st C hs hw1 hr k => ?_⟩
    obtain ⟨⟨hc, hin⟩, ⟨ty0, hty, hfs⟩, hup, q1, q2⟩ := hN
    have hr1 : RM G (newC M N (.inr (ci, fs))) := hr.dn (l1.tr l2)
    refine pt_new C hc hin ty0 hty hfs hup w0 q1 q2 hw1 ⟨hr1.1, hr1.2⟩ hd ?_
    refine pt_dup C hd2 rfl ?_
    refine k1 G _ C (by have := csum_ref M.1 (csum_ref M.1 hs); omega) (hw1.up new_le) (hr.dn l2) ?_
    have e : vs.reverse ++ Value.ref M.1 :: Value.ref M.1 :: st = (Value.ref M.1 :: vs).reverse ++ .ref M.1 :: st := by simp
    rw [e]
    have hwc : Cond.code y J.1 J.2.2.1 none ∈ TG := by have := hw.2.1; rw [hret] at this; exact this
    have hcs : csum (Value.ref M.1 :: st) ≤ 8 := Nat.le_trans (csum_ref M.1 hs) hR.2.2
    rcases w1 with w1 | ⟨host, w1⟩
    · exact pt_callI C hy hret (hf.2 (gl G) C.2.2.2.2.2.2.2.2.2.2.2) h2 w1 w2 hw.1 hwc ⟨hw.2.2.1, hw.2.2.2, by rw [n1]; exact hn⟩ hR.1 hR.2.1 hcs (hw1.up (new_le.tr l1)) hr hd3 k
    · exact pt_callIN C hy hret (hf.2 (gl G) C.2.2.2.2.2.2.2.2.2.2.2) h2 w1 w2 hw.1 hwc ⟨hw.2.2.1, hw.2.2.2, by rw [n1]; exact hn⟩ hR.1 hR.2.1 hcs (hw1.up (new_le.tr l1)) hr hd3 k
  · cases h
theorem cl_of {x : Int32} (h : 0 ≤ x.toInt ∧ x.toInt ≤ 100000) : ¬ x < 0 ∧ x.toNatClampNeg ≤ 100000 := by
  refine ⟨fun q => ?_, ?_⟩
  · rw [Int32.lt_iff_toInt_lt, Int32.toInt_zero] at q
    omega
  · have : (x.toNatClampNeg : Int) = x.toInt := by
      show ((x.toInt.toNat : Nat) : Int) = x.toInt
      omega
    omega
theorem ia_newI {t : Nat} {atype : ArrayType} {e : DI} (he : IE .int I d pc p1 e) (ht : t ≤ 1) (hat : newarray.typeOf atype = atT t) (w1 : Cond.arrayClass (atT t) ∈ TG) (hd : decode I.1 p1 = .ok (.newarray atype, 2)) : IE va_rf I d pc (p1 + 2) (newI t e) := by
  intro L M w M' h
  obtain ⟨⟨x, M1⟩, h1, h⟩ := Option.bind_eq_some_iff.mp h
  dsimp only at h
  split at h
  · rename_i hx
    cases h
    obtain ⟨l1, k1⟩ := he L M x M1 h1
    obtain ⟨x1, x2⟩ := cl_of hx
    exact ⟨l1.tr new_le, fun G st C hs hw hr k => k1 G st C hs hw (hr.dn new_le) (pt_newa C (t := t) (by omega) hat w1 x1 rfl x2 (fun X cA => by rcases (show t = 0 ∨ t = 1 by omega) with rfl | rfl <;> rfl) (hw.up l1) hr hd k)⟩
  · cases h
theorem ia_newJ {e : DI} (he : IE .int I d pc p1 e) (w1 : Cond.arrayClass .long ∈ TG) (hd : decode I.1 p1 = .ok (.newarray .long, 2)) : IE va_rf I d pc (p1 + 2) (newJ e) := by
  intro L M w M' h
  obtain ⟨⟨x, M1⟩, h1, h⟩ := Option.bind_eq_some_iff.mp h
  dsimp only at h
  split at h
  · rename_i hx
    cases h
    obtain ⟨l1, k1⟩ := he L M x M1 h1
    obtain ⟨x1, x2⟩ := cl_of hx
    exact ⟨l1.tr new_le, fun G st C hs hw hr k => k1 G st C hs hw (hr.dn new_le) (pt_newa C (t := 2) (by omega) rfl w1 x1 rfl x2 (fun X cA => rfl) (hw.up l1) hr hd k)⟩
  · cases h
theorem ia_newA {t index : Nat} {Cn : String} {e : DI} (he : IE .int I d pc p1 e) (ht : 3 ≤ t ∧ t ≤ 5) (hat : atT t = .object Cn) (w1 : Cond.classLink I.2.1 index Cn ∈ TG) (w2 : Cond.arrayOver (.object Cn) ∈ TG) (hd : decode I.1 p1 = .ok (.anewarray index, 3)) : IE va_rf I d pc (p1 + 3) (newA t e) := by
  intro L M w M' h
  obtain ⟨⟨x, M1⟩, h1, h⟩ := Option.bind_eq_some_iff.mp h
  dsimp only at h
  split at h
  · rename_i hx
    cases h
    obtain ⟨l1, k1⟩ := he L M x M1 h1
    obtain ⟨x1, x2⟩ := cl_of hx
    exact ⟨l1.tr new_le, fun G st C hs hw hr k => k1 G st C hs hw (hr.dn new_le) (pt_anew C ht hat w1 w2 x1 rfl x2 (hw.up l1) hr hd k)⟩
  · cases h
theorem wrI_spec {t a : Nat} {i x : Int32} {M M' : Mm} (h : wrI t a i x M = some M') : ∃ n f, M.2.2 a = .inl (t, n, .inl f) ∧ vp_in i n ∧ 5 ≤ a ∧ M' = setC M a (.inl (t, n, .inl (upd f i.toNatClampNeg x))) := by
  unfold wrI at h
  split at h
  · rename_i t' n f hM
    split at h
    · rename_i hc
      obtain ⟨rfl, hc, h5⟩ := hc
      cases h
      exact ⟨n, f, hM, inb_in hc, h5, rfl⟩
    · cases h
  · cases h
theorem wrA_spec {t a : Nat} {i : Int32} {x : Option Nat} {M M' : Mm} (h : wrA t a i x M = some M') : ∃ n f, M.2.2 a = .inl (t, n, .inr (.inr (.inr (.inr f)))) ∧ vp_in i n ∧ 5 ≤ a ∧ isE t M x = true ∧ M' = setC M a (.inl (t, n, .inr (.inr (.inr (.inr (va_up f i.toNatClampNeg x)))))) := by
  unfold wrA at h
  split at h
  · rename_i t' n f hM
    split at h
    · rename_i hc
      obtain ⟨rfl, hc, h5, h6⟩ := hc
      cases h
      exact ⟨n, f, hM, inb_in hc, h5, h6, rfl⟩
    · cases h
  · cases h
theorem wrF_spec {ci k a : Nat} {v : Value} {M M' : Mm} (h : wrF ci k a v M = some M') : ∃ fs, M.2.2 a = .inr (ci, fs) ∧ k < fs.length ∧ M' = setC M a (.inr (ci, fs.set k v)) := by
  unfold wrF at h
  split at h
  · rename_i c fs hM
    split at h
    · rename_i hc
      obtain ⟨rfl, hc⟩ := hc
      cases h
      exact ⟨fs, hM, hc, rfl⟩
    · cases h
  · cases h
theorem set_le {M : Mm} {a : Nat} {c : MC} : LE M (setC M a c) := ⟨Nat.le_refl _, Nat.le_refl _⟩
/-- one place of an array written out -/
def litE (e : DA) (i v : DI) : DA := fun L M => (e L M).bind fun q => q.1.bind fun a => (i L q.2).bind fun j => (v L j.2).bind fun x => (wrI 0 a j.1 x.1 x.2).map fun M2 => (some a, M2)
theorem ia_lit {p3 : Nat} {e : DA} {i v : DI} (he : IE va_rf I d pc p1 e) (hd : decode I.1 p1 = .ok (.dup, 1)) (hi : IE .int I (d + 2) (p1 + 1) p2 i) (hv : IE .int I (d + 3) p2 p3 v) (hd2 : decode I.1 p3 = .ok (.iastore, 1)) : IE va_rf I d pc (p3 + 1) (litE e i v) := by
  intro L M w M' h
  obtain ⟨⟨r, M1⟩, h1, h⟩ := Option.bind_eq_some_iff.mp h
  obtain ⟨a, h2, h⟩ := Option.bind_eq_some_iff.mp h
  obtain ⟨⟨j, M2⟩, h3, h⟩ := Option.bind_eq_some_iff.mp h
  obtain ⟨⟨x, M3⟩, h4, h⟩ := Option.bind_eq_some_iff.mp h
  obtain ⟨M4, h5, h6⟩ := Option.map_eq_some_iff.mp h
  cases h6
  have h2 : r = some a := h2
  subst h2
  obtain ⟨l1, k1⟩ := he L M _ M1 h1
  obtain ⟨l2, k2⟩ := hi L M1 _ M2 h3
  obtain ⟨l3, k3⟩ := hv L M2 _ M3 h4
  obtain ⟨n, f, hM, hin, ha5, rfl⟩ := wrI_spec h5
  refine ⟨l1.tr (l2.tr (l3.tr set_le)), fun G st C hs hw hr k => ?_⟩
  have c2 := csum_rf (some a) (csum_rf (some a) hs)
  exact k1 G st C hs hw (hr.dn (l2.tr (l3.tr set_le))) (pt_dup C hd rfl (k2 G _ C (by omega) (hw.up l1) (hr.dn (l3.tr set_le)) (k3 G _ C (csum_int j (by omega)) (hw.up (l1.tr l2)) (hr.dn set_le) (pt_iast C hM ha5 hin hd2 k))))
theorem ia_clone {e : DA} {index i2 : Nat} (he : IE va_rf I d pc p1 e) (w1 : Cond.methodLink I.2.1 index ⟨"[I", "clone", "()Ljava/lang/Object;"⟩ ∈ TG) (w2 : Cond.sameMethod "[I" "java/lang/Object" "clone" "()Ljava/lang/Object;" ∈ TG)
    (w3 : Cond.native ⟨"java/lang/Object", "clone", "()Ljava/lang/Object;"⟩ ∈ TG) (w4 : Cond.instanceMethod ⟨"java/lang/Object", "clone", "()Ljava/lang/Object;"⟩ ∈ TG) (w5 : Cond.selects "[I" ⟨"[I", "clone", "()Ljava/lang/Object;"⟩ ⟨"java/lang/Object", "clone", "()Ljava/lang/Object;"⟩ ∈ TG) (w6 : Cond.castable "[I" "java/lang/Cloneable" ∈ NWL)
    (w7 : Cond.classLink I.2.1 i2 "[I" ∈ TG) (hfr : 1 ≤ I.2.2.2.1) (hlo : d + 14 ≤ I.2.2.2.2.1) (hd : decode I.1 p1 = .ok (.invokevirtual index, 3)) (hd2 : decode I.1 (p1 + 3) = .ok (.checkcast i2, 3)) : IE va_rf I d pc (p1 + 3 + 3) (cloI e) := by
  intro L M w M' h
  obtain ⟨⟨r, M1⟩, h1, h⟩ := Option.bind_eq_some_iff.mp h
  obtain ⟨a, h2, h⟩ := Option.bind_eq_some_iff.mp h
  have h2 : r = some a := h2
  subst h2
  dsimp only at h
  split at h
  · rename_i n f hM
    split at h
    · rename_i h5
      cases h
      obtain ⟨l1, k1⟩ := he L M _ M1 h1
      refine ⟨l1.tr new_le, fun G st C hs hw hr k => k1 G st C hs hw (hr.dn new_le) ?_⟩
      refine pt_clone C hM h5 w1 w2 w3 w4 w5 w6 hfr (Nat.le_trans (Nat.add_le_add_right hs 14) hlo) (hw.up l1) hr hd ?_
      intro ls H locs hl hR hS
      exact pt_castA C (a := M1.1) (n := n) (f := f) (show (if M1.1 = M1.1 then _ else _) = _ from if_pos rfl) (by have : 5 ≤ M1.1 + 1 := hR.1.1; have h8 := hR.ltA (a := a) (t := 0) (x := (n, .inl f)) (show (if a = M1.1 then _ else M1.2.2 a) = _ by split <;> first | rfl | exact hM); have h9 : a < M1.1 + 1 := h8; omega) w7 hd2 k ls H locs hl hR hS
    · cases h
  · cases h
end Args
end
section
/-! THE CODE DOES WHAT IT MEANS, last part: statements, methods -/
theorem PT.weak {G : GT} {pc : Nat} {L1 L2 : Lv} {st : List Value} {M : Mm} (h : ∀ (i : Nat) (v : Value), L2[i]? = some (some v) → L1[i]? = some (some v)) (k : PT G pc L2 st M) : PT G pc L1 st M :=
  fun ls H locs hl hR hS => k ls H locs ⟨hl.1, hl.2.1, fun i v q => hl.2.2 i v (h i v q)⟩ hR hS
theorem clr_get {k i : Nat} {L : Lv} {v : Value} (h : (clr k L)[i]? = some (some v)) : L[i]? = some (some v) := by
  unfold clr at h
  by_cases hi : i < (L.take k).length
  · rw [List.getElem?_append_left hi] at h
    rw [List.getElem?_take] at h
    split at h
    · exact h
    · cases h
  · rw [List.getElem?_append_right (by omega)] at h
    have := List.getElem?_eq_some_iff.mp h
    obtain ⟨h1, h2⟩ := this
    rw [List.getElem_replicate] at h2
    cases h2
section Stms
variable {I J : MI} {pc p1 p2 p3 tN tB tC : Nat}
theorem csum0 : csum [] ≤ 0 := Nat.le_refl _
theorem is_nop (hj : Jp I pc tN) : IS I pc tN tB tC nop := by
  intro L M L' M' c v h
  cases h
  exact ⟨LE.rf _, fun G C hw hr k0 _ _ _ => hj.pt C (k0 rfl)⟩
theorem is_brk (hj : Jp I pc tB) : IS I pc tN tB tC brk := by
  intro L M L' M' c v h
  cases h
  exact ⟨LE.rf _, fun G C hw hr _ k1 _ _ => hj.pt C (k1 rfl)⟩
theorem is_cnt (hj : Jp I pc tC) : IS I pc tN tB tC cnt := by
  intro L M L' M' c v h
  cases h
  exact ⟨LE.rf _, fun G C hw hr _ _ k2 _ => hj.pt C (k2 rfl)⟩
theorem is_thr : IS I pc tN tB tC thr := by
  intro L M L' M' c v h
  cases h
theorem is_seq {pm : Nat} {a b : DS} (ha : IS I pc pm tB tC a) (hb : IS I pm tN tB tC b) : IS I pc tN tB tC (seqS a b) := by
  intro L M L' M' c v h
  obtain ⟨⟨L1, M1, c1, v1⟩, h1, h⟩ := Option.bind_eq_some_iff.mp h
  obtain ⟨l1, k1⟩ := ha L M L1 M1 c1 v1 h1
  dsimp only at h
  split at h
  · rename_i hc
    subst hc
    obtain ⟨l2, k2⟩ := hb L1 M1 L' M' c v h
    exact ⟨l1.tr l2, fun G C hw hr q0 q1 q2 q3 => k1 G C hw (hr.dn l2) (fun _ => k2 G C (hw.up l1) hr q0 q1 q2 q3) (fun z => by cases z) (fun z => by cases z) (fun z => by cases z)⟩
  · rename_i hc
    cases h
    exact ⟨l1, fun G C hw hr q0 q1 q2 q3 => k1 G C hw hr (fun z => absurd z hc) q1 q2 q3⟩
theorem is_setI_n {q : Fin 4} {i : Nat} {e : DI} (he : IE .int I 0 pc p1 e) (hd : decode I.1 p1 = .ok (.istore_n q, 1)) (hi : (q : Nat) = i) (hn : i < I.2.2.1) (hj : Jp I (p1 + 1) tN) : IS I pc tN tB tC (setI i e) := by
  intro L M L' M' c v h
  obtain ⟨⟨x, M1⟩, h1, h⟩ := Option.map_eq_some_iff.mp h
  cases h
  obtain ⟨l1, k1⟩ := he L M _ _ h1
  exact ⟨l1, fun G C hw hr q0 _ _ _ => k1 G [] C csum0 hw hr (pt_istore_n C hd hi hn (hj.pt C (q0 rfl)))⟩
theorem is_setI {i : Nat} {e : DI} (he : IE .int I 0 pc p1 e) (hd : decode I.1 p1 = .ok (.istore i, 2)) (hn : i < I.2.2.1) (hj : Jp I (p1 + 2) tN) : IS I pc tN tB tC (setI i e) := by
  intro L M L' M' c v h
  obtain ⟨⟨x, M1⟩, h1, h⟩ := Option.map_eq_some_iff.mp h
  cases h
  obtain ⟨l1, k1⟩ := he L M _ _ h1
  exact ⟨l1, fun G C hw hr q0 _ _ _ => k1 G [] C csum0 hw hr (pt_istore C hd hn (hj.pt C (q0 rfl)))⟩
theorem is_setJ {i : Nat} {e : DJ} (he : IE .long I 0 pc p1 e) (hd : decode I.1 p1 = .ok (.lstore i, 2)) (hn : i + 1 < I.2.2.1) (hj : Jp I (p1 + 2) tN) : IS I pc tN tB tC (setJ i e) := by
  intro L M L' M' c v h
  obtain ⟨⟨x, M1⟩, h1, h⟩ := Option.map_eq_some_iff.mp h
  cases h
  obtain ⟨l1, k1⟩ := he L M _ _ h1
  exact ⟨l1, fun G C hw hr q0 _ _ _ => k1 G [] C csum0 hw hr (pt_lstore C hd hn (hj.pt C (q0 rfl)))⟩
theorem is_setA_n {q : Fin 4} {i : Nat} {e : DA} (he : IE va_rf I 0 pc p1 e) (hd : decode I.1 p1 = .ok (.astore_n q, 1)) (hi : (q : Nat) = i) (hn : i < I.2.2.1) (hj : Jp I (p1 + 1) tN) : IS I pc tN tB tC (setA i e) := by
  intro L M L' M' c v h
  obtain ⟨⟨x, M1⟩, h1, h⟩ := Option.map_eq_some_iff.mp h
  cases h
  obtain ⟨l1, k1⟩ := he L M _ _ h1
  exact ⟨l1, fun G C hw hr q0 _ _ _ => k1 G [] C csum0 hw hr (pt_astore_n C hd hi hn (hj.pt C (q0 rfl)))⟩
theorem is_setA {i : Nat} {e : DA} (he : IE va_rf I 0 pc p1 e) (hd : decode I.1 p1 = .ok (.astore i, 2)) (hn : i < I.2.2.1) (hj : Jp I (p1 + 2) tN) : IS I pc tN tB tC (setA i e) := by
  intro L M L' M' c v h
  obtain ⟨⟨x, M1⟩, h1, h⟩ := Option.map_eq_some_iff.mp h
  cases h
  obtain ⟨l1, k1⟩ := he L M _ _ h1
  exact ⟨l1, fun G C hw hr q0 _ _ _ => k1 G [] C csum0 hw hr (pt_astore C hd hn (hj.pt C (q0 rfl)))⟩
theorem is_inc {i : Nat} {n : Int} {w : Int32} (hd : decode I.1 pc = .ok (.iinc i n, 3)) (hw0 : Int32.ofInt n = w) (hn : i < I.2.2.1) (hj : Jp I (pc + 3) tN) : IS I pc tN tB tC (incI i w) := by
  intro L M L' M' c v h
  obtain ⟨o, h1, h⟩ := Option.bind_eq_some_iff.mp h
  obtain ⟨u, rfl, h⟩ := Option.bind_eq_some_iff.mp h
  obtain ⟨x, h2, h3⟩ := Option.map_eq_some_iff.mp h
  cases h3
  rw [asI_i h2] at h1
  exact ⟨LE.rf _, fun G C hw hr q0 _ _ _ => pt_iinc C hd h1 (by rw [hw0]) hn (hj.pt C (q0 rfl))⟩
/-- what a store into a field asks of its class -/
abbrev PW (Cn : String) (T : u_T) (N : Nat) : Prop := ∃ ty0 : Nat → FieldType, (∀ k, k < N → parseFieldDescriptor (T k).2.2.1 = some (ty0 k)) ∧ ∀ a, a < N → ∀ b, b < N → a ≠ b → (T a).2.1 ≠ (T b).2.1
abbrev PF (I : MI) (T : u_T) (k : Nat) : Prop := (T k).2.2.2 = false ∨ ((T k).2.2.2 = true ∧ I.2.2.2.2.2.1 = "<init>" ∧ (T k).1 = I.2.1)
theorem rf_arr (t : FieldType) (X : GF) (r : Option Nat) : narrow (.array t) (up X (va_rf r)) = up X (va_rf r) ∧ fits (.array t) (up X (va_rf r)) = true := by cases r <;> exact ⟨rfl, rfl⟩
theorem rf_obj (t : String) (X : GF) (r : Option Nat) : narrow (.object t) (up X (va_rf r)) = up X (va_rf r) ∧ fits (.object t) (up X (va_rf r)) = true := by cases r <;> exact ⟨rfl, rfl⟩
theorem pt_putX {G : GT} {L : Lv} {st : List Value} {M : Mm} (C : CX G I) {a ci k index N : Nat} {fs : List Value} {v : Value} {Cn : String} {T : u_T} {ty : FieldType} (hM : M.2.2 a = .inr (ci, fs)) (hl : k < fs.length) (hF : FW ci Cn T N) (hP : PW Cn T N) (hk : k < N) (hf : PF I T k) (hw : Cond.fieldLink I.2.1 index (T k).1 (T k).2.1 (T k).2.2.1 ∈ TG)
    (hty1 : parseFieldDescriptor (T k).2.2.1 = some ty) (hn : ∀ X : GF, narrow ty (up X v) = up X v ∧ fits ty (up X v) = true) (hd : decode I.1 pc = .ok (.putfield index, 3)) (kk : PT G (pc + 3) L st (setC M a (.inr (ci, fs.set k v)))) : PT G pc L (v :: .ref a :: st) M := by
  obtain ⟨ty0, hty, hnm⟩ := hP
  rcases hf with hf | ⟨hf, h1, h2⟩
  · exact pt_put C hM hl hF.1 hk hF.2 ty0 hty hnm hw hf hty1 hn hd kk
  · exact pt_putF C hM hl hF.1 hk hF.2 ty0 hty hnm hw hf h1 h2 hty1 hn hd kk
theorem is_pfI {ci k index N : Nat} {Cn : String} {T : u_T} {o : DA} {e : DI} (ho : IE va_rf I 0 pc p1 o) (he : IE .int I 1 p1 p2 e) (hF : FW ci Cn T N) (hP : PW Cn T N) (hk : k < N) (hf : PF I T k) (hw : Cond.fieldLink I.2.1 index (T k).1 (T k).2.1 (T k).2.2.1 ∈ TG) (hty : parseFieldDescriptor (T k).2.2.1 = some .int)
    (hd : decode I.1 p2 = .ok (.putfield index, 3)) (hj : Jp I (p2 + 3) tN) : IS I pc tN tB tC (pfI ci k o e) := by
  intro L M L' M' c v h
  obtain ⟨⟨r, M1⟩, h1, h⟩ := Option.bind_eq_some_iff.mp h
  obtain ⟨a, h2, h⟩ := Option.bind_eq_some_iff.mp h
  obtain ⟨⟨x, M2⟩, h3, h⟩ := Option.bind_eq_some_iff.mp h
  obtain ⟨M3, h4, h5⟩ := Option.map_eq_some_iff.mp h
  cases h5
  have h2 : r = some a := h2
  subst h2
  obtain ⟨fs, hM, hl, rfl⟩ := wrF_spec h4
  obtain ⟨l1, k1⟩ := ho L M _ M1 h1
  obtain ⟨l2, k2⟩ := he L M1 _ M2 h3
  exact ⟨l1.tr (l2.tr set_le), fun G C hw1 hr q0 _ _ _ => k1 G [] C csum0 hw1 (hr.dn (l2.tr set_le)) (k2 G _ C (csum_rf _ csum0) (hw1.up l1) (hr.dn set_le) (pt_putX C hM hl hF hP hk hf hw hty (fun X => ⟨rfl, rfl⟩) hd (hj.pt C (q0 rfl))))⟩
theorem is_pfA {ci k index N : Nat} {Cn : String} {T : u_T} {ty : FieldType} {o e : DA} (ho : IE va_rf I 0 pc p1 o) (he : IE va_rf I 1 p1 p2 e) (hF : FW ci Cn T N) (hP : PW Cn T N) (hk : k < N) (hf : PF I T k) (hw : Cond.fieldLink I.2.1 index (T k).1 (T k).2.1 (T k).2.2.1 ∈ TG) (hty : parseFieldDescriptor (T k).2.2.1 = some ty) (hn : ∀ (X : GF) (r : Option Nat), narrow ty (up X (va_rf r)) = up X (va_rf r) ∧ fits ty (up X (va_rf r)) = true)
    (hd : decode I.1 p2 = .ok (.putfield index, 3)) (hj : Jp I (p2 + 3) tN) : IS I pc tN tB tC (pfA ci k o e) := by
  intro L M L' M' c v h
  obtain ⟨⟨r, M1⟩, h1, h⟩ := Option.bind_eq_some_iff.mp h
  obtain ⟨a, h2, h⟩ := Option.bind_eq_some_iff.mp h
  obtain ⟨⟨x, M2⟩, h3, h⟩ := Option.bind_eq_some_iff.mp h
  obtain ⟨M3, h4, h5⟩ := Option.map_eq_some_iff.mp h
  cases h5
  have h2 : r = some a := h2
  subst h2
  obtain ⟨fs, hM, hl, rfl⟩ := wrF_spec h4
  obtain ⟨l1, k1⟩ := ho L M _ M1 h1
  obtain ⟨l2, k2⟩ := he L M1 _ M2 h3
  exact ⟨l1.tr (l2.tr set_le), fun G C hw1 hr q0 _ _ _ => k1 G [] C csum0 hw1 (hr.dn (l2.tr set_le)) (k2 G _ C (csum_rf _ csum0) (hw1.up l1) (hr.dn set_le) (pt_putX C hM hl hF hP hk hf hw hty (fun X => hn X x) hd (hj.pt C (q0 rfl))))⟩
/-- o.f op= e, with op one instruction -/
theorem is_upF {ci k index i2 N : Nat} {Cn : String} {T : u_T} {op : Int32 → Int32 → Option Int32} {o : DA} {e : DI} (ho : IE va_rf I 0 pc p1 o) (hd1 : decode I.1 p1 = .ok (.dup, 1)) (hd2 : decode I.1 (p1 + 1) = .ok (.getfield i2, 3)) (he : IE .int I 2 (p1 + 4) p2 e) (hF : FW ci Cn T N) (hP : PW Cn T N) (hk : k < N) (hf : PF I T k) (hw2 : Cond.fieldLink I.2.1 i2 (T k).1 (T k).2.1 (T k).2.2.1 ∈ TG) (hw : Cond.fieldLink I.2.1 index (T k).1 (T k).2.1 (T k).2.2.1 ∈ TG) (hty : parseFieldDescriptor (T k).2.2.1 = some .int)
    (hop : ∀ (G : GT) (L : Lv) (st : List Value) (M : Mm) (x y z : Int32), CX G I → op x y = some z → PT G (p2 + 1) L (.int z :: st) M → PT G p2 L (.int y :: .int x :: st) M)
    (hd : decode I.1 (p2 + 1) = .ok (.putfield index, 3)) (hj : Jp I (p2 + 1 + 3) tN) : IS I pc tN tB tC (upF ci k o op e) := by
  intro L M L' M' c v h
  obtain ⟨⟨r, M1⟩, h1, h⟩ := Option.bind_eq_some_iff.mp h
  obtain ⟨a, h2, h⟩ := Option.bind_eq_some_iff.mp h
  obtain ⟨u, h3, h⟩ := Option.bind_eq_some_iff.mp h
  obtain ⟨x, h4, h⟩ := Option.bind_eq_some_iff.mp h
  obtain ⟨⟨y, M2⟩, h5, h⟩ := Option.bind_eq_some_iff.mp h
  obtain ⟨z, h6, h⟩ := Option.bind_eq_some_iff.mp h
  obtain ⟨M3, h7, h8⟩ := Option.map_eq_some_iff.mp h
  cases h8
  have h2 : r = some a := h2
  subst h2
  rw [asI_i h4] at h3
  obtain ⟨fs0, hM0, hv0⟩ := rdF_spec h3
  obtain ⟨fs, hM, hl, rfl⟩ := wrF_spec h7
  obtain ⟨l1, k1⟩ := ho L M _ M1 h1
  obtain ⟨l2, k2⟩ := he L M1 _ M2 h5
  refine ⟨l1.tr (l2.tr set_le), fun G C hw1 hr q0 _ _ _ => k1 G [] C csum0 hw1 (hr.dn (l2.tr set_le)) ?_⟩
  refine pt_dup C hd1 rfl ?_
  refine pt_get C hM0 hv0 hF.1 hk hF.2 hw2 hd2 ?_
  refine k2 G _ C (csum_int x (csum_rf (some a) csum0)) (hw1.up l1) (hr.dn set_le) ?_
  exact hop G L _ M2 x y z C h6 (pt_putX C hM hl hF hP hk hf hw hty (fun X => ⟨rfl, rfl⟩) hd (hj.pt C (q0 rfl)))
theorem is_paI {o : DA} {i e : DI} (ho : IE va_rf I 0 pc p1 o) (hi : IE .int I 1 p1 p2 i) (he : IE .int I 2 p2 p3 e) (hd : decode I.1 p3 = .ok (.iastore, 1)) (hj : Jp I (p3 + 1) tN) : IS I pc tN tB tC (paI 0 o i e) := by
  intro L M L' M' c v h
  obtain ⟨⟨r, M1⟩, h1, h⟩ := Option.bind_eq_some_iff.mp h
  obtain ⟨a, h2, h⟩ := Option.bind_eq_some_iff.mp h
  obtain ⟨⟨j, M2⟩, h3, h⟩ := Option.bind_eq_some_iff.mp h
  obtain ⟨⟨x, M3⟩, h4, h⟩ := Option.bind_eq_some_iff.mp h
  dsimp only at h
  rw [if_pos (Or.inl rfl)] at h
  obtain ⟨M4, h5, h6⟩ := Option.map_eq_some_iff.mp h
  cases h6
  have h2 : r = some a := h2
  subst h2
  obtain ⟨n, f, hM, hin, h5a, rfl⟩ := wrI_spec h5
  obtain ⟨l1, k1⟩ := ho L M _ M1 h1
  obtain ⟨l2, k2⟩ := hi L M1 _ M2 h3
  obtain ⟨l3, k3⟩ := he L M2 _ M3 h4
  exact ⟨l1.tr (l2.tr (l3.tr set_le)), fun G C hw1 hr q0 _ _ _ => k1 G [] C csum0 hw1 (hr.dn (l2.tr (l3.tr set_le))) (k2 G _ C (csum_rf _ csum0) (hw1.up l1) (hr.dn (l3.tr set_le)) (k3 G _ C (csum_int _ (csum_rf _ csum0)) (hw1.up (l1.tr l2)) (hr.dn set_le) (pt_iast C hM h5a hin hd (hj.pt C (q0 rfl)))))⟩
theorem is_paZ {o : DA} {i e : DI} (ho : IE va_rf I 0 pc p1 o) (hi : IE .int I 1 p1 p2 i) (he : IE .int I 2 p2 p3 e) (hd : decode I.1 p3 = .ok (.bastore, 1)) (hj : Jp I (p3 + 1) tN) : IS I pc tN tB tC (paI 1 o i e) := by
  intro L M L' M' c v h
  obtain ⟨⟨r, M1⟩, h1, h⟩ := Option.bind_eq_some_iff.mp h
  obtain ⟨a, h2, h⟩ := Option.bind_eq_some_iff.mp h
  obtain ⟨⟨j, M2⟩, h3, h⟩ := Option.bind_eq_some_iff.mp h
  obtain ⟨⟨x, M3⟩, h4, h⟩ := Option.bind_eq_some_iff.mp h
  dsimp only at h
  split at h
  · rename_i hz
    obtain ⟨M4, h5, h6⟩ := Option.map_eq_some_iff.mp h
    cases h6
    have h2 : r = some a := h2
    subst h2
    have hx : x = 0 ∨ x = 1 := hz.elim (fun q => by cases q) (fun q => q.2)
    obtain ⟨n, f, hM, hin, h5a, rfl⟩ := wrI_spec h5
    obtain ⟨l1, k1⟩ := ho L M _ M1 h1
    obtain ⟨l2, k2⟩ := hi L M1 _ M2 h3
    obtain ⟨l3, k3⟩ := he L M2 _ M3 h4
    exact ⟨l1.tr (l2.tr (l3.tr set_le)), fun G C hw1 hr q0 _ _ _ => k1 G [] C csum0 hw1 (hr.dn (l2.tr (l3.tr set_le))) (k2 G _ C (csum_rf _ csum0) (hw1.up l1) (hr.dn (l3.tr set_le)) (k3 G _ C (csum_int _ (csum_rf _ csum0)) (hw1.up (l1.tr l2)) (hr.dn set_le) (pt_zast C hM h5a hin hx hd (hj.pt C (q0 rfl)))))⟩
  · cases h
theorem is_paA {t : Nat} {o : DA} {i : DI} {e : DA} (ht : 3 ≤ t ∧ t ≤ 5) (ho : IE va_rf I 0 pc p1 o) (hi : IE .int I 1 p1 p2 i) (he : IE va_rf I 2 p2 p3 e) (hd : decode I.1 p3 = .ok (.aastore, 1)) (hj : Jp I (p3 + 1) tN) : IS I pc tN tB tC (paA t o i e) := by
  intro L M L' M' c v h
  obtain ⟨⟨r, M1⟩, h1, h⟩ := Option.bind_eq_some_iff.mp h
  obtain ⟨a, h2, h⟩ := Option.bind_eq_some_iff.mp h
  obtain ⟨⟨j, M2⟩, h3, h⟩ := Option.bind_eq_some_iff.mp h
  obtain ⟨⟨x, M3⟩, h4, h⟩ := Option.bind_eq_some_iff.mp h
  obtain ⟨M4, h5, h6⟩ := Option.map_eq_some_iff.mp h
  cases h6
  have h2 : r = some a := h2
  subst h2
  obtain ⟨n, f, hM, hin, h5a, hE, rfl⟩ := wrA_spec h5
  obtain ⟨l1, k1⟩ := ho L M _ M1 h1
  obtain ⟨l2, k2⟩ := hi L M1 _ M2 h3
  obtain ⟨l3, k3⟩ := he L M2 _ M3 h4
  refine ⟨l1.tr (l2.tr (l3.tr set_le)), fun G C hw1 hr q0 _ _ _ => k1 G [] C csum0 hw1 (hr.dn (l2.tr (l3.tr set_le))) (k2 G _ C (csum_rf _ csum0) (hw1.up l1) (hr.dn (l3.tr set_le)) (k3 G _ C (csum_int _ (csum_rf _ csum0)) (hw1.up (l1.tr l2)) (hr.dn set_le) (pt_aast C hM ht h5a hin (fun b hb => ?_) hd (hj.pt C (q0 rfl)))))⟩
  have hb : x = some b := hb
  subst hb
  exact isC_spec hE
theorem is_exV {e : DV} (he : IV I 0 pc p1 e) (hj : Jp I p1 tN) : IS I pc tN tB tC (exV e) := by
  intro L M L' M' c v h
  obtain ⟨⟨r, M1⟩, h1, h⟩ := Option.bind_eq_some_iff.mp h
  dsimp only at h
  split at h
  · cases h
    obtain ⟨l1, k1⟩ := he L M _ _ h1
    exact ⟨l1, fun G C hw1 hr q0 _ _ _ => k1 G [] C csum0 hw1 hr (hj.pt C (q0 rfl))⟩
  · cases h
theorem is_exP {e : DV} (he : IV I 0 pc p1 e) (hd : decode I.1 p1 = .ok (.pop, 1)) (hj : Jp I (p1 + 1) tN) : IS I pc tN tB tC (exP e) := by
  intro L M L' M' c v h
  obtain ⟨⟨r, M1⟩, h1, h⟩ := Option.bind_eq_some_iff.mp h
  dsimp only at h
  split at h
  · cases h
  · rename_i w
    split at h
    · rename_i hc
      cases h
      obtain ⟨l1, k1⟩ := he L M _ _ h1
      exact ⟨l1, fun G C hw1 hr q0 _ _ _ => k1 G [] C csum0 hw1 hr (pt_pop C hd hc (hj.pt C (q0 rfl)))⟩
    · cases h
theorem is_if {pT pF : Nat} {cd : DC} {a b : DS} (hc : IC I 0 pc pT pF cd) (ha : IS I pT tN tB tC a) (hb : IS I pF tN tB tC b) : IS I pc tN tB tC (ifS cd a b) := by
  intro L M L' M' c v h
  obtain ⟨⟨r, M1⟩, h1, h⟩ := Option.bind_eq_some_iff.mp h
  obtain ⟨l1, k1⟩ := hc L M _ M1 h1
  cases r with
  | true =>
    obtain ⟨l2, k2⟩ := ha L M1 L' M' c v h
    exact ⟨l1.tr l2, fun G C hw hr q0 q1 q2 q3 => k1 G [] C csum0 hw (hr.dn l2) (fun _ => k2 G C (hw.up l1) hr q0 q1 q2 q3) (fun z => by cases z)⟩
  | false =>
    obtain ⟨l2, k2⟩ := hb L M1 L' M' c v h
    exact ⟨l1.tr l2, fun G C hw hr q0 q1 q2 q3 => k1 G [] C csum0 hw (hr.dn l2) (fun z => by cases z) (fun _ => k2 G C (hw.up l1) hr q0 q1 q2 q3)⟩
theorem is_retV (hd : decode I.1 pc = .ok (.return_, 1)) (ht : I.2.2.2.2.2.2 = none) : IS I pc tN tB tC retV := by
  intro L M L' M' c v h
  cases h
  exact ⟨LE.rf _, fun G C hw hr _ _ _ k3 => k3 rfl L pc (by rw [ht]; exact hd) (by rw [ht]; rfl)⟩
theorem is_retI {e : DI} (he : IE .int I 0 pc p1 e) (hd : decode I.1 p1 = .ok (.ireturn, 1)) (ht : I.2.2.2.2.2.2 = some .int) : IS I pc tN tB tC (retI e) := by
  intro L M L' M' c v h
  obtain ⟨⟨x, M1⟩, h1, h⟩ := Option.map_eq_some_iff.mp h
  cases h
  obtain ⟨l1, k1⟩ := he L M _ _ h1
  exact ⟨l1, fun G C hw hr _ _ _ k3 => k1 G [] C csum0 hw hr (k3 rfl L p1 (by rw [ht]; exact hd) (by rw [ht]; exact ⟨x, rfl⟩))⟩
theorem is_retZ {e : DI} (he : IE .int I 0 pc p1 e) (hd : decode I.1 p1 = .ok (.ireturn, 1)) (ht : I.2.2.2.2.2.2 = some .boolean) : IS I pc tN tB tC (retZ e) := by
  intro L M L' M' c v h
  obtain ⟨⟨x, M1⟩, h1, h⟩ := Option.bind_eq_some_iff.mp h
  dsimp only at h
  split at h
  · rename_i hx
    cases h
    obtain ⟨l1, k1⟩ := he L M _ _ h1
    exact ⟨l1, fun G C hw hr _ _ _ k3 => k1 G [] C csum0 hw hr (k3 rfl L p1 (by rw [ht]; exact hd) (by rw [ht]; exact ⟨x, hx, rfl⟩))⟩
  · cases h
theorem is_retA {e : DA} {Cn : String} (he : IE va_rf I 0 pc p1 e) (hd : decode I.1 p1 = .ok (.areturn, 1)) (ht : I.2.2.2.2.2.2 = some (.object Cn)) : IS I pc tN tB tC (retA e) := by
  intro L M L' M' c v h
  obtain ⟨⟨x, M1⟩, h1, h⟩ := Option.map_eq_some_iff.mp h
  cases h
  obtain ⟨l1, k1⟩ := he L M _ _ h1
  exact ⟨l1, fun G C hw hr _ _ _ k3 => k1 G [] C csum0 hw hr (k3 rfl L p1 (by rw [ht]; exact hd) (by rw [ht]; exact ⟨x, rfl⟩))⟩
theorem is_scp {k : Nat} {a : DS} (ha : IS I pc tN tB tC a) : IS I pc tN tB tC (scp k a) := by
  intro L M L' M' c v h
  obtain ⟨⟨L1, M1, c1, v1⟩, h1, h⟩ := Option.map_eq_some_iff.mp h
  cases h
  obtain ⟨l1, k1⟩ := ha L M _ _ _ _ h1
  exact ⟨l1, fun G C hw hr q0 q1 q2 q3 => k1 G C hw hr (fun z => (q0 z).weak fun i v => clr_get) (fun z => (q1 z).weak fun i v => clr_get) (fun z => (q2 z).weak fun i v => clr_get) q3⟩
theorem is_whN {pB pX pU x1 x2 : Nat} {cd : DC} {b u : DS} (hc : IC I 0 pc pB pX cd) (hb : IS I pB pU tN pU b) (hu : IS I pU pc x1 x2 u) (hj : Jp I pX tN) : ∀ n : Nat, IS I pc tN tB tC (whN cd b u n) := by
  intro n
  induction n with
  | zero =>
    intro L M L' M' c v h
    cases h
  | succ n ih =>
    intro L M L' M' c v h
    obtain ⟨⟨r, M1⟩, h1, h⟩ := Option.bind_eq_some_iff.mp h
    obtain ⟨l1, k1⟩ := hc L M _ M1 h1
    cases r with
    | false =>
      cases h
      exact ⟨l1, fun G C hw hr q0 _ _ _ => k1 G [] C csum0 hw hr (fun z => by cases z) (fun _ => hj.pt C (q0 rfl))⟩
    | true =>
      obtain ⟨⟨L2, M2, c2, v2⟩, h2, h⟩ := Option.bind_eq_some_iff.mp h
      obtain ⟨l2, k2⟩ := hb L M1 L2 M2 c2 v2 h2
      dsimp only at h
      split at h
      · rename_i hc1
        cases h
        exact ⟨l1.tr l2, fun G C hw hr q0 _ _ _ => k1 G [] C csum0 hw (hr.dn l2) (fun _ => k2 G C (hw.up l1) hr (fun z => by rw [hc1] at z; cases z) (fun _ => q0 rfl) (fun z => by rw [hc1] at z; cases z) (fun z => by rw [hc1] at z; cases z)) (fun z => by cases z)⟩
      · split at h
        · rename_i hc1 hc3
          cases h
          have hc3 : c = 3 := hc3
          subst hc3
          exact ⟨l1.tr l2, fun G C hw hr _ _ _ q3 => k1 G [] C csum0 hw (hr.dn l2) (fun _ => k2 G C (hw.up l1) hr (fun z => by cases z) (fun z => by cases z) (fun z => by cases z) q3) (fun z => by cases z)⟩
        · rename_i hc1 hc3
          obtain ⟨⟨L3, M3, c3, v3⟩, h3, h⟩ := Option.bind_eq_some_iff.mp h
          obtain ⟨l3, k3⟩ := hu L2 M2 L3 M3 c3 v3 h3
          dsimp only at h
          split at h
          · rename_i hc0
            subst hc0
            obtain ⟨l4, k4⟩ := ih L3 M3 L' M' c v h
            refine ⟨l1.tr (l2.tr (l3.tr l4)), fun G C hw hr q0 q1 q2 q3 => k1 G [] C csum0 hw (hr.dn (l2.tr (l3.tr l4))) (fun _ => ?_) (fun z => by cases z)⟩
            have go : PT G pU L2 [] M2 := k3 G C (hw.up (l1.tr l2)) (hr.dn l4) (fun _ => k4 G C (hw.up (l1.tr (l2.tr l3))) hr q0 q1 q2 q3) (fun z => by cases z) (fun z => by cases z) (fun z => by cases z)
            exact k2 G C (hw.up l1) (hr.dn (l3.tr l4)) (fun _ => go) (fun z => absurd z hc1) (fun _ => go) (fun z => absurd z hc3)
          · cases h
theorem is_whS {pB pX pU x1 x2 : Nat} {cd : DC} {b u : DS} (hc : IC I 0 pc pB pX cd) (hb : IS I pB pU tN pU b) (hu : IS I pU pc x1 x2 u) (hj : Jp I pX tN) : IS I pc tN tB tC (whS cd b u) := is_whN hc hb hu hj big
theorem is_sw {lo hi dflt : Int} {offs : Array Int} {len pD : Nat} {e : DI} {cs : List DS} {dS : DS} (he : IE .int I 0 pc p1 e) (hd : decode I.1 p1 = .ok (.tableswitch dflt lo hi offs, len)) (hD : (p1 : Int) + dflt = (pD : Int)) (hds : IS I pD tN tN tC dS) (hlen : (cs.length : Int) = hi - lo + 1)
    (hcs : ∀ (j : Nat) (S : DS), cs[j]? = some S → ∃ (off : Int) (tgt : Nat), offs[j]? = some off ∧ (p1 : Int) + off = (tgt : Int) ∧ IS I tgt tN tN tC S) : IS I pc tN tB tC (swS e lo cs dS) := by
  intro L M L' M' c v h
  obtain ⟨⟨x, M1⟩, h1, h⟩ := Option.bind_eq_some_iff.mp h
  obtain ⟨⟨L2, M2, c2, v2⟩, h2, h⟩ := Option.map_eq_some_iff.mp h
  obtain ⟨l1, k1⟩ := he L M _ _ h1
  have fin : ∀ (S : DS) (tgt : Nat), IS I tgt tN tN tC S → S L M1 = some (L2, M2, c2, v2) → (∀ (G : GT), CX G I → PT G tgt L [] M1 → PT G p1 L [.int x] M1) → LE M M' ∧ ∀ (G : GT), CX G I → LW G M → RM G M' → (c = 0 → PT G tN L' [] M') → (c = 1 → PT G tB L' [] M') → (c = 2 → PT G tC L' [] M') → (c = 3 → RT G I v M') → PT G pc L [] M := by
    intro S tgt hS hr2 go
    obtain ⟨l2, k2⟩ := hS L M1 L2 M2 c2 v2 hr2
    dsimp only at h
    split at h
    · rename_i hc1
      cases h
      exact ⟨l1.tr l2, fun G C hw hr q0 _ _ _ => k1 G [] C csum0 hw (hr.dn l2) (go G C (k2 G C (hw.up l1) hr (fun _ => q0 rfl) (fun _ => q0 rfl) (fun z => by rw [hc1] at z; cases z) (fun z => by rw [hc1] at z; cases z)))⟩
    · rename_i hc1
      cases h
      exact ⟨l1.tr l2, fun G C hw hr q0 q1 q2 q3 => k1 G [] C csum0 hw (hr.dn l2) (go G C (k2 G C (hw.up l1) hr q0 (fun z => absurd z hc1) q2 q3))⟩
  dsimp only at h2
  by_cases hlo : x.toInt < lo
  · rw [if_pos hlo] at h2
    exact fin dS pD hds h2 (fun G C k => pt_tableOut C hd (Or.inl hlo) hD k)
  · rw [if_neg hlo] at h2
    cases hS : cs[(x.toInt - lo).toNat]? with
    | none =>
      rw [hS] at h2
      have : cs.length ≤ (x.toInt - lo).toNat := by simpa using hS
      exact fin dS pD hds h2 (fun G C k => pt_tableOut C hd (Or.inr (by omega)) hD k)
    | some S =>
      rw [hS] at h2
      have hlt := (List.getElem?_eq_some_iff.mp hS).1
      obtain ⟨off, tgt, g1, g2, g3⟩ := hcs _ S hS
      exact fin S tgt g3 h2 (fun G C k => pt_tableIn C hd hlo (by omega) g1 g2 k)
end Stms
def sup : DS := fun L M => (lA 0 L M).bind fun q => q.1.bind fun _ => some (L, q.2, 0, none)
theorem is_sup {I : MI} {pc p1 index tN tB tC : Nat} (ha : IE va_rf I 0 pc p1 (lA 0)) (w1 : Cond.methodLink I.2.1 index Lib.objectInit ∈ TG) (w2 : Cond.instanceMethod Lib.objectInit ∈ TG) (w3 : Cond.code Lib.objectInit ⟨#[0xb1]⟩ 1 none ∈ TG) (hfr : 1 ≤ I.2.2.2.1) (hlo : 0 + 12 ≤ I.2.2.2.2.1)
    (hd : decode I.1 p1 = .ok (.invokespecial index, 3)) (hj : Jp I (p1 + 3) tN) : IS I pc tN tB tC sup := by
  intro L M L' M' c v h
  obtain ⟨⟨r, M1⟩, h1, h⟩ := Option.bind_eq_some_iff.mp h
  obtain ⟨a, h2, h⟩ := Option.bind_eq_some_iff.mp h
  cases h
  have h2 : r = some a := h2
  subst h2
  obtain ⟨l1, k1⟩ := ha L M _ _ h1
  exact ⟨l1, fun G C hw hr q0 _ _ _ => k1 G [] C csum0 hw hr (pt_objInit C w1 w2 w3 hfr hlo hd (hj.pt C (q0 rfl)))⟩
theorem ic_jt {I : MI} {d pc p t pF : Nat} {c : DC} (hj : Jp I p t) (hc : IC I d pc p pF c) : IC I d pc t pF c := by
  intro L M w M' h
  obtain ⟨l1, k1⟩ := hc L M w M' h
  exact ⟨l1, fun G st C hs hw hr kt kf => k1 G st C hs hw hr (fun q => hj.pt C (kt q)) kf⟩
theorem mkL_get {n i : Nat} {as : List Value} {v : Value} (h : (mkL n as)[i]? = some (some v)) : as[i]? = some v := by
  unfold mkL at h
  by_cases hi : i < (as.map some).length
  · rw [List.getElem?_append_left hi, List.getElem?_map] at h
    cases ha : as[i]? with
    | none => rw [ha] at h; cases h
    | some w => rw [ha] at h; cases h; rfl
  · rw [List.getElem?_append_right (by omega)] at h
    obtain ⟨h1, h2⟩ := List.getElem?_eq_some_iff.mp h
    rw [List.getElem_replicate] at h2
    cases h2
theorem lg_sl1 : ∀ (vs : List Value), (∀ v ∈ vs, v.category = 1) → lg_sl vs = vs.map Slot.val := by
  intro vs
  induction vs with
  | nil => intro _; rfl
  | cons v t ih =>
    intro h
    have h1 : v.category = 1 := h v List.mem_cons_self
    have h2 := ih (fun w hw => h w (List.mem_cons_of_mem _ hw))
    unfold lg_sl at h2 ⊢
    rw [List.flatMap_cons, h2, if_neg (by rw [h1]; decide)]
    rfl
theorem entry_loc {X : GF} {n : Nat} {as : List Value} (hc : cat1 as = true) (hn : as.length ≤ n) : LOC X ((lg_sl (as.map (up X)) ++ List.replicate (n - (lg_sl (as.map (up X))).length) Slot.unset).toArray) n (mkL n as) := by
  have h1 : ∀ v ∈ as.map (up X), v.category = 1 := by
    intro v hv
    obtain ⟨w, hw, rfl⟩ := List.mem_map.mp hv
    rw [up_cat]
    have := List.all_eq_true.mp hc w hw
    simpa using this
  have e := lg_sl1 _ h1
  have hlen : (lg_sl (as.map (up X))).length = as.length := by rw [e]; simp
  have hl := lv_entry (as.map (up X)) (n := n) (by rw [hlen]; exact hn)
  refine ⟨hl.1, hl.2.1, fun i v hi => ?_⟩
  have ha := mkL_get hi
  rw [e]
  have hlt := (List.getElem?_eq_some_iff.mp ha).1
  simp only [List.getElem?_toArray]
  rw [List.getElem?_append_left (by simpa using hlt), List.getElem?_map, List.getElem?_map, ha]
  rfl
theorem sameRet {G : GT} {I : MI} {X : GF} {v : Option Value} {M : Mm} (hX : gX G = X) (C : CX G I) (hQ : gQ G = MQ (gb G) (Qcv X v M) (ga G) (gs G) (M.1 - gn G) (M.2.1 - gz G) (AA X)) : RT G I v M := by
  intro L pc hd hok ls H locs hl hR hS
  subst hX
  rw [hQ]
  have hq : ∀ (t : State), t.heap = H → (gs G).WarmedH t.vm → Qcv (gX G) v M (ga G) (gs G) (.returned (v.map (up (gX G)))) t := fun t ht hW => ⟨rfl, by rw [ht]; exact hR.warm hW, hS.F ht⟩
  have hf : ∀ q ∈ locs, AA (gX G) q.base := hS.2.2
  have hlk := C.2.2.2.2.2.2.2.2.2.1
  have hret := C.2.2.2.2.2.2.2.2.1
  rcases hr : I.2.2.2.2.2.2 with _ | t
  · rw [hr] at hd hok hret
    have hok : v = none := hok
    subst hok
    exact W.vret C.1 C.2.1 hret hq hf hd hlk
  · rw [hr] at hd hok hret
    cases t with
    | int =>
      obtain ⟨x, rfl⟩ := hok
      exact W.zret C.1 C.2.1 hret rfl hq hf hd hlk
    | boolean =>
      obtain ⟨x, hx, rfl⟩ := hok
      exact W.zret C.1 C.2.1 hret (by rcases hx with rfl | rfl <;> rfl) hq hf hd hlk
    | object n =>
      obtain ⟨r, rfl⟩ := hok
      have k := W.aret (p := gp G) (l := gl G) (e := ge G) (R := gR G) (s := gs G) (m := gm G) (args := ga G) (below := gb G) (meth := gh G) (c := gc G) (H := H) (locs := locs) (cells := M.1 - gn G) (slots := M.2.1 - gz G) (v := up (gX G) (va_rf r)) C.1 C.2.1 hret (Or.inl ⟨n, rfl⟩) (by cases r <;> first | exact Or.inl rfl | exact Or.inr ⟨_, rfl⟩) hq hf (ls := ls) hd hlk
      exact k
    | array n =>
      obtain ⟨r, rfl⟩ := hok
      have k := W.aret (p := gp G) (l := gl G) (e := ge G) (R := gR G) (s := gs G) (m := gm G) (args := ga G) (below := gb G) (meth := gh G) (c := gc G) (H := H) (locs := locs) (cells := M.1 - gn G) (slots := M.2.1 - gz G) (v := up (gX G) (va_rf r)) C.1 C.2.1 hret (Or.inr ⟨n, rfl⟩) (by cases r <;> first | exact Or.inl rfl | exact Or.inr ⟨_, rfl⟩) hq hf (ls := ls) hd hlk
      exact k
    | _ => exact hok.elim
/-- a method whose body does what it means has its contract -/
theorem ma_of {y : MethodName} {I : MI} {body : DS} {a b c : Nat} (hy : plainName y.cls = true) (hcls : y.cls = I.2.1) (hnm : y.name = I.2.2.2.2.2.1) (hb : IS I 0 a b c body) : MA y I (runM I.2.2.1 body) := by
  have mono : ∀ (as : List Value) (M : Mm) (v : Option Value) (M' : Mm), runM I.2.2.1 body as M = some (v, M') → LE M M' := by
    intro as M v M' h
    unfold runM at h
    split at h
    · obtain ⟨⟨L1, M1, c1, v1⟩, h1, h⟩ := Option.bind_eq_some_iff.mp h
      dsimp only at h
      split at h
      · cases h
        exact (hb _ _ _ _ _ _ h1).1
      · cases h
    · cases h
  refine ⟨mono, fun l hfl X as M v M' h => ⟨mono as M v M' h, ?_⟩⟩
  unfold runM at h
  split at h
  · rename_i hca
    obtain ⟨⟨L1, M1, c1, v1⟩, h1, h⟩ := Option.bind_eq_some_iff.mp h
    dsimp only at h
    split at h
    · rename_i hc3
      cases h
      subst hc3
      obtain ⟨hle, k⟩ := hb _ _ _ _ _ _ h1
      refine Met.ofW (cc := I.1) (maxL := I.2.2.1) (ret := I.2.2.2.2.2.2) hy rfl ?_
      intro p e s m args below meth c s₁ B hml hv
      obtain ⟨rfl, hR, hB⟩ := hv
      have hts := atoms_spec (ws := .code y I.1 I.2.2.1 I.2.2.2.2.2.2 :: TG) B.pre
      have hloc := entry_loc (X := X) hca.1 hca.2
      rw [lg_entry_eq]
      let G : GT := (X, p, l, e, (headSpec (.code y I.1 I.2.2.1 I.2.2.2.2.2.2 :: TG) ({ frames := I.2.2.2.1, cells := M'.1 - M.1, slots := M'.2.1 - M.2.1, locals := I.2.2.2.2.1 })).room, s, m, (as.map (up X)).toArray, below, meth, c, M.1, M.2.1, MQ below (Qcv X v M') (as.map (up X)).toArray s (M'.1 - M.1) (M'.2.1 - M.2.1) (AA X))
      have C : CX G I := ⟨B.exec, B.bytes, by rw [← hcls]; exact findClass_of_methodNamed B.named, hml, fun w hw => hts w (List.mem_cons_of_mem _ hw), rfl, rfl, by rw [← hnm]; exact (name_of_methodNamed B.named B.method).1, B.returns, B.notSynchronized, hB, hfl⟩
      have hroom : RM G M' := by
        constructor
        · show M'.1 ≤ M.1 + (M'.1 - M.1)
          have := hle.1
          omega
        · show M'.2.1 ≤ M.2.1 + (M'.2.1 - M.2.1)
          have := hle.2
          omega
      have k1 : PT G 0 (mkL I.2.2.1 as) [] M := k G C ⟨Nat.le_refl _, Nat.le_refl _⟩ hroom (fun z => by cases z) (fun z => by cases z) (fun z => by cases z) (fun _ => sameRet (X := X) rfl C rfl)
      have k2 := k1 _ s.heap [] (by rw [C.2.2.2.1]; exact hloc) hR va_S.rf
      exact W.cs (cells' := M.1 - M.1) (slots' := M.2.1 - M.2.1) (by omega) (by omega) k2
    · cases h
  · cases h
end
section
theorem dX0_init_0 : decode cX0_init 0 = .ok (.aload_n 0, 1) := by decide +kernel
theorem dX0_init_1 : decode cX0_init 1 = .ok (.invokespecial 3, 3) := by decide +kernel
theorem dX0_init_4 : decode cX0_init 4 = .ok (.aload_n 0, 1) := by decide +kernel
theorem dX0_init_5 : decode cX0_init 5 = .ok (.iconst 3, 1) := by decide +kernel
theorem dX0_init_6 : decode cX0_init 6 = .ok (.newarray .int, 2) := by decide +kernel
theorem dX0_init_8 : decode cX0_init 8 = .ok (.dup, 1) := by decide +kernel
theorem dX0_init_9 : decode cX0_init 9 = .ok (.iconst 0, 1) := by decide +kernel
theorem dX0_init_10 : decode cX0_init 10 = .ok (.iconst 0, 1) := by decide +kernel
theorem dX0_init_11 : decode cX0_init 11 = .ok (.iastore, 1) := by decide +kernel
theorem dX0_init_12 : decode cX0_init 12 = .ok (.dup, 1) := by decide +kernel
theorem dX0_init_13 : decode cX0_init 13 = .ok (.iconst 1, 1) := by decide +kernel
theorem dX0_init_14 : decode cX0_init 14 = .ok (.iconst 0, 1) := by decide +kernel
theorem dX0_init_15 : decode cX0_init 15 = .ok (.iastore, 1) := by decide +kernel
theorem dX0_init_16 : decode cX0_init 16 = .ok (.dup, 1) := by decide +kernel
theorem dX0_init_17 : decode cX0_init 17 = .ok (.iconst 2, 1) := by decide +kernel
theorem dX0_init_18 : decode cX0_init 18 = .ok (.iconst 0, 1) := by decide +kernel
theorem dX0_init_19 : decode cX0_init 19 = .ok (.iastore, 1) := by decide +kernel
theorem dX0_init_20 : decode cX0_init 20 = .ok (.putfield 9, 3) := by decide +kernel
theorem dX0_init_23 : decode cX0_init 23 = .ok (.aload_n 0, 1) := by decide +kernel
theorem dX0_init_24 : decode cX0_init 24 = .ok (.iconst 3, 1) := by decide +kernel
theorem dX0_init_25 : decode cX0_init 25 = .ok (.newarray .int, 2) := by decide +kernel
theorem dX0_init_27 : decode cX0_init 27 = .ok (.dup, 1) := by decide +kernel
theorem dX0_init_28 : decode cX0_init 28 = .ok (.iconst 0, 1) := by decide +kernel
theorem dX0_init_29 : decode cX0_init 29 = .ok (.bipush 9, 2) := by decide +kernel
theorem dX0_init_31 : decode cX0_init 31 = .ok (.iastore, 1) := by decide +kernel
theorem dX0_init_32 : decode cX0_init 32 = .ok (.dup, 1) := by decide +kernel
theorem dX0_init_33 : decode cX0_init 33 = .ok (.iconst 1, 1) := by decide +kernel
theorem dX0_init_34 : decode cX0_init 34 = .ok (.bipush 9, 2) := by decide +kernel
theorem dX0_init_36 : decode cX0_init 36 = .ok (.iastore, 1) := by decide +kernel
theorem dX0_init_37 : decode cX0_init 37 = .ok (.dup, 1) := by decide +kernel
theorem dX0_init_38 : decode cX0_init 38 = .ok (.iconst 2, 1) := by decide +kernel
theorem dX0_init_39 : decode cX0_init 39 = .ok (.bipush 9, 2) := by decide +kernel
theorem dX0_init_41 : decode cX0_init 41 = .ok (.iastore, 1) := by decide +kernel
theorem dX0_init_42 : decode cX0_init 42 = .ok (.putfield 15, 3) := by decide +kernel
theorem dX0_init_45 : decode cX0_init 45 = .ok (.return_, 1) := by decide +kernel
theorem dX0_become_0 : decode cX0_become 0 = .ok (.iload_n 1, 1) := by decide +kernel
theorem dX0_become_1 : decode cX0_become 1 = .ok (.ifCond .lt 17, 3) := by decide +kernel
theorem dX0_become_4 : decode cX0_become 4 = .ok (.iload_n 1, 1) := by decide +kernel
theorem dX0_become_5 : decode cX0_become 5 = .ok (.bipush 10, 2) := by decide +kernel
theorem dX0_become_7 : decode cX0_become 7 = .ok (.irem, 1) := by decide +kernel
theorem dX0_become_8 : decode cX0_become 8 = .ok (.iconst 1, 1) := by decide +kernel
theorem dX0_become_9 : decode cX0_become 9 = .ok (.if_icmp .ne 9, 3) := by decide +kernel
theorem dX0_become_12 : decode cX0_become 12 = .ok (.iload_n 1, 1) := by decide +kernel
theorem dX0_become_13 : decode cX0_become 13 = .ok (.ldc 18, 2) := by decide +kernel
theorem dX0_become_15 : decode cX0_become 15 = .ok (.if_icmp .lt 5, 3) := by decide +kernel
theorem dX0_become_18 : decode cX0_become 18 = .ok (.iconst 0, 1) := by decide +kernel
theorem dX0_become_19 : decode cX0_become 19 = .ok (.ireturn, 1) := by decide +kernel
theorem dX0_become_20 : decode cX0_become 20 = .ok (.iload_n 1, 1) := by decide +kernel
theorem dX0_become_21 : decode cX0_become 21 = .ok (.ldc 19, 2) := by decide +kernel
theorem dX0_become_23 : decode cX0_become 23 = .ok (.idiv, 1) := by decide +kernel
theorem dX0_become_24 : decode cX0_become 24 = .ok (.istore_n 2, 1) := by decide +kernel
theorem dX0_become_25 : decode cX0_become 25 = .ok (.iload_n 1, 1) := by decide +kernel
theorem dX0_become_26 : decode cX0_become 26 = .ok (.ldc 20, 2) := by decide +kernel
theorem dX0_become_28 : decode cX0_become 28 = .ok (.idiv, 1) := by decide +kernel
theorem dX0_become_29 : decode cX0_become 29 = .ok (.bipush 10, 2) := by decide +kernel
theorem dX0_become_31 : decode cX0_become 31 = .ok (.irem, 1) := by decide +kernel
theorem dX0_become_32 : decode cX0_become 32 = .ok (.istore_n 3, 1) := by decide +kernel
theorem dX0_become_33 : decode cX0_become 33 = .ok (.iload_n 1, 1) := by decide +kernel
theorem dX0_become_34 : decode cX0_become 34 = .ok (.sipush 10000, 3) := by decide +kernel
theorem dX0_become_37 : decode cX0_become 37 = .ok (.idiv, 1) := by decide +kernel
theorem dX0_become_38 : decode cX0_become 38 = .ok (.bipush 10, 2) := by decide +kernel
theorem dX0_become_40 : decode cX0_become 40 = .ok (.irem, 1) := by decide +kernel
theorem dX0_become_41 : decode cX0_become 41 = .ok (.istore 4, 2) := by decide +kernel
theorem dX0_become_43 : decode cX0_become 43 = .ok (.iload_n 1, 1) := by decide +kernel
theorem dX0_become_44 : decode cX0_become 44 = .ok (.sipush 1000, 3) := by decide +kernel
theorem dX0_become_47 : decode cX0_become 47 = .ok (.idiv, 1) := by decide +kernel
theorem dX0_become_48 : decode cX0_become 48 = .ok (.bipush 10, 2) := by decide +kernel
theorem dX0_become_50 : decode cX0_become 50 = .ok (.irem, 1) := by decide +kernel
theorem dX0_become_51 : decode cX0_become 51 = .ok (.istore 5, 2) := by decide +kernel
theorem dX0_become_53 : decode cX0_become 53 = .ok (.iload_n 1, 1) := by decide +kernel
theorem dX0_become_54 : decode cX0_become 54 = .ok (.bipush 100, 2) := by decide +kernel
theorem dX0_become_56 : decode cX0_become 56 = .ok (.idiv, 1) := by decide +kernel
theorem dX0_become_57 : decode cX0_become 57 = .ok (.bipush 10, 2) := by decide +kernel
theorem dX0_become_59 : decode cX0_become 59 = .ok (.irem, 1) := by decide +kernel
theorem dX0_become_60 : decode cX0_become 60 = .ok (.istore 6, 2) := by decide +kernel
theorem dX0_become_62 : decode cX0_become 62 = .ok (.iload_n 1, 1) := by decide +kernel
theorem dX0_become_63 : decode cX0_become 63 = .ok (.bipush 10, 2) := by decide +kernel
theorem dX0_become_65 : decode cX0_become 65 = .ok (.idiv, 1) := by decide +kernel
theorem dX0_become_66 : decode cX0_become 66 = .ok (.bipush 10, 2) := by decide +kernel
theorem dX0_become_68 : decode cX0_become 68 = .ok (.irem, 1) := by decide +kernel
theorem dX0_become_69 : decode cX0_become 69 = .ok (.istore 7, 2) := by decide +kernel
theorem dX0_become_71 : decode cX0_become 71 = .ok (.iload_n 2, 1) := by decide +kernel
theorem dX0_become_72 : decode cX0_become 72 = .ok (.iload_n 3, 1) := by decide +kernel
theorem dX0_become_73 : decode cX0_become 73 = .ok (.if_icmp .gt 17, 3) := by decide +kernel
theorem dX0_become_76 : decode cX0_become 76 = .ok (.iload 4, 2) := by decide +kernel
theorem dX0_become_78 : decode cX0_become 78 = .ok (.iload 5, 2) := by decide +kernel
theorem dX0_become_80 : decode cX0_become 80 = .ok (.if_icmp .gt 10, 3) := by decide +kernel
theorem dX0_become_83 : decode cX0_become 83 = .ok (.iload 6, 2) := by decide +kernel
theorem dX0_become_85 : decode cX0_become 85 = .ok (.iload 7, 2) := by decide +kernel
theorem dX0_become_87 : decode cX0_become 87 = .ok (.if_icmp .le 5, 3) := by decide +kernel
theorem dX0_become_90 : decode cX0_become 90 = .ok (.iconst 0, 1) := by decide +kernel
theorem dX0_become_91 : decode cX0_become 91 = .ok (.ireturn, 1) := by decide +kernel
theorem dX0_become_92 : decode cX0_become 92 = .ok (.aload_n 0, 1) := by decide +kernel
theorem dX0_become_93 : decode cX0_become 93 = .ok (.getfield 9, 3) := by decide +kernel
theorem dX0_become_96 : decode cX0_become 96 = .ok (.iconst 0, 1) := by decide +kernel
theorem dX0_become_97 : decode cX0_become 97 = .ok (.iload_n 2, 1) := by decide +kernel
theorem dX0_become_98 : decode cX0_become 98 = .ok (.iastore, 1) := by decide +kernel
theorem dX0_become_99 : decode cX0_become 99 = .ok (.aload_n 0, 1) := by decide +kernel
theorem dX0_become_100 : decode cX0_become 100 = .ok (.getfield 15, 3) := by decide +kernel
theorem dX0_become_103 : decode cX0_become 103 = .ok (.iconst 0, 1) := by decide +kernel
theorem dX0_become_104 : decode cX0_become 104 = .ok (.iload_n 3, 1) := by decide +kernel
theorem dX0_become_105 : decode cX0_become 105 = .ok (.iastore, 1) := by decide +kernel
theorem dX0_become_106 : decode cX0_become 106 = .ok (.aload_n 0, 1) := by decide +kernel
theorem dX0_become_107 : decode cX0_become 107 = .ok (.getfield 9, 3) := by decide +kernel
theorem dX0_become_110 : decode cX0_become 110 = .ok (.iconst 1, 1) := by decide +kernel
theorem dX0_become_111 : decode cX0_become 111 = .ok (.iload 4, 2) := by decide +kernel
theorem dX0_become_113 : decode cX0_become 113 = .ok (.iastore, 1) := by decide +kernel
theorem dX0_become_114 : decode cX0_become 114 = .ok (.aload_n 0, 1) := by decide +kernel
theorem dX0_become_115 : decode cX0_become 115 = .ok (.getfield 15, 3) := by decide +kernel
theorem dX0_become_118 : decode cX0_become 118 = .ok (.iconst 1, 1) := by decide +kernel
theorem dX0_become_119 : decode cX0_become 119 = .ok (.iload 5, 2) := by decide +kernel
theorem dX0_become_121 : decode cX0_become 121 = .ok (.iastore, 1) := by decide +kernel
theorem dX0_become_122 : decode cX0_become 122 = .ok (.aload_n 0, 1) := by decide +kernel
theorem dX0_become_123 : decode cX0_become 123 = .ok (.getfield 9, 3) := by decide +kernel
theorem dX0_become_126 : decode cX0_become 126 = .ok (.iconst 2, 1) := by decide +kernel
theorem dX0_become_127 : decode cX0_become 127 = .ok (.iload 6, 2) := by decide +kernel
theorem dX0_become_129 : decode cX0_become 129 = .ok (.iastore, 1) := by decide +kernel
theorem dX0_become_130 : decode cX0_become 130 = .ok (.aload_n 0, 1) := by decide +kernel
theorem dX0_become_131 : decode cX0_become 131 = .ok (.getfield 15, 3) := by decide +kernel
theorem dX0_become_134 : decode cX0_become 134 = .ok (.iconst 2, 1) := by decide +kernel
theorem dX0_become_135 : decode cX0_become 135 = .ok (.iload 7, 2) := by decide +kernel
theorem dX0_become_137 : decode cX0_become 137 = .ok (.iastore, 1) := by decide +kernel
theorem dX0_become_138 : decode cX0_become 138 = .ok (.iconst 1, 1) := by decide +kernel
theorem dX0_become_139 : decode cX0_become 139 = .ok (.ireturn, 1) := by decide +kernel
theorem dX0_holds_0 : decode cX0_holds 0 = .ok (.iload_n 1, 1) := by decide +kernel
theorem dX0_holds_1 : decode cX0_holds 1 = .ok (.invokestatic 21, 3) := by decide +kernel
theorem dX0_holds_4 : decode cX0_holds 4 = .ok (.istore_n 2, 1) := by decide +kernel
theorem dX0_holds_5 : decode cX0_holds 5 = .ok (.iload_n 1, 1) := by decide +kernel
theorem dX0_holds_6 : decode cX0_holds 6 = .ok (.invokestatic 25, 3) := by decide +kernel
theorem dX0_holds_9 : decode cX0_holds 9 = .ok (.istore_n 3, 1) := by decide +kernel
theorem dX0_holds_10 : decode cX0_holds 10 = .ok (.iload_n 1, 1) := by decide +kernel
theorem dX0_holds_11 : decode cX0_holds 11 = .ok (.invokestatic 28, 3) := by decide +kernel
theorem dX0_holds_14 : decode cX0_holds 14 = .ok (.istore 4, 2) := by decide +kernel
theorem dX0_holds_16 : decode cX0_holds 16 = .ok (.iload_n 2, 1) := by decide +kernel
theorem dX0_holds_17 : decode cX0_holds 17 = .ok (.aload_n 0, 1) := by decide +kernel
theorem dX0_holds_18 : decode cX0_holds 18 = .ok (.getfield 9, 3) := by decide +kernel
theorem dX0_holds_21 : decode cX0_holds 21 = .ok (.iconst 0, 1) := by decide +kernel
theorem dX0_holds_22 : decode cX0_holds 22 = .ok (.iaload, 1) := by decide +kernel
theorem dX0_holds_23 : decode cX0_holds 23 = .ok (.if_icmp .lt 59, 3) := by decide +kernel
theorem dX0_holds_26 : decode cX0_holds 26 = .ok (.iload_n 2, 1) := by decide +kernel
theorem dX0_holds_27 : decode cX0_holds 27 = .ok (.aload_n 0, 1) := by decide +kernel
theorem dX0_holds_28 : decode cX0_holds 28 = .ok (.getfield 15, 3) := by decide +kernel
theorem dX0_holds_31 : decode cX0_holds 31 = .ok (.iconst 0, 1) := by decide +kernel
theorem dX0_holds_32 : decode cX0_holds 32 = .ok (.iaload, 1) := by decide +kernel
theorem dX0_holds_33 : decode cX0_holds 33 = .ok (.if_icmp .gt 49, 3) := by decide +kernel
theorem dX0_holds_36 : decode cX0_holds 36 = .ok (.iload_n 3, 1) := by decide +kernel
theorem dX0_holds_37 : decode cX0_holds 37 = .ok (.aload_n 0, 1) := by decide +kernel
theorem dX0_holds_38 : decode cX0_holds 38 = .ok (.getfield 9, 3) := by decide +kernel
theorem dX0_holds_41 : decode cX0_holds 41 = .ok (.iconst 1, 1) := by decide +kernel
theorem dX0_holds_42 : decode cX0_holds 42 = .ok (.iaload, 1) := by decide +kernel
theorem dX0_holds_43 : decode cX0_holds 43 = .ok (.if_icmp .lt 39, 3) := by decide +kernel
theorem dX0_holds_46 : decode cX0_holds 46 = .ok (.iload_n 3, 1) := by decide +kernel
theorem dX0_holds_47 : decode cX0_holds 47 = .ok (.aload_n 0, 1) := by decide +kernel
theorem dX0_holds_48 : decode cX0_holds 48 = .ok (.getfield 15, 3) := by decide +kernel
theorem dX0_holds_51 : decode cX0_holds 51 = .ok (.iconst 1, 1) := by decide +kernel
theorem dX0_holds_52 : decode cX0_holds 52 = .ok (.iaload, 1) := by decide +kernel
theorem dX0_holds_53 : decode cX0_holds 53 = .ok (.if_icmp .gt 29, 3) := by decide +kernel
theorem dX0_holds_56 : decode cX0_holds 56 = .ok (.iload 4, 2) := by decide +kernel
theorem dX0_holds_58 : decode cX0_holds 58 = .ok (.aload_n 0, 1) := by decide +kernel
theorem dX0_holds_59 : decode cX0_holds 59 = .ok (.getfield 9, 3) := by decide +kernel
theorem dX0_holds_62 : decode cX0_holds 62 = .ok (.iconst 2, 1) := by decide +kernel
theorem dX0_holds_63 : decode cX0_holds 63 = .ok (.iaload, 1) := by decide +kernel
theorem dX0_holds_64 : decode cX0_holds 64 = .ok (.if_icmp .lt 18, 3) := by decide +kernel
theorem dX0_holds_67 : decode cX0_holds 67 = .ok (.iload 4, 2) := by decide +kernel
theorem dX0_holds_69 : decode cX0_holds 69 = .ok (.aload_n 0, 1) := by decide +kernel
theorem dX0_holds_70 : decode cX0_holds 70 = .ok (.getfield 15, 3) := by decide +kernel
theorem dX0_holds_73 : decode cX0_holds 73 = .ok (.iconst 2, 1) := by decide +kernel
theorem dX0_holds_74 : decode cX0_holds 74 = .ok (.iaload, 1) := by decide +kernel
theorem dX0_holds_75 : decode cX0_holds 75 = .ok (.if_icmp .gt 7, 3) := by decide +kernel
theorem dX0_holds_78 : decode cX0_holds 78 = .ok (.iconst 1, 1) := by decide +kernel
theorem dX0_holds_79 : decode cX0_holds 79 = .ok (.goto 4, 3) := by decide +kernel
theorem dX0_holds_82 : decode cX0_holds 82 = .ok (.iconst 0, 1) := by decide +kernel
theorem dX0_holds_83 : decode cX0_holds 83 = .ok (.ireturn, 1) := by decide +kernel
theorem dX0_goesToItself_0 : decode cX0_goesToItself 0 = .ok (.iconst 0, 1) := by decide +kernel
theorem dX0_goesToItself_1 : decode cX0_goesToItself 1 = .ok (.istore_n 2, 1) := by decide +kernel
theorem dX0_goesToItself_2 : decode cX0_goesToItself 2 = .ok (.iload_n 2, 1) := by decide +kernel
theorem dX0_goesToItself_3 : decode cX0_goesToItself 3 = .ok (.iconst 3, 1) := by decide +kernel
theorem dX0_goesToItself_4 : decode cX0_goesToItself 4 = .ok (.if_icmp .ge 46, 3) := by decide +kernel
theorem dX0_goesToItself_7 : decode cX0_goesToItself 7 = .ok (.iload_n 1, 1) := by decide +kernel
theorem dX0_goesToItself_8 : decode cX0_goesToItself 8 = .ok (.iload_n 2, 1) := by decide +kernel
theorem dX0_goesToItself_9 : decode cX0_goesToItself 9 = .ok (.invokestatic 31, 3) := by decide +kernel
theorem dX0_goesToItself_12 : decode cX0_goesToItself 12 = .ok (.istore_n 3, 1) := by decide +kernel
theorem dX0_goesToItself_13 : decode cX0_goesToItself 13 = .ok (.aload_n 0, 1) := by decide +kernel
theorem dX0_goesToItself_14 : decode cX0_goesToItself 14 = .ok (.getfield 15, 3) := by decide +kernel
theorem dX0_goesToItself_17 : decode cX0_goesToItself 17 = .ok (.iload_n 2, 1) := by decide +kernel
theorem dX0_goesToItself_18 : decode cX0_goesToItself 18 = .ok (.iaload, 1) := by decide +kernel
theorem dX0_goesToItself_19 : decode cX0_goesToItself 19 = .ok (.aload_n 0, 1) := by decide +kernel
theorem dX0_goesToItself_20 : decode cX0_goesToItself 20 = .ok (.getfield 9, 3) := by decide +kernel
theorem dX0_goesToItself_23 : decode cX0_goesToItself 23 = .ok (.iload_n 2, 1) := by decide +kernel
theorem dX0_goesToItself_24 : decode cX0_goesToItself 24 = .ok (.iaload, 1) := by decide +kernel
theorem dX0_goesToItself_25 : decode cX0_goesToItself 25 = .ok (.isub, 1) := by decide +kernel
theorem dX0_goesToItself_26 : decode cX0_goesToItself 26 = .ok (.aload_n 0, 1) := by decide +kernel
theorem dX0_goesToItself_27 : decode cX0_goesToItself 27 = .ok (.getfield 15, 3) := by decide +kernel
theorem dX0_goesToItself_30 : decode cX0_goesToItself 30 = .ok (.iload_n 3, 1) := by decide +kernel
theorem dX0_goesToItself_31 : decode cX0_goesToItself 31 = .ok (.iaload, 1) := by decide +kernel
theorem dX0_goesToItself_32 : decode cX0_goesToItself 32 = .ok (.aload_n 0, 1) := by decide +kernel
theorem dX0_goesToItself_33 : decode cX0_goesToItself 33 = .ok (.getfield 9, 3) := by decide +kernel
theorem dX0_goesToItself_36 : decode cX0_goesToItself 36 = .ok (.iload_n 3, 1) := by decide +kernel
theorem dX0_goesToItself_37 : decode cX0_goesToItself 37 = .ok (.iaload, 1) := by decide +kernel
theorem dX0_goesToItself_38 : decode cX0_goesToItself 38 = .ok (.isub, 1) := by decide +kernel
theorem dX0_goesToItself_39 : decode cX0_goesToItself 39 = .ok (.if_icmp .eq 5, 3) := by decide +kernel
theorem dX0_goesToItself_42 : decode cX0_goesToItself 42 = .ok (.iconst 0, 1) := by decide +kernel
theorem dX0_goesToItself_43 : decode cX0_goesToItself 43 = .ok (.ireturn, 1) := by decide +kernel
theorem dX0_goesToItself_44 : decode cX0_goesToItself 44 = .ok (.iinc 2 1, 3) := by decide +kernel
theorem dX0_goesToItself_47 : decode cX0_goesToItself 47 = .ok (.goto (-45), 3) := by decide +kernel
theorem dX0_goesToItself_50 : decode cX0_goesToItself 50 = .ok (.iconst 1, 1) := by decide +kernel
theorem dX0_goesToItself_51 : decode cX0_goesToItself 51 = .ok (.ireturn, 1) := by decide +kernel
theorem dX0_turned_0 : decode cX0_turned 0 = .ok (.iconst 0, 1) := by decide +kernel
theorem dX0_turned_1 : decode cX0_turned 1 = .ok (.istore_n 3, 1) := by decide +kernel
theorem dX0_turned_2 : decode cX0_turned 2 = .ok (.iconst 0, 1) := by decide +kernel
theorem dX0_turned_3 : decode cX0_turned 3 = .ok (.istore 4, 2) := by decide +kernel
theorem dX0_turned_5 : decode cX0_turned 5 = .ok (.iload 4, 2) := by decide +kernel
theorem dX0_turned_7 : decode cX0_turned 7 = .ok (.iconst 3, 1) := by decide +kernel
theorem dX0_turned_8 : decode cX0_turned 8 = .ok (.if_icmp .ge 78, 3) := by decide +kernel
theorem dX0_turned_11 : decode cX0_turned 11 = .ok (.iload 4, 2) := by decide +kernel
theorem dX0_turned_13 : decode cX0_turned 13 = .ok (.iload_n 1, 1) := by decide +kernel
theorem dX0_turned_14 : decode cX0_turned 14 = .ok (.invokestatic 37, 3) := by decide +kernel
theorem dX0_turned_17 : decode cX0_turned 17 = .ok (.istore 5, 2) := by decide +kernel
theorem dX0_turned_19 : decode cX0_turned 19 = .ok (.iload_n 2, 1) := by decide +kernel
theorem dX0_turned_20 : decode cX0_turned 20 = .ok (.iload 4, 2) := by decide +kernel
theorem dX0_turned_22 : decode cX0_turned 22 = .ok (.invokestatic 40, 3) := by decide +kernel
theorem dX0_turned_25 : decode cX0_turned 25 = .ok (.ifCond .ge 16, 3) := by decide +kernel
theorem dX0_turned_28 : decode cX0_turned 28 = .ok (.aload_n 0, 1) := by decide +kernel
theorem dX0_turned_29 : decode cX0_turned 29 = .ok (.getfield 15, 3) := by decide +kernel
theorem dX0_turned_32 : decode cX0_turned 32 = .ok (.iload 4, 2) := by decide +kernel
theorem dX0_turned_34 : decode cX0_turned 34 = .ok (.iaload, 1) := by decide +kernel
theorem dX0_turned_35 : decode cX0_turned 35 = .ok (.iload 5, 2) := by decide +kernel
theorem dX0_turned_37 : decode cX0_turned 37 = .ok (.isub, 1) := by decide +kernel
theorem dX0_turned_38 : decode cX0_turned 38 = .ok (.goto 13, 3) := by decide +kernel
theorem dX0_turned_41 : decode cX0_turned 41 = .ok (.iload 5, 2) := by decide +kernel
theorem dX0_turned_43 : decode cX0_turned 43 = .ok (.aload_n 0, 1) := by decide +kernel
theorem dX0_turned_44 : decode cX0_turned 44 = .ok (.getfield 9, 3) := by decide +kernel
theorem dX0_turned_47 : decode cX0_turned 47 = .ok (.iload 4, 2) := by decide +kernel
theorem dX0_turned_49 : decode cX0_turned 49 = .ok (.iaload, 1) := by decide +kernel
theorem dX0_turned_50 : decode cX0_turned 50 = .ok (.isub, 1) := by decide +kernel
theorem dX0_turned_51 : decode cX0_turned 51 = .ok (.istore 6, 2) := by decide +kernel
theorem dX0_turned_53 : decode cX0_turned 53 = .ok (.iload_n 2, 1) := by decide +kernel
theorem dX0_turned_54 : decode cX0_turned 54 = .ok (.iload 4, 2) := by decide +kernel
theorem dX0_turned_56 : decode cX0_turned 56 = .ok (.invokestatic 31, 3) := by decide +kernel
theorem dX0_turned_59 : decode cX0_turned 59 = .ok (.istore 7, 2) := by decide +kernel
theorem dX0_turned_61 : decode cX0_turned 61 = .ok (.iload_n 3, 1) := by decide +kernel
theorem dX0_turned_62 : decode cX0_turned 62 = .ok (.iload 7, 2) := by decide +kernel
theorem dX0_turned_64 : decode cX0_turned 64 = .ok (.invokestatic 43, 3) := by decide +kernel
theorem dX0_turned_67 : decode cX0_turned 67 = .ok (.aload_n 0, 1) := by decide +kernel
theorem dX0_turned_68 : decode cX0_turned 68 = .ok (.getfield 9, 3) := by decide +kernel
theorem dX0_turned_71 : decode cX0_turned 71 = .ok (.iload 7, 2) := by decide +kernel
theorem dX0_turned_73 : decode cX0_turned 73 = .ok (.iaload, 1) := by decide +kernel
theorem dX0_turned_74 : decode cX0_turned 74 = .ok (.iload 6, 2) := by decide +kernel
theorem dX0_turned_76 : decode cX0_turned 76 = .ok (.iadd, 1) := by decide +kernel
theorem dX0_turned_77 : decode cX0_turned 77 = .ok (.imul, 1) := by decide +kernel
theorem dX0_turned_78 : decode cX0_turned 78 = .ok (.iadd, 1) := by decide +kernel
theorem dX0_turned_79 : decode cX0_turned 79 = .ok (.istore_n 3, 1) := by decide +kernel
theorem dX0_turned_80 : decode cX0_turned 80 = .ok (.iinc 4 1, 3) := by decide +kernel
theorem dX0_turned_83 : decode cX0_turned 83 = .ok (.goto (-78), 3) := by decide +kernel
theorem dX0_turned_86 : decode cX0_turned 86 = .ok (.iload_n 3, 1) := by decide +kernel
theorem dX0_turned_87 : decode cX0_turned 87 = .ok (.ireturn, 1) := by decide +kernel
theorem dX1_init_0 : decode cX1_init 0 = .ok (.aload_n 0, 1) := by decide +kernel
theorem dX1_init_1 : decode cX1_init 1 = .ok (.invokespecial 3, 3) := by decide +kernel
theorem dX1_init_4 : decode cX1_init 4 = .ok (.aload_n 0, 1) := by decide +kernel
theorem dX1_init_5 : decode cX1_init 5 = .ok (.sipush 1000, 3) := by decide +kernel
theorem dX1_init_8 : decode cX1_init 8 = .ok (.newarray .int, 2) := by decide +kernel
theorem dX1_init_10 : decode cX1_init 10 = .ok (.putfield 9, 3) := by decide +kernel
theorem dX1_init_13 : decode cX1_init 13 = .ok (.aload_n 0, 1) := by decide +kernel
theorem dX1_init_14 : decode cX1_init 14 = .ok (.sipush 1000, 3) := by decide +kernel
theorem dX1_init_17 : decode cX1_init 17 = .ok (.newarray .int, 2) := by decide +kernel
theorem dX1_init_19 : decode cX1_init 19 = .ok (.putfield 15, 3) := by decide +kernel
theorem dX1_init_22 : decode cX1_init 22 = .ok (.return_, 1) := by decide +kernel
theorem dX1_read_0 : decode cX1_read 0 = .ok (.aload_n 0, 1) := by decide +kernel
theorem dX1_read_1 : decode cX1_read 1 = .ok (.iconst 0, 1) := by decide +kernel
theorem dX1_read_2 : decode cX1_read 2 = .ok (.putfield 18, 3) := by decide +kernel
theorem dX1_read_5 : decode cX1_read 5 = .ok (.iconst 0, 1) := by decide +kernel
theorem dX1_read_6 : decode cX1_read 6 = .ok (.istore_n 2, 1) := by decide +kernel
theorem dX1_read_7 : decode cX1_read 7 = .ok (.iload_n 2, 1) := by decide +kernel
theorem dX1_read_8 : decode cX1_read 8 = .ok (.sipush 1000, 3) := by decide +kernel
theorem dX1_read_11 : decode cX1_read 11 = .ok (.if_icmp .ge 16, 3) := by decide +kernel
theorem dX1_read_14 : decode cX1_read 14 = .ok (.aload_n 0, 1) := by decide +kernel
theorem dX1_read_15 : decode cX1_read 15 = .ok (.getfield 9, 3) := by decide +kernel
theorem dX1_read_18 : decode cX1_read 18 = .ok (.iload_n 2, 1) := by decide +kernel
theorem dX1_read_19 : decode cX1_read 19 = .ok (.iconst (-1), 1) := by decide +kernel
theorem dX1_read_20 : decode cX1_read 20 = .ok (.iastore, 1) := by decide +kernel
theorem dX1_read_21 : decode cX1_read 21 = .ok (.iinc 2 1, 3) := by decide +kernel
theorem dX1_read_24 : decode cX1_read 24 = .ok (.goto (-17), 3) := by decide +kernel
theorem dX1_read_27 : decode cX1_read 27 = .ok (.iconst 0, 1) := by decide +kernel
theorem dX1_read_28 : decode cX1_read 28 = .ok (.istore_n 2, 1) := by decide +kernel
theorem dX1_read_29 : decode cX1_read 29 = .ok (.iload_n 2, 1) := by decide +kernel
theorem dX1_read_30 : decode cX1_read 30 = .ok (.bipush 10, 2) := by decide +kernel
theorem dX1_read_32 : decode cX1_read 32 = .ok (.if_icmp .ge 39, 3) := by decide +kernel
theorem dX1_read_35 : decode cX1_read 35 = .ok (.iconst 0, 1) := by decide +kernel
theorem dX1_read_36 : decode cX1_read 36 = .ok (.istore_n 3, 1) := by decide +kernel
theorem dX1_read_37 : decode cX1_read 37 = .ok (.iload_n 3, 1) := by decide +kernel
theorem dX1_read_38 : decode cX1_read 38 = .ok (.bipush 10, 2) := by decide +kernel
theorem dX1_read_40 : decode cX1_read 40 = .ok (.if_icmp .ge 25, 3) := by decide +kernel
theorem dX1_read_43 : decode cX1_read 43 = .ok (.aload_n 0, 1) := by decide +kernel
theorem dX1_read_44 : decode cX1_read 44 = .ok (.aload_n 1, 1) := by decide +kernel
theorem dX1_read_45 : decode cX1_read 45 = .ok (.iload_n 2, 1) := by decide +kernel
theorem dX1_read_46 : decode cX1_read 46 = .ok (.iload_n 3, 1) := by decide +kernel
theorem dX1_read_47 : decode cX1_read 47 = .ok (.invokevirtual 22, 3) := by decide +kernel
theorem dX1_read_50 : decode cX1_read 50 = .ok (.iload_n 2, 1) := by decide +kernel
theorem dX1_read_51 : decode cX1_read 51 = .ok (.iload_n 3, 1) := by decide +kernel
theorem dX1_read_52 : decode cX1_read 52 = .ok (.iconst 0, 1) := by decide +kernel
theorem dX1_read_53 : decode cX1_read 53 = .ok (.invokestatic 28, 3) := by decide +kernel
theorem dX1_read_56 : decode cX1_read 56 = .ok (.invokevirtual 32, 3) := by decide +kernel
theorem dX1_read_59 : decode cX1_read 59 = .ok (.iinc 3 1, 3) := by decide +kernel
theorem dX1_read_62 : decode cX1_read 62 = .ok (.goto (-25), 3) := by decide +kernel
theorem dX1_read_65 : decode cX1_read 65 = .ok (.iinc 2 1, 3) := by decide +kernel
theorem dX1_read_68 : decode cX1_read 68 = .ok (.goto (-39), 3) := by decide +kernel
theorem dX1_read_71 : decode cX1_read 71 = .ok (.return_, 1) := by decide +kernel
theorem dX1_readRow_0 : decode cX1_readRow 0 = .ok (.aload_n 1, 1) := by decide +kernel
theorem dX1_readRow_1 : decode cX1_readRow 1 = .ok (.ifnonnull 4, 3) := by decide +kernel
theorem dX1_readRow_4 : decode cX1_readRow 4 = .ok (.return_, 1) := by decide +kernel
theorem dX1_readRow_5 : decode cX1_readRow 5 = .ok (.iconst 0, 1) := by decide +kernel
theorem dX1_readRow_6 : decode cX1_readRow 6 = .ok (.istore_n 3, 1) := by decide +kernel
theorem dX1_readRow_7 : decode cX1_readRow 7 = .ok (.iload_n 3, 1) := by decide +kernel
theorem dX1_readRow_8 : decode cX1_readRow 8 = .ok (.aload_n 1, 1) := by decide +kernel
theorem dX1_readRow_9 : decode cX1_readRow 9 = .ok (.getfield 36, 3) := by decide +kernel
theorem dX1_readRow_12 : decode cX1_readRow 12 = .ok (.arraylength, 1) := by decide +kernel
theorem dX1_readRow_13 : decode cX1_readRow 13 = .ok (.if_icmp .ge 60, 3) := by decide +kernel
theorem dX1_readRow_16 : decode cX1_readRow 16 = .ok (.iload_n 3, 1) := by decide +kernel
theorem dX1_readRow_17 : decode cX1_readRow 17 = .ok (.bipush 10, 2) := by decide +kernel
theorem dX1_readRow_19 : decode cX1_readRow 19 = .ok (.if_icmp .ge 54, 3) := by decide +kernel
theorem dX1_readRow_22 : decode cX1_readRow 22 = .ok (.aload_n 0, 1) := by decide +kernel
theorem dX1_readRow_23 : decode cX1_readRow 23 = .ok (.getfield 9, 3) := by decide +kernel
theorem dX1_readRow_26 : decode cX1_readRow 26 = .ok (.iload_n 2, 1) := by decide +kernel
theorem dX1_readRow_27 : decode cX1_readRow 27 = .ok (.iload_n 3, 1) := by decide +kernel
theorem dX1_readRow_28 : decode cX1_readRow 28 = .ok (.iadd, 1) := by decide +kernel
theorem dX1_readRow_29 : decode cX1_readRow 29 = .ok (.aload_n 1, 1) := by decide +kernel
theorem dX1_readRow_30 : decode cX1_readRow 30 = .ok (.getfield 36, 3) := by decide +kernel
theorem dX1_readRow_33 : decode cX1_readRow 33 = .ok (.iload_n 3, 1) := by decide +kernel
theorem dX1_readRow_34 : decode cX1_readRow 34 = .ok (.iaload, 1) := by decide +kernel
theorem dX1_readRow_35 : decode cX1_readRow 35 = .ok (.iastore, 1) := by decide +kernel
theorem dX1_readRow_36 : decode cX1_readRow 36 = .ok (.aload_n 1, 1) := by decide +kernel
theorem dX1_readRow_37 : decode cX1_readRow 37 = .ok (.getfield 36, 3) := by decide +kernel
theorem dX1_readRow_40 : decode cX1_readRow 40 = .ok (.iload_n 3, 1) := by decide +kernel
theorem dX1_readRow_41 : decode cX1_readRow 41 = .ok (.iaload, 1) := by decide +kernel
theorem dX1_readRow_42 : decode cX1_readRow 42 = .ok (.ifCond .le 25, 3) := by decide +kernel
theorem dX1_readRow_45 : decode cX1_readRow 45 = .ok (.aload_n 0, 1) := by decide +kernel
theorem dX1_readRow_46 : decode cX1_readRow 46 = .ok (.getfield 15, 3) := by decide +kernel
theorem dX1_readRow_49 : decode cX1_readRow 49 = .ok (.aload_n 0, 1) := by decide +kernel
theorem dX1_readRow_50 : decode cX1_readRow 50 = .ok (.getfield 18, 3) := by decide +kernel
theorem dX1_readRow_53 : decode cX1_readRow 53 = .ok (.iload_n 2, 1) := by decide +kernel
theorem dX1_readRow_54 : decode cX1_readRow 54 = .ok (.iload_n 3, 1) := by decide +kernel
theorem dX1_readRow_55 : decode cX1_readRow 55 = .ok (.iadd, 1) := by decide +kernel
theorem dX1_readRow_56 : decode cX1_readRow 56 = .ok (.iastore, 1) := by decide +kernel
theorem dX1_readRow_57 : decode cX1_readRow 57 = .ok (.aload_n 0, 1) := by decide +kernel
theorem dX1_readRow_58 : decode cX1_readRow 58 = .ok (.dup, 1) := by decide +kernel
theorem dX1_readRow_59 : decode cX1_readRow 59 = .ok (.getfield 18, 3) := by decide +kernel
theorem dX1_readRow_62 : decode cX1_readRow 62 = .ok (.iconst 1, 1) := by decide +kernel
theorem dX1_readRow_63 : decode cX1_readRow 63 = .ok (.iadd, 1) := by decide +kernel
theorem dX1_readRow_64 : decode cX1_readRow 64 = .ok (.putfield 18, 3) := by decide +kernel
theorem dX1_readRow_67 : decode cX1_readRow 67 = .ok (.iinc 3 1, 3) := by decide +kernel
theorem dX1_readRow_70 : decode cX1_readRow 70 = .ok (.goto (-63), 3) := by decide +kernel
theorem dX1_readRow_73 : decode cX1_readRow 73 = .ok (.return_, 1) := by decide +kernel
theorem dX1_listOnly_0 : decode cX1_listOnly 0 = .ok (.iconst 0, 1) := by decide +kernel
theorem dX1_listOnly_1 : decode cX1_listOnly 1 = .ok (.istore_n 2, 1) := by decide +kernel
theorem dX1_listOnly_2 : decode cX1_listOnly 2 = .ok (.iconst 0, 1) := by decide +kernel
theorem dX1_listOnly_3 : decode cX1_listOnly 3 = .ok (.istore_n 3, 1) := by decide +kernel
theorem dX1_listOnly_4 : decode cX1_listOnly 4 = .ok (.iload_n 3, 1) := by decide +kernel
theorem dX1_listOnly_5 : decode cX1_listOnly 5 = .ok (.aload_n 0, 1) := by decide +kernel
theorem dX1_listOnly_6 : decode cX1_listOnly 6 = .ok (.getfield 18, 3) := by decide +kernel
theorem dX1_listOnly_9 : decode cX1_listOnly 9 = .ok (.if_icmp .ge 37, 3) := by decide +kernel
theorem dX1_listOnly_12 : decode cX1_listOnly 12 = .ok (.aload_n 1, 1) := by decide +kernel
theorem dX1_listOnly_13 : decode cX1_listOnly 13 = .ok (.aload_n 0, 1) := by decide +kernel
theorem dX1_listOnly_14 : decode cX1_listOnly 14 = .ok (.getfield 15, 3) := by decide +kernel
theorem dX1_listOnly_17 : decode cX1_listOnly 17 = .ok (.iload_n 3, 1) := by decide +kernel
theorem dX1_listOnly_18 : decode cX1_listOnly 18 = .ok (.iaload, 1) := by decide +kernel
theorem dX1_listOnly_19 : decode cX1_listOnly 19 = .ok (.invokevirtual 41, 3) := by decide +kernel
theorem dX1_listOnly_22 : decode cX1_listOnly 22 = .ok (.ifCond .eq 18, 3) := by decide +kernel
theorem dX1_listOnly_25 : decode cX1_listOnly 25 = .ok (.aload_n 0, 1) := by decide +kernel
theorem dX1_listOnly_26 : decode cX1_listOnly 26 = .ok (.getfield 15, 3) := by decide +kernel
theorem dX1_listOnly_29 : decode cX1_listOnly 29 = .ok (.iload_n 2, 1) := by decide +kernel
theorem dX1_listOnly_30 : decode cX1_listOnly 30 = .ok (.aload_n 0, 1) := by decide +kernel
theorem dX1_listOnly_31 : decode cX1_listOnly 31 = .ok (.getfield 15, 3) := by decide +kernel
theorem dX1_listOnly_34 : decode cX1_listOnly 34 = .ok (.iload_n 3, 1) := by decide +kernel
theorem dX1_listOnly_35 : decode cX1_listOnly 35 = .ok (.iaload, 1) := by decide +kernel
theorem dX1_listOnly_36 : decode cX1_listOnly 36 = .ok (.iastore, 1) := by decide +kernel
theorem dX1_listOnly_37 : decode cX1_listOnly 37 = .ok (.iinc 2 1, 3) := by decide +kernel
theorem dX1_listOnly_40 : decode cX1_listOnly 40 = .ok (.iinc 3 1, 3) := by decide +kernel
theorem dX1_listOnly_43 : decode cX1_listOnly 43 = .ok (.goto (-39), 3) := by decide +kernel
theorem dX1_listOnly_46 : decode cX1_listOnly 46 = .ok (.aload_n 0, 1) := by decide +kernel
theorem dX1_listOnly_47 : decode cX1_listOnly 47 = .ok (.iload_n 2, 1) := by decide +kernel
theorem dX1_listOnly_48 : decode cX1_listOnly 48 = .ok (.putfield 18, 3) := by decide +kernel
theorem dX1_listOnly_51 : decode cX1_listOnly 51 = .ok (.return_, 1) := by decide +kernel
theorem dX1_code_0 : decode cX1_code 0 = .ok (.iload_n 1, 1) := by decide +kernel
theorem dX1_code_1 : decode cX1_code 1 = .ok (.invokestatic 47, 3) := by decide +kernel
theorem dX1_code_4 : decode cX1_code 4 = .ok (.ifCond .eq 12, 3) := by decide +kernel
theorem dX1_code_7 : decode cX1_code 7 = .ok (.aload_n 0, 1) := by decide +kernel
theorem dX1_code_8 : decode cX1_code 8 = .ok (.getfield 9, 3) := by decide +kernel
theorem dX1_code_11 : decode cX1_code 11 = .ok (.iload_n 1, 1) := by decide +kernel
theorem dX1_code_12 : decode cX1_code 12 = .ok (.iaload, 1) := by decide +kernel
theorem dX1_code_13 : decode cX1_code 13 = .ok (.goto 4, 3) := by decide +kernel
theorem dX1_code_16 : decode cX1_code 16 = .ok (.iconst (-1), 1) := by decide +kernel
theorem dX1_code_17 : decode cX1_code 17 = .ok (.ireturn, 1) := by decide +kernel
theorem dX1_write_0 : decode cX1_write 0 = .ok (.iload_n 1, 1) := by decide +kernel
theorem dX1_write_1 : decode cX1_write 1 = .ok (.invokestatic 47, 3) := by decide +kernel
theorem dX1_write_4 : decode cX1_write 4 = .ok (.ifCond .eq 10, 3) := by decide +kernel
theorem dX1_write_7 : decode cX1_write 7 = .ok (.aload_n 0, 1) := by decide +kernel
theorem dX1_write_8 : decode cX1_write 8 = .ok (.getfield 9, 3) := by decide +kernel
theorem dX1_write_11 : decode cX1_write 11 = .ok (.iload_n 1, 1) := by decide +kernel
theorem dX1_write_12 : decode cX1_write 12 = .ok (.iload_n 2, 1) := by decide +kernel
theorem dX1_write_13 : decode cX1_write 13 = .ok (.iastore, 1) := by decide +kernel
theorem dX1_write_14 : decode cX1_write 14 = .ok (.return_, 1) := by decide +kernel
theorem dX1_isBlock_0 : decode cX1_isBlock 0 = .ok (.aload_n 0, 1) := by decide +kernel
theorem dX1_isBlock_1 : decode cX1_isBlock 1 = .ok (.iload_n 1, 1) := by decide +kernel
theorem dX1_isBlock_2 : decode cX1_isBlock 2 = .ok (.invokevirtual 50, 3) := by decide +kernel
theorem dX1_isBlock_5 : decode cX1_isBlock 5 = .ok (.ifCond .le 7, 3) := by decide +kernel
theorem dX1_isBlock_8 : decode cX1_isBlock 8 = .ok (.iconst 1, 1) := by decide +kernel
theorem dX1_isBlock_9 : decode cX1_isBlock 9 = .ok (.goto 4, 3) := by decide +kernel
theorem dX1_isBlock_12 : decode cX1_isBlock 12 = .ok (.iconst 0, 1) := by decide +kernel
theorem dX1_isBlock_13 : decode cX1_isBlock 13 = .ok (.ireturn, 1) := by decide +kernel
theorem dX1_beside_0 : decode cX1_beside 0 = .ok (.iload_n 1, 1) := by decide +kernel
theorem dX1_beside_1 : decode cX1_beside 1 = .ok (.iconst 2, 1) := by decide +kernel
theorem dX1_beside_2 : decode cX1_beside 2 = .ok (.idiv, 1) := by decide +kernel
theorem dX1_beside_3 : decode cX1_beside 3 = .ok (.istore_n 2, 1) := by decide +kernel
theorem dX1_beside_4 : decode cX1_beside 4 = .ok (.iload_n 2, 1) := by decide +kernel
theorem dX1_beside_5 : decode cX1_beside 5 = .ok (.iload_n 0, 1) := by decide +kernel
theorem dX1_beside_6 : decode cX1_beside 6 = .ok (.invokestatic 54, 3) := by decide +kernel
theorem dX1_beside_9 : decode cX1_beside 9 = .ok (.istore_n 3, 1) := by decide +kernel
theorem dX1_beside_10 : decode cX1_beside 10 = .ok (.iload_n 1, 1) := by decide +kernel
theorem dX1_beside_11 : decode cX1_beside 11 = .ok (.iconst 2, 1) := by decide +kernel
theorem dX1_beside_12 : decode cX1_beside 12 = .ok (.irem, 1) := by decide +kernel
theorem dX1_beside_13 : decode cX1_beside 13 = .ok (.ifCond .ne 20, 3) := by decide +kernel
theorem dX1_beside_16 : decode cX1_beside 16 = .ok (.iload_n 3, 1) := by decide +kernel
theorem dX1_beside_17 : decode cX1_beside 17 = .ok (.bipush 9, 2) := by decide +kernel
theorem dX1_beside_19 : decode cX1_beside 19 = .ok (.if_icmp .ge 12, 3) := by decide +kernel
theorem dX1_beside_22 : decode cX1_beside 22 = .ok (.iload_n 0, 1) := by decide +kernel
theorem dX1_beside_23 : decode cX1_beside 23 = .ok (.iload_n 2, 1) := by decide +kernel
theorem dX1_beside_24 : decode cX1_beside 24 = .ok (.invokestatic 58, 3) := by decide +kernel
theorem dX1_beside_27 : decode cX1_beside 27 = .ok (.iadd, 1) := by decide +kernel
theorem dX1_beside_28 : decode cX1_beside 28 = .ok (.goto 4, 3) := by decide +kernel
theorem dX1_beside_31 : decode cX1_beside 31 = .ok (.iconst (-1), 1) := by decide +kernel
theorem dX1_beside_32 : decode cX1_beside 32 = .ok (.ireturn, 1) := by decide +kernel
theorem dX1_beside_33 : decode cX1_beside 33 = .ok (.iload_n 3, 1) := by decide +kernel
theorem dX1_beside_34 : decode cX1_beside 34 = .ok (.ifCond .le 12, 3) := by decide +kernel
theorem dX1_beside_37 : decode cX1_beside 37 = .ok (.iload_n 0, 1) := by decide +kernel
theorem dX1_beside_38 : decode cX1_beside 38 = .ok (.iload_n 2, 1) := by decide +kernel
theorem dX1_beside_39 : decode cX1_beside 39 = .ok (.invokestatic 58, 3) := by decide +kernel
theorem dX1_beside_42 : decode cX1_beside 42 = .ok (.isub, 1) := by decide +kernel
theorem dX1_beside_43 : decode cX1_beside 43 = .ok (.goto 4, 3) := by decide +kernel
theorem dX1_beside_46 : decode cX1_beside 46 = .ok (.iconst (-1), 1) := by decide +kernel
theorem dX1_beside_47 : decode cX1_beside 47 = .ok (.ireturn, 1) := by decide +kernel
theorem dX1_bareSides_0 : decode cX1_bareSides 0 = .ok (.iconst 0, 1) := by decide +kernel
theorem dX1_bareSides_1 : decode cX1_bareSides 1 = .ok (.istore_n 2, 1) := by decide +kernel
theorem dX1_bareSides_2 : decode cX1_bareSides 2 = .ok (.iconst 0, 1) := by decide +kernel
theorem dX1_bareSides_3 : decode cX1_bareSides 3 = .ok (.istore_n 3, 1) := by decide +kernel
theorem dX1_bareSides_4 : decode cX1_bareSides 4 = .ok (.iload_n 3, 1) := by decide +kernel
theorem dX1_bareSides_5 : decode cX1_bareSides 5 = .ok (.bipush 6, 2) := by decide +kernel
theorem dX1_bareSides_7 : decode cX1_bareSides 7 = .ok (.if_icmp .ge 24, 3) := by decide +kernel
theorem dX1_bareSides_10 : decode cX1_bareSides 10 = .ok (.aload_n 0, 1) := by decide +kernel
theorem dX1_bareSides_11 : decode cX1_bareSides 11 = .ok (.iload_n 1, 1) := by decide +kernel
theorem dX1_bareSides_12 : decode cX1_bareSides 12 = .ok (.iload_n 3, 1) := by decide +kernel
theorem dX1_bareSides_13 : decode cX1_bareSides 13 = .ok (.invokestatic 61, 3) := by decide +kernel
theorem dX1_bareSides_16 : decode cX1_bareSides 16 = .ok (.invokevirtual 64, 3) := by decide +kernel
theorem dX1_bareSides_19 : decode cX1_bareSides 19 = .ok (.ifCond .ne 6, 3) := by decide +kernel
theorem dX1_bareSides_22 : decode cX1_bareSides 22 = .ok (.iinc 2 1, 3) := by decide +kernel
theorem dX1_bareSides_25 : decode cX1_bareSides 25 = .ok (.iinc 3 1, 3) := by decide +kernel
theorem dX1_bareSides_28 : decode cX1_bareSides 28 = .ok (.goto (-24), 3) := by decide +kernel
theorem dX1_bareSides_31 : decode cX1_bareSides 31 = .ok (.iload_n 2, 1) := by decide +kernel
theorem dX1_bareSides_32 : decode cX1_bareSides 32 = .ok (.ireturn, 1) := by decide +kernel
theorem dX1_least_0 : decode cX1_least 0 = .ok (.bipush 9, 2) := by decide +kernel
theorem dX1_least_2 : decode cX1_least 2 = .ok (.istore_n 2, 1) := by decide +kernel
theorem dX1_least_3 : decode cX1_least 3 = .ok (.iconst 0, 1) := by decide +kernel
theorem dX1_least_4 : decode cX1_least 4 = .ok (.istore_n 3, 1) := by decide +kernel
theorem dX1_least_5 : decode cX1_least 5 = .ok (.iload_n 3, 1) := by decide +kernel
theorem dX1_least_6 : decode cX1_least 6 = .ok (.aload_n 0, 1) := by decide +kernel
theorem dX1_least_7 : decode cX1_least 7 = .ok (.getfield 18, 3) := by decide +kernel
theorem dX1_least_10 : decode cX1_least 10 = .ok (.if_icmp .ge 24, 3) := by decide +kernel
theorem dX1_least_13 : decode cX1_least 13 = .ok (.iload_n 2, 1) := by decide +kernel
theorem dX1_least_14 : decode cX1_least 14 = .ok (.iload_n 1, 1) := by decide +kernel
theorem dX1_least_15 : decode cX1_least 15 = .ok (.aload_n 0, 1) := by decide +kernel
theorem dX1_least_16 : decode cX1_least 16 = .ok (.getfield 15, 3) := by decide +kernel
theorem dX1_least_19 : decode cX1_least 19 = .ok (.iload_n 3, 1) := by decide +kernel
theorem dX1_least_20 : decode cX1_least 20 = .ok (.iaload, 1) := by decide +kernel
theorem dX1_least_21 : decode cX1_least 21 = .ok (.invokestatic 54, 3) := by decide +kernel
theorem dX1_least_24 : decode cX1_least 24 = .ok (.invokestatic 67, 3) := by decide +kernel
theorem dX1_least_27 : decode cX1_least 27 = .ok (.istore_n 2, 1) := by decide +kernel
theorem dX1_least_28 : decode cX1_least 28 = .ok (.iinc 3 1, 3) := by decide +kernel
theorem dX1_least_31 : decode cX1_least 31 = .ok (.goto (-26), 3) := by decide +kernel
theorem dX1_least_34 : decode cX1_least 34 = .ok (.iload_n 2, 1) := by decide +kernel
theorem dX1_least_35 : decode cX1_least 35 = .ok (.ireturn, 1) := by decide +kernel
theorem dX1_most_0 : decode cX1_most 0 = .ok (.iconst 0, 1) := by decide +kernel
theorem dX1_most_1 : decode cX1_most 1 = .ok (.istore_n 2, 1) := by decide +kernel
theorem dX1_most_2 : decode cX1_most 2 = .ok (.iconst 0, 1) := by decide +kernel
theorem dX1_most_3 : decode cX1_most 3 = .ok (.istore_n 3, 1) := by decide +kernel
theorem dX1_most_4 : decode cX1_most 4 = .ok (.iload_n 3, 1) := by decide +kernel
theorem dX1_most_5 : decode cX1_most 5 = .ok (.aload_n 0, 1) := by decide +kernel
theorem dX1_most_6 : decode cX1_most 6 = .ok (.getfield 18, 3) := by decide +kernel
theorem dX1_most_9 : decode cX1_most 9 = .ok (.if_icmp .ge 24, 3) := by decide +kernel
theorem dX1_most_12 : decode cX1_most 12 = .ok (.iload_n 2, 1) := by decide +kernel
theorem dX1_most_13 : decode cX1_most 13 = .ok (.iload_n 1, 1) := by decide +kernel
theorem dX1_most_14 : decode cX1_most 14 = .ok (.aload_n 0, 1) := by decide +kernel
theorem dX1_most_15 : decode cX1_most 15 = .ok (.getfield 15, 3) := by decide +kernel
theorem dX1_most_18 : decode cX1_most 18 = .ok (.iload_n 3, 1) := by decide +kernel
theorem dX1_most_19 : decode cX1_most 19 = .ok (.iaload, 1) := by decide +kernel
theorem dX1_most_20 : decode cX1_most 20 = .ok (.invokestatic 54, 3) := by decide +kernel
theorem dX1_most_23 : decode cX1_most 23 = .ok (.invokestatic 72, 3) := by decide +kernel
theorem dX1_most_26 : decode cX1_most 26 = .ok (.istore_n 2, 1) := by decide +kernel
theorem dX1_most_27 : decode cX1_most 27 = .ok (.iinc 3 1, 3) := by decide +kernel
theorem dX1_most_30 : decode cX1_most 30 = .ok (.goto (-26), 3) := by decide +kernel
theorem dX1_most_33 : decode cX1_most 33 = .ok (.iload_n 2, 1) := by decide +kernel
theorem dX1_most_34 : decode cX1_most 34 = .ok (.ireturn, 1) := by decide +kernel
theorem dX1_bears_0 : decode cX1_bears 0 = .ok (.iconst 0, 1) := by decide +kernel
theorem dX1_bears_1 : decode cX1_bears 1 = .ok (.istore_n 3, 1) := by decide +kernel
theorem dX1_bears_2 : decode cX1_bears 2 = .ok (.iload_n 3, 1) := by decide +kernel
theorem dX1_bears_3 : decode cX1_bears 3 = .ok (.aload_n 1, 1) := by decide +kernel
theorem dX1_bears_4 : decode cX1_bears 4 = .ok (.getfield 18, 3) := by decide +kernel
theorem dX1_bears_7 : decode cX1_bears 7 = .ok (.if_icmp .ge 36, 3) := by decide +kernel
theorem dX1_bears_10 : decode cX1_bears 10 = .ok (.aload_n 1, 1) := by decide +kernel
theorem dX1_bears_11 : decode cX1_bears 11 = .ok (.getfield 15, 3) := by decide +kernel
theorem dX1_bears_14 : decode cX1_bears 14 = .ok (.iload_n 3, 1) := by decide +kernel
theorem dX1_bears_15 : decode cX1_bears 15 = .ok (.iaload, 1) := by decide +kernel
theorem dX1_bears_16 : decode cX1_bears 16 = .ok (.istore 4, 2) := by decide +kernel
theorem dX1_bears_18 : decode cX1_bears 18 = .ok (.aload_n 0, 1) := by decide +kernel
theorem dX1_bears_19 : decode cX1_bears 19 = .ok (.iload 4, 2) := by decide +kernel
theorem dX1_bears_21 : decode cX1_bears 21 = .ok (.iload_n 2, 1) := by decide +kernel
theorem dX1_bears_22 : decode cX1_bears 22 = .ok (.iadd, 1) := by decide +kernel
theorem dX1_bears_23 : decode cX1_bears 23 = .ok (.invokevirtual 50, 3) := by decide +kernel
theorem dX1_bears_26 : decode cX1_bears 26 = .ok (.aload_n 1, 1) := by decide +kernel
theorem dX1_bears_27 : decode cX1_bears 27 = .ok (.iload 4, 2) := by decide +kernel
theorem dX1_bears_29 : decode cX1_bears 29 = .ok (.invokevirtual 50, 3) := by decide +kernel
theorem dX1_bears_32 : decode cX1_bears 32 = .ok (.if_icmp .eq 5, 3) := by decide +kernel
theorem dX1_bears_35 : decode cX1_bears 35 = .ok (.iconst 0, 1) := by decide +kernel
theorem dX1_bears_36 : decode cX1_bears 36 = .ok (.ireturn, 1) := by decide +kernel
theorem dX1_bears_37 : decode cX1_bears 37 = .ok (.iinc 3 1, 3) := by decide +kernel
theorem dX1_bears_40 : decode cX1_bears 40 = .ok (.goto (-38), 3) := by decide +kernel
theorem dX1_bears_43 : decode cX1_bears 43 = .ok (.iconst 1, 1) := by decide +kernel
theorem dX1_bears_44 : decode cX1_bears 44 = .ok (.ireturn, 1) := by decide +kernel
theorem dX2_init_0 : decode cX2_init 0 = .ok (.aload_n 0, 1) := by decide +kernel
theorem dX2_init_1 : decode cX2_init 1 = .ok (.invokespecial 3, 3) := by decide +kernel
theorem dX2_init_4 : decode cX2_init 4 = .ok (.aload_n 0, 1) := by decide +kernel
theorem dX2_init_5 : decode cX2_init 5 = .ok (.bipush 31, 2) := by decide +kernel
theorem dX2_init_7 : decode cX2_init 7 = .ok (.newarray .int, 2) := by decide +kernel
theorem dX2_init_9 : decode cX2_init 9 = .ok (.putfield 9, 3) := by decide +kernel
theorem dX2_init_12 : decode cX2_init 12 = .ok (.aload_n 0, 1) := by decide +kernel
theorem dX2_init_13 : decode cX2_init 13 = .ok (.bipush 31, 2) := by decide +kernel
theorem dX2_init_15 : decode cX2_init 15 = .ok (.newarray .int, 2) := by decide +kernel
theorem dX2_init_17 : decode cX2_init 17 = .ok (.putfield 15, 3) := by decide +kernel
theorem dX2_init_20 : decode cX2_init 20 = .ok (.aload_n 0, 1) := by decide +kernel
theorem dX2_init_21 : decode cX2_init 21 = .ok (.bipush 31, 2) := by decide +kernel
theorem dX2_init_23 : decode cX2_init 23 = .ok (.newarray .int, 2) := by decide +kernel
theorem dX2_init_25 : decode cX2_init 25 = .ok (.putfield 18, 3) := by decide +kernel
theorem dX2_init_28 : decode cX2_init 28 = .ok (.aload_n 0, 1) := by decide +kernel
theorem dX2_init_29 : decode cX2_init 29 = .ok (.bipush 31, 2) := by decide +kernel
theorem dX2_init_31 : decode cX2_init 31 = .ok (.newarray .int, 2) := by decide +kernel
theorem dX2_init_33 : decode cX2_init 33 = .ok (.putfield 21, 3) := by decide +kernel
theorem dX2_init_36 : decode cX2_init 36 = .ok (.aload_n 0, 1) := by decide +kernel
theorem dX2_init_37 : decode cX2_init 37 = .ok (.bipush 31, 2) := by decide +kernel
theorem dX2_init_39 : decode cX2_init 39 = .ok (.newarray .boolean, 2) := by decide +kernel
theorem dX2_init_41 : decode cX2_init 41 = .ok (.putfield 24, 3) := by decide +kernel
theorem dX2_init_44 : decode cX2_init 44 = .ok (.return_, 1) := by decide +kernel
theorem dX2_add_0 : decode cX2_add 0 = .ok (.aload_n 0, 1) := by decide +kernel
theorem dX2_add_1 : decode cX2_add 1 = .ok (.getfield 28, 3) := by decide +kernel
theorem dX2_add_4 : decode cX2_add 4 = .ok (.bipush 30, 2) := by decide +kernel
theorem dX2_add_6 : decode cX2_add 6 = .ok (.if_icmp .ge 48, 3) := by decide +kernel
theorem dX2_add_9 : decode cX2_add 9 = .ok (.iload_n 1, 1) := by decide +kernel
theorem dX2_add_10 : decode cX2_add 10 = .ok (.iconst 1, 1) := by decide +kernel
theorem dX2_add_11 : decode cX2_add 11 = .ok (.if_icmp .lt 43, 3) := by decide +kernel
theorem dX2_add_14 : decode cX2_add 14 = .ok (.iload_n 1, 1) := by decide +kernel
theorem dX2_add_15 : decode cX2_add 15 = .ok (.sipush 10000, 3) := by decide +kernel
theorem dX2_add_18 : decode cX2_add 18 = .ok (.if_icmp .gt 36, 3) := by decide +kernel
theorem dX2_add_21 : decode cX2_add 21 = .ok (.iload_n 2, 1) := by decide +kernel
theorem dX2_add_22 : decode cX2_add 22 = .ok (.ifCond .lt 32, 3) := by decide +kernel
theorem dX2_add_25 : decode cX2_add 25 = .ok (.iload_n 2, 1) := by decide +kernel
theorem dX2_add_26 : decode cX2_add 26 = .ok (.ldc 32, 2) := by decide +kernel
theorem dX2_add_28 : decode cX2_add 28 = .ok (.if_icmp .gt 26, 3) := by decide +kernel
theorem dX2_add_31 : decode cX2_add 31 = .ok (.iload_n 3, 1) := by decide +kernel
theorem dX2_add_32 : decode cX2_add 32 = .ok (.ifCond .lt 22, 3) := by decide +kernel
theorem dX2_add_35 : decode cX2_add 35 = .ok (.iload_n 3, 1) := by decide +kernel
theorem dX2_add_36 : decode cX2_add 36 = .ok (.bipush 15, 2) := by decide +kernel
theorem dX2_add_38 : decode cX2_add 38 = .ok (.if_icmp .gt 16, 3) := by decide +kernel
theorem dX2_add_41 : decode cX2_add 41 = .ok (.iload 4, 2) := by decide +kernel
theorem dX2_add_43 : decode cX2_add 43 = .ok (.iconst 1, 1) := by decide +kernel
theorem dX2_add_44 : decode cX2_add 44 = .ok (.if_icmp .lt 10, 3) := by decide +kernel
theorem dX2_add_47 : decode cX2_add 47 = .ok (.iload 4, 2) := by decide +kernel
theorem dX2_add_49 : decode cX2_add 49 = .ok (.bipush 16, 2) := by decide +kernel
theorem dX2_add_51 : decode cX2_add 51 = .ok (.if_icmp .le 5, 3) := by decide +kernel
theorem dX2_add_54 : decode cX2_add 54 = .ok (.iconst (-1), 1) := by decide +kernel
theorem dX2_add_55 : decode cX2_add 55 = .ok (.ireturn, 1) := by decide +kernel
theorem dX2_add_56 : decode cX2_add 56 = .ok (.aload_n 0, 1) := by decide +kernel
theorem dX2_add_57 : decode cX2_add 57 = .ok (.dup, 1) := by decide +kernel
theorem dX2_add_58 : decode cX2_add 58 = .ok (.getfield 28, 3) := by decide +kernel
theorem dX2_add_61 : decode cX2_add 61 = .ok (.iconst 1, 1) := by decide +kernel
theorem dX2_add_62 : decode cX2_add 62 = .ok (.iadd, 1) := by decide +kernel
theorem dX2_add_63 : decode cX2_add 63 = .ok (.putfield 28, 3) := by decide +kernel
theorem dX2_add_66 : decode cX2_add 66 = .ok (.aload_n 0, 1) := by decide +kernel
theorem dX2_add_67 : decode cX2_add 67 = .ok (.getfield 9, 3) := by decide +kernel
theorem dX2_add_70 : decode cX2_add 70 = .ok (.aload_n 0, 1) := by decide +kernel
theorem dX2_add_71 : decode cX2_add 71 = .ok (.getfield 28, 3) := by decide +kernel
theorem dX2_add_74 : decode cX2_add 74 = .ok (.iload_n 1, 1) := by decide +kernel
theorem dX2_add_75 : decode cX2_add 75 = .ok (.iastore, 1) := by decide +kernel
theorem dX2_add_76 : decode cX2_add 76 = .ok (.aload_n 0, 1) := by decide +kernel
theorem dX2_add_77 : decode cX2_add 77 = .ok (.getfield 15, 3) := by decide +kernel
theorem dX2_add_80 : decode cX2_add 80 = .ok (.aload_n 0, 1) := by decide +kernel
theorem dX2_add_81 : decode cX2_add 81 = .ok (.getfield 28, 3) := by decide +kernel
theorem dX2_add_84 : decode cX2_add 84 = .ok (.iload_n 2, 1) := by decide +kernel
theorem dX2_add_85 : decode cX2_add 85 = .ok (.iastore, 1) := by decide +kernel
theorem dX2_add_86 : decode cX2_add 86 = .ok (.aload_n 0, 1) := by decide +kernel
theorem dX2_add_87 : decode cX2_add 87 = .ok (.getfield 18, 3) := by decide +kernel
theorem dX2_add_90 : decode cX2_add 90 = .ok (.aload_n 0, 1) := by decide +kernel
theorem dX2_add_91 : decode cX2_add 91 = .ok (.getfield 28, 3) := by decide +kernel
theorem dX2_add_94 : decode cX2_add 94 = .ok (.iload_n 3, 1) := by decide +kernel
theorem dX2_add_95 : decode cX2_add 95 = .ok (.iastore, 1) := by decide +kernel
theorem dX2_add_96 : decode cX2_add 96 = .ok (.aload_n 0, 1) := by decide +kernel
theorem dX2_add_97 : decode cX2_add 97 = .ok (.getfield 21, 3) := by decide +kernel
theorem dX2_add_100 : decode cX2_add 100 = .ok (.aload_n 0, 1) := by decide +kernel
theorem dX2_add_101 : decode cX2_add 101 = .ok (.getfield 28, 3) := by decide +kernel
theorem dX2_add_104 : decode cX2_add 104 = .ok (.iload 4, 2) := by decide +kernel
theorem dX2_add_106 : decode cX2_add 106 = .ok (.iastore, 1) := by decide +kernel
theorem dX2_add_107 : decode cX2_add 107 = .ok (.aload_n 0, 1) := by decide +kernel
theorem dX2_add_108 : decode cX2_add 108 = .ok (.getfield 24, 3) := by decide +kernel
theorem dX2_add_111 : decode cX2_add 111 = .ok (.aload_n 0, 1) := by decide +kernel
theorem dX2_add_112 : decode cX2_add 112 = .ok (.getfield 28, 3) := by decide +kernel
theorem dX2_add_115 : decode cX2_add 115 = .ok (.iload 5, 2) := by decide +kernel
theorem dX2_add_117 : decode cX2_add 117 = .ok (.bastore, 1) := by decide +kernel
theorem dX2_add_118 : decode cX2_add 118 = .ok (.aload_n 0, 1) := by decide +kernel
theorem dX2_add_119 : decode cX2_add 119 = .ok (.getfield 28, 3) := by decide +kernel
theorem dX2_add_122 : decode cX2_add 122 = .ok (.ireturn, 1) := by decide +kernel
theorem dX2_isKind_0 : decode cX2_isKind 0 = .ok (.iload_n 1, 1) := by decide +kernel
theorem dX2_isKind_1 : decode cX2_isKind 1 = .ok (.iconst 1, 1) := by decide +kernel
theorem dX2_isKind_2 : decode cX2_isKind 2 = .ok (.if_icmp .lt 15, 3) := by decide +kernel
theorem dX2_isKind_5 : decode cX2_isKind 5 = .ok (.iload_n 1, 1) := by decide +kernel
theorem dX2_isKind_6 : decode cX2_isKind 6 = .ok (.aload_n 0, 1) := by decide +kernel
theorem dX2_isKind_7 : decode cX2_isKind 7 = .ok (.getfield 28, 3) := by decide +kernel
theorem dX2_isKind_10 : decode cX2_isKind 10 = .ok (.if_icmp .gt 7, 3) := by decide +kernel
theorem dX2_isKind_13 : decode cX2_isKind 13 = .ok (.iconst 1, 1) := by decide +kernel
theorem dX2_isKind_14 : decode cX2_isKind 14 = .ok (.goto 4, 3) := by decide +kernel
theorem dX2_isKind_17 : decode cX2_isKind 17 = .ok (.iconst 0, 1) := by decide +kernel
theorem dX2_isKind_18 : decode cX2_isKind 18 = .ok (.ireturn, 1) := by decide +kernel
theorem dX2_isKindOrOpen_0 : decode cX2_isKindOrOpen 0 = .ok (.iload_n 1, 1) := by decide +kernel
theorem dX2_isKindOrOpen_1 : decode cX2_isKindOrOpen 1 = .ok (.ifCond .eq 11, 3) := by decide +kernel
theorem dX2_isKindOrOpen_4 : decode cX2_isKindOrOpen 4 = .ok (.aload_n 0, 1) := by decide +kernel
theorem dX2_isKindOrOpen_5 : decode cX2_isKindOrOpen 5 = .ok (.iload_n 1, 1) := by decide +kernel
theorem dX2_isKindOrOpen_6 : decode cX2_isKindOrOpen 6 = .ok (.invokevirtual 33, 3) := by decide +kernel
theorem dX2_isKindOrOpen_9 : decode cX2_isKindOrOpen 9 = .ok (.ifCond .eq 7, 3) := by decide +kernel
theorem dX2_isKindOrOpen_12 : decode cX2_isKindOrOpen 12 = .ok (.iconst 1, 1) := by decide +kernel
theorem dX2_isKindOrOpen_13 : decode cX2_isKindOrOpen 13 = .ok (.goto 4, 3) := by decide +kernel
theorem dX2_isKindOrOpen_16 : decode cX2_isKindOrOpen 16 = .ok (.iconst 0, 1) := by decide +kernel
theorem dX2_isKindOrOpen_17 : decode cX2_isKindOrOpen 17 = .ok (.ireturn, 1) := by decide +kernel
theorem dX2_strengthOf_0 : decode cX2_strengthOf 0 = .ok (.aload_n 0, 1) := by decide +kernel
theorem dX2_strengthOf_1 : decode cX2_strengthOf 1 = .ok (.iload_n 1, 1) := by decide +kernel
theorem dX2_strengthOf_2 : decode cX2_strengthOf 2 = .ok (.invokevirtual 33, 3) := by decide +kernel
theorem dX2_strengthOf_5 : decode cX2_strengthOf 5 = .ok (.ifCond .eq 12, 3) := by decide +kernel
theorem dX2_strengthOf_8 : decode cX2_strengthOf 8 = .ok (.aload_n 0, 1) := by decide +kernel
theorem dX2_strengthOf_9 : decode cX2_strengthOf 9 = .ok (.getfield 15, 3) := by decide +kernel
theorem dX2_strengthOf_12 : decode cX2_strengthOf 12 = .ok (.iload_n 1, 1) := by decide +kernel
theorem dX2_strengthOf_13 : decode cX2_strengthOf 13 = .ok (.iaload, 1) := by decide +kernel
theorem dX2_strengthOf_14 : decode cX2_strengthOf 14 = .ok (.goto 4, 3) := by decide +kernel
theorem dX2_strengthOf_17 : decode cX2_strengthOf 17 = .ok (.iconst 0, 1) := by decide +kernel
theorem dX2_strengthOf_18 : decode cX2_strengthOf 18 = .ok (.ireturn, 1) := by decide +kernel
theorem dX2_lightOf_0 : decode cX2_lightOf 0 = .ok (.aload_n 0, 1) := by decide +kernel
theorem dX2_lightOf_1 : decode cX2_lightOf 1 = .ok (.iload_n 1, 1) := by decide +kernel
theorem dX2_lightOf_2 : decode cX2_lightOf 2 = .ok (.invokevirtual 33, 3) := by decide +kernel
theorem dX2_lightOf_5 : decode cX2_lightOf 5 = .ok (.ifCond .eq 12, 3) := by decide +kernel
theorem dX2_lightOf_8 : decode cX2_lightOf 8 = .ok (.aload_n 0, 1) := by decide +kernel
theorem dX2_lightOf_9 : decode cX2_lightOf 9 = .ok (.getfield 18, 3) := by decide +kernel
theorem dX2_lightOf_12 : decode cX2_lightOf 12 = .ok (.iload_n 1, 1) := by decide +kernel
theorem dX2_lightOf_13 : decode cX2_lightOf 13 = .ok (.iaload, 1) := by decide +kernel
theorem dX2_lightOf_14 : decode cX2_lightOf 14 = .ok (.goto 4, 3) := by decide +kernel
theorem dX2_lightOf_17 : decode cX2_lightOf 17 = .ok (.iconst 0, 1) := by decide +kernel
theorem dX2_lightOf_18 : decode cX2_lightOf 18 = .ok (.ireturn, 1) := by decide +kernel
theorem dX2_lossOf_0 : decode cX2_lossOf 0 = .ok (.aload_n 0, 1) := by decide +kernel
theorem dX2_lossOf_1 : decode cX2_lossOf 1 = .ok (.iload_n 1, 1) := by decide +kernel
theorem dX2_lossOf_2 : decode cX2_lossOf 2 = .ok (.invokevirtual 33, 3) := by decide +kernel
theorem dX2_lossOf_5 : decode cX2_lossOf 5 = .ok (.ifCond .eq 12, 3) := by decide +kernel
theorem dX2_lossOf_8 : decode cX2_lossOf 8 = .ok (.aload_n 0, 1) := by decide +kernel
theorem dX2_lossOf_9 : decode cX2_lossOf 9 = .ok (.getfield 21, 3) := by decide +kernel
theorem dX2_lossOf_12 : decode cX2_lossOf 12 = .ok (.iload_n 1, 1) := by decide +kernel
theorem dX2_lossOf_13 : decode cX2_lossOf 13 = .ok (.iaload, 1) := by decide +kernel
theorem dX2_lossOf_14 : decode cX2_lossOf 14 = .ok (.goto 4, 3) := by decide +kernel
theorem dX2_lossOf_17 : decode cX2_lossOf 17 = .ok (.iconst 1, 1) := by decide +kernel
theorem dX2_lossOf_18 : decode cX2_lossOf 18 = .ok (.ireturn, 1) := by decide +kernel
theorem dX2_hangs_0 : decode cX2_hangs 0 = .ok (.aload_n 0, 1) := by decide +kernel
theorem dX2_hangs_1 : decode cX2_hangs 1 = .ok (.iload_n 1, 1) := by decide +kernel
theorem dX2_hangs_2 : decode cX2_hangs 2 = .ok (.invokevirtual 33, 3) := by decide +kernel
theorem dX2_hangs_5 : decode cX2_hangs 5 = .ok (.ifCond .eq 16, 3) := by decide +kernel
theorem dX2_hangs_8 : decode cX2_hangs 8 = .ok (.aload_n 0, 1) := by decide +kernel
theorem dX2_hangs_9 : decode cX2_hangs 9 = .ok (.getfield 24, 3) := by decide +kernel
theorem dX2_hangs_12 : decode cX2_hangs 12 = .ok (.iload_n 1, 1) := by decide +kernel
theorem dX2_hangs_13 : decode cX2_hangs 13 = .ok (.baload, 1) := by decide +kernel
theorem dX2_hangs_14 : decode cX2_hangs 14 = .ok (.ifCond .eq 7, 3) := by decide +kernel
theorem dX2_hangs_17 : decode cX2_hangs 17 = .ok (.iconst 1, 1) := by decide +kernel
theorem dX2_hangs_18 : decode cX2_hangs 18 = .ok (.goto 4, 3) := by decide +kernel
theorem dX2_hangs_21 : decode cX2_hangs 21 = .ok (.iconst 0, 1) := by decide +kernel
theorem dX2_hangs_22 : decode cX2_hangs 22 = .ok (.ireturn, 1) := by decide +kernel
theorem dX2_loadOn_0 : decode cX2_loadOn 0 = .ok (.iconst 0, 1) := by decide +kernel
theorem dX2_loadOn_1 : decode cX2_loadOn 1 = .ok (.istore_n 3, 1) := by decide +kernel
theorem dX2_loadOn_2 : decode cX2_loadOn 2 = .ok (.iload_n 1, 1) := by decide +kernel
theorem dX2_loadOn_3 : decode cX2_loadOn 3 = .ok (.bipush 100, 2) := by decide +kernel
theorem dX2_loadOn_5 : decode cX2_loadOn 5 = .ok (.iadd, 1) := by decide +kernel
theorem dX2_loadOn_6 : decode cX2_loadOn 6 = .ok (.istore 4, 2) := by decide +kernel
theorem dX2_loadOn_8 : decode cX2_loadOn 8 = .ok (.iload 4, 2) := by decide +kernel
theorem dX2_loadOn_10 : decode cX2_loadOn 10 = .ok (.sipush 1000, 3) := by decide +kernel
theorem dX2_loadOn_13 : decode cX2_loadOn 13 = .ok (.if_icmp .ge 52, 3) := by decide +kernel
theorem dX2_loadOn_16 : decode cX2_loadOn 16 = .ok (.aload_n 2, 1) := by decide +kernel
theorem dX2_loadOn_17 : decode cX2_loadOn 17 = .ok (.iload 4, 2) := by decide +kernel
theorem dX2_loadOn_19 : decode cX2_loadOn 19 = .ok (.invokevirtual 37, 3) := by decide +kernel
theorem dX2_loadOn_22 : decode cX2_loadOn 22 = .ok (.ifCond .eq 43, 3) := by decide +kernel
theorem dX2_loadOn_25 : decode cX2_loadOn 25 = .ok (.aload_n 2, 1) := by decide +kernel
theorem dX2_loadOn_26 : decode cX2_loadOn 26 = .ok (.iload 4, 2) := by decide +kernel
theorem dX2_loadOn_28 : decode cX2_loadOn 28 = .ok (.invokevirtual 42, 3) := by decide +kernel
theorem dX2_loadOn_31 : decode cX2_loadOn 31 = .ok (.invokestatic 46, 3) := by decide +kernel
theorem dX2_loadOn_34 : decode cX2_loadOn 34 = .ok (.istore 5, 2) := by decide +kernel
theorem dX2_loadOn_36 : decode cX2_loadOn 36 = .ok (.iload_n 3, 1) := by decide +kernel
theorem dX2_loadOn_37 : decode cX2_loadOn 37 = .ok (.aload_n 0, 1) := by decide +kernel
theorem dX2_loadOn_38 : decode cX2_loadOn 38 = .ok (.iload 5, 2) := by decide +kernel
theorem dX2_loadOn_40 : decode cX2_loadOn 40 = .ok (.invokevirtual 33, 3) := by decide +kernel
theorem dX2_loadOn_43 : decode cX2_loadOn 43 = .ok (.ifCond .eq 13, 3) := by decide +kernel
theorem dX2_loadOn_46 : decode cX2_loadOn 46 = .ok (.aload_n 0, 1) := by decide +kernel
theorem dX2_loadOn_47 : decode cX2_loadOn 47 = .ok (.getfield 9, 3) := by decide +kernel
theorem dX2_loadOn_50 : decode cX2_loadOn 50 = .ok (.iload 5, 2) := by decide +kernel
theorem dX2_loadOn_52 : decode cX2_loadOn 52 = .ok (.iaload, 1) := by decide +kernel
theorem dX2_loadOn_53 : decode cX2_loadOn 53 = .ok (.goto 4, 3) := by decide +kernel
theorem dX2_loadOn_56 : decode cX2_loadOn 56 = .ok (.iconst 0, 1) := by decide +kernel
theorem dX2_loadOn_57 : decode cX2_loadOn 57 = .ok (.iadd, 1) := by decide +kernel
theorem dX2_loadOn_58 : decode cX2_loadOn 58 = .ok (.istore_n 3, 1) := by decide +kernel
theorem dX2_loadOn_59 : decode cX2_loadOn 59 = .ok (.iinc 4 100, 3) := by decide +kernel
theorem dX2_loadOn_62 : decode cX2_loadOn 62 = .ok (.goto (-54), 3) := by decide +kernel
theorem dX2_loadOn_65 : decode cX2_loadOn 65 = .ok (.iload_n 3, 1) := by decide +kernel
theorem dX2_loadOn_66 : decode cX2_loadOn 66 = .ok (.ireturn, 1) := by decide +kernel
theorem dX3_init_0 : decode cX3_init 0 = .ok (.aload_n 0, 1) := by decide +kernel
theorem dX3_init_1 : decode cX3_init 1 = .ok (.invokespecial 3, 3) := by decide +kernel
theorem dX3_init_4 : decode cX3_init 4 = .ok (.aload_n 0, 1) := by decide +kernel
theorem dX3_init_5 : decode cX3_init 5 = .ok (.sipush 1000, 3) := by decide +kernel
theorem dX3_init_8 : decode cX3_init 8 = .ok (.newarray .int, 2) := by decide +kernel
theorem dX3_init_10 : decode cX3_init 10 = .ok (.putfield 9, 3) := by decide +kernel
theorem dX3_init_13 : decode cX3_init 13 = .ok (.return_, 1) := by decide +kernel
theorem dX3_shine_0 : decode cX3_shine 0 = .ok (.iconst 0, 1) := by decide +kernel
theorem dX3_shine_1 : decode cX3_shine 1 = .ok (.istore_n 3, 1) := by decide +kernel
theorem dX3_shine_2 : decode cX3_shine 2 = .ok (.iconst 0, 1) := by decide +kernel
theorem dX3_shine_3 : decode cX3_shine 3 = .ok (.istore 4, 2) := by decide +kernel
theorem dX3_shine_5 : decode cX3_shine 5 = .ok (.iload 4, 2) := by decide +kernel
theorem dX3_shine_7 : decode cX3_shine 7 = .ok (.sipush 1000, 3) := by decide +kernel
theorem dX3_shine_10 : decode cX3_shine 10 = .ok (.if_icmp .ge 54, 3) := by decide +kernel
theorem dX3_shine_13 : decode cX3_shine 13 = .ok (.aload_n 0, 1) := by decide +kernel
theorem dX3_shine_14 : decode cX3_shine 14 = .ok (.getfield 9, 3) := by decide +kernel
theorem dX3_shine_17 : decode cX3_shine 17 = .ok (.iload 4, 2) := by decide +kernel
theorem dX3_shine_19 : decode cX3_shine 19 = .ok (.aload_n 1, 1) := by decide +kernel
theorem dX3_shine_20 : decode cX3_shine 20 = .ok (.iload 4, 2) := by decide +kernel
theorem dX3_shine_22 : decode cX3_shine 22 = .ok (.invokevirtual 15, 3) := by decide +kernel
theorem dX3_shine_25 : decode cX3_shine 25 = .ok (.ifCond .eq 19, 3) := by decide +kernel
theorem dX3_shine_28 : decode cX3_shine 28 = .ok (.aload_n 2, 1) := by decide +kernel
theorem dX3_shine_29 : decode cX3_shine 29 = .ok (.aload_n 1, 1) := by decide +kernel
theorem dX3_shine_30 : decode cX3_shine 30 = .ok (.iload 4, 2) := by decide +kernel
theorem dX3_shine_32 : decode cX3_shine 32 = .ok (.invokevirtual 21, 3) := by decide +kernel
theorem dX3_shine_35 : decode cX3_shine 35 = .ok (.invokestatic 25, 3) := by decide +kernel
theorem dX3_shine_38 : decode cX3_shine 38 = .ok (.invokevirtual 28, 3) := by decide +kernel
theorem dX3_shine_41 : decode cX3_shine 41 = .ok (.goto 4, 3) := by decide +kernel
theorem dX3_shine_44 : decode cX3_shine 44 = .ok (.iconst 0, 1) := by decide +kernel
theorem dX3_shine_45 : decode cX3_shine 45 = .ok (.iastore, 1) := by decide +kernel
theorem dX3_shine_46 : decode cX3_shine 46 = .ok (.iload_n 3, 1) := by decide +kernel
theorem dX3_shine_47 : decode cX3_shine 47 = .ok (.aload_n 0, 1) := by decide +kernel
theorem dX3_shine_48 : decode cX3_shine 48 = .ok (.getfield 9, 3) := by decide +kernel
theorem dX3_shine_51 : decode cX3_shine 51 = .ok (.iload 4, 2) := by decide +kernel
theorem dX3_shine_53 : decode cX3_shine 53 = .ok (.iaload, 1) := by decide +kernel
theorem dX3_shine_54 : decode cX3_shine 54 = .ok (.invokestatic 33, 3) := by decide +kernel
theorem dX3_shine_57 : decode cX3_shine 57 = .ok (.istore_n 3, 1) := by decide +kernel
theorem dX3_shine_58 : decode cX3_shine 58 = .ok (.iinc 4 1, 3) := by decide +kernel
theorem dX3_shine_61 : decode cX3_shine 61 = .ok (.goto (-56), 3) := by decide +kernel
theorem dX3_shine_64 : decode cX3_shine 64 = .ok (.iload_n 3, 1) := by decide +kernel
theorem dX3_shine_65 : decode cX3_shine 65 = .ok (.istore 4, 2) := by decide +kernel
theorem dX3_shine_67 : decode cX3_shine 67 = .ok (.iload 4, 2) := by decide +kernel
theorem dX3_shine_69 : decode cX3_shine 69 = .ok (.iconst 1, 1) := by decide +kernel
theorem dX3_shine_70 : decode cX3_shine 70 = .ok (.if_icmp .le 46, 3) := by decide +kernel
theorem dX3_shine_73 : decode cX3_shine 73 = .ok (.iconst 0, 1) := by decide +kernel
theorem dX3_shine_74 : decode cX3_shine 74 = .ok (.istore 5, 2) := by decide +kernel
theorem dX3_shine_76 : decode cX3_shine 76 = .ok (.iload 5, 2) := by decide +kernel
theorem dX3_shine_78 : decode cX3_shine 78 = .ok (.sipush 1000, 3) := by decide +kernel
theorem dX3_shine_81 : decode cX3_shine 81 = .ok (.if_icmp .ge 29, 3) := by decide +kernel
theorem dX3_shine_84 : decode cX3_shine 84 = .ok (.aload_n 0, 1) := by decide +kernel
theorem dX3_shine_85 : decode cX3_shine 85 = .ok (.getfield 9, 3) := by decide +kernel
theorem dX3_shine_88 : decode cX3_shine 88 = .ok (.iload 5, 2) := by decide +kernel
theorem dX3_shine_90 : decode cX3_shine 90 = .ok (.iaload, 1) := by decide +kernel
theorem dX3_shine_91 : decode cX3_shine 91 = .ok (.iload 4, 2) := by decide +kernel
theorem dX3_shine_93 : decode cX3_shine 93 = .ok (.if_icmp .ne 11, 3) := by decide +kernel
theorem dX3_shine_96 : decode cX3_shine 96 = .ok (.aload_n 0, 1) := by decide +kernel
theorem dX3_shine_97 : decode cX3_shine 97 = .ok (.iload 5, 2) := by decide +kernel
theorem dX3_shine_99 : decode cX3_shine 99 = .ok (.aload_n 1, 1) := by decide +kernel
theorem dX3_shine_100 : decode cX3_shine 100 = .ok (.aload_n 2, 1) := by decide +kernel
theorem dX3_shine_101 : decode cX3_shine 101 = .ok (.invokevirtual 39, 3) := by decide +kernel
theorem dX3_shine_104 : decode cX3_shine 104 = .ok (.iinc 5 1, 3) := by decide +kernel
theorem dX3_shine_107 : decode cX3_shine 107 = .ok (.goto (-31), 3) := by decide +kernel
theorem dX3_shine_110 : decode cX3_shine 110 = .ok (.iinc 4 (-1), 3) := by decide +kernel
theorem dX3_shine_113 : decode cX3_shine 113 = .ok (.goto (-46), 3) := by decide +kernel
theorem dX3_shine_116 : decode cX3_shine 116 = .ok (.return_, 1) := by decide +kernel
theorem dX3_spread_0 : decode cX3_spread 0 = .ok (.iconst 0, 1) := by decide +kernel
theorem dX3_spread_1 : decode cX3_spread 1 = .ok (.istore 4, 2) := by decide +kernel
theorem dX3_spread_3 : decode cX3_spread 3 = .ok (.iload 4, 2) := by decide +kernel
theorem dX3_spread_5 : decode cX3_spread 5 = .ok (.bipush 6, 2) := by decide +kernel
theorem dX3_spread_7 : decode cX3_spread 7 = .ok (.if_icmp .ge 64, 3) := by decide +kernel
theorem dX3_spread_10 : decode cX3_spread 10 = .ok (.iload_n 1, 1) := by decide +kernel
theorem dX3_spread_11 : decode cX3_spread 11 = .ok (.iload 4, 2) := by decide +kernel
theorem dX3_spread_13 : decode cX3_spread 13 = .ok (.invokestatic 43, 3) := by decide +kernel
theorem dX3_spread_16 : decode cX3_spread 16 = .ok (.istore 5, 2) := by decide +kernel
theorem dX3_spread_18 : decode cX3_spread 18 = .ok (.aload_n 2, 1) := by decide +kernel
theorem dX3_spread_19 : decode cX3_spread 19 = .ok (.iload 5, 2) := by decide +kernel
theorem dX3_spread_21 : decode cX3_spread 21 = .ok (.invokevirtual 21, 3) := by decide +kernel
theorem dX3_spread_24 : decode cX3_spread 24 = .ok (.istore 6, 2) := by decide +kernel
theorem dX3_spread_26 : decode cX3_spread 26 = .ok (.iload 6, 2) := by decide +kernel
theorem dX3_spread_28 : decode cX3_spread 28 = .ok (.iconst (-1), 1) := by decide +kernel
theorem dX3_spread_29 : decode cX3_spread 29 = .ok (.if_icmp .eq 36, 3) := by decide +kernel
theorem dX3_spread_32 : decode cX3_spread 32 = .ok (.aload_n 0, 1) := by decide +kernel
theorem dX3_spread_33 : decode cX3_spread 33 = .ok (.getfield 9, 3) := by decide +kernel
theorem dX3_spread_36 : decode cX3_spread 36 = .ok (.iload 5, 2) := by decide +kernel
theorem dX3_spread_38 : decode cX3_spread 38 = .ok (.aload_n 0, 1) := by decide +kernel
theorem dX3_spread_39 : decode cX3_spread 39 = .ok (.getfield 9, 3) := by decide +kernel
theorem dX3_spread_42 : decode cX3_spread 42 = .ok (.iload 5, 2) := by decide +kernel
theorem dX3_spread_44 : decode cX3_spread 44 = .ok (.iaload, 1) := by decide +kernel
theorem dX3_spread_45 : decode cX3_spread 45 = .ok (.aload_n 0, 1) := by decide +kernel
theorem dX3_spread_46 : decode cX3_spread 46 = .ok (.getfield 9, 3) := by decide +kernel
theorem dX3_spread_49 : decode cX3_spread 49 = .ok (.iload_n 1, 1) := by decide +kernel
theorem dX3_spread_50 : decode cX3_spread 50 = .ok (.iaload, 1) := by decide +kernel
theorem dX3_spread_51 : decode cX3_spread 51 = .ok (.aload_n 3, 1) := by decide +kernel
theorem dX3_spread_52 : decode cX3_spread 52 = .ok (.iload 6, 2) := by decide +kernel
theorem dX3_spread_54 : decode cX3_spread 54 = .ok (.invokestatic 25, 3) := by decide +kernel
theorem dX3_spread_57 : decode cX3_spread 57 = .ok (.invokevirtual 46, 3) := by decide +kernel
theorem dX3_spread_60 : decode cX3_spread 60 = .ok (.isub, 1) := by decide +kernel
theorem dX3_spread_61 : decode cX3_spread 61 = .ok (.invokestatic 33, 3) := by decide +kernel
theorem dX3_spread_64 : decode cX3_spread 64 = .ok (.iastore, 1) := by decide +kernel
theorem dX3_spread_65 : decode cX3_spread 65 = .ok (.iinc 4 1, 3) := by decide +kernel
theorem dX3_spread_68 : decode cX3_spread 68 = .ok (.goto (-65), 3) := by decide +kernel
theorem dX3_spread_71 : decode cX3_spread 71 = .ok (.return_, 1) := by decide +kernel
theorem dX4_init_0 : decode cX4_init 0 = .ok (.aload_n 0, 1) := by decide +kernel
theorem dX4_init_1 : decode cX4_init 1 = .ok (.invokespecial 3, 3) := by decide +kernel
theorem dX4_init_4 : decode cX4_init 4 = .ok (.aload_n 0, 1) := by decide +kernel
theorem dX4_init_5 : decode cX4_init 5 = .ok (.bipush 10, 2) := by decide +kernel
theorem dX4_init_7 : decode cX4_init 7 = .ok (.anewarray 9, 3) := by decide +kernel
theorem dX4_init_10 : decode cX4_init 10 = .ok (.putfield 11, 3) := by decide +kernel
theorem dX4_init_13 : decode cX4_init 13 = .ok (.return_, 1) := by decide +kernel
theorem dX4_hold_0 : decode cX4_hold 0 = .ok (.aload_n 0, 1) := by decide +kernel
theorem dX4_hold_1 : decode cX4_hold 1 = .ok (.getfield 17, 3) := by decide +kernel
theorem dX4_hold_4 : decode cX4_hold 4 = .ok (.ifCond .ne 46, 3) := by decide +kernel
theorem dX4_hold_7 : decode cX4_hold 7 = .ok (.aload_n 1, 1) := by decide +kernel
theorem dX4_hold_8 : decode cX4_hold 8 = .ok (.dup, 1) := by decide +kernel
theorem dX4_hold_9 : decode cX4_hold 9 = .ok (.getfield 21, 3) := by decide +kernel
theorem dX4_hold_12 : decode cX4_hold 12 = .ok (.iconst 1, 1) := by decide +kernel
theorem dX4_hold_13 : decode cX4_hold 13 = .ok (.iadd, 1) := by decide +kernel
theorem dX4_hold_14 : decode cX4_hold 14 = .ok (.putfield 21, 3) := by decide +kernel
theorem dX4_hold_17 : decode cX4_hold 17 = .ok (.iconst 0, 1) := by decide +kernel
theorem dX4_hold_18 : decode cX4_hold 18 = .ok (.istore_n 2, 1) := by decide +kernel
theorem dX4_hold_19 : decode cX4_hold 19 = .ok (.iload_n 2, 1) := by decide +kernel
theorem dX4_hold_20 : decode cX4_hold 20 = .ok (.bipush 10, 2) := by decide +kernel
theorem dX4_hold_22 : decode cX4_hold 22 = .ok (.if_icmp .ge 28, 3) := by decide +kernel
theorem dX4_hold_25 : decode cX4_hold 25 = .ok (.aload_n 0, 1) := by decide +kernel
theorem dX4_hold_26 : decode cX4_hold 26 = .ok (.getfield 11, 3) := by decide +kernel
theorem dX4_hold_29 : decode cX4_hold 29 = .ok (.iload_n 2, 1) := by decide +kernel
theorem dX4_hold_30 : decode cX4_hold 30 = .ok (.aaload, 1) := by decide +kernel
theorem dX4_hold_31 : decode cX4_hold 31 = .ok (.ifnull 13, 3) := by decide +kernel
theorem dX4_hold_34 : decode cX4_hold 34 = .ok (.aload_n 0, 1) := by decide +kernel
theorem dX4_hold_35 : decode cX4_hold 35 = .ok (.getfield 11, 3) := by decide +kernel
theorem dX4_hold_38 : decode cX4_hold 38 = .ok (.iload_n 2, 1) := by decide +kernel
theorem dX4_hold_39 : decode cX4_hold 39 = .ok (.aaload, 1) := by decide +kernel
theorem dX4_hold_40 : decode cX4_hold 40 = .ok (.aload_n 1, 1) := by decide +kernel
theorem dX4_hold_41 : decode cX4_hold 41 = .ok (.invokevirtual 26, 3) := by decide +kernel
theorem dX4_hold_44 : decode cX4_hold 44 = .ok (.iinc 2 1, 3) := by decide +kernel
theorem dX4_hold_47 : decode cX4_hold 47 = .ok (.goto (-28), 3) := by decide +kernel
theorem dX4_hold_50 : decode cX4_hold 50 = .ok (.aload_n 0, 1) := by decide +kernel
theorem dX4_hold_51 : decode cX4_hold 51 = .ok (.dup, 1) := by decide +kernel
theorem dX4_hold_52 : decode cX4_hold 52 = .ok (.getfield 17, 3) := by decide +kernel
theorem dX4_hold_55 : decode cX4_hold 55 = .ok (.iconst 1, 1) := by decide +kernel
theorem dX4_hold_56 : decode cX4_hold 56 = .ok (.iadd, 1) := by decide +kernel
theorem dX4_hold_57 : decode cX4_hold 57 = .ok (.putfield 17, 3) := by decide +kernel
theorem dX4_hold_60 : decode cX4_hold 60 = .ok (.return_, 1) := by decide +kernel
theorem dX4_release_0 : decode cX4_release 0 = .ok (.aload_n 0, 1) := by decide +kernel
theorem dX4_release_1 : decode cX4_release 1 = .ok (.dup, 1) := by decide +kernel
theorem dX4_release_2 : decode cX4_release 2 = .ok (.getfield 17, 3) := by decide +kernel
theorem dX4_release_5 : decode cX4_release 5 = .ok (.iconst 1, 1) := by decide +kernel
theorem dX4_release_6 : decode cX4_release 6 = .ok (.isub, 1) := by decide +kernel
theorem dX4_release_7 : decode cX4_release 7 = .ok (.putfield 17, 3) := by decide +kernel
theorem dX4_release_10 : decode cX4_release 10 = .ok (.aload_n 0, 1) := by decide +kernel
theorem dX4_release_11 : decode cX4_release 11 = .ok (.getfield 17, 3) := by decide +kernel
theorem dX4_release_14 : decode cX4_release 14 = .ok (.ifCond .ne 46, 3) := by decide +kernel
theorem dX4_release_17 : decode cX4_release 17 = .ok (.aload_n 1, 1) := by decide +kernel
theorem dX4_release_18 : decode cX4_release 18 = .ok (.dup, 1) := by decide +kernel
theorem dX4_release_19 : decode cX4_release 19 = .ok (.getfield 21, 3) := by decide +kernel
theorem dX4_release_22 : decode cX4_release 22 = .ok (.iconst 1, 1) := by decide +kernel
theorem dX4_release_23 : decode cX4_release 23 = .ok (.isub, 1) := by decide +kernel
theorem dX4_release_24 : decode cX4_release 24 = .ok (.putfield 21, 3) := by decide +kernel
theorem dX4_release_27 : decode cX4_release 27 = .ok (.iconst 0, 1) := by decide +kernel
theorem dX4_release_28 : decode cX4_release 28 = .ok (.istore_n 2, 1) := by decide +kernel
theorem dX4_release_29 : decode cX4_release 29 = .ok (.iload_n 2, 1) := by decide +kernel
theorem dX4_release_30 : decode cX4_release 30 = .ok (.bipush 10, 2) := by decide +kernel
theorem dX4_release_32 : decode cX4_release 32 = .ok (.if_icmp .ge 28, 3) := by decide +kernel
theorem dX4_release_35 : decode cX4_release 35 = .ok (.aload_n 0, 1) := by decide +kernel
theorem dX4_release_36 : decode cX4_release 36 = .ok (.getfield 11, 3) := by decide +kernel
theorem dX4_release_39 : decode cX4_release 39 = .ok (.iload_n 2, 1) := by decide +kernel
theorem dX4_release_40 : decode cX4_release 40 = .ok (.aaload, 1) := by decide +kernel
theorem dX4_release_41 : decode cX4_release 41 = .ok (.ifnull 13, 3) := by decide +kernel
theorem dX4_release_44 : decode cX4_release 44 = .ok (.aload_n 0, 1) := by decide +kernel
theorem dX4_release_45 : decode cX4_release 45 = .ok (.getfield 11, 3) := by decide +kernel
theorem dX4_release_48 : decode cX4_release 48 = .ok (.iload_n 2, 1) := by decide +kernel
theorem dX4_release_49 : decode cX4_release 49 = .ok (.aaload, 1) := by decide +kernel
theorem dX4_release_50 : decode cX4_release 50 = .ok (.aload_n 1, 1) := by decide +kernel
theorem dX4_release_51 : decode cX4_release 51 = .ok (.invokevirtual 30, 3) := by decide +kernel
theorem dX4_release_54 : decode cX4_release 54 = .ok (.iinc 2 1, 3) := by decide +kernel
theorem dX4_release_57 : decode cX4_release 57 = .ok (.goto (-28), 3) := by decide +kernel
theorem dX4_release_60 : decode cX4_release 60 = .ok (.return_, 1) := by decide +kernel
theorem dX4_setRow_0 : decode cX4_setRow 0 = .ok (.aload_n 0, 1) := by decide +kernel
theorem dX4_setRow_1 : decode cX4_setRow 1 = .ok (.getfield 11, 3) := by decide +kernel
theorem dX4_setRow_4 : decode cX4_setRow 4 = .ok (.iload_n 1, 1) := by decide +kernel
theorem dX4_setRow_5 : decode cX4_setRow 5 = .ok (.aaload, 1) := by decide +kernel
theorem dX4_setRow_6 : decode cX4_setRow 6 = .ok (.astore 4, 2) := by decide +kernel
theorem dX4_setRow_8 : decode cX4_setRow 8 = .ok (.aload_n 2, 1) := by decide +kernel
theorem dX4_setRow_9 : decode cX4_setRow 9 = .ok (.aload_n 3, 1) := by decide +kernel
theorem dX4_setRow_10 : decode cX4_setRow 10 = .ok (.invokevirtual 26, 3) := by decide +kernel
theorem dX4_setRow_13 : decode cX4_setRow 13 = .ok (.aload_n 0, 1) := by decide +kernel
theorem dX4_setRow_14 : decode cX4_setRow 14 = .ok (.getfield 11, 3) := by decide +kernel
theorem dX4_setRow_17 : decode cX4_setRow 17 = .ok (.iload_n 1, 1) := by decide +kernel
theorem dX4_setRow_18 : decode cX4_setRow 18 = .ok (.aload_n 2, 1) := by decide +kernel
theorem dX4_setRow_19 : decode cX4_setRow 19 = .ok (.aastore, 1) := by decide +kernel
theorem dX4_setRow_20 : decode cX4_setRow 20 = .ok (.aload 4, 2) := by decide +kernel
theorem dX4_setRow_22 : decode cX4_setRow 22 = .ok (.ifnull 9, 3) := by decide +kernel
theorem dX4_setRow_25 : decode cX4_setRow 25 = .ok (.aload 4, 2) := by decide +kernel
theorem dX4_setRow_27 : decode cX4_setRow 27 = .ok (.aload_n 3, 1) := by decide +kernel
theorem dX4_setRow_28 : decode cX4_setRow 28 = .ok (.invokevirtual 30, 3) := by decide +kernel
theorem dX4_setRow_31 : decode cX4_setRow 31 = .ok (.return_, 1) := by decide +kernel
theorem dX5_init_0 : decode cX5_init 0 = .ok (.aload_n 0, 1) := by decide +kernel
theorem dX5_init_1 : decode cX5_init 1 = .ok (.invokespecial 1, 3) := by decide +kernel
theorem dX5_init_4 : decode cX5_init 4 = .ok (.return_, 1) := by decide +kernel
theorem dX6_init_0 : decode cX6_init 0 = .ok (.aload_n 0, 1) := by decide +kernel
theorem dX6_init_1 : decode cX6_init 1 = .ok (.invokespecial 3, 3) := by decide +kernel
theorem dX6_init_4 : decode cX6_init 4 = .ok (.aload_n 0, 1) := by decide +kernel
theorem dX6_init_5 : decode cX6_init 5 = .ok (.sipush 1000, 3) := by decide +kernel
theorem dX6_init_8 : decode cX6_init 8 = .ok (.newarray .int, 2) := by decide +kernel
theorem dX6_init_10 : decode cX6_init 10 = .ok (.putfield 9, 3) := by decide +kernel
theorem dX6_init_13 : decode cX6_init 13 = .ok (.aload_n 0, 1) := by decide +kernel
theorem dX6_init_14 : decode cX6_init 14 = .ok (.sipush 1000, 3) := by decide +kernel
theorem dX6_init_17 : decode cX6_init 17 = .ok (.newarray .int, 2) := by decide +kernel
theorem dX6_init_19 : decode cX6_init 19 = .ok (.putfield 15, 3) := by decide +kernel
theorem dX6_init_22 : decode cX6_init 22 = .ok (.aload_n 0, 1) := by decide +kernel
theorem dX6_init_23 : decode cX6_init 23 = .ok (.sipush 1001, 3) := by decide +kernel
theorem dX6_init_26 : decode cX6_init 26 = .ok (.newarray .int, 2) := by decide +kernel
theorem dX6_init_28 : decode cX6_init 28 = .ok (.putfield 18, 3) := by decide +kernel
theorem dX6_init_31 : decode cX6_init 31 = .ok (.aload_n 0, 1) := by decide +kernel
theorem dX6_init_32 : decode cX6_init 32 = .ok (.sipush 1000, 3) := by decide +kernel
theorem dX6_init_35 : decode cX6_init 35 = .ok (.newarray .int, 2) := by decide +kernel
theorem dX6_init_37 : decode cX6_init 37 = .ok (.putfield 21, 3) := by decide +kernel
theorem dX6_init_40 : decode cX6_init 40 = .ok (.return_, 1) := by decide +kernel
theorem dX6_find_0 : decode cX6_find 0 = .ok (.iconst 0, 1) := by decide +kernel
theorem dX6_find_1 : decode cX6_find 1 = .ok (.istore_n 2, 1) := by decide +kernel
theorem dX6_find_2 : decode cX6_find 2 = .ok (.iload_n 2, 1) := by decide +kernel
theorem dX6_find_3 : decode cX6_find 3 = .ok (.sipush 1000, 3) := by decide +kernel
theorem dX6_find_6 : decode cX6_find 6 = .ok (.if_icmp .ge 16, 3) := by decide +kernel
theorem dX6_find_9 : decode cX6_find 9 = .ok (.aload_n 0, 1) := by decide +kernel
theorem dX6_find_10 : decode cX6_find 10 = .ok (.getfield 9, 3) := by decide +kernel
theorem dX6_find_13 : decode cX6_find 13 = .ok (.iload_n 2, 1) := by decide +kernel
theorem dX6_find_14 : decode cX6_find 14 = .ok (.iconst (-1), 1) := by decide +kernel
theorem dX6_find_15 : decode cX6_find 15 = .ok (.iastore, 1) := by decide +kernel
theorem dX6_find_16 : decode cX6_find 16 = .ok (.iinc 2 1, 3) := by decide +kernel
theorem dX6_find_19 : decode cX6_find 19 = .ok (.goto (-17), 3) := by decide +kernel
theorem dX6_find_22 : decode cX6_find 22 = .ok (.aload_n 0, 1) := by decide +kernel
theorem dX6_find_23 : decode cX6_find 23 = .ok (.iconst 0, 1) := by decide +kernel
theorem dX6_find_24 : decode cX6_find 24 = .ok (.putfield 24, 3) := by decide +kernel
theorem dX6_find_27 : decode cX6_find 27 = .ok (.iconst 0, 1) := by decide +kernel
theorem dX6_find_28 : decode cX6_find 28 = .ok (.istore_n 2, 1) := by decide +kernel
theorem dX6_find_29 : decode cX6_find 29 = .ok (.iconst 0, 1) := by decide +kernel
theorem dX6_find_30 : decode cX6_find 30 = .ok (.istore_n 3, 1) := by decide +kernel
theorem dX6_find_31 : decode cX6_find 31 = .ok (.iload_n 3, 1) := by decide +kernel
theorem dX6_find_32 : decode cX6_find 32 = .ok (.sipush 1000, 3) := by decide +kernel
theorem dX6_find_35 : decode cX6_find 35 = .ok (.if_icmp .ge 55, 3) := by decide +kernel
theorem dX6_find_38 : decode cX6_find 38 = .ok (.aload_n 1, 1) := by decide +kernel
theorem dX6_find_39 : decode cX6_find 39 = .ok (.iload_n 3, 1) := by decide +kernel
theorem dX6_find_40 : decode cX6_find 40 = .ok (.invokevirtual 28, 3) := by decide +kernel
theorem dX6_find_43 : decode cX6_find 43 = .ok (.ifCond .eq 41, 3) := by decide +kernel
theorem dX6_find_46 : decode cX6_find 46 = .ok (.aload_n 0, 1) := by decide +kernel
theorem dX6_find_47 : decode cX6_find 47 = .ok (.getfield 9, 3) := by decide +kernel
theorem dX6_find_50 : decode cX6_find 50 = .ok (.iload_n 3, 1) := by decide +kernel
theorem dX6_find_51 : decode cX6_find 51 = .ok (.iaload, 1) := by decide +kernel
theorem dX6_find_52 : decode cX6_find 52 = .ok (.iconst (-1), 1) := by decide +kernel
theorem dX6_find_53 : decode cX6_find 53 = .ok (.if_icmp .ne 31, 3) := by decide +kernel
theorem dX6_find_56 : decode cX6_find 56 = .ok (.aload_n 0, 1) := by decide +kernel
theorem dX6_find_57 : decode cX6_find 57 = .ok (.getfield 18, 3) := by decide +kernel
theorem dX6_find_60 : decode cX6_find 60 = .ok (.aload_n 0, 1) := by decide +kernel
theorem dX6_find_61 : decode cX6_find 61 = .ok (.getfield 24, 3) := by decide +kernel
theorem dX6_find_64 : decode cX6_find 64 = .ok (.iload_n 2, 1) := by decide +kernel
theorem dX6_find_65 : decode cX6_find 65 = .ok (.iastore, 1) := by decide +kernel
theorem dX6_find_66 : decode cX6_find 66 = .ok (.aload_n 0, 1) := by decide +kernel
theorem dX6_find_67 : decode cX6_find 67 = .ok (.aload_n 1, 1) := by decide +kernel
theorem dX6_find_68 : decode cX6_find 68 = .ok (.iload_n 3, 1) := by decide +kernel
theorem dX6_find_69 : decode cX6_find 69 = .ok (.iload_n 2, 1) := by decide +kernel
theorem dX6_find_70 : decode cX6_find 70 = .ok (.invokevirtual 34, 3) := by decide +kernel
theorem dX6_find_73 : decode cX6_find 73 = .ok (.istore_n 2, 1) := by decide +kernel
theorem dX6_find_74 : decode cX6_find 74 = .ok (.aload_n 0, 1) := by decide +kernel
theorem dX6_find_75 : decode cX6_find 75 = .ok (.dup, 1) := by decide +kernel
theorem dX6_find_76 : decode cX6_find 76 = .ok (.getfield 24, 3) := by decide +kernel
theorem dX6_find_79 : decode cX6_find 79 = .ok (.iconst 1, 1) := by decide +kernel
theorem dX6_find_80 : decode cX6_find 80 = .ok (.iadd, 1) := by decide +kernel
theorem dX6_find_81 : decode cX6_find 81 = .ok (.putfield 24, 3) := by decide +kernel
theorem dX6_find_84 : decode cX6_find 84 = .ok (.iinc 3 1, 3) := by decide +kernel
theorem dX6_find_87 : decode cX6_find 87 = .ok (.goto (-56), 3) := by decide +kernel
theorem dX6_find_90 : decode cX6_find 90 = .ok (.aload_n 0, 1) := by decide +kernel
theorem dX6_find_91 : decode cX6_find 91 = .ok (.getfield 18, 3) := by decide +kernel
theorem dX6_find_94 : decode cX6_find 94 = .ok (.aload_n 0, 1) := by decide +kernel
theorem dX6_find_95 : decode cX6_find 95 = .ok (.getfield 24, 3) := by decide +kernel
theorem dX6_find_98 : decode cX6_find 98 = .ok (.iload_n 2, 1) := by decide +kernel
theorem dX6_find_99 : decode cX6_find 99 = .ok (.iastore, 1) := by decide +kernel
theorem dX6_find_100 : decode cX6_find 100 = .ok (.return_, 1) := by decide +kernel
theorem dX6_gather_0 : decode cX6_gather 0 = .ok (.aload_n 0, 1) := by decide +kernel
theorem dX6_gather_1 : decode cX6_gather 1 = .ok (.getfield 9, 3) := by decide +kernel
theorem dX6_gather_4 : decode cX6_gather 4 = .ok (.iload_n 2, 1) := by decide +kernel
theorem dX6_gather_5 : decode cX6_gather 5 = .ok (.aload_n 0, 1) := by decide +kernel
theorem dX6_gather_6 : decode cX6_gather 6 = .ok (.getfield 24, 3) := by decide +kernel
theorem dX6_gather_9 : decode cX6_gather 9 = .ok (.iastore, 1) := by decide +kernel
theorem dX6_gather_10 : decode cX6_gather 10 = .ok (.aload_n 0, 1) := by decide +kernel
theorem dX6_gather_11 : decode cX6_gather 11 = .ok (.getfield 15, 3) := by decide +kernel
theorem dX6_gather_14 : decode cX6_gather 14 = .ok (.iload_n 3, 1) := by decide +kernel
theorem dX6_gather_15 : decode cX6_gather 15 = .ok (.iload_n 2, 1) := by decide +kernel
theorem dX6_gather_16 : decode cX6_gather 16 = .ok (.iastore, 1) := by decide +kernel
theorem dX6_gather_17 : decode cX6_gather 17 = .ok (.iload_n 3, 1) := by decide +kernel
theorem dX6_gather_18 : decode cX6_gather 18 = .ok (.iconst 1, 1) := by decide +kernel
theorem dX6_gather_19 : decode cX6_gather 19 = .ok (.iadd, 1) := by decide +kernel
theorem dX6_gather_20 : decode cX6_gather 20 = .ok (.istore 4, 2) := by decide +kernel
theorem dX6_gather_22 : decode cX6_gather 22 = .ok (.iload_n 3, 1) := by decide +kernel
theorem dX6_gather_23 : decode cX6_gather 23 = .ok (.istore 5, 2) := by decide +kernel
theorem dX6_gather_25 : decode cX6_gather 25 = .ok (.iload 5, 2) := by decide +kernel
theorem dX6_gather_27 : decode cX6_gather 27 = .ok (.iload 4, 2) := by decide +kernel
theorem dX6_gather_29 : decode cX6_gather 29 = .ok (.if_icmp .ge 98, 3) := by decide +kernel
theorem dX6_gather_32 : decode cX6_gather 32 = .ok (.iload 5, 2) := by decide +kernel
theorem dX6_gather_34 : decode cX6_gather 34 = .ok (.sipush 1000, 3) := by decide +kernel
theorem dX6_gather_37 : decode cX6_gather 37 = .ok (.if_icmp .ge 90, 3) := by decide +kernel
theorem dX6_gather_40 : decode cX6_gather 40 = .ok (.iconst 0, 1) := by decide +kernel
theorem dX6_gather_41 : decode cX6_gather 41 = .ok (.istore 6, 2) := by decide +kernel
theorem dX6_gather_43 : decode cX6_gather 43 = .ok (.iload 6, 2) := by decide +kernel
theorem dX6_gather_45 : decode cX6_gather 45 = .ok (.bipush 6, 2) := by decide +kernel
theorem dX6_gather_47 : decode cX6_gather 47 = .ok (.if_icmp .ge 74, 3) := by decide +kernel
theorem dX6_gather_50 : decode cX6_gather 50 = .ok (.aload_n 0, 1) := by decide +kernel
theorem dX6_gather_51 : decode cX6_gather 51 = .ok (.getfield 15, 3) := by decide +kernel
theorem dX6_gather_54 : decode cX6_gather 54 = .ok (.iload 5, 2) := by decide +kernel
theorem dX6_gather_56 : decode cX6_gather 56 = .ok (.iaload, 1) := by decide +kernel
theorem dX6_gather_57 : decode cX6_gather 57 = .ok (.iload 6, 2) := by decide +kernel
theorem dX6_gather_59 : decode cX6_gather 59 = .ok (.invokestatic 38, 3) := by decide +kernel
theorem dX6_gather_62 : decode cX6_gather 62 = .ok (.istore 7, 2) := by decide +kernel
theorem dX6_gather_64 : decode cX6_gather 64 = .ok (.aload_n 1, 1) := by decide +kernel
theorem dX6_gather_65 : decode cX6_gather 65 = .ok (.iload 7, 2) := by decide +kernel
theorem dX6_gather_67 : decode cX6_gather 67 = .ok (.invokevirtual 28, 3) := by decide +kernel
theorem dX6_gather_70 : decode cX6_gather 70 = .ok (.ifCond .eq 45, 3) := by decide +kernel
theorem dX6_gather_73 : decode cX6_gather 73 = .ok (.aload_n 0, 1) := by decide +kernel
theorem dX6_gather_74 : decode cX6_gather 74 = .ok (.getfield 9, 3) := by decide +kernel
theorem dX6_gather_77 : decode cX6_gather 77 = .ok (.iload 7, 2) := by decide +kernel
theorem dX6_gather_79 : decode cX6_gather 79 = .ok (.iaload, 1) := by decide +kernel
theorem dX6_gather_80 : decode cX6_gather 80 = .ok (.iconst (-1), 1) := by decide +kernel
theorem dX6_gather_81 : decode cX6_gather 81 = .ok (.if_icmp .ne 34, 3) := by decide +kernel
theorem dX6_gather_84 : decode cX6_gather 84 = .ok (.iload 4, 2) := by decide +kernel
theorem dX6_gather_86 : decode cX6_gather 86 = .ok (.sipush 1000, 3) := by decide +kernel
theorem dX6_gather_89 : decode cX6_gather 89 = .ok (.if_icmp .ge 26, 3) := by decide +kernel
theorem dX6_gather_92 : decode cX6_gather 92 = .ok (.aload_n 0, 1) := by decide +kernel
theorem dX6_gather_93 : decode cX6_gather 93 = .ok (.getfield 9, 3) := by decide +kernel
theorem dX6_gather_96 : decode cX6_gather 96 = .ok (.iload 7, 2) := by decide +kernel
theorem dX6_gather_98 : decode cX6_gather 98 = .ok (.aload_n 0, 1) := by decide +kernel
theorem dX6_gather_99 : decode cX6_gather 99 = .ok (.getfield 24, 3) := by decide +kernel
theorem dX6_gather_102 : decode cX6_gather 102 = .ok (.iastore, 1) := by decide +kernel
theorem dX6_gather_103 : decode cX6_gather 103 = .ok (.aload_n 0, 1) := by decide +kernel
theorem dX6_gather_104 : decode cX6_gather 104 = .ok (.getfield 15, 3) := by decide +kernel
theorem dX6_gather_107 : decode cX6_gather 107 = .ok (.iload 4, 2) := by decide +kernel
theorem dX6_gather_109 : decode cX6_gather 109 = .ok (.iload 7, 2) := by decide +kernel
theorem dX6_gather_111 : decode cX6_gather 111 = .ok (.iastore, 1) := by decide +kernel
theorem dX6_gather_112 : decode cX6_gather 112 = .ok (.iinc 4 1, 3) := by decide +kernel
theorem dX6_gather_115 : decode cX6_gather 115 = .ok (.iinc 6 1, 3) := by decide +kernel
theorem dX6_gather_118 : decode cX6_gather 118 = .ok (.goto (-75), 3) := by decide +kernel
theorem dX6_gather_121 : decode cX6_gather 121 = .ok (.iinc 5 1, 3) := by decide +kernel
theorem dX6_gather_124 : decode cX6_gather 124 = .ok (.goto (-99), 3) := by decide +kernel
theorem dX6_gather_127 : decode cX6_gather 127 = .ok (.iload 4, 2) := by decide +kernel
theorem dX6_gather_129 : decode cX6_gather 129 = .ok (.ireturn, 1) := by decide +kernel
theorem dX6_sizeOf_0 : decode cX6_sizeOf 0 = .ok (.aload_n 0, 1) := by decide +kernel
theorem dX6_sizeOf_1 : decode cX6_sizeOf 1 = .ok (.getfield 18, 3) := by decide +kernel
theorem dX6_sizeOf_4 : decode cX6_sizeOf 4 = .ok (.iload_n 1, 1) := by decide +kernel
theorem dX6_sizeOf_5 : decode cX6_sizeOf 5 = .ok (.iconst 1, 1) := by decide +kernel
theorem dX6_sizeOf_6 : decode cX6_sizeOf 6 = .ok (.iadd, 1) := by decide +kernel
theorem dX6_sizeOf_7 : decode cX6_sizeOf 7 = .ok (.iaload, 1) := by decide +kernel
theorem dX6_sizeOf_8 : decode cX6_sizeOf 8 = .ok (.aload_n 0, 1) := by decide +kernel
theorem dX6_sizeOf_9 : decode cX6_sizeOf 9 = .ok (.getfield 18, 3) := by decide +kernel
theorem dX6_sizeOf_12 : decode cX6_sizeOf 12 = .ok (.iload_n 1, 1) := by decide +kernel
theorem dX6_sizeOf_13 : decode cX6_sizeOf 13 = .ok (.iaload, 1) := by decide +kernel
theorem dX6_sizeOf_14 : decode cX6_sizeOf 14 = .ok (.isub, 1) := by decide +kernel
theorem dX6_sizeOf_15 : decode cX6_sizeOf 15 = .ok (.ireturn, 1) := by decide +kernel
theorem dX6_firstOf_0 : decode cX6_firstOf 0 = .ok (.aload_n 0, 1) := by decide +kernel
theorem dX6_firstOf_1 : decode cX6_firstOf 1 = .ok (.getfield 15, 3) := by decide +kernel
theorem dX6_firstOf_4 : decode cX6_firstOf 4 = .ok (.aload_n 0, 1) := by decide +kernel
theorem dX6_firstOf_5 : decode cX6_firstOf 5 = .ok (.getfield 18, 3) := by decide +kernel
theorem dX6_firstOf_8 : decode cX6_firstOf 8 = .ok (.iload_n 1, 1) := by decide +kernel
theorem dX6_firstOf_9 : decode cX6_firstOf 9 = .ok (.iaload, 1) := by decide +kernel
theorem dX6_firstOf_10 : decode cX6_firstOf 10 = .ok (.iaload, 1) := by decide +kernel
theorem dX6_firstOf_11 : decode cX6_firstOf 11 = .ok (.ireturn, 1) := by decide +kernel
theorem dX6_isLoose_0 : decode cX6_isLoose 0 = .ok (.aload_n 0, 1) := by decide +kernel
theorem dX6_isLoose_1 : decode cX6_isLoose 1 = .ok (.getfield 18, 3) := by decide +kernel
theorem dX6_isLoose_4 : decode cX6_isLoose 4 = .ok (.iload_n 1, 1) := by decide +kernel
theorem dX6_isLoose_5 : decode cX6_isLoose 5 = .ok (.iaload, 1) := by decide +kernel
theorem dX6_isLoose_6 : decode cX6_isLoose 6 = .ok (.istore 4, 2) := by decide +kernel
theorem dX6_isLoose_8 : decode cX6_isLoose 8 = .ok (.iload 4, 2) := by decide +kernel
theorem dX6_isLoose_10 : decode cX6_isLoose 10 = .ok (.aload_n 0, 1) := by decide +kernel
theorem dX6_isLoose_11 : decode cX6_isLoose 11 = .ok (.getfield 18, 3) := by decide +kernel
theorem dX6_isLoose_14 : decode cX6_isLoose 14 = .ok (.iload_n 1, 1) := by decide +kernel
theorem dX6_isLoose_15 : decode cX6_isLoose 15 = .ok (.iconst 1, 1) := by decide +kernel
theorem dX6_isLoose_16 : decode cX6_isLoose 16 = .ok (.iadd, 1) := by decide +kernel
theorem dX6_isLoose_17 : decode cX6_isLoose 17 = .ok (.iaload, 1) := by decide +kernel
theorem dX6_isLoose_18 : decode cX6_isLoose 18 = .ok (.if_icmp .ge 45, 3) := by decide +kernel
theorem dX6_isLoose_21 : decode cX6_isLoose 21 = .ok (.aload_n 0, 1) := by decide +kernel
theorem dX6_isLoose_22 : decode cX6_isLoose 22 = .ok (.getfield 15, 3) := by decide +kernel
theorem dX6_isLoose_25 : decode cX6_isLoose 25 = .ok (.iload 4, 2) := by decide +kernel
theorem dX6_isLoose_27 : decode cX6_isLoose 27 = .ok (.iaload, 1) := by decide +kernel
theorem dX6_isLoose_28 : decode cX6_isLoose 28 = .ok (.invokestatic 42, 3) := by decide +kernel
theorem dX6_isLoose_31 : decode cX6_isLoose 31 = .ok (.ifCond .eq 24, 3) := by decide +kernel
theorem dX6_isLoose_34 : decode cX6_isLoose 34 = .ok (.aload_n 3, 1) := by decide +kernel
theorem dX6_isLoose_35 : decode cX6_isLoose 35 = .ok (.aload_n 2, 1) := by decide +kernel
theorem dX6_isLoose_36 : decode cX6_isLoose 36 = .ok (.aload_n 0, 1) := by decide +kernel
theorem dX6_isLoose_37 : decode cX6_isLoose 37 = .ok (.getfield 15, 3) := by decide +kernel
theorem dX6_isLoose_40 : decode cX6_isLoose 40 = .ok (.iload 4, 2) := by decide +kernel
theorem dX6_isLoose_42 : decode cX6_isLoose 42 = .ok (.iaload, 1) := by decide +kernel
theorem dX6_isLoose_43 : decode cX6_isLoose 43 = .ok (.invokevirtual 46, 3) := by decide +kernel
theorem dX6_isLoose_46 : decode cX6_isLoose 46 = .ok (.invokestatic 49, 3) := by decide +kernel
theorem dX6_isLoose_49 : decode cX6_isLoose 49 = .ok (.invokevirtual 52, 3) := by decide +kernel
theorem dX6_isLoose_52 : decode cX6_isLoose 52 = .ok (.ifCond .eq 5, 3) := by decide +kernel
theorem dX6_isLoose_55 : decode cX6_isLoose 55 = .ok (.iconst 0, 1) := by decide +kernel
theorem dX6_isLoose_56 : decode cX6_isLoose 56 = .ok (.ireturn, 1) := by decide +kernel
theorem dX6_isLoose_57 : decode cX6_isLoose 57 = .ok (.iinc 4 1, 3) := by decide +kernel
theorem dX6_isLoose_60 : decode cX6_isLoose 60 = .ok (.goto (-52), 3) := by decide +kernel
theorem dX6_isLoose_63 : decode cX6_isLoose 63 = .ok (.iconst 1, 1) := by decide +kernel
theorem dX6_isLoose_64 : decode cX6_isLoose 64 = .ok (.ireturn, 1) := by decide +kernel
theorem dX6_stepsOf_0 : decode cX6_stepsOf 0 = .ok (.bipush 9, 2) := by decide +kernel
theorem dX6_stepsOf_2 : decode cX6_stepsOf 2 = .ok (.istore_n 3, 1) := by decide +kernel
theorem dX6_stepsOf_3 : decode cX6_stepsOf 3 = .ok (.aload_n 0, 1) := by decide +kernel
theorem dX6_stepsOf_4 : decode cX6_stepsOf 4 = .ok (.getfield 18, 3) := by decide +kernel
theorem dX6_stepsOf_7 : decode cX6_stepsOf 7 = .ok (.iload_n 1, 1) := by decide +kernel
theorem dX6_stepsOf_8 : decode cX6_stepsOf 8 = .ok (.iaload, 1) := by decide +kernel
theorem dX6_stepsOf_9 : decode cX6_stepsOf 9 = .ok (.istore 4, 2) := by decide +kernel
theorem dX6_stepsOf_11 : decode cX6_stepsOf 11 = .ok (.iload 4, 2) := by decide +kernel
theorem dX6_stepsOf_13 : decode cX6_stepsOf 13 = .ok (.aload_n 0, 1) := by decide +kernel
theorem dX6_stepsOf_14 : decode cX6_stepsOf 14 = .ok (.getfield 18, 3) := by decide +kernel
theorem dX6_stepsOf_17 : decode cX6_stepsOf 17 = .ok (.iload_n 1, 1) := by decide +kernel
theorem dX6_stepsOf_18 : decode cX6_stepsOf 18 = .ok (.iconst 1, 1) := by decide +kernel
theorem dX6_stepsOf_19 : decode cX6_stepsOf 19 = .ok (.iadd, 1) := by decide +kernel
theorem dX6_stepsOf_20 : decode cX6_stepsOf 20 = .ok (.iaload, 1) := by decide +kernel
theorem dX6_stepsOf_21 : decode cX6_stepsOf 21 = .ok (.if_icmp .ge 31, 3) := by decide +kernel
theorem dX6_stepsOf_24 : decode cX6_stepsOf 24 = .ok (.iload_n 3, 1) := by decide +kernel
theorem dX6_stepsOf_25 : decode cX6_stepsOf 25 = .ok (.ifCond .le 27, 3) := by decide +kernel
theorem dX6_stepsOf_28 : decode cX6_stepsOf 28 = .ok (.iload_n 3, 1) := by decide +kernel
theorem dX6_stepsOf_29 : decode cX6_stepsOf 29 = .ok (.aload_n 0, 1) := by decide +kernel
theorem dX6_stepsOf_30 : decode cX6_stepsOf 30 = .ok (.aload_n 0, 1) := by decide +kernel
theorem dX6_stepsOf_31 : decode cX6_stepsOf 31 = .ok (.getfield 15, 3) := by decide +kernel
theorem dX6_stepsOf_34 : decode cX6_stepsOf 34 = .ok (.iload 4, 2) := by decide +kernel
theorem dX6_stepsOf_36 : decode cX6_stepsOf 36 = .ok (.iaload, 1) := by decide +kernel
theorem dX6_stepsOf_37 : decode cX6_stepsOf 37 = .ok (.iload_n 1, 1) := by decide +kernel
theorem dX6_stepsOf_38 : decode cX6_stepsOf 38 = .ok (.aload_n 2, 1) := by decide +kernel
theorem dX6_stepsOf_39 : decode cX6_stepsOf 39 = .ok (.invokevirtual 57, 3) := by decide +kernel
theorem dX6_stepsOf_42 : decode cX6_stepsOf 42 = .ok (.invokestatic 61, 3) := by decide +kernel
theorem dX6_stepsOf_45 : decode cX6_stepsOf 45 = .ok (.istore_n 3, 1) := by decide +kernel
theorem dX6_stepsOf_46 : decode cX6_stepsOf 46 = .ok (.iinc 4 1, 3) := by decide +kernel
theorem dX6_stepsOf_49 : decode cX6_stepsOf 49 = .ok (.goto (-38), 3) := by decide +kernel
theorem dX6_stepsOf_52 : decode cX6_stepsOf 52 = .ok (.iload_n 3, 1) := by decide +kernel
theorem dX6_stepsOf_53 : decode cX6_stepsOf 53 = .ok (.ireturn, 1) := by decide +kernel
theorem dX6_freeBelow_0 : decode cX6_freeBelow 0 = .ok (.iconst 0, 1) := by decide +kernel
theorem dX6_freeBelow_1 : decode cX6_freeBelow 1 = .ok (.istore 4, 2) := by decide +kernel
theorem dX6_freeBelow_3 : decode cX6_freeBelow 3 = .ok (.iload_n 1, 1) := by decide +kernel
theorem dX6_freeBelow_4 : decode cX6_freeBelow 4 = .ok (.bipush 100, 2) := by decide +kernel
theorem dX6_freeBelow_6 : decode cX6_freeBelow 6 = .ok (.isub, 1) := by decide +kernel
theorem dX6_freeBelow_7 : decode cX6_freeBelow 7 = .ok (.istore 5, 2) := by decide +kernel
theorem dX6_freeBelow_9 : decode cX6_freeBelow 9 = .ok (.iload 5, 2) := by decide +kernel
theorem dX6_freeBelow_11 : decode cX6_freeBelow 11 = .ok (.ifCond .lt 35, 3) := by decide +kernel
theorem dX6_freeBelow_14 : decode cX6_freeBelow 14 = .ok (.aload_n 3, 1) := by decide +kernel
theorem dX6_freeBelow_15 : decode cX6_freeBelow 15 = .ok (.iload 5, 2) := by decide +kernel
theorem dX6_freeBelow_17 : decode cX6_freeBelow 17 = .ok (.invokevirtual 46, 3) := by decide +kernel
theorem dX6_freeBelow_20 : decode cX6_freeBelow 20 = .ok (.ifCond .eq 17, 3) := by decide +kernel
theorem dX6_freeBelow_23 : decode cX6_freeBelow 23 = .ok (.aload_n 0, 1) := by decide +kernel
theorem dX6_freeBelow_24 : decode cX6_freeBelow 24 = .ok (.getfield 9, 3) := by decide +kernel
theorem dX6_freeBelow_27 : decode cX6_freeBelow 27 = .ok (.iload 5, 2) := by decide +kernel
theorem dX6_freeBelow_29 : decode cX6_freeBelow 29 = .ok (.iaload, 1) := by decide +kernel
theorem dX6_freeBelow_30 : decode cX6_freeBelow 30 = .ok (.iload_n 2, 1) := by decide +kernel
theorem dX6_freeBelow_31 : decode cX6_freeBelow 31 = .ok (.if_icmp .eq 6, 3) := by decide +kernel
theorem dX6_freeBelow_34 : decode cX6_freeBelow 34 = .ok (.goto 12, 3) := by decide +kernel
theorem dX6_freeBelow_37 : decode cX6_freeBelow 37 = .ok (.iinc 4 1, 3) := by decide +kernel
theorem dX6_freeBelow_40 : decode cX6_freeBelow 40 = .ok (.iinc 5 (-100), 3) := by decide +kernel
theorem dX6_freeBelow_43 : decode cX6_freeBelow 43 = .ok (.goto (-34), 3) := by decide +kernel
theorem dX6_freeBelow_46 : decode cX6_freeBelow 46 = .ok (.iload 4, 2) := by decide +kernel
theorem dX6_freeBelow_48 : decode cX6_freeBelow 48 = .ok (.ireturn, 1) := by decide +kernel
theorem dX6_nextToFall_0 : decode cX6_nextToFall 0 = .ok (.iconst 0, 1) := by decide +kernel
theorem dX6_nextToFall_1 : decode cX6_nextToFall 1 = .ok (.istore_n 3, 1) := by decide +kernel
theorem dX6_nextToFall_2 : decode cX6_nextToFall 2 = .ok (.iload_n 3, 1) := by decide +kernel
theorem dX6_nextToFall_3 : decode cX6_nextToFall 3 = .ok (.aload_n 0, 1) := by decide +kernel
theorem dX6_nextToFall_4 : decode cX6_nextToFall 4 = .ok (.getfield 24, 3) := by decide +kernel
theorem dX6_nextToFall_7 : decode cX6_nextToFall 7 = .ok (.if_icmp .ge 30, 3) := by decide +kernel
theorem dX6_nextToFall_10 : decode cX6_nextToFall 10 = .ok (.aload_n 0, 1) := by decide +kernel
theorem dX6_nextToFall_11 : decode cX6_nextToFall 11 = .ok (.iload_n 3, 1) := by decide +kernel
theorem dX6_nextToFall_12 : decode cX6_nextToFall 12 = .ok (.aload_n 1, 1) := by decide +kernel
theorem dX6_nextToFall_13 : decode cX6_nextToFall 13 = .ok (.aload_n 2, 1) := by decide +kernel
theorem dX6_nextToFall_14 : decode cX6_nextToFall 14 = .ok (.invokevirtual 66, 3) := by decide +kernel
theorem dX6_nextToFall_17 : decode cX6_nextToFall 17 = .ok (.ifCond .eq 14, 3) := by decide +kernel
theorem dX6_nextToFall_20 : decode cX6_nextToFall 20 = .ok (.aload_n 0, 1) := by decide +kernel
theorem dX6_nextToFall_21 : decode cX6_nextToFall 21 = .ok (.iload_n 3, 1) := by decide +kernel
theorem dX6_nextToFall_22 : decode cX6_nextToFall 22 = .ok (.aload_n 1, 1) := by decide +kernel
theorem dX6_nextToFall_23 : decode cX6_nextToFall 23 = .ok (.invokevirtual 70, 3) := by decide +kernel
theorem dX6_nextToFall_26 : decode cX6_nextToFall 26 = .ok (.ifCond .le 5, 3) := by decide +kernel
theorem dX6_nextToFall_29 : decode cX6_nextToFall 29 = .ok (.iload_n 3, 1) := by decide +kernel
theorem dX6_nextToFall_30 : decode cX6_nextToFall 30 = .ok (.ireturn, 1) := by decide +kernel
theorem dX6_nextToFall_31 : decode cX6_nextToFall 31 = .ok (.iinc 3 1, 3) := by decide +kernel
theorem dX6_nextToFall_34 : decode cX6_nextToFall 34 = .ok (.goto (-32), 3) := by decide +kernel
theorem dX6_nextToFall_37 : decode cX6_nextToFall 37 = .ok (.iconst (-1), 1) := by decide +kernel
theorem dX6_nextToFall_38 : decode cX6_nextToFall 38 = .ok (.ireturn, 1) := by decide +kernel
theorem dX6_lower_0 : decode cX6_lower 0 = .ok (.aload_n 0, 1) := by decide +kernel
theorem dX6_lower_1 : decode cX6_lower 1 = .ok (.getfield 18, 3) := by decide +kernel
theorem dX6_lower_4 : decode cX6_lower 4 = .ok (.iload_n 1, 1) := by decide +kernel
theorem dX6_lower_5 : decode cX6_lower 5 = .ok (.iaload, 1) := by decide +kernel
theorem dX6_lower_6 : decode cX6_lower 6 = .ok (.istore 5, 2) := by decide +kernel
theorem dX6_lower_8 : decode cX6_lower 8 = .ok (.iload 5, 2) := by decide +kernel
theorem dX6_lower_10 : decode cX6_lower 10 = .ok (.aload_n 0, 1) := by decide +kernel
theorem dX6_lower_11 : decode cX6_lower 11 = .ok (.getfield 18, 3) := by decide +kernel
theorem dX6_lower_14 : decode cX6_lower 14 = .ok (.iload_n 1, 1) := by decide +kernel
theorem dX6_lower_15 : decode cX6_lower 15 = .ok (.iconst 1, 1) := by decide +kernel
theorem dX6_lower_16 : decode cX6_lower 16 = .ok (.iadd, 1) := by decide +kernel
theorem dX6_lower_17 : decode cX6_lower 17 = .ok (.iaload, 1) := by decide +kernel
theorem dX6_lower_18 : decode cX6_lower 18 = .ok (.if_icmp .ge 53, 3) := by decide +kernel
theorem dX6_lower_21 : decode cX6_lower 21 = .ok (.aload_n 0, 1) := by decide +kernel
theorem dX6_lower_22 : decode cX6_lower 22 = .ok (.getfield 21, 3) := by decide +kernel
theorem dX6_lower_25 : decode cX6_lower 25 = .ok (.iload 5, 2) := by decide +kernel
theorem dX6_lower_27 : decode cX6_lower 27 = .ok (.aload_n 3, 1) := by decide +kernel
theorem dX6_lower_28 : decode cX6_lower 28 = .ok (.aload_n 0, 1) := by decide +kernel
theorem dX6_lower_29 : decode cX6_lower 29 = .ok (.getfield 15, 3) := by decide +kernel
theorem dX6_lower_32 : decode cX6_lower 32 = .ok (.iload 5, 2) := by decide +kernel
theorem dX6_lower_34 : decode cX6_lower 34 = .ok (.iaload, 1) := by decide +kernel
theorem dX6_lower_35 : decode cX6_lower 35 = .ok (.invokevirtual 46, 3) := by decide +kernel
theorem dX6_lower_38 : decode cX6_lower 38 = .ok (.iastore, 1) := by decide +kernel
theorem dX6_lower_39 : decode cX6_lower 39 = .ok (.aload_n 3, 1) := by decide +kernel
theorem dX6_lower_40 : decode cX6_lower 40 = .ok (.aload_n 0, 1) := by decide +kernel
theorem dX6_lower_41 : decode cX6_lower 41 = .ok (.getfield 15, 3) := by decide +kernel
theorem dX6_lower_44 : decode cX6_lower 44 = .ok (.iload 5, 2) := by decide +kernel
theorem dX6_lower_46 : decode cX6_lower 46 = .ok (.iaload, 1) := by decide +kernel
theorem dX6_lower_47 : decode cX6_lower 47 = .ok (.iconst 0, 1) := by decide +kernel
theorem dX6_lower_48 : decode cX6_lower 48 = .ok (.invokevirtual 74, 3) := by decide +kernel
theorem dX6_lower_51 : decode cX6_lower 51 = .ok (.aload 4, 2) := by decide +kernel
theorem dX6_lower_53 : decode cX6_lower 53 = .ok (.aload_n 0, 1) := by decide +kernel
theorem dX6_lower_54 : decode cX6_lower 54 = .ok (.getfield 15, 3) := by decide +kernel
theorem dX6_lower_57 : decode cX6_lower 57 = .ok (.iload 5, 2) := by decide +kernel
theorem dX6_lower_59 : decode cX6_lower 59 = .ok (.iaload, 1) := by decide +kernel
theorem dX6_lower_60 : decode cX6_lower 60 = .ok (.iconst 0, 1) := by decide +kernel
theorem dX6_lower_61 : decode cX6_lower 61 = .ok (.invokevirtual 78, 3) := by decide +kernel
theorem dX6_lower_64 : decode cX6_lower 64 = .ok (.pop, 1) := by decide +kernel
theorem dX6_lower_65 : decode cX6_lower 65 = .ok (.iinc 5 1, 3) := by decide +kernel
theorem dX6_lower_68 : decode cX6_lower 68 = .ok (.goto (-60), 3) := by decide +kernel
theorem dX6_lower_71 : decode cX6_lower 71 = .ok (.aload_n 0, 1) := by decide +kernel
theorem dX6_lower_72 : decode cX6_lower 72 = .ok (.getfield 18, 3) := by decide +kernel
theorem dX6_lower_75 : decode cX6_lower 75 = .ok (.iload_n 1, 1) := by decide +kernel
theorem dX6_lower_76 : decode cX6_lower 76 = .ok (.iaload, 1) := by decide +kernel
theorem dX6_lower_77 : decode cX6_lower 77 = .ok (.istore 5, 2) := by decide +kernel
theorem dX6_lower_79 : decode cX6_lower 79 = .ok (.iload 5, 2) := by decide +kernel
theorem dX6_lower_81 : decode cX6_lower 81 = .ok (.aload_n 0, 1) := by decide +kernel
theorem dX6_lower_82 : decode cX6_lower 82 = .ok (.getfield 18, 3) := by decide +kernel
theorem dX6_lower_85 : decode cX6_lower 85 = .ok (.iload_n 1, 1) := by decide +kernel
theorem dX6_lower_86 : decode cX6_lower 86 = .ok (.iconst 1, 1) := by decide +kernel
theorem dX6_lower_87 : decode cX6_lower 87 = .ok (.iadd, 1) := by decide +kernel
theorem dX6_lower_88 : decode cX6_lower 88 = .ok (.iaload, 1) := by decide +kernel
theorem dX6_lower_89 : decode cX6_lower 89 = .ok (.if_icmp .ge 51, 3) := by decide +kernel
theorem dX6_lower_92 : decode cX6_lower 92 = .ok (.aload_n 0, 1) := by decide +kernel
theorem dX6_lower_93 : decode cX6_lower 93 = .ok (.getfield 15, 3) := by decide +kernel
theorem dX6_lower_96 : decode cX6_lower 96 = .ok (.iload 5, 2) := by decide +kernel
theorem dX6_lower_98 : decode cX6_lower 98 = .ok (.iaload, 1) := by decide +kernel
theorem dX6_lower_99 : decode cX6_lower 99 = .ok (.bipush 100, 2) := by decide +kernel
theorem dX6_lower_101 : decode cX6_lower 101 = .ok (.iload_n 2, 1) := by decide +kernel
theorem dX6_lower_102 : decode cX6_lower 102 = .ok (.imul, 1) := by decide +kernel
theorem dX6_lower_103 : decode cX6_lower 103 = .ok (.isub, 1) := by decide +kernel
theorem dX6_lower_104 : decode cX6_lower 104 = .ok (.istore 6, 2) := by decide +kernel
theorem dX6_lower_106 : decode cX6_lower 106 = .ok (.aload_n 3, 1) := by decide +kernel
theorem dX6_lower_107 : decode cX6_lower 107 = .ok (.iload 6, 2) := by decide +kernel
theorem dX6_lower_109 : decode cX6_lower 109 = .ok (.aload_n 0, 1) := by decide +kernel
theorem dX6_lower_110 : decode cX6_lower 110 = .ok (.getfield 21, 3) := by decide +kernel
theorem dX6_lower_113 : decode cX6_lower 113 = .ok (.iload 5, 2) := by decide +kernel
theorem dX6_lower_115 : decode cX6_lower 115 = .ok (.iaload, 1) := by decide +kernel
theorem dX6_lower_116 : decode cX6_lower 116 = .ok (.invokevirtual 74, 3) := by decide +kernel
theorem dX6_lower_119 : decode cX6_lower 119 = .ok (.aload 4, 2) := by decide +kernel
theorem dX6_lower_121 : decode cX6_lower 121 = .ok (.iload 6, 2) := by decide +kernel
theorem dX6_lower_123 : decode cX6_lower 123 = .ok (.aload_n 0, 1) := by decide +kernel
theorem dX6_lower_124 : decode cX6_lower 124 = .ok (.getfield 21, 3) := by decide +kernel
theorem dX6_lower_127 : decode cX6_lower 127 = .ok (.iload 5, 2) := by decide +kernel
theorem dX6_lower_129 : decode cX6_lower 129 = .ok (.iaload, 1) := by decide +kernel
theorem dX6_lower_130 : decode cX6_lower 130 = .ok (.invokevirtual 78, 3) := by decide +kernel
theorem dX6_lower_133 : decode cX6_lower 133 = .ok (.pop, 1) := by decide +kernel
theorem dX6_lower_134 : decode cX6_lower 134 = .ok (.iinc 5 1, 3) := by decide +kernel
theorem dX6_lower_137 : decode cX6_lower 137 = .ok (.goto (-58), 3) := by decide +kernel
theorem dX6_lower_140 : decode cX6_lower 140 = .ok (.return_, 1) := by decide +kernel
theorem dX7_init_0 : decode cX7_init 0 = .ok (.aload_n 0, 1) := by decide +kernel
theorem dX7_init_1 : decode cX7_init 1 = .ok (.invokespecial 1, 3) := by decide +kernel
theorem dX7_init_4 : decode cX7_init 4 = .ok (.aload_n 0, 1) := by decide +kernel
theorem dX7_init_5 : decode cX7_init 5 = .ok (.aload_n 1, 1) := by decide +kernel
theorem dX7_init_6 : decode cX7_init 6 = .ok (.putfield 7, 3) := by decide +kernel
theorem dX7_init_9 : decode cX7_init 9 = .ok (.return_, 1) := by decide +kernel
theorem dX7_hold_0 : decode cX7_hold 0 = .ok (.aload_n 0, 1) := by decide +kernel
theorem dX7_hold_1 : decode cX7_hold 1 = .ok (.getfield 13, 3) := by decide +kernel
theorem dX7_hold_4 : decode cX7_hold 4 = .ok (.ifCond .ne 13, 3) := by decide +kernel
theorem dX7_hold_7 : decode cX7_hold 7 = .ok (.aload_n 1, 1) := by decide +kernel
theorem dX7_hold_8 : decode cX7_hold 8 = .ok (.dup, 1) := by decide +kernel
theorem dX7_hold_9 : decode cX7_hold 9 = .ok (.getfield 17, 3) := by decide +kernel
theorem dX7_hold_12 : decode cX7_hold 12 = .ok (.iconst 1, 1) := by decide +kernel
theorem dX7_hold_13 : decode cX7_hold 13 = .ok (.iadd, 1) := by decide +kernel
theorem dX7_hold_14 : decode cX7_hold 14 = .ok (.putfield 17, 3) := by decide +kernel
theorem dX7_hold_17 : decode cX7_hold 17 = .ok (.aload_n 0, 1) := by decide +kernel
theorem dX7_hold_18 : decode cX7_hold 18 = .ok (.dup, 1) := by decide +kernel
theorem dX7_hold_19 : decode cX7_hold 19 = .ok (.getfield 13, 3) := by decide +kernel
theorem dX7_hold_22 : decode cX7_hold 22 = .ok (.iconst 1, 1) := by decide +kernel
theorem dX7_hold_23 : decode cX7_hold 23 = .ok (.iadd, 1) := by decide +kernel
theorem dX7_hold_24 : decode cX7_hold 24 = .ok (.putfield 13, 3) := by decide +kernel
theorem dX7_hold_27 : decode cX7_hold 27 = .ok (.return_, 1) := by decide +kernel
theorem dX7_release_0 : decode cX7_release 0 = .ok (.aload_n 0, 1) := by decide +kernel
theorem dX7_release_1 : decode cX7_release 1 = .ok (.dup, 1) := by decide +kernel
theorem dX7_release_2 : decode cX7_release 2 = .ok (.getfield 13, 3) := by decide +kernel
theorem dX7_release_5 : decode cX7_release 5 = .ok (.iconst 1, 1) := by decide +kernel
theorem dX7_release_6 : decode cX7_release 6 = .ok (.isub, 1) := by decide +kernel
theorem dX7_release_7 : decode cX7_release 7 = .ok (.putfield 13, 3) := by decide +kernel
theorem dX7_release_10 : decode cX7_release 10 = .ok (.aload_n 0, 1) := by decide +kernel
theorem dX7_release_11 : decode cX7_release 11 = .ok (.getfield 13, 3) := by decide +kernel
theorem dX7_release_14 : decode cX7_release 14 = .ok (.ifCond .ne 13, 3) := by decide +kernel
theorem dX7_release_17 : decode cX7_release 17 = .ok (.aload_n 1, 1) := by decide +kernel
theorem dX7_release_18 : decode cX7_release 18 = .ok (.dup, 1) := by decide +kernel
theorem dX7_release_19 : decode cX7_release 19 = .ok (.getfield 17, 3) := by decide +kernel
theorem dX7_release_22 : decode cX7_release 22 = .ok (.iconst 1, 1) := by decide +kernel
theorem dX7_release_23 : decode cX7_release 23 = .ok (.isub, 1) := by decide +kernel
theorem dX7_release_24 : decode cX7_release 24 = .ok (.putfield 17, 3) := by decide +kernel
theorem dX7_release_27 : decode cX7_release 27 = .ok (.return_, 1) := by decide +kernel
theorem dX8_isTurn_0 : decode cX8_isTurn 0 = .ok (.iload_n 0, 1) := by decide +kernel
theorem dX8_isTurn_1 : decode cX8_isTurn 1 = .ok (.ifCond .lt 13, 3) := by decide +kernel
theorem dX8_isTurn_4 : decode cX8_isTurn 4 = .ok (.iload_n 0, 1) := by decide +kernel
theorem dX8_isTurn_5 : decode cX8_isTurn 5 = .ok (.bipush 24, 2) := by decide +kernel
theorem dX8_isTurn_7 : decode cX8_isTurn 7 = .ok (.if_icmp .ge 7, 3) := by decide +kernel
theorem dX8_isTurn_10 : decode cX8_isTurn 10 = .ok (.iconst 1, 1) := by decide +kernel
theorem dX8_isTurn_11 : decode cX8_isTurn 11 = .ok (.goto 4, 3) := by decide +kernel
theorem dX8_isTurn_14 : decode cX8_isTurn 14 = .ok (.iconst 0, 1) := by decide +kernel
theorem dX8_isTurn_15 : decode cX8_isTurn 15 = .ok (.ireturn, 1) := by decide +kernel
theorem dX8_axisOf_0 : decode cX8_axisOf 0 = .ok (.getstatic 9, 3) := by decide +kernel
theorem dX8_axisOf_3 : decode cX8_axisOf 3 = .ok (.iconst 3, 1) := by decide +kernel
theorem dX8_axisOf_4 : decode cX8_axisOf 4 = .ok (.iload_n 0, 1) := by decide +kernel
theorem dX8_axisOf_5 : decode cX8_axisOf 5 = .ok (.iconst 4, 1) := by decide +kernel
theorem dX8_axisOf_6 : decode cX8_axisOf 6 = .ok (.idiv, 1) := by decide +kernel
theorem dX8_axisOf_7 : decode cX8_axisOf 7 = .ok (.imul, 1) := by decide +kernel
theorem dX8_axisOf_8 : decode cX8_axisOf 8 = .ok (.iload_n 1, 1) := by decide +kernel
theorem dX8_axisOf_9 : decode cX8_axisOf 9 = .ok (.iadd, 1) := by decide +kernel
theorem dX8_axisOf_10 : decode cX8_axisOf 10 = .ok (.iaload, 1) := by decide +kernel
theorem dX8_axisOf_11 : decode cX8_axisOf 11 = .ok (.ireturn, 1) := by decide +kernel
theorem dX8_signOf_0 : decode cX8_signOf 0 = .ok (.iload_n 0, 1) := by decide +kernel
theorem dX8_signOf_1 : decode cX8_signOf 1 = .ok (.iconst 2, 1) := by decide +kernel
theorem dX8_signOf_2 : decode cX8_signOf 2 = .ok (.irem, 1) := by decide +kernel
theorem dX8_signOf_3 : decode cX8_signOf 3 = .ok (.iconst 1, 1) := by decide +kernel
theorem dX8_signOf_4 : decode cX8_signOf 4 = .ok (.if_icmp .ne 7, 3) := by decide +kernel
theorem dX8_signOf_7 : decode cX8_signOf 7 = .ok (.iconst (-1), 1) := by decide +kernel
theorem dX8_signOf_8 : decode cX8_signOf 8 = .ok (.goto 4, 3) := by decide +kernel
theorem dX8_signOf_11 : decode cX8_signOf 11 = .ok (.iconst 1, 1) := by decide +kernel
theorem dX8_signOf_12 : decode cX8_signOf 12 = .ok (.istore_n 2, 1) := by decide +kernel
theorem dX8_signOf_13 : decode cX8_signOf 13 = .ok (.iload_n 0, 1) := by decide +kernel
theorem dX8_signOf_14 : decode cX8_signOf 14 = .ok (.iconst 4, 1) := by decide +kernel
theorem dX8_signOf_15 : decode cX8_signOf 15 = .ok (.irem, 1) := by decide +kernel
theorem dX8_signOf_16 : decode cX8_signOf 16 = .ok (.iconst 2, 1) := by decide +kernel
theorem dX8_signOf_17 : decode cX8_signOf 17 = .ok (.if_icmp .lt 7, 3) := by decide +kernel
theorem dX8_signOf_20 : decode cX8_signOf 20 = .ok (.iconst (-1), 1) := by decide +kernel
theorem dX8_signOf_21 : decode cX8_signOf 21 = .ok (.goto 4, 3) := by decide +kernel
theorem dX8_signOf_24 : decode cX8_signOf 24 = .ok (.iconst 1, 1) := by decide +kernel
theorem dX8_signOf_25 : decode cX8_signOf 25 = .ok (.istore_n 3, 1) := by decide +kernel
theorem dX8_signOf_26 : decode cX8_signOf 26 = .ok (.iload_n 1, 1) := by decide +kernel
theorem dX8_signOf_27 : decode cX8_signOf 27 = .ok (.ifCond .ne 5, 3) := by decide +kernel
theorem dX8_signOf_30 : decode cX8_signOf 30 = .ok (.iload_n 2, 1) := by decide +kernel
theorem dX8_signOf_31 : decode cX8_signOf 31 = .ok (.ireturn, 1) := by decide +kernel
theorem dX8_signOf_32 : decode cX8_signOf 32 = .ok (.iload_n 1, 1) := by decide +kernel
theorem dX8_signOf_33 : decode cX8_signOf 33 = .ok (.iconst 1, 1) := by decide +kernel
theorem dX8_signOf_34 : decode cX8_signOf 34 = .ok (.if_icmp .ne 7, 3) := by decide +kernel
theorem dX8_signOf_37 : decode cX8_signOf 37 = .ok (.iload_n 3, 1) := by decide +kernel
theorem dX8_signOf_38 : decode cX8_signOf 38 = .ok (.goto 14, 3) := by decide +kernel
theorem dX8_signOf_41 : decode cX8_signOf 41 = .ok (.iload_n 2, 1) := by decide +kernel
theorem dX8_signOf_42 : decode cX8_signOf 42 = .ok (.iload_n 3, 1) := by decide +kernel
theorem dX8_signOf_43 : decode cX8_signOf 43 = .ok (.imul, 1) := by decide +kernel
theorem dX8_signOf_44 : decode cX8_signOf 44 = .ok (.getstatic 15, 3) := by decide +kernel
theorem dX8_signOf_47 : decode cX8_signOf 47 = .ok (.iload_n 0, 1) := by decide +kernel
theorem dX8_signOf_48 : decode cX8_signOf 48 = .ok (.iconst 4, 1) := by decide +kernel
theorem dX8_signOf_49 : decode cX8_signOf 49 = .ok (.idiv, 1) := by decide +kernel
theorem dX8_signOf_50 : decode cX8_signOf 50 = .ok (.iaload, 1) := by decide +kernel
theorem dX8_signOf_51 : decode cX8_signOf 51 = .ok (.imul, 1) := by decide +kernel
theorem dX8_signOf_52 : decode cX8_signOf 52 = .ok (.ireturn, 1) := by decide +kernel
theorem dX8_after_0 : decode cX8_after 0 = .ok (.iload_n 0, 1) := by decide +kernel
theorem dX8_after_1 : decode cX8_after 1 = .ok (.iload_n 1, 1) := by decide +kernel
theorem dX8_after_2 : decode cX8_after 2 = .ok (.iconst 0, 1) := by decide +kernel
theorem dX8_after_3 : decode cX8_after 3 = .ok (.invokestatic 18, 3) := by decide +kernel
theorem dX8_after_6 : decode cX8_after 6 = .ok (.invokestatic 18, 3) := by decide +kernel
theorem dX8_after_9 : decode cX8_after 9 = .ok (.istore_n 2, 1) := by decide +kernel
theorem dX8_after_10 : decode cX8_after 10 = .ok (.iload_n 0, 1) := by decide +kernel
theorem dX8_after_11 : decode cX8_after 11 = .ok (.iload_n 1, 1) := by decide +kernel
theorem dX8_after_12 : decode cX8_after 12 = .ok (.iconst 1, 1) := by decide +kernel
theorem dX8_after_13 : decode cX8_after 13 = .ok (.invokestatic 18, 3) := by decide +kernel
theorem dX8_after_16 : decode cX8_after 16 = .ok (.invokestatic 18, 3) := by decide +kernel
theorem dX8_after_19 : decode cX8_after 19 = .ok (.istore_n 3, 1) := by decide +kernel
theorem dX8_after_20 : decode cX8_after 20 = .ok (.iload_n 1, 1) := by decide +kernel
theorem dX8_after_21 : decode cX8_after 21 = .ok (.iconst 0, 1) := by decide +kernel
theorem dX8_after_22 : decode cX8_after 22 = .ok (.invokestatic 22, 3) := by decide +kernel
theorem dX8_after_25 : decode cX8_after 25 = .ok (.iload_n 0, 1) := by decide +kernel
theorem dX8_after_26 : decode cX8_after 26 = .ok (.iload_n 1, 1) := by decide +kernel
theorem dX8_after_27 : decode cX8_after 27 = .ok (.iconst 0, 1) := by decide +kernel
theorem dX8_after_28 : decode cX8_after 28 = .ok (.invokestatic 18, 3) := by decide +kernel
theorem dX8_after_31 : decode cX8_after 31 = .ok (.invokestatic 22, 3) := by decide +kernel
theorem dX8_after_34 : decode cX8_after 34 = .ok (.imul, 1) := by decide +kernel
theorem dX8_after_35 : decode cX8_after 35 = .ok (.istore 4, 2) := by decide +kernel
theorem dX8_after_37 : decode cX8_after 37 = .ok (.iload_n 1, 1) := by decide +kernel
theorem dX8_after_38 : decode cX8_after 38 = .ok (.iconst 1, 1) := by decide +kernel
theorem dX8_after_39 : decode cX8_after 39 = .ok (.invokestatic 22, 3) := by decide +kernel
theorem dX8_after_42 : decode cX8_after 42 = .ok (.iload_n 0, 1) := by decide +kernel
theorem dX8_after_43 : decode cX8_after 43 = .ok (.iload_n 1, 1) := by decide +kernel
theorem dX8_after_44 : decode cX8_after 44 = .ok (.iconst 1, 1) := by decide +kernel
theorem dX8_after_45 : decode cX8_after 45 = .ok (.invokestatic 18, 3) := by decide +kernel
theorem dX8_after_48 : decode cX8_after 48 = .ok (.invokestatic 22, 3) := by decide +kernel
theorem dX8_after_51 : decode cX8_after 51 = .ok (.imul, 1) := by decide +kernel
theorem dX8_after_52 : decode cX8_after 52 = .ok (.istore 5, 2) := by decide +kernel
theorem dX8_after_54 : decode cX8_after 54 = .ok (.iconst 3, 1) := by decide +kernel
theorem dX8_after_55 : decode cX8_after 55 = .ok (.iload_n 2, 1) := by decide +kernel
theorem dX8_after_56 : decode cX8_after 56 = .ok (.isub, 1) := by decide +kernel
theorem dX8_after_57 : decode cX8_after 57 = .ok (.iload_n 3, 1) := by decide +kernel
theorem dX8_after_58 : decode cX8_after 58 = .ok (.isub, 1) := by decide +kernel
theorem dX8_after_59 : decode cX8_after 59 = .ok (.istore 6, 2) := by decide +kernel
theorem dX8_after_61 : decode cX8_after 61 = .ok (.iconst 2, 1) := by decide +kernel
theorem dX8_after_62 : decode cX8_after 62 = .ok (.iload_n 2, 1) := by decide +kernel
theorem dX8_after_63 : decode cX8_after 63 = .ok (.imul, 1) := by decide +kernel
theorem dX8_after_64 : decode cX8_after 64 = .ok (.iload_n 3, 1) := by decide +kernel
theorem dX8_after_65 : decode cX8_after 65 = .ok (.iload 6, 2) := by decide +kernel
theorem dX8_after_67 : decode cX8_after 67 = .ok (.if_icmp .le 7, 3) := by decide +kernel
theorem dX8_after_70 : decode cX8_after 70 = .ok (.iconst 1, 1) := by decide +kernel
theorem dX8_after_71 : decode cX8_after 71 = .ok (.goto 4, 3) := by decide +kernel
theorem dX8_after_74 : decode cX8_after 74 = .ok (.iconst 0, 1) := by decide +kernel
theorem dX8_after_75 : decode cX8_after 75 = .ok (.iadd, 1) := by decide +kernel
theorem dX8_after_76 : decode cX8_after 76 = .ok (.istore 7, 2) := by decide +kernel
theorem dX8_after_78 : decode cX8_after 78 = .ok (.iconst 4, 1) := by decide +kernel
theorem dX8_after_79 : decode cX8_after 79 = .ok (.iload 7, 2) := by decide +kernel
theorem dX8_after_81 : decode cX8_after 81 = .ok (.imul, 1) := by decide +kernel
theorem dX8_after_82 : decode cX8_after 82 = .ok (.iload 5, 2) := by decide +kernel
theorem dX8_after_84 : decode cX8_after 84 = .ok (.ifCond .ge 7, 3) := by decide +kernel
theorem dX8_after_87 : decode cX8_after 87 = .ok (.iconst 2, 1) := by decide +kernel
theorem dX8_after_88 : decode cX8_after 88 = .ok (.goto 4, 3) := by decide +kernel
theorem dX8_after_91 : decode cX8_after 91 = .ok (.iconst 0, 1) := by decide +kernel
theorem dX8_after_92 : decode cX8_after 92 = .ok (.iadd, 1) := by decide +kernel
theorem dX8_after_93 : decode cX8_after 93 = .ok (.iload 4, 2) := by decide +kernel
theorem dX8_after_95 : decode cX8_after 95 = .ok (.ifCond .ge 7, 3) := by decide +kernel
theorem dX8_after_98 : decode cX8_after 98 = .ok (.iconst 1, 1) := by decide +kernel
theorem dX8_after_99 : decode cX8_after 99 = .ok (.goto 4, 3) := by decide +kernel
theorem dX8_after_102 : decode cX8_after 102 = .ok (.iconst 0, 1) := by decide +kernel
theorem dX8_after_103 : decode cX8_after 103 = .ok (.iadd, 1) := by decide +kernel
theorem dX8_after_104 : decode cX8_after 104 = .ok (.ireturn, 1) := by decide +kernel
theorem dX9_init_0 : decode cX9_init 0 = .ok (.aload_n 0, 1) := by decide +kernel
theorem dX9_init_1 : decode cX9_init 1 = .ok (.invokespecial 3, 3) := by decide +kernel
theorem dX9_init_4 : decode cX9_init 4 = .ok (.aload_n 0, 1) := by decide +kernel
theorem dX9_init_5 : decode cX9_init 5 = .ok (.sipush 1000, 3) := by decide +kernel
theorem dX9_init_8 : decode cX9_init 8 = .ok (.newarray .int, 2) := by decide +kernel
theorem dX9_init_10 : decode cX9_init 10 = .ok (.putfield 9, 3) := by decide +kernel
theorem dX9_init_13 : decode cX9_init 13 = .ok (.aload_n 0, 1) := by decide +kernel
theorem dX9_init_14 : decode cX9_init 14 = .ok (.sipush 1000, 3) := by decide +kernel
theorem dX9_init_17 : decode cX9_init 17 = .ok (.newarray .int, 2) := by decide +kernel
theorem dX9_init_19 : decode cX9_init 19 = .ok (.putfield 15, 3) := by decide +kernel
theorem dX9_init_22 : decode cX9_init 22 = .ok (.return_, 1) := by decide +kernel
theorem dX9_steps_0 : decode cX9_steps 0 = .ok (.aload_n 1, 1) := by decide +kernel
theorem dX9_steps_1 : decode cX9_steps 1 = .ok (.iload_n 2, 1) := by decide +kernel
theorem dX9_steps_2 : decode cX9_steps 2 = .ok (.invokestatic 18, 3) := by decide +kernel
theorem dX9_steps_5 : decode cX9_steps 5 = .ok (.ifCond .eq 11, 3) := by decide +kernel
theorem dX9_steps_8 : decode cX9_steps 8 = .ok (.aload_n 1, 1) := by decide +kernel
theorem dX9_steps_9 : decode cX9_steps 9 = .ok (.iload_n 3, 1) := by decide +kernel
theorem dX9_steps_10 : decode cX9_steps 10 = .ok (.invokestatic 18, 3) := by decide +kernel
theorem dX9_steps_13 : decode cX9_steps 13 = .ok (.ifCond .ne 5, 3) := by decide +kernel
theorem dX9_steps_16 : decode cX9_steps 16 = .ok (.iconst (-1), 1) := by decide +kernel
theorem dX9_steps_17 : decode cX9_steps 17 = .ok (.ireturn, 1) := by decide +kernel
theorem dX9_steps_18 : decode cX9_steps 18 = .ok (.iconst 0, 1) := by decide +kernel
theorem dX9_steps_19 : decode cX9_steps 19 = .ok (.istore 4, 2) := by decide +kernel
theorem dX9_steps_21 : decode cX9_steps 21 = .ok (.iload 4, 2) := by decide +kernel
theorem dX9_steps_23 : decode cX9_steps 23 = .ok (.sipush 1000, 3) := by decide +kernel
theorem dX9_steps_26 : decode cX9_steps 26 = .ok (.if_icmp .ge 17, 3) := by decide +kernel
theorem dX9_steps_29 : decode cX9_steps 29 = .ok (.aload_n 0, 1) := by decide +kernel
theorem dX9_steps_30 : decode cX9_steps 30 = .ok (.getfield 9, 3) := by decide +kernel
theorem dX9_steps_33 : decode cX9_steps 33 = .ok (.iload 4, 2) := by decide +kernel
theorem dX9_steps_35 : decode cX9_steps 35 = .ok (.iconst (-1), 1) := by decide +kernel
theorem dX9_steps_36 : decode cX9_steps 36 = .ok (.iastore, 1) := by decide +kernel
theorem dX9_steps_37 : decode cX9_steps 37 = .ok (.iinc 4 1, 3) := by decide +kernel
theorem dX9_steps_40 : decode cX9_steps 40 = .ok (.goto (-19), 3) := by decide +kernel
theorem dX9_steps_43 : decode cX9_steps 43 = .ok (.aload_n 0, 1) := by decide +kernel
theorem dX9_steps_44 : decode cX9_steps 44 = .ok (.iconst 0, 1) := by decide +kernel
theorem dX9_steps_45 : decode cX9_steps 45 = .ok (.putfield 22, 3) := by decide +kernel
theorem dX9_steps_48 : decode cX9_steps 48 = .ok (.aload_n 0, 1) := by decide +kernel
theorem dX9_steps_49 : decode cX9_steps 49 = .ok (.aload_n 1, 1) := by decide +kernel
theorem dX9_steps_50 : decode cX9_steps 50 = .ok (.iload_n 2, 1) := by decide +kernel
theorem dX9_steps_51 : decode cX9_steps 51 = .ok (.iconst 0, 1) := by decide +kernel
theorem dX9_steps_52 : decode cX9_steps 52 = .ok (.invokevirtual 26, 3) := by decide +kernel
theorem dX9_steps_55 : decode cX9_steps 55 = .ok (.iconst 0, 1) := by decide +kernel
theorem dX9_steps_56 : decode cX9_steps 56 = .ok (.istore 4, 2) := by decide +kernel
theorem dX9_steps_58 : decode cX9_steps 58 = .ok (.iload 4, 2) := by decide +kernel
theorem dX9_steps_60 : decode cX9_steps 60 = .ok (.aload_n 0, 1) := by decide +kernel
theorem dX9_steps_61 : decode cX9_steps 61 = .ok (.getfield 22, 3) := by decide +kernel
theorem dX9_steps_64 : decode cX9_steps 64 = .ok (.if_icmp .ge 39, 3) := by decide +kernel
theorem dX9_steps_67 : decode cX9_steps 67 = .ok (.iload 4, 2) := by decide +kernel
theorem dX9_steps_69 : decode cX9_steps 69 = .ok (.sipush 1000, 3) := by decide +kernel
theorem dX9_steps_72 : decode cX9_steps 72 = .ok (.if_icmp .ge 31, 3) := by decide +kernel
theorem dX9_steps_75 : decode cX9_steps 75 = .ok (.aload_n 0, 1) := by decide +kernel
theorem dX9_steps_76 : decode cX9_steps 76 = .ok (.getfield 9, 3) := by decide +kernel
theorem dX9_steps_79 : decode cX9_steps 79 = .ok (.iload_n 3, 1) := by decide +kernel
theorem dX9_steps_80 : decode cX9_steps 80 = .ok (.iaload, 1) := by decide +kernel
theorem dX9_steps_81 : decode cX9_steps 81 = .ok (.iconst (-1), 1) := by decide +kernel
theorem dX9_steps_82 : decode cX9_steps 82 = .ok (.if_icmp .ne 21, 3) := by decide +kernel
theorem dX9_steps_85 : decode cX9_steps 85 = .ok (.aload_n 0, 1) := by decide +kernel
theorem dX9_steps_86 : decode cX9_steps 86 = .ok (.aload_n 1, 1) := by decide +kernel
theorem dX9_steps_87 : decode cX9_steps 87 = .ok (.aload_n 0, 1) := by decide +kernel
theorem dX9_steps_88 : decode cX9_steps 88 = .ok (.getfield 15, 3) := by decide +kernel
theorem dX9_steps_91 : decode cX9_steps 91 = .ok (.iload 4, 2) := by decide +kernel
theorem dX9_steps_93 : decode cX9_steps 93 = .ok (.iaload, 1) := by decide +kernel
theorem dX9_steps_94 : decode cX9_steps 94 = .ok (.invokevirtual 30, 3) := by decide +kernel
theorem dX9_steps_97 : decode cX9_steps 97 = .ok (.iinc 4 1, 3) := by decide +kernel
theorem dX9_steps_100 : decode cX9_steps 100 = .ok (.goto (-42), 3) := by decide +kernel
theorem dX9_steps_103 : decode cX9_steps 103 = .ok (.aload_n 0, 1) := by decide +kernel
theorem dX9_steps_104 : decode cX9_steps 104 = .ok (.getfield 9, 3) := by decide +kernel
theorem dX9_steps_107 : decode cX9_steps 107 = .ok (.iload_n 3, 1) := by decide +kernel
theorem dX9_steps_108 : decode cX9_steps 108 = .ok (.iaload, 1) := by decide +kernel
theorem dX9_steps_109 : decode cX9_steps 109 = .ok (.ireturn, 1) := by decide +kernel
theorem dX9_isStand_0 : decode cX9_isStand 0 = .ok (.aload_n 0, 1) := by decide +kernel
theorem dX9_isStand_1 : decode cX9_isStand 1 = .ok (.iload_n 1, 1) := by decide +kernel
theorem dX9_isStand_2 : decode cX9_isStand 2 = .ok (.invokevirtual 34, 3) := by decide +kernel
theorem dX9_isStand_5 : decode cX9_isStand 5 = .ok (.ifCond .ne 25, 3) := by decide +kernel
theorem dX9_isStand_8 : decode cX9_isStand 8 = .ok (.iload_n 1, 1) := by decide +kernel
theorem dX9_isStand_9 : decode cX9_isStand 9 = .ok (.invokestatic 40, 3) := by decide +kernel
theorem dX9_isStand_12 : decode cX9_isStand 12 = .ok (.ifCond .eq 14, 3) := by decide +kernel
theorem dX9_isStand_15 : decode cX9_isStand 15 = .ok (.aload_n 0, 1) := by decide +kernel
theorem dX9_isStand_16 : decode cX9_isStand 16 = .ok (.iload_n 1, 1) := by decide +kernel
theorem dX9_isStand_17 : decode cX9_isStand 17 = .ok (.bipush 100, 2) := by decide +kernel
theorem dX9_isStand_19 : decode cX9_isStand 19 = .ok (.isub, 1) := by decide +kernel
theorem dX9_isStand_20 : decode cX9_isStand 20 = .ok (.invokevirtual 43, 3) := by decide +kernel
theorem dX9_isStand_23 : decode cX9_isStand 23 = .ok (.ifCond .eq 7, 3) := by decide +kernel
theorem dX9_isStand_26 : decode cX9_isStand 26 = .ok (.iconst 1, 1) := by decide +kernel
theorem dX9_isStand_27 : decode cX9_isStand 27 = .ok (.goto 4, 3) := by decide +kernel
theorem dX9_isStand_30 : decode cX9_isStand 30 = .ok (.iconst 0, 1) := by decide +kernel
theorem dX9_isStand_31 : decode cX9_isStand 31 = .ok (.ireturn, 1) := by decide +kernel
theorem dX9_leave_0 : decode cX9_leave 0 = .ok (.aload_n 0, 1) := by decide +kernel
theorem dX9_leave_1 : decode cX9_leave 1 = .ok (.getfield 9, 3) := by decide +kernel
theorem dX9_leave_4 : decode cX9_leave 4 = .ok (.iload_n 2, 1) := by decide +kernel
theorem dX9_leave_5 : decode cX9_leave 5 = .ok (.iaload, 1) := by decide +kernel
theorem dX9_leave_6 : decode cX9_leave 6 = .ok (.iconst 1, 1) := by decide +kernel
theorem dX9_leave_7 : decode cX9_leave 7 = .ok (.iadd, 1) := by decide +kernel
theorem dX9_leave_8 : decode cX9_leave 8 = .ok (.istore_n 3, 1) := by decide +kernel
theorem dX9_leave_9 : decode cX9_leave 9 = .ok (.iconst 2, 1) := by decide +kernel
theorem dX9_leave_10 : decode cX9_leave 10 = .ok (.istore 4, 2) := by decide +kernel
theorem dX9_leave_12 : decode cX9_leave 12 = .ok (.iload 4, 2) := by decide +kernel
theorem dX9_leave_14 : decode cX9_leave 14 = .ok (.bipush 6, 2) := by decide +kernel
theorem dX9_leave_16 : decode cX9_leave 16 = .ok (.if_icmp .ge 73, 3) := by decide +kernel
theorem dX9_leave_19 : decode cX9_leave 19 = .ok (.iload_n 2, 1) := by decide +kernel
theorem dX9_leave_20 : decode cX9_leave 20 = .ok (.iload 4, 2) := by decide +kernel
theorem dX9_leave_22 : decode cX9_leave 22 = .ok (.invokestatic 47, 3) := by decide +kernel
theorem dX9_leave_25 : decode cX9_leave 25 = .ok (.istore 5, 2) := by decide +kernel
theorem dX9_leave_27 : decode cX9_leave 27 = .ok (.iload 5, 2) := by decide +kernel
theorem dX9_leave_29 : decode cX9_leave 29 = .ok (.iconst (-1), 1) := by decide +kernel
theorem dX9_leave_30 : decode cX9_leave 30 = .ok (.if_icmp .eq 53, 3) := by decide +kernel
theorem dX9_leave_33 : decode cX9_leave 33 = .ok (.aload_n 0, 1) := by decide +kernel
theorem dX9_leave_34 : decode cX9_leave 34 = .ok (.aload_n 1, 1) := by decide +kernel
theorem dX9_leave_35 : decode cX9_leave 35 = .ok (.iload 5, 2) := by decide +kernel
theorem dX9_leave_37 : decode cX9_leave 37 = .ok (.iload_n 3, 1) := by decide +kernel
theorem dX9_leave_38 : decode cX9_leave 38 = .ok (.invokevirtual 26, 3) := by decide +kernel
theorem dX9_leave_41 : decode cX9_leave 41 = .ok (.aload_n 1, 1) := by decide +kernel
theorem dX9_leave_42 : decode cX9_leave 42 = .ok (.iload_n 2, 1) := by decide +kernel
theorem dX9_leave_43 : decode cX9_leave 43 = .ok (.bipush 100, 2) := by decide +kernel
theorem dX9_leave_45 : decode cX9_leave 45 = .ok (.iadd, 1) := by decide +kernel
theorem dX9_leave_46 : decode cX9_leave 46 = .ok (.invokevirtual 43, 3) := by decide +kernel
theorem dX9_leave_49 : decode cX9_leave 49 = .ok (.ifCond .ne 14, 3) := by decide +kernel
theorem dX9_leave_52 : decode cX9_leave 52 = .ok (.aload_n 0, 1) := by decide +kernel
theorem dX9_leave_53 : decode cX9_leave 53 = .ok (.aload_n 1, 1) := by decide +kernel
theorem dX9_leave_54 : decode cX9_leave 54 = .ok (.iload 5, 2) := by decide +kernel
theorem dX9_leave_56 : decode cX9_leave 56 = .ok (.bipush 100, 2) := by decide +kernel
theorem dX9_leave_58 : decode cX9_leave 58 = .ok (.iadd, 1) := by decide +kernel
theorem dX9_leave_59 : decode cX9_leave 59 = .ok (.iload_n 3, 1) := by decide +kernel
theorem dX9_leave_60 : decode cX9_leave 60 = .ok (.invokevirtual 26, 3) := by decide +kernel
theorem dX9_leave_63 : decode cX9_leave 63 = .ok (.aload_n 1, 1) := by decide +kernel
theorem dX9_leave_64 : decode cX9_leave 64 = .ok (.iload 5, 2) := by decide +kernel
theorem dX9_leave_66 : decode cX9_leave 66 = .ok (.invokevirtual 43, 3) := by decide +kernel
theorem dX9_leave_69 : decode cX9_leave 69 = .ok (.ifCond .ne 14, 3) := by decide +kernel
theorem dX9_leave_72 : decode cX9_leave 72 = .ok (.aload_n 0, 1) := by decide +kernel
theorem dX9_leave_73 : decode cX9_leave 73 = .ok (.aload_n 1, 1) := by decide +kernel
theorem dX9_leave_74 : decode cX9_leave 74 = .ok (.iload 5, 2) := by decide +kernel
theorem dX9_leave_76 : decode cX9_leave 76 = .ok (.bipush 100, 2) := by decide +kernel
theorem dX9_leave_78 : decode cX9_leave 78 = .ok (.isub, 1) := by decide +kernel
theorem dX9_leave_79 : decode cX9_leave 79 = .ok (.iload_n 3, 1) := by decide +kernel
theorem dX9_leave_80 : decode cX9_leave 80 = .ok (.invokevirtual 26, 3) := by decide +kernel
theorem dX9_leave_83 : decode cX9_leave 83 = .ok (.iinc 4 1, 3) := by decide +kernel
theorem dX9_leave_86 : decode cX9_leave 86 = .ok (.goto (-74), 3) := by decide +kernel
theorem dX9_leave_89 : decode cX9_leave 89 = .ok (.return_, 1) := by decide +kernel
theorem dX9_reach_0 : decode cX9_reach 0 = .ok (.aload_n 1, 1) := by decide +kernel
theorem dX9_reach_1 : decode cX9_reach 1 = .ok (.iload_n 2, 1) := by decide +kernel
theorem dX9_reach_2 : decode cX9_reach 2 = .ok (.invokestatic 18, 3) := by decide +kernel
theorem dX9_reach_5 : decode cX9_reach 5 = .ok (.ifCond .eq 50, 3) := by decide +kernel
theorem dX9_reach_8 : decode cX9_reach 8 = .ok (.aload_n 0, 1) := by decide +kernel
theorem dX9_reach_9 : decode cX9_reach 9 = .ok (.getfield 9, 3) := by decide +kernel
theorem dX9_reach_12 : decode cX9_reach 12 = .ok (.iload_n 2, 1) := by decide +kernel
theorem dX9_reach_13 : decode cX9_reach 13 = .ok (.iaload, 1) := by decide +kernel
theorem dX9_reach_14 : decode cX9_reach 14 = .ok (.iconst (-1), 1) := by decide +kernel
theorem dX9_reach_15 : decode cX9_reach 15 = .ok (.if_icmp .ne 40, 3) := by decide +kernel
theorem dX9_reach_18 : decode cX9_reach 18 = .ok (.aload_n 0, 1) := by decide +kernel
theorem dX9_reach_19 : decode cX9_reach 19 = .ok (.getfield 22, 3) := by decide +kernel
theorem dX9_reach_22 : decode cX9_reach 22 = .ok (.sipush 1000, 3) := by decide +kernel
theorem dX9_reach_25 : decode cX9_reach 25 = .ok (.if_icmp .ge 30, 3) := by decide +kernel
theorem dX9_reach_28 : decode cX9_reach 28 = .ok (.aload_n 0, 1) := by decide +kernel
theorem dX9_reach_29 : decode cX9_reach 29 = .ok (.getfield 9, 3) := by decide +kernel
theorem dX9_reach_32 : decode cX9_reach 32 = .ok (.iload_n 2, 1) := by decide +kernel
theorem dX9_reach_33 : decode cX9_reach 33 = .ok (.iload_n 3, 1) := by decide +kernel
theorem dX9_reach_34 : decode cX9_reach 34 = .ok (.iastore, 1) := by decide +kernel
theorem dX9_reach_35 : decode cX9_reach 35 = .ok (.aload_n 0, 1) := by decide +kernel
theorem dX9_reach_36 : decode cX9_reach 36 = .ok (.getfield 15, 3) := by decide +kernel
theorem dX9_reach_39 : decode cX9_reach 39 = .ok (.aload_n 0, 1) := by decide +kernel
theorem dX9_reach_40 : decode cX9_reach 40 = .ok (.getfield 22, 3) := by decide +kernel
theorem dX9_reach_43 : decode cX9_reach 43 = .ok (.iload_n 2, 1) := by decide +kernel
theorem dX9_reach_44 : decode cX9_reach 44 = .ok (.iastore, 1) := by decide +kernel
theorem dX9_reach_45 : decode cX9_reach 45 = .ok (.aload_n 0, 1) := by decide +kernel
theorem dX9_reach_46 : decode cX9_reach 46 = .ok (.dup, 1) := by decide +kernel
theorem dX9_reach_47 : decode cX9_reach 47 = .ok (.getfield 22, 3) := by decide +kernel
theorem dX9_reach_50 : decode cX9_reach 50 = .ok (.iconst 1, 1) := by decide +kernel
theorem dX9_reach_51 : decode cX9_reach 51 = .ok (.iadd, 1) := by decide +kernel
theorem dX9_reach_52 : decode cX9_reach 52 = .ok (.putfield 22, 3) := by decide +kernel
theorem dX9_reach_55 : decode cX9_reach 55 = .ok (.return_, 1) := by decide +kernel
theorem dX10_init_0 : decode cX10_init 0 = .ok (.aload_n 0, 1) := by decide +kernel
theorem dX10_init_1 : decode cX10_init 1 = .ok (.invokespecial 3, 3) := by decide +kernel
theorem dX10_init_4 : decode cX10_init 4 = .ok (.aload_n 0, 1) := by decide +kernel
theorem dX10_init_5 : decode cX10_init 5 = .ok (.bipush 10, 2) := by decide +kernel
theorem dX10_init_7 : decode cX10_init 7 = .ok (.anewarray 9, 3) := by decide +kernel
theorem dX10_init_10 : decode cX10_init 10 = .ok (.putfield 11, 3) := by decide +kernel
theorem dX10_init_13 : decode cX10_init 13 = .ok (.aload_n 0, 1) := by decide +kernel
theorem dX10_init_14 : decode cX10_init 14 = .ok (.aload_n 1, 1) := by decide +kernel
theorem dX10_init_15 : decode cX10_init 15 = .ok (.putfield 17, 3) := by decide +kernel
theorem dX10_init_18 : decode cX10_init 18 = .ok (.return_, 1) := by decide +kernel
theorem dX10_layerAt_0 : decode cX10_layerAt 0 = .ok (.iload_n 1, 1) := by decide +kernel
theorem dX10_layerAt_1 : decode cX10_layerAt 1 = .ok (.invokestatic 21, 3) := by decide +kernel
theorem dX10_layerAt_4 : decode cX10_layerAt 4 = .ok (.ifCond .eq 12, 3) := by decide +kernel
theorem dX10_layerAt_7 : decode cX10_layerAt 7 = .ok (.aload_n 0, 1) := by decide +kernel
theorem dX10_layerAt_8 : decode cX10_layerAt 8 = .ok (.getfield 11, 3) := by decide +kernel
theorem dX10_layerAt_11 : decode cX10_layerAt 11 = .ok (.iload_n 1, 1) := by decide +kernel
theorem dX10_layerAt_12 : decode cX10_layerAt 12 = .ok (.aaload, 1) := by decide +kernel
theorem dX10_layerAt_13 : decode cX10_layerAt 13 = .ok (.goto 4, 3) := by decide +kernel
theorem dX10_layerAt_16 : decode cX10_layerAt 16 = .ok (.aconst_null, 1) := by decide +kernel
theorem dX10_layerAt_17 : decode cX10_layerAt 17 = .ok (.areturn, 1) := by decide +kernel
theorem dX10_rowAt_0 : decode cX10_rowAt 0 = .ok (.aload_n 0, 1) := by decide +kernel
theorem dX10_rowAt_1 : decode cX10_rowAt 1 = .ok (.iload_n 1, 1) := by decide +kernel
theorem dX10_rowAt_2 : decode cX10_rowAt 2 = .ok (.invokevirtual 25, 3) := by decide +kernel
theorem dX10_rowAt_5 : decode cX10_rowAt 5 = .ok (.astore_n 3, 1) := by decide +kernel
theorem dX10_rowAt_6 : decode cX10_rowAt 6 = .ok (.aload_n 3, 1) := by decide +kernel
theorem dX10_rowAt_7 : decode cX10_rowAt 7 = .ok (.ifnull 19, 3) := by decide +kernel
theorem dX10_rowAt_10 : decode cX10_rowAt 10 = .ok (.iload_n 2, 1) := by decide +kernel
theorem dX10_rowAt_11 : decode cX10_rowAt 11 = .ok (.invokestatic 21, 3) := by decide +kernel
theorem dX10_rowAt_14 : decode cX10_rowAt 14 = .ok (.ifCond .eq 12, 3) := by decide +kernel
theorem dX10_rowAt_17 : decode cX10_rowAt 17 = .ok (.aload_n 3, 1) := by decide +kernel
theorem dX10_rowAt_18 : decode cX10_rowAt 18 = .ok (.getfield 29, 3) := by decide +kernel
theorem dX10_rowAt_21 : decode cX10_rowAt 21 = .ok (.iload_n 2, 1) := by decide +kernel
theorem dX10_rowAt_22 : decode cX10_rowAt 22 = .ok (.aaload, 1) := by decide +kernel
theorem dX10_rowAt_23 : decode cX10_rowAt 23 = .ok (.goto 4, 3) := by decide +kernel
theorem dX10_rowAt_26 : decode cX10_rowAt 26 = .ok (.aconst_null, 1) := by decide +kernel
theorem dX10_rowAt_27 : decode cX10_rowAt 27 = .ok (.areturn, 1) := by decide +kernel
theorem dX10_refusal_0 : decode cX10_refusal 0 = .ok (.iload_n 1, 1) := by decide +kernel
theorem dX10_refusal_1 : decode cX10_refusal 1 = .ok (.invokestatic 21, 3) := by decide +kernel
theorem dX10_refusal_4 : decode cX10_refusal 4 = .ok (.ifCond .ne 5, 3) := by decide +kernel
theorem dX10_refusal_7 : decode cX10_refusal 7 = .ok (.iconst 1, 1) := by decide +kernel
theorem dX10_refusal_8 : decode cX10_refusal 8 = .ok (.ireturn, 1) := by decide +kernel
theorem dX10_refusal_9 : decode cX10_refusal 9 = .ok (.aload_n 0, 1) := by decide +kernel
theorem dX10_refusal_10 : decode cX10_refusal 10 = .ok (.getfield 11, 3) := by decide +kernel
theorem dX10_refusal_13 : decode cX10_refusal 13 = .ok (.iload_n 1, 1) := by decide +kernel
theorem dX10_refusal_14 : decode cX10_refusal 14 = .ok (.aaload, 1) := by decide +kernel
theorem dX10_refusal_15 : decode cX10_refusal 15 = .ok (.ifnonnull 5, 3) := by decide +kernel
theorem dX10_refusal_18 : decode cX10_refusal 18 = .ok (.iconst 2, 1) := by decide +kernel
theorem dX10_refusal_19 : decode cX10_refusal 19 = .ok (.ireturn, 1) := by decide +kernel
theorem dX10_refusal_20 : decode cX10_refusal 20 = .ok (.iload_n 2, 1) := by decide +kernel
theorem dX10_refusal_21 : decode cX10_refusal 21 = .ok (.invokestatic 21, 3) := by decide +kernel
theorem dX10_refusal_24 : decode cX10_refusal 24 = .ok (.ifCond .ne 5, 3) := by decide +kernel
theorem dX10_refusal_27 : decode cX10_refusal 27 = .ok (.iconst 3, 1) := by decide +kernel
theorem dX10_refusal_28 : decode cX10_refusal 28 = .ok (.ireturn, 1) := by decide +kernel
theorem dX10_refusal_29 : decode cX10_refusal 29 = .ok (.aload_n 0, 1) := by decide +kernel
theorem dX10_refusal_30 : decode cX10_refusal 30 = .ok (.getfield 11, 3) := by decide +kernel
theorem dX10_refusal_33 : decode cX10_refusal 33 = .ok (.iload_n 1, 1) := by decide +kernel
theorem dX10_refusal_34 : decode cX10_refusal 34 = .ok (.aaload, 1) := by decide +kernel
theorem dX10_refusal_35 : decode cX10_refusal 35 = .ok (.getfield 29, 3) := by decide +kernel
theorem dX10_refusal_38 : decode cX10_refusal 38 = .ok (.iload_n 2, 1) := by decide +kernel
theorem dX10_refusal_39 : decode cX10_refusal 39 = .ok (.aaload, 1) := by decide +kernel
theorem dX10_refusal_40 : decode cX10_refusal 40 = .ok (.astore 4, 2) := by decide +kernel
theorem dX10_refusal_42 : decode cX10_refusal 42 = .ok (.aload 4, 2) := by decide +kernel
theorem dX10_refusal_44 : decode cX10_refusal 44 = .ok (.ifnonnull 5, 3) := by decide +kernel
theorem dX10_refusal_47 : decode cX10_refusal 47 = .ok (.iconst 4, 1) := by decide +kernel
theorem dX10_refusal_48 : decode cX10_refusal 48 = .ok (.ireturn, 1) := by decide +kernel
theorem dX10_refusal_49 : decode cX10_refusal 49 = .ok (.iload_n 3, 1) := by decide +kernel
theorem dX10_refusal_50 : decode cX10_refusal 50 = .ok (.ifCond .lt 17, 3) := by decide +kernel
theorem dX10_refusal_53 : decode cX10_refusal 53 = .ok (.iload_n 3, 1) := by decide +kernel
theorem dX10_refusal_54 : decode cX10_refusal 54 = .ok (.aload 4, 2) := by decide +kernel
theorem dX10_refusal_56 : decode cX10_refusal 56 = .ok (.getfield 33, 3) := by decide +kernel
theorem dX10_refusal_59 : decode cX10_refusal 59 = .ok (.arraylength, 1) := by decide +kernel
theorem dX10_refusal_60 : decode cX10_refusal 60 = .ok (.if_icmp .ge 7, 3) := by decide +kernel
theorem dX10_refusal_63 : decode cX10_refusal 63 = .ok (.iconst 0, 1) := by decide +kernel
theorem dX10_refusal_64 : decode cX10_refusal 64 = .ok (.goto 4, 3) := by decide +kernel
theorem dX10_refusal_67 : decode cX10_refusal 67 = .ok (.iconst 5, 1) := by decide +kernel
theorem dX10_refusal_68 : decode cX10_refusal 68 = .ok (.ireturn, 1) := by decide +kernel
theorem dX10_codeAt_0 : decode cX10_codeAt 0 = .ok (.iload_n 1, 1) := by decide +kernel
theorem dX10_codeAt_1 : decode cX10_codeAt 1 = .ok (.invokestatic 39, 3) := by decide +kernel
theorem dX10_codeAt_4 : decode cX10_codeAt 4 = .ok (.ifCond .ne 5, 3) := by decide +kernel
theorem dX10_codeAt_7 : decode cX10_codeAt 7 = .ok (.iconst (-1), 1) := by decide +kernel
theorem dX10_codeAt_8 : decode cX10_codeAt 8 = .ok (.ireturn, 1) := by decide +kernel
theorem dX10_codeAt_9 : decode cX10_codeAt 9 = .ok (.aload_n 0, 1) := by decide +kernel
theorem dX10_codeAt_10 : decode cX10_codeAt 10 = .ok (.iload_n 1, 1) := by decide +kernel
theorem dX10_codeAt_11 : decode cX10_codeAt 11 = .ok (.invokestatic 42, 3) := by decide +kernel
theorem dX10_codeAt_14 : decode cX10_codeAt 14 = .ok (.iload_n 1, 1) := by decide +kernel
theorem dX10_codeAt_15 : decode cX10_codeAt 15 = .ok (.invokestatic 46, 3) := by decide +kernel
theorem dX10_codeAt_18 : decode cX10_codeAt 18 = .ok (.invokevirtual 49, 3) := by decide +kernel
theorem dX10_codeAt_21 : decode cX10_codeAt 21 = .ok (.astore_n 2, 1) := by decide +kernel
theorem dX10_codeAt_22 : decode cX10_codeAt 22 = .ok (.aload_n 2, 1) := by decide +kernel
theorem dX10_codeAt_23 : decode cX10_codeAt 23 = .ok (.ifnull 27, 3) := by decide +kernel
theorem dX10_codeAt_26 : decode cX10_codeAt 26 = .ok (.iload_n 1, 1) := by decide +kernel
theorem dX10_codeAt_27 : decode cX10_codeAt 27 = .ok (.invokestatic 53, 3) := by decide +kernel
theorem dX10_codeAt_30 : decode cX10_codeAt 30 = .ok (.aload_n 2, 1) := by decide +kernel
theorem dX10_codeAt_31 : decode cX10_codeAt 31 = .ok (.getfield 33, 3) := by decide +kernel
theorem dX10_codeAt_34 : decode cX10_codeAt 34 = .ok (.arraylength, 1) := by decide +kernel
theorem dX10_codeAt_35 : decode cX10_codeAt 35 = .ok (.if_icmp .ge 15, 3) := by decide +kernel
theorem dX10_codeAt_38 : decode cX10_codeAt 38 = .ok (.aload_n 2, 1) := by decide +kernel
theorem dX10_codeAt_39 : decode cX10_codeAt 39 = .ok (.getfield 33, 3) := by decide +kernel
theorem dX10_codeAt_42 : decode cX10_codeAt 42 = .ok (.iload_n 1, 1) := by decide +kernel
theorem dX10_codeAt_43 : decode cX10_codeAt 43 = .ok (.invokestatic 53, 3) := by decide +kernel
theorem dX10_codeAt_46 : decode cX10_codeAt 46 = .ok (.iaload, 1) := by decide +kernel
theorem dX10_codeAt_47 : decode cX10_codeAt 47 = .ok (.goto 4, 3) := by decide +kernel
theorem dX10_codeAt_50 : decode cX10_codeAt 50 = .ok (.iconst (-1), 1) := by decide +kernel
theorem dX10_codeAt_51 : decode cX10_codeAt 51 = .ok (.ireturn, 1) := by decide +kernel
theorem dX10_setLayer_0 : decode cX10_setLayer 0 = .ok (.aload_n 0, 1) := by decide +kernel
theorem dX10_setLayer_1 : decode cX10_setLayer 1 = .ok (.getfield 11, 3) := by decide +kernel
theorem dX10_setLayer_4 : decode cX10_setLayer 4 = .ok (.iload_n 1, 1) := by decide +kernel
theorem dX10_setLayer_5 : decode cX10_setLayer 5 = .ok (.aaload, 1) := by decide +kernel
theorem dX10_setLayer_6 : decode cX10_setLayer 6 = .ok (.astore_n 3, 1) := by decide +kernel
theorem dX10_setLayer_7 : decode cX10_setLayer 7 = .ok (.aload_n 2, 1) := by decide +kernel
theorem dX10_setLayer_8 : decode cX10_setLayer 8 = .ok (.ifnull 11, 3) := by decide +kernel
theorem dX10_setLayer_11 : decode cX10_setLayer 11 = .ok (.aload_n 2, 1) := by decide +kernel
theorem dX10_setLayer_12 : decode cX10_setLayer 12 = .ok (.aload_n 0, 1) := by decide +kernel
theorem dX10_setLayer_13 : decode cX10_setLayer 13 = .ok (.getfield 17, 3) := by decide +kernel
theorem dX10_setLayer_16 : decode cX10_setLayer 16 = .ok (.invokevirtual 56, 3) := by decide +kernel
theorem dX10_setLayer_19 : decode cX10_setLayer 19 = .ok (.aload_n 0, 1) := by decide +kernel
theorem dX10_setLayer_20 : decode cX10_setLayer 20 = .ok (.getfield 11, 3) := by decide +kernel
theorem dX10_setLayer_23 : decode cX10_setLayer 23 = .ok (.iload_n 1, 1) := by decide +kernel
theorem dX10_setLayer_24 : decode cX10_setLayer 24 = .ok (.aload_n 2, 1) := by decide +kernel
theorem dX10_setLayer_25 : decode cX10_setLayer 25 = .ok (.aastore, 1) := by decide +kernel
theorem dX10_setLayer_26 : decode cX10_setLayer 26 = .ok (.aload_n 3, 1) := by decide +kernel
theorem dX10_setLayer_27 : decode cX10_setLayer 27 = .ok (.ifnull 11, 3) := by decide +kernel
theorem dX10_setLayer_30 : decode cX10_setLayer 30 = .ok (.aload_n 3, 1) := by decide +kernel
theorem dX10_setLayer_31 : decode cX10_setLayer 31 = .ok (.aload_n 0, 1) := by decide +kernel
theorem dX10_setLayer_32 : decode cX10_setLayer 32 = .ok (.getfield 17, 3) := by decide +kernel
theorem dX10_setLayer_35 : decode cX10_setLayer 35 = .ok (.invokevirtual 60, 3) := by decide +kernel
theorem dX10_setLayer_38 : decode cX10_setLayer 38 = .ok (.return_, 1) := by decide +kernel
theorem dX10_addLayer_0 : decode cX10_addLayer 0 = .ok (.aload_n 0, 1) := by decide +kernel
theorem dX10_addLayer_1 : decode cX10_addLayer 1 = .ok (.getfield 17, 3) := by decide +kernel
theorem dX10_addLayer_4 : decode cX10_addLayer 4 = .ok (.dup, 1) := by decide +kernel
theorem dX10_addLayer_5 : decode cX10_addLayer 5 = .ok (.getfield 63, 3) := by decide +kernel
theorem dX10_addLayer_8 : decode cX10_addLayer 8 = .ok (.iconst 1, 1) := by decide +kernel
theorem dX10_addLayer_9 : decode cX10_addLayer 9 = .ok (.iadd, 1) := by decide +kernel
theorem dX10_addLayer_10 : decode cX10_addLayer 10 = .ok (.putfield 63, 3) := by decide +kernel
theorem dX10_addLayer_13 : decode cX10_addLayer 13 = .ok (.aload_n 0, 1) := by decide +kernel
theorem dX10_addLayer_14 : decode cX10_addLayer 14 = .ok (.iload_n 1, 1) := by decide +kernel
theorem dX10_addLayer_15 : decode cX10_addLayer 15 = .ok (.new 9, 3) := by decide +kernel
theorem dX10_addLayer_18 : decode cX10_addLayer 18 = .ok (.dup, 1) := by decide +kernel
theorem dX10_addLayer_19 : decode cX10_addLayer 19 = .ok (.invokespecial 69, 3) := by decide +kernel
theorem dX10_addLayer_22 : decode cX10_addLayer 22 = .ok (.invokevirtual 70, 3) := by decide +kernel
theorem dX10_addLayer_25 : decode cX10_addLayer 25 = .ok (.return_, 1) := by decide +kernel
theorem dX10_addRow_0 : decode cX10_addRow 0 = .ok (.aload_n 0, 1) := by decide +kernel
theorem dX10_addRow_1 : decode cX10_addRow 1 = .ok (.iload_n 1, 1) := by decide +kernel
theorem dX10_addRow_2 : decode cX10_addRow 2 = .ok (.invokevirtual 74, 3) := by decide +kernel
theorem dX10_addRow_5 : decode cX10_addRow 5 = .ok (.astore 4, 2) := by decide +kernel
theorem dX10_addRow_7 : decode cX10_addRow 7 = .ok (.aload 4, 2) := by decide +kernel
theorem dX10_addRow_9 : decode cX10_addRow 9 = .ok (.ifnull 40, 3) := by decide +kernel
theorem dX10_addRow_12 : decode cX10_addRow 12 = .ok (.iload_n 3, 1) := by decide +kernel
theorem dX10_addRow_13 : decode cX10_addRow 13 = .ok (.ifCond .lt 36, 3) := by decide +kernel
theorem dX10_addRow_16 : decode cX10_addRow 16 = .ok (.aload_n 0, 1) := by decide +kernel
theorem dX10_addRow_17 : decode cX10_addRow 17 = .ok (.getfield 17, 3) := by decide +kernel
theorem dX10_addRow_20 : decode cX10_addRow 20 = .ok (.dup, 1) := by decide +kernel
theorem dX10_addRow_21 : decode cX10_addRow 21 = .ok (.getfield 77, 3) := by decide +kernel
theorem dX10_addRow_24 : decode cX10_addRow 24 = .ok (.iconst 1, 1) := by decide +kernel
theorem dX10_addRow_25 : decode cX10_addRow 25 = .ok (.iadd, 1) := by decide +kernel
theorem dX10_addRow_26 : decode cX10_addRow 26 = .ok (.putfield 77, 3) := by decide +kernel
theorem dX10_addRow_29 : decode cX10_addRow 29 = .ok (.aload 4, 2) := by decide +kernel
theorem dX10_addRow_31 : decode cX10_addRow 31 = .ok (.iload_n 2, 1) := by decide +kernel
theorem dX10_addRow_32 : decode cX10_addRow 32 = .ok (.new 34, 3) := by decide +kernel
theorem dX10_addRow_35 : decode cX10_addRow 35 = .ok (.dup, 1) := by decide +kernel
theorem dX10_addRow_36 : decode cX10_addRow 36 = .ok (.iload_n 3, 1) := by decide +kernel
theorem dX10_addRow_37 : decode cX10_addRow 37 = .ok (.newarray .int, 2) := by decide +kernel
theorem dX10_addRow_39 : decode cX10_addRow 39 = .ok (.invokespecial 80, 3) := by decide +kernel
theorem dX10_addRow_42 : decode cX10_addRow 42 = .ok (.aload_n 0, 1) := by decide +kernel
theorem dX10_addRow_43 : decode cX10_addRow 43 = .ok (.getfield 17, 3) := by decide +kernel
theorem dX10_addRow_46 : decode cX10_addRow 46 = .ok (.invokevirtual 83, 3) := by decide +kernel
theorem dX10_addRow_49 : decode cX10_addRow 49 = .ok (.return_, 1) := by decide +kernel
theorem dX10_take_0 : decode cX10_take 0 = .ok (.iconst 0, 1) := by decide +kernel
theorem dX10_take_1 : decode cX10_take 1 = .ok (.istore_n 2, 1) := by decide +kernel
theorem dX10_take_2 : decode cX10_take 2 = .ok (.iload_n 2, 1) := by decide +kernel
theorem dX10_take_3 : decode cX10_take 3 = .ok (.bipush 10, 2) := by decide +kernel
theorem dX10_take_5 : decode cX10_take 5 = .ok (.if_icmp .ge 20, 3) := by decide +kernel
theorem dX10_take_8 : decode cX10_take 8 = .ok (.aload_n 0, 1) := by decide +kernel
theorem dX10_take_9 : decode cX10_take 9 = .ok (.iload_n 2, 1) := by decide +kernel
theorem dX10_take_10 : decode cX10_take 10 = .ok (.aload_n 1, 1) := by decide +kernel
theorem dX10_take_11 : decode cX10_take 11 = .ok (.getfield 11, 3) := by decide +kernel
theorem dX10_take_14 : decode cX10_take 14 = .ok (.iload_n 2, 1) := by decide +kernel
theorem dX10_take_15 : decode cX10_take 15 = .ok (.aaload, 1) := by decide +kernel
theorem dX10_take_16 : decode cX10_take 16 = .ok (.invokevirtual 70, 3) := by decide +kernel
theorem dX10_take_19 : decode cX10_take 19 = .ok (.iinc 2 1, 3) := by decide +kernel
theorem dX10_take_22 : decode cX10_take 22 = .ok (.goto (-20), 3) := by decide +kernel
theorem dX10_take_25 : decode cX10_take 25 = .ok (.return_, 1) := by decide +kernel
theorem dX10_clear_0 : decode cX10_clear 0 = .ok (.iconst 0, 1) := by decide +kernel
theorem dX10_clear_1 : decode cX10_clear 1 = .ok (.istore_n 1, 1) := by decide +kernel
theorem dX10_clear_2 : decode cX10_clear 2 = .ok (.iload_n 1, 1) := by decide +kernel
theorem dX10_clear_3 : decode cX10_clear 3 = .ok (.bipush 10, 2) := by decide +kernel
theorem dX10_clear_5 : decode cX10_clear 5 = .ok (.if_icmp .ge 15, 3) := by decide +kernel
theorem dX10_clear_8 : decode cX10_clear 8 = .ok (.aload_n 0, 1) := by decide +kernel
theorem dX10_clear_9 : decode cX10_clear 9 = .ok (.iload_n 1, 1) := by decide +kernel
theorem dX10_clear_10 : decode cX10_clear 10 = .ok (.aconst_null, 1) := by decide +kernel
theorem dX10_clear_11 : decode cX10_clear 11 = .ok (.invokevirtual 70, 3) := by decide +kernel
theorem dX10_clear_14 : decode cX10_clear 14 = .ok (.iinc 1 1, 3) := by decide +kernel
theorem dX10_clear_17 : decode cX10_clear 17 = .ok (.goto (-15), 3) := by decide +kernel
theorem dX10_clear_20 : decode cX10_clear 20 = .ok (.return_, 1) := by decide +kernel
theorem dX10_change_0 : decode cX10_change 0 = .ok (.aload_n 0, 1) := by decide +kernel
theorem dX10_change_1 : decode cX10_change 1 = .ok (.iload_n 1, 1) := by decide +kernel
theorem dX10_change_2 : decode cX10_change 2 = .ok (.invokevirtual 87, 3) := by decide +kernel
theorem dX10_change_5 : decode cX10_change 5 = .ok (.istore_n 3, 1) := by decide +kernel
theorem dX10_change_6 : decode cX10_change 6 = .ok (.iload_n 3, 1) := by decide +kernel
theorem dX10_change_7 : decode cX10_change 7 = .ok (.iconst (-1), 1) := by decide +kernel
theorem dX10_change_8 : decode cX10_change 8 = .ok (.if_icmp .eq 8, 3) := by decide +kernel
theorem dX10_change_11 : decode cX10_change 11 = .ok (.iload_n 3, 1) := by decide +kernel
theorem dX10_change_12 : decode cX10_change 12 = .ok (.iload_n 2, 1) := by decide +kernel
theorem dX10_change_13 : decode cX10_change 13 = .ok (.if_icmp .ne 5, 3) := by decide +kernel
theorem dX10_change_16 : decode cX10_change 16 = .ok (.iconst 0, 1) := by decide +kernel
theorem dX10_change_17 : decode cX10_change 17 = .ok (.ireturn, 1) := by decide +kernel
theorem dX10_change_18 : decode cX10_change 18 = .ok (.aload_n 0, 1) := by decide +kernel
theorem dX10_change_19 : decode cX10_change 19 = .ok (.iload_n 1, 1) := by decide +kernel
theorem dX10_change_20 : decode cX10_change 20 = .ok (.invokestatic 42, 3) := by decide +kernel
theorem dX10_change_23 : decode cX10_change 23 = .ok (.iload_n 1, 1) := by decide +kernel
theorem dX10_change_24 : decode cX10_change 24 = .ok (.invokestatic 46, 3) := by decide +kernel
theorem dX10_change_27 : decode cX10_change 27 = .ok (.invokevirtual 90, 3) := by decide +kernel
theorem dX10_change_30 : decode cX10_change 30 = .ok (.astore 4, 2) := by decide +kernel
theorem dX10_change_32 : decode cX10_change 32 = .ok (.aload 4, 2) := by decide +kernel
theorem dX10_change_34 : decode cX10_change 34 = .ok (.ifnull 16, 3) := by decide +kernel
theorem dX10_change_37 : decode cX10_change 37 = .ok (.iload_n 1, 1) := by decide +kernel
theorem dX10_change_38 : decode cX10_change 38 = .ok (.invokestatic 53, 3) := by decide +kernel
theorem dX10_change_41 : decode cX10_change 41 = .ok (.aload 4, 2) := by decide +kernel
theorem dX10_change_43 : decode cX10_change 43 = .ok (.getfield 33, 3) := by decide +kernel
theorem dX10_change_46 : decode cX10_change 46 = .ok (.arraylength, 1) := by decide +kernel
theorem dX10_change_47 : decode cX10_change 47 = .ok (.if_icmp .lt 5, 3) := by decide +kernel
theorem dX10_change_50 : decode cX10_change 50 = .ok (.iconst 0, 1) := by decide +kernel
theorem dX10_change_51 : decode cX10_change 51 = .ok (.ireturn, 1) := by decide +kernel
theorem dX10_change_52 : decode cX10_change 52 = .ok (.aload 4, 2) := by decide +kernel
theorem dX10_change_54 : decode cX10_change 54 = .ok (.getfield 33, 3) := by decide +kernel
theorem dX10_change_57 : decode cX10_change 57 = .ok (.iload_n 1, 1) := by decide +kernel
theorem dX10_change_58 : decode cX10_change 58 = .ok (.invokestatic 53, 3) := by decide +kernel
theorem dX10_change_61 : decode cX10_change 61 = .ok (.iload_n 2, 1) := by decide +kernel
theorem dX10_change_62 : decode cX10_change 62 = .ok (.iastore, 1) := by decide +kernel
theorem dX10_change_63 : decode cX10_change 63 = .ok (.iconst 1, 1) := by decide +kernel
theorem dX10_change_64 : decode cX10_change 64 = .ok (.ireturn, 1) := by decide +kernel
theorem dX10_ownLayer_0 : decode cX10_ownLayer 0 = .ok (.aload_n 0, 1) := by decide +kernel
theorem dX10_ownLayer_1 : decode cX10_ownLayer 1 = .ok (.iload_n 1, 1) := by decide +kernel
theorem dX10_ownLayer_2 : decode cX10_ownLayer 2 = .ok (.invokevirtual 25, 3) := by decide +kernel
theorem dX10_ownLayer_5 : decode cX10_ownLayer 5 = .ok (.astore_n 2, 1) := by decide +kernel
theorem dX10_ownLayer_6 : decode cX10_ownLayer 6 = .ok (.aload_n 2, 1) := by decide +kernel
theorem dX10_ownLayer_7 : decode cX10_ownLayer 7 = .ok (.ifnull 11, 3) := by decide +kernel
theorem dX10_ownLayer_10 : decode cX10_ownLayer 10 = .ok (.aload_n 2, 1) := by decide +kernel
theorem dX10_ownLayer_11 : decode cX10_ownLayer 11 = .ok (.getfield 93, 3) := by decide +kernel
theorem dX10_ownLayer_14 : decode cX10_ownLayer 14 = .ok (.iconst 1, 1) := by decide +kernel
theorem dX10_ownLayer_15 : decode cX10_ownLayer 15 = .ok (.if_icmp .gt 5, 3) := by decide +kernel
theorem dX10_ownLayer_18 : decode cX10_ownLayer 18 = .ok (.aload_n 2, 1) := by decide +kernel
theorem dX10_ownLayer_19 : decode cX10_ownLayer 19 = .ok (.areturn, 1) := by decide +kernel
theorem dX10_ownLayer_20 : decode cX10_ownLayer 20 = .ok (.new 9, 3) := by decide +kernel
theorem dX10_ownLayer_23 : decode cX10_ownLayer 23 = .ok (.dup, 1) := by decide +kernel
theorem dX10_ownLayer_24 : decode cX10_ownLayer 24 = .ok (.invokespecial 69, 3) := by decide +kernel
theorem dX10_ownLayer_27 : decode cX10_ownLayer 27 = .ok (.astore_n 3, 1) := by decide +kernel
theorem dX10_ownLayer_28 : decode cX10_ownLayer 28 = .ok (.iconst 0, 1) := by decide +kernel
theorem dX10_ownLayer_29 : decode cX10_ownLayer 29 = .ok (.istore 4, 2) := by decide +kernel
theorem dX10_ownLayer_31 : decode cX10_ownLayer 31 = .ok (.iload 4, 2) := by decide +kernel
theorem dX10_ownLayer_33 : decode cX10_ownLayer 33 = .ok (.bipush 10, 2) := by decide +kernel
theorem dX10_ownLayer_35 : decode cX10_ownLayer 35 = .ok (.if_icmp .ge 23, 3) := by decide +kernel
theorem dX10_ownLayer_38 : decode cX10_ownLayer 38 = .ok (.aload_n 3, 1) := by decide +kernel
theorem dX10_ownLayer_39 : decode cX10_ownLayer 39 = .ok (.getfield 29, 3) := by decide +kernel
theorem dX10_ownLayer_42 : decode cX10_ownLayer 42 = .ok (.iload 4, 2) := by decide +kernel
theorem dX10_ownLayer_44 : decode cX10_ownLayer 44 = .ok (.aload_n 2, 1) := by decide +kernel
theorem dX10_ownLayer_45 : decode cX10_ownLayer 45 = .ok (.getfield 29, 3) := by decide +kernel
theorem dX10_ownLayer_48 : decode cX10_ownLayer 48 = .ok (.iload 4, 2) := by decide +kernel
theorem dX10_ownLayer_50 : decode cX10_ownLayer 50 = .ok (.aaload, 1) := by decide +kernel
theorem dX10_ownLayer_51 : decode cX10_ownLayer 51 = .ok (.aastore, 1) := by decide +kernel
theorem dX10_ownLayer_52 : decode cX10_ownLayer 52 = .ok (.iinc 4 1, 3) := by decide +kernel
theorem dX10_ownLayer_55 : decode cX10_ownLayer 55 = .ok (.goto (-24), 3) := by decide +kernel
theorem dX10_ownLayer_58 : decode cX10_ownLayer 58 = .ok (.aload_n 0, 1) := by decide +kernel
theorem dX10_ownLayer_59 : decode cX10_ownLayer 59 = .ok (.getfield 17, 3) := by decide +kernel
theorem dX10_ownLayer_62 : decode cX10_ownLayer 62 = .ok (.dup, 1) := by decide +kernel
theorem dX10_ownLayer_63 : decode cX10_ownLayer 63 = .ok (.getfield 63, 3) := by decide +kernel
theorem dX10_ownLayer_66 : decode cX10_ownLayer 66 = .ok (.iconst 1, 1) := by decide +kernel
theorem dX10_ownLayer_67 : decode cX10_ownLayer 67 = .ok (.iadd, 1) := by decide +kernel
theorem dX10_ownLayer_68 : decode cX10_ownLayer 68 = .ok (.putfield 63, 3) := by decide +kernel
theorem dX10_ownLayer_71 : decode cX10_ownLayer 71 = .ok (.aload_n 0, 1) := by decide +kernel
theorem dX10_ownLayer_72 : decode cX10_ownLayer 72 = .ok (.iload_n 1, 1) := by decide +kernel
theorem dX10_ownLayer_73 : decode cX10_ownLayer 73 = .ok (.aload_n 3, 1) := by decide +kernel
theorem dX10_ownLayer_74 : decode cX10_ownLayer 74 = .ok (.invokevirtual 70, 3) := by decide +kernel
theorem dX10_ownLayer_77 : decode cX10_ownLayer 77 = .ok (.aload_n 3, 1) := by decide +kernel
theorem dX10_ownLayer_78 : decode cX10_ownLayer 78 = .ok (.areturn, 1) := by decide +kernel
theorem dX10_ownRow_0 : decode cX10_ownRow 0 = .ok (.aload_n 0, 1) := by decide +kernel
theorem dX10_ownRow_1 : decode cX10_ownRow 1 = .ok (.iload_n 1, 1) := by decide +kernel
theorem dX10_ownRow_2 : decode cX10_ownRow 2 = .ok (.invokevirtual 74, 3) := by decide +kernel
theorem dX10_ownRow_5 : decode cX10_ownRow 5 = .ok (.astore_n 3, 1) := by decide +kernel
theorem dX10_ownRow_6 : decode cX10_ownRow 6 = .ok (.aload_n 0, 1) := by decide +kernel
theorem dX10_ownRow_7 : decode cX10_ownRow 7 = .ok (.iload_n 1, 1) := by decide +kernel
theorem dX10_ownRow_8 : decode cX10_ownRow 8 = .ok (.iload_n 2, 1) := by decide +kernel
theorem dX10_ownRow_9 : decode cX10_ownRow 9 = .ok (.invokevirtual 49, 3) := by decide +kernel
theorem dX10_ownRow_12 : decode cX10_ownRow 12 = .ok (.astore 4, 2) := by decide +kernel
theorem dX10_ownRow_14 : decode cX10_ownRow 14 = .ok (.aload_n 3, 1) := by decide +kernel
theorem dX10_ownRow_15 : decode cX10_ownRow 15 = .ok (.ifnull 17, 3) := by decide +kernel
theorem dX10_ownRow_18 : decode cX10_ownRow 18 = .ok (.aload 4, 2) := by decide +kernel
theorem dX10_ownRow_20 : decode cX10_ownRow 20 = .ok (.ifnull 12, 3) := by decide +kernel
theorem dX10_ownRow_23 : decode cX10_ownRow 23 = .ok (.aload 4, 2) := by decide +kernel
theorem dX10_ownRow_25 : decode cX10_ownRow 25 = .ok (.getfield 96, 3) := by decide +kernel
theorem dX10_ownRow_28 : decode cX10_ownRow 28 = .ok (.iconst 1, 1) := by decide +kernel
theorem dX10_ownRow_29 : decode cX10_ownRow 29 = .ok (.if_icmp .gt 6, 3) := by decide +kernel
theorem dX10_ownRow_32 : decode cX10_ownRow 32 = .ok (.aload 4, 2) := by decide +kernel
theorem dX10_ownRow_34 : decode cX10_ownRow 34 = .ok (.areturn, 1) := by decide +kernel
theorem dX10_ownRow_35 : decode cX10_ownRow 35 = .ok (.new 34, 3) := by decide +kernel
theorem dX10_ownRow_38 : decode cX10_ownRow 38 = .ok (.dup, 1) := by decide +kernel
theorem dX10_ownRow_39 : decode cX10_ownRow 39 = .ok (.aload 4, 2) := by decide +kernel
theorem dX10_ownRow_41 : decode cX10_ownRow 41 = .ok (.getfield 33, 3) := by decide +kernel
theorem dX10_ownRow_44 : decode cX10_ownRow 44 = .ok (.invokevirtual 97, 3) := by decide +kernel
theorem dX10_ownRow_47 : decode cX10_ownRow 47 = .ok (.checkcast 98, 3) := by decide +kernel
theorem dX10_ownRow_50 : decode cX10_ownRow 50 = .ok (.invokespecial 80, 3) := by decide +kernel
theorem dX10_ownRow_53 : decode cX10_ownRow 53 = .ok (.astore 5, 2) := by decide +kernel
theorem dX10_ownRow_55 : decode cX10_ownRow 55 = .ok (.aload_n 0, 1) := by decide +kernel
theorem dX10_ownRow_56 : decode cX10_ownRow 56 = .ok (.getfield 17, 3) := by decide +kernel
theorem dX10_ownRow_59 : decode cX10_ownRow 59 = .ok (.dup, 1) := by decide +kernel
theorem dX10_ownRow_60 : decode cX10_ownRow 60 = .ok (.getfield 77, 3) := by decide +kernel
theorem dX10_ownRow_63 : decode cX10_ownRow 63 = .ok (.iconst 1, 1) := by decide +kernel
theorem dX10_ownRow_64 : decode cX10_ownRow 64 = .ok (.iadd, 1) := by decide +kernel
theorem dX10_ownRow_65 : decode cX10_ownRow 65 = .ok (.putfield 77, 3) := by decide +kernel
theorem dX10_ownRow_68 : decode cX10_ownRow 68 = .ok (.aload_n 3, 1) := by decide +kernel
theorem dX10_ownRow_69 : decode cX10_ownRow 69 = .ok (.iload_n 2, 1) := by decide +kernel
theorem dX10_ownRow_70 : decode cX10_ownRow 70 = .ok (.aload 5, 2) := by decide +kernel
theorem dX10_ownRow_72 : decode cX10_ownRow 72 = .ok (.aload_n 0, 1) := by decide +kernel
theorem dX10_ownRow_73 : decode cX10_ownRow 73 = .ok (.getfield 17, 3) := by decide +kernel
theorem dX10_ownRow_76 : decode cX10_ownRow 76 = .ok (.invokevirtual 83, 3) := by decide +kernel
theorem dX10_ownRow_79 : decode cX10_ownRow 79 = .ok (.aload 5, 2) := by decide +kernel
theorem dX10_ownRow_81 : decode cX10_ownRow 81 = .ok (.areturn, 1) := by decide +kernel
end
section
/-! the words of the tables that the methods ask (laid by a program) -/
theorem tw_0 : (.selects yX10_ownLayer.cls yX10_ownLayer yX10_ownLayer : Cond) ∈ TG := TG_in 0 (by decide +kernel) (by decide +kernel)
theorem tw_1 : (.selects yX10_ownRow.cls yX10_ownRow yX10_ownRow : Cond) ∈ TG := TG_in 1 (by decide +kernel) (by decide +kernel)
theorem tw_2 : (.selects yX11_codeIn.cls yX11_codeIn yX11_codeIn : Cond) ∈ TG := TG_in 2 (by decide +kernel) (by decide +kernel)
theorem tw_3 : (.selects yX11_slotsKeeping.cls yX11_slotsKeeping yX11_slotsKeeping : Cond) ∈ TG := TG_in 3 (by decide +kernel) (by decide +kernel)
theorem tw_4 : (.selects yX11_readBox.cls yX11_readBox yX11_readBox : Cond) ∈ TG := TG_in 4 (by decide +kernel) (by decide +kernel)
theorem tw_5 : (.selects yX1_readRow.cls yX1_readRow yX1_readRow : Cond) ∈ TG := TG_in 5 (by decide +kernel) (by decide +kernel)
theorem tw_6 : (.selects yX11_findParts.cls yX11_findParts yX11_findParts : Cond) ∈ TG := TG_in 6 (by decide +kernel) (by decide +kernel)
theorem tw_7 : (.selects yX6_gather.cls yX6_gather yX6_gather : Cond) ∈ TG := TG_in 7 (by decide +kernel) (by decide +kernel)
theorem tw_8 : (.selects yX6_freeBelow.cls yX6_freeBelow yX6_freeBelow : Cond) ∈ TG := TG_in 8 (by decide +kernel) (by decide +kernel)
theorem tw_9 : (.selects yX11_noteFall.cls yX11_noteFall yX11_noteFall : Cond) ∈ TG := TG_in 9 (by decide +kernel) (by decide +kernel)
theorem tw_10 : (.selects yX3_spread.cls yX3_spread yX3_spread : Cond) ∈ TG := TG_in 10 (by decide +kernel) (by decide +kernel)
theorem tw_11 : (.selects yX9_reach.cls yX9_reach yX9_reach : Cond) ∈ TG := TG_in 11 (by decide +kernel) (by decide +kernel)
theorem tw_12 : (.selects yX9_leave.cls yX9_leave yX9_leave : Cond) ∈ TG := TG_in 12 (by decide +kernel) (by decide +kernel)
theorem tw_13 : (.selects yX11_seekWay.cls yX11_seekWay yX11_seekWay : Cond) ∈ TG := TG_in 13 (by decide +kernel) (by decide +kernel)
theorem tw_15 : (.selects yX12_times.cls yX12_times yX12_times : Cond) ∈ TG := TG_in 15 (by decide +kernel) (by decide +kernel)
theorem tw_16 : (.selects yX12_newLayer.cls yX12_newLayer yX12_newLayer : Cond) ∈ TG := TG_in 16 (by decide +kernel) (by decide +kernel)
theorem tw_17 : (.selects yX12_holdsOf.cls yX12_holdsOf yX12_holdsOf : Cond) ∈ TG := TG_in 17 (by decide +kernel) (by decide +kernel)
theorem tw_18 : (.selects yX12_aloneLayer.cls yX12_aloneLayer yX12_aloneLayer : Cond) ∈ TG := TG_in 18 (by decide +kernel) (by decide +kernel)
theorem tw_19 : (.selects yX12_newRow.cls yX12_newRow yX12_newRow : Cond) ∈ TG := TG_in 19 (by decide +kernel) (by decide +kernel)
theorem tw_20 : (.selects yX12_meets.cls yX12_meets yX12_meets : Cond) ∈ TG := TG_in 20 (by decide +kernel) (by decide +kernel)
theorem tw_21 : (.selects yX12_isThere.cls yX12_isThere yX12_isThere : Cond) ∈ TG := TG_in 21 (by decide +kernel) (by decide +kernel)
theorem tw_22 : (.selects yX12_isKindOrOpen.cls yX12_isKindOrOpen yX12_isKindOrOpen : Cond) ∈ TG := TG_in 22 (by decide +kernel) (by decide +kernel)
theorem tw_23 : (.selects yX12_cell.cls yX12_cell yX12_cell : Cond) ∈ TG := TG_in 23 (by decide +kernel) (by decide +kernel)
theorem tw_24 : (.selects yX12_change.cls yX12_change yX12_change : Cond) ∈ TG := TG_in 24 (by decide +kernel) (by decide +kernel)
theorem tw_25 : (.selects yX12_aloneRow.cls yX12_aloneRow yX12_aloneRow : Cond) ∈ TG := TG_in 25 (by decide +kernel) (by decide +kernel)
theorem tw_26 : (.selects yX12_holdsOfRow.cls yX12_holdsOfRow yX12_holdsOfRow : Cond) ∈ TG := TG_in 26 (by decide +kernel) (by decide +kernel)
theorem tw_27 : (.selects yX12_kindAt.cls yX12_kindAt yX12_kindAt : Cond) ∈ TG := TG_in 27 (by decide +kernel) (by decide +kernel)
theorem tw_28 : (.selects yX12_copy.cls yX12_copy yX12_copy : Cond) ∈ TG := TG_in 28 (by decide +kernel) (by decide +kernel)
theorem tw_29 : (.selects yX12_isIn.cls yX12_isIn yX12_isIn : Cond) ∈ TG := TG_in 29 (by decide +kernel) (by decide +kernel)
theorem tw_30 : (.selects yX12_kindOf.cls yX12_kindOf yX12_kindOf : Cond) ∈ TG := TG_in 30 (by decide +kernel) (by decide +kernel)
theorem tw_31 : (.selects yX12_changeAt.cls yX12_changeAt yX12_changeAt : Cond) ∈ TG := TG_in 31 (by decide +kernel) (by decide +kernel)
theorem tw_32 : (.selects yX12_turnOf.cls yX12_turnOf yX12_turnOf : Cond) ∈ TG := TG_in 32 (by decide +kernel) (by decide +kernel)
theorem tw_33 : (.selects yX12_kindBeside.cls yX12_kindBeside yX12_kindBeside : Cond) ∈ TG := TG_in 33 (by decide +kernel) (by decide +kernel)
theorem tw_34 : (.selects yX12_reads.cls yX12_reads yX12_reads : Cond) ∈ TG := TG_in 34 (by decide +kernel) (by decide +kernel)
theorem tw_35 : (.selects yX12_along.cls yX12_along yX12_along : Cond) ∈ TG := TG_in 35 (by decide +kernel) (by decide +kernel)
theorem tw_36 : (.selects yX12_findParts.cls yX12_findParts yX12_findParts : Cond) ∈ TG := TG_in 36 (by decide +kernel) (by decide +kernel)
theorem tw_37 : (.selects yX12_isLoose.cls yX12_isLoose yX12_isLoose : Cond) ∈ TG := TG_in 37 (by decide +kernel) (by decide +kernel)
theorem tw_38 : (.selects yX12_falls.cls yX12_falls yX12_falls : Cond) ∈ TG := TG_in 38 (by decide +kernel) (by decide +kernel)
theorem tw_39 : (.selects yX12_nextToFall.cls yX12_nextToFall yX12_nextToFall : Cond) ∈ TG := TG_in 39 (by decide +kernel) (by decide +kernel)
theorem tw_40 : (.selects yX12_fall.cls yX12_fall yX12_fall : Cond) ∈ TG := TG_in 40 (by decide +kernel) (by decide +kernel)
theorem tw_41 : (.selects yX12_loadOf.cls yX12_loadOf yX12_loadOf : Cond) ∈ TG := TG_in 41 (by decide +kernel) (by decide +kernel)
theorem tw_42 : (.selects yX12_shines.cls yX12_shines yX12_shines : Cond) ∈ TG := TG_in 42 (by decide +kernel) (by decide +kernel)
theorem tw_43 : (.selects yX12_isStand.cls yX12_isStand yX12_isStand : Cond) ∈ TG := TG_in 43 (by decide +kernel) (by decide +kernel)
theorem tw_44 : (.selects yX12_isFree.cls yX12_isFree yX12_isFree : Cond) ∈ TG := TG_in 44 (by decide +kernel) (by decide +kernel)
theorem tw_45 : (.selects yX12_goes.cls yX12_goes yX12_goes : Cond) ∈ TG := TG_in 45 (by decide +kernel) (by decide +kernel)
theorem tw_46 : (.selects yX12_findBlocks.cls yX12_findBlocks yX12_findBlocks : Cond) ∈ TG := TG_in 46 (by decide +kernel) (by decide +kernel)
theorem tw_47 : (.selects yX12_goesIn.cls yX12_goesIn yX12_goesIn : Cond) ∈ TG := TG_in 47 (by decide +kernel) (by decide +kernel)
theorem tw_49 : (.initialized "StackYard" : Cond) ∈ TG := TG_in 49 (by decide +kernel) (by decide +kernel)
theorem tw_50 : (.initialized "StackYard$Ledger" : Cond) ∈ TG := TG_in 50 (by decide +kernel) (by decide +kernel)
theorem tw_51 : (.initialized "StackYard$Kinds" : Cond) ∈ TG := TG_in 51 (by decide +kernel) (by decide +kernel)
theorem tw_52 : (.initialized "StackYard$Box" : Cond) ∈ TG := TG_in 52 (by decide +kernel) (by decide +kernel)
theorem tw_53 : (.initialized "StackYard$Yard" : Cond) ∈ TG := TG_in 53 (by decide +kernel) (by decide +kernel)
theorem tw_54 : (.initialized "StackYard$Grid" : Cond) ∈ TG := TG_in 54 (by decide +kernel) (by decide +kernel)
theorem tw_55 : (.initialized "StackYard$Parts" : Cond) ∈ TG := TG_in 55 (by decide +kernel) (by decide +kernel)
theorem tw_56 : (.initialized "StackYard$Lamps" : Cond) ∈ TG := TG_in 56 (by decide +kernel) (by decide +kernel)
theorem tw_57 : (.initialized "StackYard$Walk" : Cond) ∈ TG := TG_in 57 (by decide +kernel) (by decide +kernel)
theorem tw_58 : (.initialized "StackYardModel" : Cond) ∈ TG := TG_in 58 (by decide +kernel) (by decide +kernel)
theorem tw_59 : (.initialized "StackYard$Turns" : Cond) ∈ TG := TG_in 59 (by decide +kernel) (by decide +kernel)
theorem tw_60 : (.initialized "StackYard$Layer" : Cond) ∈ TG := TG_in 60 (by decide +kernel) (by decide +kernel)
theorem tw_61 : (.initialized "StackYard$Row" : Cond) ∈ TG := TG_in 61 (by decide +kernel) (by decide +kernel)
theorem tw_62 : (.initialized "java/lang/Math" : Cond) ∈ TG := TG_in 62 (by decide +kernel) (by decide +kernel)
theorem tw_67 : (.classLink RL 8 "StackYard" : Cond) ∈ TG := TG_in 67 (by decide +kernel) (by decide +kernel)
theorem tw_69 : (.methodLink RL 15 yX11_init : Cond) ∈ TG := TG_in 69 (by decide +kernel) (by decide +kernel)
theorem tw_70 : (.instanceMethod yX11_init : Cond) ∈ TG := TG_in 70 (by decide +kernel) (by decide +kernel)
theorem tw_71 : (.code yX11_init cX11_init 2 (none) : Cond) ∈ TG := TG_in 71 (by decide +kernel) (by decide +kernel)
theorem tw_72 : (.methodLink RX11 3 Lib.objectInit : Cond) ∈ TG := TG_in 72 (by decide +kernel) (by decide +kernel)
theorem tw_73 : (.instanceMethod Lib.objectInit : Cond) ∈ TG := TG_in 73 (by decide +kernel) (by decide +kernel)
theorem tw_74 : (.code Lib.objectInit ⟨#[0xb1]⟩ 1 none : Cond) ∈ TG := TG_in 74 (by decide +kernel) (by decide +kernel)
theorem tw_75 : (.classLink RX11 9 "StackYard$Ledger" : Cond) ∈ TG := TG_in 75 (by decide +kernel) (by decide +kernel)
theorem tw_77 : (.methodLinkNest RX11 11 yX5_init "StackYard" : Cond) ∈ NWL := NWL_in 77 (by decide +kernel) (by decide +kernel)
theorem tw_78 : (.instanceMethod yX5_init : Cond) ∈ TG := TG_in 78 (by decide +kernel) (by decide +kernel)
theorem tw_79 : (.code yX5_init cX5_init 1 (none) : Cond) ∈ TG := TG_in 79 (by decide +kernel) (by decide +kernel)
theorem tw_80 : (.methodLink RX5 1 Lib.objectInit : Cond) ∈ TG := TG_in 80 (by decide +kernel) (by decide +kernel)
theorem tw_81 : (.fieldLink RX10 63 "StackYard$Ledger" "layersMade" "I" : Cond) ∈ TG := TG_in 81 (by decide +kernel) (by decide +kernel)
theorem tw_82 : (.fieldLink RX11 174 "StackYard$Ledger" "layersMade" "I" : Cond) ∈ TG := TG_in 82 (by decide +kernel) (by decide +kernel)
theorem tw_83 : (.fieldLink RX10 77 "StackYard$Ledger" "rowsMade" "I" : Cond) ∈ TG := TG_in 83 (by decide +kernel) (by decide +kernel)
theorem tw_84 : (.fieldLink RX11 177 "StackYard$Ledger" "rowsMade" "I" : Cond) ∈ TG := TG_in 84 (by decide +kernel) (by decide +kernel)
theorem tw_85 : (.fieldLink RX4 21 "StackYard$Ledger" "layersHeld" "I" : Cond) ∈ TG := TG_in 85 (by decide +kernel) (by decide +kernel)
theorem tw_86 : (.fieldLink RX11 180 "StackYard$Ledger" "layersHeld" "I" : Cond) ∈ TG := TG_in 86 (by decide +kernel) (by decide +kernel)
theorem tw_87 : (.fieldLink RX7 17 "StackYard$Ledger" "rowsHeld" "I" : Cond) ∈ TG := TG_in 87 (by decide +kernel) (by decide +kernel)
theorem tw_88 : (.fieldLink RX11 183 "StackYard$Ledger" "rowsHeld" "I" : Cond) ∈ TG := TG_in 88 (by decide +kernel) (by decide +kernel)
theorem tw_98 : (.classLink RX11 16 "StackYard$Kinds" : Cond) ∈ TG := TG_in 98 (by decide +kernel) (by decide +kernel)
theorem tw_100 : (.methodLinkNest RX11 18 yX2_init "StackYard" : Cond) ∈ NWL := NWL_in 100 (by decide +kernel) (by decide +kernel)
theorem tw_101 : (.instanceMethod yX2_init : Cond) ∈ TG := TG_in 101 (by decide +kernel) (by decide +kernel)
theorem tw_102 : (.code yX2_init cX2_init 1 (none) : Cond) ∈ TG := TG_in 102 (by decide +kernel) (by decide +kernel)
theorem tw_103 : (.methodLink RX2 3 Lib.objectInit : Cond) ∈ TG := TG_in 103 (by decide +kernel) (by decide +kernel)
theorem tw_104 : (.fieldLink RX2 9 "StackYard$Kinds" "weights" "[I" : Cond) ∈ TG := TG_in 104 (by decide +kernel) (by decide +kernel)
theorem tw_105 : (.fieldLink RX2 15 "StackYard$Kinds" "strengths" "[I" : Cond) ∈ TG := TG_in 105 (by decide +kernel) (by decide +kernel)
theorem tw_106 : (.fieldLink RX2 18 "StackYard$Kinds" "lights" "[I" : Cond) ∈ TG := TG_in 106 (by decide +kernel) (by decide +kernel)
theorem tw_107 : (.fieldLink RX2 21 "StackYard$Kinds" "losses" "[I" : Cond) ∈ TG := TG_in 107 (by decide +kernel) (by decide +kernel)
theorem tw_108 : (.fieldLink RX2 24 "StackYard$Kinds" "hanging" "[Z" : Cond) ∈ TG := TG_in 108 (by decide +kernel) (by decide +kernel)
theorem tw_109 : (.fieldLink RX2 28 "StackYard$Kinds" "number" "I" : Cond) ∈ TG := TG_in 109 (by decide +kernel) (by decide +kernel)
theorem tw_110 : (.fieldLink RX11 186 "StackYard$Kinds" "number" "I" : Cond) ∈ TG := TG_in 110 (by decide +kernel) (by decide +kernel)
theorem tw_124 : (.arrayClass .int : Cond) ∈ TG := TG_in 124 (by decide +kernel) (by decide +kernel)
theorem tw_125 : (.arrayClass .boolean : Cond) ∈ TG := TG_in 125 (by decide +kernel) (by decide +kernel)
theorem tw_126 : (.classLink RX11 23 "StackYard$Box" : Cond) ∈ TG := TG_in 126 (by decide +kernel) (by decide +kernel)
theorem tw_128 : (.methodLinkNest RX11 25 yX0_init "StackYard" : Cond) ∈ NWL := NWL_in 128 (by decide +kernel) (by decide +kernel)
theorem tw_129 : (.instanceMethod yX0_init : Cond) ∈ TG := TG_in 129 (by decide +kernel) (by decide +kernel)
theorem tw_130 : (.code yX0_init cX0_init 1 (none) : Cond) ∈ TG := TG_in 130 (by decide +kernel) (by decide +kernel)
theorem tw_131 : (.methodLink RX0 3 Lib.objectInit : Cond) ∈ TG := TG_in 131 (by decide +kernel) (by decide +kernel)
theorem tw_132 : (.fieldLink RX0 9 "StackYard$Box" "from" "[I" : Cond) ∈ TG := TG_in 132 (by decide +kernel) (by decide +kernel)
theorem tw_133 : (.fieldLink RX0 15 "StackYard$Box" "upTo" "[I" : Cond) ∈ TG := TG_in 133 (by decide +kernel) (by decide +kernel)
theorem tw_139 : (.classLink RX11 30 "StackYard$Yard" : Cond) ∈ TG := TG_in 139 (by decide +kernel) (by decide +kernel)
theorem tw_140 : (.arrayOver (.object "StackYard$Yard") : Cond) ∈ TG := TG_in 140 (by decide +kernel) (by decide +kernel)
theorem tw_142 : (.methodLink RX11 36 yX10_init : Cond) ∈ TG := TG_in 142 (by decide +kernel) (by decide +kernel)
theorem tw_143 : (.instanceMethod yX10_init : Cond) ∈ TG := TG_in 143 (by decide +kernel) (by decide +kernel)
theorem tw_144 : (.code yX10_init cX10_init 2 (none) : Cond) ∈ TG := TG_in 144 (by decide +kernel) (by decide +kernel)
theorem tw_145 : (.methodLink RX10 3 Lib.objectInit : Cond) ∈ TG := TG_in 145 (by decide +kernel) (by decide +kernel)
theorem tw_146 : (.classLink RX10 9 "StackYard$Layer" : Cond) ∈ TG := TG_in 146 (by decide +kernel) (by decide +kernel)
theorem tw_147 : (.arrayOver (.object "StackYard$Layer") : Cond) ∈ TG := TG_in 147 (by decide +kernel) (by decide +kernel)
theorem tw_148 : (.fieldLink RX10 17 "StackYard$Yard" "ledger" "LStackYard$Ledger;" : Cond) ∈ TG := TG_in 148 (by decide +kernel) (by decide +kernel)
theorem tw_149 : (.fieldLink RX10 11 "StackYard$Yard" "layers" "[LStackYard$Layer;" : Cond) ∈ TG := TG_in 149 (by decide +kernel) (by decide +kernel)
theorem tw_155 : (.classLink RX11 46 "StackYard$Grid" : Cond) ∈ TG := TG_in 155 (by decide +kernel) (by decide +kernel)
theorem tw_157 : (.methodLinkNest RX11 48 yX1_init "StackYard" : Cond) ∈ NWL := NWL_in 157 (by decide +kernel) (by decide +kernel)
theorem tw_158 : (.instanceMethod yX1_init : Cond) ∈ TG := TG_in 158 (by decide +kernel) (by decide +kernel)
theorem tw_159 : (.code yX1_init cX1_init 1 (none) : Cond) ∈ TG := TG_in 159 (by decide +kernel) (by decide +kernel)
theorem tw_160 : (.methodLink RX1 3 Lib.objectInit : Cond) ∈ TG := TG_in 160 (by decide +kernel) (by decide +kernel)
theorem tw_161 : (.fieldLink RX1 9 "StackYard$Grid" "codes" "[I" : Cond) ∈ TG := TG_in 161 (by decide +kernel) (by decide +kernel)
theorem tw_162 : (.fieldLink RX1 15 "StackYard$Grid" "listed" "[I" : Cond) ∈ TG := TG_in 162 (by decide +kernel) (by decide +kernel)
theorem tw_163 : (.fieldLink RX11 208 "StackYard$Grid" "listed" "[I" : Cond) ∈ TG := TG_in 163 (by decide +kernel) (by decide +kernel)
theorem tw_164 : (.fieldLink RX1 18 "StackYard$Grid" "blocks" "I" : Cond) ∈ TG := TG_in 164 (by decide +kernel) (by decide +kernel)
theorem tw_165 : (.fieldLink RX11 205 "StackYard$Grid" "blocks" "I" : Cond) ∈ TG := TG_in 165 (by decide +kernel) (by decide +kernel)
theorem tw_173 : (.classLink RX11 56 "StackYard$Parts" : Cond) ∈ TG := TG_in 173 (by decide +kernel) (by decide +kernel)
theorem tw_175 : (.methodLinkNest RX11 58 yX6_init "StackYard" : Cond) ∈ NWL := NWL_in 175 (by decide +kernel) (by decide +kernel)
theorem tw_176 : (.instanceMethod yX6_init : Cond) ∈ TG := TG_in 176 (by decide +kernel) (by decide +kernel)
theorem tw_177 : (.code yX6_init cX6_init 1 (none) : Cond) ∈ TG := TG_in 177 (by decide +kernel) (by decide +kernel)
theorem tw_178 : (.methodLink RX6 3 Lib.objectInit : Cond) ∈ TG := TG_in 178 (by decide +kernel) (by decide +kernel)
theorem tw_179 : (.fieldLink RX6 9 "StackYard$Parts" "labels" "[I" : Cond) ∈ TG := TG_in 179 (by decide +kernel) (by decide +kernel)
theorem tw_180 : (.fieldLink RX11 244 "StackYard$Parts" "labels" "[I" : Cond) ∈ TG := TG_in 180 (by decide +kernel) (by decide +kernel)
theorem tw_181 : (.fieldLink RX6 15 "StackYard$Parts" "members" "[I" : Cond) ∈ TG := TG_in 181 (by decide +kernel) (by decide +kernel)
theorem tw_182 : (.fieldLink RX6 18 "StackYard$Parts" "starts" "[I" : Cond) ∈ TG := TG_in 182 (by decide +kernel) (by decide +kernel)
theorem tw_183 : (.fieldLink RX6 21 "StackYard$Parts" "carried" "[I" : Cond) ∈ TG := TG_in 183 (by decide +kernel) (by decide +kernel)
theorem tw_184 : (.fieldLink RX6 24 "StackYard$Parts" "number" "I" : Cond) ∈ TG := TG_in 184 (by decide +kernel) (by decide +kernel)
theorem tw_185 : (.fieldLink RX11 243 "StackYard$Parts" "number" "I" : Cond) ∈ TG := TG_in 185 (by decide +kernel) (by decide +kernel)
theorem tw_197 : (.classLink RX11 63 "StackYard$Lamps" : Cond) ∈ TG := TG_in 197 (by decide +kernel) (by decide +kernel)
theorem tw_199 : (.methodLinkNest RX11 65 yX3_init "StackYard" : Cond) ∈ NWL := NWL_in 199 (by decide +kernel) (by decide +kernel)
theorem tw_200 : (.instanceMethod yX3_init : Cond) ∈ TG := TG_in 200 (by decide +kernel) (by decide +kernel)
theorem tw_201 : (.code yX3_init cX3_init 1 (none) : Cond) ∈ TG := TG_in 201 (by decide +kernel) (by decide +kernel)
theorem tw_202 : (.methodLink RX3 3 Lib.objectInit : Cond) ∈ TG := TG_in 202 (by decide +kernel) (by decide +kernel)
theorem tw_203 : (.fieldLink RX3 9 "StackYard$Lamps" "levels" "[I" : Cond) ∈ TG := TG_in 203 (by decide +kernel) (by decide +kernel)
theorem tw_204 : (.fieldLink RX11 293 "StackYard$Lamps" "levels" "[I" : Cond) ∈ TG := TG_in 204 (by decide +kernel) (by decide +kernel)
theorem tw_208 : (.classLink RX11 70 "StackYard$Walk" : Cond) ∈ TG := TG_in 208 (by decide +kernel) (by decide +kernel)
theorem tw_210 : (.methodLinkNest RX11 72 yX9_init "StackYard" : Cond) ∈ NWL := NWL_in 210 (by decide +kernel) (by decide +kernel)
theorem tw_211 : (.instanceMethod yX9_init : Cond) ∈ TG := TG_in 211 (by decide +kernel) (by decide +kernel)
theorem tw_212 : (.code yX9_init cX9_init 1 (none) : Cond) ∈ TG := TG_in 212 (by decide +kernel) (by decide +kernel)
theorem tw_213 : (.methodLink RX9 3 Lib.objectInit : Cond) ∈ TG := TG_in 213 (by decide +kernel) (by decide +kernel)
theorem tw_214 : (.fieldLink RX9 9 "StackYard$Walk" "distances" "[I" : Cond) ∈ TG := TG_in 214 (by decide +kernel) (by decide +kernel)
theorem tw_215 : (.fieldLink RX9 15 "StackYard$Walk" "queue" "[I" : Cond) ∈ TG := TG_in 215 (by decide +kernel) (by decide +kernel)
theorem tw_216 : (.fieldLink RX9 22 "StackYard$Walk" "reached" "I" : Cond) ∈ TG := TG_in 216 (by decide +kernel) (by decide +kernel)
theorem tw_224 : (.fieldLink RX11 12 "StackYard" "ledger" "LStackYard$Ledger;" : Cond) ∈ TG := TG_in 224 (by decide +kernel) (by decide +kernel)
theorem tw_225 : (.fieldLink RX11 19 "StackYard" "kinds" "LStackYard$Kinds;" : Cond) ∈ TG := TG_in 225 (by decide +kernel) (by decide +kernel)
theorem tw_226 : (.fieldLink RX11 26 "StackYard" "region" "LStackYard$Box;" : Cond) ∈ TG := TG_in 226 (by decide +kernel) (by decide +kernel)
theorem tw_227 : (.fieldLink RX11 32 "StackYard" "yards" "[LStackYard$Yard;" : Cond) ∈ TG := TG_in 227 (by decide +kernel) (by decide +kernel)
theorem tw_228 : (.fieldLink RX11 39 "StackYard" "slots" "[LStackYard$Yard;" : Cond) ∈ TG := TG_in 228 (by decide +kernel) (by decide +kernel)
theorem tw_229 : (.fieldLink RX11 42 "StackYard" "keeping" "[Z" : Cond) ∈ TG := TG_in 229 (by decide +kernel) (by decide +kernel)
theorem tw_230 : (.fieldLink RX11 49 "StackYard" "grid" "LStackYard$Grid;" : Cond) ∈ TG := TG_in 230 (by decide +kernel) (by decide +kernel)
theorem tw_231 : (.fieldLink RX11 53 "StackYard" "second" "LStackYard$Grid;" : Cond) ∈ TG := TG_in 231 (by decide +kernel) (by decide +kernel)
theorem tw_232 : (.fieldLink RX11 59 "StackYard" "lumps" "LStackYard$Parts;" : Cond) ∈ TG := TG_in 232 (by decide +kernel) (by decide +kernel)
theorem tw_233 : (.fieldLink RX11 66 "StackYard" "lamps" "LStackYard$Lamps;" : Cond) ∈ TG := TG_in 233 (by decide +kernel) (by decide +kernel)
theorem tw_234 : (.fieldLink RX11 73 "StackYard" "walk" "LStackYard$Walk;" : Cond) ∈ TG := TG_in 234 (by decide +kernel) (by decide +kernel)
theorem tw_235 : (.fieldLink RX11 77 "StackYard" "fallenFrom" "[I" : Cond) ∈ TG := TG_in 235 (by decide +kernel) (by decide +kernel)
theorem tw_236 : (.fieldLink RX11 81 "StackYard" "fallenSteps" "[I" : Cond) ∈ TG := TG_in 236 (by decide +kernel) (by decide +kernel)
theorem tw_237 : (.fieldLink RX11 84 "StackYard" "fell" "I" : Cond) ∈ TG := TG_in 237 (by decide +kernel) (by decide +kernel)
theorem tw_267 : (.methodLink RL 19 yX11_kind : Cond) ∈ TG := TG_in 267 (by decide +kernel) (by decide +kernel)
theorem tw_268 : (.instanceMethod yX11_kind : Cond) ∈ TG := TG_in 268 (by decide +kernel) (by decide +kernel)
theorem tw_269 : (.selects yX11_kind.cls yX11_kind yX11_kind : Cond) ∈ TG := TG_in 269 (by decide +kernel) (by decide +kernel)
theorem tw_270 : (.code yX11_kind cX11_kind 6 (some .int) : Cond) ∈ TG := TG_in 270 (by decide +kernel) (by decide +kernel)
theorem tw_271 : (.methodLink RX11 88 yX2_add : Cond) ∈ TG := TG_in 271 (by decide +kernel) (by decide +kernel)
theorem tw_272 : (.instanceMethod yX2_add : Cond) ∈ TG := TG_in 272 (by decide +kernel) (by decide +kernel)
theorem tw_273 : (.selects yX2_add.cls yX2_add yX2_add : Cond) ∈ TG := TG_in 273 (by decide +kernel) (by decide +kernel)
theorem tw_274 : (.code yX2_add cX2_add 6 (some .int) : Cond) ∈ TG := TG_in 274 (by decide +kernel) (by decide +kernel)
theorem tw_275 : (.constant RX2 32 1000000 : Cond) ∈ TG := TG_in 275 (by decide +kernel) (by decide +kernel)
theorem tw_276 : (.methodLink RL 24 yX11_product : Cond) ∈ TG := TG_in 276 (by decide +kernel) (by decide +kernel)
theorem tw_277 : (.instanceMethod yX11_product : Cond) ∈ TG := TG_in 277 (by decide +kernel) (by decide +kernel)
theorem tw_278 : (.selects yX11_product.cls yX11_product yX11_product : Cond) ∈ TG := TG_in 278 (by decide +kernel) (by decide +kernel)
theorem tw_279 : (.code yX11_product cX11_product 3 (some .int) : Cond) ∈ TG := TG_in 279 (by decide +kernel) (by decide +kernel)
theorem tw_280 : (.methodLink RX11 92 yX8_isTurn : Cond) ∈ TG := TG_in 280 (by decide +kernel) (by decide +kernel)
theorem tw_281 : (.static yX8_isTurn : Cond) ∈ TG := TG_in 281 (by decide +kernel) (by decide +kernel)
theorem tw_282 : (.code yX8_isTurn cX8_isTurn 1 (some .boolean) : Cond) ∈ TG := TG_in 282 (by decide +kernel) (by decide +kernel)
theorem tw_283 : (.methodLink RX11 98 yX8_after : Cond) ∈ TG := TG_in 283 (by decide +kernel) (by decide +kernel)
theorem tw_284 : (.static yX8_after : Cond) ∈ TG := TG_in 284 (by decide +kernel) (by decide +kernel)
theorem tw_285 : (.code yX8_after cX8_after 8 (some .int) : Cond) ∈ TG := TG_in 285 (by decide +kernel) (by decide +kernel)
theorem tw_286 : (.methodLink RX8 18 yX8_axisOf : Cond) ∈ TG := TG_in 286 (by decide +kernel) (by decide +kernel)
theorem tw_287 : (.static yX8_axisOf : Cond) ∈ TG := TG_in 287 (by decide +kernel) (by decide +kernel)
theorem tw_288 : (.code yX8_axisOf cX8_axisOf 2 (some .int) : Cond) ∈ TG := TG_in 288 (by decide +kernel) (by decide +kernel)
theorem tw_289 : (.fieldLink RX8 9 "StackYard$Turns" "AXES" "[I" : Cond) ∈ TG := TG_in 289 (by decide +kernel) (by decide +kernel)
theorem tw_291 : (.methodLink RX8 22 yX8_signOf : Cond) ∈ TG := TG_in 291 (by decide +kernel) (by decide +kernel)
theorem tw_292 : (.static yX8_signOf : Cond) ∈ TG := TG_in 292 (by decide +kernel) (by decide +kernel)
theorem tw_293 : (.code yX8_signOf cX8_signOf 4 (some .int) : Cond) ∈ TG := TG_in 293 (by decide +kernel) (by decide +kernel)
theorem tw_294 : (.fieldLink RX8 15 "StackYard$Turns" "SIGNS" "[I" : Cond) ∈ TG := TG_in 294 (by decide +kernel) (by decide +kernel)
theorem tw_296 : (.methodLink RL 28 yX11_layer : Cond) ∈ TG := TG_in 296 (by decide +kernel) (by decide +kernel)
theorem tw_297 : (.instanceMethod yX11_layer : Cond) ∈ TG := TG_in 297 (by decide +kernel) (by decide +kernel)
theorem tw_298 : (.selects yX11_layer.cls yX11_layer yX11_layer : Cond) ∈ TG := TG_in 298 (by decide +kernel) (by decide +kernel)
theorem tw_299 : (.code yX11_layer cX11_layer 3 (some .boolean) : Cond) ∈ TG := TG_in 299 (by decide +kernel) (by decide +kernel)
theorem tw_300 : (.methodLink RX11 102 yX11_isYard : Cond) ∈ TG := TG_in 300 (by decide +kernel) (by decide +kernel)
theorem tw_301 : (.static yX11_isYard : Cond) ∈ TG := TG_in 301 (by decide +kernel) (by decide +kernel)
theorem tw_302 : (.code yX11_isYard cX11_isYard 1 (some .boolean) : Cond) ∈ TG := TG_in 302 (by decide +kernel) (by decide +kernel)
theorem tw_303 : (.methodLink RX11 105 yX11_isPlace : Cond) ∈ TG := TG_in 303 (by decide +kernel) (by decide +kernel)
theorem tw_304 : (.static yX11_isPlace : Cond) ∈ TG := TG_in 304 (by decide +kernel) (by decide +kernel)
theorem tw_305 : (.code yX11_isPlace cX11_isPlace 1 (some .boolean) : Cond) ∈ TG := TG_in 305 (by decide +kernel) (by decide +kernel)
theorem tw_306 : (.methodLink RX11 108 yX10_addLayer : Cond) ∈ TG := TG_in 306 (by decide +kernel) (by decide +kernel)
theorem tw_307 : (.instanceMethod yX10_addLayer : Cond) ∈ TG := TG_in 307 (by decide +kernel) (by decide +kernel)
theorem tw_308 : (.selects yX10_addLayer.cls yX10_addLayer yX10_addLayer : Cond) ∈ TG := TG_in 308 (by decide +kernel) (by decide +kernel)
theorem tw_309 : (.code yX10_addLayer cX10_addLayer 2 (none) : Cond) ∈ TG := TG_in 309 (by decide +kernel) (by decide +kernel)
theorem tw_311 : (.methodLinkNest RX10 69 yX4_init "StackYard" : Cond) ∈ NWL := NWL_in 311 (by decide +kernel) (by decide +kernel)
theorem tw_312 : (.instanceMethod yX4_init : Cond) ∈ TG := TG_in 312 (by decide +kernel) (by decide +kernel)
theorem tw_313 : (.code yX4_init cX4_init 1 (none) : Cond) ∈ TG := TG_in 313 (by decide +kernel) (by decide +kernel)
theorem tw_314 : (.methodLink RX4 3 Lib.objectInit : Cond) ∈ TG := TG_in 314 (by decide +kernel) (by decide +kernel)
theorem tw_315 : (.classLink RX4 9 "StackYard$Row" : Cond) ∈ TG := TG_in 315 (by decide +kernel) (by decide +kernel)
theorem tw_316 : (.arrayOver (.object "StackYard$Row") : Cond) ∈ TG := TG_in 316 (by decide +kernel) (by decide +kernel)
theorem tw_317 : (.fieldLink RX4 11 "StackYard$Layer" "rows" "[LStackYard$Row;" : Cond) ∈ TG := TG_in 317 (by decide +kernel) (by decide +kernel)
theorem tw_318 : (.fieldLink RX10 29 "StackYard$Layer" "rows" "[LStackYard$Row;" : Cond) ∈ TG := TG_in 318 (by decide +kernel) (by decide +kernel)
theorem tw_319 : (.fieldLink RX11 168 "StackYard$Layer" "rows" "[LStackYard$Row;" : Cond) ∈ TG := TG_in 319 (by decide +kernel) (by decide +kernel)
theorem tw_320 : (.fieldLink RX4 17 "StackYard$Layer" "holders" "I" : Cond) ∈ TG := TG_in 320 (by decide +kernel) (by decide +kernel)
theorem tw_321 : (.fieldLink RX10 93 "StackYard$Layer" "holders" "I" : Cond) ∈ TG := TG_in 321 (by decide +kernel) (by decide +kernel)
theorem tw_327 : (.methodLink RX10 70 yX10_setLayer : Cond) ∈ TG := TG_in 327 (by decide +kernel) (by decide +kernel)
theorem tw_328 : (.instanceMethod yX10_setLayer : Cond) ∈ TG := TG_in 328 (by decide +kernel) (by decide +kernel)
theorem tw_329 : (.selects yX10_setLayer.cls yX10_setLayer yX10_setLayer : Cond) ∈ TG := TG_in 329 (by decide +kernel) (by decide +kernel)
theorem tw_330 : (.code yX10_setLayer cX10_setLayer 4 (none) : Cond) ∈ TG := TG_in 330 (by decide +kernel) (by decide +kernel)
theorem tw_331 : (.methodLink RX10 56 yX4_hold : Cond) ∈ TG := TG_in 331 (by decide +kernel) (by decide +kernel)
theorem tw_332 : (.instanceMethod yX4_hold : Cond) ∈ TG := TG_in 332 (by decide +kernel) (by decide +kernel)
theorem tw_333 : (.selects yX4_hold.cls yX4_hold yX4_hold : Cond) ∈ TG := TG_in 333 (by decide +kernel) (by decide +kernel)
theorem tw_334 : (.code yX4_hold cX4_hold 3 (none) : Cond) ∈ TG := TG_in 334 (by decide +kernel) (by decide +kernel)
theorem tw_335 : (.methodLink RX4 26 yX7_hold : Cond) ∈ TG := TG_in 335 (by decide +kernel) (by decide +kernel)
theorem tw_336 : (.instanceMethod yX7_hold : Cond) ∈ TG := TG_in 336 (by decide +kernel) (by decide +kernel)
theorem tw_337 : (.selects yX7_hold.cls yX7_hold yX7_hold : Cond) ∈ TG := TG_in 337 (by decide +kernel) (by decide +kernel)
theorem tw_338 : (.code yX7_hold cX7_hold 2 (none) : Cond) ∈ TG := TG_in 338 (by decide +kernel) (by decide +kernel)
theorem tw_339 : (.methodLink RX10 60 yX4_release : Cond) ∈ TG := TG_in 339 (by decide +kernel) (by decide +kernel)
theorem tw_340 : (.instanceMethod yX4_release : Cond) ∈ TG := TG_in 340 (by decide +kernel) (by decide +kernel)
theorem tw_341 : (.selects yX4_release.cls yX4_release yX4_release : Cond) ∈ TG := TG_in 341 (by decide +kernel) (by decide +kernel)
theorem tw_342 : (.code yX4_release cX4_release 3 (none) : Cond) ∈ TG := TG_in 342 (by decide +kernel) (by decide +kernel)
theorem tw_343 : (.methodLink RX4 30 yX7_release : Cond) ∈ TG := TG_in 343 (by decide +kernel) (by decide +kernel)
theorem tw_344 : (.instanceMethod yX7_release : Cond) ∈ TG := TG_in 344 (by decide +kernel) (by decide +kernel)
theorem tw_345 : (.selects yX7_release.cls yX7_release yX7_release : Cond) ∈ TG := TG_in 345 (by decide +kernel) (by decide +kernel)
theorem tw_346 : (.code yX7_release cX7_release 2 (none) : Cond) ∈ TG := TG_in 346 (by decide +kernel) (by decide +kernel)
theorem tw_347 : (.methodLink RL 33 yX11_row : Cond) ∈ TG := TG_in 347 (by decide +kernel) (by decide +kernel)
theorem tw_348 : (.instanceMethod yX11_row : Cond) ∈ TG := TG_in 348 (by decide +kernel) (by decide +kernel)
theorem tw_349 : (.selects yX11_row.cls yX11_row yX11_row : Cond) ∈ TG := TG_in 349 (by decide +kernel) (by decide +kernel)
theorem tw_350 : (.code yX11_row cX11_row 5 (some .int) : Cond) ∈ TG := TG_in 350 (by decide +kernel) (by decide +kernel)
theorem tw_351 : (.methodLink RX11 112 yX10_layerAt : Cond) ∈ TG := TG_in 351 (by decide +kernel) (by decide +kernel)
theorem tw_352 : (.instanceMethod yX10_layerAt : Cond) ∈ TG := TG_in 352 (by decide +kernel) (by decide +kernel)
theorem tw_353 : (.selects yX10_layerAt.cls yX10_layerAt yX10_layerAt : Cond) ∈ TG := TG_in 353 (by decide +kernel) (by decide +kernel)
theorem tw_354 : (.code yX10_layerAt cX10_layerAt 2 (some (.object "StackYard$Layer")) : Cond) ∈ TG := TG_in 354 (by decide +kernel) (by decide +kernel)
theorem tw_355 : (.methodLinkNest RX10 21 yX11_isPlace "StackYard" : Cond) ∈ NWL := NWL_in 355 (by decide +kernel) (by decide +kernel)
theorem tw_356 : (.methodLink RX11 116 yX10_addRow : Cond) ∈ TG := TG_in 356 (by decide +kernel) (by decide +kernel)
theorem tw_357 : (.instanceMethod yX10_addRow : Cond) ∈ TG := TG_in 357 (by decide +kernel) (by decide +kernel)
theorem tw_358 : (.selects yX10_addRow.cls yX10_addRow yX10_addRow : Cond) ∈ TG := TG_in 358 (by decide +kernel) (by decide +kernel)
theorem tw_359 : (.code yX10_addRow cX10_addRow 5 (none) : Cond) ∈ TG := TG_in 359 (by decide +kernel) (by decide +kernel)
theorem tw_360 : (.methodLink RX10 74 yX10_ownLayer : Cond) ∈ TG := TG_in 360 (by decide +kernel) (by decide +kernel)
theorem tw_362 : (.instanceMethod yX10_ownLayer : Cond) ∈ TG := TG_in 362 (by decide +kernel) (by decide +kernel)
theorem tw_363 : (.code yX10_ownLayer cX10_ownLayer 5 (some (.object "StackYard$Layer")) : Cond) ∈ TG := TG_in 363 (by decide +kernel) (by decide +kernel)
theorem tw_364 : (.methodLink RX10 25 yX10_layerAt : Cond) ∈ TG := TG_in 364 (by decide +kernel) (by decide +kernel)
theorem tw_365 : (.classLink RX10 34 "StackYard$Row" : Cond) ∈ TG := TG_in 365 (by decide +kernel) (by decide +kernel)
theorem tw_367 : (.methodLink RX10 80 yX7_init : Cond) ∈ TG := TG_in 367 (by decide +kernel) (by decide +kernel)
theorem tw_368 : (.instanceMethod yX7_init : Cond) ∈ TG := TG_in 368 (by decide +kernel) (by decide +kernel)
theorem tw_369 : (.code yX7_init cX7_init 2 (none) : Cond) ∈ TG := TG_in 369 (by decide +kernel) (by decide +kernel)
theorem tw_370 : (.methodLink RX7 1 Lib.objectInit : Cond) ∈ TG := TG_in 370 (by decide +kernel) (by decide +kernel)
theorem tw_371 : (.fieldLink RX7 7 "StackYard$Row" "cells" "[I" : Cond) ∈ TG := TG_in 371 (by decide +kernel) (by decide +kernel)
theorem tw_372 : (.fieldLink RX1 36 "StackYard$Row" "cells" "[I" : Cond) ∈ TG := TG_in 372 (by decide +kernel) (by decide +kernel)
theorem tw_373 : (.fieldLink RX10 33 "StackYard$Row" "cells" "[I" : Cond) ∈ TG := TG_in 373 (by decide +kernel) (by decide +kernel)
theorem tw_374 : (.fieldLink RX7 13 "StackYard$Row" "holders" "I" : Cond) ∈ TG := TG_in 374 (by decide +kernel) (by decide +kernel)
theorem tw_375 : (.fieldLink RX10 96 "StackYard$Row" "holders" "I" : Cond) ∈ TG := TG_in 375 (by decide +kernel) (by decide +kernel)
theorem tw_381 : (.methodLink RX10 83 yX4_setRow : Cond) ∈ TG := TG_in 381 (by decide +kernel) (by decide +kernel)
theorem tw_382 : (.instanceMethod yX4_setRow : Cond) ∈ TG := TG_in 382 (by decide +kernel) (by decide +kernel)
theorem tw_383 : (.selects yX4_setRow.cls yX4_setRow yX4_setRow : Cond) ∈ TG := TG_in 383 (by decide +kernel) (by decide +kernel)
theorem tw_384 : (.code yX4_setRow cX4_setRow 5 (none) : Cond) ∈ TG := TG_in 384 (by decide +kernel) (by decide +kernel)
theorem tw_385 : (.methodLink RL 38 yX11_less : Cond) ∈ TG := TG_in 385 (by decide +kernel) (by decide +kernel)
theorem tw_386 : (.instanceMethod yX11_less : Cond) ∈ TG := TG_in 386 (by decide +kernel) (by decide +kernel)
theorem tw_387 : (.selects yX11_less.cls yX11_less yX11_less : Cond) ∈ TG := TG_in 387 (by decide +kernel) (by decide +kernel)
theorem tw_388 : (.code yX11_less cX11_less 3 (some .boolean) : Cond) ∈ TG := TG_in 388 (by decide +kernel) (by decide +kernel)
theorem tw_389 : (.methodLink RX11 120 yX10_setLayer : Cond) ∈ TG := TG_in 389 (by decide +kernel) (by decide +kernel)
theorem tw_390 : (.methodLink RL 42 yX11_put : Cond) ∈ TG := TG_in 390 (by decide +kernel) (by decide +kernel)
theorem tw_391 : (.instanceMethod yX11_put : Cond) ∈ TG := TG_in 391 (by decide +kernel) (by decide +kernel)
theorem tw_392 : (.selects yX11_put.cls yX11_put yX11_put : Cond) ∈ TG := TG_in 392 (by decide +kernel) (by decide +kernel)
theorem tw_393 : (.code yX11_put cX11_put 8 (some .int) : Cond) ∈ TG := TG_in 393 (by decide +kernel) (by decide +kernel)
theorem tw_394 : (.methodLink RX11 124 yX11_there : Cond) ∈ TG := TG_in 394 (by decide +kernel) (by decide +kernel)
theorem tw_395 : (.instanceMethod yX11_there : Cond) ∈ TG := TG_in 395 (by decide +kernel) (by decide +kernel)
theorem tw_396 : (.selects yX11_there.cls yX11_there yX11_there : Cond) ∈ TG := TG_in 396 (by decide +kernel) (by decide +kernel)
theorem tw_397 : (.code yX11_there cX11_there 5 (some .int) : Cond) ∈ TG := TG_in 397 (by decide +kernel) (by decide +kernel)
theorem tw_398 : (.methodLink RX11 152 yX10_refusal : Cond) ∈ TG := TG_in 398 (by decide +kernel) (by decide +kernel)
theorem tw_399 : (.instanceMethod yX10_refusal : Cond) ∈ TG := TG_in 399 (by decide +kernel) (by decide +kernel)
theorem tw_400 : (.selects yX10_refusal.cls yX10_refusal yX10_refusal : Cond) ∈ TG := TG_in 400 (by decide +kernel) (by decide +kernel)
theorem tw_401 : (.code yX10_refusal cX10_refusal 5 (some .int) : Cond) ∈ TG := TG_in 401 (by decide +kernel) (by decide +kernel)
theorem tw_402 : (.methodLink RX11 128 yX2_isKindOrOpen : Cond) ∈ TG := TG_in 402 (by decide +kernel) (by decide +kernel)
theorem tw_403 : (.instanceMethod yX2_isKindOrOpen : Cond) ∈ TG := TG_in 403 (by decide +kernel) (by decide +kernel)
theorem tw_404 : (.selects yX2_isKindOrOpen.cls yX2_isKindOrOpen yX2_isKindOrOpen : Cond) ∈ TG := TG_in 404 (by decide +kernel) (by decide +kernel)
theorem tw_405 : (.code yX2_isKindOrOpen cX2_isKindOrOpen 2 (some .boolean) : Cond) ∈ TG := TG_in 405 (by decide +kernel) (by decide +kernel)
theorem tw_406 : (.methodLink RX2 33 yX2_isKind : Cond) ∈ TG := TG_in 406 (by decide +kernel) (by decide +kernel)
theorem tw_407 : (.instanceMethod yX2_isKind : Cond) ∈ TG := TG_in 407 (by decide +kernel) (by decide +kernel)
theorem tw_408 : (.selects yX2_isKind.cls yX2_isKind yX2_isKind : Cond) ∈ TG := TG_in 408 (by decide +kernel) (by decide +kernel)
theorem tw_409 : (.code yX2_isKind cX2_isKind 2 (some .boolean) : Cond) ∈ TG := TG_in 409 (by decide +kernel) (by decide +kernel)
theorem tw_410 : (.methodLink RX11 131 yX11_cellOf : Cond) ∈ TG := TG_in 410 (by decide +kernel) (by decide +kernel)
theorem tw_411 : (.static yX11_cellOf : Cond) ∈ TG := TG_in 411 (by decide +kernel) (by decide +kernel)
theorem tw_412 : (.code yX11_cellOf cX11_cellOf 3 (some .int) : Cond) ∈ TG := TG_in 412 (by decide +kernel) (by decide +kernel)
theorem tw_413 : (.methodLink RX11 135 yX10_codeAt : Cond) ∈ TG := TG_in 413 (by decide +kernel) (by decide +kernel)
theorem tw_414 : (.instanceMethod yX10_codeAt : Cond) ∈ TG := TG_in 414 (by decide +kernel) (by decide +kernel)
theorem tw_415 : (.selects yX10_codeAt.cls yX10_codeAt yX10_codeAt : Cond) ∈ TG := TG_in 415 (by decide +kernel) (by decide +kernel)
theorem tw_416 : (.code yX10_codeAt cX10_codeAt 3 (some .int) : Cond) ∈ TG := TG_in 416 (by decide +kernel) (by decide +kernel)
theorem tw_417 : (.methodLinkNest RX10 39 yX11_isCell "StackYard" : Cond) ∈ NWL := NWL_in 417 (by decide +kernel) (by decide +kernel)
theorem tw_418 : (.static yX11_isCell : Cond) ∈ TG := TG_in 418 (by decide +kernel) (by decide +kernel)
theorem tw_419 : (.code yX11_isCell cX11_isCell 1 (some .boolean) : Cond) ∈ TG := TG_in 419 (by decide +kernel) (by decide +kernel)
theorem tw_420 : (.methodLinkNest RX10 42 yX11_zOf "StackYard" : Cond) ∈ NWL := NWL_in 420 (by decide +kernel) (by decide +kernel)
theorem tw_421 : (.static yX11_zOf : Cond) ∈ TG := TG_in 421 (by decide +kernel) (by decide +kernel)
theorem tw_422 : (.code yX11_zOf cX11_zOf 1 (some .int) : Cond) ∈ TG := TG_in 422 (by decide +kernel) (by decide +kernel)
theorem tw_423 : (.methodLinkNest RX10 46 yX11_xOf "StackYard" : Cond) ∈ NWL := NWL_in 423 (by decide +kernel) (by decide +kernel)
theorem tw_424 : (.static yX11_xOf : Cond) ∈ TG := TG_in 424 (by decide +kernel) (by decide +kernel)
theorem tw_425 : (.code yX11_xOf cX11_xOf 1 (some .int) : Cond) ∈ TG := TG_in 425 (by decide +kernel) (by decide +kernel)
theorem tw_426 : (.methodLink RX10 49 yX10_rowAt : Cond) ∈ TG := TG_in 426 (by decide +kernel) (by decide +kernel)
theorem tw_427 : (.instanceMethod yX10_rowAt : Cond) ∈ TG := TG_in 427 (by decide +kernel) (by decide +kernel)
theorem tw_428 : (.selects yX10_rowAt.cls yX10_rowAt yX10_rowAt : Cond) ∈ TG := TG_in 428 (by decide +kernel) (by decide +kernel)
theorem tw_429 : (.code yX10_rowAt cX10_rowAt 4 (some (.object "StackYard$Row")) : Cond) ∈ TG := TG_in 429 (by decide +kernel) (by decide +kernel)
theorem tw_430 : (.methodLinkNest RX10 53 yX11_wOf "StackYard" : Cond) ∈ NWL := NWL_in 430 (by decide +kernel) (by decide +kernel)
theorem tw_431 : (.static yX11_wOf : Cond) ∈ TG := TG_in 431 (by decide +kernel) (by decide +kernel)
theorem tw_432 : (.code yX11_wOf cX11_wOf 1 (some .int) : Cond) ∈ TG := TG_in 432 (by decide +kernel) (by decide +kernel)
theorem tw_433 : (.methodLink RX11 139 yX11_turnOf : Cond) ∈ TG := TG_in 433 (by decide +kernel) (by decide +kernel)
theorem tw_434 : (.static yX11_turnOf : Cond) ∈ TG := TG_in 434 (by decide +kernel) (by decide +kernel)
theorem tw_435 : (.code yX11_turnOf cX11_turnOf 1 (some .int) : Cond) ∈ TG := TG_in 435 (by decide +kernel) (by decide +kernel)
theorem tw_436 : (.methodLink RX11 142 yX11_codeOf : Cond) ∈ TG := TG_in 436 (by decide +kernel) (by decide +kernel)
theorem tw_437 : (.static yX11_codeOf : Cond) ∈ TG := TG_in 437 (by decide +kernel) (by decide +kernel)
theorem tw_438 : (.code yX11_codeOf cX11_codeOf 2 (some .int) : Cond) ∈ TG := TG_in 438 (by decide +kernel) (by decide +kernel)
theorem tw_439 : (.methodLink RX11 145 yX10_change : Cond) ∈ TG := TG_in 439 (by decide +kernel) (by decide +kernel)
theorem tw_440 : (.instanceMethod yX10_change : Cond) ∈ TG := TG_in 440 (by decide +kernel) (by decide +kernel)
theorem tw_441 : (.selects yX10_change.cls yX10_change yX10_change : Cond) ∈ TG := TG_in 441 (by decide +kernel) (by decide +kernel)
theorem tw_442 : (.code yX10_change cX10_change 5 (some .boolean) : Cond) ∈ TG := TG_in 442 (by decide +kernel) (by decide +kernel)
theorem tw_443 : (.methodLink RX10 87 yX10_codeAt : Cond) ∈ TG := TG_in 443 (by decide +kernel) (by decide +kernel)
theorem tw_444 : (.methodLink RX10 90 yX10_ownRow : Cond) ∈ TG := TG_in 444 (by decide +kernel) (by decide +kernel)
theorem tw_446 : (.instanceMethod yX10_ownRow : Cond) ∈ TG := TG_in 446 (by decide +kernel) (by decide +kernel)
theorem tw_447 : (.code yX10_ownRow cX10_ownRow 6 (some (.object "StackYard$Row")) : Cond) ∈ TG := TG_in 447 (by decide +kernel) (by decide +kernel)
theorem tw_448 : (.methodLink RX10 97 ⟨"[I", "clone", "()Ljava/lang/Object;"⟩ : Cond) ∈ TG := TG_in 448 (by decide +kernel) (by decide +kernel)
theorem tw_449 : (.sameMethod "[I" "java/lang/Object" "clone" "()Ljava/lang/Object;" : Cond) ∈ TG := TG_in 449 (by decide +kernel) (by decide +kernel)
theorem tw_450 : (.native ⟨"java/lang/Object", "clone", "()Ljava/lang/Object;"⟩ : Cond) ∈ TG := TG_in 450 (by decide +kernel) (by decide +kernel)
theorem tw_451 : (.instanceMethod ⟨"java/lang/Object", "clone", "()Ljava/lang/Object;"⟩ : Cond) ∈ TG := TG_in 451 (by decide +kernel) (by decide +kernel)
theorem tw_452 : (.selects "[I" ⟨"[I", "clone", "()Ljava/lang/Object;"⟩ ⟨"java/lang/Object", "clone", "()Ljava/lang/Object;"⟩ : Cond) ∈ TG := TG_in 452 (by decide +kernel) (by decide +kernel)
theorem tw_453 : (.castable "[I" "java/lang/Cloneable" : Cond) ∈ NWL := NWL_in 453 (by decide +kernel) (by decide +kernel)
theorem tw_454 : (.classLink RX10 98 "[I" : Cond) ∈ TG := TG_in 454 (by decide +kernel) (by decide +kernel)
theorem tw_455 : (.methodLink RL 47 yX11_face : Cond) ∈ TG := TG_in 455 (by decide +kernel) (by decide +kernel)
theorem tw_456 : (.instanceMethod yX11_face : Cond) ∈ TG := TG_in 456 (by decide +kernel) (by decide +kernel)
theorem tw_457 : (.selects yX11_face.cls yX11_face yX11_face : Cond) ∈ TG := TG_in 457 (by decide +kernel) (by decide +kernel)
theorem tw_458 : (.code yX11_face cX11_face 9 (some .int) : Cond) ∈ TG := TG_in 458 (by decide +kernel) (by decide +kernel)
theorem tw_459 : (.methodLink RX11 149 yX11_kindOf : Cond) ∈ TG := TG_in 459 (by decide +kernel) (by decide +kernel)
theorem tw_460 : (.static yX11_kindOf : Cond) ∈ TG := TG_in 460 (by decide +kernel) (by decide +kernel)
theorem tw_461 : (.code yX11_kindOf cX11_kindOf 1 (some .int) : Cond) ∈ TG := TG_in 461 (by decide +kernel) (by decide +kernel)
theorem tw_462 : (.methodLink RL 51 yX11_there : Cond) ∈ TG := TG_in 462 (by decide +kernel) (by decide +kernel)
theorem tw_463 : (.methodLink RL 55 yX11_at : Cond) ∈ TG := TG_in 463 (by decide +kernel) (by decide +kernel)
theorem tw_464 : (.instanceMethod yX11_at : Cond) ∈ TG := TG_in 464 (by decide +kernel) (by decide +kernel)
theorem tw_465 : (.selects yX11_at.cls yX11_at yX11_at : Cond) ∈ TG := TG_in 465 (by decide +kernel) (by decide +kernel)
theorem tw_466 : (.code yX11_at cX11_at 6 (some .int) : Cond) ∈ TG := TG_in 466 (by decide +kernel) (by decide +kernel)
theorem tw_467 : (.methodLink RX11 155 yX11_codeIn : Cond) ∈ TG := TG_in 467 (by decide +kernel) (by decide +kernel)
theorem tw_469 : (.instanceMethod yX11_codeIn : Cond) ∈ TG := TG_in 469 (by decide +kernel) (by decide +kernel)
theorem tw_470 : (.code yX11_codeIn cX11_codeIn 5 (some .int) : Cond) ∈ TG := TG_in 470 (by decide +kernel) (by decide +kernel)
theorem tw_471 : (.methodLink RL 59 yX11_turnAt : Cond) ∈ TG := TG_in 471 (by decide +kernel) (by decide +kernel)
theorem tw_472 : (.instanceMethod yX11_turnAt : Cond) ∈ TG := TG_in 472 (by decide +kernel) (by decide +kernel)
theorem tw_473 : (.selects yX11_turnAt.cls yX11_turnAt yX11_turnAt : Cond) ∈ TG := TG_in 473 (by decide +kernel) (by decide +kernel)
theorem tw_474 : (.code yX11_turnAt cX11_turnAt 6 (some .int) : Cond) ∈ TG := TG_in 474 (by decide +kernel) (by decide +kernel)
theorem tw_475 : (.methodLink RL 63 yX11_share : Cond) ∈ TG := TG_in 475 (by decide +kernel) (by decide +kernel)
theorem tw_476 : (.instanceMethod yX11_share : Cond) ∈ TG := TG_in 476 (by decide +kernel) (by decide +kernel)
theorem tw_477 : (.selects yX11_share.cls yX11_share yX11_share : Cond) ∈ TG := TG_in 477 (by decide +kernel) (by decide +kernel)
theorem tw_478 : (.code yX11_share cX11_share 3 (some .boolean) : Cond) ∈ TG := TG_in 478 (by decide +kernel) (by decide +kernel)
theorem tw_479 : (.methodLink RX11 158 yX10_take : Cond) ∈ TG := TG_in 479 (by decide +kernel) (by decide +kernel)
theorem tw_480 : (.instanceMethod yX10_take : Cond) ∈ TG := TG_in 480 (by decide +kernel) (by decide +kernel)
theorem tw_481 : (.selects yX10_take.cls yX10_take yX10_take : Cond) ∈ TG := TG_in 481 (by decide +kernel) (by decide +kernel)
theorem tw_482 : (.code yX10_take cX10_take 3 (none) : Cond) ∈ TG := TG_in 482 (by decide +kernel) (by decide +kernel)
theorem tw_483 : (.methodLink RL 67 yX11_keep : Cond) ∈ TG := TG_in 483 (by decide +kernel) (by decide +kernel)
theorem tw_484 : (.instanceMethod yX11_keep : Cond) ∈ TG := TG_in 484 (by decide +kernel) (by decide +kernel)
theorem tw_485 : (.selects yX11_keep.cls yX11_keep yX11_keep : Cond) ∈ TG := TG_in 485 (by decide +kernel) (by decide +kernel)
theorem tw_486 : (.code yX11_keep cX11_keep 3 (some .boolean) : Cond) ∈ TG := TG_in 486 (by decide +kernel) (by decide +kernel)
theorem tw_487 : (.methodLink RX11 162 yX11_isSlot : Cond) ∈ TG := TG_in 487 (by decide +kernel) (by decide +kernel)
theorem tw_488 : (.static yX11_isSlot : Cond) ∈ TG := TG_in 488 (by decide +kernel) (by decide +kernel)
theorem tw_489 : (.code yX11_isSlot cX11_isSlot 1 (some .boolean) : Cond) ∈ TG := TG_in 489 (by decide +kernel) (by decide +kernel)
theorem tw_490 : (.methodLink RL 71 yX11_back : Cond) ∈ TG := TG_in 490 (by decide +kernel) (by decide +kernel)
theorem tw_491 : (.instanceMethod yX11_back : Cond) ∈ TG := TG_in 491 (by decide +kernel) (by decide +kernel)
theorem tw_492 : (.selects yX11_back.cls yX11_back yX11_back : Cond) ∈ TG := TG_in 492 (by decide +kernel) (by decide +kernel)
theorem tw_493 : (.code yX11_back cX11_back 3 (some .boolean) : Cond) ∈ TG := TG_in 493 (by decide +kernel) (by decide +kernel)
theorem tw_494 : (.methodLink RL 75 yX11_forget : Cond) ∈ TG := TG_in 494 (by decide +kernel) (by decide +kernel)
theorem tw_495 : (.instanceMethod yX11_forget : Cond) ∈ TG := TG_in 495 (by decide +kernel) (by decide +kernel)
theorem tw_496 : (.selects yX11_forget.cls yX11_forget yX11_forget : Cond) ∈ TG := TG_in 496 (by decide +kernel) (by decide +kernel)
theorem tw_497 : (.code yX11_forget cX11_forget 2 (some .boolean) : Cond) ∈ TG := TG_in 497 (by decide +kernel) (by decide +kernel)
theorem tw_498 : (.methodLink RX11 165 yX10_clear : Cond) ∈ TG := TG_in 498 (by decide +kernel) (by decide +kernel)
theorem tw_499 : (.instanceMethod yX10_clear : Cond) ∈ TG := TG_in 499 (by decide +kernel) (by decide +kernel)
theorem tw_500 : (.selects yX10_clear.cls yX10_clear yX10_clear : Cond) ∈ TG := TG_in 500 (by decide +kernel) (by decide +kernel)
theorem tw_501 : (.code yX10_clear cX10_clear 2 (none) : Cond) ∈ TG := TG_in 501 (by decide +kernel) (by decide +kernel)
theorem tw_502 : (.methodLink RL 80 yX11_same : Cond) ∈ TG := TG_in 502 (by decide +kernel) (by decide +kernel)
theorem tw_503 : (.instanceMethod yX11_same : Cond) ∈ TG := TG_in 503 (by decide +kernel) (by decide +kernel)
theorem tw_504 : (.selects yX11_same.cls yX11_same yX11_same : Cond) ∈ TG := TG_in 504 (by decide +kernel) (by decide +kernel)
theorem tw_505 : (.code yX11_same cX11_same 10 (some .int) : Cond) ∈ TG := TG_in 505 (by decide +kernel) (by decide +kernel)
theorem tw_506 : (.methodLink RL 84 yX11_made : Cond) ∈ TG := TG_in 506 (by decide +kernel) (by decide +kernel)
theorem tw_507 : (.instanceMethod yX11_made : Cond) ∈ TG := TG_in 507 (by decide +kernel) (by decide +kernel)
theorem tw_508 : (.selects yX11_made.cls yX11_made yX11_made : Cond) ∈ TG := TG_in 508 (by decide +kernel) (by decide +kernel)
theorem tw_509 : (.code yX11_made cX11_made 2 (some .int) : Cond) ∈ TG := TG_in 509 (by decide +kernel) (by decide +kernel)
theorem tw_510 : (.methodLink RX11 189 yX11_slotsKeeping : Cond) ∈ TG := TG_in 510 (by decide +kernel) (by decide +kernel)
theorem tw_512 : (.instanceMethod yX11_slotsKeeping : Cond) ∈ TG := TG_in 512 (by decide +kernel) (by decide +kernel)
theorem tw_513 : (.code yX11_slotsKeeping cX11_slotsKeeping 3 (some .int) : Cond) ∈ TG := TG_in 513 (by decide +kernel) (by decide +kernel)
theorem tw_514 : (.methodLink RL 89 yX11_box : Cond) ∈ TG := TG_in 514 (by decide +kernel) (by decide +kernel)
theorem tw_515 : (.instanceMethod yX11_box : Cond) ∈ TG := TG_in 515 (by decide +kernel) (by decide +kernel)
theorem tw_516 : (.selects yX11_box.cls yX11_box yX11_box : Cond) ∈ TG := TG_in 516 (by decide +kernel) (by decide +kernel)
theorem tw_517 : (.code yX11_box cX11_box 2 (some .boolean) : Cond) ∈ TG := TG_in 517 (by decide +kernel) (by decide +kernel)
theorem tw_518 : (.methodLink RX11 193 yX0_become : Cond) ∈ TG := TG_in 518 (by decide +kernel) (by decide +kernel)
theorem tw_519 : (.instanceMethod yX0_become : Cond) ∈ TG := TG_in 519 (by decide +kernel) (by decide +kernel)
theorem tw_520 : (.selects yX0_become.cls yX0_become yX0_become : Cond) ∈ TG := TG_in 520 (by decide +kernel) (by decide +kernel)
theorem tw_521 : (.code yX0_become cX0_become 8 (some .boolean) : Cond) ∈ TG := TG_in 521 (by decide +kernel) (by decide +kernel)
theorem tw_522 : (.constant RX0 18 10000000 : Cond) ∈ TG := TG_in 522 (by decide +kernel) (by decide +kernel)
theorem tw_523 : (.constant RX0 19 1000000 : Cond) ∈ TG := TG_in 523 (by decide +kernel) (by decide +kernel)
theorem tw_524 : (.constant RX0 20 100000 : Cond) ∈ TG := TG_in 524 (by decide +kernel) (by decide +kernel)
theorem tw_525 : (.methodLink RL 93 yX11_fill : Cond) ∈ TG := TG_in 525 (by decide +kernel) (by decide +kernel)
theorem tw_526 : (.instanceMethod yX11_fill : Cond) ∈ TG := TG_in 526 (by decide +kernel) (by decide +kernel)
theorem tw_527 : (.selects yX11_fill.cls yX11_fill yX11_fill : Cond) ∈ TG := TG_in 527 (by decide +kernel) (by decide +kernel)
theorem tw_528 : (.code yX11_fill cX11_fill 7 (some .int) : Cond) ∈ TG := TG_in 528 (by decide +kernel) (by decide +kernel)
theorem tw_529 : (.methodLink RX11 196 yX0_holds : Cond) ∈ TG := TG_in 529 (by decide +kernel) (by decide +kernel)
theorem tw_530 : (.instanceMethod yX0_holds : Cond) ∈ TG := TG_in 530 (by decide +kernel) (by decide +kernel)
theorem tw_531 : (.selects yX0_holds.cls yX0_holds yX0_holds : Cond) ∈ TG := TG_in 531 (by decide +kernel) (by decide +kernel)
theorem tw_532 : (.code yX0_holds cX0_holds 5 (some .boolean) : Cond) ∈ TG := TG_in 532 (by decide +kernel) (by decide +kernel)
theorem tw_533 : (.methodLinkNest RX0 21 yX11_zOf "StackYard" : Cond) ∈ NWL := NWL_in 533 (by decide +kernel) (by decide +kernel)
theorem tw_534 : (.methodLinkNest RX0 25 yX11_xOf "StackYard" : Cond) ∈ NWL := NWL_in 534 (by decide +kernel) (by decide +kernel)
theorem tw_535 : (.methodLinkNest RX0 28 yX11_wOf "StackYard" : Cond) ∈ NWL := NWL_in 535 (by decide +kernel) (by decide +kernel)
theorem tw_536 : (.methodLink RL 98 yX11_replace : Cond) ∈ TG := TG_in 536 (by decide +kernel) (by decide +kernel)
theorem tw_537 : (.instanceMethod yX11_replace : Cond) ∈ TG := TG_in 537 (by decide +kernel) (by decide +kernel)
theorem tw_538 : (.selects yX11_replace.cls yX11_replace yX11_replace : Cond) ∈ TG := TG_in 538 (by decide +kernel) (by decide +kernel)
theorem tw_539 : (.code yX11_replace cX11_replace 7 (some .int) : Cond) ∈ TG := TG_in 539 (by decide +kernel) (by decide +kernel)
theorem tw_540 : (.methodLink RX11 199 yX2_isKind : Cond) ∈ TG := TG_in 540 (by decide +kernel) (by decide +kernel)
theorem tw_541 : (.methodLink RL 102 yX11_count : Cond) ∈ TG := TG_in 541 (by decide +kernel) (by decide +kernel)
theorem tw_542 : (.instanceMethod yX11_count : Cond) ∈ TG := TG_in 542 (by decide +kernel) (by decide +kernel)
theorem tw_543 : (.selects yX11_count.cls yX11_count yX11_count : Cond) ∈ TG := TG_in 543 (by decide +kernel) (by decide +kernel)
theorem tw_544 : (.code yX11_count cX11_count 6 (some .int) : Cond) ∈ TG := TG_in 544 (by decide +kernel) (by decide +kernel)
theorem tw_545 : (.methodLink RL 106 yX11_hollow : Cond) ∈ TG := TG_in 545 (by decide +kernel) (by decide +kernel)
theorem tw_546 : (.instanceMethod yX11_hollow : Cond) ∈ TG := TG_in 546 (by decide +kernel) (by decide +kernel)
theorem tw_547 : (.selects yX11_hollow.cls yX11_hollow yX11_hollow : Cond) ∈ TG := TG_in 547 (by decide +kernel) (by decide +kernel)
theorem tw_548 : (.code yX11_hollow cX11_hollow 5 (some .int) : Cond) ∈ TG := TG_in 548 (by decide +kernel) (by decide +kernel)
theorem tw_549 : (.methodLink RX11 202 yX11_readBox : Cond) ∈ TG := TG_in 549 (by decide +kernel) (by decide +kernel)
theorem tw_551 : (.instanceMethod yX11_readBox : Cond) ∈ TG := TG_in 551 (by decide +kernel) (by decide +kernel)
theorem tw_552 : (.code yX11_readBox cX11_readBox 2 (none) : Cond) ∈ TG := TG_in 552 (by decide +kernel) (by decide +kernel)
theorem tw_553 : (.methodLink RX11 261 yX1_read : Cond) ∈ TG := TG_in 553 (by decide +kernel) (by decide +kernel)
theorem tw_554 : (.instanceMethod yX1_read : Cond) ∈ TG := TG_in 554 (by decide +kernel) (by decide +kernel)
theorem tw_555 : (.selects yX1_read.cls yX1_read yX1_read : Cond) ∈ TG := TG_in 555 (by decide +kernel) (by decide +kernel)
theorem tw_556 : (.code yX1_read cX1_read 4 (none) : Cond) ∈ TG := TG_in 556 (by decide +kernel) (by decide +kernel)
theorem tw_557 : (.methodLink RX1 22 yX10_rowAt : Cond) ∈ TG := TG_in 557 (by decide +kernel) (by decide +kernel)
theorem tw_558 : (.methodLinkNest RX1 28 yX11_cellOf "StackYard" : Cond) ∈ NWL := NWL_in 558 (by decide +kernel) (by decide +kernel)
theorem tw_559 : (.methodLink RX1 32 yX1_readRow : Cond) ∈ TG := TG_in 559 (by decide +kernel) (by decide +kernel)
theorem tw_561 : (.instanceMethod yX1_readRow : Cond) ∈ TG := TG_in 561 (by decide +kernel) (by decide +kernel)
theorem tw_562 : (.code yX1_readRow cX1_readRow 4 (none) : Cond) ∈ TG := TG_in 562 (by decide +kernel) (by decide +kernel)
theorem tw_563 : (.methodLink RX11 306 yX1_listOnly : Cond) ∈ TG := TG_in 563 (by decide +kernel) (by decide +kernel)
theorem tw_564 : (.instanceMethod yX1_listOnly : Cond) ∈ TG := TG_in 564 (by decide +kernel) (by decide +kernel)
theorem tw_565 : (.selects yX1_listOnly.cls yX1_listOnly yX1_listOnly : Cond) ∈ TG := TG_in 565 (by decide +kernel) (by decide +kernel)
theorem tw_566 : (.code yX1_listOnly cX1_listOnly 4 (none) : Cond) ∈ TG := TG_in 566 (by decide +kernel) (by decide +kernel)
theorem tw_567 : (.methodLink RX1 41 yX0_holds : Cond) ∈ TG := TG_in 567 (by decide +kernel) (by decide +kernel)
theorem tw_568 : (.methodLink RX11 211 yX1_bareSides : Cond) ∈ TG := TG_in 568 (by decide +kernel) (by decide +kernel)
theorem tw_569 : (.instanceMethod yX1_bareSides : Cond) ∈ TG := TG_in 569 (by decide +kernel) (by decide +kernel)
theorem tw_570 : (.selects yX1_bareSides.cls yX1_bareSides yX1_bareSides : Cond) ∈ TG := TG_in 570 (by decide +kernel) (by decide +kernel)
theorem tw_571 : (.code yX1_bareSides cX1_bareSides 4 (some .int) : Cond) ∈ TG := TG_in 571 (by decide +kernel) (by decide +kernel)
theorem tw_572 : (.methodLink RX1 61 yX1_beside : Cond) ∈ TG := TG_in 572 (by decide +kernel) (by decide +kernel)
theorem tw_573 : (.static yX1_beside : Cond) ∈ TG := TG_in 573 (by decide +kernel) (by decide +kernel)
theorem tw_574 : (.code yX1_beside cX1_beside 4 (some .int) : Cond) ∈ TG := TG_in 574 (by decide +kernel) (by decide +kernel)
theorem tw_575 : (.methodLinkNest RX1 54 yX11_along "StackYard" : Cond) ∈ NWL := NWL_in 575 (by decide +kernel) (by decide +kernel)
theorem tw_576 : (.static yX11_along : Cond) ∈ TG := TG_in 576 (by decide +kernel) (by decide +kernel)
theorem tw_577 : (.code yX11_along cX11_along 2 (some .int) : Cond) ∈ TG := TG_in 577 (by decide +kernel) (by decide +kernel)
theorem tw_578 : (.methodLink RX11 303 yX11_strideOf : Cond) ∈ TG := TG_in 578 (by decide +kernel) (by decide +kernel)
theorem tw_579 : (.static yX11_strideOf : Cond) ∈ TG := TG_in 579 (by decide +kernel) (by decide +kernel)
theorem tw_580 : (.code yX11_strideOf cX11_strideOf 1 (some .int) : Cond) ∈ TG := TG_in 580 (by decide +kernel) (by decide +kernel)
theorem tw_581 : (.methodLinkNest RX1 58 yX11_strideOf "StackYard" : Cond) ∈ NWL := NWL_in 581 (by decide +kernel) (by decide +kernel)
theorem tw_582 : (.methodLink RX1 64 yX1_isBlock : Cond) ∈ TG := TG_in 582 (by decide +kernel) (by decide +kernel)
theorem tw_583 : (.instanceMethod yX1_isBlock : Cond) ∈ TG := TG_in 583 (by decide +kernel) (by decide +kernel)
theorem tw_584 : (.selects yX1_isBlock.cls yX1_isBlock yX1_isBlock : Cond) ∈ TG := TG_in 584 (by decide +kernel) (by decide +kernel)
theorem tw_585 : (.code yX1_isBlock cX1_isBlock 2 (some .boolean) : Cond) ∈ TG := TG_in 585 (by decide +kernel) (by decide +kernel)
theorem tw_586 : (.methodLink RX1 50 yX1_code : Cond) ∈ TG := TG_in 586 (by decide +kernel) (by decide +kernel)
theorem tw_587 : (.instanceMethod yX1_code : Cond) ∈ TG := TG_in 587 (by decide +kernel) (by decide +kernel)
theorem tw_588 : (.selects yX1_code.cls yX1_code yX1_code : Cond) ∈ TG := TG_in 588 (by decide +kernel) (by decide +kernel)
theorem tw_589 : (.code yX1_code cX1_code 2 (some .int) : Cond) ∈ TG := TG_in 589 (by decide +kernel) (by decide +kernel)
theorem tw_590 : (.methodLinkNest RX1 47 yX11_isCell "StackYard" : Cond) ∈ NWL := NWL_in 590 (by decide +kernel) (by decide +kernel)
theorem tw_591 : (.methodLink RL 110 yX11_move : Cond) ∈ TG := TG_in 591 (by decide +kernel) (by decide +kernel)
theorem tw_592 : (.instanceMethod yX11_move : Cond) ∈ TG := TG_in 592 (by decide +kernel) (by decide +kernel)
theorem tw_593 : (.selects yX11_move.cls yX11_move yX11_move : Cond) ∈ TG := TG_in 593 (by decide +kernel) (by decide +kernel)
theorem tw_594 : (.code yX11_move cX11_move 7 (some .int) : Cond) ∈ TG := TG_in 594 (by decide +kernel) (by decide +kernel)
theorem tw_595 : (.methodLink RX11 214 yX11_isShift : Cond) ∈ TG := TG_in 595 (by decide +kernel) (by decide +kernel)
theorem tw_596 : (.static yX11_isShift : Cond) ∈ TG := TG_in 596 (by decide +kernel) (by decide +kernel)
theorem tw_597 : (.code yX11_isShift cX11_isShift 1 (some .boolean) : Cond) ∈ TG := TG_in 597 (by decide +kernel) (by decide +kernel)
theorem tw_598 : (.methodLink RX11 217 yX11_furtherBy : Cond) ∈ TG := TG_in 598 (by decide +kernel) (by decide +kernel)
theorem tw_599 : (.static yX11_furtherBy : Cond) ∈ TG := TG_in 599 (by decide +kernel) (by decide +kernel)
theorem tw_600 : (.code yX11_furtherBy cX11_furtherBy 5 (some .int) : Cond) ∈ TG := TG_in 600 (by decide +kernel) (by decide +kernel)
theorem tw_601 : (.methodLink RX11 229 yX11_zOf : Cond) ∈ TG := TG_in 601 (by decide +kernel) (by decide +kernel)
theorem tw_602 : (.methodLink RX11 232 yX11_xOf : Cond) ∈ TG := TG_in 602 (by decide +kernel) (by decide +kernel)
theorem tw_603 : (.methodLink RX11 235 yX11_wOf : Cond) ∈ TG := TG_in 603 (by decide +kernel) (by decide +kernel)
theorem tw_604 : (.methodLink RX11 220 yX1_code : Cond) ∈ TG := TG_in 604 (by decide +kernel) (by decide +kernel)
theorem tw_605 : (.methodLink RL 115 yX11_turnBox : Cond) ∈ TG := TG_in 605 (by decide +kernel) (by decide +kernel)
theorem tw_606 : (.instanceMethod yX11_turnBox : Cond) ∈ TG := TG_in 606 (by decide +kernel) (by decide +kernel)
theorem tw_607 : (.selects yX11_turnBox.cls yX11_turnBox yX11_turnBox : Cond) ∈ TG := TG_in 607 (by decide +kernel) (by decide +kernel)
theorem tw_608 : (.code yX11_turnBox cX11_turnBox 5 (some .int) : Cond) ∈ TG := TG_in 608 (by decide +kernel) (by decide +kernel)
theorem tw_609 : (.methodLink RX11 223 yX0_goesToItself : Cond) ∈ TG := TG_in 609 (by decide +kernel) (by decide +kernel)
theorem tw_610 : (.instanceMethod yX0_goesToItself : Cond) ∈ TG := TG_in 610 (by decide +kernel) (by decide +kernel)
theorem tw_611 : (.selects yX0_goesToItself.cls yX0_goesToItself yX0_goesToItself : Cond) ∈ TG := TG_in 611 (by decide +kernel) (by decide +kernel)
theorem tw_612 : (.code yX0_goesToItself cX0_goesToItself 4 (some .boolean) : Cond) ∈ TG := TG_in 612 (by decide +kernel) (by decide +kernel)
theorem tw_613 : (.methodLink RX0 31 yX8_axisOf : Cond) ∈ TG := TG_in 613 (by decide +kernel) (by decide +kernel)
theorem tw_614 : (.methodLink RX11 226 yX0_turned : Cond) ∈ TG := TG_in 614 (by decide +kernel) (by decide +kernel)
theorem tw_615 : (.instanceMethod yX0_turned : Cond) ∈ TG := TG_in 615 (by decide +kernel) (by decide +kernel)
theorem tw_616 : (.selects yX0_turned.cls yX0_turned yX0_turned : Cond) ∈ TG := TG_in 616 (by decide +kernel) (by decide +kernel)
theorem tw_617 : (.code yX0_turned cX0_turned 8 (some .int) : Cond) ∈ TG := TG_in 617 (by decide +kernel) (by decide +kernel)
theorem tw_618 : (.methodLinkNest RX0 37 yX11_along "StackYard" : Cond) ∈ NWL := NWL_in 618 (by decide +kernel) (by decide +kernel)
theorem tw_619 : (.methodLink RX0 40 yX8_signOf : Cond) ∈ TG := TG_in 619 (by decide +kernel) (by decide +kernel)
theorem tw_620 : (.methodLinkNest RX0 43 yX11_strideOf "StackYard" : Cond) ∈ NWL := NWL_in 620 (by decide +kernel) (by decide +kernel)
theorem tw_621 : (.methodLink RL 119 yX11_cut : Cond) ∈ TG := TG_in 621 (by decide +kernel) (by decide +kernel)
theorem tw_622 : (.instanceMethod yX11_cut : Cond) ∈ TG := TG_in 622 (by decide +kernel) (by decide +kernel)
theorem tw_623 : (.selects yX11_cut.cls yX11_cut yX11_cut : Cond) ∈ TG := TG_in 623 (by decide +kernel) (by decide +kernel)
theorem tw_624 : (.code yX11_cut cX11_cut 11 (some .int) : Cond) ∈ TG := TG_in 624 (by decide +kernel) (by decide +kernel)
theorem tw_625 : (.constantLong RX11 238 2 : Cond) ∈ TG := TG_in 625 (by decide +kernel) (by decide +kernel)
theorem tw_626 : (.methodLink RL 123 yX11_parts : Cond) ∈ TG := TG_in 626 (by decide +kernel) (by decide +kernel)
theorem tw_627 : (.instanceMethod yX11_parts : Cond) ∈ TG := TG_in 627 (by decide +kernel) (by decide +kernel)
theorem tw_628 : (.selects yX11_parts.cls yX11_parts yX11_parts : Cond) ∈ TG := TG_in 628 (by decide +kernel) (by decide +kernel)
theorem tw_629 : (.code yX11_parts cX11_parts 2 (some .int) : Cond) ∈ TG := TG_in 629 (by decide +kernel) (by decide +kernel)
theorem tw_630 : (.methodLink RX11 240 yX11_findParts : Cond) ∈ TG := TG_in 630 (by decide +kernel) (by decide +kernel)
theorem tw_632 : (.instanceMethod yX11_findParts : Cond) ∈ TG := TG_in 632 (by decide +kernel) (by decide +kernel)
theorem tw_633 : (.code yX11_findParts cX11_findParts 2 (none) : Cond) ∈ TG := TG_in 633 (by decide +kernel) (by decide +kernel)
theorem tw_634 : (.methodLink RX11 264 yX6_find : Cond) ∈ TG := TG_in 634 (by decide +kernel) (by decide +kernel)
theorem tw_635 : (.instanceMethod yX6_find : Cond) ∈ TG := TG_in 635 (by decide +kernel) (by decide +kernel)
theorem tw_636 : (.selects yX6_find.cls yX6_find yX6_find : Cond) ∈ TG := TG_in 636 (by decide +kernel) (by decide +kernel)
theorem tw_637 : (.code yX6_find cX6_find 4 (none) : Cond) ∈ TG := TG_in 637 (by decide +kernel) (by decide +kernel)
theorem tw_638 : (.methodLink RX6 28 yX1_isBlock : Cond) ∈ TG := TG_in 638 (by decide +kernel) (by decide +kernel)
theorem tw_639 : (.methodLink RX6 34 yX6_gather : Cond) ∈ TG := TG_in 639 (by decide +kernel) (by decide +kernel)
theorem tw_641 : (.instanceMethod yX6_gather : Cond) ∈ TG := TG_in 641 (by decide +kernel) (by decide +kernel)
theorem tw_642 : (.code yX6_gather cX6_gather 8 (some .int) : Cond) ∈ TG := TG_in 642 (by decide +kernel) (by decide +kernel)
theorem tw_643 : (.methodLink RX6 38 yX1_beside : Cond) ∈ TG := TG_in 643 (by decide +kernel) (by decide +kernel)
theorem tw_644 : (.methodLink RL 127 yX11_part : Cond) ∈ TG := TG_in 644 (by decide +kernel) (by decide +kernel)
theorem tw_645 : (.instanceMethod yX11_part : Cond) ∈ TG := TG_in 645 (by decide +kernel) (by decide +kernel)
theorem tw_646 : (.selects yX11_part.cls yX11_part yX11_part : Cond) ∈ TG := TG_in 646 (by decide +kernel) (by decide +kernel)
theorem tw_647 : (.code yX11_part cX11_part 5 (some .int) : Cond) ∈ TG := TG_in 647 (by decide +kernel) (by decide +kernel)
theorem tw_648 : (.methodLink RL 131 yX11_partOf : Cond) ∈ TG := TG_in 648 (by decide +kernel) (by decide +kernel)
theorem tw_649 : (.instanceMethod yX11_partOf : Cond) ∈ TG := TG_in 649 (by decide +kernel) (by decide +kernel)
theorem tw_650 : (.selects yX11_partOf.cls yX11_partOf yX11_partOf : Cond) ∈ TG := TG_in 650 (by decide +kernel) (by decide +kernel)
theorem tw_651 : (.code yX11_partOf cX11_partOf 4 (some .int) : Cond) ∈ TG := TG_in 651 (by decide +kernel) (by decide +kernel)
theorem tw_652 : (.methodLink RX11 247 yX6_sizeOf : Cond) ∈ TG := TG_in 652 (by decide +kernel) (by decide +kernel)
theorem tw_653 : (.instanceMethod yX6_sizeOf : Cond) ∈ TG := TG_in 653 (by decide +kernel) (by decide +kernel)
theorem tw_654 : (.selects yX6_sizeOf.cls yX6_sizeOf yX6_sizeOf : Cond) ∈ TG := TG_in 654 (by decide +kernel) (by decide +kernel)
theorem tw_655 : (.code yX6_sizeOf cX6_sizeOf 2 (some .int) : Cond) ∈ TG := TG_in 655 (by decide +kernel) (by decide +kernel)
theorem tw_656 : (.methodLink RX11 250 yX6_isLoose : Cond) ∈ TG := TG_in 656 (by decide +kernel) (by decide +kernel)
theorem tw_657 : (.instanceMethod yX6_isLoose : Cond) ∈ TG := TG_in 657 (by decide +kernel) (by decide +kernel)
theorem tw_658 : (.selects yX6_isLoose.cls yX6_isLoose yX6_isLoose : Cond) ∈ TG := TG_in 658 (by decide +kernel) (by decide +kernel)
theorem tw_659 : (.code yX6_isLoose cX6_isLoose 5 (some .boolean) : Cond) ∈ TG := TG_in 659 (by decide +kernel) (by decide +kernel)
theorem tw_660 : (.methodLinkNest RX6 42 yX11_zOf "StackYard" : Cond) ∈ NWL := NWL_in 660 (by decide +kernel) (by decide +kernel)
theorem tw_661 : (.methodLink RX6 46 yX1_code : Cond) ∈ TG := TG_in 661 (by decide +kernel) (by decide +kernel)
theorem tw_662 : (.methodLinkNest RX6 49 yX11_kindOf "StackYard" : Cond) ∈ NWL := NWL_in 662 (by decide +kernel) (by decide +kernel)
theorem tw_663 : (.methodLink RX6 52 yX2_hangs : Cond) ∈ TG := TG_in 663 (by decide +kernel) (by decide +kernel)
theorem tw_664 : (.instanceMethod yX2_hangs : Cond) ∈ TG := TG_in 664 (by decide +kernel) (by decide +kernel)
theorem tw_665 : (.selects yX2_hangs.cls yX2_hangs yX2_hangs : Cond) ∈ TG := TG_in 665 (by decide +kernel) (by decide +kernel)
theorem tw_666 : (.code yX2_hangs cX2_hangs 2 (some .boolean) : Cond) ∈ TG := TG_in 666 (by decide +kernel) (by decide +kernel)
theorem tw_667 : (.methodLink RX11 254 yX6_firstOf : Cond) ∈ TG := TG_in 667 (by decide +kernel) (by decide +kernel)
theorem tw_668 : (.instanceMethod yX6_firstOf : Cond) ∈ TG := TG_in 668 (by decide +kernel) (by decide +kernel)
theorem tw_669 : (.selects yX6_firstOf.cls yX6_firstOf yX6_firstOf : Cond) ∈ TG := TG_in 669 (by decide +kernel) (by decide +kernel)
theorem tw_670 : (.code yX6_firstOf cX6_firstOf 2 (some .int) : Cond) ∈ TG := TG_in 670 (by decide +kernel) (by decide +kernel)
theorem tw_671 : (.methodLink RX11 257 yX6_stepsOf : Cond) ∈ TG := TG_in 671 (by decide +kernel) (by decide +kernel)
theorem tw_672 : (.instanceMethod yX6_stepsOf : Cond) ∈ TG := TG_in 672 (by decide +kernel) (by decide +kernel)
theorem tw_673 : (.selects yX6_stepsOf.cls yX6_stepsOf yX6_stepsOf : Cond) ∈ TG := TG_in 673 (by decide +kernel) (by decide +kernel)
theorem tw_674 : (.code yX6_stepsOf cX6_stepsOf 5 (some .int) : Cond) ∈ TG := TG_in 674 (by decide +kernel) (by decide +kernel)
theorem tw_675 : (.methodLink RX6 57 yX6_freeBelow : Cond) ∈ TG := TG_in 675 (by decide +kernel) (by decide +kernel)
theorem tw_677 : (.instanceMethod yX6_freeBelow : Cond) ∈ TG := TG_in 677 (by decide +kernel) (by decide +kernel)
theorem tw_678 : (.code yX6_freeBelow cX6_freeBelow 6 (some .int) : Cond) ∈ TG := TG_in 678 (by decide +kernel) (by decide +kernel)
theorem tw_679 : (.methodLink RX6 61 Lib.Math.min.name : Cond) ∈ TG := TG_in 679 (by decide +kernel) (by decide +kernel)
theorem tw_680 : (.static Lib.Math.min.name : Cond) ∈ TG := TG_in 680 (by decide +kernel) (by decide +kernel)
theorem tw_681 : (.code Lib.Math.min.name Lib.Math.min.code 2 (some .int) : Cond) ∈ TG := TG_in 681 (by decide +kernel) (by decide +kernel)
theorem tw_682 : (.methodLink RL 135 yX11_settle : Cond) ∈ TG := TG_in 682 (by decide +kernel) (by decide +kernel)
theorem tw_683 : (.instanceMethod yX11_settle : Cond) ∈ TG := TG_in 683 (by decide +kernel) (by decide +kernel)
theorem tw_684 : (.selects yX11_settle.cls yX11_settle yX11_settle : Cond) ∈ TG := TG_in 684 (by decide +kernel) (by decide +kernel)
theorem tw_685 : (.code yX11_settle cX11_settle 5 (some .int) : Cond) ∈ TG := TG_in 685 (by decide +kernel) (by decide +kernel)
theorem tw_686 : (.methodLink RX11 268 yX6_nextToFall : Cond) ∈ TG := TG_in 686 (by decide +kernel) (by decide +kernel)
theorem tw_687 : (.instanceMethod yX6_nextToFall : Cond) ∈ TG := TG_in 687 (by decide +kernel) (by decide +kernel)
theorem tw_688 : (.selects yX6_nextToFall.cls yX6_nextToFall yX6_nextToFall : Cond) ∈ TG := TG_in 688 (by decide +kernel) (by decide +kernel)
theorem tw_689 : (.code yX6_nextToFall cX6_nextToFall 4 (some .int) : Cond) ∈ TG := TG_in 689 (by decide +kernel) (by decide +kernel)
theorem tw_690 : (.methodLink RX6 66 yX6_isLoose : Cond) ∈ TG := TG_in 690 (by decide +kernel) (by decide +kernel)
theorem tw_691 : (.methodLink RX6 70 yX6_stepsOf : Cond) ∈ TG := TG_in 691 (by decide +kernel) (by decide +kernel)
theorem tw_692 : (.methodLink RX11 272 yX11_noteFall : Cond) ∈ TG := TG_in 692 (by decide +kernel) (by decide +kernel)
theorem tw_694 : (.instanceMethod yX11_noteFall : Cond) ∈ TG := TG_in 694 (by decide +kernel) (by decide +kernel)
theorem tw_695 : (.code yX11_noteFall cX11_noteFall 3 (none) : Cond) ∈ TG := TG_in 695 (by decide +kernel) (by decide +kernel)
theorem tw_696 : (.methodLink RX11 276 yX6_lower : Cond) ∈ TG := TG_in 696 (by decide +kernel) (by decide +kernel)
theorem tw_697 : (.instanceMethod yX6_lower : Cond) ∈ TG := TG_in 697 (by decide +kernel) (by decide +kernel)
theorem tw_698 : (.selects yX6_lower.cls yX6_lower yX6_lower : Cond) ∈ TG := TG_in 698 (by decide +kernel) (by decide +kernel)
theorem tw_699 : (.code yX6_lower cX6_lower 7 (none) : Cond) ∈ TG := TG_in 699 (by decide +kernel) (by decide +kernel)
theorem tw_700 : (.methodLink RX6 74 yX1_write : Cond) ∈ TG := TG_in 700 (by decide +kernel) (by decide +kernel)
theorem tw_701 : (.instanceMethod yX1_write : Cond) ∈ TG := TG_in 701 (by decide +kernel) (by decide +kernel)
theorem tw_702 : (.selects yX1_write.cls yX1_write yX1_write : Cond) ∈ TG := TG_in 702 (by decide +kernel) (by decide +kernel)
theorem tw_703 : (.code yX1_write cX1_write 3 (none) : Cond) ∈ TG := TG_in 703 (by decide +kernel) (by decide +kernel)
theorem tw_704 : (.methodLink RX6 78 yX10_change : Cond) ∈ TG := TG_in 704 (by decide +kernel) (by decide +kernel)
theorem tw_705 : (.methodLink RL 149 yX11_load : Cond) ∈ TG := TG_in 705 (by decide +kernel) (by decide +kernel)
theorem tw_706 : (.instanceMethod yX11_load : Cond) ∈ TG := TG_in 706 (by decide +kernel) (by decide +kernel)
theorem tw_707 : (.selects yX11_load.cls yX11_load yX11_load : Cond) ∈ TG := TG_in 707 (by decide +kernel) (by decide +kernel)
theorem tw_708 : (.code yX11_load cX11_load 5 (some .int) : Cond) ∈ TG := TG_in 708 (by decide +kernel) (by decide +kernel)
theorem tw_709 : (.methodLink RX11 283 yX2_loadOn : Cond) ∈ TG := TG_in 709 (by decide +kernel) (by decide +kernel)
theorem tw_710 : (.instanceMethod yX2_loadOn : Cond) ∈ TG := TG_in 710 (by decide +kernel) (by decide +kernel)
theorem tw_711 : (.selects yX2_loadOn.cls yX2_loadOn yX2_loadOn : Cond) ∈ TG := TG_in 711 (by decide +kernel) (by decide +kernel)
theorem tw_712 : (.code yX2_loadOn cX2_loadOn 6 (some .int) : Cond) ∈ TG := TG_in 712 (by decide +kernel) (by decide +kernel)
theorem tw_713 : (.methodLink RX2 37 yX1_isBlock : Cond) ∈ TG := TG_in 713 (by decide +kernel) (by decide +kernel)
theorem tw_714 : (.methodLink RX2 42 yX1_code : Cond) ∈ TG := TG_in 714 (by decide +kernel) (by decide +kernel)
theorem tw_715 : (.methodLinkNest RX2 46 yX11_kindOf "StackYard" : Cond) ∈ NWL := NWL_in 715 (by decide +kernel) (by decide +kernel)
theorem tw_716 : (.methodLink RL 153 yX11_overloaded : Cond) ∈ TG := TG_in 716 (by decide +kernel) (by decide +kernel)
theorem tw_717 : (.instanceMethod yX11_overloaded : Cond) ∈ TG := TG_in 717 (by decide +kernel) (by decide +kernel)
theorem tw_718 : (.selects yX11_overloaded.cls yX11_overloaded yX11_overloaded : Cond) ∈ TG := TG_in 718 (by decide +kernel) (by decide +kernel)
theorem tw_719 : (.code yX11_overloaded cX11_overloaded 5 (some .int) : Cond) ∈ TG := TG_in 719 (by decide +kernel) (by decide +kernel)
theorem tw_720 : (.methodLink RX11 286 yX2_strengthOf : Cond) ∈ TG := TG_in 720 (by decide +kernel) (by decide +kernel)
theorem tw_721 : (.instanceMethod yX2_strengthOf : Cond) ∈ TG := TG_in 721 (by decide +kernel) (by decide +kernel)
theorem tw_722 : (.selects yX2_strengthOf.cls yX2_strengthOf yX2_strengthOf : Cond) ∈ TG := TG_in 722 (by decide +kernel) (by decide +kernel)
theorem tw_723 : (.code yX2_strengthOf cX2_strengthOf 2 (some .int) : Cond) ∈ TG := TG_in 723 (by decide +kernel) (by decide +kernel)
theorem tw_724 : (.methodLink RL 157 yX11_light : Cond) ∈ TG := TG_in 724 (by decide +kernel) (by decide +kernel)
theorem tw_725 : (.instanceMethod yX11_light : Cond) ∈ TG := TG_in 725 (by decide +kernel) (by decide +kernel)
theorem tw_726 : (.selects yX11_light.cls yX11_light yX11_light : Cond) ∈ TG := TG_in 726 (by decide +kernel) (by decide +kernel)
theorem tw_727 : (.code yX11_light cX11_light 5 (some .int) : Cond) ∈ TG := TG_in 727 (by decide +kernel) (by decide +kernel)
theorem tw_728 : (.methodLink RX11 289 yX3_shine : Cond) ∈ TG := TG_in 728 (by decide +kernel) (by decide +kernel)
theorem tw_729 : (.instanceMethod yX3_shine : Cond) ∈ TG := TG_in 729 (by decide +kernel) (by decide +kernel)
theorem tw_730 : (.selects yX3_shine.cls yX3_shine yX3_shine : Cond) ∈ TG := TG_in 730 (by decide +kernel) (by decide +kernel)
theorem tw_731 : (.code yX3_shine cX3_shine 6 (none) : Cond) ∈ TG := TG_in 731 (by decide +kernel) (by decide +kernel)
theorem tw_732 : (.methodLink RX3 15 yX1_isBlock : Cond) ∈ TG := TG_in 732 (by decide +kernel) (by decide +kernel)
theorem tw_733 : (.methodLink RX3 21 yX1_code : Cond) ∈ TG := TG_in 733 (by decide +kernel) (by decide +kernel)
theorem tw_734 : (.methodLinkNest RX3 25 yX11_kindOf "StackYard" : Cond) ∈ NWL := NWL_in 734 (by decide +kernel) (by decide +kernel)
theorem tw_735 : (.methodLink RX3 28 yX2_lightOf : Cond) ∈ TG := TG_in 735 (by decide +kernel) (by decide +kernel)
theorem tw_736 : (.instanceMethod yX2_lightOf : Cond) ∈ TG := TG_in 736 (by decide +kernel) (by decide +kernel)
theorem tw_737 : (.selects yX2_lightOf.cls yX2_lightOf yX2_lightOf : Cond) ∈ TG := TG_in 737 (by decide +kernel) (by decide +kernel)
theorem tw_738 : (.code yX2_lightOf cX2_lightOf 2 (some .int) : Cond) ∈ TG := TG_in 738 (by decide +kernel) (by decide +kernel)
theorem tw_739 : (.methodLink RX3 33 Lib.Math.max.name : Cond) ∈ TG := TG_in 739 (by decide +kernel) (by decide +kernel)
theorem tw_740 : (.static Lib.Math.max.name : Cond) ∈ TG := TG_in 740 (by decide +kernel) (by decide +kernel)
theorem tw_741 : (.code Lib.Math.max.name Lib.Math.max.code 2 (some .int) : Cond) ∈ TG := TG_in 741 (by decide +kernel) (by decide +kernel)
theorem tw_742 : (.methodLink RX3 39 yX3_spread : Cond) ∈ TG := TG_in 742 (by decide +kernel) (by decide +kernel)
theorem tw_744 : (.instanceMethod yX3_spread : Cond) ∈ TG := TG_in 744 (by decide +kernel) (by decide +kernel)
theorem tw_745 : (.code yX3_spread cX3_spread 7 (none) : Cond) ∈ TG := TG_in 745 (by decide +kernel) (by decide +kernel)
theorem tw_746 : (.methodLink RX3 43 yX1_beside : Cond) ∈ TG := TG_in 746 (by decide +kernel) (by decide +kernel)
theorem tw_747 : (.methodLink RX3 46 yX2_lossOf : Cond) ∈ TG := TG_in 747 (by decide +kernel) (by decide +kernel)
theorem tw_748 : (.instanceMethod yX2_lossOf : Cond) ∈ TG := TG_in 748 (by decide +kernel) (by decide +kernel)
theorem tw_749 : (.selects yX2_lossOf.cls yX2_lossOf yX2_lossOf : Cond) ∈ TG := TG_in 749 (by decide +kernel) (by decide +kernel)
theorem tw_750 : (.code yX2_lossOf cX2_lossOf 2 (some .int) : Cond) ∈ TG := TG_in 750 (by decide +kernel) (by decide +kernel)
theorem tw_751 : (.methodLink RL 161 yX11_dark : Cond) ∈ TG := TG_in 751 (by decide +kernel) (by decide +kernel)
theorem tw_752 : (.instanceMethod yX11_dark : Cond) ∈ TG := TG_in 752 (by decide +kernel) (by decide +kernel)
theorem tw_753 : (.selects yX11_dark.cls yX11_dark yX11_dark : Cond) ∈ TG := TG_in 753 (by decide +kernel) (by decide +kernel)
theorem tw_754 : (.code yX11_dark cX11_dark 5 (some .int) : Cond) ∈ TG := TG_in 754 (by decide +kernel) (by decide +kernel)
theorem tw_755 : (.methodLink RL 165 yX11_faces : Cond) ∈ TG := TG_in 755 (by decide +kernel) (by decide +kernel)
theorem tw_756 : (.instanceMethod yX11_faces : Cond) ∈ TG := TG_in 756 (by decide +kernel) (by decide +kernel)
theorem tw_757 : (.selects yX11_faces.cls yX11_faces yX11_faces : Cond) ∈ TG := TG_in 757 (by decide +kernel) (by decide +kernel)
theorem tw_758 : (.code yX11_faces cX11_faces 4 (some .int) : Cond) ∈ TG := TG_in 758 (by decide +kernel) (by decide +kernel)
theorem tw_759 : (.methodLink RL 169 yX11_path : Cond) ∈ TG := TG_in 759 (by decide +kernel) (by decide +kernel)
theorem tw_760 : (.instanceMethod yX11_path : Cond) ∈ TG := TG_in 760 (by decide +kernel) (by decide +kernel)
theorem tw_761 : (.selects yX11_path.cls yX11_path yX11_path : Cond) ∈ TG := TG_in 761 (by decide +kernel) (by decide +kernel)
theorem tw_762 : (.code yX11_path cX11_path 4 (some .int) : Cond) ∈ TG := TG_in 762 (by decide +kernel) (by decide +kernel)
theorem tw_763 : (.methodLink RX11 296 yX9_steps : Cond) ∈ TG := TG_in 763 (by decide +kernel) (by decide +kernel)
theorem tw_764 : (.instanceMethod yX9_steps : Cond) ∈ TG := TG_in 764 (by decide +kernel) (by decide +kernel)
theorem tw_765 : (.selects yX9_steps.cls yX9_steps yX9_steps : Cond) ∈ TG := TG_in 765 (by decide +kernel) (by decide +kernel)
theorem tw_766 : (.code yX9_steps cX9_steps 5 (some .int) : Cond) ∈ TG := TG_in 766 (by decide +kernel) (by decide +kernel)
theorem tw_767 : (.methodLink RX9 18 yX9_isStand : Cond) ∈ TG := TG_in 767 (by decide +kernel) (by decide +kernel)
theorem tw_768 : (.static yX9_isStand : Cond) ∈ TG := TG_in 768 (by decide +kernel) (by decide +kernel)
theorem tw_769 : (.code yX9_isStand cX9_isStand 2 (some .boolean) : Cond) ∈ TG := TG_in 769 (by decide +kernel) (by decide +kernel)
theorem tw_770 : (.methodLink RX9 34 yX1_code : Cond) ∈ TG := TG_in 770 (by decide +kernel) (by decide +kernel)
theorem tw_771 : (.methodLinkNest RX9 40 yX11_zOf "StackYard" : Cond) ∈ NWL := NWL_in 771 (by decide +kernel) (by decide +kernel)
theorem tw_772 : (.methodLink RX9 43 yX1_isBlock : Cond) ∈ TG := TG_in 772 (by decide +kernel) (by decide +kernel)
theorem tw_773 : (.methodLink RX9 26 yX9_reach : Cond) ∈ TG := TG_in 773 (by decide +kernel) (by decide +kernel)
theorem tw_775 : (.instanceMethod yX9_reach : Cond) ∈ TG := TG_in 775 (by decide +kernel) (by decide +kernel)
theorem tw_776 : (.code yX9_reach cX9_reach 4 (none) : Cond) ∈ TG := TG_in 776 (by decide +kernel) (by decide +kernel)
theorem tw_777 : (.methodLink RX9 30 yX9_leave : Cond) ∈ TG := TG_in 777 (by decide +kernel) (by decide +kernel)
theorem tw_779 : (.instanceMethod yX9_leave : Cond) ∈ TG := TG_in 779 (by decide +kernel) (by decide +kernel)
theorem tw_780 : (.code yX9_leave cX9_leave 6 (none) : Cond) ∈ TG := TG_in 780 (by decide +kernel) (by decide +kernel)
theorem tw_781 : (.methodLink RX9 47 yX1_beside : Cond) ∈ TG := TG_in 781 (by decide +kernel) (by decide +kernel)
theorem tw_782 : (.methodLink RL 173 yX11_places : Cond) ∈ TG := TG_in 782 (by decide +kernel) (by decide +kernel)
theorem tw_783 : (.instanceMethod yX11_places : Cond) ∈ TG := TG_in 783 (by decide +kernel) (by decide +kernel)
theorem tw_784 : (.selects yX11_places.cls yX11_places yX11_places : Cond) ∈ TG := TG_in 784 (by decide +kernel) (by decide +kernel)
theorem tw_785 : (.code yX11_places cX11_places 3 (some .int) : Cond) ∈ TG := TG_in 785 (by decide +kernel) (by decide +kernel)
theorem tw_786 : (.methodLink RX11 300 yX11_seekWay : Cond) ∈ TG := TG_in 786 (by decide +kernel) (by decide +kernel)
theorem tw_788 : (.instanceMethod yX11_seekWay : Cond) ∈ TG := TG_in 788 (by decide +kernel) (by decide +kernel)
theorem tw_789 : (.code yX11_seekWay cX11_seekWay 11 (some .int) : Cond) ∈ TG := TG_in 789 (by decide +kernel) (by decide +kernel)
theorem tw_790 : (.methodLink RX11 310 yX1_most : Cond) ∈ TG := TG_in 790 (by decide +kernel) (by decide +kernel)
theorem tw_791 : (.instanceMethod yX1_most : Cond) ∈ TG := TG_in 791 (by decide +kernel) (by decide +kernel)
theorem tw_792 : (.selects yX1_most.cls yX1_most yX1_most : Cond) ∈ TG := TG_in 792 (by decide +kernel) (by decide +kernel)
theorem tw_793 : (.code yX1_most cX1_most 4 (some .int) : Cond) ∈ TG := TG_in 793 (by decide +kernel) (by decide +kernel)
theorem tw_794 : (.methodLink RX1 72 Lib.Math.max.name : Cond) ∈ TG := TG_in 794 (by decide +kernel) (by decide +kernel)
theorem tw_795 : (.methodLink RX11 313 yX1_least : Cond) ∈ TG := TG_in 795 (by decide +kernel) (by decide +kernel)
theorem tw_796 : (.instanceMethod yX1_least : Cond) ∈ TG := TG_in 796 (by decide +kernel) (by decide +kernel)
theorem tw_797 : (.selects yX1_least.cls yX1_least yX1_least : Cond) ∈ TG := TG_in 797 (by decide +kernel) (by decide +kernel)
theorem tw_798 : (.code yX1_least cX1_least 4 (some .int) : Cond) ∈ TG := TG_in 798 (by decide +kernel) (by decide +kernel)
theorem tw_799 : (.methodLink RX1 67 Lib.Math.min.name : Cond) ∈ TG := TG_in 799 (by decide +kernel) (by decide +kernel)
theorem tw_800 : (.methodLink RX11 316 yX1_bears : Cond) ∈ TG := TG_in 800 (by decide +kernel) (by decide +kernel)
theorem tw_801 : (.instanceMethod yX1_bears : Cond) ∈ TG := TG_in 801 (by decide +kernel) (by decide +kernel)
theorem tw_802 : (.selects yX1_bears.cls yX1_bears yX1_bears : Cond) ∈ TG := TG_in 802 (by decide +kernel) (by decide +kernel)
theorem tw_803 : (.code yX1_bears cX1_bears 5 (some .boolean) : Cond) ∈ TG := TG_in 803 (by decide +kernel) (by decide +kernel)
theorem tw_804 : (.methodLink RX11 320 yX11_tellShift : Cond) ∈ TG := TG_in 804 (by decide +kernel) (by decide +kernel)
theorem tw_805 : (.static yX11_tellShift : Cond) ∈ TG := TG_in 805 (by decide +kernel) (by decide +kernel)
theorem tw_806 : (.code yX11_tellShift cX11_tellShift 3 (some .int) : Cond) ∈ TG := TG_in 806 (by decide +kernel) (by decide +kernel)
theorem tw_807 : (.methodLink RL 177 yX11_place : Cond) ∈ TG := TG_in 807 (by decide +kernel) (by decide +kernel)
theorem tw_808 : (.instanceMethod yX11_place : Cond) ∈ TG := TG_in 808 (by decide +kernel) (by decide +kernel)
theorem tw_809 : (.selects yX11_place.cls yX11_place yX11_place : Cond) ∈ TG := TG_in 809 (by decide +kernel) (by decide +kernel)
theorem tw_810 : (.code yX11_place cX11_place 4 (some .int) : Cond) ∈ TG := TG_in 810 (by decide +kernel) (by decide +kernel)
theorem tw_811 : (.methodLink RL 181 yX11_differs : Cond) ∈ TG := TG_in 811 (by decide +kernel) (by decide +kernel)
theorem tw_812 : (.instanceMethod yX11_differs : Cond) ∈ TG := TG_in 812 (by decide +kernel) (by decide +kernel)
theorem tw_813 : (.selects yX11_differs.cls yX11_differs yX11_differs : Cond) ∈ TG := TG_in 813 (by decide +kernel) (by decide +kernel)
theorem tw_814 : (.code yX11_differs cX11_differs 5 (some .int) : Cond) ∈ TG := TG_in 814 (by decide +kernel) (by decide +kernel)
theorem tw_884 : (.classLink RL 16 "StackYardModel" : Cond) ∈ TG := TG_in 884 (by decide +kernel) (by decide +kernel)
theorem tw_886 : (.methodLink RL 18 yX12_init : Cond) ∈ TG := TG_in 886 (by decide +kernel) (by decide +kernel)
theorem tw_887 : (.instanceMethod yX12_init : Cond) ∈ TG := TG_in 887 (by decide +kernel) (by decide +kernel)
theorem tw_888 : (.code yX12_init cX12_init 2 (none) : Cond) ∈ TG := TG_in 888 (by decide +kernel) (by decide +kernel)
theorem tw_889 : (.methodLink RX12 1 Lib.objectInit : Cond) ∈ TG := TG_in 889 (by decide +kernel) (by decide +kernel)
theorem tw_890 : (.fieldLink RX12 89 "StackYardModel" "thrown" "I" : Cond) ∈ TG := TG_in 890 (by decide +kernel) (by decide +kernel)
theorem tw_891 : (.fieldLink RX12 103 "StackYardModel" "kinds" "I" : Cond) ∈ TG := TG_in 891 (by decide +kernel) (by decide +kernel)
theorem tw_892 : (.fieldLink RX12 7 "StackYardModel" "weight" "[I" : Cond) ∈ TG := TG_in 892 (by decide +kernel) (by decide +kernel)
theorem tw_893 : (.fieldLink RX12 13 "StackYardModel" "strength" "[I" : Cond) ∈ TG := TG_in 893 (by decide +kernel) (by decide +kernel)
theorem tw_894 : (.fieldLink RX12 16 "StackYardModel" "shine" "[I" : Cond) ∈ TG := TG_in 894 (by decide +kernel) (by decide +kernel)
theorem tw_895 : (.fieldLink RX12 19 "StackYardModel" "loss" "[I" : Cond) ∈ TG := TG_in 895 (by decide +kernel) (by decide +kernel)
theorem tw_896 : (.fieldLink RX12 22 "StackYardModel" "hangs" "[Z" : Cond) ∈ TG := TG_in 896 (by decide +kernel) (by decide +kernel)
theorem tw_897 : (.fieldLink RX12 26 "StackYardModel" "held" "[I" : Cond) ∈ TG := TG_in 897 (by decide +kernel) (by decide +kernel)
theorem tw_898 : (.fieldLink RX12 29 "StackYardModel" "isKept" "[Z" : Cond) ∈ TG := TG_in 898 (by decide +kernel) (by decide +kernel)
theorem tw_899 : (.fieldLink RX12 32 "StackYardModel" "rowOf" "[I" : Cond) ∈ TG := TG_in 899 (by decide +kernel) (by decide +kernel)
theorem tw_900 : (.fieldLink RX12 35 "StackYardModel" "length" "[I" : Cond) ∈ TG := TG_in 900 (by decide +kernel) (by decide +kernel)
theorem tw_901 : (.fieldLink RX12 38 "StackYardModel" "cellKind" "[I" : Cond) ∈ TG := TG_in 901 (by decide +kernel) (by decide +kernel)
theorem tw_902 : (.fieldLink RX12 41 "StackYardModel" "cellTurn" "[I" : Cond) ∈ TG := TG_in 902 (by decide +kernel) (by decide +kernel)
theorem tw_903 : (.fieldLink RX12 125 "StackYardModel" "layersMade" "I" : Cond) ∈ TG := TG_in 903 (by decide +kernel) (by decide +kernel)
theorem tw_904 : (.fieldLink RX12 132 "StackYardModel" "rowsMade" "I" : Cond) ∈ TG := TG_in 904 (by decide +kernel) (by decide +kernel)
theorem tw_905 : (.fieldLink RX12 44 "StackYardModel" "rowMet" "[Z" : Cond) ∈ TG := TG_in 905 (by decide +kernel) (by decide +kernel)
theorem tw_906 : (.fieldLink RX12 47 "StackYardModel" "layerMet" "[Z" : Cond) ∈ TG := TG_in 906 (by decide +kernel) (by decide +kernel)
theorem tw_907 : (.fieldLink RX12 50 "StackYardModel" "low" "[I" : Cond) ∈ TG := TG_in 907 (by decide +kernel) (by decide +kernel)
theorem tw_908 : (.fieldLink RX12 53 "StackYardModel" "high" "[I" : Cond) ∈ TG := TG_in 908 (by decide +kernel) (by decide +kernel)
theorem tw_909 : (.fieldLink RX12 56 "StackYardModel" "readKind" "[I" : Cond) ∈ TG := TG_in 909 (by decide +kernel) (by decide +kernel)
theorem tw_910 : (.fieldLink RX12 59 "StackYardModel" "readTurn" "[I" : Cond) ∈ TG := TG_in 910 (by decide +kernel) (by decide +kernel)
theorem tw_911 : (.fieldLink RX12 62 "StackYardModel" "marked" "[Z" : Cond) ∈ TG := TG_in 911 (by decide +kernel) (by decide +kernel)
theorem tw_912 : (.fieldLink RX12 65 "StackYardModel" "partAt" "[I" : Cond) ∈ TG := TG_in 912 (by decide +kernel) (by decide +kernel)
theorem tw_913 : (.fieldLink RX12 68 "StackYardModel" "partFirst" "[I" : Cond) ∈ TG := TG_in 913 (by decide +kernel) (by decide +kernel)
theorem tw_914 : (.fieldLink RX12 212 "StackYardModel" "partMany" "I" : Cond) ∈ TG := TG_in 914 (by decide +kernel) (by decide +kernel)
theorem tw_915 : (.fieldLink RX12 71 "StackYardModel" "queue" "[I" : Cond) ∈ TG := TG_in 915 (by decide +kernel) (by decide +kernel)
theorem tw_916 : (.fieldLink RX12 178 "StackYardModel" "fell" "I" : Cond) ∈ TG := TG_in 916 (by decide +kernel) (by decide +kernel)
theorem tw_917 : (.fieldLink RX12 74 "StackYardModel" "fellFirst" "[I" : Cond) ∈ TG := TG_in 917 (by decide +kernel) (by decide +kernel)
theorem tw_918 : (.fieldLink RX12 77 "StackYardModel" "fellBy" "[I" : Cond) ∈ TG := TG_in 918 (by decide +kernel) (by decide +kernel)
theorem tw_919 : (.fieldLink RX12 80 "StackYardModel" "glow" "[I" : Cond) ∈ TG := TG_in 919 (by decide +kernel) (by decide +kernel)
theorem tw_920 : (.fieldLink RX12 83 "StackYardModel" "steps" "[I" : Cond) ∈ TG := TG_in 920 (by decide +kernel) (by decide +kernel)
theorem tw_921 : (.fieldLink RX12 86 "StackYardModel" "blocks" "[I" : Cond) ∈ TG := TG_in 921 (by decide +kernel) (by decide +kernel)
theorem tw_922 : (.fieldLink RX12 243 "StackYardModel" "blockMany" "I" : Cond) ∈ TG := TG_in 922 (by decide +kernel) (by decide +kernel)
theorem tw_990 : (.methodLink RL 145 yX12_thrown : Cond) ∈ TG := TG_in 990 (by decide +kernel) (by decide +kernel)
theorem tw_991 : (.instanceMethod yX12_thrown : Cond) ∈ TG := TG_in 991 (by decide +kernel) (by decide +kernel)
theorem tw_992 : (.selects yX12_thrown.cls yX12_thrown yX12_thrown : Cond) ∈ TG := TG_in 992 (by decide +kernel) (by decide +kernel)
theorem tw_993 : (.code yX12_thrown cX12_thrown 1 (some .int) : Cond) ∈ TG := TG_in 993 (by decide +kernel) (by decide +kernel)
theorem tw_994 : (.methodLink RL 23 yX12_kind : Cond) ∈ TG := TG_in 994 (by decide +kernel) (by decide +kernel)
theorem tw_995 : (.instanceMethod yX12_kind : Cond) ∈ TG := TG_in 995 (by decide +kernel) (by decide +kernel)
theorem tw_996 : (.selects yX12_kind.cls yX12_kind yX12_kind : Cond) ∈ TG := TG_in 996 (by decide +kernel) (by decide +kernel)
theorem tw_997 : (.code yX12_kind cX12_kind 6 (some .int) : Cond) ∈ TG := TG_in 997 (by decide +kernel) (by decide +kernel)
theorem tw_998 : (.methodLink RX12 93 yX12_in : Cond) ∈ TG := TG_in 998 (by decide +kernel) (by decide +kernel)
theorem tw_999 : (.static yX12_in : Cond) ∈ TG := TG_in 999 (by decide +kernel) (by decide +kernel)
theorem tw_1000 : (.code yX12_in cX12_in 3 (some .boolean) : Cond) ∈ TG := TG_in 1000 (by decide +kernel) (by decide +kernel)
theorem tw_1001 : (.constant RX12 106 1000000 : Cond) ∈ TG := TG_in 1001 (by decide +kernel) (by decide +kernel)
theorem tw_1002 : (.methodLink RL 27 yX12_product : Cond) ∈ TG := TG_in 1002 (by decide +kernel) (by decide +kernel)
theorem tw_1003 : (.instanceMethod yX12_product : Cond) ∈ TG := TG_in 1003 (by decide +kernel) (by decide +kernel)
theorem tw_1004 : (.selects yX12_product.cls yX12_product yX12_product : Cond) ∈ TG := TG_in 1004 (by decide +kernel) (by decide +kernel)
theorem tw_1005 : (.code yX12_product cX12_product 3 (some .int) : Cond) ∈ TG := TG_in 1005 (by decide +kernel) (by decide +kernel)
theorem tw_1006 : (.methodLink RX12 114 yX12_isTurn : Cond) ∈ TG := TG_in 1006 (by decide +kernel) (by decide +kernel)
theorem tw_1007 : (.static yX12_isTurn : Cond) ∈ TG := TG_in 1007 (by decide +kernel) (by decide +kernel)
theorem tw_1008 : (.code yX12_isTurn cX12_isTurn 1 (some .boolean) : Cond) ∈ TG := TG_in 1008 (by decide +kernel) (by decide +kernel)
theorem tw_1009 : (.methodLink RX12 118 yX12_times : Cond) ∈ TG := TG_in 1009 (by decide +kernel) (by decide +kernel)
theorem tw_1011 : (.instanceMethod yX12_times : Cond) ∈ TG := TG_in 1011 (by decide +kernel) (by decide +kernel)
theorem tw_1012 : (.code yX12_times cX12_times 6 (some .int) : Cond) ∈ TG := TG_in 1012 (by decide +kernel) (by decide +kernel)
theorem tw_1013 : (.methodLink RX12 107 yX12_to : Cond) ∈ TG := TG_in 1013 (by decide +kernel) (by decide +kernel)
theorem tw_1014 : (.static yX12_to : Cond) ∈ TG := TG_in 1014 (by decide +kernel) (by decide +kernel)
theorem tw_1015 : (.code yX12_to cX12_to 2 (some .int) : Cond) ∈ TG := TG_in 1015 (by decide +kernel) (by decide +kernel)
theorem tw_1016 : (.fieldLink RX12 97 "StackYardModel" "PERMUTED" "[I" : Cond) ∈ TG := TG_in 1016 (by decide +kernel) (by decide +kernel)
theorem tw_1018 : (.methodLink RX12 111 yX12_sign : Cond) ∈ TG := TG_in 1018 (by decide +kernel) (by decide +kernel)
theorem tw_1019 : (.static yX12_sign : Cond) ∈ TG := TG_in 1019 (by decide +kernel) (by decide +kernel)
theorem tw_1020 : (.code yX12_sign cX12_sign 4 (some .int) : Cond) ∈ TG := TG_in 1020 (by decide +kernel) (by decide +kernel)
theorem tw_1021 : (.fieldLink RX12 100 "StackYardModel" "EVEN" "[I" : Cond) ∈ TG := TG_in 1021 (by decide +kernel) (by decide +kernel)
theorem tw_1023 : (.methodLink RL 32 yX12_layer : Cond) ∈ TG := TG_in 1023 (by decide +kernel) (by decide +kernel)
theorem tw_1024 : (.instanceMethod yX12_layer : Cond) ∈ TG := TG_in 1024 (by decide +kernel) (by decide +kernel)
theorem tw_1025 : (.selects yX12_layer.cls yX12_layer yX12_layer : Cond) ∈ TG := TG_in 1025 (by decide +kernel) (by decide +kernel)
theorem tw_1026 : (.code yX12_layer cX12_layer 4 (some .boolean) : Cond) ∈ TG := TG_in 1026 (by decide +kernel) (by decide +kernel)
theorem tw_1027 : (.methodLink RX12 156 yX12_isYard : Cond) ∈ TG := TG_in 1027 (by decide +kernel) (by decide +kernel)
theorem tw_1028 : (.static yX12_isYard : Cond) ∈ TG := TG_in 1028 (by decide +kernel) (by decide +kernel)
theorem tw_1029 : (.code yX12_isYard cX12_isYard 1 (some .boolean) : Cond) ∈ TG := TG_in 1029 (by decide +kernel) (by decide +kernel)
theorem tw_1030 : (.methodLink RX12 135 yX12_newLayer : Cond) ∈ TG := TG_in 1030 (by decide +kernel) (by decide +kernel)
theorem tw_1032 : (.instanceMethod yX12_newLayer : Cond) ∈ TG := TG_in 1032 (by decide +kernel) (by decide +kernel)
theorem tw_1033 : (.code yX12_newLayer cX12_newLayer 3 (some .int) : Cond) ∈ TG := TG_in 1033 (by decide +kernel) (by decide +kernel)
theorem tw_1034 : (.methodLink RX12 121 yX12_holdsOf : Cond) ∈ TG := TG_in 1034 (by decide +kernel) (by decide +kernel)
theorem tw_1036 : (.instanceMethod yX12_holdsOf : Cond) ∈ TG := TG_in 1036 (by decide +kernel) (by decide +kernel)
theorem tw_1037 : (.code yX12_holdsOf cX12_holdsOf 4 (some .int) : Cond) ∈ TG := TG_in 1037 (by decide +kernel) (by decide +kernel)
theorem tw_1038 : (.methodLink RL 37 yX12_row : Cond) ∈ TG := TG_in 1038 (by decide +kernel) (by decide +kernel)
theorem tw_1039 : (.instanceMethod yX12_row : Cond) ∈ TG := TG_in 1039 (by decide +kernel) (by decide +kernel)
theorem tw_1040 : (.selects yX12_row.cls yX12_row yX12_row : Cond) ∈ TG := TG_in 1040 (by decide +kernel) (by decide +kernel)
theorem tw_1041 : (.code yX12_row cX12_row 7 (some .int) : Cond) ∈ TG := TG_in 1041 (by decide +kernel) (by decide +kernel)
theorem tw_1042 : (.methodLink RX12 148 yX12_aloneLayer : Cond) ∈ TG := TG_in 1042 (by decide +kernel) (by decide +kernel)
theorem tw_1044 : (.instanceMethod yX12_aloneLayer : Cond) ∈ TG := TG_in 1044 (by decide +kernel) (by decide +kernel)
theorem tw_1045 : (.code yX12_aloneLayer cX12_aloneLayer 6 (none) : Cond) ∈ TG := TG_in 1045 (by decide +kernel) (by decide +kernel)
theorem tw_1046 : (.methodLink RX12 141 yX12_newRow : Cond) ∈ TG := TG_in 1046 (by decide +kernel) (by decide +kernel)
theorem tw_1048 : (.instanceMethod yX12_newRow : Cond) ∈ TG := TG_in 1048 (by decide +kernel) (by decide +kernel)
theorem tw_1049 : (.code yX12_newRow cX12_newRow 3 (some .int) : Cond) ∈ TG := TG_in 1049 (by decide +kernel) (by decide +kernel)
theorem tw_1050 : (.methodLink RX12 128 yX12_meets : Cond) ∈ TG := TG_in 1050 (by decide +kernel) (by decide +kernel)
theorem tw_1052 : (.instanceMethod yX12_meets : Cond) ∈ TG := TG_in 1052 (by decide +kernel) (by decide +kernel)
theorem tw_1053 : (.code yX12_meets cX12_meets 5 (some .int) : Cond) ∈ TG := TG_in 1053 (by decide +kernel) (by decide +kernel)
theorem tw_1054 : (.methodLink RL 41 yX12_less : Cond) ∈ TG := TG_in 1054 (by decide +kernel) (by decide +kernel)
theorem tw_1055 : (.instanceMethod yX12_less : Cond) ∈ TG := TG_in 1055 (by decide +kernel) (by decide +kernel)
theorem tw_1056 : (.selects yX12_less.cls yX12_less yX12_less : Cond) ∈ TG := TG_in 1056 (by decide +kernel) (by decide +kernel)
theorem tw_1057 : (.code yX12_less cX12_less 3 (some .boolean) : Cond) ∈ TG := TG_in 1057 (by decide +kernel) (by decide +kernel)
theorem tw_1058 : (.methodLink RL 46 yX12_put : Cond) ∈ TG := TG_in 1058 (by decide +kernel) (by decide +kernel)
theorem tw_1059 : (.instanceMethod yX12_put : Cond) ∈ TG := TG_in 1059 (by decide +kernel) (by decide +kernel)
theorem tw_1060 : (.selects yX12_put.cls yX12_put yX12_put : Cond) ∈ TG := TG_in 1060 (by decide +kernel) (by decide +kernel)
theorem tw_1061 : (.code yX12_put cX12_put 8 (some .int) : Cond) ∈ TG := TG_in 1061 (by decide +kernel) (by decide +kernel)
theorem tw_1062 : (.methodLink RX12 159 yX12_isThere : Cond) ∈ TG := TG_in 1062 (by decide +kernel) (by decide +kernel)
theorem tw_1064 : (.instanceMethod yX12_isThere : Cond) ∈ TG := TG_in 1064 (by decide +kernel) (by decide +kernel)
theorem tw_1065 : (.code yX12_isThere cX12_isThere 7 (some .int) : Cond) ∈ TG := TG_in 1065 (by decide +kernel) (by decide +kernel)
theorem tw_1066 : (.methodLink RX12 162 yX12_isKindOrOpen : Cond) ∈ TG := TG_in 1066 (by decide +kernel) (by decide +kernel)
theorem tw_1068 : (.instanceMethod yX12_isKindOrOpen : Cond) ∈ TG := TG_in 1068 (by decide +kernel) (by decide +kernel)
theorem tw_1069 : (.code yX12_isKindOrOpen cX12_isKindOrOpen 2 (some .boolean) : Cond) ∈ TG := TG_in 1069 (by decide +kernel) (by decide +kernel)
theorem tw_1070 : (.methodLink RX12 144 yX12_cell : Cond) ∈ TG := TG_in 1070 (by decide +kernel) (by decide +kernel)
theorem tw_1072 : (.instanceMethod yX12_cell : Cond) ∈ TG := TG_in 1072 (by decide +kernel) (by decide +kernel)
theorem tw_1073 : (.code yX12_cell cX12_cell 5 (some .int) : Cond) ∈ TG := TG_in 1073 (by decide +kernel) (by decide +kernel)
theorem tw_1074 : (.methodLink RX12 165 yX12_change : Cond) ∈ TG := TG_in 1074 (by decide +kernel) (by decide +kernel)
theorem tw_1076 : (.instanceMethod yX12_change : Cond) ∈ TG := TG_in 1076 (by decide +kernel) (by decide +kernel)
theorem tw_1077 : (.code yX12_change cX12_change 9 (some .boolean) : Cond) ∈ TG := TG_in 1077 (by decide +kernel) (by decide +kernel)
theorem tw_1078 : (.methodLink RX12 152 yX12_aloneRow : Cond) ∈ TG := TG_in 1078 (by decide +kernel) (by decide +kernel)
theorem tw_1080 : (.instanceMethod yX12_aloneRow : Cond) ∈ TG := TG_in 1080 (by decide +kernel) (by decide +kernel)
theorem tw_1081 : (.code yX12_aloneRow cX12_aloneRow 8 (none) : Cond) ∈ TG := TG_in 1081 (by decide +kernel) (by decide +kernel)
theorem tw_1082 : (.methodLink RX12 138 yX12_holdsOfRow : Cond) ∈ TG := TG_in 1082 (by decide +kernel) (by decide +kernel)
theorem tw_1084 : (.instanceMethod yX12_holdsOfRow : Cond) ∈ TG := TG_in 1084 (by decide +kernel) (by decide +kernel)
theorem tw_1085 : (.code yX12_holdsOfRow cX12_holdsOfRow 5 (some .int) : Cond) ∈ TG := TG_in 1085 (by decide +kernel) (by decide +kernel)
theorem tw_1086 : (.methodLink RL 50 yX12_face : Cond) ∈ TG := TG_in 1086 (by decide +kernel) (by decide +kernel)
theorem tw_1087 : (.instanceMethod yX12_face : Cond) ∈ TG := TG_in 1087 (by decide +kernel) (by decide +kernel)
theorem tw_1088 : (.selects yX12_face.cls yX12_face yX12_face : Cond) ∈ TG := TG_in 1088 (by decide +kernel) (by decide +kernel)
theorem tw_1089 : (.code yX12_face cX12_face 9 (some .int) : Cond) ∈ TG := TG_in 1089 (by decide +kernel) (by decide +kernel)
theorem tw_1090 : (.methodLink RL 54 yX12_there : Cond) ∈ TG := TG_in 1090 (by decide +kernel) (by decide +kernel)
theorem tw_1091 : (.instanceMethod yX12_there : Cond) ∈ TG := TG_in 1091 (by decide +kernel) (by decide +kernel)
theorem tw_1092 : (.selects yX12_there.cls yX12_there yX12_there : Cond) ∈ TG := TG_in 1092 (by decide +kernel) (by decide +kernel)
theorem tw_1093 : (.code yX12_there cX12_there 5 (some .int) : Cond) ∈ TG := TG_in 1093 (by decide +kernel) (by decide +kernel)
theorem tw_1094 : (.methodLink RL 58 yX12_at : Cond) ∈ TG := TG_in 1094 (by decide +kernel) (by decide +kernel)
theorem tw_1095 : (.instanceMethod yX12_at : Cond) ∈ TG := TG_in 1095 (by decide +kernel) (by decide +kernel)
theorem tw_1096 : (.selects yX12_at.cls yX12_at yX12_at : Cond) ∈ TG := TG_in 1096 (by decide +kernel) (by decide +kernel)
theorem tw_1097 : (.code yX12_at cX12_at 5 (some .int) : Cond) ∈ TG := TG_in 1097 (by decide +kernel) (by decide +kernel)
theorem tw_1098 : (.methodLink RX12 169 yX12_kindAt : Cond) ∈ TG := TG_in 1098 (by decide +kernel) (by decide +kernel)
theorem tw_1100 : (.instanceMethod yX12_kindAt : Cond) ∈ TG := TG_in 1100 (by decide +kernel) (by decide +kernel)
theorem tw_1101 : (.code yX12_kindAt cX12_kindAt 5 (some .int) : Cond) ∈ TG := TG_in 1101 (by decide +kernel) (by decide +kernel)
theorem tw_1102 : (.methodLink RL 62 yX12_turnAt : Cond) ∈ TG := TG_in 1102 (by decide +kernel) (by decide +kernel)
theorem tw_1103 : (.instanceMethod yX12_turnAt : Cond) ∈ TG := TG_in 1103 (by decide +kernel) (by decide +kernel)
theorem tw_1104 : (.selects yX12_turnAt.cls yX12_turnAt yX12_turnAt : Cond) ∈ TG := TG_in 1104 (by decide +kernel) (by decide +kernel)
theorem tw_1105 : (.code yX12_turnAt cX12_turnAt 5 (some .int) : Cond) ∈ TG := TG_in 1105 (by decide +kernel) (by decide +kernel)
theorem tw_1106 : (.methodLink RL 66 yX12_share : Cond) ∈ TG := TG_in 1106 (by decide +kernel) (by decide +kernel)
theorem tw_1107 : (.instanceMethod yX12_share : Cond) ∈ TG := TG_in 1107 (by decide +kernel) (by decide +kernel)
theorem tw_1108 : (.selects yX12_share.cls yX12_share yX12_share : Cond) ∈ TG := TG_in 1108 (by decide +kernel) (by decide +kernel)
theorem tw_1109 : (.code yX12_share cX12_share 3 (some .boolean) : Cond) ∈ TG := TG_in 1109 (by decide +kernel) (by decide +kernel)
theorem tw_1110 : (.methodLink RX12 172 yX12_copy : Cond) ∈ TG := TG_in 1110 (by decide +kernel) (by decide +kernel)
theorem tw_1112 : (.instanceMethod yX12_copy : Cond) ∈ TG := TG_in 1112 (by decide +kernel) (by decide +kernel)
theorem tw_1113 : (.code yX12_copy cX12_copy 4 (none) : Cond) ∈ TG := TG_in 1113 (by decide +kernel) (by decide +kernel)
theorem tw_1114 : (.methodLink RL 70 yX12_keep : Cond) ∈ TG := TG_in 1114 (by decide +kernel) (by decide +kernel)
theorem tw_1115 : (.instanceMethod yX12_keep : Cond) ∈ TG := TG_in 1115 (by decide +kernel) (by decide +kernel)
theorem tw_1116 : (.selects yX12_keep.cls yX12_keep yX12_keep : Cond) ∈ TG := TG_in 1116 (by decide +kernel) (by decide +kernel)
theorem tw_1117 : (.code yX12_keep cX12_keep 3 (some .boolean) : Cond) ∈ TG := TG_in 1117 (by decide +kernel) (by decide +kernel)
theorem tw_1118 : (.methodLink RX12 175 yX12_isSlot : Cond) ∈ TG := TG_in 1118 (by decide +kernel) (by decide +kernel)
theorem tw_1119 : (.static yX12_isSlot : Cond) ∈ TG := TG_in 1119 (by decide +kernel) (by decide +kernel)
theorem tw_1120 : (.code yX12_isSlot cX12_isSlot 1 (some .boolean) : Cond) ∈ TG := TG_in 1120 (by decide +kernel) (by decide +kernel)
theorem tw_1121 : (.methodLink RL 74 yX12_back : Cond) ∈ TG := TG_in 1121 (by decide +kernel) (by decide +kernel)
theorem tw_1122 : (.instanceMethod yX12_back : Cond) ∈ TG := TG_in 1122 (by decide +kernel) (by decide +kernel)
theorem tw_1123 : (.selects yX12_back.cls yX12_back yX12_back : Cond) ∈ TG := TG_in 1123 (by decide +kernel) (by decide +kernel)
theorem tw_1124 : (.code yX12_back cX12_back 3 (some .boolean) : Cond) ∈ TG := TG_in 1124 (by decide +kernel) (by decide +kernel)
theorem tw_1125 : (.methodLink RL 79 yX12_forget : Cond) ∈ TG := TG_in 1125 (by decide +kernel) (by decide +kernel)
theorem tw_1126 : (.instanceMethod yX12_forget : Cond) ∈ TG := TG_in 1126 (by decide +kernel) (by decide +kernel)
theorem tw_1127 : (.selects yX12_forget.cls yX12_forget yX12_forget : Cond) ∈ TG := TG_in 1127 (by decide +kernel) (by decide +kernel)
theorem tw_1128 : (.code yX12_forget cX12_forget 3 (some .boolean) : Cond) ∈ TG := TG_in 1128 (by decide +kernel) (by decide +kernel)
theorem tw_1129 : (.methodLink RL 83 yX12_same : Cond) ∈ TG := TG_in 1129 (by decide +kernel) (by decide +kernel)
theorem tw_1130 : (.instanceMethod yX12_same : Cond) ∈ TG := TG_in 1130 (by decide +kernel) (by decide +kernel)
theorem tw_1131 : (.selects yX12_same.cls yX12_same yX12_same : Cond) ∈ TG := TG_in 1131 (by decide +kernel) (by decide +kernel)
theorem tw_1132 : (.code yX12_same cX12_same 10 (some .int) : Cond) ∈ TG := TG_in 1132 (by decide +kernel) (by decide +kernel)
theorem tw_1133 : (.methodLink RL 88 yX12_made : Cond) ∈ TG := TG_in 1133 (by decide +kernel) (by decide +kernel)
theorem tw_1134 : (.instanceMethod yX12_made : Cond) ∈ TG := TG_in 1134 (by decide +kernel) (by decide +kernel)
theorem tw_1135 : (.selects yX12_made.cls yX12_made yX12_made : Cond) ∈ TG := TG_in 1135 (by decide +kernel) (by decide +kernel)
theorem tw_1136 : (.code yX12_made cX12_made 4 (some .int) : Cond) ∈ TG := TG_in 1136 (by decide +kernel) (by decide +kernel)
theorem tw_1137 : (.methodLink RL 92 yX12_box : Cond) ∈ TG := TG_in 1137 (by decide +kernel) (by decide +kernel)
theorem tw_1138 : (.instanceMethod yX12_box : Cond) ∈ TG := TG_in 1138 (by decide +kernel) (by decide +kernel)
theorem tw_1139 : (.selects yX12_box.cls yX12_box yX12_box : Cond) ∈ TG := TG_in 1139 (by decide +kernel) (by decide +kernel)
theorem tw_1140 : (.code yX12_box cX12_box 9 (some .boolean) : Cond) ∈ TG := TG_in 1140 (by decide +kernel) (by decide +kernel)
theorem tw_1141 : (.constant RX12 181 9999999 : Cond) ∈ TG := TG_in 1141 (by decide +kernel) (by decide +kernel)
theorem tw_1142 : (.constant RX12 182 100000 : Cond) ∈ TG := TG_in 1142 (by decide +kernel) (by decide +kernel)
theorem tw_1143 : (.methodLink RL 97 yX12_fill : Cond) ∈ TG := TG_in 1143 (by decide +kernel) (by decide +kernel)
theorem tw_1144 : (.instanceMethod yX12_fill : Cond) ∈ TG := TG_in 1144 (by decide +kernel) (by decide +kernel)
theorem tw_1145 : (.selects yX12_fill.cls yX12_fill yX12_fill : Cond) ∈ TG := TG_in 1145 (by decide +kernel) (by decide +kernel)
theorem tw_1146 : (.code yX12_fill cX12_fill 6 (some .int) : Cond) ∈ TG := TG_in 1146 (by decide +kernel) (by decide +kernel)
theorem tw_1147 : (.methodLink RX12 183 yX12_isIn : Cond) ∈ TG := TG_in 1147 (by decide +kernel) (by decide +kernel)
theorem tw_1149 : (.instanceMethod yX12_isIn : Cond) ∈ TG := TG_in 1149 (by decide +kernel) (by decide +kernel)
theorem tw_1150 : (.code yX12_isIn cX12_isIn 2 (some .boolean) : Cond) ∈ TG := TG_in 1150 (by decide +kernel) (by decide +kernel)
theorem tw_1151 : (.methodLink RX12 186 yX12_kindOf : Cond) ∈ TG := TG_in 1151 (by decide +kernel) (by decide +kernel)
theorem tw_1153 : (.instanceMethod yX12_kindOf : Cond) ∈ TG := TG_in 1153 (by decide +kernel) (by decide +kernel)
theorem tw_1154 : (.code yX12_kindOf cX12_kindOf 3 (some .int) : Cond) ∈ TG := TG_in 1154 (by decide +kernel) (by decide +kernel)
theorem tw_1155 : (.methodLink RX12 189 yX12_changeAt : Cond) ∈ TG := TG_in 1155 (by decide +kernel) (by decide +kernel)
theorem tw_1157 : (.instanceMethod yX12_changeAt : Cond) ∈ TG := TG_in 1157 (by decide +kernel) (by decide +kernel)
theorem tw_1158 : (.code yX12_changeAt cX12_changeAt 5 (some .boolean) : Cond) ∈ TG := TG_in 1158 (by decide +kernel) (by decide +kernel)
theorem tw_1159 : (.methodLink RL 101 yX12_replace : Cond) ∈ TG := TG_in 1159 (by decide +kernel) (by decide +kernel)
theorem tw_1160 : (.instanceMethod yX12_replace : Cond) ∈ TG := TG_in 1160 (by decide +kernel) (by decide +kernel)
theorem tw_1161 : (.selects yX12_replace.cls yX12_replace yX12_replace : Cond) ∈ TG := TG_in 1161 (by decide +kernel) (by decide +kernel)
theorem tw_1162 : (.code yX12_replace cX12_replace 6 (some .int) : Cond) ∈ TG := TG_in 1162 (by decide +kernel) (by decide +kernel)
theorem tw_1163 : (.methodLink RX12 193 yX12_turnOf : Cond) ∈ TG := TG_in 1163 (by decide +kernel) (by decide +kernel)
theorem tw_1165 : (.instanceMethod yX12_turnOf : Cond) ∈ TG := TG_in 1165 (by decide +kernel) (by decide +kernel)
theorem tw_1166 : (.code yX12_turnOf cX12_turnOf 3 (some .int) : Cond) ∈ TG := TG_in 1166 (by decide +kernel) (by decide +kernel)
theorem tw_1167 : (.methodLink RL 105 yX12_count : Cond) ∈ TG := TG_in 1167 (by decide +kernel) (by decide +kernel)
theorem tw_1168 : (.instanceMethod yX12_count : Cond) ∈ TG := TG_in 1168 (by decide +kernel) (by decide +kernel)
theorem tw_1169 : (.selects yX12_count.cls yX12_count yX12_count : Cond) ∈ TG := TG_in 1169 (by decide +kernel) (by decide +kernel)
theorem tw_1170 : (.code yX12_count cX12_count 5 (some .int) : Cond) ∈ TG := TG_in 1170 (by decide +kernel) (by decide +kernel)
theorem tw_1171 : (.methodLink RL 109 yX12_hollow : Cond) ∈ TG := TG_in 1171 (by decide +kernel) (by decide +kernel)
theorem tw_1172 : (.instanceMethod yX12_hollow : Cond) ∈ TG := TG_in 1172 (by decide +kernel) (by decide +kernel)
theorem tw_1173 : (.selects yX12_hollow.cls yX12_hollow yX12_hollow : Cond) ∈ TG := TG_in 1173 (by decide +kernel) (by decide +kernel)
theorem tw_1174 : (.code yX12_hollow cX12_hollow 5 (some .int) : Cond) ∈ TG := TG_in 1174 (by decide +kernel) (by decide +kernel)
theorem tw_1175 : (.methodLink RX12 199 yX12_kindBeside : Cond) ∈ TG := TG_in 1175 (by decide +kernel) (by decide +kernel)
theorem tw_1177 : (.instanceMethod yX12_kindBeside : Cond) ∈ TG := TG_in 1177 (by decide +kernel) (by decide +kernel)
theorem tw_1178 : (.code yX12_kindBeside cX12_kindBeside 5 (some .int) : Cond) ∈ TG := TG_in 1178 (by decide +kernel) (by decide +kernel)
theorem tw_1179 : (.methodLink RX12 196 yX12_next : Cond) ∈ TG := TG_in 1179 (by decide +kernel) (by decide +kernel)
theorem tw_1180 : (.static yX12_next : Cond) ∈ TG := TG_in 1180 (by decide +kernel) (by decide +kernel)
theorem tw_1181 : (.code yX12_next cX12_next 5 (some .int) : Cond) ∈ TG := TG_in 1181 (by decide +kernel) (by decide +kernel)
theorem tw_1182 : (.methodLink RL 114 yX12_move : Cond) ∈ TG := TG_in 1182 (by decide +kernel) (by decide +kernel)
theorem tw_1183 : (.instanceMethod yX12_move : Cond) ∈ TG := TG_in 1183 (by decide +kernel) (by decide +kernel)
theorem tw_1184 : (.selects yX12_move.cls yX12_move yX12_move : Cond) ∈ TG := TG_in 1184 (by decide +kernel) (by decide +kernel)
theorem tw_1185 : (.code yX12_move cX12_move 11 (some .int) : Cond) ∈ TG := TG_in 1185 (by decide +kernel) (by decide +kernel)
theorem tw_1186 : (.methodLink RX12 203 yX12_reads : Cond) ∈ TG := TG_in 1186 (by decide +kernel) (by decide +kernel)
theorem tw_1188 : (.instanceMethod yX12_reads : Cond) ∈ TG := TG_in 1188 (by decide +kernel) (by decide +kernel)
theorem tw_1189 : (.code yX12_reads cX12_reads 3 (none) : Cond) ∈ TG := TG_in 1189 (by decide +kernel) (by decide +kernel)
theorem tw_1190 : (.methodLink RL 118 yX12_turnBox : Cond) ∈ TG := TG_in 1190 (by decide +kernel) (by decide +kernel)
theorem tw_1191 : (.instanceMethod yX12_turnBox : Cond) ∈ TG := TG_in 1191 (by decide +kernel) (by decide +kernel)
theorem tw_1192 : (.selects yX12_turnBox.cls yX12_turnBox yX12_turnBox : Cond) ∈ TG := TG_in 1192 (by decide +kernel) (by decide +kernel)
theorem tw_1193 : (.code yX12_turnBox cX12_turnBox 10 (some .int) : Cond) ∈ TG := TG_in 1193 (by decide +kernel) (by decide +kernel)
theorem tw_1194 : (.methodLink RX12 207 yX12_along : Cond) ∈ TG := TG_in 1194 (by decide +kernel) (by decide +kernel)
theorem tw_1196 : (.instanceMethod yX12_along : Cond) ∈ TG := TG_in 1196 (by decide +kernel) (by decide +kernel)
theorem tw_1197 : (.code yX12_along cX12_along 2 (some .int) : Cond) ∈ TG := TG_in 1197 (by decide +kernel) (by decide +kernel)
theorem tw_1198 : (.methodLink RL 122 yX12_cut : Cond) ∈ TG := TG_in 1198 (by decide +kernel) (by decide +kernel)
theorem tw_1199 : (.instanceMethod yX12_cut : Cond) ∈ TG := TG_in 1199 (by decide +kernel) (by decide +kernel)
theorem tw_1200 : (.selects yX12_cut.cls yX12_cut yX12_cut : Cond) ∈ TG := TG_in 1200 (by decide +kernel) (by decide +kernel)
theorem tw_1201 : (.code yX12_cut cX12_cut 10 (some .int) : Cond) ∈ TG := TG_in 1201 (by decide +kernel) (by decide +kernel)
theorem tw_1202 : (.constantLong RX12 210 2 : Cond) ∈ TG := TG_in 1202 (by decide +kernel) (by decide +kernel)
theorem tw_1203 : (.methodLink RL 126 yX12_parts : Cond) ∈ TG := TG_in 1203 (by decide +kernel) (by decide +kernel)
theorem tw_1204 : (.instanceMethod yX12_parts : Cond) ∈ TG := TG_in 1204 (by decide +kernel) (by decide +kernel)
theorem tw_1205 : (.selects yX12_parts.cls yX12_parts yX12_parts : Cond) ∈ TG := TG_in 1205 (by decide +kernel) (by decide +kernel)
theorem tw_1206 : (.code yX12_parts cX12_parts 2 (some .int) : Cond) ∈ TG := TG_in 1206 (by decide +kernel) (by decide +kernel)
theorem tw_1207 : (.methodLink RX12 215 yX12_findParts : Cond) ∈ TG := TG_in 1207 (by decide +kernel) (by decide +kernel)
theorem tw_1209 : (.instanceMethod yX12_findParts : Cond) ∈ TG := TG_in 1209 (by decide +kernel) (by decide +kernel)
theorem tw_1210 : (.code yX12_findParts cX12_findParts 7 (none) : Cond) ∈ TG := TG_in 1210 (by decide +kernel) (by decide +kernel)
theorem tw_1211 : (.methodLink RL 130 yX12_part : Cond) ∈ TG := TG_in 1211 (by decide +kernel) (by decide +kernel)
theorem tw_1212 : (.instanceMethod yX12_part : Cond) ∈ TG := TG_in 1212 (by decide +kernel) (by decide +kernel)
theorem tw_1213 : (.selects yX12_part.cls yX12_part yX12_part : Cond) ∈ TG := TG_in 1213 (by decide +kernel) (by decide +kernel)
theorem tw_1214 : (.code yX12_part cX12_part 5 (some .int) : Cond) ∈ TG := TG_in 1214 (by decide +kernel) (by decide +kernel)
theorem tw_1215 : (.methodLink RL 134 yX12_partOf : Cond) ∈ TG := TG_in 1215 (by decide +kernel) (by decide +kernel)
theorem tw_1216 : (.instanceMethod yX12_partOf : Cond) ∈ TG := TG_in 1216 (by decide +kernel) (by decide +kernel)
theorem tw_1217 : (.selects yX12_partOf.cls yX12_partOf yX12_partOf : Cond) ∈ TG := TG_in 1217 (by decide +kernel) (by decide +kernel)
theorem tw_1218 : (.code yX12_partOf cX12_partOf 6 (some .int) : Cond) ∈ TG := TG_in 1218 (by decide +kernel) (by decide +kernel)
theorem tw_1219 : (.methodLink RX12 218 yX12_isLoose : Cond) ∈ TG := TG_in 1219 (by decide +kernel) (by decide +kernel)
theorem tw_1221 : (.instanceMethod yX12_isLoose : Cond) ∈ TG := TG_in 1221 (by decide +kernel) (by decide +kernel)
theorem tw_1222 : (.code yX12_isLoose cX12_isLoose 4 (some .boolean) : Cond) ∈ TG := TG_in 1222 (by decide +kernel) (by decide +kernel)
theorem tw_1223 : (.methodLink RX12 222 yX12_falls : Cond) ∈ TG := TG_in 1223 (by decide +kernel) (by decide +kernel)
theorem tw_1225 : (.instanceMethod yX12_falls : Cond) ∈ TG := TG_in 1225 (by decide +kernel) (by decide +kernel)
theorem tw_1226 : (.code yX12_falls cX12_falls 7 (some .int) : Cond) ∈ TG := TG_in 1226 (by decide +kernel) (by decide +kernel)
theorem tw_1227 : (.methodLink RL 138 yX12_settle : Cond) ∈ TG := TG_in 1227 (by decide +kernel) (by decide +kernel)
theorem tw_1228 : (.instanceMethod yX12_settle : Cond) ∈ TG := TG_in 1228 (by decide +kernel) (by decide +kernel)
theorem tw_1229 : (.selects yX12_settle.cls yX12_settle yX12_settle : Cond) ∈ TG := TG_in 1229 (by decide +kernel) (by decide +kernel)
theorem tw_1230 : (.code yX12_settle cX12_settle 3 (some .int) : Cond) ∈ TG := TG_in 1230 (by decide +kernel) (by decide +kernel)
theorem tw_1231 : (.methodLink RX12 225 yX12_nextToFall : Cond) ∈ TG := TG_in 1231 (by decide +kernel) (by decide +kernel)
theorem tw_1233 : (.instanceMethod yX12_nextToFall : Cond) ∈ TG := TG_in 1233 (by decide +kernel) (by decide +kernel)
theorem tw_1234 : (.code yX12_nextToFall cX12_nextToFall 4 (some .int) : Cond) ∈ TG := TG_in 1234 (by decide +kernel) (by decide +kernel)
theorem tw_1235 : (.methodLink RX12 228 yX12_fall : Cond) ∈ TG := TG_in 1235 (by decide +kernel) (by decide +kernel)
theorem tw_1237 : (.instanceMethod yX12_fall : Cond) ∈ TG := TG_in 1237 (by decide +kernel) (by decide +kernel)
theorem tw_1238 : (.code yX12_fall cX12_fall 6 (none) : Cond) ∈ TG := TG_in 1238 (by decide +kernel) (by decide +kernel)
theorem tw_1239 : (.methodLink RL 144 yX12_fallen : Cond) ∈ TG := TG_in 1239 (by decide +kernel) (by decide +kernel)
theorem tw_1240 : (.instanceMethod yX12_fallen : Cond) ∈ TG := TG_in 1240 (by decide +kernel) (by decide +kernel)
theorem tw_1241 : (.selects yX12_fallen.cls yX12_fallen yX12_fallen : Cond) ∈ TG := TG_in 1241 (by decide +kernel) (by decide +kernel)
theorem tw_1242 : (.code yX12_fallen cX12_fallen 3 (some .int) : Cond) ∈ TG := TG_in 1242 (by decide +kernel) (by decide +kernel)
theorem tw_1243 : (.methodLink RL 152 yX12_load : Cond) ∈ TG := TG_in 1243 (by decide +kernel) (by decide +kernel)
theorem tw_1244 : (.instanceMethod yX12_load : Cond) ∈ TG := TG_in 1244 (by decide +kernel) (by decide +kernel)
theorem tw_1245 : (.selects yX12_load.cls yX12_load yX12_load : Cond) ∈ TG := TG_in 1245 (by decide +kernel) (by decide +kernel)
theorem tw_1246 : (.code yX12_load cX12_load 5 (some .int) : Cond) ∈ TG := TG_in 1246 (by decide +kernel) (by decide +kernel)
theorem tw_1247 : (.methodLink RX12 231 yX12_loadOf : Cond) ∈ TG := TG_in 1247 (by decide +kernel) (by decide +kernel)
theorem tw_1249 : (.instanceMethod yX12_loadOf : Cond) ∈ TG := TG_in 1249 (by decide +kernel) (by decide +kernel)
theorem tw_1250 : (.code yX12_loadOf cX12_loadOf 5 (some .int) : Cond) ∈ TG := TG_in 1250 (by decide +kernel) (by decide +kernel)
theorem tw_1251 : (.methodLink RL 156 yX12_overloaded : Cond) ∈ TG := TG_in 1251 (by decide +kernel) (by decide +kernel)
theorem tw_1252 : (.instanceMethod yX12_overloaded : Cond) ∈ TG := TG_in 1252 (by decide +kernel) (by decide +kernel)
theorem tw_1253 : (.selects yX12_overloaded.cls yX12_overloaded yX12_overloaded : Cond) ∈ TG := TG_in 1253 (by decide +kernel) (by decide +kernel)
theorem tw_1254 : (.code yX12_overloaded cX12_overloaded 4 (some .int) : Cond) ∈ TG := TG_in 1254 (by decide +kernel) (by decide +kernel)
theorem tw_1255 : (.methodLink RL 160 yX12_light : Cond) ∈ TG := TG_in 1255 (by decide +kernel) (by decide +kernel)
theorem tw_1256 : (.instanceMethod yX12_light : Cond) ∈ TG := TG_in 1256 (by decide +kernel) (by decide +kernel)
theorem tw_1257 : (.selects yX12_light.cls yX12_light yX12_light : Cond) ∈ TG := TG_in 1257 (by decide +kernel) (by decide +kernel)
theorem tw_1258 : (.code yX12_light cX12_light 5 (some .int) : Cond) ∈ TG := TG_in 1258 (by decide +kernel) (by decide +kernel)
theorem tw_1259 : (.methodLink RX12 234 yX12_shines : Cond) ∈ TG := TG_in 1259 (by decide +kernel) (by decide +kernel)
theorem tw_1261 : (.instanceMethod yX12_shines : Cond) ∈ TG := TG_in 1261 (by decide +kernel) (by decide +kernel)
theorem tw_1262 : (.code yX12_shines cX12_shines 7 (none) : Cond) ∈ TG := TG_in 1262 (by decide +kernel) (by decide +kernel)
theorem tw_1263 : (.methodLink RL 164 yX12_dark : Cond) ∈ TG := TG_in 1263 (by decide +kernel) (by decide +kernel)
theorem tw_1264 : (.instanceMethod yX12_dark : Cond) ∈ TG := TG_in 1264 (by decide +kernel) (by decide +kernel)
theorem tw_1265 : (.selects yX12_dark.cls yX12_dark yX12_dark : Cond) ∈ TG := TG_in 1265 (by decide +kernel) (by decide +kernel)
theorem tw_1266 : (.code yX12_dark cX12_dark 5 (some .int) : Cond) ∈ TG := TG_in 1266 (by decide +kernel) (by decide +kernel)
theorem tw_1267 : (.methodLink RL 168 yX12_faces : Cond) ∈ TG := TG_in 1267 (by decide +kernel) (by decide +kernel)
theorem tw_1268 : (.instanceMethod yX12_faces : Cond) ∈ TG := TG_in 1268 (by decide +kernel) (by decide +kernel)
theorem tw_1269 : (.selects yX12_faces.cls yX12_faces yX12_faces : Cond) ∈ TG := TG_in 1269 (by decide +kernel) (by decide +kernel)
theorem tw_1270 : (.code yX12_faces cX12_faces 5 (some .int) : Cond) ∈ TG := TG_in 1270 (by decide +kernel) (by decide +kernel)
theorem tw_1271 : (.methodLink RL 172 yX12_path : Cond) ∈ TG := TG_in 1271 (by decide +kernel) (by decide +kernel)
theorem tw_1272 : (.instanceMethod yX12_path : Cond) ∈ TG := TG_in 1272 (by decide +kernel) (by decide +kernel)
theorem tw_1273 : (.selects yX12_path.cls yX12_path yX12_path : Cond) ∈ TG := TG_in 1273 (by decide +kernel) (by decide +kernel)
theorem tw_1274 : (.code yX12_path cX12_path 11 (some .int) : Cond) ∈ TG := TG_in 1274 (by decide +kernel) (by decide +kernel)
theorem tw_1275 : (.methodLink RX12 237 yX12_isStand : Cond) ∈ TG := TG_in 1275 (by decide +kernel) (by decide +kernel)
theorem tw_1277 : (.instanceMethod yX12_isStand : Cond) ∈ TG := TG_in 1277 (by decide +kernel) (by decide +kernel)
theorem tw_1278 : (.code yX12_isStand cX12_isStand 2 (some .boolean) : Cond) ∈ TG := TG_in 1278 (by decide +kernel) (by decide +kernel)
theorem tw_1279 : (.methodLink RX12 240 yX12_isFree : Cond) ∈ TG := TG_in 1279 (by decide +kernel) (by decide +kernel)
theorem tw_1281 : (.instanceMethod yX12_isFree : Cond) ∈ TG := TG_in 1281 (by decide +kernel) (by decide +kernel)
theorem tw_1282 : (.code yX12_isFree cX12_isFree 2 (some .boolean) : Cond) ∈ TG := TG_in 1282 (by decide +kernel) (by decide +kernel)
theorem tw_1283 : (.methodLink RL 176 yX12_places : Cond) ∈ TG := TG_in 1283 (by decide +kernel) (by decide +kernel)
theorem tw_1284 : (.instanceMethod yX12_places : Cond) ∈ TG := TG_in 1284 (by decide +kernel) (by decide +kernel)
theorem tw_1285 : (.selects yX12_places.cls yX12_places yX12_places : Cond) ∈ TG := TG_in 1285 (by decide +kernel) (by decide +kernel)
theorem tw_1286 : (.code yX12_places cX12_places 3 (some .int) : Cond) ∈ TG := TG_in 1286 (by decide +kernel) (by decide +kernel)
theorem tw_1287 : (.methodLink RX12 252 yX12_goes : Cond) ∈ TG := TG_in 1287 (by decide +kernel) (by decide +kernel)
theorem tw_1289 : (.instanceMethod yX12_goes : Cond) ∈ TG := TG_in 1289 (by decide +kernel) (by decide +kernel)
theorem tw_1290 : (.code yX12_goes cX12_goes 9 (some .int) : Cond) ∈ TG := TG_in 1290 (by decide +kernel) (by decide +kernel)
theorem tw_1291 : (.methodLink RX12 246 yX12_findBlocks : Cond) ∈ TG := TG_in 1291 (by decide +kernel) (by decide +kernel)
theorem tw_1293 : (.instanceMethod yX12_findBlocks : Cond) ∈ TG := TG_in 1293 (by decide +kernel) (by decide +kernel)
theorem tw_1294 : (.code yX12_findBlocks cX12_findBlocks 3 (none) : Cond) ∈ TG := TG_in 1294 (by decide +kernel) (by decide +kernel)
theorem tw_1295 : (.methodLink RX12 249 yX12_goesIn : Cond) ∈ TG := TG_in 1295 (by decide +kernel) (by decide +kernel)
theorem tw_1297 : (.instanceMethod yX12_goesIn : Cond) ∈ TG := TG_in 1297 (by decide +kernel) (by decide +kernel)
theorem tw_1298 : (.code yX12_goesIn cX12_goesIn 10 (some .boolean) : Cond) ∈ TG := TG_in 1298 (by decide +kernel) (by decide +kernel)
theorem tw_1299 : (.methodLink RL 180 yX12_place : Cond) ∈ TG := TG_in 1299 (by decide +kernel) (by decide +kernel)
theorem tw_1300 : (.instanceMethod yX12_place : Cond) ∈ TG := TG_in 1300 (by decide +kernel) (by decide +kernel)
theorem tw_1301 : (.selects yX12_place.cls yX12_place yX12_place : Cond) ∈ TG := TG_in 1301 (by decide +kernel) (by decide +kernel)
theorem tw_1302 : (.code yX12_place cX12_place 4 (some .int) : Cond) ∈ TG := TG_in 1302 (by decide +kernel) (by decide +kernel)
theorem tw_1303 : (.methodLink RL 184 yX12_differs : Cond) ∈ TG := TG_in 1303 (by decide +kernel) (by decide +kernel)
theorem tw_1304 : (.instanceMethod yX12_differs : Cond) ∈ TG := TG_in 1304 (by decide +kernel) (by decide +kernel)
theorem tw_1305 : (.selects yX12_differs.cls yX12_differs yX12_differs : Cond) ∈ TG := TG_in 1305 (by decide +kernel) (by decide +kernel)
theorem tw_1306 : (.code yX12_differs cX12_differs 7 (some .int) : Cond) ∈ TG := TG_in 1306 (by decide +kernel) (by decide +kernel)
theorem tw_1307 : (.arrayClass .long : Cond) ∈ TG := TG_in 1307 (by decide +kernel) (by decide +kernel)
def D_X0 : List Value := [.null, .null]
theorem fw_X0 : FW 0 RX0 TX0 2 := ⟨rfl, by decide +kernel⟩
theorem pw_X0 : PW RX0 TX0 2 := ⟨tyX0, tyX0_ok, nmX0⟩
theorem nw_X0 : NW 0 RX0 TX0 2 D_X0 := ⟨fw_X0, ⟨tyX0, tyX0_ok, by decide +kernel⟩, fun X => rfl, TG_in 127 (by decide +kernel) (by decide +kernel), TG_in 52 (by decide +kernel) (by decide +kernel)⟩
def D_X1 : List Value := [.null, .null, .int 0]
theorem fw_X1 : FW 1 RX1 TX1 3 := ⟨rfl, by decide +kernel⟩
theorem pw_X1 : PW RX1 TX1 3 := ⟨tyX1, tyX1_ok, nmX1⟩
theorem nw_X1 : NW 1 RX1 TX1 3 D_X1 := ⟨fw_X1, ⟨tyX1, tyX1_ok, by decide +kernel⟩, fun X => rfl, TG_in 156 (by decide +kernel) (by decide +kernel), TG_in 54 (by decide +kernel) (by decide +kernel)⟩
def D_X2 : List Value := [.null, .null, .null, .null, .null, .int 0]
theorem fw_X2 : FW 2 RX2 TX2 6 := ⟨rfl, by decide +kernel⟩
theorem pw_X2 : PW RX2 TX2 6 := ⟨tyX2, tyX2_ok, nmX2⟩
theorem nw_X2 : NW 2 RX2 TX2 6 D_X2 := ⟨fw_X2, ⟨tyX2, tyX2_ok, by decide +kernel⟩, fun X => rfl, TG_in 99 (by decide +kernel) (by decide +kernel), TG_in 51 (by decide +kernel) (by decide +kernel)⟩
def D_X3 : List Value := [.null]
theorem fw_X3 : FW 3 RX3 TX3 1 := ⟨rfl, by decide +kernel⟩
theorem pw_X3 : PW RX3 TX3 1 := ⟨tyX3, tyX3_ok, nmX3⟩
theorem nw_X3 : NW 3 RX3 TX3 1 D_X3 := ⟨fw_X3, ⟨tyX3, tyX3_ok, by decide +kernel⟩, fun X => rfl, TG_in 198 (by decide +kernel) (by decide +kernel), TG_in 56 (by decide +kernel) (by decide +kernel)⟩
def D_X4 : List Value := [.null, .int 0]
theorem fw_X4 : FW 4 RX4 TX4 2 := ⟨rfl, by decide +kernel⟩
theorem pw_X4 : PW RX4 TX4 2 := ⟨tyX4, tyX4_ok, nmX4⟩
theorem nw_X4 : NW 4 RX4 TX4 2 D_X4 := ⟨fw_X4, ⟨tyX4, tyX4_ok, by decide +kernel⟩, fun X => rfl, TG_in 310 (by decide +kernel) (by decide +kernel), TG_in 60 (by decide +kernel) (by decide +kernel)⟩
def D_X5 : List Value := [.int 0, .int 0, .int 0, .int 0]
theorem fw_X5 : FW 5 RX5 TX5 4 := ⟨rfl, by decide +kernel⟩
theorem pw_X5 : PW RX5 TX5 4 := ⟨tyX5, tyX5_ok, nmX5⟩
theorem nw_X5 : NW 5 RX5 TX5 4 D_X5 := ⟨fw_X5, ⟨tyX5, tyX5_ok, by decide +kernel⟩, fun X => rfl, TG_in 76 (by decide +kernel) (by decide +kernel), TG_in 50 (by decide +kernel) (by decide +kernel)⟩
def D_X6 : List Value := [.null, .null, .null, .null, .int 0]
theorem fw_X6 : FW 6 RX6 TX6 5 := ⟨rfl, by decide +kernel⟩
theorem pw_X6 : PW RX6 TX6 5 := ⟨tyX6, tyX6_ok, nmX6⟩
theorem nw_X6 : NW 6 RX6 TX6 5 D_X6 := ⟨fw_X6, ⟨tyX6, tyX6_ok, by decide +kernel⟩, fun X => rfl, TG_in 174 (by decide +kernel) (by decide +kernel), TG_in 55 (by decide +kernel) (by decide +kernel)⟩
def D_X7 : List Value := [.null, .int 0]
theorem fw_X7 : FW 7 RX7 TX7 2 := ⟨rfl, by decide +kernel⟩
theorem pw_X7 : PW RX7 TX7 2 := ⟨tyX7, tyX7_ok, nmX7⟩
theorem nw_X7 : NW 7 RX7 TX7 2 D_X7 := ⟨fw_X7, ⟨tyX7, tyX7_ok, by decide +kernel⟩, fun X => rfl, TG_in 366 (by decide +kernel) (by decide +kernel), TG_in 61 (by decide +kernel) (by decide +kernel)⟩
def D_X9 : List Value := [.null, .null, .int 0]
theorem fw_X9 : FW 8 RX9 TX9 3 := ⟨rfl, by decide +kernel⟩
theorem pw_X9 : PW RX9 TX9 3 := ⟨tyX9, tyX9_ok, nmX9⟩
theorem nw_X9 : NW 8 RX9 TX9 3 D_X9 := ⟨fw_X9, ⟨tyX9, tyX9_ok, by decide +kernel⟩, fun X => rfl, TG_in 209 (by decide +kernel) (by decide +kernel), TG_in 57 (by decide +kernel) (by decide +kernel)⟩
def D_X10 : List Value := [.null, .null]
theorem fw_X10 : FW 9 RX10 TX10 2 := ⟨rfl, by decide +kernel⟩
theorem pw_X10 : PW RX10 TX10 2 := ⟨tyX10, tyX10_ok, nmX10⟩
theorem nw_X10 : NW 9 RX10 TX10 2 D_X10 := ⟨fw_X10, ⟨tyX10, tyX10_ok, by decide +kernel⟩, fun X => rfl, TG_in 141 (by decide +kernel) (by decide +kernel), TG_in 53 (by decide +kernel) (by decide +kernel)⟩
def D_X11 : List Value := [.null, .null, .null, .null, .null, .null, .null, .null, .null, .null, .null, .null, .null, .int 0]
theorem fw_X11 : FW 10 RX11 TX11 14 := ⟨rfl, by decide +kernel⟩
theorem pw_X11 : PW RX11 TX11 14 := ⟨tyX11, tyX11_ok, nmX11⟩
theorem nw_X11 : NW 10 RX11 TX11 14 D_X11 := ⟨fw_X11, ⟨tyX11, tyX11_ok, by decide +kernel⟩, fun X => rfl, TG_in 68 (by decide +kernel) (by decide +kernel), TG_in 49 (by decide +kernel) (by decide +kernel)⟩
def D_X12 : List Value := [.int 0, .int 0, .null, .null, .null, .null, .null, .null, .null, .null, .null, .null, .null, .int 0, .int 0, .null, .null, .null, .null, .null, .null, .null, .null, .null, .int 0, .null, .int 0, .null, .null, .null, .null, .null, .int 0]
theorem fw_X12 : FW 11 RX12 TX12 33 := ⟨rfl, by decide +kernel⟩
theorem pw_X12 : PW RX12 TX12 33 := ⟨tyX12, tyX12_ok, nmX12⟩
theorem nw_X12 : NW 11 RX12 TX12 33 D_X12 := ⟨fw_X12, ⟨tyX12, tyX12_ok, by decide +kernel⟩, fun X => rfl, TG_in 885 (by decide +kernel) (by decide +kernel), TG_in 58 (by decide +kernel) (by decide +kernel)⟩
end
