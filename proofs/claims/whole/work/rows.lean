section
/-- a private method of a class that the tables say can be made, by its rows of tables_1 -/
def lw_okq (q : MethodName × Nat) : Prop := (q.1.cls ≠ "java/lang/invoke/MethodHandle" ∧ q.1.cls ≠ "java/lang/invoke/VarHandle") ∧ Cond.instantiable q.1.cls q.2 ∈ tables_1 ∧ Cond.privateMethod q.1 ∈ tables_1 ∧ Cond.instanceMethod q.1 ∈ tables_1
theorem lw_p0 : lw_okq (⟨"StackYard$Yard", "ownLayer", "(I)LStackYard$Layer;"⟩, 2) := ⟨⟨by decide +kernel, by decide +kernel⟩, List.mem_of_getElem? (i := 93) (by decide +kernel), List.mem_of_getElem? (i := 313) (by decide +kernel), List.mem_of_getElem? (i := 314) (by decide +kernel)⟩
theorem lw_p1 : lw_okq (⟨"StackYard$Yard", "ownRow", "(II)LStackYard$Row;"⟩, 2) := ⟨⟨by decide +kernel, by decide +kernel⟩, List.mem_of_getElem? (i := 93) (by decide +kernel), List.mem_of_getElem? (i := 397) (by decide +kernel), List.mem_of_getElem? (i := 398) (by decide +kernel)⟩
theorem lw_p2 : lw_okq (⟨"StackYard", "codeIn", "(IIII)I"⟩, 14) := ⟨⟨by decide +kernel, by decide +kernel⟩, List.mem_of_getElem? (i := 20) (by decide +kernel), List.mem_of_getElem? (i := 420) (by decide +kernel), List.mem_of_getElem? (i := 421) (by decide +kernel)⟩
theorem lw_p3 : lw_okq (⟨"StackYard", "slotsKeeping", "()I"⟩, 14) := ⟨⟨by decide +kernel, by decide +kernel⟩, List.mem_of_getElem? (i := 20) (by decide +kernel), List.mem_of_getElem? (i := 463) (by decide +kernel), List.mem_of_getElem? (i := 464) (by decide +kernel)⟩
theorem lw_p4 : lw_okq (⟨"StackYard", "readBox", "(I)V"⟩, 14) := ⟨⟨by decide +kernel, by decide +kernel⟩, List.mem_of_getElem? (i := 20) (by decide +kernel), List.mem_of_getElem? (i := 502) (by decide +kernel), List.mem_of_getElem? (i := 503) (by decide +kernel)⟩
theorem lw_p5 : lw_okq (⟨"StackYard$Grid", "readRow", "(LStackYard$Row;I)V"⟩, 3) := ⟨⟨by decide +kernel, by decide +kernel⟩, List.mem_of_getElem? (i := 108) (by decide +kernel), List.mem_of_getElem? (i := 512) (by decide +kernel), List.mem_of_getElem? (i := 513) (by decide +kernel)⟩
theorem lw_p6 : lw_okq (⟨"StackYard", "findParts", "(I)V"⟩, 14) := ⟨⟨by decide +kernel, by decide +kernel⟩, List.mem_of_getElem? (i := 20) (by decide +kernel), List.mem_of_getElem? (i := 583) (by decide +kernel), List.mem_of_getElem? (i := 584) (by decide +kernel)⟩
theorem lw_p7 : lw_okq (⟨"StackYard$Parts", "gather", "(LStackYard$Grid;II)I"⟩, 5) := ⟨⟨by decide +kernel, by decide +kernel⟩, List.mem_of_getElem? (i := 126) (by decide +kernel), List.mem_of_getElem? (i := 592) (by decide +kernel), List.mem_of_getElem? (i := 593) (by decide +kernel)⟩
theorem lw_p8 : lw_okq (⟨"StackYard$Parts", "freeBelow", "(IILStackYard$Grid;)I"⟩, 5) := ⟨⟨by decide +kernel, by decide +kernel⟩, List.mem_of_getElem? (i := 126) (by decide +kernel), List.mem_of_getElem? (i := 628) (by decide +kernel), List.mem_of_getElem? (i := 629) (by decide +kernel)⟩
theorem lw_p9 : lw_okq (⟨"StackYard", "noteFall", "(II)V"⟩, 14) := ⟨⟨by decide +kernel, by decide +kernel⟩, List.mem_of_getElem? (i := 20) (by decide +kernel), List.mem_of_getElem? (i := 645) (by decide +kernel), List.mem_of_getElem? (i := 646) (by decide +kernel)⟩
theorem lw_p10 : lw_okq (⟨"StackYard$Lamps", "spread", "(ILStackYard$Grid;LStackYard$Kinds;)V"⟩, 1) := ⟨⟨by decide +kernel, by decide +kernel⟩, List.mem_of_getElem? (i := 150) (by decide +kernel), List.mem_of_getElem? (i := 695) (by decide +kernel), List.mem_of_getElem? (i := 696) (by decide +kernel)⟩
theorem lw_p11 : lw_okq (⟨"StackYard$Walk", "reach", "(LStackYard$Grid;II)V"⟩, 3) := ⟨⟨by decide +kernel, by decide +kernel⟩, List.mem_of_getElem? (i := 161) (by decide +kernel), List.mem_of_getElem? (i := 726) (by decide +kernel), List.mem_of_getElem? (i := 727) (by decide +kernel)⟩
theorem lw_p12 : lw_okq (⟨"StackYard$Walk", "leave", "(LStackYard$Grid;I)V"⟩, 3) := ⟨⟨by decide +kernel, by decide +kernel⟩, List.mem_of_getElem? (i := 161) (by decide +kernel), List.mem_of_getElem? (i := 730) (by decide +kernel), List.mem_of_getElem? (i := 731) (by decide +kernel)⟩
theorem lw_p13 : lw_okq (⟨"StackYard", "seekWay", "(III)I"⟩, 14) := ⟨⟨by decide +kernel, by decide +kernel⟩, List.mem_of_getElem? (i := 20) (by decide +kernel), List.mem_of_getElem? (i := 739) (by decide +kernel), List.mem_of_getElem? (i := 740) (by decide +kernel)⟩
theorem lw_p14 : lw_okq (⟨"java/lang/Throwable", "fillInStackTrace", "(I)Ljava/lang/Throwable;"⟩, 6) := ⟨⟨by decide +kernel, by decide +kernel⟩, List.mem_of_getElem? (i := 812) (by decide +kernel), List.mem_of_getElem? (i := 810) (by decide +kernel), List.mem_of_getElem? (i := 811) (by decide +kernel)⟩
theorem lw_p15 : lw_okq (⟨"StackYardModel", "times", "(II)I"⟩, 33) := ⟨⟨by decide +kernel, by decide +kernel⟩, List.mem_of_getElem? (i := 837) (by decide +kernel), List.mem_of_getElem? (i := 962) (by decide +kernel), List.mem_of_getElem? (i := 963) (by decide +kernel)⟩
def lw_privs_1 : List (MethodName × Nat) := [(⟨"StackYard$Yard", "ownLayer", "(I)LStackYard$Layer;"⟩, 2), (⟨"StackYard$Yard", "ownRow", "(II)LStackYard$Row;"⟩, 2), (⟨"StackYard", "codeIn", "(IIII)I"⟩, 14), (⟨"StackYard", "slotsKeeping", "()I"⟩, 14), (⟨"StackYard", "readBox", "(I)V"⟩, 14), (⟨"StackYard$Grid", "readRow", "(LStackYard$Row;I)V"⟩, 3), (⟨"StackYard", "findParts", "(I)V"⟩, 14), (⟨"StackYard$Parts", "gather", "(LStackYard$Grid;II)I"⟩, 5), (⟨"StackYard$Parts", "freeBelow", "(IILStackYard$Grid;)I"⟩, 5), (⟨"StackYard", "noteFall", "(II)V"⟩, 14), (⟨"StackYard$Lamps", "spread", "(ILStackYard$Grid;LStackYard$Kinds;)V"⟩, 1), (⟨"StackYard$Walk", "reach", "(LStackYard$Grid;II)V"⟩, 3), (⟨"StackYard$Walk", "leave", "(LStackYard$Grid;I)V"⟩, 3), (⟨"StackYard", "seekWay", "(III)I"⟩, 14), (⟨"java/lang/Throwable", "fillInStackTrace", "(I)Ljava/lang/Throwable;"⟩, 6), (⟨"StackYardModel", "times", "(II)I"⟩, 33)]
theorem lw_r1 : ∀ q ∈ lw_privs_1, lw_okq q := List.forall_mem_cons.mpr ⟨lw_p0, List.forall_mem_cons.mpr ⟨lw_p1, List.forall_mem_cons.mpr ⟨lw_p2, List.forall_mem_cons.mpr ⟨lw_p3, List.forall_mem_cons.mpr ⟨lw_p4, List.forall_mem_cons.mpr ⟨lw_p5, List.forall_mem_cons.mpr ⟨lw_p6, List.forall_mem_cons.mpr ⟨lw_p7, List.forall_mem_cons.mpr ⟨lw_p8, List.forall_mem_cons.mpr ⟨lw_p9, List.forall_mem_cons.mpr ⟨lw_p10, List.forall_mem_cons.mpr ⟨lw_p11, List.forall_mem_cons.mpr ⟨lw_p12, List.forall_mem_cons.mpr ⟨lw_p13, List.forall_mem_cons.mpr ⟨lw_p14, List.forall_mem_cons.mpr ⟨lw_p15, fun _ h => absurd h List.not_mem_nil⟩⟩⟩⟩⟩⟩⟩⟩⟩⟩⟩⟩⟩⟩⟩⟩
theorem lw_p16 : lw_okq (⟨"StackYardModel", "newLayer", "()I"⟩, 33) := ⟨⟨by decide +kernel, by decide +kernel⟩, List.mem_of_getElem? (i := 837) (by decide +kernel), List.mem_of_getElem? (i := 983) (by decide +kernel), List.mem_of_getElem? (i := 984) (by decide +kernel)⟩
theorem lw_p17 : lw_okq (⟨"StackYardModel", "holdsOf", "(I)I"⟩, 33) := ⟨⟨by decide +kernel, by decide +kernel⟩, List.mem_of_getElem? (i := 837) (by decide +kernel), List.mem_of_getElem? (i := 987) (by decide +kernel), List.mem_of_getElem? (i := 988) (by decide +kernel)⟩
theorem lw_p18 : lw_okq (⟨"StackYardModel", "aloneLayer", "(II)V"⟩, 33) := ⟨⟨by decide +kernel, by decide +kernel⟩, List.mem_of_getElem? (i := 837) (by decide +kernel), List.mem_of_getElem? (i := 995) (by decide +kernel), List.mem_of_getElem? (i := 996) (by decide +kernel)⟩
theorem lw_p19 : lw_okq (⟨"StackYardModel", "newRow", "()I"⟩, 33) := ⟨⟨by decide +kernel, by decide +kernel⟩, List.mem_of_getElem? (i := 837) (by decide +kernel), List.mem_of_getElem? (i := 999) (by decide +kernel), List.mem_of_getElem? (i := 1000) (by decide +kernel)⟩
theorem lw_p20 : lw_okq (⟨"StackYardModel", "meets", "()I"⟩, 33) := ⟨⟨by decide +kernel, by decide +kernel⟩, List.mem_of_getElem? (i := 837) (by decide +kernel), List.mem_of_getElem? (i := 1003) (by decide +kernel), List.mem_of_getElem? (i := 1004) (by decide +kernel)⟩
theorem lw_p21 : lw_okq (⟨"StackYardModel", "isThere", "(IIII)I"⟩, 33) := ⟨⟨by decide +kernel, by decide +kernel⟩, List.mem_of_getElem? (i := 837) (by decide +kernel), List.mem_of_getElem? (i := 1015) (by decide +kernel), List.mem_of_getElem? (i := 1016) (by decide +kernel)⟩
theorem lw_p22 : lw_okq (⟨"StackYardModel", "isKindOrOpen", "(I)Z"⟩, 33) := ⟨⟨by decide +kernel, by decide +kernel⟩, List.mem_of_getElem? (i := 837) (by decide +kernel), List.mem_of_getElem? (i := 1019) (by decide +kernel), List.mem_of_getElem? (i := 1020) (by decide +kernel)⟩
theorem lw_p23 : lw_okq (⟨"StackYardModel", "cell", "(IIII)I"⟩, 33) := ⟨⟨by decide +kernel, by decide +kernel⟩, List.mem_of_getElem? (i := 837) (by decide +kernel), List.mem_of_getElem? (i := 1023) (by decide +kernel), List.mem_of_getElem? (i := 1024) (by decide +kernel)⟩
theorem lw_p24 : lw_okq (⟨"StackYardModel", "change", "(IIIIII)Z"⟩, 33) := ⟨⟨by decide +kernel, by decide +kernel⟩, List.mem_of_getElem? (i := 837) (by decide +kernel), List.mem_of_getElem? (i := 1027) (by decide +kernel), List.mem_of_getElem? (i := 1028) (by decide +kernel)⟩
theorem lw_p25 : lw_okq (⟨"StackYardModel", "aloneRow", "(III)V"⟩, 33) := ⟨⟨by decide +kernel, by decide +kernel⟩, List.mem_of_getElem? (i := 837) (by decide +kernel), List.mem_of_getElem? (i := 1031) (by decide +kernel), List.mem_of_getElem? (i := 1032) (by decide +kernel)⟩
theorem lw_p26 : lw_okq (⟨"StackYardModel", "holdsOfRow", "(I)I"⟩, 33) := ⟨⟨by decide +kernel, by decide +kernel⟩, List.mem_of_getElem? (i := 837) (by decide +kernel), List.mem_of_getElem? (i := 1035) (by decide +kernel), List.mem_of_getElem? (i := 1036) (by decide +kernel)⟩
theorem lw_p27 : lw_okq (⟨"StackYardModel", "kindAt", "(IIII)I"⟩, 33) := ⟨⟨by decide +kernel, by decide +kernel⟩, List.mem_of_getElem? (i := 837) (by decide +kernel), List.mem_of_getElem? (i := 1051) (by decide +kernel), List.mem_of_getElem? (i := 1052) (by decide +kernel)⟩
theorem lw_p28 : lw_okq (⟨"StackYardModel", "copy", "(II)V"⟩, 33) := ⟨⟨by decide +kernel, by decide +kernel⟩, List.mem_of_getElem? (i := 837) (by decide +kernel), List.mem_of_getElem? (i := 1063) (by decide +kernel), List.mem_of_getElem? (i := 1064) (by decide +kernel)⟩
theorem lw_p29 : lw_okq (⟨"StackYardModel", "isIn", "(I)Z"⟩, 33) := ⟨⟨by decide +kernel, by decide +kernel⟩, List.mem_of_getElem? (i := 837) (by decide +kernel), List.mem_of_getElem? (i := 1100) (by decide +kernel), List.mem_of_getElem? (i := 1101) (by decide +kernel)⟩
theorem lw_p30 : lw_okq (⟨"StackYardModel", "kindOf", "(II)I"⟩, 33) := ⟨⟨by decide +kernel, by decide +kernel⟩, List.mem_of_getElem? (i := 837) (by decide +kernel), List.mem_of_getElem? (i := 1104) (by decide +kernel), List.mem_of_getElem? (i := 1105) (by decide +kernel)⟩
theorem lw_p31 : lw_okq (⟨"StackYardModel", "changeAt", "(IIII)Z"⟩, 33) := ⟨⟨by decide +kernel, by decide +kernel⟩, List.mem_of_getElem? (i := 837) (by decide +kernel), List.mem_of_getElem? (i := 1108) (by decide +kernel), List.mem_of_getElem? (i := 1109) (by decide +kernel)⟩
def lw_privs_2 : List (MethodName × Nat) := [(⟨"StackYardModel", "newLayer", "()I"⟩, 33), (⟨"StackYardModel", "holdsOf", "(I)I"⟩, 33), (⟨"StackYardModel", "aloneLayer", "(II)V"⟩, 33), (⟨"StackYardModel", "newRow", "()I"⟩, 33), (⟨"StackYardModel", "meets", "()I"⟩, 33), (⟨"StackYardModel", "isThere", "(IIII)I"⟩, 33), (⟨"StackYardModel", "isKindOrOpen", "(I)Z"⟩, 33), (⟨"StackYardModel", "cell", "(IIII)I"⟩, 33), (⟨"StackYardModel", "change", "(IIIIII)Z"⟩, 33), (⟨"StackYardModel", "aloneRow", "(III)V"⟩, 33), (⟨"StackYardModel", "holdsOfRow", "(I)I"⟩, 33), (⟨"StackYardModel", "kindAt", "(IIII)I"⟩, 33), (⟨"StackYardModel", "copy", "(II)V"⟩, 33), (⟨"StackYardModel", "isIn", "(I)Z"⟩, 33), (⟨"StackYardModel", "kindOf", "(II)I"⟩, 33), (⟨"StackYardModel", "changeAt", "(IIII)Z"⟩, 33)]
theorem lw_r2 : ∀ q ∈ lw_privs_2, lw_okq q := List.forall_mem_cons.mpr ⟨lw_p16, List.forall_mem_cons.mpr ⟨lw_p17, List.forall_mem_cons.mpr ⟨lw_p18, List.forall_mem_cons.mpr ⟨lw_p19, List.forall_mem_cons.mpr ⟨lw_p20, List.forall_mem_cons.mpr ⟨lw_p21, List.forall_mem_cons.mpr ⟨lw_p22, List.forall_mem_cons.mpr ⟨lw_p23, List.forall_mem_cons.mpr ⟨lw_p24, List.forall_mem_cons.mpr ⟨lw_p25, List.forall_mem_cons.mpr ⟨lw_p26, List.forall_mem_cons.mpr ⟨lw_p27, List.forall_mem_cons.mpr ⟨lw_p28, List.forall_mem_cons.mpr ⟨lw_p29, List.forall_mem_cons.mpr ⟨lw_p30, List.forall_mem_cons.mpr ⟨lw_p31, fun _ h => absurd h List.not_mem_nil⟩⟩⟩⟩⟩⟩⟩⟩⟩⟩⟩⟩⟩⟩⟩⟩
theorem lw_p32 : lw_okq (⟨"StackYardModel", "turnOf", "(II)I"⟩, 33) := ⟨⟨by decide +kernel, by decide +kernel⟩, List.mem_of_getElem? (i := 837) (by decide +kernel), List.mem_of_getElem? (i := 1116) (by decide +kernel), List.mem_of_getElem? (i := 1117) (by decide +kernel)⟩
theorem lw_p33 : lw_okq (⟨"StackYardModel", "kindBeside", "(III)I"⟩, 33) := ⟨⟨by decide +kernel, by decide +kernel⟩, List.mem_of_getElem? (i := 837) (by decide +kernel), List.mem_of_getElem? (i := 1128) (by decide +kernel), List.mem_of_getElem? (i := 1129) (by decide +kernel)⟩
theorem lw_p34 : lw_okq (⟨"StackYardModel", "reads", "(I)V"⟩, 33) := ⟨⟨by decide +kernel, by decide +kernel⟩, List.mem_of_getElem? (i := 837) (by decide +kernel), List.mem_of_getElem? (i := 1139) (by decide +kernel), List.mem_of_getElem? (i := 1140) (by decide +kernel)⟩
theorem lw_p35 : lw_okq (⟨"StackYardModel", "along", "(I)I"⟩, 33) := ⟨⟨by decide +kernel, by decide +kernel⟩, List.mem_of_getElem? (i := 837) (by decide +kernel), List.mem_of_getElem? (i := 1147) (by decide +kernel), List.mem_of_getElem? (i := 1148) (by decide +kernel)⟩
theorem lw_p36 : lw_okq (⟨"StackYardModel", "findParts", "(I)V"⟩, 33) := ⟨⟨by decide +kernel, by decide +kernel⟩, List.mem_of_getElem? (i := 837) (by decide +kernel), List.mem_of_getElem? (i := 1160) (by decide +kernel), List.mem_of_getElem? (i := 1161) (by decide +kernel)⟩
theorem lw_p37 : lw_okq (⟨"StackYardModel", "isLoose", "(II)Z"⟩, 33) := ⟨⟨by decide +kernel, by decide +kernel⟩, List.mem_of_getElem? (i := 837) (by decide +kernel), List.mem_of_getElem? (i := 1172) (by decide +kernel), List.mem_of_getElem? (i := 1173) (by decide +kernel)⟩
theorem lw_p38 : lw_okq (⟨"StackYardModel", "falls", "(II)I"⟩, 33) := ⟨⟨by decide +kernel, by decide +kernel⟩, List.mem_of_getElem? (i := 837) (by decide +kernel), List.mem_of_getElem? (i := 1176) (by decide +kernel), List.mem_of_getElem? (i := 1177) (by decide +kernel)⟩
theorem lw_p39 : lw_okq (⟨"StackYardModel", "nextToFall", "(I)I"⟩, 33) := ⟨⟨by decide +kernel, by decide +kernel⟩, List.mem_of_getElem? (i := 837) (by decide +kernel), List.mem_of_getElem? (i := 1184) (by decide +kernel), List.mem_of_getElem? (i := 1185) (by decide +kernel)⟩
theorem lw_p40 : lw_okq (⟨"StackYardModel", "fall", "(III)V"⟩, 33) := ⟨⟨by decide +kernel, by decide +kernel⟩, List.mem_of_getElem? (i := 837) (by decide +kernel), List.mem_of_getElem? (i := 1188) (by decide +kernel), List.mem_of_getElem? (i := 1189) (by decide +kernel)⟩
theorem lw_p41 : lw_okq (⟨"StackYardModel", "loadOf", "(II)I"⟩, 33) := ⟨⟨by decide +kernel, by decide +kernel⟩, List.mem_of_getElem? (i := 837) (by decide +kernel), List.mem_of_getElem? (i := 1200) (by decide +kernel), List.mem_of_getElem? (i := 1201) (by decide +kernel)⟩
theorem lw_p42 : lw_okq (⟨"StackYardModel", "shines", "(I)V"⟩, 33) := ⟨⟨by decide +kernel, by decide +kernel⟩, List.mem_of_getElem? (i := 837) (by decide +kernel), List.mem_of_getElem? (i := 1212) (by decide +kernel), List.mem_of_getElem? (i := 1213) (by decide +kernel)⟩
theorem lw_p43 : lw_okq (⟨"StackYardModel", "isStand", "(I)Z"⟩, 33) := ⟨⟨by decide +kernel, by decide +kernel⟩, List.mem_of_getElem? (i := 837) (by decide +kernel), List.mem_of_getElem? (i := 1228) (by decide +kernel), List.mem_of_getElem? (i := 1229) (by decide +kernel)⟩
theorem lw_p44 : lw_okq (⟨"StackYardModel", "isFree", "(I)Z"⟩, 33) := ⟨⟨by decide +kernel, by decide +kernel⟩, List.mem_of_getElem? (i := 837) (by decide +kernel), List.mem_of_getElem? (i := 1232) (by decide +kernel), List.mem_of_getElem? (i := 1233) (by decide +kernel)⟩
theorem lw_p45 : lw_okq (⟨"StackYardModel", "goes", "(III)I"⟩, 33) := ⟨⟨by decide +kernel, by decide +kernel⟩, List.mem_of_getElem? (i := 837) (by decide +kernel), List.mem_of_getElem? (i := 1240) (by decide +kernel), List.mem_of_getElem? (i := 1241) (by decide +kernel)⟩
theorem lw_p46 : lw_okq (⟨"StackYardModel", "findBlocks", "(I)V"⟩, 33) := ⟨⟨by decide +kernel, by decide +kernel⟩, List.mem_of_getElem? (i := 837) (by decide +kernel), List.mem_of_getElem? (i := 1244) (by decide +kernel), List.mem_of_getElem? (i := 1245) (by decide +kernel)⟩
theorem lw_p47 : lw_okq (⟨"StackYardModel", "goesIn", "(IIII)Z"⟩, 33) := ⟨⟨by decide +kernel, by decide +kernel⟩, List.mem_of_getElem? (i := 837) (by decide +kernel), List.mem_of_getElem? (i := 1248) (by decide +kernel), List.mem_of_getElem? (i := 1249) (by decide +kernel)⟩
def lw_privs_3 : List (MethodName × Nat) := [(⟨"StackYardModel", "turnOf", "(II)I"⟩, 33), (⟨"StackYardModel", "kindBeside", "(III)I"⟩, 33), (⟨"StackYardModel", "reads", "(I)V"⟩, 33), (⟨"StackYardModel", "along", "(I)I"⟩, 33), (⟨"StackYardModel", "findParts", "(I)V"⟩, 33), (⟨"StackYardModel", "isLoose", "(II)Z"⟩, 33), (⟨"StackYardModel", "falls", "(II)I"⟩, 33), (⟨"StackYardModel", "nextToFall", "(I)I"⟩, 33), (⟨"StackYardModel", "fall", "(III)V"⟩, 33), (⟨"StackYardModel", "loadOf", "(II)I"⟩, 33), (⟨"StackYardModel", "shines", "(I)V"⟩, 33), (⟨"StackYardModel", "isStand", "(I)Z"⟩, 33), (⟨"StackYardModel", "isFree", "(I)Z"⟩, 33), (⟨"StackYardModel", "goes", "(III)I"⟩, 33), (⟨"StackYardModel", "findBlocks", "(I)V"⟩, 33), (⟨"StackYardModel", "goesIn", "(IIII)Z"⟩, 33)]
theorem lw_r3 : ∀ q ∈ lw_privs_3, lw_okq q := List.forall_mem_cons.mpr ⟨lw_p32, List.forall_mem_cons.mpr ⟨lw_p33, List.forall_mem_cons.mpr ⟨lw_p34, List.forall_mem_cons.mpr ⟨lw_p35, List.forall_mem_cons.mpr ⟨lw_p36, List.forall_mem_cons.mpr ⟨lw_p37, List.forall_mem_cons.mpr ⟨lw_p38, List.forall_mem_cons.mpr ⟨lw_p39, List.forall_mem_cons.mpr ⟨lw_p40, List.forall_mem_cons.mpr ⟨lw_p41, List.forall_mem_cons.mpr ⟨lw_p42, List.forall_mem_cons.mpr ⟨lw_p43, List.forall_mem_cons.mpr ⟨lw_p44, List.forall_mem_cons.mpr ⟨lw_p45, List.forall_mem_cons.mpr ⟨lw_p46, List.forall_mem_cons.mpr ⟨lw_p47, fun _ h => absurd h List.not_mem_nil⟩⟩⟩⟩⟩⟩⟩⟩⟩⟩⟩⟩⟩⟩⟩⟩
def lw_privs : List (MethodName × Nat) := lw_privs_1 ++ (lw_privs_2 ++ (lw_privs_3))
def lw_tbl : List Cond := k2_sels lw_privs ++ tables_1
theorem lw_privs_ok : ∀ q ∈ lw_privs, lw_okq q := by
  show ∀ q ∈ lw_privs_1 ++ (lw_privs_2 ++ (lw_privs_3)), lw_okq q
  exact List.forall_mem_append.mpr ⟨lw_r1, List.forall_mem_append.mpr ⟨lw_r2, lw_r3⟩⟩
end
section
def RX0 : String := "StackYard$Box"
def TX0 : u_T := fun k => match k with
  | 0 => ("StackYard$Box", "from", "[I", true)
  | _ => ("StackYard$Box", "upTo", "[I", true)
def tyX0 : Nat → FieldType := fun k => match k with
  | 0 => .array .int
  | _ => .array .int
theorem nmX0 : ∀ a, a < 2 → ∀ b, b < 2 → a ≠ b → (TX0 a).2.1 ≠ (TX0 b).2.1 := by decide +kernel
theorem tyX0_ok : ∀ k, k < 2 → parseFieldDescriptor (TX0 k).2.2.1 = some (tyX0 k) := by decide +kernel
abbrev cX0_init : ByteArray := prog_2_method_1_code
def yX0_init : MethodName := ⟨RX0, "<init>", "()V"⟩
abbrev cX0_become : ByteArray := prog_2_method_2_code
def yX0_become : MethodName := ⟨RX0, "become", "(I)Z"⟩
abbrev cX0_holds : ByteArray := prog_2_method_3_code
def yX0_holds : MethodName := ⟨RX0, "holds", "(I)Z"⟩
abbrev cX0_goesToItself : ByteArray := prog_2_method_4_code
def yX0_goesToItself : MethodName := ⟨RX0, "goesToItself", "(I)Z"⟩
abbrev cX0_turned : ByteArray := prog_2_method_5_code
def yX0_turned : MethodName := ⟨RX0, "turned", "(II)I"⟩
def RX1 : String := "StackYard$Grid"
def TX1 : u_T := fun k => match k with
  | 0 => ("StackYard$Grid", "codes", "[I", true)
  | 1 => ("StackYard$Grid", "listed", "[I", true)
  | _ => ("StackYard$Grid", "blocks", "I", false)
def tyX1 : Nat → FieldType := fun k => match k with
  | 0 => .array .int
  | 1 => .array .int
  | _ => .int
theorem nmX1 : ∀ a, a < 3 → ∀ b, b < 3 → a ≠ b → (TX1 a).2.1 ≠ (TX1 b).2.1 := by decide +kernel
theorem tyX1_ok : ∀ k, k < 3 → parseFieldDescriptor (TX1 k).2.2.1 = some (tyX1 k) := by decide +kernel
abbrev cX1_init : ByteArray := prog_3_method_1_code
def yX1_init : MethodName := ⟨RX1, "<init>", "()V"⟩
abbrev cX1_read : ByteArray := prog_3_method_2_code
def yX1_read : MethodName := ⟨RX1, "read", "(LStackYard$Yard;)V"⟩
abbrev cX1_readRow : ByteArray := prog_3_method_3_code
def yX1_readRow : MethodName := ⟨RX1, "readRow", "(LStackYard$Row;I)V"⟩
abbrev cX1_listOnly : ByteArray := prog_3_method_4_code
def yX1_listOnly : MethodName := ⟨RX1, "listOnly", "(LStackYard$Box;)V"⟩
abbrev cX1_code : ByteArray := prog_3_method_5_code
def yX1_code : MethodName := ⟨RX1, "code", "(I)I"⟩
abbrev cX1_write : ByteArray := prog_3_method_6_code
def yX1_write : MethodName := ⟨RX1, "write", "(II)V"⟩
abbrev cX1_isBlock : ByteArray := prog_3_method_7_code
def yX1_isBlock : MethodName := ⟨RX1, "isBlock", "(I)Z"⟩
abbrev cX1_beside : ByteArray := prog_3_method_8_code
def yX1_beside : MethodName := ⟨RX1, "beside", "(II)I"⟩
abbrev cX1_bareSides : ByteArray := prog_3_method_9_code
def yX1_bareSides : MethodName := ⟨RX1, "bareSides", "(I)I"⟩
abbrev cX1_least : ByteArray := prog_3_method_10_code
def yX1_least : MethodName := ⟨RX1, "least", "(I)I"⟩
abbrev cX1_most : ByteArray := prog_3_method_11_code
def yX1_most : MethodName := ⟨RX1, "most", "(I)I"⟩
abbrev cX1_bears : ByteArray := prog_3_method_12_code
def yX1_bears : MethodName := ⟨RX1, "bears", "(LStackYard$Grid;I)Z"⟩
def RX2 : String := "StackYard$Kinds"
def TX2 : u_T := fun k => match k with
  | 0 => ("StackYard$Kinds", "weights", "[I", true)
  | 1 => ("StackYard$Kinds", "strengths", "[I", true)
  | 2 => ("StackYard$Kinds", "lights", "[I", true)
  | 3 => ("StackYard$Kinds", "losses", "[I", true)
  | 4 => ("StackYard$Kinds", "hanging", "[Z", true)
  | _ => ("StackYard$Kinds", "number", "I", false)
def tyX2 : Nat → FieldType := fun k => match k with
  | 0 => .array .int
  | 1 => .array .int
  | 2 => .array .int
  | 3 => .array .int
  | 4 => .array .boolean
  | _ => .int
theorem nmX2 : ∀ a, a < 6 → ∀ b, b < 6 → a ≠ b → (TX2 a).2.1 ≠ (TX2 b).2.1 := by decide +kernel
theorem tyX2_ok : ∀ k, k < 6 → parseFieldDescriptor (TX2 k).2.2.1 = some (tyX2 k) := by decide +kernel
abbrev cX2_init : ByteArray := prog_4_method_1_code
def yX2_init : MethodName := ⟨RX2, "<init>", "()V"⟩
abbrev cX2_add : ByteArray := prog_4_method_2_code
def yX2_add : MethodName := ⟨RX2, "add", "(IIIIZ)I"⟩
abbrev cX2_isKind : ByteArray := prog_4_method_3_code
def yX2_isKind : MethodName := ⟨RX2, "isKind", "(I)Z"⟩
abbrev cX2_isKindOrOpen : ByteArray := prog_4_method_4_code
def yX2_isKindOrOpen : MethodName := ⟨RX2, "isKindOrOpen", "(I)Z"⟩
abbrev cX2_strengthOf : ByteArray := prog_4_method_5_code
def yX2_strengthOf : MethodName := ⟨RX2, "strengthOf", "(I)I"⟩
abbrev cX2_lightOf : ByteArray := prog_4_method_6_code
def yX2_lightOf : MethodName := ⟨RX2, "lightOf", "(I)I"⟩
abbrev cX2_lossOf : ByteArray := prog_4_method_7_code
def yX2_lossOf : MethodName := ⟨RX2, "lossOf", "(I)I"⟩
abbrev cX2_hangs : ByteArray := prog_4_method_8_code
def yX2_hangs : MethodName := ⟨RX2, "hangs", "(I)Z"⟩
abbrev cX2_loadOn : ByteArray := prog_4_method_9_code
def yX2_loadOn : MethodName := ⟨RX2, "loadOn", "(ILStackYard$Grid;)I"⟩
def RX3 : String := "StackYard$Lamps"
def TX3 : u_T := fun k => match k with
  | _ => ("StackYard$Lamps", "levels", "[I", true)
def tyX3 : Nat → FieldType := fun k => match k with
  | _ => .array .int
theorem nmX3 : ∀ a, a < 1 → ∀ b, b < 1 → a ≠ b → (TX3 a).2.1 ≠ (TX3 b).2.1 := by decide +kernel
theorem tyX3_ok : ∀ k, k < 1 → parseFieldDescriptor (TX3 k).2.2.1 = some (tyX3 k) := by decide +kernel
abbrev cX3_init : ByteArray := prog_5_method_1_code
def yX3_init : MethodName := ⟨RX3, "<init>", "()V"⟩
abbrev cX3_shine : ByteArray := prog_5_method_2_code
def yX3_shine : MethodName := ⟨RX3, "shine", "(LStackYard$Grid;LStackYard$Kinds;)V"⟩
abbrev cX3_spread : ByteArray := prog_5_method_3_code
def yX3_spread : MethodName := ⟨RX3, "spread", "(ILStackYard$Grid;LStackYard$Kinds;)V"⟩
def RX4 : String := "StackYard$Layer"
def TX4 : u_T := fun k => match k with
  | 0 => ("StackYard$Layer", "rows", "[LStackYard$Row;", true)
  | _ => ("StackYard$Layer", "holders", "I", false)
def tyX4 : Nat → FieldType := fun k => match k with
  | 0 => .array (.object "StackYard$Row")
  | _ => .int
theorem nmX4 : ∀ a, a < 2 → ∀ b, b < 2 → a ≠ b → (TX4 a).2.1 ≠ (TX4 b).2.1 := by decide +kernel
theorem tyX4_ok : ∀ k, k < 2 → parseFieldDescriptor (TX4 k).2.2.1 = some (tyX4 k) := by decide +kernel
abbrev cX4_init : ByteArray := prog_6_method_1_code
def yX4_init : MethodName := ⟨RX4, "<init>", "()V"⟩
abbrev cX4_hold : ByteArray := prog_6_method_2_code
def yX4_hold : MethodName := ⟨RX4, "hold", "(LStackYard$Ledger;)V"⟩
abbrev cX4_release : ByteArray := prog_6_method_3_code
def yX4_release : MethodName := ⟨RX4, "release", "(LStackYard$Ledger;)V"⟩
abbrev cX4_setRow : ByteArray := prog_6_method_4_code
def yX4_setRow : MethodName := ⟨RX4, "setRow", "(ILStackYard$Row;LStackYard$Ledger;)V"⟩
def RX5 : String := "StackYard$Ledger"
def TX5 : u_T := fun k => match k with
  | 0 => ("StackYard$Ledger", "layersMade", "I", false)
  | 1 => ("StackYard$Ledger", "rowsMade", "I", false)
  | 2 => ("StackYard$Ledger", "layersHeld", "I", false)
  | _ => ("StackYard$Ledger", "rowsHeld", "I", false)
def tyX5 : Nat → FieldType := fun k => match k with
  | 0 => .int
  | 1 => .int
  | 2 => .int
  | _ => .int
theorem nmX5 : ∀ a, a < 4 → ∀ b, b < 4 → a ≠ b → (TX5 a).2.1 ≠ (TX5 b).2.1 := by decide +kernel
theorem tyX5_ok : ∀ k, k < 4 → parseFieldDescriptor (TX5 k).2.2.1 = some (tyX5 k) := by decide +kernel
abbrev cX5_init : ByteArray := prog_7_method_1_code
def yX5_init : MethodName := ⟨RX5, "<init>", "()V"⟩
def RX6 : String := "StackYard$Parts"
def TX6 : u_T := fun k => match k with
  | 0 => ("StackYard$Parts", "labels", "[I", true)
  | 1 => ("StackYard$Parts", "members", "[I", true)
  | 2 => ("StackYard$Parts", "starts", "[I", true)
  | 3 => ("StackYard$Parts", "carried", "[I", true)
  | _ => ("StackYard$Parts", "number", "I", false)
def tyX6 : Nat → FieldType := fun k => match k with
  | 0 => .array .int
  | 1 => .array .int
  | 2 => .array .int
  | 3 => .array .int
  | _ => .int
theorem nmX6 : ∀ a, a < 5 → ∀ b, b < 5 → a ≠ b → (TX6 a).2.1 ≠ (TX6 b).2.1 := by decide +kernel
theorem tyX6_ok : ∀ k, k < 5 → parseFieldDescriptor (TX6 k).2.2.1 = some (tyX6 k) := by decide +kernel
abbrev cX6_init : ByteArray := prog_8_method_1_code
def yX6_init : MethodName := ⟨RX6, "<init>", "()V"⟩
abbrev cX6_find : ByteArray := prog_8_method_2_code
def yX6_find : MethodName := ⟨RX6, "find", "(LStackYard$Grid;)V"⟩
abbrev cX6_gather : ByteArray := prog_8_method_3_code
def yX6_gather : MethodName := ⟨RX6, "gather", "(LStackYard$Grid;II)I"⟩
abbrev cX6_sizeOf : ByteArray := prog_8_method_4_code
def yX6_sizeOf : MethodName := ⟨RX6, "sizeOf", "(I)I"⟩
abbrev cX6_firstOf : ByteArray := prog_8_method_5_code
def yX6_firstOf : MethodName := ⟨RX6, "firstOf", "(I)I"⟩
abbrev cX6_isLoose : ByteArray := prog_8_method_6_code
def yX6_isLoose : MethodName := ⟨RX6, "isLoose", "(ILStackYard$Grid;LStackYard$Kinds;)Z"⟩
abbrev cX6_stepsOf : ByteArray := prog_8_method_7_code
def yX6_stepsOf : MethodName := ⟨RX6, "stepsOf", "(ILStackYard$Grid;)I"⟩
abbrev cX6_freeBelow : ByteArray := prog_8_method_8_code
def yX6_freeBelow : MethodName := ⟨RX6, "freeBelow", "(IILStackYard$Grid;)I"⟩
abbrev cX6_nextToFall : ByteArray := prog_8_method_9_code
def yX6_nextToFall : MethodName := ⟨RX6, "nextToFall", "(LStackYard$Grid;LStackYard$Kinds;)I"⟩
abbrev cX6_lower : ByteArray := prog_8_method_10_code
def yX6_lower : MethodName := ⟨RX6, "lower", "(IILStackYard$Grid;LStackYard$Yard;)V"⟩
def RX7 : String := "StackYard$Row"
def TX7 : u_T := fun k => match k with
  | 0 => ("StackYard$Row", "cells", "[I", true)
  | _ => ("StackYard$Row", "holders", "I", false)
def tyX7 : Nat → FieldType := fun k => match k with
  | 0 => .array .int
  | _ => .int
theorem nmX7 : ∀ a, a < 2 → ∀ b, b < 2 → a ≠ b → (TX7 a).2.1 ≠ (TX7 b).2.1 := by decide +kernel
theorem tyX7_ok : ∀ k, k < 2 → parseFieldDescriptor (TX7 k).2.2.1 = some (tyX7 k) := by decide +kernel
abbrev cX7_init : ByteArray := prog_9_method_1_code
def yX7_init : MethodName := ⟨RX7, "<init>", "([I)V"⟩
abbrev cX7_hold : ByteArray := prog_9_method_2_code
def yX7_hold : MethodName := ⟨RX7, "hold", "(LStackYard$Ledger;)V"⟩
abbrev cX7_release : ByteArray := prog_9_method_3_code
def yX7_release : MethodName := ⟨RX7, "release", "(LStackYard$Ledger;)V"⟩
def RX8 : String := "StackYard$Turns"
def TX8 : u_T := fun k => match k with
  | _ => ("", "", "", false)
def tyX8 : Nat → FieldType := fun k => match k with
  | _ => .int
theorem nmX8 : ∀ a, a < 0 → ∀ b, b < 0 → a ≠ b → (TX8 a).2.1 ≠ (TX8 b).2.1 := by decide +kernel
theorem tyX8_ok : ∀ k, k < 0 → parseFieldDescriptor (TX8 k).2.2.1 = some (tyX8 k) := by decide +kernel
abbrev cX8_isTurn : ByteArray := prog_10_method_2_code
def yX8_isTurn : MethodName := ⟨RX8, "isTurn", "(I)Z"⟩
abbrev cX8_axisOf : ByteArray := prog_10_method_3_code
def yX8_axisOf : MethodName := ⟨RX8, "axisOf", "(II)I"⟩
abbrev cX8_signOf : ByteArray := prog_10_method_4_code
def yX8_signOf : MethodName := ⟨RX8, "signOf", "(II)I"⟩
abbrev cX8_after : ByteArray := prog_10_method_5_code
def yX8_after : MethodName := ⟨RX8, "after", "(II)I"⟩
def RX9 : String := "StackYard$Walk"
def TX9 : u_T := fun k => match k with
  | 0 => ("StackYard$Walk", "distances", "[I", true)
  | 1 => ("StackYard$Walk", "queue", "[I", true)
  | _ => ("StackYard$Walk", "reached", "I", false)
def tyX9 : Nat → FieldType := fun k => match k with
  | 0 => .array .int
  | 1 => .array .int
  | _ => .int
theorem nmX9 : ∀ a, a < 3 → ∀ b, b < 3 → a ≠ b → (TX9 a).2.1 ≠ (TX9 b).2.1 := by decide +kernel
theorem tyX9_ok : ∀ k, k < 3 → parseFieldDescriptor (TX9 k).2.2.1 = some (tyX9 k) := by decide +kernel
abbrev cX9_init : ByteArray := prog_11_method_1_code
def yX9_init : MethodName := ⟨RX9, "<init>", "()V"⟩
abbrev cX9_steps : ByteArray := prog_11_method_2_code
def yX9_steps : MethodName := ⟨RX9, "steps", "(LStackYard$Grid;II)I"⟩
abbrev cX9_isStand : ByteArray := prog_11_method_3_code
def yX9_isStand : MethodName := ⟨RX9, "isStand", "(LStackYard$Grid;I)Z"⟩
abbrev cX9_leave : ByteArray := prog_11_method_4_code
def yX9_leave : MethodName := ⟨RX9, "leave", "(LStackYard$Grid;I)V"⟩
abbrev cX9_reach : ByteArray := prog_11_method_5_code
def yX9_reach : MethodName := ⟨RX9, "reach", "(LStackYard$Grid;II)V"⟩
def RX10 : String := "StackYard$Yard"
def TX10 : u_T := fun k => match k with
  | 0 => ("StackYard$Yard", "ledger", "LStackYard$Ledger;", true)
  | _ => ("StackYard$Yard", "layers", "[LStackYard$Layer;", true)
def tyX10 : Nat → FieldType := fun k => match k with
  | 0 => .object "StackYard$Ledger"
  | _ => .array (.object "StackYard$Layer")
theorem nmX10 : ∀ a, a < 2 → ∀ b, b < 2 → a ≠ b → (TX10 a).2.1 ≠ (TX10 b).2.1 := by decide +kernel
theorem tyX10_ok : ∀ k, k < 2 → parseFieldDescriptor (TX10 k).2.2.1 = some (tyX10 k) := by decide +kernel
abbrev cX10_init : ByteArray := prog_12_method_1_code
def yX10_init : MethodName := ⟨RX10, "<init>", "(LStackYard$Ledger;)V"⟩
abbrev cX10_layerAt : ByteArray := prog_12_method_2_code
def yX10_layerAt : MethodName := ⟨RX10, "layerAt", "(I)LStackYard$Layer;"⟩
abbrev cX10_rowAt : ByteArray := prog_12_method_3_code
def yX10_rowAt : MethodName := ⟨RX10, "rowAt", "(II)LStackYard$Row;"⟩
abbrev cX10_refusal : ByteArray := prog_12_method_4_code
def yX10_refusal : MethodName := ⟨RX10, "refusal", "(III)I"⟩
abbrev cX10_codeAt : ByteArray := prog_12_method_5_code
def yX10_codeAt : MethodName := ⟨RX10, "codeAt", "(I)I"⟩
abbrev cX10_setLayer : ByteArray := prog_12_method_6_code
def yX10_setLayer : MethodName := ⟨RX10, "setLayer", "(ILStackYard$Layer;)V"⟩
abbrev cX10_addLayer : ByteArray := prog_12_method_7_code
def yX10_addLayer : MethodName := ⟨RX10, "addLayer", "(I)V"⟩
abbrev cX10_addRow : ByteArray := prog_12_method_8_code
def yX10_addRow : MethodName := ⟨RX10, "addRow", "(III)V"⟩
abbrev cX10_take : ByteArray := prog_12_method_9_code
def yX10_take : MethodName := ⟨RX10, "take", "(LStackYard$Yard;)V"⟩
abbrev cX10_clear : ByteArray := prog_12_method_10_code
def yX10_clear : MethodName := ⟨RX10, "clear", "()V"⟩
abbrev cX10_change : ByteArray := prog_12_method_11_code
def yX10_change : MethodName := ⟨RX10, "change", "(II)Z"⟩
abbrev cX10_ownLayer : ByteArray := prog_12_method_12_code
def yX10_ownLayer : MethodName := ⟨RX10, "ownLayer", "(I)LStackYard$Layer;"⟩
abbrev cX10_ownRow : ByteArray := prog_12_method_13_code
def yX10_ownRow : MethodName := ⟨RX10, "ownRow", "(II)LStackYard$Row;"⟩
def RX11 : String := "StackYard"
def TX11 : u_T := fun k => match k with
  | 0 => ("StackYard", "ledger", "LStackYard$Ledger;", true)
  | 1 => ("StackYard", "kinds", "LStackYard$Kinds;", true)
  | 2 => ("StackYard", "region", "LStackYard$Box;", true)
  | 3 => ("StackYard", "yards", "[LStackYard$Yard;", true)
  | 4 => ("StackYard", "slots", "[LStackYard$Yard;", true)
  | 5 => ("StackYard", "keeping", "[Z", true)
  | 6 => ("StackYard", "grid", "LStackYard$Grid;", true)
  | 7 => ("StackYard", "second", "LStackYard$Grid;", true)
  | 8 => ("StackYard", "lumps", "LStackYard$Parts;", true)
  | 9 => ("StackYard", "lamps", "LStackYard$Lamps;", true)
  | 10 => ("StackYard", "walk", "LStackYard$Walk;", true)
  | 11 => ("StackYard", "fallenFrom", "[I", true)
  | 12 => ("StackYard", "fallenSteps", "[I", true)
  | _ => ("StackYard", "fell", "I", false)
def tyX11 : Nat → FieldType := fun k => match k with
  | 0 => .object "StackYard$Ledger"
  | 1 => .object "StackYard$Kinds"
  | 2 => .object "StackYard$Box"
  | 3 => .array (.object "StackYard$Yard")
  | 4 => .array (.object "StackYard$Yard")
  | 5 => .array .boolean
  | 6 => .object "StackYard$Grid"
  | 7 => .object "StackYard$Grid"
  | 8 => .object "StackYard$Parts"
  | 9 => .object "StackYard$Lamps"
  | 10 => .object "StackYard$Walk"
  | 11 => .array .int
  | 12 => .array .int
  | _ => .int
theorem nmX11 : ∀ a, a < 14 → ∀ b, b < 14 → a ≠ b → (TX11 a).2.1 ≠ (TX11 b).2.1 := by decide +kernel
theorem tyX11_ok : ∀ k, k < 14 → parseFieldDescriptor (TX11 k).2.2.1 = some (tyX11 k) := by decide +kernel
abbrev cX11_init : ByteArray := prog_1_method_1_code
def yX11_init : MethodName := ⟨RX11, "<init>", "()V"⟩
abbrev cX11_kind : ByteArray := prog_1_method_2_code
def yX11_kind : MethodName := ⟨RX11, "kind", "(IIIIZ)I"⟩
abbrev cX11_product : ByteArray := prog_1_method_3_code
def yX11_product : MethodName := ⟨RX11, "product", "(II)I"⟩
abbrev cX11_layer : ByteArray := prog_1_method_4_code
def yX11_layer : MethodName := ⟨RX11, "layer", "(II)Z"⟩
abbrev cX11_row : ByteArray := prog_1_method_5_code
def yX11_row : MethodName := ⟨RX11, "row", "(IIII)I"⟩
abbrev cX11_less : ByteArray := prog_1_method_6_code
def yX11_less : MethodName := ⟨RX11, "less", "(II)Z"⟩
abbrev cX11_put : ByteArray := prog_1_method_7_code
def yX11_put : MethodName := ⟨RX11, "put", "(IIIII)I"⟩
abbrev cX11_face : ByteArray := prog_1_method_8_code
def yX11_face : MethodName := ⟨RX11, "face", "(IIIII)I"⟩
abbrev cX11_there : ByteArray := prog_1_method_9_code
def yX11_there : MethodName := ⟨RX11, "there", "(IIII)I"⟩
abbrev cX11_at : ByteArray := prog_1_method_10_code
def yX11_at : MethodName := ⟨RX11, "at", "(IIII)I"⟩
abbrev cX11_turnAt : ByteArray := prog_1_method_11_code
def yX11_turnAt : MethodName := ⟨RX11, "turnAt", "(IIII)I"⟩
abbrev cX11_share : ByteArray := prog_1_method_12_code
def yX11_share : MethodName := ⟨RX11, "share", "(II)Z"⟩
abbrev cX11_keep : ByteArray := prog_1_method_13_code
def yX11_keep : MethodName := ⟨RX11, "keep", "(II)Z"⟩
abbrev cX11_back : ByteArray := prog_1_method_14_code
def yX11_back : MethodName := ⟨RX11, "back", "(II)Z"⟩
abbrev cX11_forget : ByteArray := prog_1_method_15_code
def yX11_forget : MethodName := ⟨RX11, "forget", "(I)Z"⟩
abbrev cX11_same : ByteArray := prog_1_method_16_code
def yX11_same : MethodName := ⟨RX11, "same", "(IIIII)I"⟩
abbrev cX11_made : ByteArray := prog_1_method_17_code
def yX11_made : MethodName := ⟨RX11, "made", "(I)I"⟩
abbrev cX11_box : ByteArray := prog_1_method_18_code
def yX11_box : MethodName := ⟨RX11, "box", "(I)Z"⟩
abbrev cX11_fill : ByteArray := prog_1_method_19_code
def yX11_fill : MethodName := ⟨RX11, "fill", "(III)I"⟩
abbrev cX11_replace : ByteArray := prog_1_method_20_code
def yX11_replace : MethodName := ⟨RX11, "replace", "(III)I"⟩
abbrev cX11_count : ByteArray := prog_1_method_21_code
def yX11_count : MethodName := ⟨RX11, "count", "(II)I"⟩
abbrev cX11_hollow : ByteArray := prog_1_method_22_code
def yX11_hollow : MethodName := ⟨RX11, "hollow", "(I)I"⟩
abbrev cX11_move : ByteArray := prog_1_method_23_code
def yX11_move : MethodName := ⟨RX11, "move", "(IIIZ)I"⟩
abbrev cX11_turnBox : ByteArray := prog_1_method_24_code
def yX11_turnBox : MethodName := ⟨RX11, "turnBox", "(II)I"⟩
abbrev cX11_cut : ByteArray := prog_1_method_25_code
def yX11_cut : MethodName := ⟨RX11, "cut", "(IIIII)I"⟩
abbrev cX11_parts : ByteArray := prog_1_method_26_code
def yX11_parts : MethodName := ⟨RX11, "parts", "(I)I"⟩
abbrev cX11_part : ByteArray := prog_1_method_27_code
def yX11_part : MethodName := ⟨RX11, "part", "(IIII)I"⟩
abbrev cX11_partOf : ByteArray := prog_1_method_28_code
def yX11_partOf : MethodName := ⟨RX11, "partOf", "(III)I"⟩
abbrev cX11_settle : ByteArray := prog_1_method_29_code
def yX11_settle : MethodName := ⟨RX11, "settle", "(I)I"⟩
abbrev cX11_fallen : ByteArray := prog_1_method_30_code
def yX11_fallen : MethodName := ⟨RX11, "fallen", "(II)I"⟩
abbrev cX11_load : ByteArray := prog_1_method_31_code
def yX11_load : MethodName := ⟨RX11, "load", "(IIII)I"⟩
abbrev cX11_overloaded : ByteArray := prog_1_method_32_code
def yX11_overloaded : MethodName := ⟨RX11, "overloaded", "(I)I"⟩
abbrev cX11_light : ByteArray := prog_1_method_33_code
def yX11_light : MethodName := ⟨RX11, "light", "(IIII)I"⟩
abbrev cX11_dark : ByteArray := prog_1_method_34_code
def yX11_dark : MethodName := ⟨RX11, "dark", "(II)I"⟩
abbrev cX11_faces : ByteArray := prog_1_method_35_code
def yX11_faces : MethodName := ⟨RX11, "faces", "(I)I"⟩
abbrev cX11_path : ByteArray := prog_1_method_36_code
def yX11_path : MethodName := ⟨RX11, "path", "(III)I"⟩
abbrev cX11_places : ByteArray := prog_1_method_37_code
def yX11_places : MethodName := ⟨RX11, "places", "(II)I"⟩
abbrev cX11_place : ByteArray := prog_1_method_38_code
def yX11_place : MethodName := ⟨RX11, "place", "(III)I"⟩
abbrev cX11_differs : ByteArray := prog_1_method_39_code
def yX11_differs : MethodName := ⟨RX11, "differs", "(II)I"⟩
abbrev cX11_isYard : ByteArray := prog_1_method_40_code
def yX11_isYard : MethodName := ⟨RX11, "isYard", "(I)Z"⟩
abbrev cX11_isSlot : ByteArray := prog_1_method_41_code
def yX11_isSlot : MethodName := ⟨RX11, "isSlot", "(I)Z"⟩
abbrev cX11_isPlace : ByteArray := prog_1_method_42_code
def yX11_isPlace : MethodName := ⟨RX11, "isPlace", "(I)Z"⟩
abbrev cX11_isCell : ByteArray := prog_1_method_43_code
def yX11_isCell : MethodName := ⟨RX11, "isCell", "(I)Z"⟩
abbrev cX11_cellOf : ByteArray := prog_1_method_44_code
def yX11_cellOf : MethodName := ⟨RX11, "cellOf", "(III)I"⟩
abbrev cX11_zOf : ByteArray := prog_1_method_45_code
def yX11_zOf : MethodName := ⟨RX11, "zOf", "(I)I"⟩
abbrev cX11_xOf : ByteArray := prog_1_method_46_code
def yX11_xOf : MethodName := ⟨RX11, "xOf", "(I)I"⟩
abbrev cX11_wOf : ByteArray := prog_1_method_47_code
def yX11_wOf : MethodName := ⟨RX11, "wOf", "(I)I"⟩
abbrev cX11_strideOf : ByteArray := prog_1_method_48_code
def yX11_strideOf : MethodName := ⟨RX11, "strideOf", "(I)I"⟩
abbrev cX11_along : ByteArray := prog_1_method_49_code
def yX11_along : MethodName := ⟨RX11, "along", "(II)I"⟩
abbrev cX11_codeOf : ByteArray := prog_1_method_50_code
def yX11_codeOf : MethodName := ⟨RX11, "codeOf", "(II)I"⟩
abbrev cX11_kindOf : ByteArray := prog_1_method_51_code
def yX11_kindOf : MethodName := ⟨RX11, "kindOf", "(I)I"⟩
abbrev cX11_turnOf : ByteArray := prog_1_method_52_code
def yX11_turnOf : MethodName := ⟨RX11, "turnOf", "(I)I"⟩
abbrev cX11_tellShift : ByteArray := prog_1_method_53_code
def yX11_tellShift : MethodName := ⟨RX11, "tellShift", "(III)I"⟩
abbrev cX11_isShift : ByteArray := prog_1_method_54_code
def yX11_isShift : MethodName := ⟨RX11, "isShift", "(I)Z"⟩
abbrev cX11_furtherBy : ByteArray := prog_1_method_55_code
def yX11_furtherBy : MethodName := ⟨RX11, "furtherBy", "(II)I"⟩
abbrev cX11_codeIn : ByteArray := prog_1_method_56_code
def yX11_codeIn : MethodName := ⟨RX11, "codeIn", "(IIII)I"⟩
abbrev cX11_slotsKeeping : ByteArray := prog_1_method_57_code
def yX11_slotsKeeping : MethodName := ⟨RX11, "slotsKeeping", "()I"⟩
abbrev cX11_readBox : ByteArray := prog_1_method_58_code
def yX11_readBox : MethodName := ⟨RX11, "readBox", "(I)V"⟩
abbrev cX11_findParts : ByteArray := prog_1_method_59_code
def yX11_findParts : MethodName := ⟨RX11, "findParts", "(I)V"⟩
abbrev cX11_noteFall : ByteArray := prog_1_method_60_code
def yX11_noteFall : MethodName := ⟨RX11, "noteFall", "(II)V"⟩
abbrev cX11_seekWay : ByteArray := prog_1_method_61_code
def yX11_seekWay : MethodName := ⟨RX11, "seekWay", "(III)I"⟩
def RX12 : String := "StackYardModel"
def TX12 : u_T := fun k => match k with
  | 0 => ("StackYardModel", "thrown", "I", false)
  | 1 => ("StackYardModel", "kinds", "I", false)
  | 2 => ("StackYardModel", "weight", "[I", true)
  | 3 => ("StackYardModel", "strength", "[I", true)
  | 4 => ("StackYardModel", "shine", "[I", true)
  | 5 => ("StackYardModel", "loss", "[I", true)
  | 6 => ("StackYardModel", "hangs", "[Z", true)
  | 7 => ("StackYardModel", "held", "[I", true)
  | 8 => ("StackYardModel", "isKept", "[Z", true)
  | 9 => ("StackYardModel", "rowOf", "[I", true)
  | 10 => ("StackYardModel", "length", "[I", true)
  | 11 => ("StackYardModel", "cellKind", "[I", true)
  | 12 => ("StackYardModel", "cellTurn", "[I", true)
  | 13 => ("StackYardModel", "layersMade", "I", false)
  | 14 => ("StackYardModel", "rowsMade", "I", false)
  | 15 => ("StackYardModel", "rowMet", "[Z", true)
  | 16 => ("StackYardModel", "layerMet", "[Z", true)
  | 17 => ("StackYardModel", "low", "[I", true)
  | 18 => ("StackYardModel", "high", "[I", true)
  | 19 => ("StackYardModel", "readKind", "[I", true)
  | 20 => ("StackYardModel", "readTurn", "[I", true)
  | 21 => ("StackYardModel", "marked", "[Z", true)
  | 22 => ("StackYardModel", "partAt", "[I", true)
  | 23 => ("StackYardModel", "partFirst", "[I", true)
  | 24 => ("StackYardModel", "partMany", "I", false)
  | 25 => ("StackYardModel", "queue", "[I", true)
  | 26 => ("StackYardModel", "fell", "I", false)
  | 27 => ("StackYardModel", "fellFirst", "[I", true)
  | 28 => ("StackYardModel", "fellBy", "[I", true)
  | 29 => ("StackYardModel", "glow", "[I", true)
  | 30 => ("StackYardModel", "steps", "[I", true)
  | 31 => ("StackYardModel", "blocks", "[I", true)
  | _ => ("StackYardModel", "blockMany", "I", false)
def tyX12 : Nat → FieldType := fun k => match k with
  | 0 => .int
  | 1 => .int
  | 2 => .array .int
  | 3 => .array .int
  | 4 => .array .int
  | 5 => .array .int
  | 6 => .array .boolean
  | 7 => .array .int
  | 8 => .array .boolean
  | 9 => .array .int
  | 10 => .array .int
  | 11 => .array .int
  | 12 => .array .int
  | 13 => .int
  | 14 => .int
  | 15 => .array .boolean
  | 16 => .array .boolean
  | 17 => .array .int
  | 18 => .array .int
  | 19 => .array .int
  | 20 => .array .int
  | 21 => .array .boolean
  | 22 => .array .int
  | 23 => .array .int
  | 24 => .int
  | 25 => .array .int
  | 26 => .int
  | 27 => .array .int
  | 28 => .array .int
  | 29 => .array .int
  | 30 => .array .int
  | 31 => .array .int
  | _ => .int
theorem nmX12 : ∀ a, a < 33 → ∀ b, b < 33 → a ≠ b → (TX12 a).2.1 ≠ (TX12 b).2.1 := by decide +kernel
theorem tyX12_ok : ∀ k, k < 33 → parseFieldDescriptor (TX12 k).2.2.1 = some (tyX12 k) := by decide +kernel
abbrev cX12_init : ByteArray := prog_14_method_1_code
def yX12_init : MethodName := ⟨RX12, "<init>", "()V"⟩
abbrev cX12_thrown : ByteArray := prog_14_method_2_code
def yX12_thrown : MethodName := ⟨RX12, "thrown", "()I"⟩
abbrev cX12_in : ByteArray := prog_14_method_3_code
def yX12_in : MethodName := ⟨RX12, "in", "(III)Z"⟩
abbrev cX12_isYard : ByteArray := prog_14_method_4_code
def yX12_isYard : MethodName := ⟨RX12, "isYard", "(I)Z"⟩
abbrev cX12_isSlot : ByteArray := prog_14_method_5_code
def yX12_isSlot : MethodName := ⟨RX12, "isSlot", "(I)Z"⟩
abbrev cX12_isTurn : ByteArray := prog_14_method_6_code
def yX12_isTurn : MethodName := ⟨RX12, "isTurn", "(I)Z"⟩
abbrev cX12_to : ByteArray := prog_14_method_7_code
def yX12_to : MethodName := ⟨RX12, "to", "(II)I"⟩
abbrev cX12_sign : ByteArray := prog_14_method_8_code
def yX12_sign : MethodName := ⟨RX12, "sign", "(II)I"⟩
abbrev cX12_kind : ByteArray := prog_14_method_9_code
def yX12_kind : MethodName := ⟨RX12, "kind", "(IIIIZ)I"⟩
abbrev cX12_times : ByteArray := prog_14_method_10_code
def yX12_times : MethodName := ⟨RX12, "times", "(II)I"⟩
abbrev cX12_product : ByteArray := prog_14_method_11_code
def yX12_product : MethodName := ⟨RX12, "product", "(II)I"⟩
abbrev cX12_holdsOf : ByteArray := prog_14_method_12_code
def yX12_holdsOf : MethodName := ⟨RX12, "holdsOf", "(I)I"⟩
abbrev cX12_holdsOfRow : ByteArray := prog_14_method_13_code
def yX12_holdsOfRow : MethodName := ⟨RX12, "holdsOfRow", "(I)I"⟩
abbrev cX12_newLayer : ByteArray := prog_14_method_14_code
def yX12_newLayer : MethodName := ⟨RX12, "newLayer", "()I"⟩
abbrev cX12_meets : ByteArray := prog_14_method_15_code
def yX12_meets : MethodName := ⟨RX12, "meets", "()I"⟩
abbrev cX12_newRow : ByteArray := prog_14_method_16_code
def yX12_newRow : MethodName := ⟨RX12, "newRow", "()I"⟩
abbrev cX12_aloneLayer : ByteArray := prog_14_method_17_code
def yX12_aloneLayer : MethodName := ⟨RX12, "aloneLayer", "(II)V"⟩
abbrev cX12_aloneRow : ByteArray := prog_14_method_18_code
def yX12_aloneRow : MethodName := ⟨RX12, "aloneRow", "(III)V"⟩
abbrev cX12_isThere : ByteArray := prog_14_method_19_code
def yX12_isThere : MethodName := ⟨RX12, "isThere", "(IIII)I"⟩
abbrev cX12_cell : ByteArray := prog_14_method_20_code
def yX12_cell : MethodName := ⟨RX12, "cell", "(IIII)I"⟩
abbrev cX12_change : ByteArray := prog_14_method_21_code
def yX12_change : MethodName := ⟨RX12, "change", "(IIIIII)Z"⟩
abbrev cX12_layer : ByteArray := prog_14_method_22_code
def yX12_layer : MethodName := ⟨RX12, "layer", "(II)Z"⟩
abbrev cX12_row : ByteArray := prog_14_method_23_code
def yX12_row : MethodName := ⟨RX12, "row", "(IIII)I"⟩
abbrev cX12_less : ByteArray := prog_14_method_24_code
def yX12_less : MethodName := ⟨RX12, "less", "(II)Z"⟩
abbrev cX12_isKindOrOpen : ByteArray := prog_14_method_25_code
def yX12_isKindOrOpen : MethodName := ⟨RX12, "isKindOrOpen", "(I)Z"⟩
abbrev cX12_put : ByteArray := prog_14_method_26_code
def yX12_put : MethodName := ⟨RX12, "put", "(IIIII)I"⟩
abbrev cX12_face : ByteArray := prog_14_method_27_code
def yX12_face : MethodName := ⟨RX12, "face", "(IIIII)I"⟩
abbrev cX12_there : ByteArray := prog_14_method_28_code
def yX12_there : MethodName := ⟨RX12, "there", "(IIII)I"⟩
abbrev cX12_kindAt : ByteArray := prog_14_method_29_code
def yX12_kindAt : MethodName := ⟨RX12, "kindAt", "(IIII)I"⟩
abbrev cX12_at : ByteArray := prog_14_method_30_code
def yX12_at : MethodName := ⟨RX12, "at", "(IIII)I"⟩
abbrev cX12_turnAt : ByteArray := prog_14_method_31_code
def yX12_turnAt : MethodName := ⟨RX12, "turnAt", "(IIII)I"⟩
abbrev cX12_copy : ByteArray := prog_14_method_32_code
def yX12_copy : MethodName := ⟨RX12, "copy", "(II)V"⟩
abbrev cX12_share : ByteArray := prog_14_method_33_code
def yX12_share : MethodName := ⟨RX12, "share", "(II)Z"⟩
abbrev cX12_keep : ByteArray := prog_14_method_34_code
def yX12_keep : MethodName := ⟨RX12, "keep", "(II)Z"⟩
abbrev cX12_back : ByteArray := prog_14_method_35_code
def yX12_back : MethodName := ⟨RX12, "back", "(II)Z"⟩
abbrev cX12_forget : ByteArray := prog_14_method_36_code
def yX12_forget : MethodName := ⟨RX12, "forget", "(I)Z"⟩
abbrev cX12_same : ByteArray := prog_14_method_37_code
def yX12_same : MethodName := ⟨RX12, "same", "(IIIII)I"⟩
abbrev cX12_made : ByteArray := prog_14_method_38_code
def yX12_made : MethodName := ⟨RX12, "made", "(I)I"⟩
abbrev cX12_box : ByteArray := prog_14_method_39_code
def yX12_box : MethodName := ⟨RX12, "box", "(I)Z"⟩
abbrev cX12_isIn : ByteArray := prog_14_method_40_code
def yX12_isIn : MethodName := ⟨RX12, "isIn", "(I)Z"⟩
abbrev cX12_kindOf : ByteArray := prog_14_method_41_code
def yX12_kindOf : MethodName := ⟨RX12, "kindOf", "(II)I"⟩
abbrev cX12_turnOf : ByteArray := prog_14_method_42_code
def yX12_turnOf : MethodName := ⟨RX12, "turnOf", "(II)I"⟩
abbrev cX12_changeAt : ByteArray := prog_14_method_43_code
def yX12_changeAt : MethodName := ⟨RX12, "changeAt", "(IIII)Z"⟩
abbrev cX12_fill : ByteArray := prog_14_method_44_code
def yX12_fill : MethodName := ⟨RX12, "fill", "(III)I"⟩
abbrev cX12_replace : ByteArray := prog_14_method_45_code
def yX12_replace : MethodName := ⟨RX12, "replace", "(III)I"⟩
abbrev cX12_count : ByteArray := prog_14_method_46_code
def yX12_count : MethodName := ⟨RX12, "count", "(II)I"⟩
abbrev cX12_next : ByteArray := prog_14_method_47_code
def yX12_next : MethodName := ⟨RX12, "next", "(II)I"⟩
abbrev cX12_kindBeside : ByteArray := prog_14_method_48_code
def yX12_kindBeside : MethodName := ⟨RX12, "kindBeside", "(III)I"⟩
abbrev cX12_reads : ByteArray := prog_14_method_49_code
def yX12_reads : MethodName := ⟨RX12, "reads", "(I)V"⟩
abbrev cX12_hollow : ByteArray := prog_14_method_50_code
def yX12_hollow : MethodName := ⟨RX12, "hollow", "(I)I"⟩
abbrev cX12_move : ByteArray := prog_14_method_51_code
def yX12_move : MethodName := ⟨RX12, "move", "(IIIZ)I"⟩
abbrev cX12_along : ByteArray := prog_14_method_52_code
def yX12_along : MethodName := ⟨RX12, "along", "(I)I"⟩
abbrev cX12_turnBox : ByteArray := prog_14_method_53_code
def yX12_turnBox : MethodName := ⟨RX12, "turnBox", "(II)I"⟩
abbrev cX12_cut : ByteArray := prog_14_method_54_code
def yX12_cut : MethodName := ⟨RX12, "cut", "(IIIII)I"⟩
abbrev cX12_findParts : ByteArray := prog_14_method_55_code
def yX12_findParts : MethodName := ⟨RX12, "findParts", "(I)V"⟩
abbrev cX12_isLoose : ByteArray := prog_14_method_56_code
def yX12_isLoose : MethodName := ⟨RX12, "isLoose", "(II)Z"⟩
abbrev cX12_falls : ByteArray := prog_14_method_57_code
def yX12_falls : MethodName := ⟨RX12, "falls", "(II)I"⟩
abbrev cX12_parts : ByteArray := prog_14_method_58_code
def yX12_parts : MethodName := ⟨RX12, "parts", "(I)I"⟩
abbrev cX12_part : ByteArray := prog_14_method_59_code
def yX12_part : MethodName := ⟨RX12, "part", "(IIII)I"⟩
abbrev cX12_partOf : ByteArray := prog_14_method_60_code
def yX12_partOf : MethodName := ⟨RX12, "partOf", "(III)I"⟩
abbrev cX12_fall : ByteArray := prog_14_method_61_code
def yX12_fall : MethodName := ⟨RX12, "fall", "(III)V"⟩
abbrev cX12_nextToFall : ByteArray := prog_14_method_62_code
def yX12_nextToFall : MethodName := ⟨RX12, "nextToFall", "(I)I"⟩
abbrev cX12_settle : ByteArray := prog_14_method_63_code
def yX12_settle : MethodName := ⟨RX12, "settle", "(I)I"⟩
abbrev cX12_fallen : ByteArray := prog_14_method_64_code
def yX12_fallen : MethodName := ⟨RX12, "fallen", "(II)I"⟩
abbrev cX12_loadOf : ByteArray := prog_14_method_65_code
def yX12_loadOf : MethodName := ⟨RX12, "loadOf", "(II)I"⟩
abbrev cX12_load : ByteArray := prog_14_method_66_code
def yX12_load : MethodName := ⟨RX12, "load", "(IIII)I"⟩
abbrev cX12_overloaded : ByteArray := prog_14_method_67_code
def yX12_overloaded : MethodName := ⟨RX12, "overloaded", "(I)I"⟩
abbrev cX12_shines : ByteArray := prog_14_method_68_code
def yX12_shines : MethodName := ⟨RX12, "shines", "(I)V"⟩
abbrev cX12_light : ByteArray := prog_14_method_69_code
def yX12_light : MethodName := ⟨RX12, "light", "(IIII)I"⟩
abbrev cX12_dark : ByteArray := prog_14_method_70_code
def yX12_dark : MethodName := ⟨RX12, "dark", "(II)I"⟩
abbrev cX12_faces : ByteArray := prog_14_method_71_code
def yX12_faces : MethodName := ⟨RX12, "faces", "(I)I"⟩
abbrev cX12_isStand : ByteArray := prog_14_method_72_code
def yX12_isStand : MethodName := ⟨RX12, "isStand", "(I)Z"⟩
abbrev cX12_isFree : ByteArray := prog_14_method_73_code
def yX12_isFree : MethodName := ⟨RX12, "isFree", "(I)Z"⟩
abbrev cX12_path : ByteArray := prog_14_method_74_code
def yX12_path : MethodName := ⟨RX12, "path", "(III)I"⟩
abbrev cX12_findBlocks : ByteArray := prog_14_method_75_code
def yX12_findBlocks : MethodName := ⟨RX12, "findBlocks", "(I)V"⟩
abbrev cX12_goesIn : ByteArray := prog_14_method_76_code
def yX12_goesIn : MethodName := ⟨RX12, "goesIn", "(IIII)Z"⟩
abbrev cX12_goes : ByteArray := prog_14_method_77_code
def yX12_goes : MethodName := ⟨RX12, "goes", "(III)I"⟩
abbrev cX12_places : ByteArray := prog_14_method_78_code
def yX12_places : MethodName := ⟨RX12, "places", "(II)I"⟩
abbrev cX12_place : ByteArray := prog_14_method_79_code
def yX12_place : MethodName := ⟨RX12, "place", "(III)I"⟩
abbrev cX12_differs : ByteArray := prog_14_method_80_code
def yX12_differs : MethodName := ⟨RX12, "differs", "(II)I"⟩
def RJx8e188 : String := "java/lang/Cloneable"
def TJx8e188 : u_T := fun k => match k with
  | _ => ("", "", "", false)
def tyJx8e188 : Nat → FieldType := fun k => match k with
  | _ => .int
theorem nmJx8e188 : ∀ a, a < 0 → ∀ b, b < 0 → a ≠ b → (TJx8e188 a).2.1 ≠ (TJx8e188 b).2.1 := by decide +kernel
theorem tyJx8e188_ok : ∀ k, k < 0 → parseFieldDescriptor (TJx8e188 k).2.2.1 = some (tyJx8e188 k) := by decide +kernel
def RJ9 : String := "java/lang/Math"
def TJ9 : u_T := fun k => match k with
  | _ => ("", "", "", false)
def tyJ9 : Nat → FieldType := fun k => match k with
  | _ => .int
theorem nmJ9 : ∀ a, a < 0 → ∀ b, b < 0 → a ≠ b → (TJ9 a).2.1 ≠ (TJ9 b).2.1 := by decide +kernel
theorem tyJ9_ok : ∀ k, k < 0 → parseFieldDescriptor (TJ9 k).2.2.1 = some (tyJ9 k) := by decide +kernel
abbrev cJ9_max_7cf53 : ByteArray := prog_18_method_65_code
def yJ9_max_7cf53 : MethodName := ⟨RJ9, "max", "(II)I"⟩
abbrev cJ9_min_7cf53 : ByteArray := prog_18_method_69_code
def yJ9_min_7cf53 : MethodName := ⟨RJ9, "min", "(II)I"⟩
def RL : String := "StackYardLaw"
abbrev cL_fallen : ByteArray := method_3_code
def yL_fallen : MethodName := ⟨RL, "fallen", "(LStackYard;II[J)I"⟩
abbrev cL_law : ByteArray := code
def yL_law : MethodName := ⟨RL, "law", "([I)Z"⟩
abbrev vwCl : List vw_C := [(RX0, TX0, 2), (RX1, TX1, 3), (RX2, TX2, 6), (RX3, TX3, 1), (RX4, TX4, 2), (RX5, TX5, 4), (RX6, TX6, 5), (RX7, TX7, 2), (RX9, TX9, 3), (RX10, TX10, 2), (RX11, TX11, 14), (RX12, TX12, 33)]
end
section
/-! THE SMALL MACHINE: a heap of numbered cells (Mm), locals by place (Lv), and PT: the kit's W at a point whose heap, locals and stack are told by them. -/
-- words: those of the tables that every callee may have
def TG : List Cond := lw_tbl.filter goodWord
theorem TG_good : GoodIn TG TG := fun _ h => ⟨h, good_of_word (List.mem_filter.mp h).2⟩
theorem TG_in {w : Cond} (i : Nat) (h : lw_tbl[i]? = some w) (g : goodWord w = true) : w ∈ TG := List.mem_filter.mpr ⟨List.mem_of_getElem? h, g⟩
-- cells, the heap: how many cells, how many slots, what each holds
abbrev MC : Type := (Nat × vp_A) ⊕ (Nat × List Value)
abbrev Mm : Type := Nat × Nat × (Nat → MC)
abbrev Lv : Type := List (Option Value)
def junk : MC := .inr (99, [])
/-- the world's fixed part: the classes' numbers, the array classes by their tags, the addresses of the cells below 5 (statics, the script), the first address above -/
abbrev GF : Type := va_G × (Nat → ClassId) × (Nat → Nat) × Nat
def adr (X : GF) (i : Nat) : Nat := if i < 5 then X.2.2.1 i else X.2.2.2 + (i - 5)
def AA (X : GF) : Nat → Prop := fun q => X.2.2.2 ≤ q
def up (X : GF) (v : Value) : Value := match v with
  | .ref i => .ref (adr X i)
  | w => w
def upA (X : GF) (a : vp_A) : vp_A := (a.1, match a.2 with
  | .inr (.inr (.inr (.inr f))) => .inr (.inr (.inr (.inr (fun j => (f j).map (adr X)))))
  | w => w)
def upC (X : GF) (c : MC) : va_E := match c with
  | .inl (t, a) => .inl (X.2.1 t, upA X a)
  | .inr (k, fs) => .inr (k, fs.map (up X))
/-- the array types by their tags: 0 int, 1 boolean, 2 long, 3 yards, 4 layers, 5 rows -/
def atT (t : Nat) : FieldType := match t with
  | 0 => .int
  | 1 => .boolean
  | 2 => .long
  | 3 => .object "StackYard$Yard"
  | 4 => .object "StackYard$Layer"
  | _ => .object "StackYard$Row"
def TYS (X : GF) : List (ClassId × FieldType) := [(X.2.1 0, .int), (X.2.1 1, .boolean), (X.2.1 2, .long), (X.2.1 3, .object "StackYard$Yard"), (X.2.1 4, .object "StackYard$Layer"), (X.2.1 5, .object "StackYard$Row")]
/-- the static arrays: class, field, number -/
def STN : List (String × String × Nat) := [("StackYard$Turns", "AXES", 1), ("StackYard$Turns", "SIGNS", 2), ("StackYardModel", "PERMUTED", 3), ("StackYardModel", "EVEN", 4)]
/-- the words that the tables alone don't carry over: links between nest mates, and what a clone asks -/
def isNW : Cond → Bool
  | .methodLinkNest .. => true
  | .castable .. => true
  | _ => false
def NWL : List Cond := lw_tbl.filter isNW
def ST (X : GF) (U : State) (M : Mm) (H : Heap) : Prop :=
  (∀ i : Nat, i < 5 → ∃ (n : Nat) (f : Nat → Int32), M.2.2 i = .inl (0, n, .inl f) ∧ n < 2 ^ 31 ∧ va_T .int (adr X i) n (fun j => .int (f j)) (AA X) U H) ∧
  (∀ q ∈ STN, va_Z q.1 q.2.1 "[I" (.ref (adr X q.2.2)) (AA X) U H) ∧
  (va_Zq "java/lang/Throwable" "UNASSIGNED_STACK" "[Ljava/lang/StackTraceElement;" (AA X) U H ∧ va_Zq "java/lang/Throwable" "SUPPRESSED_SENTINEL" "Ljava/util/List;" (AA X) U H) ∧
  (∀ w ∈ NWL, va_Nw w U)
def Rp (X : GF) (U : State) (M : Mm) (H : Heap) : Prop :=
  (5 ≤ M.1 ∧ H.size = X.2.2.2 + (M.1 - 5)) ∧
  (∀ i : Nat, 5 ≤ i → i < M.1 → va_at X.1 vwCl (adr X i, upC X (M.2.2 i)) H) ∧
  (∀ i : Nat, M.1 ≤ i → M.2.2 i = junk) ∧
  va_K X.1 vwCl (TYS X) U ∧ ST X U M H
/-- a method: code, its class, locals, frames and words of the room, name, what it returns -/
abbrev MI : Type := ByteArray × String × Nat × Nat × Nat × String × Option FieldType
abbrev GT : Type := GF × Program × Launch × Env × Room × State × MethodId × Array Value × List Frame × Method × Code × Nat × Nat × (State → Prop)
abbrev gX (G : GT) : GF := G.1
abbrev gp (G : GT) : Program := G.2.1
abbrev gl (G : GT) : Launch := G.2.2.1
abbrev ge (G : GT) : Env := G.2.2.2.1
abbrev gR (G : GT) : Room := G.2.2.2.2.1
abbrev gs (G : GT) : State := G.2.2.2.2.2.1
abbrev gm (G : GT) : MethodId := G.2.2.2.2.2.2.1
abbrev ga (G : GT) : Array Value := G.2.2.2.2.2.2.2.1
abbrev gb (G : GT) : List Frame := G.2.2.2.2.2.2.2.2.1
abbrev gh (G : GT) : Method := G.2.2.2.2.2.2.2.2.2.1
abbrev gc (G : GT) : Code := G.2.2.2.2.2.2.2.2.2.2.1
abbrev gn (G : GT) : Nat := G.2.2.2.2.2.2.2.2.2.2.2.1
abbrev gz (G : GT) : Nat := G.2.2.2.2.2.2.2.2.2.2.2.2.1
abbrev gQ (G : GT) : State → Prop := G.2.2.2.2.2.2.2.2.2.2.2.2.2
def LOC (X : GF) (ls : Array Slot) (nL : Nat) (L : Lv) : Prop := ls.size = nL ∧ lv_wf ls ∧ ∀ (i : Nat) (v : Value), L[i]? = some (some v) → ls[i]? = some (.val (up X v))
def PT (G : GT) (pc : Nat) (L : Lv) (st : List Value) (M : Mm) : Prop :=
  ∀ (ls : Array Slot) (H : Heap) (locs : List Loc), LOC (gX G) ls (gc G).maxLocals L → Rp (gX G) (gs G) M H → va_S (AA (gX G)) (gs G).heap H locs →
    W (gp G) (gl G) (ge G) (gR G) (gs G) (gm G) (ga G) (gb G) (gh G) (gc G) H locs (M.1 - gn G) (M.2.1 - gz G) (gQ G) (F0 (gm G) pc ls (st.map (up (gX G))))
/-- what holds in a method's body -/
def CX (G : GT) (I : MI) : Prop :=
  (gp G).tables.exec = Jvm.exec ∧ (gc G).code = I.1 ∧ (gs G).vm.findClass I.2.1 = some (gm G).cls ∧ (gc G).maxLocals = I.2.2.1 ∧ (∀ w ∈ TG, w.before (ga G) (gs G) = true) ∧
  (gR G).frames = I.2.2.2.1 ∧ (gR G).locals = I.2.2.2.2.1 ∧ (gh G).name = I.2.2.2.2.2.1 ∧ (gh G).sig.returnType = I.2.2.2.2.2.2 ∧ (gh G).locks = false ∧ (gX G).2.2.2 ≤ (gs G).heap.size ∧ (gl G).flags = flags0
def csum (st : List Value) : Nat := (st.map fun v => v.category).sum
theorem csum_up (X : GF) (st : List Value) : ((st.map (up X)).map fun v => v.category).sum = csum st := by
  unfold csum
  rw [List.map_map]
  congr 1
  refine List.map_congr_left (fun v _ => ?_)
  cases v <;> rfl
theorem csum_cons (v : Value) (st : List Value) : csum (v :: st) = v.category + csum st := by simp [csum]
-- locals
def kil (i : Nat) (L : Lv) : Lv := match L[i - 1]? with
  | some (some v) => if v.category = 2 then L.set (i - 1) none else L
  | _ => L
def stL (i : Nat) (v : Value) (L : Lv) : Lv := (kil i L).set i (some v)
def stJ (i : Nat) (v : Value) (L : Lv) : Lv := ((kil i L).set i (some v)).set (i + 1) none
def lvl (X : GF) (L : Lv) : List (Nat × Value) := (List.range L.length).filterMap (fun j => match L[j]? with
  | some (some v) => some (j, up X v)
  | _ => none)
theorem mem_lvl {X : GF} {L : Lv} {j : Nat} {v : Value} (h : L[j]? = some (some v)) : (j, up X v) ∈ lvl X L := by
  refine List.mem_filterMap.mpr ⟨j, List.mem_range.mpr (List.getElem?_eq_some_iff.mp h).1, ?_⟩
  simp [h]
theorem LOC.has {X : GF} {ls : Array Slot} {nL : Nat} {L : Lv} (h : LOC X ls nL L) : lv_has ls nL (lvl X L) := by
  refine ⟨h.1, h.2.1, fun q hq => ?_⟩
  obtain ⟨j, -, hj⟩ := List.mem_filterMap.mp hq
  cases hL : L[j]? with
  | none => rw [hL] at hj; cases hj
  | some o =>
    cases o with
    | none => rw [hL] at hj; cases hj
    | some v =>
      rw [hL] at hj
      cases hj
      exact h.2.2 j v hL
theorem kil_get {i j : Nat} {L : Lv} {v : Value} (h : (kil i L)[j]? = some (some v)) : L[j]? = some (some v) ∧ ¬ (j + 1 = i ∧ v.category = 2) := by
  unfold kil at h
  split at h
  · rename_i w hw
    by_cases hc : w.category = 2
    · rw [if_pos hc] at h
      by_cases e : j = i - 1
      · subst e
        have hlt := (List.getElem?_eq_some_iff.mp hw).1
        rw [List.getElem?_set_self hlt] at h
        cases h
      · rw [List.getElem?_set_ne (fun q => e q.symm)] at h
        exact ⟨h, fun q => e (by omega)⟩
    · rw [if_neg hc] at h
      refine ⟨h, fun q => ?_⟩
      obtain ⟨q1, q2⟩ := q
      have : i - 1 = j := by omega
      rw [this, h] at hw
      cases hw
      exact hc q2
  · rename_i hno
    refine ⟨h, fun q => ?_⟩
    obtain ⟨q1, q2⟩ := q
    have : i - 1 = j := by omega
    rw [this] at hno
    exact hno _ h
theorem up_cat (X : GF) (v : Value) : (up X v).category = v.category := by cases v <;> rfl
theorem LOC.store {X : GF} {ls' : Array Slot} {nL i : Nat} {L : Lv} {v w : Value} (hw : up X v = w)
    (h' : lv_has ls' nL ((i, w) :: (lvl X L).filter (fun q => !(q.1 == i) && !(q.1 + 1 == i && q.2.category == 2)))) : LOC X ls' nL (stL i v L) := by
  refine ⟨h'.1, h'.2.1, fun j u hj => ?_⟩
  unfold stL at hj
  by_cases e : j = i
  · subst e
    by_cases hlt : j < (kil j L).length
    · rw [List.getElem?_set_self hlt] at hj
      cases hj
      rw [hw]
      exact h'.2.2 (j, w) List.mem_cons_self
    · rw [List.getElem?_eq_none (by rw [List.length_set]; omega)] at hj
      cases hj
  · rw [List.getElem?_set_ne (fun q => e q.symm)] at hj
    obtain ⟨h1, h2⟩ := kil_get hj
    refine h'.2.2 (j, up X u) (List.mem_cons_of_mem _ (List.mem_filter.mpr ⟨mem_lvl h1, ?_⟩))
    rw [up_cat]
    have e1 : (j == i) = false := by simpa using e
    rw [e1]
    cases hq : (j + 1 == i && u.category == 2) with
    | false => rfl
    | true =>
      simp only [Bool.and_eq_true, beq_iff_eq] at hq
      exact absurd hq h2
theorem LOC.storeJ {X : GF} {ls' : Array Slot} {nL i : Nat} {L : Lv} {v w : Value} (hw : up X v = w)
    (h' : lv_has ls' nL ((i, w) :: (lvl X L).filter (fun q => !(q.1 == i) && (!(q.1 == i + 1) && !(q.1 + 1 == i && q.2.category == 2))))) : LOC X ls' nL (stJ i v L) := by
  refine ⟨h'.1, h'.2.1, fun j u hj => ?_⟩
  unfold stJ at hj
  by_cases e2 : j = i + 1
  · subst e2
    by_cases hlt : i + 1 < ((kil i L).set i (some v)).length
    · rw [List.getElem?_set_self hlt] at hj
      cases hj
    · rw [List.getElem?_eq_none (by rw [List.length_set]; omega)] at hj
      cases hj
  · rw [List.getElem?_set_ne (fun q => e2 q.symm)] at hj
    by_cases e : j = i
    · subst e
      by_cases hlt : j < (kil j L).length
      · rw [List.getElem?_set_self hlt] at hj
        cases hj
        rw [hw]
        exact h'.2.2 (j, w) List.mem_cons_self
      · rw [List.getElem?_eq_none (by rw [List.length_set]; omega)] at hj
        cases hj
    · rw [List.getElem?_set_ne (fun q => e q.symm)] at hj
      obtain ⟨h1, h2⟩ := kil_get hj
      refine h'.2.2 (j, up X u) (List.mem_cons_of_mem _ (List.mem_filter.mpr ⟨mem_lvl h1, ?_⟩))
      rw [up_cat]
      have e1 : (j == i) = false := by simpa using e
      have e3 : (j == i + 1) = false := by simpa using e2
      rw [e1, e3]
      cases hq : (j + 1 == i && u.category == 2) with
      | false => rfl
      | true =>
        simp only [Bool.and_eq_true, beq_iff_eq] at hq
        exact absurd hq h2
end
section
/-! ROWS of the small machine: an instruction each, out of the kit's rows. -/
def setC (M : Mm) (a : Nat) (c : MC) : Mm := (M.1, M.2.1, fun b => if b = a then c else M.2.2 b)
def newC (M : Mm) (k : Nat) (c : MC) : Mm := (M.1 + 1, M.2.1 + k, fun b => if b = M.1 then c else M.2.2 b)
theorem va_P1 {D : va_G} {cl : List vw_C} {q : Nat × va_E} {H : Heap} (h : va_at D cl q H) : va_P D cl [q] H := by
  intro k x hx
  have hz : k < 1 := (List.getElem?_eq_some_iff.mp hx).1
  rw [show k = 0 by omega] at hx
  cases hx
  exact h
theorem adr_hi (X : GF) {a : Nat} (h : 5 ≤ a) : adr X a = X.2.2.2 + (a - 5) := by unfold adr; rw [if_neg (by omega)]
theorem Rp.ltA {X : GF} {U : State} {M : Mm} {H : Heap} (h : Rp X U M H) {a : Nat} {t : Nat} {x : vp_A} (hM : M.2.2 a = .inl (t, x)) : a < M.1 := by
  rcases Nat.lt_or_ge a M.1 with q | q
  · exact q
  · rw [h.2.2.1 a q] at hM
    cases hM
theorem Rp.ltO {X : GF} {U : State} {M : Mm} {H : Heap} (h : Rp X U M H) {a ci : Nat} {fs : List Value} (hM : M.2.2 a = .inr (ci, fs)) {r : vw_C} (hc : vwCl[ci]? = some r) : 5 ≤ a ∧ a < M.1 := by
  constructor
  · rcases Nat.lt_or_ge a 5 with q | q
    · obtain ⟨n, f, h1, -⟩ := h.2.2.2.2.1 a q
      rw [h1] at hM
      cases hM
    · exact q
  · rcases Nat.lt_or_ge a M.1 with q | q
    · exact q
    · rw [h.2.2.1 a q] at hM
      cases hM
      cases hc
theorem Rp.P {X : GF} {U : State} {M : Mm} {H : Heap} (h : Rp X U M H) {a : Nat} {c : MC} (hM : M.2.2 a = c) (h5 : 5 ≤ a) (hl : a < M.1) : va_P X.1 vwCl [(adr X a, upC X c)] H := by
  rw [← hM]
  exact va_P1 (h.2.1 a h5 hl)
theorem Rp.K {X : GF} {U : State} {M : Mm} {H : Heap} (h : Rp X U M H) : va_K X.1 vwCl (TYS X) U := h.2.2.2.1
theorem TYS_at (X : GF) {t : Nat} (h : t ≤ 5) : (TYS X)[t]? = some (X.2.1 t, atT t) := by
  rcases (show t = 0 ∨ t = 1 ∨ t = 2 ∨ t = 3 ∨ t = 4 ∨ t = 5 by omega) with rfl | rfl | rfl | rfl | rfl | rfl <;> rfl
theorem ST.kept {X : GF} {U : State} {M M' : Mm} {H H1 : Heap} (h : ST X U M H) (hq : ∀ a : Nat, a < H.size → ¬ AA X a → H1[a]? = H[a]?) (hm : ∀ i : Nat, i < 5 → M'.2.2 i = M.2.2 i) : ST X U M' H1 := by
  obtain ⟨h1, h2, ⟨h3, h4⟩, h5⟩ := h
  refine ⟨fun i hi => ?_, fun q hqm => (h2 q hqm).kept hq, ⟨h3.kept hq, h4.kept hq⟩, h5⟩
  obtain ⟨n, f, a1, a2, a3⟩ := h1 i hi
  exact ⟨n, f, by rw [hm i hi]; exact a1, a2, a3.kept hq⟩
theorem Rp.set {X : GF} {U : State} {M : Mm} {H H1 : Heap} (h : Rp X U M H) {a : Nat} {c : MC} (h5 : 5 ≤ a) (hl : a < M.1) (z : H1.size = H.size) (hn : va_at X.1 vwCl (adr X a, upC X c) H1) (oq : ∀ q : Nat, q ≠ adr X a → H1[q]? = H[q]?) : Rp X U (setC M a c) H1 := by
  obtain ⟨⟨h1, h2⟩, h3, h4, hK, hST⟩ := h
  refine ⟨⟨h1, by rw [z]; exact h2⟩, fun i hi hil => ?_, fun i hi => ?_, hK, ?_⟩
  · show va_at X.1 vwCl (adr X i, upC X (if i = a then c else M.2.2 i)) H1
    by_cases e : i = a
    · rw [if_pos e, e]
      exact hn
    · rw [if_neg e]
      refine (h3 i hi hil).kept (oq _ fun q => e ?_)
      rw [adr_hi X hi, adr_hi X h5] at q
      omega
  · show (if i = a then c else M.2.2 i) = junk
    rw [if_neg (by have : M.1 ≤ i := hi; omega)]
    exact h4 i hi
  · refine hST.kept (fun q hq hA => oq q fun e => hA ?_) (fun i hi => ?_)
    · show X.2.2.2 ≤ q
      rw [e, adr_hi X h5]
      omega
    · show (if i = a then c else M.2.2 i) = M.2.2 i
      rw [if_neg (by omega)]
theorem va_S.put5 {X : GF} {H0 H H1 : Heap} {locs : List Loc} {a k : Nat} (h : va_S (AA X) H0 H locs) (h5 : 5 ≤ a) (z : H1.size = H.size) (oq : ∀ q : Nat, q ≠ adr X a → H1[q]? = H[q]?) : va_S (AA X) H0 H1 (locs ++ [⟨adr X a, k⟩]) :=
  h.put z oq (by show X.2.2.2 ≤ _; rw [adr_hi X h5]; omega)
theorem Rp.new {X : GF} {U : State} {M : Mm} {H H1 : Heap} (h : Rp X U M H) {c : MC} (k : Nat) (z : H1.size = H.size + 1) (hn : va_at X.1 vwCl (H.size, upC X c) H1) (oq : ∀ q : Nat, q < H.size → H1[q]? = H[q]?) : Rp X U (newC M k c) H1 := by
  obtain ⟨⟨h1, h2⟩, h3, h4, hK, hST⟩ := h
  refine ⟨⟨by show 5 ≤ M.1 + 1; omega, by show H1.size = X.2.2.2 + (M.1 + 1 - 5); omega⟩, fun i hi hil => ?_, fun i hi => ?_, hK, ?_⟩
  · show va_at X.1 vwCl (adr X i, upC X (if i = M.1 then c else M.2.2 i)) H1
    by_cases e : i = M.1
    · rw [if_pos e, e, adr_hi X h1, ← h2]
      exact hn
    · rw [if_neg e]
      have hil' : i < M.1 + 1 := hil
      have hi' := h3 i hi (by omega)
      exact hi'.kept (oq _ hi'.lt)
  · have hi' : M.1 + 1 ≤ i := hi
    show (if i = M.1 then c else M.2.2 i) = junk
    rw [if_neg (by omega)]
    exact h4 i (by omega)
  · refine hST.kept (fun q hq _ => oq q hq) (fun i hi => ?_)
    show (if i = M.1 then c else M.2.2 i) = M.2.2 i
    rw [if_neg (by omega)]
theorem va_S.new5 {X : GF} {H0 H H1 : Heap} {locs : List Loc} (h : va_S (AA X) H0 H locs) (z : H1.size = H.size + 1) (oq : ∀ q : Nat, q < H.size → H1[q]? = H[q]?) : va_S (AA X) H0 H1 locs :=
  ⟨Nat.le_trans h.1 (by omega), fun x h1 h2 => (oq x (Nat.lt_of_lt_of_le h1 h.1)).trans (h.2.1 x h1 h2), h.2.2⟩
theorem NWL_cases {w : Cond} (h : w ∈ NWL) : (∃ a i x b, w = .methodLinkNest a i x b) ∨ ∃ C T, w = .castable C T := by
  have h1 := (List.mem_filter.mp h).2
  cases w <;> first | exact Or.inl ⟨_, _, _, _, rfl⟩ | exact Or.inr ⟨_, _, rfl⟩ | cases h1
theorem NWL_warm {s U : State} (hW : s.WarmedH U.vm) (h : ∀ w ∈ NWL, va_Nw w s) : ∀ w ∈ NWL, va_Nw w U := by
  intro w hw
  have h1 := h w hw
  rcases NWL_cases hw with ⟨a, i, x, b, rfl⟩ | ⟨C, T, rfl⟩
  · exact va_Nw.warmM hW h1
  · exact va_Nw.warmC hW h1
theorem NWL_same {s U : State} (hv : s.vm = U.vm) (h : ∀ w ∈ NWL, va_Nw w s) : ∀ w ∈ NWL, va_Nw w U := by
  intro w hw
  have h1 := h w hw
  rcases NWL_cases hw with ⟨a, i, x, b, rfl⟩ | ⟨C, T, rfl⟩
  · exact va_Nw.same rfl hv h1
  · exact va_Nw.same rfl hv h1
theorem Rp.move {X : GF} {s U : State} {M : Mm} {H : Heap} (h : Rp X s M H) (hvm : s.vm.Alike U.vm) (hw : ∀ w ∈ NWL, va_Nw w U) : Rp X U M H := by
  obtain ⟨h1, h2, h3, hK, q1, q2, ⟨q3, q4⟩, -⟩ := h
  refine ⟨h1, h2, h3, va_K.moved hvm hK, fun i hi => ?_, fun q hq => (q2 q hq).moved hvm, ⟨q3.moved hvm, q4.moved hvm⟩, hw⟩
  obtain ⟨n, f, a1, a2, a3⟩ := q1 i hi
  exact ⟨n, f, a1, a2, a3.moved hvm⟩
theorem Rp.W {X : GF} {U : State} {M : Mm} {H : Heap} (h : Rp X U M H) : ∀ w ∈ NWL, va_Nw w U := h.2.2.2.2.2.2.2
theorem Rp.warm {X : GF} {s U : State} {M : Mm} {H : Heap} (h : Rp X s M H) (hW : s.WarmedH U.vm) : Rp X U M H := h.move hW.alike (NWL_warm hW h.W)
section PTrows
variable {G : GT} {I : MI} {pc : Nat} {L : Lv} {st : List Value} {M : Mm}
theorem pt_iconst (C : CX G I) {n : Int} {v : Int32} (hd : decode I.1 pc = .ok (.iconst n, 1)) (hv : Int32.ofInt n = v) (k : PT G (pc + 1) L (.int v :: st) M) : PT G pc L st M :=
  fun ls H locs hl hR hS => lv_iconst C.1 C.2.1 hd hv (k ls H locs hl hR hS)
theorem pt_bipush (C : CX G I) {n : Int} {v : Int32} (hd : decode I.1 pc = .ok (.bipush n, 2)) (hv : (Int8.ofInt n).toInt32 = v) (k : PT G (pc + 2) L (.int v :: st) M) : PT G pc L st M :=
  fun ls H locs hl hR hS => lv_bipush C.1 C.2.1 hd hv (k ls H locs hl hR hS)
theorem pt_sipush (C : CX G I) {n : Int} {v : Int32} (hd : decode I.1 pc = .ok (.sipush n, 3)) (hv : (Int16.ofInt n).toInt32 = v) (k : PT G (pc + 3) L (.int v :: st) M) : PT G pc L st M :=
  fun ls H locs hl hR hS => lv_sipush C.1 C.2.1 hd hv (k ls H locs hl hR hS)
theorem pt_ldc (C : CX G I) {i : Nat} {v : Int32} (hd : decode I.1 pc = .ok (.ldc i, 2)) (hw : Cond.constant I.2.1 i v ∈ TG) (k : PT G (pc + 2) L (.int v :: st) M) : PT G pc L st M :=
  fun ls H locs hl hR hS => lv_ldc C.1 C.2.1 C.2.2.1 (C.2.2.2.2.1 _ hw) hd (k ls H locs hl hR hS)
theorem pt_ldc2 (C : CX G I) {i : Nat} {v : Int64} (hd : decode I.1 pc = .ok (.ldc2_w i, 3)) (hw : Cond.constantLong I.2.1 i v ∈ TG) (k : PT G (pc + 3) L (.long v :: st) M) : PT G pc L st M :=
  fun ls H locs hl hR hS => lv_ldc2 C.1 C.2.1 C.2.2.1 (C.2.2.2.2.1 _ hw) hd (k ls H locs hl hR hS)
theorem pt_null (C : CX G I) (hd : decode I.1 pc = .ok (.aconst_null, 1)) (k : PT G (pc + 1) L (.null :: st) M) : PT G pc L st M :=
  fun ls H locs hl hR hS => lv_null C.1 C.2.1 hd (k ls H locs hl hR hS)
theorem pt_iload_n (C : CX G I) {q : Fin 4} {i : Nat} {x : Int32} (hd : decode I.1 pc = .ok (.iload_n q, 1)) (hi : (q : Nat) = i) (hx : L[i]? = some (some (.int x))) (k : PT G (pc + 1) L (.int x :: st) M) : PT G pc L st M :=
  fun ls H locs hl hR hS => lv_iload_n C.1 C.2.1 hd hi (hl.2.2 i _ hx) (k ls H locs hl hR hS)
theorem pt_iload (C : CX G I) {i : Nat} {x : Int32} (hd : decode I.1 pc = .ok (.iload i, 2)) (hx : L[i]? = some (some (.int x))) (k : PT G (pc + 2) L (.int x :: st) M) : PT G pc L st M :=
  fun ls H locs hl hR hS => lv_iload C.1 C.2.1 hd (hl.2.2 i _ hx) (k ls H locs hl hR hS)
theorem pt_lload (C : CX G I) {i : Nat} {x : Int64} (hd : decode I.1 pc = .ok (.lload i, 2)) (hx : L[i]? = some (some (.long x))) (k : PT G (pc + 2) L (.long x :: st) M) : PT G pc L st M :=
  fun ls H locs hl hR hS => lv_lload C.1 C.2.1 hd (hl.2.2 i _ hx) (k ls H locs hl hR hS)
theorem pt_aload_n (C : CX G I) {q : Fin 4} {i : Nat} {r : Option Nat} (hd : decode I.1 pc = .ok (.aload_n q, 1)) (hi : (q : Nat) = i) (hx : L[i]? = some (some (va_rf r))) (k : PT G (pc + 1) L (va_rf r :: st) M) : PT G pc L st M := by
  intro ls H locs hl hR hS
  cases r with
  | none => exact lv_aload_nN C.1 C.2.1 hd hi (hl.2.2 i _ hx) (k ls H locs hl hR hS)
  | some a => exact lv_aload_n C.1 C.2.1 hd hi (hl.2.2 i _ hx) (k ls H locs hl hR hS)
theorem pt_aload (C : CX G I) {i : Nat} {r : Option Nat} (hd : decode I.1 pc = .ok (.aload i, 2)) (hx : L[i]? = some (some (va_rf r))) (k : PT G (pc + 2) L (va_rf r :: st) M) : PT G pc L st M := by
  intro ls H locs hl hR hS
  cases r with
  | none => exact lv_aloadN C.1 C.2.1 hd (hl.2.2 i _ hx) (k ls H locs hl hR hS)
  | some a => exact lv_aload C.1 C.2.1 hd (hl.2.2 i _ hx) (k ls H locs hl hR hS)
theorem pt_istore_n (C : CX G I) {q : Fin 4} {i : Nat} {x : Int32} (hd : decode I.1 pc = .ok (.istore_n q, 1)) (hi : (q : Nat) = i) (hn : i < I.2.2.1) (k : PT G (pc + 1) (stL i (.int x) L) st M) : PT G pc L (.int x :: st) M :=
  fun _ H locs hl hR hS => lv_istore_n C.1 C.2.1 hd hi hl.has (by rw [C.2.2.2.1]; exact hn) rfl (fun ls' h' => k ls' H locs (LOC.store rfl h') hR hS)
theorem pt_istore (C : CX G I) {i : Nat} {x : Int32} (hd : decode I.1 pc = .ok (.istore i, 2)) (hn : i < I.2.2.1) (k : PT G (pc + 2) (stL i (.int x) L) st M) : PT G pc L (.int x :: st) M :=
  fun _ H locs hl hR hS => lv_istore C.1 C.2.1 hd hl.has (by rw [C.2.2.2.1]; exact hn) rfl (fun ls' h' => k ls' H locs (LOC.store rfl h') hR hS)
theorem pt_lstore (C : CX G I) {i : Nat} {x : Int64} (hd : decode I.1 pc = .ok (.lstore i, 2)) (hn : i + 1 < I.2.2.1) (k : PT G (pc + 2) (stJ i (.long x) L) st M) : PT G pc L (.long x :: st) M :=
  fun _ H locs hl hR hS => lv_lstore C.1 C.2.1 hd hl.has (by rw [C.2.2.2.1]; exact hn) rfl (fun ls' h' => k ls' H locs (LOC.storeJ rfl h') hR hS)
theorem pt_astore_n (C : CX G I) {q : Fin 4} {i : Nat} {r : Option Nat} (hd : decode I.1 pc = .ok (.astore_n q, 1)) (hi : (q : Nat) = i) (hn : i < I.2.2.1) (k : PT G (pc + 1) (stL i (va_rf r) L) st M) : PT G pc L (va_rf r :: st) M := by
  intro ls H locs hl hR hS
  cases r with
  | none => exact lv_astore_nN C.1 C.2.1 hd hi hl.has (by rw [C.2.2.2.1]; exact hn) rfl (fun ls' h' => k ls' H locs (LOC.store rfl h') hR hS)
  | some a => exact lv_astore_n C.1 C.2.1 hd hi hl.has (by rw [C.2.2.2.1]; exact hn) rfl (fun ls' h' => k ls' H locs (LOC.store rfl h') hR hS)
theorem pt_astore (C : CX G I) {i : Nat} {r : Option Nat} (hd : decode I.1 pc = .ok (.astore i, 2)) (hn : i < I.2.2.1) (k : PT G (pc + 2) (stL i (va_rf r) L) st M) : PT G pc L (va_rf r :: st) M := by
  intro ls H locs hl hR hS
  cases r with
  | none => exact lv_astoreN C.1 C.2.1 hd hl.has (by rw [C.2.2.2.1]; exact hn) rfl (fun ls' h' => k ls' H locs (LOC.store rfl h') hR hS)
  | some a => exact lv_astore C.1 C.2.1 hd hl.has (by rw [C.2.2.2.1]; exact hn) rfl (fun ls' h' => k ls' H locs (LOC.store rfl h') hR hS)
theorem pt_iinc (C : CX G I) {i : Nat} {n : Int} {x v : Int32} (hd : decode I.1 pc = .ok (.iinc i n, 3)) (hx : L[i]? = some (some (.int x))) (hv : x + Int32.ofInt n = v) (hn : i < I.2.2.1) (k : PT G (pc + 3) (stL i (.int v) L) st M) : PT G pc L st M := by
  intro ls H locs hl hR hS
  obtain ⟨j, hj⟩ := List.getElem?_of_mem (mem_lvl (X := gX G) hx)
  exact lv_iinc C.1 C.2.1 hd hl.has hj hv (by rw [C.2.2.2.1]; exact hn) rfl (fun ls' h' => k ls' H locs (LOC.store rfl h') hR hS)
theorem pt_iadd (C : CX G I) {x y : Int32} (hd : decode I.1 pc = .ok (.iadd, 1)) (k : PT G (pc + 1) L (.int (x + y) :: st) M) : PT G pc L (.int y :: .int x :: st) M :=
  fun ls H locs hl hR hS => lv_iadd C.1 C.2.1 hd (k ls H locs hl hR hS)
theorem pt_isub (C : CX G I) {x y : Int32} (hd : decode I.1 pc = .ok (.isub, 1)) (k : PT G (pc + 1) L (.int (x - y) :: st) M) : PT G pc L (.int y :: .int x :: st) M :=
  fun ls H locs hl hR hS => lv_isub C.1 C.2.1 hd (k ls H locs hl hR hS)
theorem pt_imul (C : CX G I) {x y : Int32} (hd : decode I.1 pc = .ok (.imul, 1)) (k : PT G (pc + 1) L (.int (x * y) :: st) M) : PT G pc L (.int y :: .int x :: st) M :=
  fun ls H locs hl hR hS => lv_imul C.1 C.2.1 hd (k ls H locs hl hR hS)
theorem pt_iand (C : CX G I) {x y : Int32} (hd : decode I.1 pc = .ok (.iand, 1)) (k : PT G (pc + 1) L (.int (x &&& y) :: st) M) : PT G pc L (.int y :: .int x :: st) M :=
  fun ls H locs hl hR hS => lv_iand C.1 C.2.1 hd (k ls H locs hl hR hS)
theorem pt_idiv (C : CX G I) {x y : Int32} (hd : decode I.1 pc = .ok (.idiv, 1)) (h : ¬ y = 0) (k : PT G (pc + 1) L (.int (x / y) :: st) M) : PT G pc L (.int y :: .int x :: st) M :=
  fun ls H locs hl hR hS => lv_idiv C.1 C.2.1 hd h (k ls H locs hl hR hS)
theorem pt_irem (C : CX G I) {x y : Int32} (hd : decode I.1 pc = .ok (.irem, 1)) (h : ¬ y = 0) (k : PT G (pc + 1) L (.int (x - x / y * y) :: st) M) : PT G pc L (.int y :: .int x :: st) M :=
  fun ls H locs hl hR hS => lv_irem C.1 C.2.1 hd h (k ls H locs hl hR hS)
theorem pt_ineg (C : CX G I) {x : Int32} (hd : decode I.1 pc = .ok (.ineg, 1)) (k : PT G (pc + 1) L (.int (-x) :: st) M) : PT G pc L (.int x :: st) M :=
  fun ls H locs hl hR hS => lv_ineg C.1 C.2.1 hd (k ls H locs hl hR hS)
theorem pt_i2l (C : CX G I) {x : Int32} (hd : decode I.1 pc = .ok (.i2l, 1)) (k : PT G (pc + 1) L (.long x.toInt64 :: st) M) : PT G pc L (.int x :: st) M :=
  fun ls H locs hl hR hS => lv_i2l C.1 C.2.1 hd rfl (k ls H locs hl hR hS)
theorem pt_ladd (C : CX G I) {x y : Int64} (hd : decode I.1 pc = .ok (.ladd, 1)) (k : PT G (pc + 1) L (.long (x + y) :: st) M) : PT G pc L (.long y :: .long x :: st) M :=
  fun ls H locs hl hR hS => lv_ladd C.1 C.2.1 hd (k ls H locs hl hR hS)
theorem pt_lmul (C : CX G I) {x y : Int64} (hd : decode I.1 pc = .ok (.lmul, 1)) (k : PT G (pc + 1) L (.long (x * y) :: st) M) : PT G pc L (.long y :: .long x :: st) M :=
  fun ls H locs hl hR hS => lv_lmul C.1 C.2.1 hd (k ls H locs hl hR hS)
theorem pt_dup (C : CX G I) {v : Value} (hd : decode I.1 pc = .ok (.dup, 1)) (hv : v.category = 1) (k : PT G (pc + 1) L (v :: v :: st) M) : PT G pc L (v :: st) M :=
  fun ls H locs hl hR hS => lv_dup C.1 C.2.1 hd (by rw [up_cat]; exact hv) (k ls H locs hl hR hS)
theorem pt_pop (C : CX G I) {v : Value} (hd : decode I.1 pc = .ok (.pop, 1)) (hv : v.category = 1) (k : PT G (pc + 1) L st M) : PT G pc L (v :: st) M :=
  fun ls H locs hl hR hS => lv_pop C.1 C.2.1 hd (by rw [up_cat]; exact hv) (k ls H locs hl hR hS)
theorem pt_goto (C : CX G I) {off : Int} {tgt : Nat} (hd : decode I.1 pc = .ok (.goto off, 3)) (ht : (pc : Int) + off = (tgt : Int)) (k : PT G tgt L st M) : PT G pc L st M :=
  fun ls H locs hl hR hS => lv_goto C.1 C.2.1 hd ht (k ls H locs hl hR hS)
theorem pt_if_eq (C : CX G I) {x : Int32} {off : Int} {tgt : Nat} (hd : decode I.1 pc = .ok (.ifCond .eq off, 3)) (ht : (pc : Int) + off = (tgt : Int)) (kt : x = 0 → PT G tgt L st M) (kf : ¬ x = 0 → PT G (pc + 3) L st M) : PT G pc L (.int x :: st) M :=
  fun ls H locs hl hR hS => lv_if_eq C.1 C.2.1 hd ht (fun h => kt h ls H locs hl hR hS) (fun h => kf h ls H locs hl hR hS)
theorem pt_if_ne (C : CX G I) {x : Int32} {off : Int} {tgt : Nat} (hd : decode I.1 pc = .ok (.ifCond .ne off, 3)) (ht : (pc : Int) + off = (tgt : Int)) (kt : ¬ x = 0 → PT G tgt L st M) (kf : x = 0 → PT G (pc + 3) L st M) : PT G pc L (.int x :: st) M :=
  fun ls H locs hl hR hS => lv_if_ne C.1 C.2.1 hd ht (fun h => kt h ls H locs hl hR hS) (fun h => kf h ls H locs hl hR hS)
theorem pt_if_lt (C : CX G I) {x : Int32} {off : Int} {tgt : Nat} (hd : decode I.1 pc = .ok (.ifCond .lt off, 3)) (ht : (pc : Int) + off = (tgt : Int)) (kt : x < 0 → PT G tgt L st M) (kf : ¬ x < 0 → PT G (pc + 3) L st M) : PT G pc L (.int x :: st) M :=
  fun ls H locs hl hR hS => lv_if_lt C.1 C.2.1 hd ht (fun h => kt h ls H locs hl hR hS) (fun h => kf h ls H locs hl hR hS)
theorem pt_if_ge (C : CX G I) {x : Int32} {off : Int} {tgt : Nat} (hd : decode I.1 pc = .ok (.ifCond .ge off, 3)) (ht : (pc : Int) + off = (tgt : Int)) (kt : 0 ≤ x → PT G tgt L st M) (kf : ¬ 0 ≤ x → PT G (pc + 3) L st M) : PT G pc L (.int x :: st) M :=
  fun ls H locs hl hR hS => lv_if_ge C.1 C.2.1 hd ht (fun h => kt h ls H locs hl hR hS) (fun h => kf h ls H locs hl hR hS)
theorem pt_if_gt (C : CX G I) {x : Int32} {off : Int} {tgt : Nat} (hd : decode I.1 pc = .ok (.ifCond .gt off, 3)) (ht : (pc : Int) + off = (tgt : Int)) (kt : 0 < x → PT G tgt L st M) (kf : ¬ 0 < x → PT G (pc + 3) L st M) : PT G pc L (.int x :: st) M :=
  fun ls H locs hl hR hS => lv_if_gt C.1 C.2.1 hd ht (fun h => kt h ls H locs hl hR hS) (fun h => kf h ls H locs hl hR hS)
theorem pt_if_le (C : CX G I) {x : Int32} {off : Int} {tgt : Nat} (hd : decode I.1 pc = .ok (.ifCond .le off, 3)) (ht : (pc : Int) + off = (tgt : Int)) (kt : x ≤ 0 → PT G tgt L st M) (kf : ¬ x ≤ 0 → PT G (pc + 3) L st M) : PT G pc L (.int x :: st) M :=
  fun ls H locs hl hR hS => lv_if_le C.1 C.2.1 hd ht (fun h => kt h ls H locs hl hR hS) (fun h => kf h ls H locs hl hR hS)
theorem pt_icmp_eq (C : CX G I) {x y : Int32} {off : Int} {tgt : Nat} (hd : decode I.1 pc = .ok (.if_icmp .eq off, 3)) (ht : (pc : Int) + off = (tgt : Int)) (kt : x = y → PT G tgt L st M) (kf : ¬ x = y → PT G (pc + 3) L st M) : PT G pc L (.int y :: .int x :: st) M :=
  fun ls H locs hl hR hS => lv_icmp_eq C.1 C.2.1 hd ht (fun h => kt h ls H locs hl hR hS) (fun h => kf h ls H locs hl hR hS)
theorem pt_icmp_ne (C : CX G I) {x y : Int32} {off : Int} {tgt : Nat} (hd : decode I.1 pc = .ok (.if_icmp .ne off, 3)) (ht : (pc : Int) + off = (tgt : Int)) (kt : ¬ x = y → PT G tgt L st M) (kf : x = y → PT G (pc + 3) L st M) : PT G pc L (.int y :: .int x :: st) M :=
  fun ls H locs hl hR hS => lv_icmp_ne C.1 C.2.1 hd ht (fun h => kt h ls H locs hl hR hS) (fun h => kf h ls H locs hl hR hS)
theorem pt_icmp_lt (C : CX G I) {x y : Int32} {off : Int} {tgt : Nat} (hd : decode I.1 pc = .ok (.if_icmp .lt off, 3)) (ht : (pc : Int) + off = (tgt : Int)) (kt : x < y → PT G tgt L st M) (kf : ¬ x < y → PT G (pc + 3) L st M) : PT G pc L (.int y :: .int x :: st) M :=
  fun ls H locs hl hR hS => lv_icmp_lt C.1 C.2.1 hd ht (fun h => kt h ls H locs hl hR hS) (fun h => kf h ls H locs hl hR hS)
theorem pt_icmp_ge (C : CX G I) {x y : Int32} {off : Int} {tgt : Nat} (hd : decode I.1 pc = .ok (.if_icmp .ge off, 3)) (ht : (pc : Int) + off = (tgt : Int)) (kt : y ≤ x → PT G tgt L st M) (kf : ¬ y ≤ x → PT G (pc + 3) L st M) : PT G pc L (.int y :: .int x :: st) M :=
  fun ls H locs hl hR hS => lv_icmp_ge C.1 C.2.1 hd ht (fun h => kt h ls H locs hl hR hS) (fun h => kf h ls H locs hl hR hS)
theorem pt_icmp_gt (C : CX G I) {x y : Int32} {off : Int} {tgt : Nat} (hd : decode I.1 pc = .ok (.if_icmp .gt off, 3)) (ht : (pc : Int) + off = (tgt : Int)) (kt : y < x → PT G tgt L st M) (kf : ¬ y < x → PT G (pc + 3) L st M) : PT G pc L (.int y :: .int x :: st) M :=
  fun ls H locs hl hR hS => lv_icmp_gt C.1 C.2.1 hd ht (fun h => kt h ls H locs hl hR hS) (fun h => kf h ls H locs hl hR hS)
theorem pt_icmp_le (C : CX G I) {x y : Int32} {off : Int} {tgt : Nat} (hd : decode I.1 pc = .ok (.if_icmp .le off, 3)) (ht : (pc : Int) + off = (tgt : Int)) (kt : x ≤ y → PT G tgt L st M) (kf : ¬ x ≤ y → PT G (pc + 3) L st M) : PT G pc L (.int y :: .int x :: st) M :=
  fun ls H locs hl hR hS => lv_icmp_le C.1 C.2.1 hd ht (fun h => kt h ls H locs hl hR hS) (fun h => kf h ls H locs hl hR hS)
theorem pt_ifnull (C : CX G I) {r : Option Nat} {off : Int} {tgt : Nat} (hd : decode I.1 pc = .ok (.ifnull off, 3)) (ht : (pc : Int) + off = (tgt : Int)) (kt : r = none → PT G tgt L st M) (kf : ¬ r = none → PT G (pc + 3) L st M) : PT G pc L (va_rf r :: st) M := by
  intro ls H locs hl hR hS
  cases r with
  | none => exact lv_ifnullN C.1 C.2.1 hd ht (kt rfl ls H locs hl hR hS)
  | some a => exact lv_ifnull C.1 C.2.1 hd (kf (fun h => by cases h) ls H locs hl hR hS)
theorem pt_ifnonnull (C : CX G I) {r : Option Nat} {off : Int} {tgt : Nat} (hd : decode I.1 pc = .ok (.ifnonnull off, 3)) (ht : (pc : Int) + off = (tgt : Int)) (kt : ¬ r = none → PT G tgt L st M) (kf : r = none → PT G (pc + 3) L st M) : PT G pc L (va_rf r :: st) M := by
  intro ls H locs hl hR hS
  cases r with
  | none => exact lv_ifnonnullN C.1 C.2.1 hd (kf rfl ls H locs hl hR hS)
  | some a => exact lv_ifnonnull C.1 C.2.1 hd ht (kt (fun h => by cases h) ls H locs hl hR hS)
theorem pt_tableIn (C : CX G I) {dflt lo hi : Int} {offs : Array Int} {len : Nat} {x : Int32} {off : Int} {tgt : Nat} (hd : decode I.1 pc = .ok (.tableswitch dflt lo hi offs, len)) (h1 : ¬ x.toInt < lo) (h2 : ¬ hi < x.toInt) (ho : offs[(x.toInt - lo).toNat]? = some off) (ht : (pc : Int) + off = (tgt : Int)) (k : PT G tgt L st M) : PT G pc L (.int x :: st) M :=
  fun ls H locs hl hR hS => lv_tableIn C.1 C.2.1 hd h1 h2 ho ht (k ls H locs hl hR hS)
theorem pt_tableOut (C : CX G I) {dflt lo hi : Int} {offs : Array Int} {len : Nat} {x : Int32} {tgt : Nat} (hd : decode I.1 pc = .ok (.tableswitch dflt lo hi offs, len)) (h : x.toInt < lo ∨ hi < x.toInt) (ht : (pc : Int) + dflt = (tgt : Int)) (k : PT G tgt L st M) : PT G pc L (.int x :: st) M :=
  fun ls H locs hl hR hS => lv_tableOut C.1 C.2.1 hd h ht (k ls H locs hl hR hS)
theorem up_rf (X : GF) (r : Option Nat) : up X (va_rf r) = va_rf (r.map (adr X)) := by cases r <;> rfl
theorem pt_get (C : CX G I) {a ci k index N : Nat} {fs : List Value} {v : Value} {Cn : String} {T : u_T} (hM : M.2.2 a = .inr (ci, fs)) (hv : fs[k]? = some v) (hc : vwCl[ci]? = some (Cn, T, N)) (hk : k < N) (hin : ∀ w ∈ u_ws Cn T N, w ∈ TG) (hw : Cond.fieldLink I.2.1 index (T k).1 (T k).2.1 (T k).2.2.1 ∈ TG)
    (hd : decode I.1 pc = .ok (.getfield index, 3)) (kk : PT G (pc + 3) L (v :: st) M) : PT G pc L (.ref a :: st) M := by
  intro ls H locs hl hR hS
  obtain ⟨h5, hlt⟩ := hR.ltO hM hc
  exact va_get (D := (gX G).1) (ci := ci) (v := up (gX G) v) (C := Cn) (T := T) (N := N) C.1 C.2.1 C.2.2.2.2.1 hin C.2.2.1 hR.K (hR.P hM h5 hlt) 0 (fs := fs.map (up (gX G))) rfl hc k hk (C.2.2.2.2.1 _ hw) (fun _ h => h) (by rw [List.getElem?_map, hv]; rfl) hd (kk ls H locs hl hR hS)
end PTrows
end
section
/-! ROWS of the small machine that read and write the heap -/
section PTheap
variable {G : GT} {I : MI} {pc : Nat} {L : Lv} {st : List Value} {M : Mm}
theorem ve_i (X : GF) (cA : ClassId) (n : Nat) (f : Nat → Int32) : vp_cell cA (upA X (n, .inl f)) = arrV cA n (fun j => .int (f j)) := rfl
theorem ve_q (X : GF) (cA : ClassId) (n : Nat) (f : Nat → Option Nat) : vp_cell cA (upA X (n, .inr (.inr (.inr (.inr f))))) = arrV cA n (fun j => va_rf ((f j).map (adr X))) := rfl
theorem upC_o (X : GF) (ci : Nat) (fs : List Value) : upC X (.inr (ci, fs)) = .inr (ci, fs.map (up X)) := rfl
theorem put_at {X : GF} {a ci k N : Nat} {fs : List Value} {v : Value} {Cn : String} {T : u_T} {cell : Cell} {H1 : Heap} (hc : vwCl[ci]? = some (Cn, T, N)) (hk : k < N) (hl : k < fs.length)
    (hap : ∀ x y, x < N → y < N → x ≠ y → (X.1.2 ci) x ≠ (X.1.2 ci) y) (q2 : cell.cls = X.1.1 ci) (q3 : cell.vm = .none) (q4 : ∀ j, j < N → cell.slots[(X.1.2 ci) j]? = some (vp_V (fs.map (up X)) j)) (e1 : H1[adr X a]? = some (cell.setSlot ((X.1.2 ci) k) (up X v))) : va_at X.1 vwCl (adr X a, upC X (.inr (ci, fs.set k v))) H1 := by
  refine ⟨_, hc, t_OB.to (V := updV (vp_V (fs.map (up X))) k (up X v)) ⟨_, e1, q2, q3, t_set q4 hap hk _⟩ (fun j _ => ?_)⟩
  rw [vp_updV_set (by rw [List.length_map]; exact hl), List.map_set]
theorem pt_put (C : CX G I) {a ci k index N : Nat} {fs : List Value} {v : Value} {Cn : String} {T : u_T} {ty : FieldType} (hM : M.2.2 a = .inr (ci, fs)) (hl : k < fs.length) (hc : vwCl[ci]? = some (Cn, T, N)) (hk : k < N) (hin : ∀ w ∈ u_ws Cn T N, w ∈ TG)
    (ty0 : Nat → FieldType) (hty : ∀ k, k < N → parseFieldDescriptor (T k).2.2.1 = some (ty0 k)) (hnm : ∀ a, a < N → ∀ b, b < N → a ≠ b → (T a).2.1 ≠ (T b).2.1) (hw : Cond.fieldLink I.2.1 index (T k).1 (T k).2.1 (T k).2.2.1 ∈ TG) (hfin : (T k).2.2.2 = false)
    (hty1 : parseFieldDescriptor (T k).2.2.1 = some ty) (hn : ∀ X : GF, narrow ty (up X v) = up X v ∧ fits ty (up X v) = true)
    (hd : decode I.1 pc = .ok (.putfield index, 3)) (kk : PT G (pc + 3) L st (setC M a (.inr (ci, fs.set k v)))) : PT G pc L (v :: .ref a :: st) M := by
  intro ls H locs hl0 hR hS
  obtain ⟨h5, hlt⟩ := hR.ltO hM hc
  have hap := va_apart (own := I.2.1) C.2.2.2.2.1 hin ty0 hty hnm hR.K hc
  have hat := hR.2.1 a h5 hlt
  rw [hM] at hat
  obtain ⟨r, h1, cell, q1, q2, q3, q4⟩ := hat
  have hr : r = (Cn, T, N) := Option.some.inj (h1.symm.trans hc)
  subst hr
  obtain ⟨hSl, hfc, kC, hkC, hkind⟩ := hR.K.1 ci _ hc
  obtain ⟨cf, kf, fi, f, hi, hsl⟩ := hSl k hk
  have hlay := C.2.2.2.2.1 _ (hin _ (u_in_lay hk))
  unfold u_lay at hlay
  rw [if_neg (by rw [hfin]; decide)] at hlay
  have hst := (u_facts hfc hkC (u_lays C.2.2.2.2.1 hin hk) hi).1
  have h6 := u_store hfc hkC hkind hlay hi hty1 (hn (gX G)).1 (hn (gX G)).2
  refine W.putK C.1 C.2.1 (f := f) ⟨C.2.2.1, C.2.2.2.2.1 _ hw, ⟨_, _, _, hi⟩, hst⟩ (by rw [q2]; exact h6) q1 q3 (by rw [hsl]; exact k2_hasslot (q4 k hk)) rfl rfl hd fun H' e1 e2 e3 => ?_
  rw [hsl] at e1 ⊢
  exact kk ls H' _ hl0 (hR.set h5 hlt e2 (put_at hc hk hl hap q2 q3 q4 e1) e3) (hS.put5 h5 e2 e3)
theorem pt_putF (C : CX G I) {a ci k index N : Nat} {fs : List Value} {v : Value} {Cn : String} {T : u_T} {ty : FieldType} (hM : M.2.2 a = .inr (ci, fs)) (hl : k < fs.length) (hc : vwCl[ci]? = some (Cn, T, N)) (hk : k < N) (hin : ∀ w ∈ u_ws Cn T N, w ∈ TG)
    (ty0 : Nat → FieldType) (hty : ∀ k, k < N → parseFieldDescriptor (T k).2.2.1 = some (ty0 k)) (hnm : ∀ a, a < N → ∀ b, b < N → a ≠ b → (T a).2.1 ≠ (T b).2.1) (hw : Cond.fieldLink I.2.1 index (T k).1 (T k).2.1 (T k).2.2.1 ∈ TG) (hfin : (T k).2.2.2 = true) (hin2 : I.2.2.2.2.2.1 = "<init>") (hdecl : (T k).1 = I.2.1)
    (hty1 : parseFieldDescriptor (T k).2.2.1 = some ty) (hn : ∀ X : GF, narrow ty (up X v) = up X v ∧ fits ty (up X v) = true)
    (hd : decode I.1 pc = .ok (.putfield index, 3)) (kk : PT G (pc + 3) L st (setC M a (.inr (ci, fs.set k v)))) : PT G pc L (v :: .ref a :: st) M := by
  intro ls H locs hl0 hR hS
  obtain ⟨h5, hlt⟩ := hR.ltO hM hc
  have hap := va_apart (own := I.2.1) C.2.2.2.2.1 hin ty0 hty hnm hR.K hc
  have hat := hR.2.1 a h5 hlt
  rw [hM] at hat
  obtain ⟨r, h1, cell, q1, q2, q3, q4⟩ := hat
  have hr : r = (Cn, T, N) := Option.some.inj (h1.symm.trans hc)
  subst hr
  obtain ⟨hSl, hfc, kC, hkC, hkind⟩ := hR.K.1 ci _ hc
  obtain ⟨cf, kf, fi, f, hi, hsl⟩ := hSl k hk
  have hlay := C.2.2.2.2.1 _ (hin _ (u_in_lay hk))
  unfold u_lay at hlay
  rw [if_pos hfin] at hlay
  have hst := (u_facts hfc hkC (u_lays C.2.2.2.2.1 hin hk) hi).1
  have hcf : (gm G).cls = cf := by
    obtain ⟨_, _, c', _, _, _, -, -, hf', -, -, -, hown2, -⟩ := Cond.laysFinal_spec hlay
    have e1 : c' = cf := by have := hi.symm.trans hf'; simp at this; exact this.1.symm
    rw [hdecl] at hown2
    rw [← e1]; exact Option.some.inj (C.2.2.1.symm.trans hown2)
  have h6 := u_fits hfc hkC hkind (Or.inr hlay) hi hty1 (hn (gX G)).1 (hn (gX G)).2
  refine W.putFinK C.1 C.2.1 C.2.2.1 (C.2.2.2.2.1 _ hw) hi hst hcf (C.2.2.2.2.2.2.2.1.trans hin2) (by rw [q2]; exact h6) q1 q3 (by rw [hsl]; exact k2_hasslot (q4 k hk)) rfl rfl hd fun H' e1 e2 e3 => ?_
  rw [hsl] at e1 ⊢
  exact kk ls H' _ hl0 (hR.set h5 hlt e2 (put_at hc hk hl hap q2 q3 q4 e1) e3) (hS.put5 h5 e2 e3)
theorem pt_gets (C : CX G I) {i index : Nat} {Cn nm : String} (hq : (Cn, nm, i) ∈ STN) (hw : Cond.fieldLink I.2.1 index Cn nm "[I" ∈ TG) (hd : decode I.1 pc = .ok (.getstatic index, 3)) (kk : PT G (pc + 3) L (.ref i :: st) M) : PT G pc L st M := by
  intro ls H locs hl hR hS
  obtain ⟨cf, kf, fi, f, a, cell, h1, h2, h3, h4, h5, h6, h7, h8⟩ := hR.2.2.2.2.2.1 _ hq
  exact W.gets C.1 C.2.1 C.2.2.1 (C.2.2.2.2.1 _ hw) h1 h2 h3 h4 h5 (fun e => by rw [e] at h6; cases h6) h7 rfl hd (kk ls H locs hl hR hS)
theorem pt_iald (C : CX G I) {a n : Nat} {f : Nat → Int32} {i : Int32} (hM : M.2.2 a = .inl (0, n, .inl f)) (hin : vp_in i n) (hd : decode I.1 pc = .ok (.iaload, 1)) (kk : PT G (pc + 1) L (.int (f i.toNatClampNeg) :: st) M) : PT G pc L (.int i :: .ref a :: st) M := by
  intro ls H locs hl hR hS
  rcases Nat.lt_or_ge a 5 with q | q
  · obtain ⟨n', f', e1, e2, cell, c1, c2, c3, c4, c5, c6, c7⟩ := hR.2.2.2.2.1 a q
    rw [hM] at e1
    cases e1
    have hlt : i.toNatClampNeg < n := Nat.not_le.mp fun z => hin (Or.inr z)
    exact W.iald C.1 C.2.1 c1 c2 c3 (fun z => z.elim (fun z => hin (Or.inl z)) (fun z => by omega)) (c6 _ hlt) rfl rfl hd (kk ls H locs hl hR hS)
  · exact va_iald C.1 C.2.1 hR.K (hR.P hM q (hR.ltA hM)) 0 0 rfl (TYS_at (gX G) (t := 0) (by decide)) hin hd (kk ls H locs hl hR hS)
theorem pt_zald (C : CX G I) {a n : Nat} {f : Nat → Int32} {i : Int32} (hM : M.2.2 a = .inl (1, n, .inl f)) (hin : vp_in i n) (hd : decode I.1 pc = .ok (.baload, 1)) (kk : PT G (pc + 1) L (.int (f i.toNatClampNeg) :: st) M) : PT G pc L (.int i :: .ref a :: st) M := by
  intro ls H locs hl hR hS
  rcases Nat.lt_or_ge a 5 with q | q
  · obtain ⟨n', f', e1, -⟩ := hR.2.2.2.2.1 a q
    rw [hM] at e1
    cases e1
  · exact va_zald C.1 C.2.1 hR.K (hR.P hM q (hR.ltA hM)) 0 1 rfl (TYS_at (gX G) (t := 1) (by decide)) hin hd (kk ls H locs hl hR hS)
theorem pt_lald (C : CX G I) {a n : Nat} {f : Nat → Int64} {i : Int32} (hM : M.2.2 a = .inl (2, n, .inr (.inl f))) (hin : vp_in i n) (hd : decode I.1 pc = .ok (.laload, 1)) (kk : PT G (pc + 1) L (.long (f i.toNatClampNeg) :: st) M) : PT G pc L (.int i :: .ref a :: st) M := by
  intro ls H locs hl hR hS
  rcases Nat.lt_or_ge a 5 with q | q
  · obtain ⟨n', f', e1, -⟩ := hR.2.2.2.2.1 a q
    rw [hM] at e1
    cases e1
  · exact va_lald C.1 C.2.1 hR.K (hR.P hM q (hR.ltA hM)) 0 2 rfl (TYS_at (gX G) (t := 2) (by decide)) hin hd (kk ls H locs hl hR hS)
theorem pt_aald (C : CX G I) {a n t : Nat} {f : Nat → Option Nat} {i : Int32} (hM : M.2.2 a = .inl (t, n, .inr (.inr (.inr (.inr f))))) (ht : 3 ≤ t ∧ t ≤ 5) (hin : vp_in i n) (hd : decode I.1 pc = .ok (.aaload, 1)) (kk : PT G (pc + 1) L (va_rf (f i.toNatClampNeg) :: st) M) : PT G pc L (.int i :: .ref a :: st) M := by
  intro ls H locs hl hR hS
  rcases Nat.lt_or_ge a 5 with q | q
  · obtain ⟨n', f', e1, -⟩ := hR.2.2.2.2.1 a q
    rw [hM] at e1
    cases e1
  · have k1 := kk ls H locs hl hR hS
    rw [List.map_cons, up_rf] at k1
    obtain ⟨Cn, hCn⟩ : ∃ Cn, atT t = .object Cn := by
      rcases (show t = 3 ∨ t = 4 ∨ t = 5 by omega) with rfl | rfl | rfl <;> exact ⟨_, rfl⟩
    have ht1 := TYS_at (gX G) (t := t) ht.2
    rw [hCn] at ht1
    exact va_aldq C.1 C.2.1 hR.K (hR.P hM q (hR.ltA hM)) 0 t rfl ht1 hin hd k1
theorem pt_alen (C : CX G I) {a n t : Nat} {x : vp_A} {v : Int32} (hM : M.2.2 a = .inl (t, x)) (ht : t ≤ 5) (hx : x.1 = n) (hv : Int32.ofNat n = v) (hd : decode I.1 pc = .ok (.arraylength, 1)) (kk : PT G (pc + 1) L (.int v :: st) M) : PT G pc L (.ref a :: st) M := by
  intro ls H locs hl hR hS
  rcases Nat.lt_or_ge a 5 with q | q
  · obtain ⟨n', f', e1, e2, cell, c1, c2, c3, c4, c5, c6, c7⟩ := hR.2.2.2.2.1 a q
    rw [hM] at e1
    cases e1
    exact W.alen C.1 C.2.1 c1 c2 (by rw [c5, ← hv, ← hx]) rfl rfl hd (kk ls H locs hl hR hS)
  · refine va_alen C.1 C.2.1 hR.K (hR.P hM q (hR.ltA hM)) 0 t (x := upA (gX G) x) rfl (TYS_at (gX G) ht) (v := v) ?_ hd (kk ls H locs hl hR hS)
    show Int32.ofNat x.1 = v
    rw [hx]
    exact hv
theorem pt_iast (C : CX G I) {a n : Nat} {f : Nat → Int32} {i x : Int32} (hM : M.2.2 a = .inl (0, n, .inl f)) (h5 : 5 ≤ a) (hin : vp_in i n) (hd : decode I.1 pc = .ok (.iastore, 1)) (kk : PT G (pc + 1) L st (setC M a (.inl (0, n, .inl (upd f i.toNatClampNeg x))))) : PT G pc L (.int x :: .int i :: .ref a :: st) M := by
  intro ls H locs hl hR hS
  have hlt := hR.ltA hM
  have hat := hR.2.1 a h5 hlt
  rw [hM] at hat
  refine W.iast C.1 C.2.1 hat ((hR.K.2 0 _ (TYS_at (gX G) (t := 0) (by decide))).1 n (fun j => .int (f j))) (fun q => by cases q) (by show ¬ (i < 0 ∨ (arrV _ _ _).slots.size ≤ _); rw [arrV_size]; exact hin) rfl rfl hd fun H1 e z oq => ?_
  refine kk ls H1 _ hl (hR.set h5 hlt z ?_ oq) (hS.put5 h5 z oq)
  show H1[adr (gX G) a]? = some (vp_cell _ (upA (gX G) _))
  rw [e]
  show some ((vp_cell _ (upA (gX G) _)).setSlot _ _) = some (vp_cell _ (upA (gX G) _))
  rw [ve_i, ve_i, arrV_store]
  congr 2
  funext q
  by_cases hq : q = i.toNatClampNeg
  · subst hq
    simp [updV, upd]
  · simp [updV, upd, hq]
theorem pt_zast (C : CX G I) {a n : Nat} {f : Nat → Int32} {i x : Int32} (hM : M.2.2 a = .inl (1, n, .inl f)) (h5 : 5 ≤ a) (hin : vp_in i n) (hx : x = 0 ∨ x = 1) (hd : decode I.1 pc = .ok (.bastore, 1)) (kk : PT G (pc + 1) L st (setC M a (.inl (1, n, .inl (upd f i.toNatClampNeg x))))) : PT G pc L (.int x :: .int i :: .ref a :: st) M := by
  intro ls H locs hl hR hS
  have hlt := hR.ltA hM
  have hat := hR.2.1 a h5 hlt
  rw [hM] at hat
  refine W.zast C.1 C.2.1 hat ((hR.K.2 1 _ (TYS_at (gX G) (t := 1) (by decide))).1 n (fun j => .int (f j))) (fun q => by cases q) (by show ¬ (i < 0 ∨ (arrV _ _ _).slots.size ≤ _); rw [arrV_size]; exact hin) rfl rfl hd fun H1 e z oq => ?_
  refine kk ls H1 _ hl (hR.set h5 hlt z ?_ oq) (hS.put5 h5 z oq)
  have hnb : narrow .boolean (.int x) = .int x := by rcases hx with rfl | rfl <;> rfl
  rw [hnb] at e
  show H1[adr (gX G) a]? = some (vp_cell _ (upA (gX G) _))
  rw [e]
  show some ((vp_cell _ (upA (gX G) _)).setSlot _ _) = some (vp_cell _ (upA (gX G) _))
  rw [ve_i, ve_i, arrV_store]
  congr 2
  funext q
  by_cases hq : q = i.toNatClampNeg
  · subst hq
    simp [updV, upd]
  · simp [updV, upd, hq]
/-- the class whose references an array type of a tag holds: its number in vwCl -/
def atC (t : Nat) : Nat := match t with
  | 3 => 9
  | 4 => 4
  | _ => 7
theorem atC_ok {t : Nat} (h : 3 ≤ t ∧ t ≤ 5) : ∃ r : vw_C, vwCl[atC t]? = some r ∧ atT t = .object r.1 := by
  rcases (show t = 3 ∨ t = 4 ∨ t = 5 by omega) with rfl | rfl | rfl <;> exact ⟨_, rfl, rfl⟩
theorem pt_aast (C : CX G I) {a n t : Nat} {f : Nat → Option Nat} {i : Int32} {r : Option Nat} (hM : M.2.2 a = .inl (t, n, .inr (.inr (.inr (.inr f))))) (ht : 3 ≤ t ∧ t ≤ 5) (h5 : 5 ≤ a) (hin : vp_in i n) (hr : ∀ b, r = some b → ∃ fs, M.2.2 b = .inr (atC t, fs)) (hd : decode I.1 pc = .ok (.aastore, 1)) (kk : PT G (pc + 1) L st (setC M a (.inl (t, n, .inr (.inr (.inr (.inr (va_up f i.toNatClampNeg r)))))))) : PT G pc L (va_rf r :: .int i :: .ref a :: st) M := by
  intro ls H locs hl hR hS
  have hlt := hR.ltA hM
  have hat := hR.2.1 a h5 hlt
  rw [hM] at hat
  have hin' := hin
  obtain ⟨rc, hrc, hrt⟩ := atC_ok ht
  have ht1 := hR.K.2 t _ (TYS_at (gX G) ht.2)
  rw [hrt] at ht1
  have fin : ∀ H1 : Heap, H1[adr (gX G) a]? = some ((vp_cell ((gX G).2.1 t) (upA (gX G) (n, .inr (.inr (.inr (.inr f)))))).setSlot i.toNatClampNeg (up (gX G) (va_rf r))) → va_at (gX G).1 vwCl (adr (gX G) a, upC (gX G) (.inl (t, n, .inr (.inr (.inr (.inr (va_up f i.toNatClampNeg r))))))) H1 := by
    intro H1 e
    show H1[adr (gX G) a]? = some (vp_cell _ (upA (gX G) _))
    rw [e, ve_q, ve_q, arrV_store]
    congr 2
    funext q
    by_cases hq : q = i.toNatClampNeg
    · subst hq
      simp [updV, va_up, up_rf]
    · simp [updV, va_up, hq]
  cases r with
  | none =>
    refine va_WaastN (C := rc.1) C.1 C.2.1 hat (ht1.1 n (fun j => va_rf ((f j).map (adr (gX G))))) (fun h => by cases h) (by show ¬ (i < 0 ∨ (arrV _ _ _).slots.size ≤ _); rw [arrV_size]; exact hin) rfl rfl hd fun H1 e z oq => ?_
    exact kk ls H1 _ hl (hR.set h5 hlt z (fin H1 e) oq) (hS.put5 h5 z oq)
  | some b =>
    obtain ⟨fs, hb⟩ := hr b rfl
    obtain ⟨hb5, hbl⟩ := hR.ltO hb hrc
    have hbt := hR.2.1 b hb5 hbl
    rw [hb] at hbt
    obtain ⟨r', hr', cellV, g1, g2, g3, -⟩ := hbt
    have hcls := (hR.K.1 (atC t) rc hrc).2
    obtain ⟨kA, comp, k1, k2, k3, -⟩ := ht1.2
    have hcomp : comp = (gX G).1.1 (atC t) := Option.some.inj (k3.symm.trans hcls.1)
    subst hcomp
    obtain ⟨kC, hkC, -⟩ := hcls.2
    have hlt2 : i.toNatClampNeg < n := Nat.not_le.mp fun q => hin (Or.inr q)
    have h0 : ¬ i < 0 := fun q => hin (Or.inl q)
    refine W.aast C.1 C.2.1 hat (fun q h => by cases h) (fun h => by cases h) k1 k2 rfl hkC ⟨h0, by show _ < (arrV _ _ _).slots.size; rw [arrV_size]; exact hlt2⟩ g1 (fun q h => by rw [g3] at h; cases h) (by rw [g2]; exact hkC) (by rw [g2]; exact va_assign hcls) rfl rfl hd fun H1 e z oq => ?_
    exact kk ls H1 _ hl (hR.set h5 hlt z (fin H1 e) oq) (hS.put5 h5 z oq)
theorem pt_acmp (C : CX G I) {r q : Option Nat} {off : Int} {tgt : Nat} (hi : ∀ X : GF, ∀ a b, r = some a → q = some b → adr X a = adr X b → a = b) (hd : decode I.1 pc = .ok (.if_acmp .ne off, 3)) (ht : (pc : Int) + off = (tgt : Int)) (kt : ¬ r = q → PT G tgt L st M) (kf : r = q → PT G (pc + 3) L st M) : PT G pc L (va_rf q :: va_rf r :: st) M := by
  intro ls H locs hl hR hS
  rw [List.map_cons, List.map_cons, up_rf, up_rf]
  refine lv_acmp_ne C.1 C.2.1 hd ht (fun h => kt (fun e => h (by rw [e])) ls H locs hl hR hS) (fun h => kf ?_ ls H locs hl hR hS)
  cases r with
  | none =>
    cases q with
    | none => rfl
    | some b => cases h
  | some a =>
    cases q with
    | none => cases h
    | some b => rw [hi (gX G) a b rfl rfl (Option.some.inj h)]
theorem adr_inj (X : GF) {a b : Nat} (ha : 5 ≤ a) (hb : 5 ≤ b) (h : adr X a = adr X b) : a = b := by
  rw [adr_hi X ha, adr_hi X hb] at h
  omega
end PTheap
end
section
/-! ROWS of the small machine that make cells, call and return -/
section PTnew
variable {G : GT} {I : MI} {pc : Nat} {L : Lv} {st : List Value} {M : Mm}
theorem pt_new (C : CX G I) {ci index N : Nat} {fs : List Value} {Cn : String} {T : u_T} (hc : vwCl[ci]? = some (Cn, T, N)) (hin : ∀ w ∈ u_ws Cn T N, w ∈ TG) (ty0 : Nat → FieldType) (hty : ∀ k, k < N → parseFieldDescriptor (T k).2.2.1 = some (ty0 k))
    (hfs : ∀ j, j < N → defaultValue (ty0 j) = vp_V fs j) (hup : ∀ X : GF, fs.map (up X) = fs) (w1 : Cond.classLink I.2.1 index Cn ∈ TG) (w2 : Cond.instantiable Cn N ∈ TG) (w3 : Cond.initialized Cn ∈ TG) (hlow : gn G ≤ M.1 ∧ gz G ≤ M.2.1) (hroom : M.1 + 1 ≤ gn G + (gR G).cells ∧ M.2.1 + N ≤ gz G + (gR G).slots)
    (hd : decode I.1 pc = .ok (.new index, 3)) (kk : PT G (pc + 3) L (.ref M.1 :: st) (newC M N (.inr (ci, fs)))) : PT G pc L st M := by
  intro ls H locs hl hR hS
  have hKn := hR.K.1 ci _ hc
  refine W.newcK C.1 C.2.1 C.2.2.1 (C.2.2.2.2.1 _ w1) (C.2.2.2.2.1 _ w2) (C.2.2.2.2.1 _ w3) rfl hd (by omega) (by omega) hKn.2.1 rfl fun H1 kC hkC e1 z1 o1 => ?_
  have hb : va_at (gX G).1 vwCl (H.size, upC (gX G) (.inr (ci, fs))) H1 := by
    rw [upC_o, hup]
    exact ⟨_, hc, (u_born ty0 C.2.2.2.2.1 hin hKn hkC e1 hty).to hfs⟩
  have k1 := kk ls H1 locs hl (hR.new N z1 hb o1) (hS.new5 z1 o1)
  have e2 : H.size = adr (gX G) M.1 := by rw [adr_hi _ hR.1.1]; exact hR.1.2
  rw [e2]
  refine W.cs (cells' := (newC M N (.inr (ci, fs))).1 - gn G) (slots' := (newC M N (.inr (ci, fs))).2.1 - gz G) ?_ ?_ k1
  · show M.1 - gn G + 1 = M.1 + 1 - gn G
    omega
  · show M.2.1 - gz G + N = M.2.1 + N - gz G
    omega
theorem pt_newa (C : CX G I) {t : Nat} {atype : ArrayType} {n : Int32} {N : Nat} {x : vp_A} (ht : t ≤ 2) (hat : newarray.typeOf atype = atT t) (w1 : Cond.arrayClass (atT t) ∈ TG) (hn : ¬ n < 0) (hN : n.toNatClampNeg = N) (hbig : N ≤ 100000)
    (hx : ∀ (X : GF) (cA : ClassId), vp_cell cA (upA X x) = arrV cA N (fun _ => defaultValue (atT t))) (hlow : gn G ≤ M.1 ∧ gz G ≤ M.2.1) (hroom : M.1 + 1 ≤ gn G + (gR G).cells ∧ M.2.1 + N ≤ gz G + (gR G).slots)
    (hd : decode I.1 pc = .ok (.newarray atype, 2)) (kk : PT G (pc + 2) L (.ref M.1 :: st) (newC M N (.inl (t, x)))) : PT G pc L (.int n :: st) M := by
  intro ls H locs hl hR hS
  have hby : N * componentBytes (newarray.typeOf atype) ≤ 536870912 := by
    rw [hat]
    have : componentBytes (atT t) ≤ 8 := by rcases (show t = 0 ∨ t = 1 ∨ t = 2 by omega) with rfl | rfl | rfl <;> decide
    calc N * componentBytes (atT t) ≤ 100000 * 8 := Nat.mul_le_mul hbig this
      _ ≤ 536870912 := by decide
  refine va_newaK C.1 C.2.1 (by rw [hat]; exact C.2.2.2.2.1 _ w1) rfl hd rfl hn hN hby (by omega) (by omega) rfl fun H1 cA e1 z1 o1 hAr hNm => ?_
  rw [hat] at e1 hNm
  have hk := (hR.K.2 t _ (TYS_at (gX G) (show t ≤ 5 by omega))).2
  have hcA : cA = (gX G).2.1 t := by
    rcases (show t = 0 ∨ t = 1 ∨ t = 2 by omega) with rfl | rfl | rfl <;> exact Option.some.inj (hNm.symm.trans hk)
  have hb : va_at (gX G).1 vwCl (H.size, upC (gX G) (.inl (t, x))) H1 := by
    show H1[H.size]? = some (vp_cell ((gX G).2.1 t) (upA (gX G) x))
    rw [hx, e1, hcA]
  have k1 := kk ls H1 locs hl (hR.new N z1 hb o1) (hS.new5 z1 o1)
  have e2 : H.size = adr (gX G) M.1 := by rw [adr_hi _ hR.1.1]; exact hR.1.2
  rw [e2]
  refine W.cs (cells' := (newC M N (.inl (t, x))).1 - gn G) (slots' := (newC M N (.inl (t, x))).2.1 - gz G) ?_ ?_ k1
  · show M.1 - gn G + 1 = M.1 + 1 - gn G
    omega
  · show M.2.1 - gz G + N = M.2.1 + N - gz G
    omega
theorem pt_anew (C : CX G I) {t index : Nat} {Cn : String} {n : Int32} {N : Nat} (ht : 3 ≤ t ∧ t ≤ 5) (hat : atT t = .object Cn) (w1 : Cond.classLink I.2.1 index Cn ∈ TG) (w2 : Cond.arrayOver (.object Cn) ∈ TG) (hn : ¬ n < 0) (hN : n.toNatClampNeg = N) (hbig : N ≤ 100000)
    (hlow : gn G ≤ M.1 ∧ gz G ≤ M.2.1) (hroom : M.1 + 1 ≤ gn G + (gR G).cells ∧ M.2.1 + N ≤ gz G + (gR G).slots)
    (hd : decode I.1 pc = .ok (.anewarray index, 3)) (kk : PT G (pc + 3) L (.ref M.1 :: st) (newC M N (.inl (t, N, .inr (.inr (.inr (.inr (fun _ => none)))))))) : PT G pc L (.int n :: st) M := by
  intro ls H locs hl hR hS
  subst hN
  refine W.anew C.1 C.2.1 C.2.2.1 (C.2.2.2.2.1 _ w1) (C.2.2.2.2.1 _ w2) rfl hd rfl hn (by omega) (by omega) (by omega) fun cA kA comp f1 f2 f3 f4 => ?_
  generalize hH1 : H.push ({ cls := cA, slots := Array.replicate n.toNatClampNeg .null, vm := .none } : Cell) = H1
  have z1 : H1.size = H.size + 1 := by rw [← hH1, Array.size_push]
  have e1 : H1[H.size]? = some (arrV cA n.toNatClampNeg (fun _ => .null)) := by rw [← hH1, Array.getElem?_push_size, ← arrV_new]
  have o1 : ∀ q : Nat, q < H.size → H1[q]? = H[q]? := fun q hq => by rw [← hH1, Array.getElem?_push, if_neg (Nat.ne_of_lt hq)]
  have hk := hR.K.2 t _ (TYS_at (gX G) ht.2)
  rw [hat] at hk
  obtain ⟨kA', comp', k1, k2, k3, k4⟩ := hk.2
  have hcA : cA = (gX G).2.1 t := Option.some.inj (f1.symm.trans k4)
  have hb : va_at (gX G).1 vwCl (H.size, upC (gX G) (.inl (t, n.toNatClampNeg, .inr (.inr (.inr (.inr (fun _ => none))))))) H1 := by
    show H1[H.size]? = some (vp_cell ((gX G).2.1 t) (upA (gX G) _))
    rw [ve_q, e1, hcA]
    rfl
  have k1 := kk ls H1 locs hl (hR.new _ z1 hb o1) (hS.new5 z1 o1)
  have e2 : H.size = adr (gX G) M.1 := by rw [adr_hi _ hR.1.1]; exact hR.1.2
  rw [e2]
  refine W.cs (cells' := (newC M n.toNatClampNeg (.inl (t, n.toNatClampNeg, .inr (.inr (.inr (.inr (fun _ => none))))))).1 - gn G) (slots' := (newC M n.toNatClampNeg (.inl (t, n.toNatClampNeg, .inr (.inr (.inr (.inr (fun _ => none))))))).2.1 - gz G) ?_ ?_ k1
  · show M.1 - gn G + 1 = M.1 + 1 - gn G
    omega
  · show M.2.1 - gz G + n.toNatClampNeg = M.2.1 + n.toNatClampNeg - gz G
    omega
theorem NWL_in {w : Cond} (i : Nat) (h : lw_tbl[i]? = some w) (g : isNW w = true) : w ∈ NWL := List.mem_filter.mpr ⟨List.mem_of_getElem? h, g⟩
/-- clone of an int array -/
theorem pt_clone (C : CX G I) {a n index : Nat} {f : Nat → Int32} (hM : M.2.2 a = .inl (0, n, .inl f)) (h5 : 5 ≤ a) (w1 : Cond.methodLink I.2.1 index ⟨"[I", "clone", "()Ljava/lang/Object;"⟩ ∈ TG) (w2 : Cond.sameMethod "[I" "java/lang/Object" "clone" "()Ljava/lang/Object;" ∈ TG)
    (w3 : Cond.native ⟨"java/lang/Object", "clone", "()Ljava/lang/Object;"⟩ ∈ TG) (w4 : Cond.instanceMethod ⟨"java/lang/Object", "clone", "()Ljava/lang/Object;"⟩ ∈ TG) (w5 : Cond.selects "[I" ⟨"[I", "clone", "()Ljava/lang/Object;"⟩ ⟨"java/lang/Object", "clone", "()Ljava/lang/Object;"⟩ ∈ TG) (w6 : Cond.castable "[I" "java/lang/Cloneable" ∈ NWL)
    (hfr : 1 ≤ I.2.2.2.1) (hlo : csum st + 14 ≤ I.2.2.2.2.1) (hlow : gn G ≤ M.1 ∧ gz G ≤ M.2.1) (hroom : M.1 + 1 ≤ gn G + (gR G).cells ∧ M.2.1 + n ≤ gz G + (gR G).slots)
    (hd : decode I.1 pc = .ok (.invokevirtual index, 3)) (kk : PT G (pc + 3) L (.ref M.1 :: st) (newC M n (.inl (0, n, .inl f)))) : PT G pc L (.ref a :: st) M := by
  intro ls H locs hl hR hS
  have hlt := hR.ltA hM
  have hP := hR.P hM h5 hlt
  have hk0 := hR.K.2 0 _ (TYS_at (gX G) (t := 0) (by decide))
  have hnm : (gs G).vm.findClass "[I" = some ((gX G).2.1 0) := hk0.2
  obtain ⟨c0, t0', f1, f2, f3⟩ := Cond.castable_spec (va_Nw.use (A := ga G) rfl (hR.W _ w6))
  cases hnm.symm.trans f1
  intro T hT X
  have hcellT : T.heap[adr (gX G) a]? = some (vp_cell ((gX G).2.1 0) (n, .inl f)) := by rw [hT]; exact hP 0 _ rfl
  have hsz : (vp_cell ((gX G).2.1 0) (n, .inl f)).slots.size = n := arrV_size _ _ _
  obtain ⟨-, kA, hkA, comp, hkind⟩ := State.isArrayOf_alike X.warmed.alike (hk0.1 0 (fun _ => .null))
  obtain ⟨-, kS, hkS, compS, hkindS⟩ := hk0.1 0 (fun _ => .null)
  obtain ⟨vm', X', st'⟩ := X.cloneArray C.1 C.2.2.1 (C.2.2.2.2.1 _ w1) (C.2.2.2.2.1 _ w2) (C.2.2.2.2.1 _ w3) (C.2.2.2.2.1 _ w4) (C.2.2.2.2.1 _ w5) (a := adr (gX G) a) (cell := vp_cell ((gX G).2.1 0) (n, .inl f)) hcellT (fun k h => by cases h) (fun h => by cases h) hnm f2 f3
    (fun i v hv => by
      have hk' : T.vm.classes[(gX G).2.1 0]? = some kA := hkA
      have hcl0 : (vp_cell ((gX G).2.1 0) (n, .inl f)).cls = (gX G).2.1 0 := rfl
      rw [hcl0]
      have hlt2 := (Array.getElem?_eq_some_iff.mp hv).1
      rw [hsz] at hlt2
      have : (vp_cell ((gX G).2.1 0) (n, .inl f)).slots[i]? = some (.int (f i)) := arrV_read _ _ hlt2
      rw [this] at hv
      cases hv
      simp [State.fitsSlot, State.slotType?, hk', hkind, atT, fits])
    (g := F0 (gm G) pc ls (.ref (adr (gX G) a) :: st.map (up (gX G)))) rfl hl.1 rfl (by rw [C.2.1]; exact hd) (by rw [C.2.2.2.2.2.1]; exact hfr) (by show 2 * 0 + ((st.map (up (gX G))).map fun v => v.category).sum + 14 ≤ _; rw [csum_up, C.2.2.2.2.2.2.1]; omega) (by omega) (by rw [hsz]; omega) (hloader := Vm.clonesLoader_of_array hkS hkindS)
  rw [hsz] at X'
  generalize hH1 : H.push (vp_cell ((gX G).2.1 0) (n, .inl f)) = H1
  have z1 : H1.size = H.size + 1 := by rw [← hH1, Array.size_push]
  have e1 : H1[H.size]? = some (vp_cell ((gX G).2.1 0) (n, .inl f)) := by rw [← hH1, Array.getElem?_push_size]
  have o1 : ∀ q : Nat, q < H.size → H1[q]? = H[q]? := fun q hq => by rw [← hH1, Array.getElem?_push, if_neg (Nat.ne_of_lt hq)]
  have hb : va_at (gX G).1 vwCl (H.size, upC (gX G) (.inl (0, n, .inl f))) H1 := e1
  have k1 := kk ls H1 locs hl (hR.new n z1 hb o1) (hS.new5 z1 o1)
  have e2 : adr (gX G) M.1 = H.size := by rw [adr_hi _ hR.1.1]; exact hR.1.2.symm
  have k2 : W (gp G) (gl G) (ge G) (gR G) (gs G) (gm G) (ga G) (gb G) (gh G) (gc G) H1 locs (M.1 - gn G + 1) (M.2.1 - gz G + n) (gQ G) (F0 (gm G) (pc + 3) ls (.ref H.size :: st.map (up (gX G)))) := by
    refine W.cs (cells' := (newC M n (.inl (0, n, .inl f))).1 - gn G) (slots' := (newC M n (.inl (0, n, .inl f))).2.1 - gz G) ?_ ?_ ?_
    · show M.1 - gn G + 1 = M.1 + 1 - gn G
      omega
    · show M.2.1 - gz G + n = M.2.1 + n - gz G
      omega
    · rw [← e2]
      exact k1
  obtain ⟨t, b1, b2⟩ := k2 ((T.setVm vm').pushCell (vp_cell ((gX G).2.1 0) (n, .inl f))) (by rw [← hH1, ← hT]; rfl) X'
  refine ⟨t, st' t ?_, b2⟩
  rw [hT]
  exact b1
theorem pt_castA (C : CX G I) {a n index : Nat} {f : Nat → Int32} (hM : M.2.2 a = .inl (0, n, .inl f)) (h5 : 5 ≤ a) (w1 : Cond.classLink I.2.1 index "[I" ∈ TG) (hd : decode I.1 pc = .ok (.checkcast index, 3)) (kk : PT G (pc + 3) L (.ref a :: st) M) : PT G pc L (.ref a :: st) M := by
  intro ls H locs hl hR hS
  have hk0 := (hR.K.2 0 _ (TYS_at (gX G) (t := 0) (by decide))).2
  exact va_castA C.1 C.2.1 C.2.2.1 (C.2.2.2.2.1 _ w1) (hR.P hM h5 (hR.ltA hM)) 0 rfl hk0 hd (kk ls H locs hl hR hS)
theorem pt_objInit (C : CX G I) {a index : Nat} (w1 : Cond.methodLink I.2.1 index Lib.objectInit ∈ TG) (w2 : Cond.instanceMethod Lib.objectInit ∈ TG) (w3 : Cond.code Lib.objectInit ⟨#[0xb1]⟩ 1 none ∈ TG) (hfr : 1 ≤ I.2.2.2.1) (hlo : csum st + 12 ≤ I.2.2.2.2.1)
    (hd : decode I.1 pc = .ok (.invokespecial index, 3)) (kk : PT G (pc + 3) L st M) : PT G pc L (.ref a :: st) M := by
  intro ls H locs hl hR hS
  exact W.objInit C.1 C.2.1 C.2.2.1 (C.2.2.2.2.1 _ w1) (C.2.2.2.2.1 _ w2) (C.2.2.2.2.1 _ w3) rfl hl.1 rfl hd (by rw [C.2.2.2.2.2.1]; exact hfr) (by show 2 * 0 + ((st.map (up (gX G))).map fun v => v.category).sum + 12 ≤ _; rw [csum_up, C.2.2.2.2.2.2.1]; omega) (kk ls H locs hl hR hS)
theorem pt_max (C : CX G I) {index : Nat} {x y : Int32} (w1 : Cond.methodLink I.2.1 index Lib.Math.max.name ∈ TG) (w2 : Cond.static Lib.Math.max.name ∈ TG) (w3 : Cond.initialized "java/lang/Math" ∈ TG) (w4 : Cond.code Lib.Math.max.name Lib.Math.max.code 2 (some .int) ∈ TG) (hfr : 1 ≤ I.2.2.2.1) (hlo : csum st + 13 ≤ I.2.2.2.2.1) (hroom : M.1 ≤ gn G + (gR G).cells ∧ M.2.1 ≤ gz G + (gR G).slots)
    (hd : decode I.1 pc = .ok (.invokestatic index, 3)) (kk : PT G (pc + 3) L (.int (if x < y then y else x) :: st) M) : PT G pc L (.int y :: .int x :: st) M := by
  intro ls H locs hl hR hS
  exact va_mmax C.1 C.2.1 hl.1.symm C.2.2.1 (C.2.2.2.2.1 _ w1) (C.2.2.2.2.1 _ w2) (C.2.2.2.2.1 _ w3) (C.2.2.2.2.1 _ w4) (by rw [C.2.2.2.2.2.1]; exact hfr) (by rw [csum_up, C.2.2.2.2.2.2.1]; exact hlo) (by omega) (by omega) hd (kk ls H locs hl hR hS)
theorem pt_min (C : CX G I) {index : Nat} {x y : Int32} (w1 : Cond.methodLink I.2.1 index Lib.Math.min.name ∈ TG) (w2 : Cond.static Lib.Math.min.name ∈ TG) (w3 : Cond.initialized "java/lang/Math" ∈ TG) (w4 : Cond.code Lib.Math.min.name Lib.Math.min.code 2 (some .int) ∈ TG) (hfr : 1 ≤ I.2.2.2.1) (hlo : csum st + 13 ≤ I.2.2.2.2.1) (hroom : M.1 ≤ gn G + (gR G).cells ∧ M.2.1 ≤ gz G + (gR G).slots)
    (hd : decode I.1 pc = .ok (.invokestatic index, 3)) (kk : PT G (pc + 3) L (.int (if y < x then y else x) :: st) M) : PT G pc L (.int y :: .int x :: st) M := by
  intro ls H locs hl hR hS
  refine va_mmin C.1 C.2.1 hl.1.symm C.2.2.1 (C.2.2.2.2.1 _ w1) (C.2.2.2.2.1 _ w2) (C.2.2.2.2.1 _ w3) (C.2.2.2.2.1 _ w4) (by rw [C.2.2.2.2.2.1]; exact hfr) (by rw [csum_up, C.2.2.2.2.2.2.1]; exact hlo) (by omega) (by omega) hd ?_
  have k1 := kk ls H locs hl hR hS
  exact k1
end PTnew
/-! CONTRACTS: a method and its function of the small machine -/
abbrev FN : Type := List Value → Mm → Option (Option Value × Mm)
def Pcv (X : GF) (as : List Value) (M : Mm) : Array Value → State → Prop := fun a U => a = (as.map (up X)).toArray ∧ Rp X U M U.heap ∧ X.2.2.2 ≤ U.heap.size
def Qcv (X : GF) (v : Option Value) (M' : Mm) : Array Value → State → Outcome → State → Prop := fun _ st o t => o = .returned (v.map (up X)) ∧ Rp X t M' t.heap ∧ va_F (AA X) st t
def MS (l : Launch) (y : MethodName) (I : MI) (f : FN) : Prop := ∀ (X : GF) (as : List Value) (M : Mm) (v : Option Value) (M' : Mm), f as M = some (v, M') →
  (M.1 ≤ M'.1 ∧ M.2.1 ≤ M'.2.1) ∧ Met l y (.code y I.1 I.2.2.1 I.2.2.2.2.2.2 :: TG) ({ frames := I.2.2.2.1, cells := M'.1 - M.1, slots := M'.2.1 - M.2.1, locals := I.2.2.2.2.1 }) (Pcv X as M) (Qcv X v M') (M'.1 - M.1) (M'.2.1 - M.2.1) (AA X)
theorem Pcv_blind (X : GF) (as : List Value) (M : Mm) : FrameBlind (Pcv X as M) := by
  intro a U g mk h
  obtain ⟨h1, h2, h3⟩ := h
  refine ⟨h1, ?_, h3⟩
  have hvm : U.vm = (U.calling g mk a).vm := rfl
  exact h2.move (Vm.Alike.refl U.vm) (NWL_same hvm h2.W)
theorem ws_good {y : MethodName} {b : ByteArray} {n : Nat} {r : Option FieldType} (h : Cond.code y b n r ∈ TG) : GoodIn TG (.code y b n r :: TG) := by
  intro w hw
  rcases List.mem_cons.mp hw with rfl | hw
  · exact TG_good _ h
  · exact TG_good _ hw
/-- the words of a call -/
abbrev CD (y : MethodName) (n : Nat) : Prop := y.cls ≠ "java/lang/invoke/MethodHandle" ∧ y.cls ≠ "java/lang/invoke/VarHandle" ∧ (parseMethodDescriptor y.desc).map (fun d => d.parameters.length) = some n
section PTcalls
variable {G : GT} {I J : MI} {pc : Nat} {L : Lv} {st : List Value} {M M' : Mm} {v : Option Value} {y : MethodName} {f : FN} {index : Nat}
theorem run_fin {a : Array Value} {ls : Array Slot} {H : Heap} {locs : List Loc} {free : Addr → Prop} {st0 : List Value} (hle : M.1 ≤ M'.1 ∧ M.2.1 ≤ M'.2.1) (hlow : gn G ≤ M.1 ∧ gz G ≤ M.2.1)
    (hl : LOC (gX G) ls (gc G).maxLocals L) (hR : Rp (gX G) (gs G) M H) (hS : va_S (AA (gX G)) (gs G).heap H locs) (hfree : ∀ q, free q → AA (gX G) q)
    (hr : va_Run (gp G) (gl G) (ge G) (gR G) (gs G) (gm G) (ga G) (gb G) (gh G) (gc G) H locs (M.1 - gn G) (M.2.1 - gz G) (M'.1 - M.1) (M'.2.1 - M.2.1) (F0 (gm G) pc ls st0) (st.map (up (gX G))) (Qcv (gX G) v M' a) free)
    (kk : PT G (pc + 3) L (v.toList ++ st) M') : W (gp G) (gl G) (ge G) (gR G) (gs G) (gm G) (ga G) (gb G) (gh G) (gc G) H locs (M.1 - gn G) (M.2.1 - gz G) (gQ G) (F0 (gm G) pc ls st0) := by
  intro T hT X
  obtain ⟨v', st₀, t, T', Lc, h0, X', hL, e1, e2, ⟨hv, hR', hz, hk⟩, stp⟩ := hr T hT X
  cases hv
  rw [h0] at hz hk
  have hal : (gs G).vm.Alike t.vm := by rw [← e2]; exact X'.warmed.alike
  have hR1 : Rp (gX G) (gs G) M' T'.heap := by rw [e1]; exact hR'.move hal.symm hR.W
  have hS1 : va_S (AA (gX G)) (gs G).heap T'.heap (locs ++ Lc) := ⟨Nat.le_trans hS.1 (by rw [e1]; exact hz), fun q h1 h2 => by rw [e1, hk q (Nat.lt_of_lt_of_le h1 hS.1) h2]; exact hS.2.1 q h1 h2, fun q hq => by
    rcases List.mem_append.mp hq with h | h
    · exact hS.2.2 q h
    · exact hfree _ (hL q h)⟩
  have k1 := kk ls T'.heap (locs ++ Lc) hl hR1 hS1
  have e3 : (v.toList ++ st).map (up (gX G)) = (v.map (up (gX G))).toList ++ st.map (up (gX G)) := by cases v <;> simp
  rw [e3] at k1
  have k2 : W (gp G) (gl G) (ge G) (gR G) (gs G) (gm G) (ga G) (gb G) (gh G) (gc G) T'.heap (locs ++ Lc) (M.1 - gn G + (M'.1 - M.1)) (M.2.1 - gz G + (M'.2.1 - M.2.1)) (gQ G) (F0 (gm G) (pc + 3) ls ((v.map (up (gX G))).toList ++ st.map (up (gX G)))) :=
    W.cs (by omega) (by omega) k1
  obtain ⟨t2, a1, b1⟩ := k2 T' rfl X'
  exact ⟨t2, stp t2 a1, b1⟩
theorem mroom (hf : MS (gl G) y J f) {as : List Value} (hr : f as M = some (v, M')) (hlow : gn G ≤ M.1 ∧ gz G ≤ M.2.1) (hroom : M'.1 ≤ gn G + (gR G).cells ∧ M'.2.1 ≤ gz G + (gR G).slots) : M.1 - gn G + (M'.1 - M.1) ≤ (gR G).cells ∧ M.2.1 - gz G + (M'.2.1 - M.2.1) ≤ (gR G).slots := by
  obtain ⟨⟨h1, h2⟩, -⟩ := hf (gX G) as M v M' hr
  exact ⟨by omega, by omega⟩
theorem cfix (C : CX G I) : CallFix (gp G) (gm G) (gc G) I.1 I.2.2.1 (gs G) (ga G) TG I.2.1 := ⟨C.1, C.2.1, C.2.2.2.1, C.2.2.1, C.2.2.2.2.1⟩
theorem preU (C : CX G I) {H : Heap} {locs : List Loc} (hR : Rp (gX G) (gs G) M H) (hS : va_S (AA (gX G)) (gs G).heap H locs) {as : List Value} : ∀ U : State, U.heap = H → (gs G).WarmedH U.vm → Pcv (gX G) as M (as.map (up (gX G))).toArray U := by
  intro U hU hW
  refine ⟨rfl, by rw [hU]; exact hR.warm hW, ?_⟩
  rw [hU]
  exact Nat.le_trans C.2.2.2.2.2.2.2.2.2.2.1 hS.1
theorem pt_callV (C : CX G I) (hf : MS (gl G) y J f) {b ci N : Nat} {as fs : List Value} {T : u_T} (hr : f (.ref b :: as) M = some (v, M')) (hb : M.2.2 b = .inr (ci, fs)) (hc : vwCl[ci]? = some (y.cls, T, N))
    (w1 : Cond.methodLink I.2.1 index y ∈ TG) (w2 : Cond.instanceMethod y ∈ TG) (w3 : Cond.selects y.cls y y ∈ TG) (w4 : Cond.initialized y.cls ∈ TG) (w5 : Cond.code y J.1 J.2.2.1 J.2.2.2.2.2.2 ∈ TG) (hdesc : CD y as.length)
    (hfr : J.2.2.2.1 + 1 ≤ I.2.2.2.1) (hlo : 8 + (J.2.2.1 + 11) + J.2.2.2.2.1 ≤ I.2.2.2.2.1) (hst : csum st ≤ 8) (hlow : gn G ≤ M.1 ∧ gz G ≤ M.2.1) (hroom : M'.1 ≤ gn G + (gR G).cells ∧ M'.2.1 ≤ gz G + (gR G).slots)
    (hd : decode I.1 pc = .ok (.invokevirtual index, 3)) (kk : PT G (pc + 3) L (v.toList ++ st) M') : PT G pc L ((Value.ref b :: as).reverse ++ st) M := by
  intro ls H locs hl hR hS
  obtain ⟨hle, hM⟩ := hf (gX G) _ M v M' hr
  have hroom' := mroom hf hr hlow hroom
  obtain ⟨h5, hlt⟩ := hR.ltO hb hc
  have hP := hR.P hb h5 hlt
  have e0 : ((Value.ref b :: as).reverse ++ st).map (up (gX G)) = (as.map (up (gX G))).reverse ++ .ref (adr (gX G) b) :: st.map (up (gX G)) := by simp [up]
  rw [e0]
  exact run_fin hle hlow hl hR hS (fun q h => h) (va_runV (cfix C) hM (C := y.cls) (n := as.length)
    ⟨callB_of as.length C.2.2.2.2.1 (ws_good w5) rfl rfl rfl (C.2.2.2.2.1 _ w4) (C.2.2.2.2.1 _ w1) hdesc ⟨by rw [C.2.2.2.2.2.1]; exact hfr, by rw [C.2.2.2.2.2.2.1]; exact hlo⟩, C.2.2.2.2.1 _ w2, C.2.2.2.2.1 _ w3⟩
    ⟨Pcv_blind _ _ _, va_recv hR.K hP (ci := ci) (q0 := 0) hc rfl, fun U hU hW => preU C hR hS (as := .ref b :: as) U hU hW⟩ rfl (by rw [List.length_map]) (by rw [hl.1]; exact C.2.2.2.1) rfl (lv_room (by rw [csum_up]; exact hst)) hd hroom') kk
theorem pt_callS (C : CX G I) (hf : MS (gl G) y J f) {as : List Value} (hr : f as M = some (v, M'))
    (w1 : Cond.methodLink I.2.1 index y ∈ TG) (w2 : Cond.static y ∈ TG) (w4 : Cond.initialized y.cls ∈ TG) (w5 : Cond.code y J.1 J.2.2.1 J.2.2.2.2.2.2 ∈ TG) (hdesc : CD y as.length)
    (hfr : J.2.2.2.1 + 1 ≤ I.2.2.2.1) (hlo : 8 + (J.2.2.1 + 11) + J.2.2.2.2.1 ≤ I.2.2.2.2.1) (hst : csum st ≤ 8) (hlow : gn G ≤ M.1 ∧ gz G ≤ M.2.1) (hroom : M'.1 ≤ gn G + (gR G).cells ∧ M'.2.1 ≤ gz G + (gR G).slots)
    (hd : decode I.1 pc = .ok (.invokestatic index, 3)) (kk : PT G (pc + 3) L (v.toList ++ st) M') : PT G pc L (as.reverse ++ st) M := by
  intro ls H locs hl hR hS
  obtain ⟨hle, hM⟩ := hf (gX G) _ M v M' hr
  have hroom' := mroom hf hr hlow hroom
  have e0 : (as.reverse ++ st).map (up (gX G)) = (as.map (up (gX G))).reverse ++ st.map (up (gX G)) := by simp
  rw [e0]
  exact run_fin hle hlow hl hR hS (fun q h => h) (va_runS (cfix C) hM (n := as.length)
    ⟨callB_of as.length C.2.2.2.2.1 (ws_good w5) rfl rfl rfl (C.2.2.2.2.1 _ w4) (C.2.2.2.2.1 _ w1) hdesc ⟨by rw [C.2.2.2.2.2.1]; exact hfr, by rw [C.2.2.2.2.2.2.1]; exact hlo⟩, C.2.2.2.2.1 _ w2⟩
    ⟨Pcv_blind _ _ _, fun U hU hW => preU C hR hS (as := as) U hU hW⟩ rfl (by rw [List.length_map]) (by rw [hl.1]; exact C.2.2.2.1) rfl (lv_room (by rw [csum_up]; exact hst)) hd hroom') kk
theorem pt_callI (C : CX G I) (hy : y.name = "<init>") (hret : J.2.2.2.2.2.2 = none) (hf : MS (gl G) y J f) {b : Nat} {as : List Value} (hr : f (.ref b :: as) M = some (v, M'))
    (w1 : Cond.methodLink I.2.1 index y ∈ TG) (w2 : Cond.instanceMethod y ∈ TG) (w4 : Cond.initialized y.cls ∈ TG) (w5 : Cond.code y J.1 J.2.2.1 none ∈ TG) (hdesc : CD y as.length)
    (hfr : J.2.2.2.1 + 1 ≤ I.2.2.2.1) (hlo : 8 + (J.2.2.1 + 11) + J.2.2.2.2.1 ≤ I.2.2.2.2.1) (hst : csum st ≤ 8) (hlow : gn G ≤ M.1 ∧ gz G ≤ M.2.1) (hroom : M'.1 ≤ gn G + (gR G).cells ∧ M'.2.1 ≤ gz G + (gR G).slots)
    (hd : decode I.1 pc = .ok (.invokespecial index, 3)) (kk : PT G (pc + 3) L (v.toList ++ st) M') : PT G pc L ((Value.ref b :: as).reverse ++ st) M := by
  intro ls H locs hl hR hS
  obtain ⟨hle, hM⟩ := hf (gX G) _ M v M' hr
  rw [hret] at hM
  have hroom' := mroom hf hr hlow hroom
  have e0 : ((Value.ref b :: as).reverse ++ st).map (up (gX G)) = (as.map (up (gX G))).reverse ++ .ref (adr (gX G) b) :: st.map (up (gX G)) := by simp [up]
  rw [e0]
  exact run_fin hle hlow hl hR hS (fun q h => h) (va_runI (cfix C) hM (n := as.length)
    ⟨callB_of as.length C.2.2.2.2.1 (ws_good w5) rfl rfl rfl (C.2.2.2.2.1 _ w4) (C.2.2.2.2.1 _ w1) hdesc ⟨by rw [C.2.2.2.2.2.1]; exact hfr, by rw [C.2.2.2.2.2.2.1]; exact hlo⟩, hy, C.2.2.2.2.1 _ w2⟩
    ⟨Pcv_blind _ _ _, fun U hU hW => preU C hR hS (as := .ref b :: as) U hU hW⟩ rfl (by rw [List.length_map]) (by rw [hl.1]; exact C.2.2.2.1) rfl (lv_room (by rw [csum_up]; exact hst)) hd hroom') kk
theorem pt_callSN (C : CX G I) (hf : MS (gl G) y J f) {host : String} {as : List Value} (hr : f as M = some (v, M'))
    (w1 : Cond.methodLinkNest I.2.1 index y host ∈ NWL) (w2 : Cond.static y ∈ TG) (w4 : Cond.initialized y.cls ∈ TG) (w5 : Cond.code y J.1 J.2.2.1 J.2.2.2.2.2.2 ∈ TG) (hdesc : CD y as.length)
    (hfr : J.2.2.2.1 + 1 ≤ I.2.2.2.1) (hlo : 8 + (J.2.2.1 + 11) + J.2.2.2.2.1 ≤ I.2.2.2.2.1) (hst : csum st ≤ 8) (hlow : gn G ≤ M.1 ∧ gz G ≤ M.2.1) (hroom : M'.1 ≤ gn G + (gR G).cells ∧ M'.2.1 ≤ gz G + (gR G).slots)
    (hd : decode I.1 pc = .ok (.invokestatic index, 3)) (kk : PT G (pc + 3) L (v.toList ++ st) M') : PT G pc L (as.reverse ++ st) M := by
  intro ls H locs hl hR hS
  obtain ⟨hle, hM⟩ := hf (gX G) _ M v M' hr
  have hroom' := mroom hf hr hlow hroom
  have e0 : (as.reverse ++ st).map (up (gX G)) = (as.map (up (gX G))).reverse ++ st.map (up (gX G)) := by simp
  rw [e0]
  exact run_fin hle hlow hl hR hS (fun q h => h) (va_runSN (cfix C) hM (n := as.length)
    ⟨va_cnB as.length C.2.2.2.2.1 (ws_good w5) rfl rfl rfl (hR.W _ w1) (C.2.2.2.2.1 _ w4) hdesc ⟨by rw [C.2.2.2.2.2.1]; exact hfr, by rw [C.2.2.2.2.2.2.1]; exact hlo⟩, C.2.2.2.2.1 _ w2, trivial⟩
    ⟨Pcv_blind _ _ _, fun U hU hW => preU C hR hS (as := as) U hU hW⟩ rfl (by rw [List.length_map]) (by rw [hl.1]; exact C.2.2.2.1) rfl (lv_room (by rw [csum_up]; exact hst)) hd hroom') kk
theorem pt_callIN (C : CX G I) (hy : y.name = "<init>") (hret : J.2.2.2.2.2.2 = none) (hf : MS (gl G) y J f) {host : String} {b : Nat} {as : List Value} (hr : f (.ref b :: as) M = some (v, M'))
    (w1 : Cond.methodLinkNest I.2.1 index y host ∈ NWL) (w2 : Cond.instanceMethod y ∈ TG) (w4 : Cond.initialized y.cls ∈ TG) (w5 : Cond.code y J.1 J.2.2.1 none ∈ TG) (hdesc : CD y as.length)
    (hfr : J.2.2.2.1 + 1 ≤ I.2.2.2.1) (hlo : 8 + (J.2.2.1 + 11) + J.2.2.2.2.1 ≤ I.2.2.2.2.1) (hst : csum st ≤ 8) (hlow : gn G ≤ M.1 ∧ gz G ≤ M.2.1) (hroom : M'.1 ≤ gn G + (gR G).cells ∧ M'.2.1 ≤ gz G + (gR G).slots)
    (hd : decode I.1 pc = .ok (.invokespecial index, 3)) (kk : PT G (pc + 3) L (v.toList ++ st) M') : PT G pc L ((Value.ref b :: as).reverse ++ st) M := by
  intro ls H locs hl hR hS
  obtain ⟨hle, hM⟩ := hf (gX G) _ M v M' hr
  rw [hret] at hM
  have hroom' := mroom hf hr hlow hroom
  have e0 : ((Value.ref b :: as).reverse ++ st).map (up (gX G)) = (as.map (up (gX G))).reverse ++ .ref (adr (gX G) b) :: st.map (up (gX G)) := by simp [up]
  rw [e0]
  exact run_fin hle hlow hl hR hS (fun q h => h) (va_runIN (cfix C) hM (n := as.length)
    ⟨va_cnB as.length C.2.2.2.2.1 (ws_good w5) rfl rfl rfl (hR.W _ w1) (C.2.2.2.2.1 _ w4) hdesc ⟨by rw [C.2.2.2.2.2.1]; exact hfr, by rw [C.2.2.2.2.2.2.1]; exact hlo⟩, hy, C.2.2.2.2.1 _ w2⟩
    ⟨Pcv_blind _ _ _, fun U hU hW => preU C hR hS (as := .ref b :: as) U hU hW⟩ rfl (by rw [List.length_map]) (by rw [hl.1]; exact C.2.2.2.1) rfl (lv_room (by rw [csum_up]; exact hst)) hd hroom') kk
end PTcalls
end
section
/-! WHAT THE JAVA MEANS over the small machine: expressions, conditions, statements as functions of locals and heap -/
abbrev DI : Type := Lv → Mm → Option (Int32 × Mm)
abbrev DA : Type := Lv → Mm → Option (Option Nat × Mm)
abbrev DJ : Type := Lv → Mm → Option (Int64 × Mm)
abbrev DC : Type := Lv → Mm → Option (Bool × Mm)
abbrev DR : Type := Lv → Mm → Option (List Value × Mm)
abbrev DV : Type := Lv → Mm → Option (Option Value × Mm)
abbrev SR : Type := Lv × Mm × Nat × Option Value
abbrev DS : Type := Lv → Mm → Option SR
def asI (v : Value) : Option Int32 := match v with
  | .int x => some x
  | _ => none
def asA (v : Value) : Option (Option Nat) := match v with
  | .ref a => some (some a)
  | .null => some none
  | _ => none
def asJ (v : Value) : Option Int64 := match v with
  | .long x => some x
  | _ => none
def inb (i : Int32) (n : Nat) : Bool := decide (0 ≤ i.toInt) && decide (i.toInt < n)
def rdF (ci k a : Nat) (M : Mm) : Option Value := match M.2.2 a with
  | .inr (c, fs) => if c = ci then fs[k]? else none
  | .inl _ => none
def wrF (ci k a : Nat) (v : Value) (M : Mm) : Option Mm := match M.2.2 a with
  | .inr (c, fs) => if c = ci ∧ k < fs.length then some (setC M a (.inr (ci, fs.set k v))) else none
  | .inl _ => none
def rdI (t a : Nat) (i : Int32) (M : Mm) : Option Int32 := match M.2.2 a with
  | .inl (t', n, .inl f) => if t' = t ∧ inb i n = true then some (f i.toNatClampNeg) else none
  | _ => none
def rdJ (a : Nat) (i : Int32) (M : Mm) : Option Int64 := match M.2.2 a with
  | .inl (t', n, .inr (.inl f)) => if t' = 2 ∧ inb i n = true then some (f i.toNatClampNeg) else none
  | _ => none
def rdA (t a : Nat) (i : Int32) (M : Mm) : Option (Option Nat) := match M.2.2 a with
  | .inl (t', n, .inr (.inr (.inr (.inr f)))) => if t' = t ∧ inb i n = true then some (f i.toNatClampNeg) else none
  | _ => none
def wrI (t a : Nat) (i x : Int32) (M : Mm) : Option Mm := match M.2.2 a with
  | .inl (t', n, .inl f) => if t' = t ∧ inb i n = true ∧ 5 ≤ a then some (setC M a (.inl (t, n, .inl (upd f i.toNatClampNeg x)))) else none
  | _ => none
def isC (ci : Nat) (M : Mm) (b : Nat) : Bool := match M.2.2 b with
  | .inr (c, _) => c == ci
  | .inl _ => false
def isE (t : Nat) (M : Mm) (r : Option Nat) : Bool := match r with
  | none => true
  | some b => isC (atC t) M b
def wrA (t a : Nat) (i : Int32) (r : Option Nat) (M : Mm) : Option Mm := match M.2.2 a with
  | .inl (t', n, .inr (.inr (.inr (.inr f)))) => if t' = t ∧ inb i n = true ∧ 5 ≤ a ∧ isE t M r = true then some (setC M a (.inl (t, n, .inr (.inr (.inr (.inr (va_up f i.toNatClampNeg r))))))) else none
  | _ => none
def lenA (a : Nat) (M : Mm) : Option Nat := match M.2.2 a with
  | .inl (t, x) => if t ≤ 5 then some x.1 else none
  | .inr _ => none
-- ints
def cI (v : Int32) : DI := fun _ M => some (v, M)
def lI (i : Nat) : DI := fun L M => (L[i]?).bind fun o => o.bind fun v => (asI v).map fun x => (x, M)
def bI (op : Int32 → Int32 → Option Int32) (a b : DI) : DI := fun L M => (a L M).bind fun q => (b L q.2).bind fun r => (op q.1 r.1).map fun z => (z, r.2)
def oAdd (x y : Int32) : Option Int32 := some (x + y)
def oSub (x y : Int32) : Option Int32 := some (x - y)
def oMul (x y : Int32) : Option Int32 := some (x * y)
def oAnd (x y : Int32) : Option Int32 := some (x &&& y)
def oDiv (x y : Int32) : Option Int32 := if y = 0 then none else some (x / y)
def oRem (x y : Int32) : Option Int32 := if y = 0 then none else some (x - x / y * y)
def oMax (x y : Int32) : Option Int32 := some (if x < y then y else x)
def oMin (x y : Int32) : Option Int32 := some (if y < x then y else x)
def nI1 (a : DI) : DI := fun L M => (a L M).map fun q => (-q.1, q.2)
def fI (ci k : Nat) (e : DA) : DI := fun L M => (e L M).bind fun q => q.1.bind fun a => (rdF ci k a q.2).bind fun v => (asI v).map fun x => (x, q.2)
def gI (t : Nat) (e : DA) (i : DI) : DI := fun L M => (e L M).bind fun q => q.1.bind fun a => (i L q.2).bind fun r => (rdI t a r.1 r.2).map fun x => (x, r.2)
def nA (e : DA) : DI := fun L M => (e L M).bind fun q => q.1.bind fun a => (lenA a q.2).map fun n => (Int32.ofNat n, q.2)
def vI (e : DV) : DI := fun L M => (e L M).bind fun q => q.1.bind fun v => (asI v).map fun x => (x, q.2)
def tI (c : DC) (a b : DI) : DI := fun L M => (c L M).bind fun q => if q.1 = true then a L q.2 else b L q.2
def zI (c : DC) : DI := fun L M => (c L M).map fun q => (if q.1 = true then 1 else 0, q.2)
-- references
def cN : DA := fun _ M => some (none, M)
def cS (i : Nat) : DA := fun _ M => some (some i, M)
def lA (i : Nat) : DA := fun L M => (L[i]?).bind fun o => o.bind fun v => (asA v).map fun x => (x, M)
def fA (ci k : Nat) (e : DA) : DA := fun L M => (e L M).bind fun q => q.1.bind fun a => (rdF ci k a q.2).bind fun v => (asA v).map fun x => (x, q.2)
def gA (t : Nat) (e : DA) (i : DI) : DA := fun L M => (e L M).bind fun q => q.1.bind fun a => (i L q.2).bind fun r => (rdA t a r.1 r.2).map fun x => (x, r.2)
def vA (e : DV) : DA := fun L M => (e L M).bind fun q => q.1.bind fun v => (asA v).map fun x => (x, q.2)
def tA (c : DC) (a b : DA) : DA := fun L M => (c L M).bind fun q => if q.1 = true then a L q.2 else b L q.2
def newO (ci N : Nat) (fs : List Value) (f : FN) (ar : DR) : DA := fun L M => (ar L (newC M N (.inr (ci, fs)))).bind fun q => (f (.ref M.1 :: q.1) q.2).bind fun r => match r.1 with
  | none => some (some M.1, r.2)
  | some _ => none
def newI (t : Nat) (e : DI) : DA := fun L M => (e L M).bind fun q => if 0 ≤ q.1.toInt ∧ q.1.toInt ≤ 100000 then some (some q.2.1, newC q.2 q.1.toNatClampNeg (.inl (t, q.1.toNatClampNeg, .inl (fun _ => 0)))) else none
def newJ (e : DI) : DA := fun L M => (e L M).bind fun q => if 0 ≤ q.1.toInt ∧ q.1.toInt ≤ 100000 then some (some q.2.1, newC q.2 q.1.toNatClampNeg (.inl (2, q.1.toNatClampNeg, .inr (.inl (fun _ => 0))))) else none
def newA (t : Nat) (e : DI) : DA := fun L M => (e L M).bind fun q => if 0 ≤ q.1.toInt ∧ q.1.toInt ≤ 100000 then some (some q.2.1, newC q.2 q.1.toNatClampNeg (.inl (t, q.1.toNatClampNeg, .inr (.inr (.inr (.inr (fun _ => none))))))) else none
/-- an array written out: e, then each value in its place -/
def litI (e : DA) (vs : List (Int32 × Int32)) : DA := fun L M => (e L M).bind fun q => q.1.bind fun a => (vs.foldlM (fun M1 w => wrI 0 a w.1 w.2 M1) q.2).map fun M2 => (some a, M2)
def cloI (e : DA) : DA := fun L M => (e L M).bind fun q => q.1.bind fun a => match q.2.2.2 a with
  | .inl (0, n, .inl f) => if 5 ≤ a then some (some q.2.1, newC q.2 n (.inl (0, n, .inl f))) else none
  | _ => none
-- longs
def cJ (v : Int64) : DJ := fun _ M => some (v, M)
def lJ (i : Nat) : DJ := fun L M => (L[i]?).bind fun o => o.bind fun v => (asJ v).map fun x => (x, M)
def iJ (a : DI) : DJ := fun L M => (a L M).map fun q => (q.1.toInt64, q.2)
def bJ (op : Int64 → Int64 → Option Int64) (a b : DJ) : DJ := fun L M => (a L M).bind fun q => (b L q.2).bind fun r => (op q.1 r.1).map fun z => (z, r.2)
def jAdd (x y : Int64) : Option Int64 := some (x + y)
def jMul (x y : Int64) : Option Int64 := some (x * y)
def gJ (e : DA) (i : DI) : DJ := fun L M => (e L M).bind fun q => q.1.bind fun a => (i L q.2).bind fun r => (rdJ a r.1 r.2).map fun x => (x, r.2)
-- conditions
def kI (op : Int32 → Int32 → Bool) (a b : DI) : DC := fun L M => (a L M).bind fun q => (b L q.2).map fun r => (op q.1 r.1, r.2)
def oEq (x y : Int32) : Bool := decide (x = y)
def oNe (x y : Int32) : Bool := decide (¬ x = y)
def oLt (x y : Int32) : Bool := decide (x < y)
def oGe (x y : Int32) : Bool := decide (y ≤ x)
def oGt (x y : Int32) : Bool := decide (y < x)
def oLe (x y : Int32) : Bool := decide (x ≤ y)
def kJ (op : Int64 → Int64 → Bool) (a b : DJ) : DC := fun L M => (a L M).bind fun q => (b L q.2).map fun r => (op q.1 r.1, r.2)
def jLe (x y : Int64) : Bool := decide (x ≤ y)
def jGt (x y : Int64) : Bool := decide (y < x)
def jEq (x y : Int64) : Bool := decide (x = y)
def jNe (x y : Int64) : Bool := decide (¬ x = y)
def isN (e : DA) : DC := fun L M => (e L M).map fun q => (q.1.isNone, q.2)
def notN (e : DA) : DC := fun L M => (e L M).map fun q => (q.1.isSome, q.2)
def hiA (r : Option Nat) : Bool := match r with
  | none => true
  | some a => decide (5 ≤ a)
def eqA (a b : DA) : DC := fun L M => (a L M).bind fun q => (b L q.2).bind fun r => if hiA q.1 = true ∧ hiA r.1 = true then some (decide (q.1 = r.1), r.2) else none
def andC (a b : DC) : DC := fun L M => (a L M).bind fun q => if q.1 = true then b L q.2 else some (false, q.2)
def orC (a b : DC) : DC := fun L M => (a L M).bind fun q => if q.1 = true then some (true, q.2) else b L q.2
def notC (a : DC) : DC := fun L M => (a L M).map fun q => (!q.1, q.2)
-- arguments, calls
def r0 : DR := fun _ M => some ([], M)
def rI (e : DI) (r : DR) : DR := fun L M => (e L M).bind fun q => (r L q.2).map fun s => (.int q.1 :: s.1, s.2)
def rA (e : DA) (r : DR) : DR := fun L M => (e L M).bind fun q => (r L q.2).map fun s => (va_rf q.1 :: s.1, s.2)
def ivS (f : FN) (r : DR) : DV := fun L M => (r L M).bind fun q => f q.1 q.2
def ivV (ci : Nat) (f : FN) (r : DR) : DV := fun L M => (r L M).bind fun q => match q.1 with
  | .ref b :: _ => if isC ci q.2 b = true then f q.1 q.2 else none
  | _ => none
/-- the superclass's constructor: Object's -/
-- statements: 0 goes on, 1 break, 2 continue, 3 return
def nop : DS := fun L M => some (L, M, 0, none)
def seqS (a b : DS) : DS := fun L M => (a L M).bind fun q => if q.2.2.1 = 0 then b q.1 q.2.1 else some q
def setI (i : Nat) (e : DI) : DS := fun L M => (e L M).map fun q => (stL i (.int q.1) L, q.2, 0, none)
def setA (i : Nat) (e : DA) : DS := fun L M => (e L M).map fun q => (stL i (va_rf q.1) L, q.2, 0, none)
def setJ (i : Nat) (e : DJ) : DS := fun L M => (e L M).map fun q => (stJ i (.long q.1) L, q.2, 0, none)
def incI (i : Nat) (n : Int32) : DS := fun L M => (L[i]?).bind fun o => o.bind fun v => (asI v).map fun x => (stL i (.int (x + n)) L, M, 0, none)
def pfI (ci k : Nat) (o : DA) (e : DI) : DS := fun L M => (o L M).bind fun q => q.1.bind fun a => (e L q.2).bind fun r => (wrF ci k a (.int r.1) r.2).map fun M' => (L, M', 0, none)
def pfA (ci k : Nat) (o : DA) (e : DA) : DS := fun L M => (o L M).bind fun q => q.1.bind fun a => (e L q.2).bind fun r => (wrF ci k a (va_rf r.1) r.2).map fun M' => (L, M', 0, none)
def upF (ci k : Nat) (o : DA) (op : Int32 → Int32 → Option Int32) (e : DI) : DS := fun L M => (o L M).bind fun q => q.1.bind fun a => (rdF ci k a q.2).bind fun v => (asI v).bind fun x => (e L q.2).bind fun r => (op x r.1).bind fun z => (wrF ci k a (.int z) r.2).map fun M' => (L, M', 0, none)
def paI (t : Nat) (o : DA) (i e : DI) : DS := fun L M => (o L M).bind fun q => q.1.bind fun a => (i L q.2).bind fun j => (e L j.2).bind fun r => if t = 0 ∨ (t = 1 ∧ (r.1 = 0 ∨ r.1 = 1)) then (wrI t a j.1 r.1 r.2).map fun M' => (L, M', 0, none) else none
def paA (t : Nat) (o : DA) (i : DI) (e : DA) : DS := fun L M => (o L M).bind fun q => q.1.bind fun a => (i L q.2).bind fun j => (e L j.2).bind fun r => (wrA t a j.1 r.1 r.2).map fun M' => (L, M', 0, none)
def exV (e : DV) : DS := fun L M => (e L M).bind fun q => match q.1 with
  | none => some (L, q.2, 0, none)
  | some _ => none
def exP (e : DV) : DS := fun L M => (e L M).bind fun q => match q.1 with
  | none => none
  | some v => if v.category = 1 then some (L, q.2, 0, none) else none
def ifS (c : DC) (a b : DS) : DS := fun L M => (c L M).bind fun q => if q.1 = true then a L q.2 else b L q.2
def brk : DS := fun L M => some (L, M, 1, none)
def cnt : DS := fun L M => some (L, M, 2, none)
def retV : DS := fun L M => some (L, M, 3, none)
def retI (e : DI) : DS := fun L M => (e L M).map fun q => (L, q.2, 3, some (.int q.1))
def retZ (e : DI) : DS := fun L M => (e L M).bind fun q => if q.1 = 0 ∨ q.1 = 1 then some (L, q.2, 3, some (.int q.1)) else none
def retA (e : DA) : DS := fun L M => (e L M).map fun q => (L, q.2, 3, some (va_rf q.1))
def clr (k : Nat) (L : Lv) : Lv := L.take k ++ List.replicate (L.length - k) none
def scp (k : Nat) (a : DS) : DS := fun L M => (a L M).map fun q => (clr k q.1, q.2)
def thr : DS := fun _ _ => none
def whN (c : DC) (b u : DS) : Nat → DS
  | 0 => fun _ _ => none
  | n + 1 => fun L M => (c L M).bind fun q => if q.1 = true then
      (b L q.2).bind fun r => if r.2.2.1 = 1 then some (r.1, r.2.1, 0, none) else if r.2.2.1 = 3 then some r else
        (u r.1 r.2.1).bind fun s => if s.2.2.1 = 0 then whN c b u n s.1 s.2.1 else none
    else some (L, q.2, 0, none)
def big : Nat := 1000000
def whS (c : DC) (b u : DS) : DS := whN c b u big
def swS (e : DI) (lo : Int) (cs : List DS) (d : DS) : DS := fun L M => (e L M).bind fun q => ((if q.1.toInt < lo then d else (cs[(q.1.toInt - lo).toNat]?).getD d) L q.2).map fun r => if r.2.2.1 = 1 then (r.1, r.2.1, 0, none) else r
-- methods
def cat1 (as : List Value) : Bool := as.all fun v => v.category == 1
def mkL (n : Nat) (as : List Value) : Lv := as.map some ++ List.replicate (n - as.length) none
def runM (n : Nat) (b : DS) : FN := fun as M => if cat1 as = true ∧ as.length ≤ n then (b (mkL n as) M).bind fun q => if q.2.2.1 = 3 then some (q.2.2.2, q.2.1) else none else none
end
section
/-! THE CODE DOES WHAT IT MEANS: a row for each form of Java -/
def LE (M M' : Mm) : Prop := M.1 ≤ M'.1 ∧ M.2.1 ≤ M'.2.1
theorem LE.rf (M : Mm) : LE M M := ⟨Nat.le_refl _, Nat.le_refl _⟩
theorem LE.tr {A B C : Mm} (h : LE A B) (k : LE B C) : LE A C := ⟨Nat.le_trans h.1 k.1, Nat.le_trans h.2 k.2⟩
def LW (G : GT) (M : Mm) : Prop := gn G ≤ M.1 ∧ gz G ≤ M.2.1
def RM (G : GT) (M : Mm) : Prop := M.1 ≤ gn G + (gR G).cells ∧ M.2.1 ≤ gz G + (gR G).slots
theorem LW.up {G : GT} {M M' : Mm} (h : LW G M) (k : LE M M') : LW G M' := ⟨Nat.le_trans h.1 k.1, Nat.le_trans h.2 k.2⟩
theorem RM.dn {G : GT} {M M' : Mm} (h : RM G M') (k : LE M M') : RM G M := ⟨Nat.le_trans k.1 h.1, Nat.le_trans k.2 h.2⟩
/-- an expression's code: from pc to pc', at most d words below it on the stack -/
def IE {α : Type} (em : α → Value) (I : MI) (d pc pc' : Nat) (E : Lv → Mm → Option (α × Mm)) : Prop := ∀ (L : Lv) (M : Mm) (v : α) (M' : Mm), E L M = some (v, M') → LE M M' ∧
  ∀ (G : GT) (st : List Value), CX G I → csum st ≤ d → LW G M → RM G M' → PT G pc' L (em v :: st) M' → PT G pc L st M
def IC (I : MI) (d pc pT pF : Nat) (E : DC) : Prop := ∀ (L : Lv) (M : Mm) (v : Bool) (M' : Mm), E L M = some (v, M') → LE M M' ∧
  ∀ (G : GT) (st : List Value), CX G I → csum st ≤ d → LW G M → RM G M' → (v = true → PT G pT L st M') → (v = false → PT G pF L st M') → PT G pc L st M
def IR (I : MI) (d pc pc' n : Nat) (E : DR) : Prop := ∀ (L : Lv) (M : Mm) (v : List Value) (M' : Mm), E L M = some (v, M') → LE M M' ∧ v.length = n ∧
  ∀ (G : GT) (st : List Value), CX G I → csum st ≤ d → LW G M → RM G M' → PT G pc' L (v.reverse ++ st) M' → PT G pc L st M
def IV (I : MI) (d pc pc' : Nat) (E : DV) : Prop := ∀ (L : Lv) (M : Mm) (v : Option Value) (M' : Mm), E L M = some (v, M') → LE M M' ∧
  ∀ (G : GT) (st : List Value), CX G I → csum st ≤ d → LW G M → RM G M' → PT G pc' L (v.toList ++ st) M' → PT G pc L st M
def retOp (t : Option FieldType) : Instr := match t with
  | none => .return_
  | some (.object _) => .areturn
  | some (.array _) => .areturn
  | some _ => .ireturn
def okR (t : Option FieldType) (v : Option Value) : Prop := match t with
  | none => v = none
  | some .int => ∃ x : Int32, v = some (.int x)
  | some .boolean => ∃ x : Int32, (x = 0 ∨ x = 1) ∧ v = some (.int x)
  | some (.object _) => ∃ r : Option Nat, v = some (va_rf r)
  | some (.array _) => ∃ r : Option Nat, v = some (va_rf r)
  | some _ => False
def RT (G : GT) (I : MI) (v : Option Value) (M : Mm) : Prop := ∀ (L : Lv) (pc : Nat), decode I.1 pc = .ok (retOp I.2.2.2.2.2.2, 1) → okR I.2.2.2.2.2.2 v → PT G pc L v.toList M
/-- a statement's code: where it goes on, breaks, continues -/
def IS (I : MI) (pc tN tB tC : Nat) (S : DS) : Prop := ∀ (L : Lv) (M : Mm) (L' : Lv) (M' : Mm) (c : Nat) (v : Option Value), S L M = some (L', M', c, v) → LE M M' ∧
  ∀ (G : GT), CX G I → LW G M → RM G M' → (c = 0 → PT G tN L' [] M') → (c = 1 → PT G tB L' [] M') → (c = 2 → PT G tC L' [] M') → (c = 3 → RT G I v M') → PT G pc L [] M
def Jp (I : MI) (a t : Nat) : Prop := a = t ∨ ∃ off : Int, decode I.1 a = .ok (.goto off, 3) ∧ (a : Int) + off = (t : Int)
theorem Jp.pt {I : MI} {a t : Nat} (h : Jp I a t) {G : GT} {L : Lv} {st : List Value} {M : Mm} (C : CX G I) (k : PT G t L st M) : PT G a L st M := by
  rcases h with rfl | ⟨off, h1, h2⟩
  · exact k
  · exact pt_goto C h1 h2 k
theorem Jp.rf {I : MI} {a : Nat} : Jp I a a := Or.inl rfl
theorem Jp.go {I : MI} {a t : Nat} {off : Int} (h : decode I.1 a = .ok (.goto off, 3)) (k : (a : Int) + off = (t : Int)) : Jp I a t := Or.inr ⟨off, h, k⟩
theorem csum_int (x : Int32) {st : List Value} {d : Nat} (h : csum st ≤ d) : csum (.int x :: st) ≤ d + 1 := by
  rw [csum_cons]
  show 1 + csum st ≤ d + 1
  omega
theorem csum_rf (r : Option Nat) {st : List Value} {d : Nat} (h : csum st ≤ d) : csum (va_rf r :: st) ≤ d + 1 := by
  rw [csum_cons]
  cases r <;> (show 1 + csum st ≤ d + 1; omega)
theorem csum_ref (a : Nat) {st : List Value} {d : Nat} (h : csum st ≤ d) : csum (.ref a :: st) ≤ d + 1 := csum_rf (some a) h
theorem csum_long (x : Int64) {st : List Value} {d : Nat} (h : csum st ≤ d) : csum (.long x :: st) ≤ d + 2 := by
  rw [csum_cons]
  show 2 + csum st ≤ d + 2
  omega
theorem some2 {α : Type} {a b : α} {M M' : Mm} (h : some (a, M) = some (b, M')) : a = b ∧ M = M' := by cases h; exact ⟨rfl, rfl⟩
theorem inb_in {i : Int32} {n : Nat} (h : inb i n = true) : vp_in i n := by
  unfold inb at h
  simp only [Bool.and_eq_true, decide_eq_true_eq] at h
  exact vp_in_iff.mpr h
section Exprs
variable {I : MI} {d pc p1 p2 : Nat}
theorem ie_iconst {n : Int} {v : Int32} (hd : decode I.1 pc = .ok (.iconst n, 1)) (hv : Int32.ofInt n = v) : IE .int I d pc (pc + 1) (cI v) := by
  intro L M w M' h
  obtain ⟨rfl, rfl⟩ := some2 h
  exact ⟨LE.rf _, fun G st C _ _ _ k => pt_iconst C hd hv k⟩
theorem ie_bipush {n : Int} {v : Int32} (hd : decode I.1 pc = .ok (.bipush n, 2)) (hv : (Int8.ofInt n).toInt32 = v) : IE .int I d pc (pc + 2) (cI v) := by
  intro L M w M' h
  obtain ⟨rfl, rfl⟩ := some2 h
  exact ⟨LE.rf _, fun G st C _ _ _ k => pt_bipush C hd hv k⟩
theorem ie_sipush {n : Int} {v : Int32} (hd : decode I.1 pc = .ok (.sipush n, 3)) (hv : (Int16.ofInt n).toInt32 = v) : IE .int I d pc (pc + 3) (cI v) := by
  intro L M w M' h
  obtain ⟨rfl, rfl⟩ := some2 h
  exact ⟨LE.rf _, fun G st C _ _ _ k => pt_sipush C hd hv k⟩
theorem ie_ldc {i : Nat} {v : Int32} (hd : decode I.1 pc = .ok (.ldc i, 2)) (hw : Cond.constant I.2.1 i v ∈ TG) : IE .int I d pc (pc + 2) (cI v) := by
  intro L M w M' h
  obtain ⟨rfl, rfl⟩ := some2 h
  exact ⟨LE.rf _, fun G st C _ _ _ k => pt_ldc C hd hw k⟩
theorem ij_ldc2 {i : Nat} {v : Int64} (hd : decode I.1 pc = .ok (.ldc2_w i, 3)) (hw : Cond.constantLong I.2.1 i v ∈ TG) : IE .long I d pc (pc + 3) (cJ v) := by
  intro L M w M' h
  obtain ⟨rfl, rfl⟩ := some2 h
  exact ⟨LE.rf _, fun G st C _ _ _ k => pt_ldc2 C hd hw k⟩
theorem lI_spec {i : Nat} {L : Lv} {M M' : Mm} {v : Int32} (h : lI i L M = some (v, M')) : L[i]? = some (some (.int v)) ∧ M' = M := by
  unfold lI at h
  obtain ⟨o, h1, h⟩ := Option.bind_eq_some_iff.mp h
  obtain ⟨w, rfl, h⟩ := Option.bind_eq_some_iff.mp h
  obtain ⟨x, h2, h3⟩ := Option.map_eq_some_iff.mp h
  cases h3
  cases w <;> cases h2
  exact ⟨h1, rfl⟩
theorem lJ_spec {i : Nat} {L : Lv} {M M' : Mm} {v : Int64} (h : lJ i L M = some (v, M')) : L[i]? = some (some (.long v)) ∧ M' = M := by
  unfold lJ at h
  obtain ⟨o, h1, h⟩ := Option.bind_eq_some_iff.mp h
  obtain ⟨w, rfl, h⟩ := Option.bind_eq_some_iff.mp h
  obtain ⟨x, h2, h3⟩ := Option.map_eq_some_iff.mp h
  cases h3
  cases w <;> cases h2
  exact ⟨h1, rfl⟩
theorem asA_rf {v : Value} {r : Option Nat} (h : asA v = some r) : v = va_rf r := by cases v <;> cases h <;> rfl
theorem asI_i {v : Value} {r : Int32} (h : asI v = some r) : v = .int r := by cases v <;> cases h; rfl
theorem lA_spec {i : Nat} {L : Lv} {M M' : Mm} {v : Option Nat} (h : lA i L M = some (v, M')) : L[i]? = some (some (va_rf v)) ∧ M' = M := by
  unfold lA at h
  obtain ⟨o, h1, h⟩ := Option.bind_eq_some_iff.mp h
  obtain ⟨w, rfl, h⟩ := Option.bind_eq_some_iff.mp h
  obtain ⟨x, h2, h3⟩ := Option.map_eq_some_iff.mp h
  cases h3
  rw [asA_rf h2] at h1
  exact ⟨h1, rfl⟩
theorem ie_iload_n {q : Fin 4} {i : Nat} (hd : decode I.1 pc = .ok (.iload_n q, 1)) (hi : (q : Nat) = i) : IE .int I d pc (pc + 1) (lI i) := by
  intro L M w M' h
  obtain ⟨h1, rfl⟩ := lI_spec h
  exact ⟨LE.rf _, fun G st C _ _ _ k => pt_iload_n C hd hi h1 k⟩
theorem ie_iload {i : Nat} (hd : decode I.1 pc = .ok (.iload i, 2)) : IE .int I d pc (pc + 2) (lI i) := by
  intro L M w M' h
  obtain ⟨h1, rfl⟩ := lI_spec h
  exact ⟨LE.rf _, fun G st C _ _ _ k => pt_iload C hd h1 k⟩
theorem ij_lload {i : Nat} (hd : decode I.1 pc = .ok (.lload i, 2)) : IE .long I d pc (pc + 2) (lJ i) := by
  intro L M w M' h
  obtain ⟨h1, rfl⟩ := lJ_spec h
  exact ⟨LE.rf _, fun G st C _ _ _ k => pt_lload C hd h1 k⟩
theorem ia_aload_n {q : Fin 4} {i : Nat} (hd : decode I.1 pc = .ok (.aload_n q, 1)) (hi : (q : Nat) = i) : IE va_rf I d pc (pc + 1) (lA i) := by
  intro L M w M' h
  obtain ⟨h1, rfl⟩ := lA_spec h
  exact ⟨LE.rf _, fun G st C _ _ _ k => pt_aload_n C hd hi h1 k⟩
theorem ia_aload {i : Nat} (hd : decode I.1 pc = .ok (.aload i, 2)) : IE va_rf I d pc (pc + 2) (lA i) := by
  intro L M w M' h
  obtain ⟨h1, rfl⟩ := lA_spec h
  exact ⟨LE.rf _, fun G st C _ _ _ k => pt_aload C hd h1 k⟩
theorem ia_null (hd : decode I.1 pc = .ok (.aconst_null, 1)) : IE va_rf I d pc (pc + 1) cN := by
  intro L M w M' h
  obtain ⟨rfl, rfl⟩ := some2 h
  exact ⟨LE.rf _, fun G st C _ _ _ k => pt_null C hd k⟩
theorem ia_gets {i index : Nat} {Cn nm : String} (hq : (Cn, nm, i) ∈ STN) (hw : Cond.fieldLink I.2.1 index Cn nm "[I" ∈ TG) (hd : decode I.1 pc = .ok (.getstatic index, 3)) : IE va_rf I d pc (pc + 3) (cS i) := by
  intro L M w M' h
  obtain ⟨rfl, rfl⟩ := some2 h
  exact ⟨LE.rf _, fun G st C _ _ _ k => pt_gets C hq hw hd k⟩
theorem ie_bin {op : Int32 → Int32 → Option Int32} {n : Nat} {a b : DI} (ha : IE .int I d pc p1 a) (hb : IE .int I (d + 1) p1 p2 b)
    (hop : ∀ (G : GT) (L : Lv) (st : List Value) (M : Mm) (x y z : Int32), CX G I → csum st ≤ d → RM G M → op x y = some z → PT G (p2 + n) L (.int z :: st) M → PT G p2 L (.int y :: .int x :: st) M) : IE .int I d pc (p2 + n) (bI op a b) := by
  intro L M w M' h
  obtain ⟨⟨x, M1⟩, h1, h⟩ := Option.bind_eq_some_iff.mp h
  obtain ⟨⟨y, M2⟩, h2, h⟩ := Option.bind_eq_some_iff.mp h
  obtain ⟨z, h3, h4⟩ := Option.map_eq_some_iff.mp h
  cases h4
  obtain ⟨l1, k1⟩ := ha L M x M1 h1
  obtain ⟨l2, k2⟩ := hb L M1 y M2 h2
  exact ⟨l1.tr l2, fun G st C hs hw hr k => k1 G st C hs hw (hr.dn l2) (k2 G _ C (csum_int x hs) (hw.up l1) hr (hop G L st M2 x y w C hs hr h3 k))⟩
theorem ie_add {a b : DI} (ha : IE .int I d pc p1 a) (hb : IE .int I (d + 1) p1 p2 b) (hd : decode I.1 p2 = .ok (.iadd, 1)) : IE .int I d pc (p2 + 1) (bI oAdd a b) :=
  ie_bin ha hb fun G L st M x y z C _ _ h k => by cases h; exact pt_iadd C hd k
theorem ie_sub {a b : DI} (ha : IE .int I d pc p1 a) (hb : IE .int I (d + 1) p1 p2 b) (hd : decode I.1 p2 = .ok (.isub, 1)) : IE .int I d pc (p2 + 1) (bI oSub a b) :=
  ie_bin ha hb fun G L st M x y z C _ _ h k => by cases h; exact pt_isub C hd k
theorem ie_mul {a b : DI} (ha : IE .int I d pc p1 a) (hb : IE .int I (d + 1) p1 p2 b) (hd : decode I.1 p2 = .ok (.imul, 1)) : IE .int I d pc (p2 + 1) (bI oMul a b) :=
  ie_bin ha hb fun G L st M x y z C _ _ h k => by cases h; exact pt_imul C hd k
theorem ie_and {a b : DI} (ha : IE .int I d pc p1 a) (hb : IE .int I (d + 1) p1 p2 b) (hd : decode I.1 p2 = .ok (.iand, 1)) : IE .int I d pc (p2 + 1) (bI oAnd a b) :=
  ie_bin ha hb fun G L st M x y z C _ _ h k => by cases h; exact pt_iand C hd k
theorem ie_div {a b : DI} (ha : IE .int I d pc p1 a) (hb : IE .int I (d + 1) p1 p2 b) (hd : decode I.1 p2 = .ok (.idiv, 1)) : IE .int I d pc (p2 + 1) (bI oDiv a b) :=
  ie_bin ha hb fun G L st M x y z C _ _ h k => by
    unfold oDiv at h
    split at h
    · cases h
    · rename_i hy
      cases h
      exact pt_idiv C hd hy k
theorem ie_rem {a b : DI} (ha : IE .int I d pc p1 a) (hb : IE .int I (d + 1) p1 p2 b) (hd : decode I.1 p2 = .ok (.irem, 1)) : IE .int I d pc (p2 + 1) (bI oRem a b) :=
  ie_bin ha hb fun G L st M x y z C _ _ h k => by
    unfold oRem at h
    split at h
    · cases h
    · rename_i hy
      cases h
      exact pt_irem C hd hy k
theorem ie_max {a b : DI} {index : Nat} (ha : IE .int I d pc p1 a) (hb : IE .int I (d + 1) p1 p2 b) (w1 : Cond.methodLink I.2.1 index Lib.Math.max.name ∈ TG) (w2 : Cond.static Lib.Math.max.name ∈ TG) (w3 : Cond.initialized "java/lang/Math" ∈ TG) (w4 : Cond.code Lib.Math.max.name Lib.Math.max.code 2 (some .int) ∈ TG)
    (hfr : 1 ≤ I.2.2.2.1) (hlo : d + 13 ≤ I.2.2.2.2.1) (hd : decode I.1 p2 = .ok (.invokestatic index, 3)) : IE .int I d pc (p2 + 3) (bI oMax a b) :=
  ie_bin ha hb fun G L st M x y z C hs hr h k => by cases h; exact pt_max C w1 w2 w3 w4 hfr (Nat.le_trans (Nat.add_le_add_right hs 13) hlo) hr hd k
theorem ie_min {a b : DI} {index : Nat} (ha : IE .int I d pc p1 a) (hb : IE .int I (d + 1) p1 p2 b) (w1 : Cond.methodLink I.2.1 index Lib.Math.min.name ∈ TG) (w2 : Cond.static Lib.Math.min.name ∈ TG) (w3 : Cond.initialized "java/lang/Math" ∈ TG) (w4 : Cond.code Lib.Math.min.name Lib.Math.min.code 2 (some .int) ∈ TG)
    (hfr : 1 ≤ I.2.2.2.1) (hlo : d + 13 ≤ I.2.2.2.2.1) (hd : decode I.1 p2 = .ok (.invokestatic index, 3)) : IE .int I d pc (p2 + 3) (bI oMin a b) :=
  ie_bin ha hb fun G L st M x y z C hs hr h k => by cases h; exact pt_min C w1 w2 w3 w4 hfr (Nat.le_trans (Nat.add_le_add_right hs 13) hlo) hr hd k
theorem ie_neg {a : DI} (ha : IE .int I d pc p1 a) (hd : decode I.1 p1 = .ok (.ineg, 1)) : IE .int I d pc (p1 + 1) (nI1 a) := by
  intro L M w M' h
  obtain ⟨⟨x, M1⟩, h1, h⟩ := Option.map_eq_some_iff.mp h
  cases h
  obtain ⟨l1, k1⟩ := ha L M x M1 h1
  exact ⟨l1, fun G st C hs hw hr k => k1 G st C hs hw hr (pt_ineg C hd k)⟩
theorem ij_i2l {a : DI} (ha : IE .int I d pc p1 a) (hd : decode I.1 p1 = .ok (.i2l, 1)) : IE .long I d pc (p1 + 1) (iJ a) := by
  intro L M w M' h
  obtain ⟨⟨x, M1⟩, h1, h⟩ := Option.map_eq_some_iff.mp h
  cases h
  obtain ⟨l1, k1⟩ := ha L M x M1 h1
  exact ⟨l1, fun G st C hs hw hr k => k1 G st C hs hw hr (pt_i2l C hd k)⟩
theorem ij_bin {op : Int64 → Int64 → Option Int64} {a b : DJ} (ha : IE .long I d pc p1 a) (hb : IE .long I (d + 2) p1 p2 b)
    (hop : ∀ (G : GT) (L : Lv) (st : List Value) (M : Mm) (x y z : Int64), CX G I → op x y = some z → PT G (p2 + 1) L (.long z :: st) M → PT G p2 L (.long y :: .long x :: st) M) : IE .long I d pc (p2 + 1) (bJ op a b) := by
  intro L M w M' h
  obtain ⟨⟨x, M1⟩, h1, h⟩ := Option.bind_eq_some_iff.mp h
  obtain ⟨⟨y, M2⟩, h2, h⟩ := Option.bind_eq_some_iff.mp h
  obtain ⟨z, h3, h4⟩ := Option.map_eq_some_iff.mp h
  cases h4
  obtain ⟨l1, k1⟩ := ha L M x M1 h1
  obtain ⟨l2, k2⟩ := hb L M1 y M2 h2
  exact ⟨l1.tr l2, fun G st C hs hw hr k => k1 G st C hs hw (hr.dn l2) (k2 G _ C (csum_long x hs) (hw.up l1) hr (hop G L st M2 x y w C h3 k))⟩
theorem ij_add {a b : DJ} (ha : IE .long I d pc p1 a) (hb : IE .long I (d + 2) p1 p2 b) (hd : decode I.1 p2 = .ok (.ladd, 1)) : IE .long I d pc (p2 + 1) (bJ jAdd a b) :=
  ij_bin ha hb fun G L st M x y z C h k => by cases h; exact pt_ladd C hd k
theorem ij_mul {a b : DJ} (ha : IE .long I d pc p1 a) (hb : IE .long I (d + 2) p1 p2 b) (hd : decode I.1 p2 = .ok (.lmul, 1)) : IE .long I d pc (p2 + 1) (bJ jMul a b) :=
  ij_bin ha hb fun G L st M x y z C h k => by cases h; exact pt_lmul C hd k
/-- what a class's field row asks: its number, its table, the words -/
abbrev FW (ci : Nat) (Cn : String) (T : u_T) (N : Nat) : Prop := vwCl[ci]? = some (Cn, T, N) ∧ ∀ w ∈ u_ws Cn T N, w ∈ TG
theorem rdF_spec {ci k a : Nat} {M : Mm} {v : Value} (h : rdF ci k a M = some v) : ∃ fs, M.2.2 a = .inr (ci, fs) ∧ fs[k]? = some v := by
  unfold rdF at h
  split at h
  · rename_i c fs hM
    split at h
    · rename_i hc
      subst hc
      exact ⟨fs, hM, h⟩
    · cases h
  · cases h
theorem ie_fld {ci k index N : Nat} {Cn : String} {T : u_T} {e : DA} (he : IE va_rf I d pc p1 e) (hF : FW ci Cn T N) (hk : k < N) (hw : Cond.fieldLink I.2.1 index (T k).1 (T k).2.1 (T k).2.2.1 ∈ TG) (hd : decode I.1 p1 = .ok (.getfield index, 3)) : IE .int I d pc (p1 + 3) (fI ci k e) := by
  intro L M w M' h
  obtain ⟨⟨r, M1⟩, h1, h⟩ := Option.bind_eq_some_iff.mp h
  obtain ⟨a, h2, h⟩ := Option.bind_eq_some_iff.mp h
  obtain ⟨v, h3, h⟩ := Option.bind_eq_some_iff.mp h
  obtain ⟨x, h4, h5⟩ := Option.map_eq_some_iff.mp h
  cases h5
  have h2 : r = some a := h2
  subst h2
  rw [asI_i h4] at h3
  obtain ⟨fs, hM, hv⟩ := rdF_spec h3
  obtain ⟨l1, k1⟩ := he L M _ M1 h1
  exact ⟨l1, fun G st C hs hw1 hr k2 => k1 G st C hs hw1 hr (pt_get C hM hv hF.1 hk hF.2 hw hd k2)⟩
theorem ia_fld {ci k index N : Nat} {Cn : String} {T : u_T} {e : DA} (he : IE va_rf I d pc p1 e) (hF : FW ci Cn T N) (hk : k < N) (hw : Cond.fieldLink I.2.1 index (T k).1 (T k).2.1 (T k).2.2.1 ∈ TG) (hd : decode I.1 p1 = .ok (.getfield index, 3)) : IE va_rf I d pc (p1 + 3) (fA ci k e) := by
  intro L M w M' h
  obtain ⟨⟨r, M1⟩, h1, h⟩ := Option.bind_eq_some_iff.mp h
  obtain ⟨a, h2, h⟩ := Option.bind_eq_some_iff.mp h
  obtain ⟨v, h3, h⟩ := Option.bind_eq_some_iff.mp h
  obtain ⟨x, h4, h5⟩ := Option.map_eq_some_iff.mp h
  cases h5
  have h2 : r = some a := h2
  subst h2
  rw [asA_rf h4] at h3
  obtain ⟨fs, hM, hv⟩ := rdF_spec h3
  obtain ⟨l1, k1⟩ := he L M _ M1 h1
  exact ⟨l1, fun G st C hs hw1 hr k2 => k1 G st C hs hw1 hr (pt_get C hM hv hF.1 hk hF.2 hw hd k2)⟩
theorem rdI_spec {t a : Nat} {i x : Int32} {M : Mm} (h : rdI t a i M = some x) : ∃ n f, M.2.2 a = .inl (t, n, .inl f) ∧ vp_in i n ∧ x = f i.toNatClampNeg := by
  unfold rdI at h
  split at h
  · rename_i t' n f hM
    split at h
    · rename_i hc
      obtain ⟨rfl, hc⟩ := hc
      cases h
      exact ⟨n, f, hM, inb_in hc, rfl⟩
    · cases h
  · cases h
theorem rdJ_spec {a : Nat} {i : Int32} {x : Int64} {M : Mm} (h : rdJ a i M = some x) : ∃ n f, M.2.2 a = .inl (2, n, .inr (.inl f)) ∧ vp_in i n ∧ x = f i.toNatClampNeg := by
  unfold rdJ at h
  split at h
  · rename_i t' n f hM
    split at h
    · rename_i hc
      obtain ⟨rfl, hc⟩ := hc
      cases h
      exact ⟨n, f, hM, inb_in hc, rfl⟩
    · cases h
  · cases h
theorem rdA_spec {t a : Nat} {i : Int32} {x : Option Nat} {M : Mm} (h : rdA t a i M = some x) : ∃ n f, M.2.2 a = .inl (t, n, .inr (.inr (.inr (.inr f)))) ∧ vp_in i n ∧ x = f i.toNatClampNeg := by
  unfold rdA at h
  split at h
  · rename_i t' n f hM
    split at h
    · rename_i hc
      obtain ⟨rfl, hc⟩ := hc
      cases h
      exact ⟨n, f, hM, inb_in hc, rfl⟩
    · cases h
  · cases h
theorem ie_ald {e : DA} {i : DI} (he : IE va_rf I d pc p1 e) (hi : IE .int I (d + 1) p1 p2 i) (hd : decode I.1 p2 = .ok (.iaload, 1)) : IE .int I d pc (p2 + 1) (gI 0 e i) := by
  intro L M w M' h
  obtain ⟨⟨r, M1⟩, h1, h⟩ := Option.bind_eq_some_iff.mp h
  obtain ⟨a, h2, h⟩ := Option.bind_eq_some_iff.mp h
  obtain ⟨⟨j, M2⟩, h3, h⟩ := Option.bind_eq_some_iff.mp h
  obtain ⟨x, h4, h5⟩ := Option.map_eq_some_iff.mp h
  cases h5
  have h2 : r = some a := h2
  subst h2
  obtain ⟨n, f, hM, hin, rfl⟩ := rdI_spec h4
  obtain ⟨l1, k1⟩ := he L M _ M1 h1
  obtain ⟨l2, k2⟩ := hi L M1 _ M2 h3
  exact ⟨l1.tr l2, fun G st C hs hw hr k => k1 G st C hs hw (hr.dn l2) (k2 G _ C (csum_rf _ hs) (hw.up l1) hr (pt_iald C hM hin hd k))⟩
theorem ie_zald {e : DA} {i : DI} (he : IE va_rf I d pc p1 e) (hi : IE .int I (d + 1) p1 p2 i) (hd : decode I.1 p2 = .ok (.baload, 1)) : IE .int I d pc (p2 + 1) (gI 1 e i) := by
  intro L M w M' h
  obtain ⟨⟨r, M1⟩, h1, h⟩ := Option.bind_eq_some_iff.mp h
  obtain ⟨a, h2, h⟩ := Option.bind_eq_some_iff.mp h
  obtain ⟨⟨j, M2⟩, h3, h⟩ := Option.bind_eq_some_iff.mp h
  obtain ⟨x, h4, h5⟩ := Option.map_eq_some_iff.mp h
  cases h5
  have h2 : r = some a := h2
  subst h2
  obtain ⟨n, f, hM, hin, rfl⟩ := rdI_spec h4
  obtain ⟨l1, k1⟩ := he L M _ M1 h1
  obtain ⟨l2, k2⟩ := hi L M1 _ M2 h3
  exact ⟨l1.tr l2, fun G st C hs hw hr k => k1 G st C hs hw (hr.dn l2) (k2 G _ C (csum_rf _ hs) (hw.up l1) hr (pt_zald C hM hin hd k))⟩
theorem ij_ald {e : DA} {i : DI} (he : IE va_rf I d pc p1 e) (hi : IE .int I (d + 1) p1 p2 i) (hd : decode I.1 p2 = .ok (.laload, 1)) : IE .long I d pc (p2 + 1) (gJ e i) := by
  intro L M w M' h
  obtain ⟨⟨r, M1⟩, h1, h⟩ := Option.bind_eq_some_iff.mp h
  obtain ⟨a, h2, h⟩ := Option.bind_eq_some_iff.mp h
  obtain ⟨⟨j, M2⟩, h3, h⟩ := Option.bind_eq_some_iff.mp h
  obtain ⟨x, h4, h5⟩ := Option.map_eq_some_iff.mp h
  cases h5
  have h2 : r = some a := h2
  subst h2
  obtain ⟨n, f, hM, hin, rfl⟩ := rdJ_spec h4
  obtain ⟨l1, k1⟩ := he L M _ M1 h1
  obtain ⟨l2, k2⟩ := hi L M1 _ M2 h3
  exact ⟨l1.tr l2, fun G st C hs hw hr k => k1 G st C hs hw (hr.dn l2) (k2 G _ C (csum_rf _ hs) (hw.up l1) hr (pt_lald C hM hin hd k))⟩
theorem ia_ald {t : Nat} {e : DA} {i : DI} (he : IE va_rf I d pc p1 e) (hi : IE .int I (d + 1) p1 p2 i) (ht : 3 ≤ t ∧ t ≤ 5) (hd : decode I.1 p2 = .ok (.aaload, 1)) : IE va_rf I d pc (p2 + 1) (gA t e i) := by
  intro L M w M' h
  obtain ⟨⟨r, M1⟩, h1, h⟩ := Option.bind_eq_some_iff.mp h
  obtain ⟨a, h2, h⟩ := Option.bind_eq_some_iff.mp h
  obtain ⟨⟨j, M2⟩, h3, h⟩ := Option.bind_eq_some_iff.mp h
  obtain ⟨x, h4, h5⟩ := Option.map_eq_some_iff.mp h
  cases h5
  have h2 : r = some a := h2
  subst h2
  obtain ⟨n, f, hM, hin, rfl⟩ := rdA_spec h4
  obtain ⟨l1, k1⟩ := he L M _ M1 h1
  obtain ⟨l2, k2⟩ := hi L M1 _ M2 h3
  exact ⟨l1.tr l2, fun G st C hs hw hr k => k1 G st C hs hw (hr.dn l2) (k2 G _ C (csum_rf _ hs) (hw.up l1) hr (pt_aald C hM ht hin hd k))⟩
theorem ie_len {e : DA} (he : IE va_rf I d pc p1 e) (hd : decode I.1 p1 = .ok (.arraylength, 1)) : IE .int I d pc (p1 + 1) (nA e) := by
  intro L M w M' h
  obtain ⟨⟨r, M1⟩, h1, h⟩ := Option.bind_eq_some_iff.mp h
  obtain ⟨a, h2, h⟩ := Option.bind_eq_some_iff.mp h
  obtain ⟨n, h4, h5⟩ := Option.map_eq_some_iff.mp h
  cases h5
  have h2 : r = some a := h2
  subst h2
  unfold lenA at h4
  split at h4
  · rename_i t x hM
    split at h4
    · rename_i ht
      obtain ⟨l1, k1⟩ := he L M _ M1 h1
      exact ⟨l1, fun G st C hs hw hr k => k1 G st C hs hw hr (pt_alen C hM ht (Option.some.inj h4) rfl hd k)⟩
    · cases h4
  · cases h4
theorem ie_ofV {e : DV} (he : IV I d pc p1 e) : IE .int I d pc p1 (vI e) := by
  intro L M w M' h
  obtain ⟨⟨r, M1⟩, h1, h⟩ := Option.bind_eq_some_iff.mp h
  obtain ⟨v, h2, h⟩ := Option.bind_eq_some_iff.mp h
  obtain ⟨x, h4, h5⟩ := Option.map_eq_some_iff.mp h
  cases h5
  have h2 : r = some v := h2
  subst h2
  rw [asI_i h4] at h1
  obtain ⟨l1, k1⟩ := he L M _ M1 h1
  exact ⟨l1, fun G st C hs hw hr k => k1 G st C hs hw hr k⟩
theorem ia_ofV {e : DV} (he : IV I d pc p1 e) : IE va_rf I d pc p1 (vA e) := by
  intro L M w M' h
  obtain ⟨⟨r, M1⟩, h1, h⟩ := Option.bind_eq_some_iff.mp h
  obtain ⟨v, h2, h⟩ := Option.bind_eq_some_iff.mp h
  obtain ⟨x, h4, h5⟩ := Option.map_eq_some_iff.mp h
  cases h5
  have h2 : r = some v := h2
  subst h2
  rw [asA_rf h4] at h1
  obtain ⟨l1, k1⟩ := he L M _ M1 h1
  exact ⟨l1, fun G st C hs hw hr k => k1 G st C hs hw hr k⟩
/-- c ? a : b -/
theorem ie_tern {α : Type} {em : α → Value} {pT pF pTe pe : Nat} {c : DC} {a b : Lv → Mm → Option (α × Mm)} (hc : IC I d pc pT pF c) (ha : IE em I d pT pTe a) (hj : Jp I pTe pe) (hb : IE em I d pF p2 b) (hj2 : Jp I p2 pe) :
    IE em I d pc pe (fun L M => (c L M).bind fun q => if q.1 = true then a L q.2 else b L q.2) := by
  intro L M w M' h
  obtain ⟨⟨r, M1⟩, h1, h⟩ := Option.bind_eq_some_iff.mp h
  obtain ⟨l1, k1⟩ := hc L M _ M1 h1
  cases r with
  | true =>
    obtain ⟨l2, k2⟩ := ha L M1 w M' h
    exact ⟨l1.tr l2, fun G st C hs hw hr k => k1 G st C hs hw (hr.dn l2) (fun _ => k2 G st C hs (hw.up l1) hr (hj.pt C k)) (fun q => by cases q)⟩
  | false =>
    obtain ⟨l2, k2⟩ := hb L M1 w M' h
    exact ⟨l1.tr l2, fun G st C hs hw hr k => k1 G st C hs hw (hr.dn l2) (fun q => by cases q) (fun _ => k2 G st C hs (hw.up l1) hr (hj2.pt C k))⟩
/-- a condition's value: 1 or 0 -/
theorem ie_bool {pT pF pe : Nat} {c : DC} (hc : IC I d pc pT pF c) (h1 : decode I.1 pT = .ok (.iconst 1, 1)) (hj : Jp I (pT + 1) pe) (h0 : decode I.1 pF = .ok (.iconst 0, 1)) (hj2 : Jp I (pF + 1) pe) : IE .int I d pc pe (zI c) := by
  intro L M w M' h
  obtain ⟨⟨r, M1⟩, h2, h⟩ := Option.map_eq_some_iff.mp h
  cases h
  obtain ⟨l1, k1⟩ := hc L M _ M1 h2
  refine ⟨l1, fun G st C hs hw hr k => k1 G st C hs hw hr (fun q => ?_) (fun q => ?_)⟩
  · have q : r = true := q
    subst q
    exact pt_iconst C h1 rfl (hj.pt C k)
  · have q : r = false := q
    subst q
    exact pt_iconst C h0 rfl (hj2.pt C k)
end Exprs
end
section
/-! THE CODE DOES WHAT IT MEANS, second half: conditions, arguments, calls, statements, methods -/
section Conds
variable {I : MI} {d pc p1 p2 : Nat}
theorem ic_bin {op : Int32 → Int32 → Bool} {pT pF : Nat} {a b : DI} (ha : IE .int I d pc p1 a) (hb : IE .int I (d + 1) p1 p2 b)
    (hop : ∀ (G : GT) (L : Lv) (st : List Value) (M : Mm) (x y : Int32), CX G I → (op x y = true → PT G pT L st M) → (op x y = false → PT G pF L st M) → PT G p2 L (.int y :: .int x :: st) M) : IC I d pc pT pF (kI op a b) := by
  intro L M w M' h
  obtain ⟨⟨x, M1⟩, h1, h⟩ := Option.bind_eq_some_iff.mp h
  obtain ⟨⟨y, M2⟩, h2, h⟩ := Option.map_eq_some_iff.mp h
  cases h
  obtain ⟨l1, k1⟩ := ha L M x M1 h1
  obtain ⟨l2, k2⟩ := hb L M1 y M2 h2
  exact ⟨l1.tr l2, fun G st C hs hw hr kt kf => k1 G st C hs hw (hr.dn l2) (k2 G _ C (csum_int x hs) (hw.up l1) hr (hop G L st M2 x y C kt kf))⟩
theorem ic_zero {op : Int32 → Int32 → Bool} {pT pF : Nat} {a : DI} (ha : IE .int I d pc p1 a)
    (hop : ∀ (G : GT) (L : Lv) (st : List Value) (M : Mm) (x : Int32), CX G I → (op x 0 = true → PT G pT L st M) → (op x 0 = false → PT G pF L st M) → PT G p1 L (.int x :: st) M) : IC I d pc pT pF (kI op a (cI 0)) := by
  intro L M w M' h
  obtain ⟨⟨x, M1⟩, h1, h⟩ := Option.bind_eq_some_iff.mp h
  obtain ⟨⟨y, M2⟩, h2, h⟩ := Option.map_eq_some_iff.mp h
  cases h
  obtain ⟨rfl, rfl⟩ := some2 h2
  obtain ⟨l1, k1⟩ := ha L M x M1 h1
  exact ⟨l1, fun G st C hs hw hr kt kf => k1 G st C hs hw hr (hop G L st M1 x C kt kf)⟩
theorem ic_eq_n {a b : DI} {off : Int} {pF : Nat} (ha : IE .int I d pc p1 a) (hb : IE .int I (d + 1) p1 p2 b) (hd : decode I.1 p2 = .ok (.if_icmp .ne off, 3)) (ht : (p2 : Int) + off = (pF : Int)) : IC I d pc (p2 + 3) pF (kI oEq a b) :=
  ic_bin ha hb fun G L st M x y C kt kf => pt_icmp_ne C hd ht (fun h => kf (by simpa [oEq] using h)) (fun h => kt (by simpa [oEq] using h))
theorem iz_eq_n {a : DI} {off : Int} {pF : Nat} (ha : IE .int I d pc p1 a) (hd : decode I.1 p1 = .ok (.ifCond .ne off, 3)) (ht : (p1 : Int) + off = (pF : Int)) : IC I d pc (p1 + 3) pF (kI oEq a (cI 0)) :=
  ic_zero ha fun G L st M x C kt kf => pt_if_ne C hd ht (fun h => kf (by simpa [oEq] using h)) (fun h => kt (by simpa [oEq] using h))
theorem ic_eq_t {a b : DI} {off : Int} {pT : Nat} (ha : IE .int I d pc p1 a) (hb : IE .int I (d + 1) p1 p2 b) (hd : decode I.1 p2 = .ok (.if_icmp .eq off, 3)) (ht : (p2 : Int) + off = (pT : Int)) : IC I d pc pT (p2 + 3) (kI oEq a b) :=
  ic_bin ha hb fun G L st M x y C kt kf => pt_icmp_eq C hd ht (fun h => kt (by simpa [oEq] using h)) (fun h => kf (by simpa [oEq] using h))
theorem iz_eq_t {a : DI} {off : Int} {pT : Nat} (ha : IE .int I d pc p1 a) (hd : decode I.1 p1 = .ok (.ifCond .eq off, 3)) (ht : (p1 : Int) + off = (pT : Int)) : IC I d pc pT (p1 + 3) (kI oEq a (cI 0)) :=
  ic_zero ha fun G L st M x C kt kf => pt_if_eq C hd ht (fun h => kt (by simpa [oEq] using h)) (fun h => kf (by simpa [oEq] using h))
theorem ic_ne_n {a b : DI} {off : Int} {pF : Nat} (ha : IE .int I d pc p1 a) (hb : IE .int I (d + 1) p1 p2 b) (hd : decode I.1 p2 = .ok (.if_icmp .eq off, 3)) (ht : (p2 : Int) + off = (pF : Int)) : IC I d pc (p2 + 3) pF (kI oNe a b) :=
  ic_bin ha hb fun G L st M x y C kt kf => pt_icmp_eq C hd ht (fun h => kf (by simpa [oNe] using h)) (fun h => kt (by simpa [oNe] using h))
theorem iz_ne_n {a : DI} {off : Int} {pF : Nat} (ha : IE .int I d pc p1 a) (hd : decode I.1 p1 = .ok (.ifCond .eq off, 3)) (ht : (p1 : Int) + off = (pF : Int)) : IC I d pc (p1 + 3) pF (kI oNe a (cI 0)) :=
  ic_zero ha fun G L st M x C kt kf => pt_if_eq C hd ht (fun h => kf (by simpa [oNe] using h)) (fun h => kt (by simpa [oNe] using h))
theorem ic_ne_t {a b : DI} {off : Int} {pT : Nat} (ha : IE .int I d pc p1 a) (hb : IE .int I (d + 1) p1 p2 b) (hd : decode I.1 p2 = .ok (.if_icmp .ne off, 3)) (ht : (p2 : Int) + off = (pT : Int)) : IC I d pc pT (p2 + 3) (kI oNe a b) :=
  ic_bin ha hb fun G L st M x y C kt kf => pt_icmp_ne C hd ht (fun h => kt (by simpa [oNe] using h)) (fun h => kf (by simpa [oNe] using h))
theorem iz_ne_t {a : DI} {off : Int} {pT : Nat} (ha : IE .int I d pc p1 a) (hd : decode I.1 p1 = .ok (.ifCond .ne off, 3)) (ht : (p1 : Int) + off = (pT : Int)) : IC I d pc pT (p1 + 3) (kI oNe a (cI 0)) :=
  ic_zero ha fun G L st M x C kt kf => pt_if_ne C hd ht (fun h => kt (by simpa [oNe] using h)) (fun h => kf (by simpa [oNe] using h))
theorem ic_lt_n {a b : DI} {off : Int} {pF : Nat} (ha : IE .int I d pc p1 a) (hb : IE .int I (d + 1) p1 p2 b) (hd : decode I.1 p2 = .ok (.if_icmp .ge off, 3)) (ht : (p2 : Int) + off = (pF : Int)) : IC I d pc (p2 + 3) pF (kI oLt a b) :=
  ic_bin ha hb fun G L st M x y C kt kf => pt_icmp_ge C hd ht (fun h => kf (by simp only [oLt, decide_eq_true_eq, decide_eq_false_iff_not, Int32.lt_iff_toInt_lt, Int32.le_iff_toInt_le] at h ⊢; omega)) (fun h => kt (by simp only [oLt, decide_eq_true_eq, decide_eq_false_iff_not, Int32.lt_iff_toInt_lt, Int32.le_iff_toInt_le] at h ⊢; omega))
theorem iz_lt_n {a : DI} {off : Int} {pF : Nat} (ha : IE .int I d pc p1 a) (hd : decode I.1 p1 = .ok (.ifCond .ge off, 3)) (ht : (p1 : Int) + off = (pF : Int)) : IC I d pc (p1 + 3) pF (kI oLt a (cI 0)) :=
  ic_zero ha fun G L st M x C kt kf => pt_if_ge C hd ht (fun h => kf (by simp only [oLt, decide_eq_true_eq, decide_eq_false_iff_not, Int32.lt_iff_toInt_lt, Int32.le_iff_toInt_le] at h ⊢; omega)) (fun h => kt (by simp only [oLt, decide_eq_true_eq, decide_eq_false_iff_not, Int32.lt_iff_toInt_lt, Int32.le_iff_toInt_le] at h ⊢; omega))
theorem ic_lt_t {a b : DI} {off : Int} {pT : Nat} (ha : IE .int I d pc p1 a) (hb : IE .int I (d + 1) p1 p2 b) (hd : decode I.1 p2 = .ok (.if_icmp .lt off, 3)) (ht : (p2 : Int) + off = (pT : Int)) : IC I d pc pT (p2 + 3) (kI oLt a b) :=
  ic_bin ha hb fun G L st M x y C kt kf => pt_icmp_lt C hd ht (fun h => kt (by simp only [oLt, decide_eq_true_eq, decide_eq_false_iff_not, Int32.lt_iff_toInt_lt, Int32.le_iff_toInt_le] at h ⊢; omega)) (fun h => kf (by simp only [oLt, decide_eq_true_eq, decide_eq_false_iff_not, Int32.lt_iff_toInt_lt, Int32.le_iff_toInt_le] at h ⊢; omega))
theorem iz_lt_t {a : DI} {off : Int} {pT : Nat} (ha : IE .int I d pc p1 a) (hd : decode I.1 p1 = .ok (.ifCond .lt off, 3)) (ht : (p1 : Int) + off = (pT : Int)) : IC I d pc pT (p1 + 3) (kI oLt a (cI 0)) :=
  ic_zero ha fun G L st M x C kt kf => pt_if_lt C hd ht (fun h => kt (by simp only [oLt, decide_eq_true_eq, decide_eq_false_iff_not, Int32.lt_iff_toInt_lt, Int32.le_iff_toInt_le] at h ⊢; omega)) (fun h => kf (by simp only [oLt, decide_eq_true_eq, decide_eq_false_iff_not, Int32.lt_iff_toInt_lt, Int32.le_iff_toInt_le] at h ⊢; omega))
theorem ic_ge_n {a b : DI} {off : Int} {pF : Nat} (ha : IE .int I d pc p1 a) (hb : IE .int I (d + 1) p1 p2 b) (hd : decode I.1 p2 = .ok (.if_icmp .lt off, 3)) (ht : (p2 : Int) + off = (pF : Int)) : IC I d pc (p2 + 3) pF (kI oGe a b) :=
  ic_bin ha hb fun G L st M x y C kt kf => pt_icmp_lt C hd ht (fun h => kf (by simp only [oGe, decide_eq_true_eq, decide_eq_false_iff_not, Int32.lt_iff_toInt_lt, Int32.le_iff_toInt_le] at h ⊢; omega)) (fun h => kt (by simp only [oGe, decide_eq_true_eq, decide_eq_false_iff_not, Int32.lt_iff_toInt_lt, Int32.le_iff_toInt_le] at h ⊢; omega))
theorem iz_ge_n {a : DI} {off : Int} {pF : Nat} (ha : IE .int I d pc p1 a) (hd : decode I.1 p1 = .ok (.ifCond .lt off, 3)) (ht : (p1 : Int) + off = (pF : Int)) : IC I d pc (p1 + 3) pF (kI oGe a (cI 0)) :=
  ic_zero ha fun G L st M x C kt kf => pt_if_lt C hd ht (fun h => kf (by simp only [oGe, decide_eq_true_eq, decide_eq_false_iff_not, Int32.lt_iff_toInt_lt, Int32.le_iff_toInt_le] at h ⊢; omega)) (fun h => kt (by simp only [oGe, decide_eq_true_eq, decide_eq_false_iff_not, Int32.lt_iff_toInt_lt, Int32.le_iff_toInt_le] at h ⊢; omega))
theorem ic_ge_t {a b : DI} {off : Int} {pT : Nat} (ha : IE .int I d pc p1 a) (hb : IE .int I (d + 1) p1 p2 b) (hd : decode I.1 p2 = .ok (.if_icmp .ge off, 3)) (ht : (p2 : Int) + off = (pT : Int)) : IC I d pc pT (p2 + 3) (kI oGe a b) :=
  ic_bin ha hb fun G L st M x y C kt kf => pt_icmp_ge C hd ht (fun h => kt (by simp only [oGe, decide_eq_true_eq, decide_eq_false_iff_not, Int32.lt_iff_toInt_lt, Int32.le_iff_toInt_le] at h ⊢; omega)) (fun h => kf (by simp only [oGe, decide_eq_true_eq, decide_eq_false_iff_not, Int32.lt_iff_toInt_lt, Int32.le_iff_toInt_le] at h ⊢; omega))
theorem iz_ge_t {a : DI} {off : Int} {pT : Nat} (ha : IE .int I d pc p1 a) (hd : decode I.1 p1 = .ok (.ifCond .ge off, 3)) (ht : (p1 : Int) + off = (pT : Int)) : IC I d pc pT (p1 + 3) (kI oGe a (cI 0)) :=
  ic_zero ha fun G L st M x C kt kf => pt_if_ge C hd ht (fun h => kt (by simp only [oGe, decide_eq_true_eq, decide_eq_false_iff_not, Int32.lt_iff_toInt_lt, Int32.le_iff_toInt_le] at h ⊢; omega)) (fun h => kf (by simp only [oGe, decide_eq_true_eq, decide_eq_false_iff_not, Int32.lt_iff_toInt_lt, Int32.le_iff_toInt_le] at h ⊢; omega))
theorem ic_gt_n {a b : DI} {off : Int} {pF : Nat} (ha : IE .int I d pc p1 a) (hb : IE .int I (d + 1) p1 p2 b) (hd : decode I.1 p2 = .ok (.if_icmp .le off, 3)) (ht : (p2 : Int) + off = (pF : Int)) : IC I d pc (p2 + 3) pF (kI oGt a b) :=
  ic_bin ha hb fun G L st M x y C kt kf => pt_icmp_le C hd ht (fun h => kf (by simp only [oGt, decide_eq_true_eq, decide_eq_false_iff_not, Int32.lt_iff_toInt_lt, Int32.le_iff_toInt_le] at h ⊢; omega)) (fun h => kt (by simp only [oGt, decide_eq_true_eq, decide_eq_false_iff_not, Int32.lt_iff_toInt_lt, Int32.le_iff_toInt_le] at h ⊢; omega))
theorem iz_gt_n {a : DI} {off : Int} {pF : Nat} (ha : IE .int I d pc p1 a) (hd : decode I.1 p1 = .ok (.ifCond .le off, 3)) (ht : (p1 : Int) + off = (pF : Int)) : IC I d pc (p1 + 3) pF (kI oGt a (cI 0)) :=
  ic_zero ha fun G L st M x C kt kf => pt_if_le C hd ht (fun h => kf (by simp only [oGt, decide_eq_true_eq, decide_eq_false_iff_not, Int32.lt_iff_toInt_lt, Int32.le_iff_toInt_le] at h ⊢; omega)) (fun h => kt (by simp only [oGt, decide_eq_true_eq, decide_eq_false_iff_not, Int32.lt_iff_toInt_lt, Int32.le_iff_toInt_le] at h ⊢; omega))
theorem ic_gt_t {a b : DI} {off : Int} {pT : Nat} (ha : IE .int I d pc p1 a) (hb : IE .int I (d + 1) p1 p2 b) (hd : decode I.1 p2 = .ok (.if_icmp .gt off, 3)) (ht : (p2 : Int) + off = (pT : Int)) : IC I d pc pT (p2 + 3) (kI oGt a b) :=
  ic_bin ha hb fun G L st M x y C kt kf => pt_icmp_gt C hd ht (fun h => kt (by simp only [oGt, decide_eq_true_eq, decide_eq_false_iff_not, Int32.lt_iff_toInt_lt, Int32.le_iff_toInt_le] at h ⊢; omega)) (fun h => kf (by simp only [oGt, decide_eq_true_eq, decide_eq_false_iff_not, Int32.lt_iff_toInt_lt, Int32.le_iff_toInt_le] at h ⊢; omega))
theorem iz_gt_t {a : DI} {off : Int} {pT : Nat} (ha : IE .int I d pc p1 a) (hd : decode I.1 p1 = .ok (.ifCond .gt off, 3)) (ht : (p1 : Int) + off = (pT : Int)) : IC I d pc pT (p1 + 3) (kI oGt a (cI 0)) :=
  ic_zero ha fun G L st M x C kt kf => pt_if_gt C hd ht (fun h => kt (by simp only [oGt, decide_eq_true_eq, decide_eq_false_iff_not, Int32.lt_iff_toInt_lt, Int32.le_iff_toInt_le] at h ⊢; omega)) (fun h => kf (by simp only [oGt, decide_eq_true_eq, decide_eq_false_iff_not, Int32.lt_iff_toInt_lt, Int32.le_iff_toInt_le] at h ⊢; omega))
theorem ic_le_n {a b : DI} {off : Int} {pF : Nat} (ha : IE .int I d pc p1 a) (hb : IE .int I (d + 1) p1 p2 b) (hd : decode I.1 p2 = .ok (.if_icmp .gt off, 3)) (ht : (p2 : Int) + off = (pF : Int)) : IC I d pc (p2 + 3) pF (kI oLe a b) :=
  ic_bin ha hb fun G L st M x y C kt kf => pt_icmp_gt C hd ht (fun h => kf (by simp only [oLe, decide_eq_true_eq, decide_eq_false_iff_not, Int32.lt_iff_toInt_lt, Int32.le_iff_toInt_le] at h ⊢; omega)) (fun h => kt (by simp only [oLe, decide_eq_true_eq, decide_eq_false_iff_not, Int32.lt_iff_toInt_lt, Int32.le_iff_toInt_le] at h ⊢; omega))
theorem iz_le_n {a : DI} {off : Int} {pF : Nat} (ha : IE .int I d pc p1 a) (hd : decode I.1 p1 = .ok (.ifCond .gt off, 3)) (ht : (p1 : Int) + off = (pF : Int)) : IC I d pc (p1 + 3) pF (kI oLe a (cI 0)) :=
  ic_zero ha fun G L st M x C kt kf => pt_if_gt C hd ht (fun h => kf (by simp only [oLe, decide_eq_true_eq, decide_eq_false_iff_not, Int32.lt_iff_toInt_lt, Int32.le_iff_toInt_le] at h ⊢; omega)) (fun h => kt (by simp only [oLe, decide_eq_true_eq, decide_eq_false_iff_not, Int32.lt_iff_toInt_lt, Int32.le_iff_toInt_le] at h ⊢; omega))
theorem ic_le_t {a b : DI} {off : Int} {pT : Nat} (ha : IE .int I d pc p1 a) (hb : IE .int I (d + 1) p1 p2 b) (hd : decode I.1 p2 = .ok (.if_icmp .le off, 3)) (ht : (p2 : Int) + off = (pT : Int)) : IC I d pc pT (p2 + 3) (kI oLe a b) :=
  ic_bin ha hb fun G L st M x y C kt kf => pt_icmp_le C hd ht (fun h => kt (by simp only [oLe, decide_eq_true_eq, decide_eq_false_iff_not, Int32.lt_iff_toInt_lt, Int32.le_iff_toInt_le] at h ⊢; omega)) (fun h => kf (by simp only [oLe, decide_eq_true_eq, decide_eq_false_iff_not, Int32.lt_iff_toInt_lt, Int32.le_iff_toInt_le] at h ⊢; omega))
theorem iz_le_t {a : DI} {off : Int} {pT : Nat} (ha : IE .int I d pc p1 a) (hd : decode I.1 p1 = .ok (.ifCond .le off, 3)) (ht : (p1 : Int) + off = (pT : Int)) : IC I d pc pT (p1 + 3) (kI oLe a (cI 0)) :=
  ic_zero ha fun G L st M x C kt kf => pt_if_le C hd ht (fun h => kt (by simp only [oLe, decide_eq_true_eq, decide_eq_false_iff_not, Int32.lt_iff_toInt_lt, Int32.le_iff_toInt_le] at h ⊢; omega)) (fun h => kf (by simp only [oLe, decide_eq_true_eq, decide_eq_false_iff_not, Int32.lt_iff_toInt_lt, Int32.le_iff_toInt_le] at h ⊢; omega))
theorem ic_jump {op : Int64 → Int64 → Bool} {pT pF : Nat} {a b : DJ} (ha : IE .long I d pc p1 a) (hb : IE .long I (d + 2) p1 p2 b) (hd : decode I.1 p2 = .ok (.lcmp, 1))
    (hop : ∀ (G : GT) (L : Lv) (st : List Value) (M : Mm) (x y : Int64), CX G I → (op x y = true → PT G pT L st M) → (op x y = false → PT G pF L st M) → PT G (p2 + 1) L (.int (lg_cmp x y) :: st) M) : IC I d pc pT pF (kJ op a b) := by
  intro L M w M' h
  obtain ⟨⟨x, M1⟩, h1, h⟩ := Option.bind_eq_some_iff.mp h
  obtain ⟨⟨y, M2⟩, h2, h⟩ := Option.map_eq_some_iff.mp h
  cases h
  obtain ⟨l1, k1⟩ := ha L M x M1 h1
  obtain ⟨l2, k2⟩ := hb L M1 y M2 h2
  exact ⟨l1.tr l2, fun G st C hs hw hr kt kf => k1 G st C hs hw (hr.dn l2) (k2 G _ C (csum_long x hs) (hw.up l1) hr (fun ls H locs hl hR hS => W.lcmp C.1 C.2.1 hd (hop G L st M2 x y C kt kf ls H locs hl hR hS)))⟩
theorem ij_gt_n {a b : DJ} {off : Int} {pF : Nat} (ha : IE .long I d pc p1 a) (hb : IE .long I (d + 2) p1 p2 b) (hd : decode I.1 p2 = .ok (.lcmp, 1)) (hd2 : decode I.1 (p2 + 1) = .ok (.ifCond .le off, 3)) (ht : ((p2 + 1 : Nat) : Int) + off = (pF : Int)) : IC I d pc (p2 + 1 + 3) pF (kJ jGt a b) :=
  ic_jump ha hb hd fun G L st M x y C kt kf => pt_if_le C hd2 ht (fun h => kf (by
    have h1 := (lg_cmp_le x y).mp h
    simp only [jGt, decide_eq_false_iff_not, Int64.lt_iff_toInt_lt, Int64.le_iff_toInt_le] at h1 ⊢
    omega)) (fun h => kt (by
    have h1 : ¬ x ≤ y := fun q => h ((lg_cmp_le x y).mpr q)
    simp only [jGt, decide_eq_true_eq, Int64.lt_iff_toInt_lt, Int64.le_iff_toInt_le] at h1 ⊢
    omega))
theorem ij_ne_n {a b : DJ} {off : Int} {pF : Nat} (ha : IE .long I d pc p1 a) (hb : IE .long I (d + 2) p1 p2 b) (hd : decode I.1 p2 = .ok (.lcmp, 1)) (hd2 : decode I.1 (p2 + 1) = .ok (.ifCond .eq off, 3)) (ht : ((p2 + 1 : Nat) : Int) + off = (pF : Int)) : IC I d pc (p2 + 1 + 3) pF (kJ jNe a b) :=
  ic_jump ha hb hd fun G L st M x y C kt kf => pt_if_eq C hd2 ht (fun h => kf (by
    have h1 := (lg_cmp_le x y).mp (by rw [h]; decide)
    have h2 := (lg_cmp_ge x y).mp (by rw [h]; decide)
    simp only [jNe, decide_eq_false_iff_not, Decidable.not_not]
    exact Int64.le_antisymm h1 h2)) (fun h => kt (by
    simp only [jNe, decide_eq_true_eq]
    exact fun e => h ((lg_cmp_eq x y).mpr e)))
theorem ic_isnull_n {e : DA} {off : Int} {pF : Nat} (he : IE va_rf I d pc p1 e) (hd : decode I.1 p1 = .ok (.ifnonnull off, 3)) (ht : (p1 : Int) + off = (pF : Int)) : IC I d pc (p1 + 3) pF (isN e) := by
  intro L M w M' h
  obtain ⟨⟨r, M1⟩, h1, h⟩ := Option.map_eq_some_iff.mp h
  cases h
  obtain ⟨l1, k1⟩ := he L M _ M1 h1
  exact ⟨l1, fun G st C hs hw hr kt kf => k1 G st C hs hw hr (pt_ifnonnull C hd ht (fun h => kf (by cases r <;> first | rfl | exact absurd rfl h)) (fun h => kt (by cases h; rfl)))⟩
theorem ic_isnull_t {e : DA} {off : Int} {pT : Nat} (he : IE va_rf I d pc p1 e) (hd : decode I.1 p1 = .ok (.ifnull off, 3)) (ht : (p1 : Int) + off = (pT : Int)) : IC I d pc pT (p1 + 3) (isN e) := by
  intro L M w M' h
  obtain ⟨⟨r, M1⟩, h1, h⟩ := Option.map_eq_some_iff.mp h
  cases h
  obtain ⟨l1, k1⟩ := he L M _ M1 h1
  exact ⟨l1, fun G st C hs hw hr kt kf => k1 G st C hs hw hr (pt_ifnull C hd ht (fun h => kt (by cases h; rfl)) (fun h => kf (by cases r <;> first | rfl | exact absurd rfl h)))⟩
theorem ic_nonnull_n {e : DA} {off : Int} {pF : Nat} (he : IE va_rf I d pc p1 e) (hd : decode I.1 p1 = .ok (.ifnull off, 3)) (ht : (p1 : Int) + off = (pF : Int)) : IC I d pc (p1 + 3) pF (notN e) := by
  intro L M w M' h
  obtain ⟨⟨r, M1⟩, h1, h⟩ := Option.map_eq_some_iff.mp h
  cases h
  obtain ⟨l1, k1⟩ := he L M _ M1 h1
  exact ⟨l1, fun G st C hs hw hr kt kf => k1 G st C hs hw hr (pt_ifnull C hd ht (fun h => kf (by cases h; rfl)) (fun h => kt (by cases r <;> first | rfl | exact absurd rfl h)))⟩
theorem ic_nonnull_t {e : DA} {off : Int} {pT : Nat} (he : IE va_rf I d pc p1 e) (hd : decode I.1 p1 = .ok (.ifnonnull off, 3)) (ht : (p1 : Int) + off = (pT : Int)) : IC I d pc pT (p1 + 3) (notN e) := by
  intro L M w M' h
  obtain ⟨⟨r, M1⟩, h1, h⟩ := Option.map_eq_some_iff.mp h
  cases h
  obtain ⟨l1, k1⟩ := he L M _ M1 h1
  exact ⟨l1, fun G st C hs hw hr kt kf => k1 G st C hs hw hr (pt_ifnonnull C hd ht (fun h => kt (by cases r <;> first | rfl | exact absurd rfl h)) (fun h => kf (by cases h; rfl)))⟩
theorem ic_acmp_n {a b : DA} {off : Int} {pF : Nat} (ha : IE va_rf I d pc p1 a) (hb : IE va_rf I (d + 1) p1 p2 b) (hd : decode I.1 p2 = .ok (.if_acmp .ne off, 3)) (ht : (p2 : Int) + off = (pF : Int)) : IC I d pc (p2 + 3) pF (eqA a b) := by
  intro L M w M' h
  obtain ⟨⟨x, M1⟩, h1, h⟩ := Option.bind_eq_some_iff.mp h
  obtain ⟨⟨y, M2⟩, h2, h⟩ := Option.bind_eq_some_iff.mp h
  split at h
  · rename_i hh
    cases h
    obtain ⟨l1, k1⟩ := ha L M x M1 h1
    obtain ⟨l2, k2⟩ := hb L M1 y M2 h2
    refine ⟨l1.tr l2, fun G st C hs hw hr kt kf => k1 G st C hs hw (hr.dn l2) (k2 G _ C (csum_rf x hs) (hw.up l1) hr (pt_acmp C (fun X a b ea eb e => ?_) hd ht (fun h => kf (by simpa using h)) (fun h => kt (by simpa using h))))⟩
    subst ea
    subst eb
    exact adr_inj X (by simpa [hiA] using hh.1) (by simpa [hiA] using hh.2) e
  · cases h
theorem ic_and {pM pT pF : Nat} {a b : DC} (ha : IC I d pc pM pF a) (hb : IC I d pM pT pF b) : IC I d pc pT pF (andC a b) := by
  intro L M w M' h
  obtain ⟨⟨r, M1⟩, h1, h⟩ := Option.bind_eq_some_iff.mp h
  obtain ⟨l1, k1⟩ := ha L M _ M1 h1
  cases r with
  | true =>
    obtain ⟨l2, k2⟩ := hb L M1 w M' h
    exact ⟨l1.tr l2, fun G st C hs hw hr kt kf => k1 G st C hs hw (hr.dn l2) (fun _ => k2 G st C hs (hw.up l1) hr kt kf) (fun q => by cases q)⟩
  | false =>
    cases h
    exact ⟨l1, fun G st C hs hw hr kt kf => k1 G st C hs hw hr (fun q => by cases q) kf⟩
theorem ic_or {pM pT pF : Nat} {a b : DC} (ha : IC I d pc pT pM a) (hb : IC I d pM pT pF b) : IC I d pc pT pF (orC a b) := by
  intro L M w M' h
  obtain ⟨⟨r, M1⟩, h1, h⟩ := Option.bind_eq_some_iff.mp h
  obtain ⟨l1, k1⟩ := ha L M _ M1 h1
  cases r with
  | true =>
    cases h
    exact ⟨l1, fun G st C hs hw hr kt kf => k1 G st C hs hw hr kt (fun q => by cases q)⟩
  | false =>
    obtain ⟨l2, k2⟩ := hb L M1 w M' h
    exact ⟨l1.tr l2, fun G st C hs hw hr kt kf => k1 G st C hs hw (hr.dn l2) (fun q => by cases q) (fun _ => k2 G st C hs (hw.up l1) hr kt kf)⟩
theorem ic_not {pT pF : Nat} {a : DC} (ha : IC I d pc pF pT a) : IC I d pc pT pF (notC a) := by
  intro L M w M' h
  obtain ⟨⟨r, M1⟩, h1, h⟩ := Option.map_eq_some_iff.mp h
  cases h
  obtain ⟨l1, k1⟩ := ha L M _ M1 h1
  exact ⟨l1, fun G st C hs hw hr kt kf => k1 G st C hs hw hr (fun q => kf (by have q : r = true := q; rw [q]; rfl)) (fun q => kt (by have q : r = false := q; rw [q]; rfl))⟩
end Conds
end
section
/-! THE CODE DOES WHAT IT MEANS, third part: arguments, calls, new cells, statements, methods -/
def MA (y : MethodName) (I : MI) (f : FN) : Prop := (∀ (as : List Value) (M : Mm) (v : Option Value) (M' : Mm), f as M = some (v, M') → LE M M') ∧ ∀ l : Launch, l.flags = flags0 → MS l y I f
section Args
variable {I J : MI} {d pc p1 p2 n : Nat}
theorem ir_nil : IR I d pc pc 0 r0 := by
  intro L M w M' h
  obtain ⟨rfl, rfl⟩ := some2 h
  exact ⟨LE.rf _, rfl, fun G st C hs hw hr k => k⟩
theorem ir_int {e : DI} {r : DR} (he : IE .int I d pc p1 e) (hrr : IR I (d + 1) p1 p2 n r) : IR I d pc p2 (n + 1) (rI e r) := by
  intro L M w M' h
  obtain ⟨⟨x, M1⟩, h1, h⟩ := Option.bind_eq_some_iff.mp h
  obtain ⟨⟨vs, M2⟩, h2, h⟩ := Option.map_eq_some_iff.mp h
  cases h
  obtain ⟨l1, k1⟩ := he L M x M1 h1
  obtain ⟨l2, n2, k2⟩ := hrr L M1 vs M2 h2
  refine ⟨l1.tr l2, by rw [List.length_cons, n2], fun G st C hs hw hr k => k1 G st C hs hw (hr.dn l2) (k2 G _ C (csum_int x hs) (hw.up l1) hr ?_)⟩
  have e : (Value.int x :: vs).reverse ++ st = vs.reverse ++ .int x :: st := by simp
  rw [← e]
  exact k
theorem ir_ref {e : DA} {r : DR} (he : IE va_rf I d pc p1 e) (hrr : IR I (d + 1) p1 p2 n r) : IR I d pc p2 (n + 1) (rA e r) := by
  intro L M w M' h
  obtain ⟨⟨x, M1⟩, h1, h⟩ := Option.bind_eq_some_iff.mp h
  obtain ⟨⟨vs, M2⟩, h2, h⟩ := Option.map_eq_some_iff.mp h
  cases h
  obtain ⟨l1, k1⟩ := he L M x M1 h1
  obtain ⟨l2, n2, k2⟩ := hrr L M1 vs M2 h2
  refine ⟨l1.tr l2, by rw [List.length_cons, n2], fun G st C hs hw hr k => k1 G st C hs hw (hr.dn l2) (k2 G _ C (csum_rf x hs) (hw.up l1) hr ?_)⟩
  have e : (va_rf x :: vs).reverse ++ st = vs.reverse ++ va_rf x :: st := by simp
  rw [← e]
  exact k
/-- the words of a call: the link's own apart -/
abbrev WC (y : MethodName) (J : MI) : Prop := Cond.initialized y.cls ∈ TG ∧ Cond.code y J.1 J.2.2.1 J.2.2.2.2.2.2 ∈ TG ∧ y.cls ≠ "java/lang/invoke/MethodHandle" ∧ y.cls ≠ "java/lang/invoke/VarHandle"
abbrev RC (I J : MI) (d : Nat) : Prop := J.2.2.2.1 + 1 ≤ I.2.2.2.1 ∧ 8 + (J.2.2.1 + 11) + J.2.2.2.2.1 ≤ I.2.2.2.2.1 ∧ d ≤ 8
/-- what a call's row asks of the heap -/
theorem iv_callS {y : MethodName} {f : FN} {r : DR} {index : Nat} (hrr : IR I d pc p1 n r) (hf : MA y J f) (hw : WC y J) (w1 : Cond.methodLink I.2.1 index y ∈ TG) (w2 : Cond.static y ∈ TG) (hn : (parseMethodDescriptor y.desc).map (fun d => d.parameters.length) = some n) (hR : RC I J d)
    (hd : decode I.1 p1 = .ok (.invokestatic index, 3)) : IV I d pc (p1 + 3) (ivS f r) := by
  intro L M w M' h
  obtain ⟨⟨vs, M1⟩, h1, h⟩ := Option.bind_eq_some_iff.mp h
  obtain ⟨l1, n1, k1⟩ := hrr L M vs M1 h1
  have l2 : LE M1 M' := hf.1 vs M1 w M' h
  exact ⟨l1.tr l2, fun G st C hs hw1 hr k => k1 G st C hs hw1 (hr.dn l2) (pt_callS C (hf.2 (gl G) C.2.2.2.2.2.2.2.2.2.2.2) h w1 w2 hw.1 hw.2.1 ⟨hw.2.2.1, hw.2.2.2, by rw [n1]; exact hn⟩ hR.1 hR.2.1 (Nat.le_trans hs hR.2.2) (hw1.up l1) hr hd k)⟩
theorem iv_callSN {y : MethodName} {f : FN} {r : DR} {index : Nat} {host : String} (hrr : IR I d pc p1 n r) (hf : MA y J f) (hw : WC y J) (w1 : Cond.methodLinkNest I.2.1 index y host ∈ NWL) (w2 : Cond.static y ∈ TG) (hn : (parseMethodDescriptor y.desc).map (fun d => d.parameters.length) = some n) (hR : RC I J d)
    (hd : decode I.1 p1 = .ok (.invokestatic index, 3)) : IV I d pc (p1 + 3) (ivS f r) := by
  intro L M w M' h
  obtain ⟨⟨vs, M1⟩, h1, h⟩ := Option.bind_eq_some_iff.mp h
  obtain ⟨l1, n1, k1⟩ := hrr L M vs M1 h1
  have l2 : LE M1 M' := hf.1 vs M1 w M' h
  exact ⟨l1.tr l2, fun G st C hs hw1 hr k => k1 G st C hs hw1 (hr.dn l2) (pt_callSN C (hf.2 (gl G) C.2.2.2.2.2.2.2.2.2.2.2) h w1 w2 hw.1 hw.2.1 ⟨hw.2.2.1, hw.2.2.2, by rw [n1]; exact hn⟩ hR.1 hR.2.1 (Nat.le_trans hs hR.2.2) (hw1.up l1) hr hd k)⟩
theorem isC_spec {ci b : Nat} {M : Mm} (h : isC ci M b = true) : ∃ fs, M.2.2 b = .inr (ci, fs) := by
  unfold isC at h
  split at h
  · rename_i c fs hM
    have : c = ci := by simpa using h
    subst this
    exact ⟨fs, hM⟩
  · cases h
theorem iv_callV {y : MethodName} {f : FN} {r : DR} {index ci N : Nat} {T : u_T} (hrr : IR I d pc p1 (n + 1) r) (hf : MA y J f) (hw : WC y J) (hc : vwCl[ci]? = some (y.cls, T, N)) (w1 : Cond.methodLink I.2.1 index y ∈ TG) (w2 : Cond.instanceMethod y ∈ TG) (w3 : Cond.selects y.cls y y ∈ TG) (hn : (parseMethodDescriptor y.desc).map (fun d => d.parameters.length) = some n) (hR : RC I J d)
    (hd : decode I.1 p1 = .ok (.invokevirtual index, 3)) : IV I d pc (p1 + 3) (ivV ci f r) := by
  intro L M w M' h
  obtain ⟨⟨vs, M1⟩, h1, h⟩ := Option.bind_eq_some_iff.mp h
  obtain ⟨l1, n1, k1⟩ := hrr L M vs M1 h1
  dsimp only at h
  split at h
  · rename_i b as
    split at h
    · rename_i hb
      obtain ⟨fs, hM⟩ := isC_spec hb
      have l2 : LE M1 M' := hf.1 _ M1 w M' h
      have n2 : as.length = n := by simpa using n1
      exact ⟨l1.tr l2, fun G st C hs hw1 hr k => k1 G st C hs hw1 (hr.dn l2) (pt_callV C (hf.2 (gl G) C.2.2.2.2.2.2.2.2.2.2.2) h hM hc w1 w2 w3 hw.1 hw.2.1 ⟨hw.2.2.1, hw.2.2.2, by rw [n2]; exact hn⟩ hR.1 hR.2.1 (Nat.le_trans hs hR.2.2) (hw1.up l1) hr hd k)⟩
    · cases h
  · cases h
/-- what a new object's row asks of its class -/
abbrev NW (ci : Nat) (Cn : String) (T : u_T) (N : Nat) (fs : List Value) : Prop := FW ci Cn T N ∧ (∃ ty0 : Nat → FieldType, (∀ k, k < N → parseFieldDescriptor (T k).2.2.1 = some (ty0 k)) ∧ ∀ j, j < N → defaultValue (ty0 j) = vp_V fs j) ∧ (∀ X : GF, fs.map (up X) = fs) ∧ Cond.instantiable Cn N ∈ TG ∧ Cond.initialized Cn ∈ TG
theorem new_le {M : Mm} {k : Nat} {c : MC} : LE M (newC M k c) := ⟨Nat.le_succ _, Nat.le_add_right _ _⟩
theorem ia_newO {y : MethodName} {f : FN} {r : DR} {index i2 ci N : Nat} {Cn : String} {T : u_T} {fs : List Value} (hN : NW ci Cn T N fs) (w0 : Cond.classLink I.2.1 index Cn ∈ TG) (hd : decode I.1 pc = .ok (.new index, 3)) (hd2 : decode I.1 (pc + 3) = .ok (.dup, 1))
    (hrr : IR I (d + 2) (pc + 4) p1 n r) (hf : MA y J f) (hy : y.name = "<init>") (hret : J.2.2.2.2.2.2 = none) (hw : WC y J) (w1 : Cond.methodLink I.2.1 i2 y ∈ TG ∨ ∃ host, Cond.methodLinkNest I.2.1 i2 y host ∈ NWL) (w2 : Cond.instanceMethod y ∈ TG) (hn : (parseMethodDescriptor y.desc).map (fun d => d.parameters.length) = some n) (hR : RC I J (d + 1))
    (hd3 : decode I.1 p1 = .ok (.invokespecial i2, 3)) : IE va_rf I d pc (p1 + 3) (newO ci N fs f r) := by
  intro L M w M' h
  obtain ⟨⟨vs, M1⟩, h1, h⟩ := Option.bind_eq_some_iff.mp h
  obtain ⟨⟨o, M2⟩, h2, h⟩ := Option.bind_eq_some_iff.mp h
  obtain ⟨l1, n1, k1⟩ := hrr L _ vs M1 h1
  have l2 : LE M1 M2 := hf.1 _ M1 _ M2 h2
  dsimp only at h
  split at h
  · rename_i ho
    cases h
    refine ⟨new_le.tr (l1.tr l2), fun G st C hs hw1 hr k => ?_⟩
    obtain ⟨⟨hc, hin⟩, ⟨ty0, hty, hfs⟩, hup, q1, q2⟩ := hN
    have hr1 : RM G (newC M N (.inr (ci, fs))) := hr.dn (l1.tr l2)
    refine pt_new C hc hin ty0 hty hfs hup w0 q1 q2 hw1 ⟨hr1.1, hr1.2⟩ hd ?_
    refine pt_dup C hd2 rfl ?_
    refine k1 G _ C (by have := csum_ref M.1 (csum_ref M.1 hs); omega) (hw1.up new_le) (hr.dn l2) ?_
    have e : vs.reverse ++ Value.ref M.1 :: Value.ref M.1 :: st = (Value.ref M.1 :: vs).reverse ++ .ref M.1 :: st := by simp
    rw [e]
    have hwc : Cond.code y J.1 J.2.2.1 none ∈ TG := by have := hw.2.1; rw [hret] at this; exact this
    have hcs : csum (Value.ref M.1 :: st) ≤ 8 := Nat.le_trans (csum_ref M.1 hs) hR.2.2
    rcases w1 with w1 | ⟨host, w1⟩
    · exact pt_callI C hy hret (hf.2 (gl G) C.2.2.2.2.2.2.2.2.2.2.2) h2 w1 w2 hw.1 hwc ⟨hw.2.2.1, hw.2.2.2, by rw [n1]; exact hn⟩ hR.1 hR.2.1 hcs (hw1.up (new_le.tr l1)) hr hd3 k
    · exact pt_callIN C hy hret (hf.2 (gl G) C.2.2.2.2.2.2.2.2.2.2.2) h2 w1 w2 hw.1 hwc ⟨hw.2.2.1, hw.2.2.2, by rw [n1]; exact hn⟩ hR.1 hR.2.1 hcs (hw1.up (new_le.tr l1)) hr hd3 k
  · cases h
theorem cl_of {x : Int32} (h : 0 ≤ x.toInt ∧ x.toInt ≤ 100000) : ¬ x < 0 ∧ x.toNatClampNeg ≤ 100000 := by
  refine ⟨fun q => ?_, ?_⟩
  · rw [Int32.lt_iff_toInt_lt, Int32.toInt_zero] at q
    omega
  · have : (x.toNatClampNeg : Int) = x.toInt := by
      show ((x.toInt.toNat : Nat) : Int) = x.toInt
      omega
    omega
theorem ia_newI {t : Nat} {atype : ArrayType} {e : DI} (he : IE .int I d pc p1 e) (ht : t ≤ 1) (hat : newarray.typeOf atype = atT t) (w1 : Cond.arrayClass (atT t) ∈ TG) (hd : decode I.1 p1 = .ok (.newarray atype, 2)) : IE va_rf I d pc (p1 + 2) (newI t e) := by
  intro L M w M' h
  obtain ⟨⟨x, M1⟩, h1, h⟩ := Option.bind_eq_some_iff.mp h
  dsimp only at h
  split at h
  · rename_i hx
    cases h
    obtain ⟨l1, k1⟩ := he L M x M1 h1
    obtain ⟨x1, x2⟩ := cl_of hx
    exact ⟨l1.tr new_le, fun G st C hs hw hr k => k1 G st C hs hw (hr.dn new_le) (pt_newa C (t := t) (by omega) hat w1 x1 rfl x2 (fun X cA => by rcases (show t = 0 ∨ t = 1 by omega) with rfl | rfl <;> rfl) (hw.up l1) hr hd k)⟩
  · cases h
theorem ia_newJ {e : DI} (he : IE .int I d pc p1 e) (w1 : Cond.arrayClass .long ∈ TG) (hd : decode I.1 p1 = .ok (.newarray .long, 2)) : IE va_rf I d pc (p1 + 2) (newJ e) := by
  intro L M w M' h
  obtain ⟨⟨x, M1⟩, h1, h⟩ := Option.bind_eq_some_iff.mp h
  dsimp only at h
  split at h
  · rename_i hx
    cases h
    obtain ⟨l1, k1⟩ := he L M x M1 h1
    obtain ⟨x1, x2⟩ := cl_of hx
    exact ⟨l1.tr new_le, fun G st C hs hw hr k => k1 G st C hs hw (hr.dn new_le) (pt_newa C (t := 2) (by omega) rfl w1 x1 rfl x2 (fun X cA => rfl) (hw.up l1) hr hd k)⟩
  · cases h
theorem ia_newA {t index : Nat} {Cn : String} {e : DI} (he : IE .int I d pc p1 e) (ht : 3 ≤ t ∧ t ≤ 5) (hat : atT t = .object Cn) (w1 : Cond.classLink I.2.1 index Cn ∈ TG) (w2 : Cond.arrayOver (.object Cn) ∈ TG) (hd : decode I.1 p1 = .ok (.anewarray index, 3)) : IE va_rf I d pc (p1 + 3) (newA t e) := by
  intro L M w M' h
  obtain ⟨⟨x, M1⟩, h1, h⟩ := Option.bind_eq_some_iff.mp h
  dsimp only at h
  split at h
  · rename_i hx
    cases h
    obtain ⟨l1, k1⟩ := he L M x M1 h1
    obtain ⟨x1, x2⟩ := cl_of hx
    exact ⟨l1.tr new_le, fun G st C hs hw hr k => k1 G st C hs hw (hr.dn new_le) (pt_anew C ht hat w1 w2 x1 rfl x2 (hw.up l1) hr hd k)⟩
  · cases h
theorem wrI_spec {t a : Nat} {i x : Int32} {M M' : Mm} (h : wrI t a i x M = some M') : ∃ n f, M.2.2 a = .inl (t, n, .inl f) ∧ vp_in i n ∧ 5 ≤ a ∧ M' = setC M a (.inl (t, n, .inl (upd f i.toNatClampNeg x))) := by
  unfold wrI at h
  split at h
  · rename_i t' n f hM
    split at h
    · rename_i hc
      obtain ⟨rfl, hc, h5⟩ := hc
      cases h
      exact ⟨n, f, hM, inb_in hc, h5, rfl⟩
    · cases h
  · cases h
theorem wrA_spec {t a : Nat} {i : Int32} {x : Option Nat} {M M' : Mm} (h : wrA t a i x M = some M') : ∃ n f, M.2.2 a = .inl (t, n, .inr (.inr (.inr (.inr f)))) ∧ vp_in i n ∧ 5 ≤ a ∧ isE t M x = true ∧ M' = setC M a (.inl (t, n, .inr (.inr (.inr (.inr (va_up f i.toNatClampNeg x)))))) := by
  unfold wrA at h
  split at h
  · rename_i t' n f hM
    split at h
    · rename_i hc
      obtain ⟨rfl, hc, h5, h6⟩ := hc
      cases h
      exact ⟨n, f, hM, inb_in hc, h5, h6, rfl⟩
    · cases h
  · cases h
theorem wrF_spec {ci k a : Nat} {v : Value} {M M' : Mm} (h : wrF ci k a v M = some M') : ∃ fs, M.2.2 a = .inr (ci, fs) ∧ k < fs.length ∧ M' = setC M a (.inr (ci, fs.set k v)) := by
  unfold wrF at h
  split at h
  · rename_i c fs hM
    split at h
    · rename_i hc
      obtain ⟨rfl, hc⟩ := hc
      cases h
      exact ⟨fs, hM, hc, rfl⟩
    · cases h
  · cases h
theorem set_le {M : Mm} {a : Nat} {c : MC} : LE M (setC M a c) := ⟨Nat.le_refl _, Nat.le_refl _⟩
/-- one place of an array written out -/
def litE (e : DA) (i v : DI) : DA := fun L M => (e L M).bind fun q => q.1.bind fun a => (i L q.2).bind fun j => (v L j.2).bind fun x => (wrI 0 a j.1 x.1 x.2).map fun M2 => (some a, M2)
theorem ia_lit {p3 : Nat} {e : DA} {i v : DI} (he : IE va_rf I d pc p1 e) (hd : decode I.1 p1 = .ok (.dup, 1)) (hi : IE .int I (d + 2) (p1 + 1) p2 i) (hv : IE .int I (d + 3) p2 p3 v) (hd2 : decode I.1 p3 = .ok (.iastore, 1)) : IE va_rf I d pc (p3 + 1) (litE e i v) := by
  intro L M w M' h
  obtain ⟨⟨r, M1⟩, h1, h⟩ := Option.bind_eq_some_iff.mp h
  obtain ⟨a, h2, h⟩ := Option.bind_eq_some_iff.mp h
  obtain ⟨⟨j, M2⟩, h3, h⟩ := Option.bind_eq_some_iff.mp h
  obtain ⟨⟨x, M3⟩, h4, h⟩ := Option.bind_eq_some_iff.mp h
  obtain ⟨M4, h5, h6⟩ := Option.map_eq_some_iff.mp h
  cases h6
  have h2 : r = some a := h2
  subst h2
  obtain ⟨l1, k1⟩ := he L M _ M1 h1
  obtain ⟨l2, k2⟩ := hi L M1 _ M2 h3
  obtain ⟨l3, k3⟩ := hv L M2 _ M3 h4
  obtain ⟨n, f, hM, hin, ha5, rfl⟩ := wrI_spec h5
  refine ⟨l1.tr (l2.tr (l3.tr set_le)), fun G st C hs hw hr k => ?_⟩
  have c2 := csum_rf (some a) (csum_rf (some a) hs)
  exact k1 G st C hs hw (hr.dn (l2.tr (l3.tr set_le))) (pt_dup C hd rfl (k2 G _ C (by omega) (hw.up l1) (hr.dn (l3.tr set_le)) (k3 G _ C (csum_int j (by omega)) (hw.up (l1.tr l2)) (hr.dn set_le) (pt_iast C hM ha5 hin hd2 k))))
theorem ia_clone {e : DA} {index i2 : Nat} (he : IE va_rf I d pc p1 e) (w1 : Cond.methodLink I.2.1 index ⟨"[I", "clone", "()Ljava/lang/Object;"⟩ ∈ TG) (w2 : Cond.sameMethod "[I" "java/lang/Object" "clone" "()Ljava/lang/Object;" ∈ TG)
    (w3 : Cond.native ⟨"java/lang/Object", "clone", "()Ljava/lang/Object;"⟩ ∈ TG) (w4 : Cond.instanceMethod ⟨"java/lang/Object", "clone", "()Ljava/lang/Object;"⟩ ∈ TG) (w5 : Cond.selects "[I" ⟨"[I", "clone", "()Ljava/lang/Object;"⟩ ⟨"java/lang/Object", "clone", "()Ljava/lang/Object;"⟩ ∈ TG) (w6 : Cond.castable "[I" "java/lang/Cloneable" ∈ NWL)
    (w7 : Cond.classLink I.2.1 i2 "[I" ∈ TG) (hfr : 1 ≤ I.2.2.2.1) (hlo : d + 14 ≤ I.2.2.2.2.1) (hd : decode I.1 p1 = .ok (.invokevirtual index, 3)) (hd2 : decode I.1 (p1 + 3) = .ok (.checkcast i2, 3)) : IE va_rf I d pc (p1 + 3 + 3) (cloI e) := by
  intro L M w M' h
  obtain ⟨⟨r, M1⟩, h1, h⟩ := Option.bind_eq_some_iff.mp h
  obtain ⟨a, h2, h⟩ := Option.bind_eq_some_iff.mp h
  have h2 : r = some a := h2
  subst h2
  dsimp only at h
  split at h
  · rename_i n f hM
    split at h
    · rename_i h5
      cases h
      obtain ⟨l1, k1⟩ := he L M _ M1 h1
      refine ⟨l1.tr new_le, fun G st C hs hw hr k => k1 G st C hs hw (hr.dn new_le) ?_⟩
      refine pt_clone C hM h5 w1 w2 w3 w4 w5 w6 hfr (Nat.le_trans (Nat.add_le_add_right hs 14) hlo) (hw.up l1) hr hd ?_
      intro ls H locs hl hR hS
      exact pt_castA C (a := M1.1) (n := n) (f := f) (show (if M1.1 = M1.1 then _ else _) = _ from if_pos rfl) (by have : 5 ≤ M1.1 + 1 := hR.1.1; have h8 := hR.ltA (a := a) (t := 0) (x := (n, .inl f)) (show (if a = M1.1 then _ else M1.2.2 a) = _ by split <;> first | rfl | exact hM); have h9 : a < M1.1 + 1 := h8; omega) w7 hd2 k ls H locs hl hR hS
    · cases h
  · cases h
end Args
end
section
/-! THE CODE DOES WHAT IT MEANS, last part: statements, methods -/
theorem PT.weak {G : GT} {pc : Nat} {L1 L2 : Lv} {st : List Value} {M : Mm} (h : ∀ (i : Nat) (v : Value), L2[i]? = some (some v) → L1[i]? = some (some v)) (k : PT G pc L2 st M) : PT G pc L1 st M :=
  fun ls H locs hl hR hS => k ls H locs ⟨hl.1, hl.2.1, fun i v q => hl.2.2 i v (h i v q)⟩ hR hS
theorem clr_get {k i : Nat} {L : Lv} {v : Value} (h : (clr k L)[i]? = some (some v)) : L[i]? = some (some v) := by
  unfold clr at h
  by_cases hi : i < (L.take k).length
  · rw [List.getElem?_append_left hi] at h
    rw [List.getElem?_take] at h
    split at h
    · exact h
    · cases h
  · rw [List.getElem?_append_right (by omega)] at h
    have := List.getElem?_eq_some_iff.mp h
    obtain ⟨h1, h2⟩ := this
    rw [List.getElem_replicate] at h2
    cases h2
section Stms
variable {I J : MI} {pc p1 p2 p3 tN tB tC : Nat}
theorem csum0 : csum [] ≤ 0 := Nat.le_refl _
theorem is_nop (hj : Jp I pc tN) : IS I pc tN tB tC nop := by
  intro L M L' M' c v h
  cases h
  exact ⟨LE.rf _, fun G C hw hr k0 _ _ _ => hj.pt C (k0 rfl)⟩
theorem is_brk (hj : Jp I pc tB) : IS I pc tN tB tC brk := by
  intro L M L' M' c v h
  cases h
  exact ⟨LE.rf _, fun G C hw hr _ k1 _ _ => hj.pt C (k1 rfl)⟩
theorem is_cnt (hj : Jp I pc tC) : IS I pc tN tB tC cnt := by
  intro L M L' M' c v h
  cases h
  exact ⟨LE.rf _, fun G C hw hr _ _ k2 _ => hj.pt C (k2 rfl)⟩
theorem is_thr : IS I pc tN tB tC thr := by
  intro L M L' M' c v h
  cases h
theorem is_seq {pm : Nat} {a b : DS} (ha : IS I pc pm tB tC a) (hb : IS I pm tN tB tC b) : IS I pc tN tB tC (seqS a b) := by
  intro L M L' M' c v h
  obtain ⟨⟨L1, M1, c1, v1⟩, h1, h⟩ := Option.bind_eq_some_iff.mp h
  obtain ⟨l1, k1⟩ := ha L M L1 M1 c1 v1 h1
  dsimp only at h
  split at h
  · rename_i hc
    subst hc
    obtain ⟨l2, k2⟩ := hb L1 M1 L' M' c v h
    exact ⟨l1.tr l2, fun G C hw hr q0 q1 q2 q3 => k1 G C hw (hr.dn l2) (fun _ => k2 G C (hw.up l1) hr q0 q1 q2 q3) (fun z => by cases z) (fun z => by cases z) (fun z => by cases z)⟩
  · rename_i hc
    cases h
    exact ⟨l1, fun G C hw hr q0 q1 q2 q3 => k1 G C hw hr (fun z => absurd z hc) q1 q2 q3⟩
theorem is_setI_n {q : Fin 4} {i : Nat} {e : DI} (he : IE .int I 0 pc p1 e) (hd : decode I.1 p1 = .ok (.istore_n q, 1)) (hi : (q : Nat) = i) (hn : i < I.2.2.1) (hj : Jp I (p1 + 1) tN) : IS I pc tN tB tC (setI i e) := by
  intro L M L' M' c v h
  obtain ⟨⟨x, M1⟩, h1, h⟩ := Option.map_eq_some_iff.mp h
  cases h
  obtain ⟨l1, k1⟩ := he L M _ _ h1
  exact ⟨l1, fun G C hw hr q0 _ _ _ => k1 G [] C csum0 hw hr (pt_istore_n C hd hi hn (hj.pt C (q0 rfl)))⟩
theorem is_setI {i : Nat} {e : DI} (he : IE .int I 0 pc p1 e) (hd : decode I.1 p1 = .ok (.istore i, 2)) (hn : i < I.2.2.1) (hj : Jp I (p1 + 2) tN) : IS I pc tN tB tC (setI i e) := by
  intro L M L' M' c v h
  obtain ⟨⟨x, M1⟩, h1, h⟩ := Option.map_eq_some_iff.mp h
  cases h
  obtain ⟨l1, k1⟩ := he L M _ _ h1
  exact ⟨l1, fun G C hw hr q0 _ _ _ => k1 G [] C csum0 hw hr (pt_istore C hd hn (hj.pt C (q0 rfl)))⟩
theorem is_setJ {i : Nat} {e : DJ} (he : IE .long I 0 pc p1 e) (hd : decode I.1 p1 = .ok (.lstore i, 2)) (hn : i + 1 < I.2.2.1) (hj : Jp I (p1 + 2) tN) : IS I pc tN tB tC (setJ i e) := by
  intro L M L' M' c v h
  obtain ⟨⟨x, M1⟩, h1, h⟩ := Option.map_eq_some_iff.mp h
  cases h
  obtain ⟨l1, k1⟩ := he L M _ _ h1
  exact ⟨l1, fun G C hw hr q0 _ _ _ => k1 G [] C csum0 hw hr (pt_lstore C hd hn (hj.pt C (q0 rfl)))⟩
theorem is_setA_n {q : Fin 4} {i : Nat} {e : DA} (he : IE va_rf I 0 pc p1 e) (hd : decode I.1 p1 = .ok (.astore_n q, 1)) (hi : (q : Nat) = i) (hn : i < I.2.2.1) (hj : Jp I (p1 + 1) tN) : IS I pc tN tB tC (setA i e) := by
  intro L M L' M' c v h
  obtain ⟨⟨x, M1⟩, h1, h⟩ := Option.map_eq_some_iff.mp h
  cases h
  obtain ⟨l1, k1⟩ := he L M _ _ h1
  exact ⟨l1, fun G C hw hr q0 _ _ _ => k1 G [] C csum0 hw hr (pt_astore_n C hd hi hn (hj.pt C (q0 rfl)))⟩
theorem is_setA {i : Nat} {e : DA} (he : IE va_rf I 0 pc p1 e) (hd : decode I.1 p1 = .ok (.astore i, 2)) (hn : i < I.2.2.1) (hj : Jp I (p1 + 2) tN) : IS I pc tN tB tC (setA i e) := by
  intro L M L' M' c v h
  obtain ⟨⟨x, M1⟩, h1, h⟩ := Option.map_eq_some_iff.mp h
  cases h
  obtain ⟨l1, k1⟩ := he L M _ _ h1
  exact ⟨l1, fun G C hw hr q0 _ _ _ => k1 G [] C csum0 hw hr (pt_astore C hd hn (hj.pt C (q0 rfl)))⟩
theorem is_inc {i : Nat} {n : Int} {w : Int32} (hd : decode I.1 pc = .ok (.iinc i n, 3)) (hw0 : Int32.ofInt n = w) (hn : i < I.2.2.1) (hj : Jp I (pc + 3) tN) : IS I pc tN tB tC (incI i w) := by
  intro L M L' M' c v h
  obtain ⟨o, h1, h⟩ := Option.bind_eq_some_iff.mp h
  obtain ⟨u, rfl, h⟩ := Option.bind_eq_some_iff.mp h
  obtain ⟨x, h2, h3⟩ := Option.map_eq_some_iff.mp h
  cases h3
  rw [asI_i h2] at h1
  exact ⟨LE.rf _, fun G C hw hr q0 _ _ _ => pt_iinc C hd h1 (by rw [hw0]) hn (hj.pt C (q0 rfl))⟩
/-- what a store into a field asks of its class -/
abbrev PW (Cn : String) (T : u_T) (N : Nat) : Prop := ∃ ty0 : Nat → FieldType, (∀ k, k < N → parseFieldDescriptor (T k).2.2.1 = some (ty0 k)) ∧ ∀ a, a < N → ∀ b, b < N → a ≠ b → (T a).2.1 ≠ (T b).2.1
abbrev PF (I : MI) (T : u_T) (k : Nat) : Prop := (T k).2.2.2 = false ∨ ((T k).2.2.2 = true ∧ I.2.2.2.2.2.1 = "<init>" ∧ (T k).1 = I.2.1)
theorem rf_arr (t : FieldType) (X : GF) (r : Option Nat) : narrow (.array t) (up X (va_rf r)) = up X (va_rf r) ∧ fits (.array t) (up X (va_rf r)) = true := by cases r <;> exact ⟨rfl, rfl⟩
theorem rf_obj (t : String) (X : GF) (r : Option Nat) : narrow (.object t) (up X (va_rf r)) = up X (va_rf r) ∧ fits (.object t) (up X (va_rf r)) = true := by cases r <;> exact ⟨rfl, rfl⟩
theorem pt_putX {G : GT} {L : Lv} {st : List Value} {M : Mm} (C : CX G I) {a ci k index N : Nat} {fs : List Value} {v : Value} {Cn : String} {T : u_T} {ty : FieldType} (hM : M.2.2 a = .inr (ci, fs)) (hl : k < fs.length) (hF : FW ci Cn T N) (hP : PW Cn T N) (hk : k < N) (hf : PF I T k) (hw : Cond.fieldLink I.2.1 index (T k).1 (T k).2.1 (T k).2.2.1 ∈ TG)
    (hty1 : parseFieldDescriptor (T k).2.2.1 = some ty) (hn : ∀ X : GF, narrow ty (up X v) = up X v ∧ fits ty (up X v) = true) (hd : decode I.1 pc = .ok (.putfield index, 3)) (kk : PT G (pc + 3) L st (setC M a (.inr (ci, fs.set k v)))) : PT G pc L (v :: .ref a :: st) M := by
  obtain ⟨ty0, hty, hnm⟩ := hP
  rcases hf with hf | ⟨hf, h1, h2⟩
  · exact pt_put C hM hl hF.1 hk hF.2 ty0 hty hnm hw hf hty1 hn hd kk
  · exact pt_putF C hM hl hF.1 hk hF.2 ty0 hty hnm hw hf h1 h2 hty1 hn hd kk
theorem is_pfI {ci k index N : Nat} {Cn : String} {T : u_T} {o : DA} {e : DI} (ho : IE va_rf I 0 pc p1 o) (he : IE .int I 1 p1 p2 e) (hF : FW ci Cn T N) (hP : PW Cn T N) (hk : k < N) (hf : PF I T k) (hw : Cond.fieldLink I.2.1 index (T k).1 (T k).2.1 (T k).2.2.1 ∈ TG) (hty : parseFieldDescriptor (T k).2.2.1 = some .int)
    (hd : decode I.1 p2 = .ok (.putfield index, 3)) (hj : Jp I (p2 + 3) tN) : IS I pc tN tB tC (pfI ci k o e) := by
  intro L M L' M' c v h
  obtain ⟨⟨r, M1⟩, h1, h⟩ := Option.bind_eq_some_iff.mp h
  obtain ⟨a, h2, h⟩ := Option.bind_eq_some_iff.mp h
  obtain ⟨⟨x, M2⟩, h3, h⟩ := Option.bind_eq_some_iff.mp h
  obtain ⟨M3, h4, h5⟩ := Option.map_eq_some_iff.mp h
  cases h5
  have h2 : r = some a := h2
  subst h2
  obtain ⟨fs, hM, hl, rfl⟩ := wrF_spec h4
  obtain ⟨l1, k1⟩ := ho L M _ M1 h1
  obtain ⟨l2, k2⟩ := he L M1 _ M2 h3
  exact ⟨l1.tr (l2.tr set_le), fun G C hw1 hr q0 _ _ _ => k1 G [] C csum0 hw1 (hr.dn (l2.tr set_le)) (k2 G _ C (csum_rf _ csum0) (hw1.up l1) (hr.dn set_le) (pt_putX C hM hl hF hP hk hf hw hty (fun X => ⟨rfl, rfl⟩) hd (hj.pt C (q0 rfl))))⟩
theorem is_pfA {ci k index N : Nat} {Cn : String} {T : u_T} {ty : FieldType} {o e : DA} (ho : IE va_rf I 0 pc p1 o) (he : IE va_rf I 1 p1 p2 e) (hF : FW ci Cn T N) (hP : PW Cn T N) (hk : k < N) (hf : PF I T k) (hw : Cond.fieldLink I.2.1 index (T k).1 (T k).2.1 (T k).2.2.1 ∈ TG) (hty : parseFieldDescriptor (T k).2.2.1 = some ty) (hn : ∀ (X : GF) (r : Option Nat), narrow ty (up X (va_rf r)) = up X (va_rf r) ∧ fits ty (up X (va_rf r)) = true)
    (hd : decode I.1 p2 = .ok (.putfield index, 3)) (hj : Jp I (p2 + 3) tN) : IS I pc tN tB tC (pfA ci k o e) := by
  intro L M L' M' c v h
  obtain ⟨⟨r, M1⟩, h1, h⟩ := Option.bind_eq_some_iff.mp h
  obtain ⟨a, h2, h⟩ := Option.bind_eq_some_iff.mp h
  obtain ⟨⟨x, M2⟩, h3, h⟩ := Option.bind_eq_some_iff.mp h
  obtain ⟨M3, h4, h5⟩ := Option.map_eq_some_iff.mp h
  cases h5
  have h2 : r = some a := h2
  subst h2
  obtain ⟨fs, hM, hl, rfl⟩ := wrF_spec h4
  obtain ⟨l1, k1⟩ := ho L M _ M1 h1
  obtain ⟨l2, k2⟩ := he L M1 _ M2 h3
  exact ⟨l1.tr (l2.tr set_le), fun G C hw1 hr q0 _ _ _ => k1 G [] C csum0 hw1 (hr.dn (l2.tr set_le)) (k2 G _ C (csum_rf _ csum0) (hw1.up l1) (hr.dn set_le) (pt_putX C hM hl hF hP hk hf hw hty (fun X => hn X x) hd (hj.pt C (q0 rfl))))⟩
/-- o.f op= e, with op one instruction -/
theorem is_upF {ci k index i2 N : Nat} {Cn : String} {T : u_T} {op : Int32 → Int32 → Option Int32} {o : DA} {e : DI} (ho : IE va_rf I 0 pc p1 o) (hd1 : decode I.1 p1 = .ok (.dup, 1)) (hd2 : decode I.1 (p1 + 1) = .ok (.getfield i2, 3)) (he : IE .int I 2 (p1 + 4) p2 e) (hF : FW ci Cn T N) (hP : PW Cn T N) (hk : k < N) (hf : PF I T k) (hw2 : Cond.fieldLink I.2.1 i2 (T k).1 (T k).2.1 (T k).2.2.1 ∈ TG) (hw : Cond.fieldLink I.2.1 index (T k).1 (T k).2.1 (T k).2.2.1 ∈ TG) (hty : parseFieldDescriptor (T k).2.2.1 = some .int)
    (hop : ∀ (G : GT) (L : Lv) (st : List Value) (M : Mm) (x y z : Int32), CX G I → op x y = some z → PT G (p2 + 1) L (.int z :: st) M → PT G p2 L (.int y :: .int x :: st) M)
    (hd : decode I.1 (p2 + 1) = .ok (.putfield index, 3)) (hj : Jp I (p2 + 1 + 3) tN) : IS I pc tN tB tC (upF ci k o op e) := by
  intro L M L' M' c v h
  obtain ⟨⟨r, M1⟩, h1, h⟩ := Option.bind_eq_some_iff.mp h
  obtain ⟨a, h2, h⟩ := Option.bind_eq_some_iff.mp h
  obtain ⟨u, h3, h⟩ := Option.bind_eq_some_iff.mp h
  obtain ⟨x, h4, h⟩ := Option.bind_eq_some_iff.mp h
  obtain ⟨⟨y, M2⟩, h5, h⟩ := Option.bind_eq_some_iff.mp h
  obtain ⟨z, h6, h⟩ := Option.bind_eq_some_iff.mp h
  obtain ⟨M3, h7, h8⟩ := Option.map_eq_some_iff.mp h
  cases h8
  have h2 : r = some a := h2
  subst h2
  rw [asI_i h4] at h3
  obtain ⟨fs0, hM0, hv0⟩ := rdF_spec h3
  obtain ⟨fs, hM, hl, rfl⟩ := wrF_spec h7
  obtain ⟨l1, k1⟩ := ho L M _ M1 h1
  obtain ⟨l2, k2⟩ := he L M1 _ M2 h5
  refine ⟨l1.tr (l2.tr set_le), fun G C hw1 hr q0 _ _ _ => k1 G [] C csum0 hw1 (hr.dn (l2.tr set_le)) ?_⟩
  refine pt_dup C hd1 rfl ?_
  refine pt_get C hM0 hv0 hF.1 hk hF.2 hw2 hd2 ?_
  refine k2 G _ C (csum_int x (csum_rf (some a) csum0)) (hw1.up l1) (hr.dn set_le) ?_
  exact hop G L _ M2 x y z C h6 (pt_putX C hM hl hF hP hk hf hw hty (fun X => ⟨rfl, rfl⟩) hd (hj.pt C (q0 rfl)))
theorem is_paI {o : DA} {i e : DI} (ho : IE va_rf I 0 pc p1 o) (hi : IE .int I 1 p1 p2 i) (he : IE .int I 2 p2 p3 e) (hd : decode I.1 p3 = .ok (.iastore, 1)) (hj : Jp I (p3 + 1) tN) : IS I pc tN tB tC (paI 0 o i e) := by
  intro L M L' M' c v h
  obtain ⟨⟨r, M1⟩, h1, h⟩ := Option.bind_eq_some_iff.mp h
  obtain ⟨a, h2, h⟩ := Option.bind_eq_some_iff.mp h
  obtain ⟨⟨j, M2⟩, h3, h⟩ := Option.bind_eq_some_iff.mp h
  obtain ⟨⟨x, M3⟩, h4, h⟩ := Option.bind_eq_some_iff.mp h
  dsimp only at h
  rw [if_pos (Or.inl rfl)] at h
  obtain ⟨M4, h5, h6⟩ := Option.map_eq_some_iff.mp h
  cases h6
  have h2 : r = some a := h2
  subst h2
  obtain ⟨n, f, hM, hin, h5a, rfl⟩ := wrI_spec h5
  obtain ⟨l1, k1⟩ := ho L M _ M1 h1
  obtain ⟨l2, k2⟩ := hi L M1 _ M2 h3
  obtain ⟨l3, k3⟩ := he L M2 _ M3 h4
  exact ⟨l1.tr (l2.tr (l3.tr set_le)), fun G C hw1 hr q0 _ _ _ => k1 G [] C csum0 hw1 (hr.dn (l2.tr (l3.tr set_le))) (k2 G _ C (csum_rf _ csum0) (hw1.up l1) (hr.dn (l3.tr set_le)) (k3 G _ C (csum_int _ (csum_rf _ csum0)) (hw1.up (l1.tr l2)) (hr.dn set_le) (pt_iast C hM h5a hin hd (hj.pt C (q0 rfl)))))⟩
theorem is_paZ {o : DA} {i e : DI} (ho : IE va_rf I 0 pc p1 o) (hi : IE .int I 1 p1 p2 i) (he : IE .int I 2 p2 p3 e) (hd : decode I.1 p3 = .ok (.bastore, 1)) (hj : Jp I (p3 + 1) tN) : IS I pc tN tB tC (paI 1 o i e) := by
  intro L M L' M' c v h
  obtain ⟨⟨r, M1⟩, h1, h⟩ := Option.bind_eq_some_iff.mp h
  obtain ⟨a, h2, h⟩ := Option.bind_eq_some_iff.mp h
  obtain ⟨⟨j, M2⟩, h3, h⟩ := Option.bind_eq_some_iff.mp h
  obtain ⟨⟨x, M3⟩, h4, h⟩ := Option.bind_eq_some_iff.mp h
  dsimp only at h
  split at h
  · rename_i hz
    obtain ⟨M4, h5, h6⟩ := Option.map_eq_some_iff.mp h
    cases h6
    have h2 : r = some a := h2
    subst h2
    have hx : x = 0 ∨ x = 1 := hz.elim (fun q => by cases q) (fun q => q.2)
    obtain ⟨n, f, hM, hin, h5a, rfl⟩ := wrI_spec h5
    obtain ⟨l1, k1⟩ := ho L M _ M1 h1
    obtain ⟨l2, k2⟩ := hi L M1 _ M2 h3
    obtain ⟨l3, k3⟩ := he L M2 _ M3 h4
    exact ⟨l1.tr (l2.tr (l3.tr set_le)), fun G C hw1 hr q0 _ _ _ => k1 G [] C csum0 hw1 (hr.dn (l2.tr (l3.tr set_le))) (k2 G _ C (csum_rf _ csum0) (hw1.up l1) (hr.dn (l3.tr set_le)) (k3 G _ C (csum_int _ (csum_rf _ csum0)) (hw1.up (l1.tr l2)) (hr.dn set_le) (pt_zast C hM h5a hin hx hd (hj.pt C (q0 rfl)))))⟩
  · cases h
theorem is_paA {t : Nat} {o : DA} {i : DI} {e : DA} (ht : 3 ≤ t ∧ t ≤ 5) (ho : IE va_rf I 0 pc p1 o) (hi : IE .int I 1 p1 p2 i) (he : IE va_rf I 2 p2 p3 e) (hd : decode I.1 p3 = .ok (.aastore, 1)) (hj : Jp I (p3 + 1) tN) : IS I pc tN tB tC (paA t o i e) := by
  intro L M L' M' c v h
  obtain ⟨⟨r, M1⟩, h1, h⟩ := Option.bind_eq_some_iff.mp h
  obtain ⟨a, h2, h⟩ := Option.bind_eq_some_iff.mp h
  obtain ⟨⟨j, M2⟩, h3, h⟩ := Option.bind_eq_some_iff.mp h
  obtain ⟨⟨x, M3⟩, h4, h⟩ := Option.bind_eq_some_iff.mp h
  obtain ⟨M4, h5, h6⟩ := Option.map_eq_some_iff.mp h
  cases h6
  have h2 : r = some a := h2
  subst h2
  obtain ⟨n, f, hM, hin, h5a, hE, rfl⟩ := wrA_spec h5
  obtain ⟨l1, k1⟩ := ho L M _ M1 h1
  obtain ⟨l2, k2⟩ := hi L M1 _ M2 h3
  obtain ⟨l3, k3⟩ := he L M2 _ M3 h4
  refine ⟨l1.tr (l2.tr (l3.tr set_le)), fun G C hw1 hr q0 _ _ _ => k1 G [] C csum0 hw1 (hr.dn (l2.tr (l3.tr set_le))) (k2 G _ C (csum_rf _ csum0) (hw1.up l1) (hr.dn (l3.tr set_le)) (k3 G _ C (csum_int _ (csum_rf _ csum0)) (hw1.up (l1.tr l2)) (hr.dn set_le) (pt_aast C hM ht h5a hin (fun b hb => ?_) hd (hj.pt C (q0 rfl)))))⟩
  have hb : x = some b := hb
  subst hb
  exact isC_spec hE
theorem is_exV {e : DV} (he : IV I 0 pc p1 e) (hj : Jp I p1 tN) : IS I pc tN tB tC (exV e) := by
  intro L M L' M' c v h
  obtain ⟨⟨r, M1⟩, h1, h⟩ := Option.bind_eq_some_iff.mp h
  dsimp only at h
  split at h
  · cases h
    obtain ⟨l1, k1⟩ := he L M _ _ h1
    exact ⟨l1, fun G C hw1 hr q0 _ _ _ => k1 G [] C csum0 hw1 hr (hj.pt C (q0 rfl))⟩
  · cases h
theorem is_exP {e : DV} (he : IV I 0 pc p1 e) (hd : decode I.1 p1 = .ok (.pop, 1)) (hj : Jp I (p1 + 1) tN) : IS I pc tN tB tC (exP e) := by
  intro L M L' M' c v h
  obtain ⟨⟨r, M1⟩, h1, h⟩ := Option.bind_eq_some_iff.mp h
  dsimp only at h
  split at h
  · cases h
  · rename_i w
    split at h
    · rename_i hc
      cases h
      obtain ⟨l1, k1⟩ := he L M _ _ h1
      exact ⟨l1, fun G C hw1 hr q0 _ _ _ => k1 G [] C csum0 hw1 hr (pt_pop C hd hc (hj.pt C (q0 rfl)))⟩
    · cases h
theorem is_if {pT pF : Nat} {cd : DC} {a b : DS} (hc : IC I 0 pc pT pF cd) (ha : IS I pT tN tB tC a) (hb : IS I pF tN tB tC b) : IS I pc tN tB tC (ifS cd a b) := by
  intro L M L' M' c v h
  obtain ⟨⟨r, M1⟩, h1, h⟩ := Option.bind_eq_some_iff.mp h
  obtain ⟨l1, k1⟩ := hc L M _ M1 h1
  cases r with
  | true =>
    obtain ⟨l2, k2⟩ := ha L M1 L' M' c v h
    exact ⟨l1.tr l2, fun G C hw hr q0 q1 q2 q3 => k1 G [] C csum0 hw (hr.dn l2) (fun _ => k2 G C (hw.up l1) hr q0 q1 q2 q3) (fun z => by cases z)⟩
  | false =>
    obtain ⟨l2, k2⟩ := hb L M1 L' M' c v h
    exact ⟨l1.tr l2, fun G C hw hr q0 q1 q2 q3 => k1 G [] C csum0 hw (hr.dn l2) (fun z => by cases z) (fun _ => k2 G C (hw.up l1) hr q0 q1 q2 q3)⟩
theorem is_retV (hd : decode I.1 pc = .ok (.return_, 1)) (ht : I.2.2.2.2.2.2 = none) : IS I pc tN tB tC retV := by
  intro L M L' M' c v h
  cases h
  exact ⟨LE.rf _, fun G C hw hr _ _ _ k3 => k3 rfl L pc (by rw [ht]; exact hd) (by rw [ht]; rfl)⟩
theorem is_retI {e : DI} (he : IE .int I 0 pc p1 e) (hd : decode I.1 p1 = .ok (.ireturn, 1)) (ht : I.2.2.2.2.2.2 = some .int) : IS I pc tN tB tC (retI e) := by
  intro L M L' M' c v h
  obtain ⟨⟨x, M1⟩, h1, h⟩ := Option.map_eq_some_iff.mp h
  cases h
  obtain ⟨l1, k1⟩ := he L M _ _ h1
  exact ⟨l1, fun G C hw hr _ _ _ k3 => k1 G [] C csum0 hw hr (k3 rfl L p1 (by rw [ht]; exact hd) (by rw [ht]; exact ⟨x, rfl⟩))⟩
theorem is_retZ {e : DI} (he : IE .int I 0 pc p1 e) (hd : decode I.1 p1 = .ok (.ireturn, 1)) (ht : I.2.2.2.2.2.2 = some .boolean) : IS I pc tN tB tC (retZ e) := by
  intro L M L' M' c v h
  obtain ⟨⟨x, M1⟩, h1, h⟩ := Option.bind_eq_some_iff.mp h
  dsimp only at h
  split at h
  · rename_i hx
    cases h
    obtain ⟨l1, k1⟩ := he L M _ _ h1
    exact ⟨l1, fun G C hw hr _ _ _ k3 => k1 G [] C csum0 hw hr (k3 rfl L p1 (by rw [ht]; exact hd) (by rw [ht]; exact ⟨x, hx, rfl⟩))⟩
  · cases h
theorem is_retA {e : DA} {Cn : String} (he : IE va_rf I 0 pc p1 e) (hd : decode I.1 p1 = .ok (.areturn, 1)) (ht : I.2.2.2.2.2.2 = some (.object Cn)) : IS I pc tN tB tC (retA e) := by
  intro L M L' M' c v h
  obtain ⟨⟨x, M1⟩, h1, h⟩ := Option.map_eq_some_iff.mp h
  cases h
  obtain ⟨l1, k1⟩ := he L M _ _ h1
  exact ⟨l1, fun G C hw hr _ _ _ k3 => k1 G [] C csum0 hw hr (k3 rfl L p1 (by rw [ht]; exact hd) (by rw [ht]; exact ⟨x, rfl⟩))⟩
theorem is_scp {k : Nat} {a : DS} (ha : IS I pc tN tB tC a) : IS I pc tN tB tC (scp k a) := by
  intro L M L' M' c v h
  obtain ⟨⟨L1, M1, c1, v1⟩, h1, h⟩ := Option.map_eq_some_iff.mp h
  cases h
  obtain ⟨l1, k1⟩ := ha L M _ _ _ _ h1
  exact ⟨l1, fun G C hw hr q0 q1 q2 q3 => k1 G C hw hr (fun z => (q0 z).weak fun i v => clr_get) (fun z => (q1 z).weak fun i v => clr_get) (fun z => (q2 z).weak fun i v => clr_get) q3⟩
theorem is_whN {pB pX pU x1 x2 : Nat} {cd : DC} {b u : DS} (hc : IC I 0 pc pB pX cd) (hb : IS I pB pU tN pU b) (hu : IS I pU pc x1 x2 u) (hj : Jp I pX tN) : ∀ n : Nat, IS I pc tN tB tC (whN cd b u n) := by
  intro n
  induction n with
  | zero =>
    intro L M L' M' c v h
    cases h
  | succ n ih =>
    intro L M L' M' c v h
    obtain ⟨⟨r, M1⟩, h1, h⟩ := Option.bind_eq_some_iff.mp h
    obtain ⟨l1, k1⟩ := hc L M _ M1 h1
    cases r with
    | false =>
      cases h
      exact ⟨l1, fun G C hw hr q0 _ _ _ => k1 G [] C csum0 hw hr (fun z => by cases z) (fun _ => hj.pt C (q0 rfl))⟩
    | true =>
      obtain ⟨⟨L2, M2, c2, v2⟩, h2, h⟩ := Option.bind_eq_some_iff.mp h
      obtain ⟨l2, k2⟩ := hb L M1 L2 M2 c2 v2 h2
      dsimp only at h
      split at h
      · rename_i hc1
        cases h
        exact ⟨l1.tr l2, fun G C hw hr q0 _ _ _ => k1 G [] C csum0 hw (hr.dn l2) (fun _ => k2 G C (hw.up l1) hr (fun z => by rw [hc1] at z; cases z) (fun _ => q0 rfl) (fun z => by rw [hc1] at z; cases z) (fun z => by rw [hc1] at z; cases z)) (fun z => by cases z)⟩
      · split at h
        · rename_i hc1 hc3
          cases h
          have hc3 : c = 3 := hc3
          subst hc3
          exact ⟨l1.tr l2, fun G C hw hr _ _ _ q3 => k1 G [] C csum0 hw (hr.dn l2) (fun _ => k2 G C (hw.up l1) hr (fun z => by cases z) (fun z => by cases z) (fun z => by cases z) q3) (fun z => by cases z)⟩
        · rename_i hc1 hc3
          obtain ⟨⟨L3, M3, c3, v3⟩, h3, h⟩ := Option.bind_eq_some_iff.mp h
          obtain ⟨l3, k3⟩ := hu L2 M2 L3 M3 c3 v3 h3
          dsimp only at h
          split at h
          · rename_i hc0
            subst hc0
            obtain ⟨l4, k4⟩ := ih L3 M3 L' M' c v h
            refine ⟨l1.tr (l2.tr (l3.tr l4)), fun G C hw hr q0 q1 q2 q3 => k1 G [] C csum0 hw (hr.dn (l2.tr (l3.tr l4))) (fun _ => ?_) (fun z => by cases z)⟩
            have go : PT G pU L2 [] M2 := k3 G C (hw.up (l1.tr l2)) (hr.dn l4) (fun _ => k4 G C (hw.up (l1.tr (l2.tr l3))) hr q0 q1 q2 q3) (fun z => by cases z) (fun z => by cases z) (fun z => by cases z)
            exact k2 G C (hw.up l1) (hr.dn (l3.tr l4)) (fun _ => go) (fun z => absurd z hc1) (fun _ => go) (fun z => absurd z hc3)
          · cases h
theorem is_whS {pB pX pU x1 x2 : Nat} {cd : DC} {b u : DS} (hc : IC I 0 pc pB pX cd) (hb : IS I pB pU tN pU b) (hu : IS I pU pc x1 x2 u) (hj : Jp I pX tN) : IS I pc tN tB tC (whS cd b u) := is_whN hc hb hu hj big
theorem is_sw {lo hi dflt : Int} {offs : Array Int} {len pD : Nat} {e : DI} {cs : List DS} {dS : DS} (he : IE .int I 0 pc p1 e) (hd : decode I.1 p1 = .ok (.tableswitch dflt lo hi offs, len)) (hD : (p1 : Int) + dflt = (pD : Int)) (hds : IS I pD tN tN tC dS) (hlen : (cs.length : Int) = hi - lo + 1)
    (hcs : ∀ (j : Nat) (S : DS), cs[j]? = some S → ∃ (off : Int) (tgt : Nat), offs[j]? = some off ∧ (p1 : Int) + off = (tgt : Int) ∧ IS I tgt tN tN tC S) : IS I pc tN tB tC (swS e lo cs dS) := by
  intro L M L' M' c v h
  obtain ⟨⟨x, M1⟩, h1, h⟩ := Option.bind_eq_some_iff.mp h
  obtain ⟨⟨L2, M2, c2, v2⟩, h2, h⟩ := Option.map_eq_some_iff.mp h
  obtain ⟨l1, k1⟩ := he L M _ _ h1
  have fin : ∀ (S : DS) (tgt : Nat), IS I tgt tN tN tC S → S L M1 = some (L2, M2, c2, v2) → (∀ (G : GT), CX G I → PT G tgt L [] M1 → PT G p1 L [.int x] M1) → LE M M' ∧ ∀ (G : GT), CX G I → LW G M → RM G M' → (c = 0 → PT G tN L' [] M') → (c = 1 → PT G tB L' [] M') → (c = 2 → PT G tC L' [] M') → (c = 3 → RT G I v M') → PT G pc L [] M := by
    intro S tgt hS hr2 go
    obtain ⟨l2, k2⟩ := hS L M1 L2 M2 c2 v2 hr2
    dsimp only at h
    split at h
    · rename_i hc1
      cases h
      exact ⟨l1.tr l2, fun G C hw hr q0 _ _ _ => k1 G [] C csum0 hw (hr.dn l2) (go G C (k2 G C (hw.up l1) hr (fun _ => q0 rfl) (fun _ => q0 rfl) (fun z => by rw [hc1] at z; cases z) (fun z => by rw [hc1] at z; cases z)))⟩
    · rename_i hc1
      cases h
      exact ⟨l1.tr l2, fun G C hw hr q0 q1 q2 q3 => k1 G [] C csum0 hw (hr.dn l2) (go G C (k2 G C (hw.up l1) hr q0 (fun z => absurd z hc1) q2 q3))⟩
  dsimp only at h2
  by_cases hlo : x.toInt < lo
  · rw [if_pos hlo] at h2
    exact fin dS pD hds h2 (fun G C k => pt_tableOut C hd (Or.inl hlo) hD k)
  · rw [if_neg hlo] at h2
    cases hS : cs[(x.toInt - lo).toNat]? with
    | none =>
      rw [hS] at h2
      have : cs.length ≤ (x.toInt - lo).toNat := by simpa using hS
      exact fin dS pD hds h2 (fun G C k => pt_tableOut C hd (Or.inr (by omega)) hD k)
    | some S =>
      rw [hS] at h2
      have hlt := (List.getElem?_eq_some_iff.mp hS).1
      obtain ⟨off, tgt, g1, g2, g3⟩ := hcs _ S hS
      exact fin S tgt g3 h2 (fun G C k => pt_tableIn C hd hlo (by omega) g1 g2 k)
end Stms
theorem mkL_get {n i : Nat} {as : List Value} {v : Value} (h : (mkL n as)[i]? = some (some v)) : as[i]? = some v := by
  unfold mkL at h
  by_cases hi : i < (as.map some).length
  · rw [List.getElem?_append_left hi, List.getElem?_map] at h
    cases ha : as[i]? with
    | none => rw [ha] at h; cases h
    | some w => rw [ha] at h; cases h; rfl
  · rw [List.getElem?_append_right (by omega)] at h
    obtain ⟨h1, h2⟩ := List.getElem?_eq_some_iff.mp h
    rw [List.getElem_replicate] at h2
    cases h2
theorem lg_sl1 : ∀ (vs : List Value), (∀ v ∈ vs, v.category = 1) → lg_sl vs = vs.map Slot.val := by
  intro vs
  induction vs with
  | nil => intro _; rfl
  | cons v t ih =>
    intro h
    have h1 : v.category = 1 := h v List.mem_cons_self
    have h2 := ih (fun w hw => h w (List.mem_cons_of_mem _ hw))
    unfold lg_sl at h2 ⊢
    rw [List.flatMap_cons, h2, if_neg (by rw [h1]; decide)]
    rfl
theorem entry_loc {X : GF} {n : Nat} {as : List Value} (hc : cat1 as = true) (hn : as.length ≤ n) : LOC X ((lg_sl (as.map (up X)) ++ List.replicate (n - (lg_sl (as.map (up X))).length) Slot.unset).toArray) n (mkL n as) := by
  have h1 : ∀ v ∈ as.map (up X), v.category = 1 := by
    intro v hv
    obtain ⟨w, hw, rfl⟩ := List.mem_map.mp hv
    rw [up_cat]
    have := List.all_eq_true.mp hc w hw
    simpa using this
  have e := lg_sl1 _ h1
  have hlen : (lg_sl (as.map (up X))).length = as.length := by rw [e]; simp
  have hl := lv_entry (as.map (up X)) (n := n) (by rw [hlen]; exact hn)
  refine ⟨hl.1, hl.2.1, fun i v hi => ?_⟩
  have ha := mkL_get hi
  rw [e]
  have hlt := (List.getElem?_eq_some_iff.mp ha).1
  simp only [List.getElem?_toArray]
  rw [List.getElem?_append_left (by simpa using hlt), List.getElem?_map, List.getElem?_map, ha]
  rfl
theorem sameRet {G : GT} {I : MI} {X : GF} {v : Option Value} {M : Mm} (hX : gX G = X) (C : CX G I) (hQ : gQ G = MQ (gb G) (Qcv X v M) (ga G) (gs G) (M.1 - gn G) (M.2.1 - gz G) (AA X)) : RT G I v M := by
  intro L pc hd hok ls H locs hl hR hS
  subst hX
  rw [hQ]
  have hq : ∀ (t : State), t.heap = H → (gs G).WarmedH t.vm → Qcv (gX G) v M (ga G) (gs G) (.returned (v.map (up (gX G)))) t := fun t ht hW => ⟨rfl, by rw [ht]; exact hR.warm hW, hS.F ht⟩
  have hf : ∀ q ∈ locs, AA (gX G) q.base := hS.2.2
  have hlk := C.2.2.2.2.2.2.2.2.2.1
  have hret := C.2.2.2.2.2.2.2.2.1
  rcases hr : I.2.2.2.2.2.2 with _ | t
  · rw [hr] at hd hok hret
    have hok : v = none := hok
    subst hok
    exact W.vret C.1 C.2.1 hret hq hf hd hlk
  · rw [hr] at hd hok hret
    cases t with
    | int =>
      obtain ⟨x, rfl⟩ := hok
      exact W.zret C.1 C.2.1 hret rfl hq hf hd hlk
    | boolean =>
      obtain ⟨x, hx, rfl⟩ := hok
      exact W.zret C.1 C.2.1 hret (by rcases hx with rfl | rfl <;> rfl) hq hf hd hlk
    | object n =>
      obtain ⟨r, rfl⟩ := hok
      have k := W.aret (p := gp G) (l := gl G) (e := ge G) (R := gR G) (s := gs G) (m := gm G) (args := ga G) (below := gb G) (meth := gh G) (c := gc G) (H := H) (locs := locs) (cells := M.1 - gn G) (slots := M.2.1 - gz G) (v := up (gX G) (va_rf r)) C.1 C.2.1 hret (Or.inl ⟨n, rfl⟩) (by cases r <;> first | exact Or.inl rfl | exact Or.inr ⟨_, rfl⟩) hq hf (ls := ls) hd hlk
      exact k
    | array n =>
      obtain ⟨r, rfl⟩ := hok
      have k := W.aret (p := gp G) (l := gl G) (e := ge G) (R := gR G) (s := gs G) (m := gm G) (args := ga G) (below := gb G) (meth := gh G) (c := gc G) (H := H) (locs := locs) (cells := M.1 - gn G) (slots := M.2.1 - gz G) (v := up (gX G) (va_rf r)) C.1 C.2.1 hret (Or.inr ⟨n, rfl⟩) (by cases r <;> first | exact Or.inl rfl | exact Or.inr ⟨_, rfl⟩) hq hf (ls := ls) hd hlk
      exact k
    | _ => exact hok.elim
/-- a method whose body does what it means has its contract -/
theorem ma_of {y : MethodName} {I : MI} {body : DS} {a b c : Nat} (hy : plainName y.cls = true) (hcls : y.cls = I.2.1) (hnm : y.name = I.2.2.2.2.2.1) (hb : IS I 0 a b c body) : MA y I (runM I.2.2.1 body) := by
  have mono : ∀ (as : List Value) (M : Mm) (v : Option Value) (M' : Mm), runM I.2.2.1 body as M = some (v, M') → LE M M' := by
    intro as M v M' h
    unfold runM at h
    split at h
    · obtain ⟨⟨L1, M1, c1, v1⟩, h1, h⟩ := Option.bind_eq_some_iff.mp h
      dsimp only at h
      split at h
      · cases h
        exact (hb _ _ _ _ _ _ h1).1
      · cases h
    · cases h
  refine ⟨mono, fun l hfl X as M v M' h => ⟨mono as M v M' h, ?_⟩⟩
  unfold runM at h
  split at h
  · rename_i hca
    obtain ⟨⟨L1, M1, c1, v1⟩, h1, h⟩ := Option.bind_eq_some_iff.mp h
    dsimp only at h
    split at h
    · rename_i hc3
      cases h
      subst hc3
      obtain ⟨hle, k⟩ := hb _ _ _ _ _ _ h1
      refine Met.ofW (cc := I.1) (maxL := I.2.2.1) (ret := I.2.2.2.2.2.2) hy rfl ?_
      intro p e s m args below meth c s₁ B hml hv
      obtain ⟨rfl, hR, hB⟩ := hv
      have hts := atoms_spec (ws := .code y I.1 I.2.2.1 I.2.2.2.2.2.2 :: TG) B.pre
      have hloc := entry_loc (X := X) hca.1 hca.2
      rw [lg_entry_eq]
      let G : GT := (X, p, l, e, (headSpec (.code y I.1 I.2.2.1 I.2.2.2.2.2.2 :: TG) ({ frames := I.2.2.2.1, cells := M'.1 - M.1, slots := M'.2.1 - M.2.1, locals := I.2.2.2.2.1 })).room, s, m, (as.map (up X)).toArray, below, meth, c, M.1, M.2.1, MQ below (Qcv X v M') (as.map (up X)).toArray s (M'.1 - M.1) (M'.2.1 - M.2.1) (AA X))
      have C : CX G I := ⟨B.exec, B.bytes, by rw [← hcls]; exact findClass_of_methodNamed B.named, hml, fun w hw => hts w (List.mem_cons_of_mem _ hw), rfl, rfl, by rw [← hnm]; exact (name_of_methodNamed B.named B.method).1, B.returns, B.notSynchronized, hB, hfl⟩
      have hroom : RM G M' := by
        constructor
        · show M'.1 ≤ M.1 + (M'.1 - M.1)
          have := hle.1
          omega
        · show M'.2.1 ≤ M.2.1 + (M'.2.1 - M.2.1)
          have := hle.2
          omega
      have k1 : PT G 0 (mkL I.2.2.1 as) [] M := k G C ⟨Nat.le_refl _, Nat.le_refl _⟩ hroom (fun z => by cases z) (fun z => by cases z) (fun z => by cases z) (fun _ => sameRet (X := X) rfl C rfl)
      have k2 := k1 _ s.heap [] (by rw [C.2.2.2.1]; exact hloc) hR va_S.rf
      exact W.cs (cells' := M.1 - M.1) (slots' := M.2.1 - M.2.1) (by omega) (by omega) k2
    · cases h
  · cases h
end
