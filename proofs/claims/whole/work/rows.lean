section
/-- a private method of a class that the tables say can be made, by its rows of tables_1 -/
def lw_okq (q : MethodName × Nat) : Prop := (q.1.cls ≠ "java/lang/invoke/MethodHandle" ∧ q.1.cls ≠ "java/lang/invoke/VarHandle") ∧ Cond.instantiable q.1.cls q.2 ∈ tables_1 ∧ Cond.privateMethod q.1 ∈ tables_1 ∧ Cond.instanceMethod q.1 ∈ tables_1
theorem lw_p0 : lw_okq (⟨"StackYard$Yard", "ownLayer", "(I)LStackYard$Layer;"⟩, 2) := ⟨⟨by decide +kernel, by decide +kernel⟩, List.mem_of_getElem? (i := 93) (by decide +kernel), List.mem_of_getElem? (i := 313) (by decide +kernel), List.mem_of_getElem? (i := 314) (by decide +kernel)⟩
theorem lw_p1 : lw_okq (⟨"StackYard$Yard", "ownRow", "(II)LStackYard$Row;"⟩, 2) := ⟨⟨by decide +kernel, by decide +kernel⟩, List.mem_of_getElem? (i := 93) (by decide +kernel), List.mem_of_getElem? (i := 397) (by decide +kernel), List.mem_of_getElem? (i := 398) (by decide +kernel)⟩
theorem lw_p2 : lw_okq (⟨"StackYard", "codeIn", "(IIII)I"⟩, 14) := ⟨⟨by decide +kernel, by decide +kernel⟩, List.mem_of_getElem? (i := 20) (by decide +kernel), List.mem_of_getElem? (i := 420) (by decide +kernel), List.mem_of_getElem? (i := 421) (by decide +kernel)⟩
theorem lw_p3 : lw_okq (⟨"StackYard", "slotsKeeping", "()I"⟩, 14) := ⟨⟨by decide +kernel, by decide +kernel⟩, List.mem_of_getElem? (i := 20) (by decide +kernel), List.mem_of_getElem? (i := 463) (by decide +kernel), List.mem_of_getElem? (i := 464) (by decide +kernel)⟩
theorem lw_p4 : lw_okq (⟨"StackYard", "readBox", "(I)V"⟩, 14) := ⟨⟨by decide +kernel, by decide +kernel⟩, List.mem_of_getElem? (i := 20) (by decide +kernel), List.mem_of_getElem? (i := 502) (by decide +kernel), List.mem_of_getElem? (i := 503) (by decide +kernel)⟩
theorem lw_p5 : lw_okq (⟨"StackYard$Grid", "readRow", "(LStackYard$Row;I)V"⟩, 3) := ⟨⟨by decide +kernel, by decide +kernel⟩, List.mem_of_getElem? (i := 108) (by decide +kernel), List.mem_of_getElem? (i := 512) (by decide +kernel), List.mem_of_getElem? (i := 513) (by decide +kernel)⟩
theorem lw_p6 : lw_okq (⟨"StackYard", "findParts", "(I)V"⟩, 14) := ⟨⟨by decide +kernel, by decide +kernel⟩, List.mem_of_getElem? (i := 20) (by decide +kernel), List.mem_of_getElem? (i := 583) (by decide +kernel), List.mem_of_getElem? (i := 584) (by decide +kernel)⟩
theorem lw_p7 : lw_okq (⟨"StackYard$Parts", "gather", "(LStackYard$Grid;II)I"⟩, 5) := ⟨⟨by decide +kernel, by decide +kernel⟩, List.mem_of_getElem? (i := 126) (by decide +kernel), List.mem_of_getElem? (i := 592) (by decide +kernel), List.mem_of_getElem? (i := 593) (by decide +kernel)⟩
theorem lw_p8 : lw_okq (⟨"StackYard$Parts", "freeBelow", "(IILStackYard$Grid;)I"⟩, 5) := ⟨⟨by decide +kernel, by decide +kernel⟩, List.mem_of_getElem? (i := 126) (by decide +kernel), List.mem_of_getElem? (i := 628) (by decide +kernel), List.mem_of_getElem? (i := 629) (by decide +kernel)⟩
theorem lw_p9 : lw_okq (⟨"StackYard", "noteFall", "(II)V"⟩, 14) := ⟨⟨by decide +kernel, by decide +kernel⟩, List.mem_of_getElem? (i := 20) (by decide +kernel), List.mem_of_getElem? (i := 645) (by decide +kernel), List.mem_of_getElem? (i := 646) (by decide +kernel)⟩
theorem lw_p10 : lw_okq (⟨"StackYard$Lamps", "spread", "(ILStackYard$Grid;LStackYard$Kinds;)V"⟩, 1) := ⟨⟨by decide +kernel, by decide +kernel⟩, List.mem_of_getElem? (i := 150) (by decide +kernel), List.mem_of_getElem? (i := 695) (by decide +kernel), List.mem_of_getElem? (i := 696) (by decide +kernel)⟩
theorem lw_p11 : lw_okq (⟨"StackYard$Walk", "reach", "(LStackYard$Grid;II)V"⟩, 3) := ⟨⟨by decide +kernel, by decide +kernel⟩, List.mem_of_getElem? (i := 161) (by decide +kernel), List.mem_of_getElem? (i := 726) (by decide +kernel), List.mem_of_getElem? (i := 727) (by decide +kernel)⟩
theorem lw_p12 : lw_okq (⟨"StackYard$Walk", "leave", "(LStackYard$Grid;I)V"⟩, 3) := ⟨⟨by decide +kernel, by decide +kernel⟩, List.mem_of_getElem? (i := 161) (by decide +kernel), List.mem_of_getElem? (i := 730) (by decide +kernel), List.mem_of_getElem? (i := 731) (by decide +kernel)⟩
theorem lw_p13 : lw_okq (⟨"StackYard", "seekWay", "(III)I"⟩, 14) := ⟨⟨by decide +kernel, by decide +kernel⟩, List.mem_of_getElem? (i := 20) (by decide +kernel), List.mem_of_getElem? (i := 739) (by decide +kernel), List.mem_of_getElem? (i := 740) (by decide +kernel)⟩
theorem lw_p14 : lw_okq (⟨"java/lang/Throwable", "fillInStackTrace", "(I)Ljava/lang/Throwable;"⟩, 6) := ⟨⟨by decide +kernel, by decide +kernel⟩, List.mem_of_getElem? (i := 812) (by decide +kernel), List.mem_of_getElem? (i := 810) (by decide +kernel), List.mem_of_getElem? (i := 811) (by decide +kernel)⟩
theorem lw_p15 : lw_okq (⟨"StackYardModel", "times", "(II)I"⟩, 33) := ⟨⟨by decide +kernel, by decide +kernel⟩, List.mem_of_getElem? (i := 837) (by decide +kernel), List.mem_of_getElem? (i := 962) (by decide +kernel), List.mem_of_getElem? (i := 963) (by decide +kernel)⟩
def lw_privs_1 : List (MethodName × Nat) := [(⟨"StackYard$Yard", "ownLayer", "(I)LStackYard$Layer;"⟩, 2), (⟨"StackYard$Yard", "ownRow", "(II)LStackYard$Row;"⟩, 2), (⟨"StackYard", "codeIn", "(IIII)I"⟩, 14), (⟨"StackYard", "slotsKeeping", "()I"⟩, 14), (⟨"StackYard", "readBox", "(I)V"⟩, 14), (⟨"StackYard$Grid", "readRow", "(LStackYard$Row;I)V"⟩, 3), (⟨"StackYard", "findParts", "(I)V"⟩, 14), (⟨"StackYard$Parts", "gather", "(LStackYard$Grid;II)I"⟩, 5), (⟨"StackYard$Parts", "freeBelow", "(IILStackYard$Grid;)I"⟩, 5), (⟨"StackYard", "noteFall", "(II)V"⟩, 14), (⟨"StackYard$Lamps", "spread", "(ILStackYard$Grid;LStackYard$Kinds;)V"⟩, 1), (⟨"StackYard$Walk", "reach", "(LStackYard$Grid;II)V"⟩, 3), (⟨"StackYard$Walk", "leave", "(LStackYard$Grid;I)V"⟩, 3), (⟨"StackYard", "seekWay", "(III)I"⟩, 14), (⟨"java/lang/Throwable", "fillInStackTrace", "(I)Ljava/lang/Throwable;"⟩, 6), (⟨"StackYardModel", "times", "(II)I"⟩, 33)]
theorem lw_r1 : ∀ q ∈ lw_privs_1, lw_okq q := List.forall_mem_cons.mpr ⟨lw_p0, List.forall_mem_cons.mpr ⟨lw_p1, List.forall_mem_cons.mpr ⟨lw_p2, List.forall_mem_cons.mpr ⟨lw_p3, List.forall_mem_cons.mpr ⟨lw_p4, List.forall_mem_cons.mpr ⟨lw_p5, List.forall_mem_cons.mpr ⟨lw_p6, List.forall_mem_cons.mpr ⟨lw_p7, List.forall_mem_cons.mpr ⟨lw_p8, List.forall_mem_cons.mpr ⟨lw_p9, List.forall_mem_cons.mpr ⟨lw_p10, List.forall_mem_cons.mpr ⟨lw_p11, List.forall_mem_cons.mpr ⟨lw_p12, List.forall_mem_cons.mpr ⟨lw_p13, List.forall_mem_cons.mpr ⟨lw_p14, List.forall_mem_cons.mpr ⟨lw_p15, fun _ h => absurd h List.not_mem_nil⟩⟩⟩⟩⟩⟩⟩⟩⟩⟩⟩⟩⟩⟩⟩⟩
theorem lw_p16 : lw_okq (⟨"StackYardModel", "newLayer", "()I"⟩, 33) := ⟨⟨by decide +kernel, by decide +kernel⟩, List.mem_of_getElem? (i := 837) (by decide +kernel), List.mem_of_getElem? (i := 983) (by decide +kernel), List.mem_of_getElem? (i := 984) (by decide +kernel)⟩
theorem lw_p17 : lw_okq (⟨"StackYardModel", "holdsOf", "(I)I"⟩, 33) := ⟨⟨by decide +kernel, by decide +kernel⟩, List.mem_of_getElem? (i := 837) (by decide +kernel), List.mem_of_getElem? (i := 987) (by decide +kernel), List.mem_of_getElem? (i := 988) (by decide +kernel)⟩
theorem lw_p18 : lw_okq (⟨"StackYardModel", "aloneLayer", "(II)V"⟩, 33) := ⟨⟨by decide +kernel, by decide +kernel⟩, List.mem_of_getElem? (i := 837) (by decide +kernel), List.mem_of_getElem? (i := 995) (by decide +kernel), List.mem_of_getElem? (i := 996) (by decide +kernel)⟩
theorem lw_p19 : lw_okq (⟨"StackYardModel", "newRow", "()I"⟩, 33) := ⟨⟨by decide +kernel, by decide +kernel⟩, List.mem_of_getElem? (i := 837) (by decide +kernel), List.mem_of_getElem? (i := 999) (by decide +kernel), List.mem_of_getElem? (i := 1000) (by decide +kernel)⟩
theorem lw_p20 : lw_okq (⟨"StackYardModel", "meets", "()I"⟩, 33) := ⟨⟨by decide +kernel, by decide +kernel⟩, List.mem_of_getElem? (i := 837) (by decide +kernel), List.mem_of_getElem? (i := 1003) (by decide +kernel), List.mem_of_getElem? (i := 1004) (by decide +kernel)⟩
theorem lw_p21 : lw_okq (⟨"StackYardModel", "isThere", "(IIII)I"⟩, 33) := ⟨⟨by decide +kernel, by decide +kernel⟩, List.mem_of_getElem? (i := 837) (by decide +kernel), List.mem_of_getElem? (i := 1015) (by decide +kernel), List.mem_of_getElem? (i := 1016) (by decide +kernel)⟩
theorem lw_p22 : lw_okq (⟨"StackYardModel", "isKindOrOpen", "(I)Z"⟩, 33) := ⟨⟨by decide +kernel, by decide +kernel⟩, List.mem_of_getElem? (i := 837) (by decide +kernel), List.mem_of_getElem? (i := 1019) (by decide +kernel), List.mem_of_getElem? (i := 1020) (by decide +kernel)⟩
theorem lw_p23 : lw_okq (⟨"StackYardModel", "cell", "(IIII)I"⟩, 33) := ⟨⟨by decide +kernel, by decide +kernel⟩, List.mem_of_getElem? (i := 837) (by decide +kernel), List.mem_of_getElem? (i := 1023) (by decide +kernel), List.mem_of_getElem? (i := 1024) (by decide +kernel)⟩
theorem lw_p24 : lw_okq (⟨"StackYardModel", "change", "(IIIIII)Z"⟩, 33) := ⟨⟨by decide +kernel, by decide +kernel⟩, List.mem_of_getElem? (i := 837) (by decide +kernel), List.mem_of_getElem? (i := 1027) (by decide +kernel), List.mem_of_getElem? (i := 1028) (by decide +kernel)⟩
theorem lw_p25 : lw_okq (⟨"StackYardModel", "aloneRow", "(III)V"⟩, 33) := ⟨⟨by decide +kernel, by decide +kernel⟩, List.mem_of_getElem? (i := 837) (by decide +kernel), List.mem_of_getElem? (i := 1031) (by decide +kernel), List.mem_of_getElem? (i := 1032) (by decide +kernel)⟩
theorem lw_p26 : lw_okq (⟨"StackYardModel", "holdsOfRow", "(I)I"⟩, 33) := ⟨⟨by decide +kernel, by decide +kernel⟩, List.mem_of_getElem? (i := 837) (by decide +kernel), List.mem_of_getElem? (i := 1035) (by decide +kernel), List.mem_of_getElem? (i := 1036) (by decide +kernel)⟩
theorem lw_p27 : lw_okq (⟨"StackYardModel", "kindAt", "(IIII)I"⟩, 33) := ⟨⟨by decide +kernel, by decide +kernel⟩, List.mem_of_getElem? (i := 837) (by decide +kernel), List.mem_of_getElem? (i := 1051) (by decide +kernel), List.mem_of_getElem? (i := 1052) (by decide +kernel)⟩
theorem lw_p28 : lw_okq (⟨"StackYardModel", "copy", "(II)V"⟩, 33) := ⟨⟨by decide +kernel, by decide +kernel⟩, List.mem_of_getElem? (i := 837) (by decide +kernel), List.mem_of_getElem? (i := 1063) (by decide +kernel), List.mem_of_getElem? (i := 1064) (by decide +kernel)⟩
theorem lw_p29 : lw_okq (⟨"StackYardModel", "isIn", "(I)Z"⟩, 33) := ⟨⟨by decide +kernel, by decide +kernel⟩, List.mem_of_getElem? (i := 837) (by decide +kernel), List.mem_of_getElem? (i := 1100) (by decide +kernel), List.mem_of_getElem? (i := 1101) (by decide +kernel)⟩
theorem lw_p30 : lw_okq (⟨"StackYardModel", "kindOf", "(II)I"⟩, 33) := ⟨⟨by decide +kernel, by decide +kernel⟩, List.mem_of_getElem? (i := 837) (by decide +kernel), List.mem_of_getElem? (i := 1104) (by decide +kernel), List.mem_of_getElem? (i := 1105) (by decide +kernel)⟩
theorem lw_p31 : lw_okq (⟨"StackYardModel", "changeAt", "(IIII)Z"⟩, 33) := ⟨⟨by decide +kernel, by decide +kernel⟩, List.mem_of_getElem? (i := 837) (by decide +kernel), List.mem_of_getElem? (i := 1108) (by decide +kernel), List.mem_of_getElem? (i := 1109) (by decide +kernel)⟩
def lw_privs_2 : List (MethodName × Nat) := [(⟨"StackYardModel", "newLayer", "()I"⟩, 33), (⟨"StackYardModel", "holdsOf", "(I)I"⟩, 33), (⟨"StackYardModel", "aloneLayer", "(II)V"⟩, 33), (⟨"StackYardModel", "newRow", "()I"⟩, 33), (⟨"StackYardModel", "meets", "()I"⟩, 33), (⟨"StackYardModel", "isThere", "(IIII)I"⟩, 33), (⟨"StackYardModel", "isKindOrOpen", "(I)Z"⟩, 33), (⟨"StackYardModel", "cell", "(IIII)I"⟩, 33), (⟨"StackYardModel", "change", "(IIIIII)Z"⟩, 33), (⟨"StackYardModel", "aloneRow", "(III)V"⟩, 33), (⟨"StackYardModel", "holdsOfRow", "(I)I"⟩, 33), (⟨"StackYardModel", "kindAt", "(IIII)I"⟩, 33), (⟨"StackYardModel", "copy", "(II)V"⟩, 33), (⟨"StackYardModel", "isIn", "(I)Z"⟩, 33), (⟨"StackYardModel", "kindOf", "(II)I"⟩, 33), (⟨"StackYardModel", "changeAt", "(IIII)Z"⟩, 33)]
theorem lw_r2 : ∀ q ∈ lw_privs_2, lw_okq q := List.forall_mem_cons.mpr ⟨lw_p16, List.forall_mem_cons.mpr ⟨lw_p17, List.forall_mem_cons.mpr ⟨lw_p18, List.forall_mem_cons.mpr ⟨lw_p19, List.forall_mem_cons.mpr ⟨lw_p20, List.forall_mem_cons.mpr ⟨lw_p21, List.forall_mem_cons.mpr ⟨lw_p22, List.forall_mem_cons.mpr ⟨lw_p23, List.forall_mem_cons.mpr ⟨lw_p24, List.forall_mem_cons.mpr ⟨lw_p25, List.forall_mem_cons.mpr ⟨lw_p26, List.forall_mem_cons.mpr ⟨lw_p27, List.forall_mem_cons.mpr ⟨lw_p28, List.forall_mem_cons.mpr ⟨lw_p29, List.forall_mem_cons.mpr ⟨lw_p30, List.forall_mem_cons.mpr ⟨lw_p31, fun _ h => absurd h List.not_mem_nil⟩⟩⟩⟩⟩⟩⟩⟩⟩⟩⟩⟩⟩⟩⟩⟩
theorem lw_p32 : lw_okq (⟨"StackYardModel", "turnOf", "(II)I"⟩, 33) := ⟨⟨by decide +kernel, by decide +kernel⟩, List.mem_of_getElem? (i := 837) (by decide +kernel), List.mem_of_getElem? (i := 1116) (by decide +kernel), List.mem_of_getElem? (i := 1117) (by decide +kernel)⟩
theorem lw_p33 : lw_okq (⟨"StackYardModel", "kindBeside", "(III)I"⟩, 33) := ⟨⟨by decide +kernel, by decide +kernel⟩, List.mem_of_getElem? (i := 837) (by decide +kernel), List.mem_of_getElem? (i := 1128) (by decide +kernel), List.mem_of_getElem? (i := 1129) (by decide +kernel)⟩
theorem lw_p34 : lw_okq (⟨"StackYardModel", "reads", "(I)V"⟩, 33) := ⟨⟨by decide +kernel, by decide +kernel⟩, List.mem_of_getElem? (i := 837) (by decide +kernel), List.mem_of_getElem? (i := 1139) (by decide +kernel), List.mem_of_getElem? (i := 1140) (by decide +kernel)⟩
theorem lw_p35 : lw_okq (⟨"StackYardModel", "along", "(I)I"⟩, 33) := ⟨⟨by decide +kernel, by decide +kernel⟩, List.mem_of_getElem? (i := 837) (by decide +kernel), List.mem_of_getElem? (i := 1147) (by decide +kernel), List.mem_of_getElem? (i := 1148) (by decide +kernel)⟩
theorem lw_p36 : lw_okq (⟨"StackYardModel", "findParts", "(I)V"⟩, 33) := ⟨⟨by decide +kernel, by decide +kernel⟩, List.mem_of_getElem? (i := 837) (by decide +kernel), List.mem_of_getElem? (i := 1160) (by decide +kernel), List.mem_of_getElem? (i := 1161) (by decide +kernel)⟩
theorem lw_p37 : lw_okq (⟨"StackYardModel", "isLoose", "(II)Z"⟩, 33) := ⟨⟨by decide +kernel, by decide +kernel⟩, List.mem_of_getElem? (i := 837) (by decide +kernel), List.mem_of_getElem? (i := 1172) (by decide +kernel), List.mem_of_getElem? (i := 1173) (by decide +kernel)⟩
theorem lw_p38 : lw_okq (⟨"StackYardModel", "falls", "(II)I"⟩, 33) := ⟨⟨by decide +kernel, by decide +kernel⟩, List.mem_of_getElem? (i := 837) (by decide +kernel), List.mem_of_getElem? (i := 1176) (by decide +kernel), List.mem_of_getElem? (i := 1177) (by decide +kernel)⟩
theorem lw_p39 : lw_okq (⟨"StackYardModel", "nextToFall", "(I)I"⟩, 33) := ⟨⟨by decide +kernel, by decide +kernel⟩, List.mem_of_getElem? (i := 837) (by decide +kernel), List.mem_of_getElem? (i := 1184) (by decide +kernel), List.mem_of_getElem? (i := 1185) (by decide +kernel)⟩
theorem lw_p40 : lw_okq (⟨"StackYardModel", "fall", "(III)V"⟩, 33) := ⟨⟨by decide +kernel, by decide +kernel⟩, List.mem_of_getElem? (i := 837) (by decide +kernel), List.mem_of_getElem? (i := 1188) (by decide +kernel), List.mem_of_getElem? (i := 1189) (by decide +kernel)⟩
theorem lw_p41 : lw_okq (⟨"StackYardModel", "loadOf", "(II)I"⟩, 33) := ⟨⟨by decide +kernel, by decide +kernel⟩, List.mem_of_getElem? (i := 837) (by decide +kernel), List.mem_of_getElem? (i := 1200) (by decide +kernel), List.mem_of_getElem? (i := 1201) (by decide +kernel)⟩
theorem lw_p42 : lw_okq (⟨"StackYardModel", "shines", "(I)V"⟩, 33) := ⟨⟨by decide +kernel, by decide +kernel⟩, List.mem_of_getElem? (i := 837) (by decide +kernel), List.mem_of_getElem? (i := 1212) (by decide +kernel), List.mem_of_getElem? (i := 1213) (by decide +kernel)⟩
theorem lw_p43 : lw_okq (⟨"StackYardModel", "isStand", "(I)Z"⟩, 33) := ⟨⟨by decide +kernel, by decide +kernel⟩, List.mem_of_getElem? (i := 837) (by decide +kernel), List.mem_of_getElem? (i := 1228) (by decide +kernel), List.mem_of_getElem? (i := 1229) (by decide +kernel)⟩
theorem lw_p44 : lw_okq (⟨"StackYardModel", "isFree", "(I)Z"⟩, 33) := ⟨⟨by decide +kernel, by decide +kernel⟩, List.mem_of_getElem? (i := 837) (by decide +kernel), List.mem_of_getElem? (i := 1232) (by decide +kernel), List.mem_of_getElem? (i := 1233) (by decide +kernel)⟩
theorem lw_p45 : lw_okq (⟨"StackYardModel", "goes", "(III)I"⟩, 33) := ⟨⟨by decide +kernel, by decide +kernel⟩, List.mem_of_getElem? (i := 837) (by decide +kernel), List.mem_of_getElem? (i := 1240) (by decide +kernel), List.mem_of_getElem? (i := 1241) (by decide +kernel)⟩
theorem lw_p46 : lw_okq (⟨"StackYardModel", "findBlocks", "(I)V"⟩, 33) := ⟨⟨by decide +kernel, by decide +kernel⟩, List.mem_of_getElem? (i := 837) (by decide +kernel), List.mem_of_getElem? (i := 1244) (by decide +kernel), List.mem_of_getElem? (i := 1245) (by decide +kernel)⟩
theorem lw_p47 : lw_okq (⟨"StackYardModel", "goesIn", "(IIII)Z"⟩, 33) := ⟨⟨by decide +kernel, by decide +kernel⟩, List.mem_of_getElem? (i := 837) (by decide +kernel), List.mem_of_getElem? (i := 1248) (by decide +kernel), List.mem_of_getElem? (i := 1249) (by decide +kernel)⟩
def lw_privs_3 : List (MethodName × Nat) := [(⟨"StackYardModel", "turnOf", "(II)I"⟩, 33), (⟨"StackYardModel", "kindBeside", "(III)I"⟩, 33), (⟨"StackYardModel", "reads", "(I)V"⟩, 33), (⟨"StackYardModel", "along", "(I)I"⟩, 33), (⟨"StackYardModel", "findParts", "(I)V"⟩, 33), (⟨"StackYardModel", "isLoose", "(II)Z"⟩, 33), (⟨"StackYardModel", "falls", "(II)I"⟩, 33), (⟨"StackYardModel", "nextToFall", "(I)I"⟩, 33), (⟨"StackYardModel", "fall", "(III)V"⟩, 33), (⟨"StackYardModel", "loadOf", "(II)I"⟩, 33), (⟨"StackYardModel", "shines", "(I)V"⟩, 33), (⟨"StackYardModel", "isStand", "(I)Z"⟩, 33), (⟨"StackYardModel", "isFree", "(I)Z"⟩, 33), (⟨"StackYardModel", "goes", "(III)I"⟩, 33), (⟨"StackYardModel", "findBlocks", "(I)V"⟩, 33), (⟨"StackYardModel", "goesIn", "(IIII)Z"⟩, 33)]
theorem lw_r3 : ∀ q ∈ lw_privs_3, lw_okq q := List.forall_mem_cons.mpr ⟨lw_p32, List.forall_mem_cons.mpr ⟨lw_p33, List.forall_mem_cons.mpr ⟨lw_p34, List.forall_mem_cons.mpr ⟨lw_p35, List.forall_mem_cons.mpr ⟨lw_p36, List.forall_mem_cons.mpr ⟨lw_p37, List.forall_mem_cons.mpr ⟨lw_p38, List.forall_mem_cons.mpr ⟨lw_p39, List.forall_mem_cons.mpr ⟨lw_p40, List.forall_mem_cons.mpr ⟨lw_p41, List.forall_mem_cons.mpr ⟨lw_p42, List.forall_mem_cons.mpr ⟨lw_p43, List.forall_mem_cons.mpr ⟨lw_p44, List.forall_mem_cons.mpr ⟨lw_p45, List.forall_mem_cons.mpr ⟨lw_p46, List.forall_mem_cons.mpr ⟨lw_p47, fun _ h => absurd h List.not_mem_nil⟩⟩⟩⟩⟩⟩⟩⟩⟩⟩⟩⟩⟩⟩⟩⟩
def lw_privs : List (MethodName × Nat) := lw_privs_1 ++ (lw_privs_2 ++ (lw_privs_3))
def lw_tbl : List Cond := k2_sels lw_privs ++ tables_1
theorem lw_privs_ok : ∀ q ∈ lw_privs, lw_okq q := by
  show ∀ q ∈ lw_privs_1 ++ (lw_privs_2 ++ (lw_privs_3)), lw_okq q
  exact List.forall_mem_append.mpr ⟨lw_r1, List.forall_mem_append.mpr ⟨lw_r2, lw_r3⟩⟩
end
section
def RX0 : String := "StackYard$Box"
def TX0 : u_T := fun k => match k with
  | 0 => ("StackYard$Box", "from", "[I", true)
  | _ => ("StackYard$Box", "upTo", "[I", true)
def tyX0 : Nat → FieldType := fun k => match k with
  | 0 => .array .int
  | _ => .array .int
theorem nmX0 : ∀ a, a < 2 → ∀ b, b < 2 → a ≠ b → (TX0 a).2.1 ≠ (TX0 b).2.1 := by decide +kernel
theorem tyX0_ok : ∀ k, k < 2 → parseFieldDescriptor (TX0 k).2.2.1 = some (tyX0 k) := by decide +kernel
abbrev cX0_init : ByteArray := prog_2_method_1_code
def yX0_init : MethodName := ⟨RX0, "<init>", "()V"⟩
abbrev cX0_become : ByteArray := prog_2_method_2_code
def yX0_become : MethodName := ⟨RX0, "become", "(I)Z"⟩
abbrev cX0_holds : ByteArray := prog_2_method_3_code
def yX0_holds : MethodName := ⟨RX0, "holds", "(I)Z"⟩
abbrev cX0_goesToItself : ByteArray := prog_2_method_4_code
def yX0_goesToItself : MethodName := ⟨RX0, "goesToItself", "(I)Z"⟩
abbrev cX0_turned : ByteArray := prog_2_method_5_code
def yX0_turned : MethodName := ⟨RX0, "turned", "(II)I"⟩
def RX1 : String := "StackYard$Grid"
def TX1 : u_T := fun k => match k with
  | 0 => ("StackYard$Grid", "codes", "[I", true)
  | 1 => ("StackYard$Grid", "listed", "[I", true)
  | _ => ("StackYard$Grid", "blocks", "I", false)
def tyX1 : Nat → FieldType := fun k => match k with
  | 0 => .array .int
  | 1 => .array .int
  | _ => .int
theorem nmX1 : ∀ a, a < 3 → ∀ b, b < 3 → a ≠ b → (TX1 a).2.1 ≠ (TX1 b).2.1 := by decide +kernel
theorem tyX1_ok : ∀ k, k < 3 → parseFieldDescriptor (TX1 k).2.2.1 = some (tyX1 k) := by decide +kernel
abbrev cX1_init : ByteArray := prog_3_method_1_code
def yX1_init : MethodName := ⟨RX1, "<init>", "()V"⟩
abbrev cX1_read : ByteArray := prog_3_method_2_code
def yX1_read : MethodName := ⟨RX1, "read", "(LStackYard$Yard;)V"⟩
abbrev cX1_readRow : ByteArray := prog_3_method_3_code
def yX1_readRow : MethodName := ⟨RX1, "readRow", "(LStackYard$Row;I)V"⟩
abbrev cX1_listOnly : ByteArray := prog_3_method_4_code
def yX1_listOnly : MethodName := ⟨RX1, "listOnly", "(LStackYard$Box;)V"⟩
abbrev cX1_code : ByteArray := prog_3_method_5_code
def yX1_code : MethodName := ⟨RX1, "code", "(I)I"⟩
abbrev cX1_write : ByteArray := prog_3_method_6_code
def yX1_write : MethodName := ⟨RX1, "write", "(II)V"⟩
abbrev cX1_isBlock : ByteArray := prog_3_method_7_code
def yX1_isBlock : MethodName := ⟨RX1, "isBlock", "(I)Z"⟩
abbrev cX1_beside : ByteArray := prog_3_method_8_code
def yX1_beside : MethodName := ⟨RX1, "beside", "(II)I"⟩
abbrev cX1_bareSides : ByteArray := prog_3_method_9_code
def yX1_bareSides : MethodName := ⟨RX1, "bareSides", "(I)I"⟩
abbrev cX1_least : ByteArray := prog_3_method_10_code
def yX1_least : MethodName := ⟨RX1, "least", "(I)I"⟩
abbrev cX1_most : ByteArray := prog_3_method_11_code
def yX1_most : MethodName := ⟨RX1, "most", "(I)I"⟩
abbrev cX1_bears : ByteArray := prog_3_method_12_code
def yX1_bears : MethodName := ⟨RX1, "bears", "(LStackYard$Grid;I)Z"⟩
def RX2 : String := "StackYard$Kinds"
def TX2 : u_T := fun k => match k with
  | 0 => ("StackYard$Kinds", "weights", "[I", true)
  | 1 => ("StackYard$Kinds", "strengths", "[I", true)
  | 2 => ("StackYard$Kinds", "lights", "[I", true)
  | 3 => ("StackYard$Kinds", "losses", "[I", true)
  | 4 => ("StackYard$Kinds", "hanging", "[Z", true)
  | _ => ("StackYard$Kinds", "number", "I", false)
def tyX2 : Nat → FieldType := fun k => match k with
  | 0 => .array .int
  | 1 => .array .int
  | 2 => .array .int
  | 3 => .array .int
  | 4 => .array .boolean
  | _ => .int
theorem nmX2 : ∀ a, a < 6 → ∀ b, b < 6 → a ≠ b → (TX2 a).2.1 ≠ (TX2 b).2.1 := by decide +kernel
theorem tyX2_ok : ∀ k, k < 6 → parseFieldDescriptor (TX2 k).2.2.1 = some (tyX2 k) := by decide +kernel
abbrev cX2_init : ByteArray := prog_4_method_1_code
def yX2_init : MethodName := ⟨RX2, "<init>", "()V"⟩
abbrev cX2_add : ByteArray := prog_4_method_2_code
def yX2_add : MethodName := ⟨RX2, "add", "(IIIIZ)I"⟩
abbrev cX2_isKind : ByteArray := prog_4_method_3_code
def yX2_isKind : MethodName := ⟨RX2, "isKind", "(I)Z"⟩
abbrev cX2_isKindOrOpen : ByteArray := prog_4_method_4_code
def yX2_isKindOrOpen : MethodName := ⟨RX2, "isKindOrOpen", "(I)Z"⟩
abbrev cX2_strengthOf : ByteArray := prog_4_method_5_code
def yX2_strengthOf : MethodName := ⟨RX2, "strengthOf", "(I)I"⟩
abbrev cX2_lightOf : ByteArray := prog_4_method_6_code
def yX2_lightOf : MethodName := ⟨RX2, "lightOf", "(I)I"⟩
abbrev cX2_lossOf : ByteArray := prog_4_method_7_code
def yX2_lossOf : MethodName := ⟨RX2, "lossOf", "(I)I"⟩
abbrev cX2_hangs : ByteArray := prog_4_method_8_code
def yX2_hangs : MethodName := ⟨RX2, "hangs", "(I)Z"⟩
abbrev cX2_loadOn : ByteArray := prog_4_method_9_code
def yX2_loadOn : MethodName := ⟨RX2, "loadOn", "(ILStackYard$Grid;)I"⟩
def RX3 : String := "StackYard$Lamps"
def TX3 : u_T := fun k => match k with
  | _ => ("StackYard$Lamps", "levels", "[I", true)
def tyX3 : Nat → FieldType := fun k => match k with
  | _ => .array .int
theorem nmX3 : ∀ a, a < 1 → ∀ b, b < 1 → a ≠ b → (TX3 a).2.1 ≠ (TX3 b).2.1 := by decide +kernel
theorem tyX3_ok : ∀ k, k < 1 → parseFieldDescriptor (TX3 k).2.2.1 = some (tyX3 k) := by decide +kernel
abbrev cX3_init : ByteArray := prog_5_method_1_code
def yX3_init : MethodName := ⟨RX3, "<init>", "()V"⟩
abbrev cX3_shine : ByteArray := prog_5_method_2_code
def yX3_shine : MethodName := ⟨RX3, "shine", "(LStackYard$Grid;LStackYard$Kinds;)V"⟩
abbrev cX3_spread : ByteArray := prog_5_method_3_code
def yX3_spread : MethodName := ⟨RX3, "spread", "(ILStackYard$Grid;LStackYard$Kinds;)V"⟩
def RX4 : String := "StackYard$Layer"
def TX4 : u_T := fun k => match k with
  | 0 => ("StackYard$Layer", "rows", "[LStackYard$Row;", true)
  | _ => ("StackYard$Layer", "holders", "I", false)
def tyX4 : Nat → FieldType := fun k => match k with
  | 0 => .array (.object "StackYard$Row")
  | _ => .int
theorem nmX4 : ∀ a, a < 2 → ∀ b, b < 2 → a ≠ b → (TX4 a).2.1 ≠ (TX4 b).2.1 := by decide +kernel
theorem tyX4_ok : ∀ k, k < 2 → parseFieldDescriptor (TX4 k).2.2.1 = some (tyX4 k) := by decide +kernel
abbrev cX4_init : ByteArray := prog_6_method_1_code
def yX4_init : MethodName := ⟨RX4, "<init>", "()V"⟩
abbrev cX4_hold : ByteArray := prog_6_method_2_code
def yX4_hold : MethodName := ⟨RX4, "hold", "(LStackYard$Ledger;)V"⟩
abbrev cX4_release : ByteArray := prog_6_method_3_code
def yX4_release : MethodName := ⟨RX4, "release", "(LStackYard$Ledger;)V"⟩
abbrev cX4_setRow : ByteArray := prog_6_method_4_code
def yX4_setRow : MethodName := ⟨RX4, "setRow", "(ILStackYard$Row;LStackYard$Ledger;)V"⟩
def RX5 : String := "StackYard$Ledger"
def TX5 : u_T := fun k => match k with
  | 0 => ("StackYard$Ledger", "layersMade", "I", false)
  | 1 => ("StackYard$Ledger", "rowsMade", "I", false)
  | 2 => ("StackYard$Ledger", "layersHeld", "I", false)
  | _ => ("StackYard$Ledger", "rowsHeld", "I", false)
def tyX5 : Nat → FieldType := fun k => match k with
  | 0 => .int
  | 1 => .int
  | 2 => .int
  | _ => .int
theorem nmX5 : ∀ a, a < 4 → ∀ b, b < 4 → a ≠ b → (TX5 a).2.1 ≠ (TX5 b).2.1 := by decide +kernel
theorem tyX5_ok : ∀ k, k < 4 → parseFieldDescriptor (TX5 k).2.2.1 = some (tyX5 k) := by decide +kernel
abbrev cX5_init : ByteArray := prog_7_method_1_code
def yX5_init : MethodName := ⟨RX5, "<init>", "()V"⟩
def RX6 : String := "StackYard$Parts"
def TX6 : u_T := fun k => match k with
  | 0 => ("StackYard$Parts", "labels", "[I", true)
  | 1 => ("StackYard$Parts", "members", "[I", true)
  | 2 => ("StackYard$Parts", "starts", "[I", true)
  | 3 => ("StackYard$Parts", "carried", "[I", true)
  | _ => ("StackYard$Parts", "number", "I", false)
def tyX6 : Nat → FieldType := fun k => match k with
  | 0 => .array .int
  | 1 => .array .int
  | 2 => .array .int
  | 3 => .array .int
  | _ => .int
theorem nmX6 : ∀ a, a < 5 → ∀ b, b < 5 → a ≠ b → (TX6 a).2.1 ≠ (TX6 b).2.1 := by decide +kernel
theorem tyX6_ok : ∀ k, k < 5 → parseFieldDescriptor (TX6 k).2.2.1 = some (tyX6 k) := by decide +kernel
abbrev cX6_init : ByteArray := prog_8_method_1_code
def yX6_init : MethodName := ⟨RX6, "<init>", "()V"⟩
abbrev cX6_find : ByteArray := prog_8_method_2_code
def yX6_find : MethodName := ⟨RX6, "find", "(LStackYard$Grid;)V"⟩
abbrev cX6_gather : ByteArray := prog_8_method_3_code
def yX6_gather : MethodName := ⟨RX6, "gather", "(LStackYard$Grid;II)I"⟩
abbrev cX6_sizeOf : ByteArray := prog_8_method_4_code
def yX6_sizeOf : MethodName := ⟨RX6, "sizeOf", "(I)I"⟩
abbrev cX6_firstOf : ByteArray := prog_8_method_5_code
def yX6_firstOf : MethodName := ⟨RX6, "firstOf", "(I)I"⟩
abbrev cX6_isLoose : ByteArray := prog_8_method_6_code
def yX6_isLoose : MethodName := ⟨RX6, "isLoose", "(ILStackYard$Grid;LStackYard$Kinds;)Z"⟩
abbrev cX6_stepsOf : ByteArray := prog_8_method_7_code
def yX6_stepsOf : MethodName := ⟨RX6, "stepsOf", "(ILStackYard$Grid;)I"⟩
abbrev cX6_freeBelow : ByteArray := prog_8_method_8_code
def yX6_freeBelow : MethodName := ⟨RX6, "freeBelow", "(IILStackYard$Grid;)I"⟩
abbrev cX6_nextToFall : ByteArray := prog_8_method_9_code
def yX6_nextToFall : MethodName := ⟨RX6, "nextToFall", "(LStackYard$Grid;LStackYard$Kinds;)I"⟩
abbrev cX6_lower : ByteArray := prog_8_method_10_code
def yX6_lower : MethodName := ⟨RX6, "lower", "(IILStackYard$Grid;LStackYard$Yard;)V"⟩
def RX7 : String := "StackYard$Row"
def TX7 : u_T := fun k => match k with
  | 0 => ("StackYard$Row", "cells", "[I", true)
  | _ => ("StackYard$Row", "holders", "I", false)
def tyX7 : Nat → FieldType := fun k => match k with
  | 0 => .array .int
  | _ => .int
theorem nmX7 : ∀ a, a < 2 → ∀ b, b < 2 → a ≠ b → (TX7 a).2.1 ≠ (TX7 b).2.1 := by decide +kernel
theorem tyX7_ok : ∀ k, k < 2 → parseFieldDescriptor (TX7 k).2.2.1 = some (tyX7 k) := by decide +kernel
abbrev cX7_init : ByteArray := prog_9_method_1_code
def yX7_init : MethodName := ⟨RX7, "<init>", "([I)V"⟩
abbrev cX7_hold : ByteArray := prog_9_method_2_code
def yX7_hold : MethodName := ⟨RX7, "hold", "(LStackYard$Ledger;)V"⟩
abbrev cX7_release : ByteArray := prog_9_method_3_code
def yX7_release : MethodName := ⟨RX7, "release", "(LStackYard$Ledger;)V"⟩
def RX8 : String := "StackYard$Turns"
def TX8 : u_T := fun k => match k with
  | _ => ("", "", "", false)
def tyX8 : Nat → FieldType := fun k => match k with
  | _ => .int
theorem nmX8 : ∀ a, a < 0 → ∀ b, b < 0 → a ≠ b → (TX8 a).2.1 ≠ (TX8 b).2.1 := by decide +kernel
theorem tyX8_ok : ∀ k, k < 0 → parseFieldDescriptor (TX8 k).2.2.1 = some (tyX8 k) := by decide +kernel
abbrev cX8_isTurn : ByteArray := prog_10_method_2_code
def yX8_isTurn : MethodName := ⟨RX8, "isTurn", "(I)Z"⟩
abbrev cX8_axisOf : ByteArray := prog_10_method_3_code
def yX8_axisOf : MethodName := ⟨RX8, "axisOf", "(II)I"⟩
abbrev cX8_signOf : ByteArray := prog_10_method_4_code
def yX8_signOf : MethodName := ⟨RX8, "signOf", "(II)I"⟩
abbrev cX8_after : ByteArray := prog_10_method_5_code
def yX8_after : MethodName := ⟨RX8, "after", "(II)I"⟩
def RX9 : String := "StackYard$Walk"
def TX9 : u_T := fun k => match k with
  | 0 => ("StackYard$Walk", "distances", "[I", true)
  | 1 => ("StackYard$Walk", "queue", "[I", true)
  | _ => ("StackYard$Walk", "reached", "I", false)
def tyX9 : Nat → FieldType := fun k => match k with
  | 0 => .array .int
  | 1 => .array .int
  | _ => .int
theorem nmX9 : ∀ a, a < 3 → ∀ b, b < 3 → a ≠ b → (TX9 a).2.1 ≠ (TX9 b).2.1 := by decide +kernel
theorem tyX9_ok : ∀ k, k < 3 → parseFieldDescriptor (TX9 k).2.2.1 = some (tyX9 k) := by decide +kernel
abbrev cX9_init : ByteArray := prog_11_method_1_code
def yX9_init : MethodName := ⟨RX9, "<init>", "()V"⟩
abbrev cX9_steps : ByteArray := prog_11_method_2_code
def yX9_steps : MethodName := ⟨RX9, "steps", "(LStackYard$Grid;II)I"⟩
abbrev cX9_isStand : ByteArray := prog_11_method_3_code
def yX9_isStand : MethodName := ⟨RX9, "isStand", "(LStackYard$Grid;I)Z"⟩
abbrev cX9_leave : ByteArray := prog_11_method_4_code
def yX9_leave : MethodName := ⟨RX9, "leave", "(LStackYard$Grid;I)V"⟩
abbrev cX9_reach : ByteArray := prog_11_method_5_code
def yX9_reach : MethodName := ⟨RX9, "reach", "(LStackYard$Grid;II)V"⟩
def RX10 : String := "StackYard$Yard"
def TX10 : u_T := fun k => match k with
  | 0 => ("StackYard$Yard", "ledger", "LStackYard$Ledger;", true)
  | _ => ("StackYard$Yard", "layers", "[LStackYard$Layer;", true)
def tyX10 : Nat → FieldType := fun k => match k with
  | 0 => .object "StackYard$Ledger"
  | _ => .array (.object "StackYard$Layer")
theorem nmX10 : ∀ a, a < 2 → ∀ b, b < 2 → a ≠ b → (TX10 a).2.1 ≠ (TX10 b).2.1 := by decide +kernel
theorem tyX10_ok : ∀ k, k < 2 → parseFieldDescriptor (TX10 k).2.2.1 = some (tyX10 k) := by decide +kernel
abbrev cX10_init : ByteArray := prog_12_method_1_code
def yX10_init : MethodName := ⟨RX10, "<init>", "(LStackYard$Ledger;)V"⟩
abbrev cX10_layerAt : ByteArray := prog_12_method_2_code
def yX10_layerAt : MethodName := ⟨RX10, "layerAt", "(I)LStackYard$Layer;"⟩
abbrev cX10_rowAt : ByteArray := prog_12_method_3_code
def yX10_rowAt : MethodName := ⟨RX10, "rowAt", "(II)LStackYard$Row;"⟩
abbrev cX10_refusal : ByteArray := prog_12_method_4_code
def yX10_refusal : MethodName := ⟨RX10, "refusal", "(III)I"⟩
abbrev cX10_codeAt : ByteArray := prog_12_method_5_code
def yX10_codeAt : MethodName := ⟨RX10, "codeAt", "(I)I"⟩
abbrev cX10_setLayer : ByteArray := prog_12_method_6_code
def yX10_setLayer : MethodName := ⟨RX10, "setLayer", "(ILStackYard$Layer;)V"⟩
abbrev cX10_addLayer : ByteArray := prog_12_method_7_code
def yX10_addLayer : MethodName := ⟨RX10, "addLayer", "(I)V"⟩
abbrev cX10_addRow : ByteArray := prog_12_method_8_code
def yX10_addRow : MethodName := ⟨RX10, "addRow", "(III)V"⟩
abbrev cX10_take : ByteArray := prog_12_method_9_code
def yX10_take : MethodName := ⟨RX10, "take", "(LStackYard$Yard;)V"⟩
abbrev cX10_clear : ByteArray := prog_12_method_10_code
def yX10_clear : MethodName := ⟨RX10, "clear", "()V"⟩
abbrev cX10_change : ByteArray := prog_12_method_11_code
def yX10_change : MethodName := ⟨RX10, "change", "(II)Z"⟩
abbrev cX10_ownLayer : ByteArray := prog_12_method_12_code
def yX10_ownLayer : MethodName := ⟨RX10, "ownLayer", "(I)LStackYard$Layer;"⟩
abbrev cX10_ownRow : ByteArray := prog_12_method_13_code
def yX10_ownRow : MethodName := ⟨RX10, "ownRow", "(II)LStackYard$Row;"⟩
def RX11 : String := "StackYard"
def TX11 : u_T := fun k => match k with
  | 0 => ("StackYard", "ledger", "LStackYard$Ledger;", true)
  | 1 => ("StackYard", "kinds", "LStackYard$Kinds;", true)
  | 2 => ("StackYard", "region", "LStackYard$Box;", true)
  | 3 => ("StackYard", "yards", "[LStackYard$Yard;", true)
  | 4 => ("StackYard", "slots", "[LStackYard$Yard;", true)
  | 5 => ("StackYard", "keeping", "[Z", true)
  | 6 => ("StackYard", "grid", "LStackYard$Grid;", true)
  | 7 => ("StackYard", "second", "LStackYard$Grid;", true)
  | 8 => ("StackYard", "lumps", "LStackYard$Parts;", true)
  | 9 => ("StackYard", "lamps", "LStackYard$Lamps;", true)
  | 10 => ("StackYard", "walk", "LStackYard$Walk;", true)
  | 11 => ("StackYard", "fallenFrom", "[I", true)
  | 12 => ("StackYard", "fallenSteps", "[I", true)
  | _ => ("StackYard", "fell", "I", false)
def tyX11 : Nat → FieldType := fun k => match k with
  | 0 => .object "StackYard$Ledger"
  | 1 => .object "StackYard$Kinds"
  | 2 => .object "StackYard$Box"
  | 3 => .array (.object "StackYard$Yard")
  | 4 => .array (.object "StackYard$Yard")
  | 5 => .array .boolean
  | 6 => .object "StackYard$Grid"
  | 7 => .object "StackYard$Grid"
  | 8 => .object "StackYard$Parts"
  | 9 => .object "StackYard$Lamps"
  | 10 => .object "StackYard$Walk"
  | 11 => .array .int
  | 12 => .array .int
  | _ => .int
theorem nmX11 : ∀ a, a < 14 → ∀ b, b < 14 → a ≠ b → (TX11 a).2.1 ≠ (TX11 b).2.1 := by decide +kernel
theorem tyX11_ok : ∀ k, k < 14 → parseFieldDescriptor (TX11 k).2.2.1 = some (tyX11 k) := by decide +kernel
abbrev cX11_init : ByteArray := prog_1_method_1_code
def yX11_init : MethodName := ⟨RX11, "<init>", "()V"⟩
abbrev cX11_kind : ByteArray := prog_1_method_2_code
def yX11_kind : MethodName := ⟨RX11, "kind", "(IIIIZ)I"⟩
abbrev cX11_product : ByteArray := prog_1_method_3_code
def yX11_product : MethodName := ⟨RX11, "product", "(II)I"⟩
abbrev cX11_layer : ByteArray := prog_1_method_4_code
def yX11_layer : MethodName := ⟨RX11, "layer", "(II)Z"⟩
abbrev cX11_row : ByteArray := prog_1_method_5_code
def yX11_row : MethodName := ⟨RX11, "row", "(IIII)I"⟩
abbrev cX11_less : ByteArray := prog_1_method_6_code
def yX11_less : MethodName := ⟨RX11, "less", "(II)Z"⟩
abbrev cX11_put : ByteArray := prog_1_method_7_code
def yX11_put : MethodName := ⟨RX11, "put", "(IIIII)I"⟩
abbrev cX11_face : ByteArray := prog_1_method_8_code
def yX11_face : MethodName := ⟨RX11, "face", "(IIIII)I"⟩
abbrev cX11_there : ByteArray := prog_1_method_9_code
def yX11_there : MethodName := ⟨RX11, "there", "(IIII)I"⟩
abbrev cX11_at : ByteArray := prog_1_method_10_code
def yX11_at : MethodName := ⟨RX11, "at", "(IIII)I"⟩
abbrev cX11_turnAt : ByteArray := prog_1_method_11_code
def yX11_turnAt : MethodName := ⟨RX11, "turnAt", "(IIII)I"⟩
abbrev cX11_share : ByteArray := prog_1_method_12_code
def yX11_share : MethodName := ⟨RX11, "share", "(II)Z"⟩
abbrev cX11_keep : ByteArray := prog_1_method_13_code
def yX11_keep : MethodName := ⟨RX11, "keep", "(II)Z"⟩
abbrev cX11_back : ByteArray := prog_1_method_14_code
def yX11_back : MethodName := ⟨RX11, "back", "(II)Z"⟩
abbrev cX11_forget : ByteArray := prog_1_method_15_code
def yX11_forget : MethodName := ⟨RX11, "forget", "(I)Z"⟩
abbrev cX11_same : ByteArray := prog_1_method_16_code
def yX11_same : MethodName := ⟨RX11, "same", "(IIIII)I"⟩
abbrev cX11_made : ByteArray := prog_1_method_17_code
def yX11_made : MethodName := ⟨RX11, "made", "(I)I"⟩
abbrev cX11_box : ByteArray := prog_1_method_18_code
def yX11_box : MethodName := ⟨RX11, "box", "(I)Z"⟩
abbrev cX11_fill : ByteArray := prog_1_method_19_code
def yX11_fill : MethodName := ⟨RX11, "fill", "(III)I"⟩
abbrev cX11_replace : ByteArray := prog_1_method_20_code
def yX11_replace : MethodName := ⟨RX11, "replace", "(III)I"⟩
abbrev cX11_count : ByteArray := prog_1_method_21_code
def yX11_count : MethodName := ⟨RX11, "count", "(II)I"⟩
abbrev cX11_hollow : ByteArray := prog_1_method_22_code
def yX11_hollow : MethodName := ⟨RX11, "hollow", "(I)I"⟩
abbrev cX11_move : ByteArray := prog_1_method_23_code
def yX11_move : MethodName := ⟨RX11, "move", "(IIIZ)I"⟩
abbrev cX11_turnBox : ByteArray := prog_1_method_24_code
def yX11_turnBox : MethodName := ⟨RX11, "turnBox", "(II)I"⟩
abbrev cX11_cut : ByteArray := prog_1_method_25_code
def yX11_cut : MethodName := ⟨RX11, "cut", "(IIIII)I"⟩
abbrev cX11_parts : ByteArray := prog_1_method_26_code
def yX11_parts : MethodName := ⟨RX11, "parts", "(I)I"⟩
abbrev cX11_part : ByteArray := prog_1_method_27_code
def yX11_part : MethodName := ⟨RX11, "part", "(IIII)I"⟩
abbrev cX11_partOf : ByteArray := prog_1_method_28_code
def yX11_partOf : MethodName := ⟨RX11, "partOf", "(III)I"⟩
abbrev cX11_settle : ByteArray := prog_1_method_29_code
def yX11_settle : MethodName := ⟨RX11, "settle", "(I)I"⟩
abbrev cX11_fallen : ByteArray := prog_1_method_30_code
def yX11_fallen : MethodName := ⟨RX11, "fallen", "(II)I"⟩
abbrev cX11_load : ByteArray := prog_1_method_31_code
def yX11_load : MethodName := ⟨RX11, "load", "(IIII)I"⟩
abbrev cX11_overloaded : ByteArray := prog_1_method_32_code
def yX11_overloaded : MethodName := ⟨RX11, "overloaded", "(I)I"⟩
abbrev cX11_light : ByteArray := prog_1_method_33_code
def yX11_light : MethodName := ⟨RX11, "light", "(IIII)I"⟩
abbrev cX11_dark : ByteArray := prog_1_method_34_code
def yX11_dark : MethodName := ⟨RX11, "dark", "(II)I"⟩
abbrev cX11_faces : ByteArray := prog_1_method_35_code
def yX11_faces : MethodName := ⟨RX11, "faces", "(I)I"⟩
abbrev cX11_path : ByteArray := prog_1_method_36_code
def yX11_path : MethodName := ⟨RX11, "path", "(III)I"⟩
abbrev cX11_places : ByteArray := prog_1_method_37_code
def yX11_places : MethodName := ⟨RX11, "places", "(II)I"⟩
abbrev cX11_place : ByteArray := prog_1_method_38_code
def yX11_place : MethodName := ⟨RX11, "place", "(III)I"⟩
abbrev cX11_differs : ByteArray := prog_1_method_39_code
def yX11_differs : MethodName := ⟨RX11, "differs", "(II)I"⟩
abbrev cX11_isYard : ByteArray := prog_1_method_40_code
def yX11_isYard : MethodName := ⟨RX11, "isYard", "(I)Z"⟩
abbrev cX11_isSlot : ByteArray := prog_1_method_41_code
def yX11_isSlot : MethodName := ⟨RX11, "isSlot", "(I)Z"⟩
abbrev cX11_isPlace : ByteArray := prog_1_method_42_code
def yX11_isPlace : MethodName := ⟨RX11, "isPlace", "(I)Z"⟩
abbrev cX11_isCell : ByteArray := prog_1_method_43_code
def yX11_isCell : MethodName := ⟨RX11, "isCell", "(I)Z"⟩
abbrev cX11_cellOf : ByteArray := prog_1_method_44_code
def yX11_cellOf : MethodName := ⟨RX11, "cellOf", "(III)I"⟩
abbrev cX11_zOf : ByteArray := prog_1_method_45_code
def yX11_zOf : MethodName := ⟨RX11, "zOf", "(I)I"⟩
abbrev cX11_xOf : ByteArray := prog_1_method_46_code
def yX11_xOf : MethodName := ⟨RX11, "xOf", "(I)I"⟩
abbrev cX11_wOf : ByteArray := prog_1_method_47_code
def yX11_wOf : MethodName := ⟨RX11, "wOf", "(I)I"⟩
abbrev cX11_strideOf : ByteArray := prog_1_method_48_code
def yX11_strideOf : MethodName := ⟨RX11, "strideOf", "(I)I"⟩
abbrev cX11_along : ByteArray := prog_1_method_49_code
def yX11_along : MethodName := ⟨RX11, "along", "(II)I"⟩
abbrev cX11_codeOf : ByteArray := prog_1_method_50_code
def yX11_codeOf : MethodName := ⟨RX11, "codeOf", "(II)I"⟩
abbrev cX11_kindOf : ByteArray := prog_1_method_51_code
def yX11_kindOf : MethodName := ⟨RX11, "kindOf", "(I)I"⟩
abbrev cX11_turnOf : ByteArray := prog_1_method_52_code
def yX11_turnOf : MethodName := ⟨RX11, "turnOf", "(I)I"⟩
abbrev cX11_tellShift : ByteArray := prog_1_method_53_code
def yX11_tellShift : MethodName := ⟨RX11, "tellShift", "(III)I"⟩
abbrev cX11_isShift : ByteArray := prog_1_method_54_code
def yX11_isShift : MethodName := ⟨RX11, "isShift", "(I)Z"⟩
abbrev cX11_furtherBy : ByteArray := prog_1_method_55_code
def yX11_furtherBy : MethodName := ⟨RX11, "furtherBy", "(II)I"⟩
abbrev cX11_codeIn : ByteArray := prog_1_method_56_code
def yX11_codeIn : MethodName := ⟨RX11, "codeIn", "(IIII)I"⟩
abbrev cX11_slotsKeeping : ByteArray := prog_1_method_57_code
def yX11_slotsKeeping : MethodName := ⟨RX11, "slotsKeeping", "()I"⟩
abbrev cX11_readBox : ByteArray := prog_1_method_58_code
def yX11_readBox : MethodName := ⟨RX11, "readBox", "(I)V"⟩
abbrev cX11_findParts : ByteArray := prog_1_method_59_code
def yX11_findParts : MethodName := ⟨RX11, "findParts", "(I)V"⟩
abbrev cX11_noteFall : ByteArray := prog_1_method_60_code
def yX11_noteFall : MethodName := ⟨RX11, "noteFall", "(II)V"⟩
abbrev cX11_seekWay : ByteArray := prog_1_method_61_code
def yX11_seekWay : MethodName := ⟨RX11, "seekWay", "(III)I"⟩
def RX12 : String := "StackYardModel"
def TX12 : u_T := fun k => match k with
  | 0 => ("StackYardModel", "thrown", "I", false)
  | 1 => ("StackYardModel", "kinds", "I", false)
  | 2 => ("StackYardModel", "weight", "[I", true)
  | 3 => ("StackYardModel", "strength", "[I", true)
  | 4 => ("StackYardModel", "shine", "[I", true)
  | 5 => ("StackYardModel", "loss", "[I", true)
  | 6 => ("StackYardModel", "hangs", "[Z", true)
  | 7 => ("StackYardModel", "held", "[I", true)
  | 8 => ("StackYardModel", "isKept", "[Z", true)
  | 9 => ("StackYardModel", "rowOf", "[I", true)
  | 10 => ("StackYardModel", "length", "[I", true)
  | 11 => ("StackYardModel", "cellKind", "[I", true)
  | 12 => ("StackYardModel", "cellTurn", "[I", true)
  | 13 => ("StackYardModel", "layersMade", "I", false)
  | 14 => ("StackYardModel", "rowsMade", "I", false)
  | 15 => ("StackYardModel", "rowMet", "[Z", true)
  | 16 => ("StackYardModel", "layerMet", "[Z", true)
  | 17 => ("StackYardModel", "low", "[I", true)
  | 18 => ("StackYardModel", "high", "[I", true)
  | 19 => ("StackYardModel", "readKind", "[I", true)
  | 20 => ("StackYardModel", "readTurn", "[I", true)
  | 21 => ("StackYardModel", "marked", "[Z", true)
  | 22 => ("StackYardModel", "partAt", "[I", true)
  | 23 => ("StackYardModel", "partFirst", "[I", true)
  | 24 => ("StackYardModel", "partMany", "I", false)
  | 25 => ("StackYardModel", "queue", "[I", true)
  | 26 => ("StackYardModel", "fell", "I", false)
  | 27 => ("StackYardModel", "fellFirst", "[I", true)
  | 28 => ("StackYardModel", "fellBy", "[I", true)
  | 29 => ("StackYardModel", "glow", "[I", true)
  | 30 => ("StackYardModel", "steps", "[I", true)
  | 31 => ("StackYardModel", "blocks", "[I", true)
  | _ => ("StackYardModel", "blockMany", "I", false)
def tyX12 : Nat → FieldType := fun k => match k with
  | 0 => .int
  | 1 => .int
  | 2 => .array .int
  | 3 => .array .int
  | 4 => .array .int
  | 5 => .array .int
  | 6 => .array .boolean
  | 7 => .array .int
  | 8 => .array .boolean
  | 9 => .array .int
  | 10 => .array .int
  | 11 => .array .int
  | 12 => .array .int
  | 13 => .int
  | 14 => .int
  | 15 => .array .boolean
  | 16 => .array .boolean
  | 17 => .array .int
  | 18 => .array .int
  | 19 => .array .int
  | 20 => .array .int
  | 21 => .array .boolean
  | 22 => .array .int
  | 23 => .array .int
  | 24 => .int
  | 25 => .array .int
  | 26 => .int
  | 27 => .array .int
  | 28 => .array .int
  | 29 => .array .int
  | 30 => .array .int
  | 31 => .array .int
  | _ => .int
theorem nmX12 : ∀ a, a < 33 → ∀ b, b < 33 → a ≠ b → (TX12 a).2.1 ≠ (TX12 b).2.1 := by decide +kernel
theorem tyX12_ok : ∀ k, k < 33 → parseFieldDescriptor (TX12 k).2.2.1 = some (tyX12 k) := by decide +kernel
abbrev cX12_init : ByteArray := prog_14_method_1_code
def yX12_init : MethodName := ⟨RX12, "<init>", "()V"⟩
abbrev cX12_thrown : ByteArray := prog_14_method_2_code
def yX12_thrown : MethodName := ⟨RX12, "thrown", "()I"⟩
abbrev cX12_in : ByteArray := prog_14_method_3_code
def yX12_in : MethodName := ⟨RX12, "in", "(III)Z"⟩
abbrev cX12_isYard : ByteArray := prog_14_method_4_code
def yX12_isYard : MethodName := ⟨RX12, "isYard", "(I)Z"⟩
abbrev cX12_isSlot : ByteArray := prog_14_method_5_code
def yX12_isSlot : MethodName := ⟨RX12, "isSlot", "(I)Z"⟩
abbrev cX12_isTurn : ByteArray := prog_14_method_6_code
def yX12_isTurn : MethodName := ⟨RX12, "isTurn", "(I)Z"⟩
abbrev cX12_to : ByteArray := prog_14_method_7_code
def yX12_to : MethodName := ⟨RX12, "to", "(II)I"⟩
abbrev cX12_sign : ByteArray := prog_14_method_8_code
def yX12_sign : MethodName := ⟨RX12, "sign", "(II)I"⟩
abbrev cX12_kind : ByteArray := prog_14_method_9_code
def yX12_kind : MethodName := ⟨RX12, "kind", "(IIIIZ)I"⟩
abbrev cX12_times : ByteArray := prog_14_method_10_code
def yX12_times : MethodName := ⟨RX12, "times", "(II)I"⟩
abbrev cX12_product : ByteArray := prog_14_method_11_code
def yX12_product : MethodName := ⟨RX12, "product", "(II)I"⟩
abbrev cX12_holdsOf : ByteArray := prog_14_method_12_code
def yX12_holdsOf : MethodName := ⟨RX12, "holdsOf", "(I)I"⟩
abbrev cX12_holdsOfRow : ByteArray := prog_14_method_13_code
def yX12_holdsOfRow : MethodName := ⟨RX12, "holdsOfRow", "(I)I"⟩
abbrev cX12_newLayer : ByteArray := prog_14_method_14_code
def yX12_newLayer : MethodName := ⟨RX12, "newLayer", "()I"⟩
abbrev cX12_meets : ByteArray := prog_14_method_15_code
def yX12_meets : MethodName := ⟨RX12, "meets", "()I"⟩
abbrev cX12_newRow : ByteArray := prog_14_method_16_code
def yX12_newRow : MethodName := ⟨RX12, "newRow", "()I"⟩
abbrev cX12_aloneLayer : ByteArray := prog_14_method_17_code
def yX12_aloneLayer : MethodName := ⟨RX12, "aloneLayer", "(II)V"⟩
abbrev cX12_aloneRow : ByteArray := prog_14_method_18_code
def yX12_aloneRow : MethodName := ⟨RX12, "aloneRow", "(III)V"⟩
abbrev cX12_isThere : ByteArray := prog_14_method_19_code
def yX12_isThere : MethodName := ⟨RX12, "isThere", "(IIII)I"⟩
abbrev cX12_cell : ByteArray := prog_14_method_20_code
def yX12_cell : MethodName := ⟨RX12, "cell", "(IIII)I"⟩
abbrev cX12_change : ByteArray := prog_14_method_21_code
def yX12_change : MethodName := ⟨RX12, "change", "(IIIIII)Z"⟩
abbrev cX12_layer : ByteArray := prog_14_method_22_code
def yX12_layer : MethodName := ⟨RX12, "layer", "(II)Z"⟩
abbrev cX12_row : ByteArray := prog_14_method_23_code
def yX12_row : MethodName := ⟨RX12, "row", "(IIII)I"⟩
abbrev cX12_less : ByteArray := prog_14_method_24_code
def yX12_less : MethodName := ⟨RX12, "less", "(II)Z"⟩
abbrev cX12_isKindOrOpen : ByteArray := prog_14_method_25_code
def yX12_isKindOrOpen : MethodName := ⟨RX12, "isKindOrOpen", "(I)Z"⟩
abbrev cX12_put : ByteArray := prog_14_method_26_code
def yX12_put : MethodName := ⟨RX12, "put", "(IIIII)I"⟩
abbrev cX12_face : ByteArray := prog_14_method_27_code
def yX12_face : MethodName := ⟨RX12, "face", "(IIIII)I"⟩
abbrev cX12_there : ByteArray := prog_14_method_28_code
def yX12_there : MethodName := ⟨RX12, "there", "(IIII)I"⟩
abbrev cX12_kindAt : ByteArray := prog_14_method_29_code
def yX12_kindAt : MethodName := ⟨RX12, "kindAt", "(IIII)I"⟩
abbrev cX12_at : ByteArray := prog_14_method_30_code
def yX12_at : MethodName := ⟨RX12, "at", "(IIII)I"⟩
abbrev cX12_turnAt : ByteArray := prog_14_method_31_code
def yX12_turnAt : MethodName := ⟨RX12, "turnAt", "(IIII)I"⟩
abbrev cX12_copy : ByteArray := prog_14_method_32_code
def yX12_copy : MethodName := ⟨RX12, "copy", "(II)V"⟩
abbrev cX12_share : ByteArray := prog_14_method_33_code
def yX12_share : MethodName := ⟨RX12, "share", "(II)Z"⟩
abbrev cX12_keep : ByteArray := prog_14_method_34_code
def yX12_keep : MethodName := ⟨RX12, "keep", "(II)Z"⟩
abbrev cX12_back : ByteArray := prog_14_method_35_code
def yX12_back : MethodName := ⟨RX12, "back", "(II)Z"⟩
abbrev cX12_forget : ByteArray := prog_14_method_36_code
def yX12_forget : MethodName := ⟨RX12, "forget", "(I)Z"⟩
abbrev cX12_same : ByteArray := prog_14_method_37_code
def yX12_same : MethodName := ⟨RX12, "same", "(IIIII)I"⟩
abbrev cX12_made : ByteArray := prog_14_method_38_code
def yX12_made : MethodName := ⟨RX12, "made", "(I)I"⟩
abbrev cX12_box : ByteArray := prog_14_method_39_code
def yX12_box : MethodName := ⟨RX12, "box", "(I)Z"⟩
abbrev cX12_isIn : ByteArray := prog_14_method_40_code
def yX12_isIn : MethodName := ⟨RX12, "isIn", "(I)Z"⟩
abbrev cX12_kindOf : ByteArray := prog_14_method_41_code
def yX12_kindOf : MethodName := ⟨RX12, "kindOf", "(II)I"⟩
abbrev cX12_turnOf : ByteArray := prog_14_method_42_code
def yX12_turnOf : MethodName := ⟨RX12, "turnOf", "(II)I"⟩
abbrev cX12_changeAt : ByteArray := prog_14_method_43_code
def yX12_changeAt : MethodName := ⟨RX12, "changeAt", "(IIII)Z"⟩
abbrev cX12_fill : ByteArray := prog_14_method_44_code
def yX12_fill : MethodName := ⟨RX12, "fill", "(III)I"⟩
abbrev cX12_replace : ByteArray := prog_14_method_45_code
def yX12_replace : MethodName := ⟨RX12, "replace", "(III)I"⟩
abbrev cX12_count : ByteArray := prog_14_method_46_code
def yX12_count : MethodName := ⟨RX12, "count", "(II)I"⟩
abbrev cX12_next : ByteArray := prog_14_method_47_code
def yX12_next : MethodName := ⟨RX12, "next", "(II)I"⟩
abbrev cX12_kindBeside : ByteArray := prog_14_method_48_code
def yX12_kindBeside : MethodName := ⟨RX12, "kindBeside", "(III)I"⟩
abbrev cX12_reads : ByteArray := prog_14_method_49_code
def yX12_reads : MethodName := ⟨RX12, "reads", "(I)V"⟩
abbrev cX12_hollow : ByteArray := prog_14_method_50_code
def yX12_hollow : MethodName := ⟨RX12, "hollow", "(I)I"⟩
abbrev cX12_move : ByteArray := prog_14_method_51_code
def yX12_move : MethodName := ⟨RX12, "move", "(IIIZ)I"⟩
abbrev cX12_along : ByteArray := prog_14_method_52_code
def yX12_along : MethodName := ⟨RX12, "along", "(I)I"⟩
abbrev cX12_turnBox : ByteArray := prog_14_method_53_code
def yX12_turnBox : MethodName := ⟨RX12, "turnBox", "(II)I"⟩
abbrev cX12_cut : ByteArray := prog_14_method_54_code
def yX12_cut : MethodName := ⟨RX12, "cut", "(IIIII)I"⟩
abbrev cX12_findParts : ByteArray := prog_14_method_55_code
def yX12_findParts : MethodName := ⟨RX12, "findParts", "(I)V"⟩
abbrev cX12_isLoose : ByteArray := prog_14_method_56_code
def yX12_isLoose : MethodName := ⟨RX12, "isLoose", "(II)Z"⟩
abbrev cX12_falls : ByteArray := prog_14_method_57_code
def yX12_falls : MethodName := ⟨RX12, "falls", "(II)I"⟩
abbrev cX12_parts : ByteArray := prog_14_method_58_code
def yX12_parts : MethodName := ⟨RX12, "parts", "(I)I"⟩
abbrev cX12_part : ByteArray := prog_14_method_59_code
def yX12_part : MethodName := ⟨RX12, "part", "(IIII)I"⟩
abbrev cX12_partOf : ByteArray := prog_14_method_60_code
def yX12_partOf : MethodName := ⟨RX12, "partOf", "(III)I"⟩
abbrev cX12_fall : ByteArray := prog_14_method_61_code
def yX12_fall : MethodName := ⟨RX12, "fall", "(III)V"⟩
abbrev cX12_nextToFall : ByteArray := prog_14_method_62_code
def yX12_nextToFall : MethodName := ⟨RX12, "nextToFall", "(I)I"⟩
abbrev cX12_settle : ByteArray := prog_14_method_63_code
def yX12_settle : MethodName := ⟨RX12, "settle", "(I)I"⟩
abbrev cX12_fallen : ByteArray := prog_14_method_64_code
def yX12_fallen : MethodName := ⟨RX12, "fallen", "(II)I"⟩
abbrev cX12_loadOf : ByteArray := prog_14_method_65_code
def yX12_loadOf : MethodName := ⟨RX12, "loadOf", "(II)I"⟩
abbrev cX12_load : ByteArray := prog_14_method_66_code
def yX12_load : MethodName := ⟨RX12, "load", "(IIII)I"⟩
abbrev cX12_overloaded : ByteArray := prog_14_method_67_code
def yX12_overloaded : MethodName := ⟨RX12, "overloaded", "(I)I"⟩
abbrev cX12_shines : ByteArray := prog_14_method_68_code
def yX12_shines : MethodName := ⟨RX12, "shines", "(I)V"⟩
abbrev cX12_light : ByteArray := prog_14_method_69_code
def yX12_light : MethodName := ⟨RX12, "light", "(IIII)I"⟩
abbrev cX12_dark : ByteArray := prog_14_method_70_code
def yX12_dark : MethodName := ⟨RX12, "dark", "(II)I"⟩
abbrev cX12_faces : ByteArray := prog_14_method_71_code
def yX12_faces : MethodName := ⟨RX12, "faces", "(I)I"⟩
abbrev cX12_isStand : ByteArray := prog_14_method_72_code
def yX12_isStand : MethodName := ⟨RX12, "isStand", "(I)Z"⟩
abbrev cX12_isFree : ByteArray := prog_14_method_73_code
def yX12_isFree : MethodName := ⟨RX12, "isFree", "(I)Z"⟩
abbrev cX12_path : ByteArray := prog_14_method_74_code
def yX12_path : MethodName := ⟨RX12, "path", "(III)I"⟩
abbrev cX12_findBlocks : ByteArray := prog_14_method_75_code
def yX12_findBlocks : MethodName := ⟨RX12, "findBlocks", "(I)V"⟩
abbrev cX12_goesIn : ByteArray := prog_14_method_76_code
def yX12_goesIn : MethodName := ⟨RX12, "goesIn", "(IIII)Z"⟩
abbrev cX12_goes : ByteArray := prog_14_method_77_code
def yX12_goes : MethodName := ⟨RX12, "goes", "(III)I"⟩
abbrev cX12_places : ByteArray := prog_14_method_78_code
def yX12_places : MethodName := ⟨RX12, "places", "(II)I"⟩
abbrev cX12_place : ByteArray := prog_14_method_79_code
def yX12_place : MethodName := ⟨RX12, "place", "(III)I"⟩
abbrev cX12_differs : ByteArray := prog_14_method_80_code
def yX12_differs : MethodName := ⟨RX12, "differs", "(II)I"⟩
def RJx8e188 : String := "java/lang/Cloneable"
def TJx8e188 : u_T := fun k => match k with
  | _ => ("", "", "", false)
def tyJx8e188 : Nat → FieldType := fun k => match k with
  | _ => .int
theorem nmJx8e188 : ∀ a, a < 0 → ∀ b, b < 0 → a ≠ b → (TJx8e188 a).2.1 ≠ (TJx8e188 b).2.1 := by decide +kernel
theorem tyJx8e188_ok : ∀ k, k < 0 → parseFieldDescriptor (TJx8e188 k).2.2.1 = some (tyJx8e188 k) := by decide +kernel
def RJ9 : String := "java/lang/Math"
def TJ9 : u_T := fun k => match k with
  | _ => ("", "", "", false)
def tyJ9 : Nat → FieldType := fun k => match k with
  | _ => .int
theorem nmJ9 : ∀ a, a < 0 → ∀ b, b < 0 → a ≠ b → (TJ9 a).2.1 ≠ (TJ9 b).2.1 := by decide +kernel
theorem tyJ9_ok : ∀ k, k < 0 → parseFieldDescriptor (TJ9 k).2.2.1 = some (tyJ9 k) := by decide +kernel
abbrev cJ9_max_7cf53 : ByteArray := prog_18_method_65_code
def yJ9_max_7cf53 : MethodName := ⟨RJ9, "max", "(II)I"⟩
abbrev cJ9_min_7cf53 : ByteArray := prog_18_method_69_code
def yJ9_min_7cf53 : MethodName := ⟨RJ9, "min", "(II)I"⟩
def RL : String := "StackYardLaw"
abbrev cL_fallen : ByteArray := method_3_code
def yL_fallen : MethodName := ⟨RL, "fallen", "(LStackYard;II[J)I"⟩
abbrev cL_law : ByteArray := code
def yL_law : MethodName := ⟨RL, "law", "([I)Z"⟩
abbrev vwCl : List vw_C := [(RX0, TX0, 2), (RX1, TX1, 3), (RX2, TX2, 6), (RX3, TX3, 1), (RX4, TX4, 2), (RX5, TX5, 4), (RX6, TX6, 5), (RX7, TX7, 2), (RX9, TX9, 3), (RX10, TX10, 2), (RX11, TX11, 14), (RX12, TX12, 33)]
end
section
/-! ===== BEGIN words of one list among another's, by their places ===== -/
theorem goodIn_r {big : List Cond} (ws : List Cond) (ps : List Nat) (hp : ws = ps.filterMap (fun i => big[i]?)) (h : ws.all goodWord = true) : GoodIn big ws := by
  intro w hw
  have h1 := List.all_eq_true.mp h w hw
  rw [hp] at hw
  obtain ⟨i, -, hi⟩ := List.mem_filterMap.mp hw
  have hm : w ∈ big := by first | exact List.mem_of_getElem? hi | exact List.getElem?_mem hi
  exact ⟨hm, good_of_word h1⟩
theorem goodIn_app {big a b : List Cond} (ha : GoodIn big a) (hb : GoodIn big b) : GoodIn big (a ++ b) := fun w h => (List.mem_append.mp h).elim (ha w) (hb w)
theorem goodIn_ca {big a b : List Cond} {c : Cond} (ha : GoodIn big (c :: a)) (hb : GoodIn big b) : GoodIn big (c :: (a ++ b)) := fun w h => (List.mem_cons.mp h).elim (fun e => ha w (List.mem_cons.mpr (Or.inl e))) (fun h => (List.mem_append.mp h).elim (fun h => ha w (List.mem_cons.mpr (Or.inr h))) (hb w))
theorem goodIn_sub {big ws : List Cond} (hm : ∀ w ∈ ws, w ∈ big) (h : ws.all goodWord = true) : GoodIn big ws := fun w hw => ⟨hm w hw, good_of_word (List.all_eq_true.mp h w hw)⟩
/-! ===== END ===== -/

/-! ===== BEGIN exceptions that leave a method, and their catching by the caller (launches without stack traces) ===== -/
section VXA
/-! The laws vx_back, vx_callV, vx_callS, vx_callSW, vx_throw0, vx_throwS follow proofs of the library, with one case more: JvmDerived/Free/Laws.lean (Back.of_free), Shelf42/LK1.lean (callV, callS), Shelf/KitTraced.lean (throwNew0V, throwNewS). -/
/-- where a method has thrown q: the class by its name, the cell, what was written, the world -/
def vx_T (XC : String → State → State → Prop) (st : State) (q : Addr) (t : State) (mc ms : Nat) (free : Addr → Prop) : Prop :=
  ∃ (E : String) (ce : Cell) (L : List Loc), XC E st t ∧ t.heap[q]? = some ce ∧ ce.vm = .none ∧ st.vm.findClass E = some ce.cls ∧ st.WarmedH t.vm ∧ st.sameButNew ({ t with vm := st.vm } : State) L mc ms ∧ ∀ z ∈ L, free z.base
def vx_Q (Qc : Array Value → State → Outcome → State → Prop) (XC : String → State → State → Prop) (mc ms : Nat) (free : Addr → Prop) : Array Value → State → Outcome → State → Prop := fun a st o t =>
  (Qc a st o t ∧ ∃ L, FrameEnd st o t L mc ms ∧ ∀ q ∈ L, free q.base) ∨ ∃ q, o = .threw q ∧ vx_T XC st q t mc ms free
/-- a callee that returns or throws -/
def vx_Met (l : Launch) (y : MethodName) (ws : List Cond) (rm : Room) (Pc : Array Value → State → Prop) (Qc : Array Value → State → Outcome → State → Prop) (XC : String → State → State → Prop) (mc ms : Nat) (free : Addr → Prop) : Prop :=
  MetFree l y (headSpec ws rm) Pc (fun _ _ _ _ _ => True) (vx_Q Qc XC mc ms free)
def vx_Post (XC : String → State → State → Prop) (mc ms : Nat) (free : Addr → Prop) : Pt → Array Value → Addr → Pt → Prop := fun A a q B =>
  ∃ (g : JFrame) (mk : MethodId) (t : State) (L : List Loc) (E : String) (ce : Cell), B.U.heap = t.heap ∧ B.U.vm = t.vm ∧ XC E (A.U.calling g mk a) t ∧ t.heap[q]? = some ce ∧ ce.vm = .none ∧ A.U.vm.findClass E = some ce.cls ∧ B.locs = A.locs ++ L ∧ (∀ z ∈ L, free z.base) ∧ B.cells = A.cells + mc ∧ B.slots = A.slots + ms
def vx_Back (l : Launch) (R : Room) (p : Program) (e : Env) (below : List Frame) (s : State) (sargs : Array Value) (y : MethodName) (len W9 : Nat)
    (Pre : Pt → Array Value → Prop) (Post : Pt → Array Value → Option Value → Pt → Prop) (PostX : Pt → Array Value → Addr → Pt → Prop) : Prop :=
  ∀ (m : MethodId) (meth : Method) (c : Code) (A : Pt) (g : JFrame) (ig : Instr) (mk : MethodId) (a : Array Value),
    Stand p l e R s m sargs below meth c A.U A.locs A.cells A.slots → g.method = m → g.locals.size = c.maxLocals → decode c.code g.pc = .ok (ig, len) →
    2 * g.monitorRoom + (g.stack.map fun v => v.category).sum ≤ W9 → A.U.methodNamed? y = some mk → Pre A a →
    (∃ (v : Option Value) (B : Pt), Stand p l e R s m sargs below meth c B.U B.locs B.cells B.slots ∧ Post A a v B ∧
      Steps p.tables e below (doInvoke e (A.U.setTop g) [] mk a).1 (B.U.setTop { g with pc := g.pc + len, stack := v.toList ++ g.stack })) ∨
    (∃ (q : Addr) (B : Pt), Stand p l e R s m sargs below meth c B.U B.locs B.cells B.slots ∧ PostX A a q B ∧
      Steps p.tables e below (doInvoke e (A.U.setTop g) [] mk a).1 ((B.U.setTop g).pushFrame (.throwing q)))
section Payer
variable {l : Launch} {R : Room} {p : Program} {e : Env} {below : List Frame} {s : State} {sargs : Array Value} {y : MethodName} {len W9 : Nat}
theorem vx_back {ws : List Cond} {rm : Room} {Pc : Array Value → State → Prop} {Qc : Array Value → State → Outcome → State → Prop} {XC : String → State → State → Prop} {mc ms : Nat} {free : Addr → Prop} {bytes : ByteArray} {maxL : Nat} {ret : Option FieldType}
    (hM : vx_Met l y ws rm Pc Qc XC mc ms free) (hblind : FrameBlind Pc) (hrc : rm.cells = mc) (hrs : rm.slots = ms)
    (hframes : rm.frames + 1 ≤ R.frames) (hlocals : W9 + (maxL + 11) + rm.locals ≤ R.locals)
    (hws : ∀ w ∈ ws, ∀ a' U, s.WarmedH U.vm → w.before a' U = true) (hcode : Cond.code y bytes maxL ret ∈ ws) (hinit : ∀ a' U, s.WarmedH U.vm → (Cond.initialized y.cls).before a' U = true) :
    vx_Back l R p e below s sargs y len W9 (PreOf R mc ms Pc) (PostOf Qc mc ms free) (vx_Post XC mc ms free) := by
  intro m meth c A g ig mk a X hg hsize hdg hW hn hp
  have h1 : (headSpec ws rm).pre.before a A.U = true := atoms_intro fun w hw => hws w hw _ _ X.warmed
  have h2 : (Cond.code y bytes maxL ret).before a A.U = true := hws _ hcode _ _ X.warmed
  have h3 : (Cond.initialized y.cls).before a A.U = true := hinit _ _ X.warmed
  have h4 : A.cells + (headSpec ws rm).room.cells ≤ R.cells := by rw [show (headSpec ws rm).room.cells = mc from hrc]; exact hp.1
  have h5 : A.slots + (headSpec ws rm).room.slots ≤ R.slots := by rw [show (headSpec ws rm).room.slots = ms from hrs]; exact hp.2.1
  have hPc : Pc a (A.U.calling g mk a) := hblind _ _ _ _ hp.2.2
  obtain ⟨U, Ls, c0, s0⟩ := A
  dsimp only [Pt.U, Pt.locs, Pt.cells, Pt.slots] at h1 h2 h3 h4 h5 X hn hPc ⊢
  obtain ⟨methY, cY, hmY, hcY, -, hlY, -, -, -, -⟩ := Cond.code_spec hn h2
  obtain ⟨kY, hkY, -⟩ := className_of_methodNamed hn
  have hinitY : kY.init = .initialized := Cond.initialized_spec (findClass_of_methodNamed hn) hkY h3
  have h : At U g.method c below := by rw [hg]; exact X.here
  have hlocals9 : W9 + (maxL + 11) + (headSpec ws rm).room.locals ≤ R.locals := hlocals
  have happ : (headSpec ws rm).appliesLoose y e.platform (U.calling g mk a) = true :=
    Spec.appliesLoose_calling (g := g) h hdg hn hkY hinitY
      (X.room_calling (g := g) (R' := (headSpec ws rm).room) hsize hmY hcY hframes (by rw [hlY]; omega) h4 h5) h1
  obtain ⟨mid, hmid⟩ := h.above
  have hfr : (U.setTop g).frames = (.java g :: mid) ++ below := by rw [State.frames_setTop' g h.top, hmid]; rfl
  obtain ⟨o, s₂, hsteps, -, hend, hq⟩ := Steps.callFree hM p X.admits X.cas X.clock (acts := []) hfr happ hPc trivial
  have hq' : vx_Q Qc XC mc ms free a (U.calling g mk a) o s₂ := hq
  rw [State.frames_setTop' g h.top] at hend
  obtain ⟨g₀, hg0⟩ := Option.isSome_iff_exists.mp h.top
  obtain ⟨r, hr⟩ := State.topJava?_eq_some.mp hg0
  have hr' : (({ U with heap := s₂.heap, slotsUsed := s₂.slotsUsed } : State).setVm s₂.vm).frames = .java g₀ :: r := hr
  rcases hq' with ⟨hqc, L, hfe, hL⟩ | ⟨q, rfl, E, ce, L, hx, hce, hcv, hcl, hW₂, hsm, hL⟩
  · obtain ⟨⟨v, rfl⟩, hW₂, e2, q2, q3, q4, q5, q6⟩ := id hfe
    have e3 : s₂ = ({ (U.calling g mk a).setFrames s₂.frames with heap := s₂.heap, slotsUsed := s₂.slotsUsed } : State).setVm s₂.vm := by
      have : s₂ = ({ s₂ with vm := (U.calling g mk a).vm } : State).setVm s₂.vm := rfl
      rw [e2] at this
      exact this
    obtain ⟨c₂, i₂, len₂, hc₂, hd₂, hf₂⟩ := hend
    have hW' : U.WarmedH s₂.vm := hW₂
    have hcc : c₂ = c := by
      have h1 : s₂.code? g.method = U.code? g.method := by
        rw [State.code?_eq, State.code?_eq, hW'.alike.method?]
      exact Option.some.inj (hc₂.symm.trans (h1.trans h.code))
    subst hcc
    have hlen : len₂ = len := by rw [hdg] at hd₂; cases hd₂; rfl
    subst hlen
    have hs₂ : s₂ = (({ U with heap := s₂.heap, slotsUsed := s₂.slotsUsed } : State).setVm s₂.vm).setTop { g with pc := g.pc + len₂, stack := v.toList ++ g.stack } := by
      refine e3.trans ?_
      rw [hf₂, State.calling_eq h.top, State.setFrames_setFrames, State.setTop_of_frames _ hr', hr]
      rfl
    have hsame : U.sameButNew ({ U with heap := s₂.heap, slotsUsed := s₂.slotsUsed } : State) L mc ms := by
      refine ⟨?_, q2, q3, q4, q5, q6⟩
      obtain ⟨t, ht, -⟩ := State.frames_cons hr
      show ({ U with heap := s₂.heap, slotsUsed := s₂.slotsUsed } : State) = { U.setFrames U.frames with heap := s₂.heap, slotsUsed := s₂.slotsUsed }
      rw [State.setFrames_self ht]
    subst hg
    refine Or.inl ⟨v, ⟨(({ U with heap := s₂.heap, slotsUsed := s₂.slotsUsed } : State).setVm s₂.vm), Ls ++ L, c0 + mc, s0 + ms⟩,
      ⟨X.admits, X.cas, X.clock, X.frames, X.room, X.hears, X.method, X.code, (X.here.setHeapUsed s₂.heap s₂.slotsUsed).setVm hW'.alike, X.tail, State.WarmedH.trans X.warmed hW', X.limits, X.bytes, X.same.trans (hsame.setVm s.vm)⟩,
      ⟨g, mk, s₂, L, rfl, rfl, hqc, rfl, hL, rfl, rfl⟩, ?_⟩
    show Steps p.tables e below _ ((({ U with heap := s₂.heap, slotsUsed := s₂.slotsUsed } : State).setVm s₂.vm).setTop { g with pc := g.pc + len₂, stack := v.toList ++ g.stack })
    rw [← hs₂]
    exact hsteps
  · obtain ⟨e2, q2, q3, q4, q5, q6⟩ := id hsm
    have e3 : s₂ = ({ (U.calling g mk a).setFrames s₂.frames with heap := s₂.heap, slotsUsed := s₂.slotsUsed } : State).setVm s₂.vm := by
      have : s₂ = ({ s₂ with vm := (U.calling g mk a).vm } : State).setVm s₂.vm := rfl
      rw [e2] at this
      exact this
    have hf₂ : s₂.frames = .throwing q :: .java g :: U.frames.tail := hend
    have hW' : U.WarmedH s₂.vm := hW₂
    have hs₂ : s₂ = ((({ U with heap := s₂.heap, slotsUsed := s₂.slotsUsed } : State).setVm s₂.vm).setTop g).pushFrame (.throwing q) := by
      refine e3.trans ?_
      rw [hf₂, State.calling_eq h.top, State.setFrames_setFrames, State.pushFrame, State.frames_setTop _ hr', State.setTop_of_frames _ hr', State.setFrames_setFrames, hr]
      rfl
    have hsame : U.sameButNew ({ U with heap := s₂.heap, slotsUsed := s₂.slotsUsed } : State) L mc ms := by
      refine ⟨?_, q2, q3, q4, q5, q6⟩
      obtain ⟨t, ht, -⟩ := State.frames_cons hr
      show ({ U with heap := s₂.heap, slotsUsed := s₂.slotsUsed } : State) = { U.setFrames U.frames with heap := s₂.heap, slotsUsed := s₂.slotsUsed }
      rw [State.setFrames_self ht]
    subst hg
    refine Or.inr ⟨q, ⟨(({ U with heap := s₂.heap, slotsUsed := s₂.slotsUsed } : State).setVm s₂.vm), Ls ++ L, c0 + mc, s0 + ms⟩,
      ⟨X.admits, X.cas, X.clock, X.frames, X.room, X.hears, X.method, X.code, (X.here.setHeapUsed s₂.heap s₂.slotsUsed).setVm hW'.alike, X.tail, State.WarmedH.trans X.warmed hW', X.limits, X.bytes, X.same.trans (hsame.setVm s.vm)⟩,
      ⟨g, mk, s₂, L, E, ce, rfl, rfl, hx, hce, hcv, hcl, rfl, hL, rfl, rfl⟩, ?_⟩
    show Steps p.tables e below _ (((({ U with heap := s₂.heap, slotsUsed := s₂.slotsUsed } : State).setVm s₂.vm).setTop g).pushFrame (.throwing q))
    rw [← hs₂]
    exact hsteps
end Payer
section Calls
variable {p : Program} {l : Launch} {e : Env} {R : Room} {s : State} {m : MethodId} {args : Array Value} {below : List Frame} {meth : Method} {c : Code} {T : State} {locs : List Loc} {cells slots : Nat}
theorem vx_callV (X : Stand p l e R s m args below meth c T locs cells slots) (hexec : p.tables.exec = Jvm.exec) {own C : String} {index : Nat} {y : MethodName} {bytes : ByteArray} {maxL : Nat} {ret : Option FieldType}
    (hown : s.vm.findClass own = some m.cls) (hlink : (Cond.methodLink own index y).before args s = true) (hinst : (Cond.instanceMethod y).before args s = true) (hsel : (Cond.selects C y y).before args s = true)
    (hcode : (Cond.code y bytes maxL ret).before args s = true) (hy : y.cls ≠ "java/lang/invoke/MethodHandle" ∧ y.cls ≠ "java/lang/invoke/VarHandle")
    {W9 : Nat} {Pre : Pt → Array Value → Prop} {Post : Pt → Array Value → Option Value → Pt → Prop} {PostX : Pt → Array Value → Addr → Pt → Prop} (hK : vx_Back l R p e below s args y 3 W9 Pre Post PostX)
    {b : Addr} {cellB : Cell} (hcell : T.heap[b]? = some cellB) (hobj : cellB.vm.isStatics = false) (hcls : s.vm.findClass C = some cellB.cls)
    {g : JFrame} (hg : g.method = m) (hsize : g.locals.size = c.maxLocals) {argsL rest : List Value} (hlen : ∀ sig, parseMethodDescriptor y.desc = some sig → argsL.length = sig.parameters.length)
    (hstack : g.stack = argsL.reverse ++ .ref b :: rest) (hW : 2 * g.monitorRoom + (rest.map fun v => v.category).sum ≤ W9) (hdg : decode c.code g.pc = .ok (.invokevirtual index, 3))
    (hpre : ∀ vm₁, s.WarmedH vm₁ → Pre ⟨T.setVm vm₁, locs, cells, slots⟩ (Value.ref b :: argsL).toArray) :
    (∃ (v : Option Value) (vm₁ : Vm) (B : Pt), s.WarmedH vm₁ ∧ Stand p l e R s m args below meth c B.U B.locs B.cells B.slots ∧ Post ⟨T.setVm vm₁, locs, cells, slots⟩ (Value.ref b :: argsL).toArray v B ∧
      ∀ target, Steps p.tables e below (B.U.setTop { g with pc := g.pc + 3, stack := v.toList ++ rest }) target → Steps p.tables e below (T.setTop g) target) ∨
    (∃ (q : Addr) (vm₁ : Vm) (B : Pt), s.WarmedH vm₁ ∧ Stand p l e R s m args below meth c B.U B.locs B.cells B.slots ∧ PostX ⟨T.setVm vm₁, locs, cells, slots⟩ (Value.ref b :: argsL).toArray q B ∧
      Steps p.tables e below (T.setTop g) ((B.U.setTop { g with stack := rest }).pushFrame (.throwing q))) := by
  obtain ⟨mk, methM, hnamed, hmethM, hstM, habM⟩ := Cond.instanceMethod_spec hinst
  obtain ⟨methM', cM, hmethM', -, -, -, -, -, -, hsigM⟩ := Cond.code_spec hnamed hcode
  cases hmethM.symm.trans hmethM'
  obtain ⟨c2, r2, m2, q1, q2, q3, q4, kP, hkP, hkPi⟩ := Cond.selects_spec hsel
  cases hcls.symm.trans q1
  cases (State.methodFound?_of_named hnamed hy).symm.trans q2
  cases hnamed.symm.trans q3
  have hselP : selectMethod e.platform s.vm cellB.cls mk = .method mk := by rw [Launch.admits_selectMethod X.admits]; exact q4
  obtain ⟨vm₁, X₁, hstep₁⟩ := X.invokevirtual hexec hown hlink hnamed hmethM hstM hkP hkPi hy (a := b) (cell := cellB) hcell
    (fun z h => by rw [h] at hobj; cases hobj) hselP hmethM habM hkP hkPi (g := g) hg (argsL := argsL) (rest := rest) (hlen _ hsigM) hstack hdg
  rcases hK m meth c ⟨T.setVm vm₁, locs, cells, slots⟩ { g with stack := rest } (.invokevirtual index) mk (Value.ref b :: argsL).toArray X₁ hg hsize hdg hW (X₁.named hnamed) (hpre vm₁ X₁.warmed) with ⟨v, B, X', hpost, hsteps⟩ | ⟨q, B, X', hpost, hsteps⟩
  · exact Or.inl ⟨v, vm₁, B, X₁.warmed, X', hpost, fun target h => hstep₁ _ fun acts => by rw [doInvoke_state]; exact hsteps.trans h⟩
  · exact Or.inr ⟨q, vm₁, B, X₁.warmed, X', hpost, hstep₁ _ fun acts => by rw [doInvoke_state]; exact hsteps⟩
theorem vx_callS (X : Stand p l e R s m args below meth c T locs cells slots) (hexec : p.tables.exec = Jvm.exec) {own : String} {index : Nat} {y : MethodName} {bytes : ByteArray} {maxL : Nat} {ret : Option FieldType}
    (hown : s.vm.findClass own = some m.cls) (hlink : (Cond.methodLink own index y).before args s = true) (hstat : (Cond.static y).before args s = true) (hinit : (Cond.initialized y.cls).before args s = true)
    (hcode : (Cond.code y bytes maxL ret).before args s = true) (hy : y.cls ≠ "java/lang/invoke/MethodHandle" ∧ y.cls ≠ "java/lang/invoke/VarHandle")
    {W9 : Nat} {Pre : Pt → Array Value → Prop} {Post : Pt → Array Value → Option Value → Pt → Prop} {PostX : Pt → Array Value → Addr → Pt → Prop} (hK : vx_Back l R p e below s args y 3 W9 Pre Post PostX)
    {g : JFrame} (hg : g.method = m) (hsize : g.locals.size = c.maxLocals) {argsL rest : List Value} (hlen : ∀ sig, parseMethodDescriptor y.desc = some sig → argsL.length = sig.parameters.length)
    (hstack : g.stack = argsL.reverse ++ rest) (hW : 2 * g.monitorRoom + (rest.map fun v => v.category).sum ≤ W9) (hdg : decode c.code g.pc = .ok (.invokestatic index, 3))
    (hpre : ∀ vm₁, s.WarmedH vm₁ → Pre ⟨T.setVm vm₁, locs, cells, slots⟩ argsL.toArray) :
    (∃ (v : Option Value) (vm₁ : Vm) (B : Pt), s.WarmedH vm₁ ∧ Stand p l e R s m args below meth c B.U B.locs B.cells B.slots ∧ Post ⟨T.setVm vm₁, locs, cells, slots⟩ argsL.toArray v B ∧
      ∀ target, Steps p.tables e below (B.U.setTop { g with pc := g.pc + 3, stack := v.toList ++ rest }) target → Steps p.tables e below (T.setTop g) target) ∨
    (∃ (q : Addr) (vm₁ : Vm) (B : Pt), s.WarmedH vm₁ ∧ Stand p l e R s m args below meth c B.U B.locs B.cells B.slots ∧ PostX ⟨T.setVm vm₁, locs, cells, slots⟩ argsL.toArray q B ∧
      Steps p.tables e below (T.setTop g) ((B.U.setTop { g with stack := rest }).pushFrame (.throwing q))) := by
  obtain ⟨mk, hnamed⟩ := Cond.code_named hcode
  obtain ⟨methM, cM, hmethM, -, -, -, -, -, -, hsigM⟩ := Cond.code_spec hnamed hcode
  have hstatic : methM.isStatic = true := Cond.static_spec hnamed hmethM hstat
  obtain ⟨kP, hkP, -⟩ := className_of_methodNamed hnamed
  have hinitP : kP.init = .initialized := Cond.initialized_spec (findClass_of_methodNamed hnamed) hkP hinit
  obtain ⟨vm₁, X₁, hstep₁⟩ := X.invokestatic hexec hown hlink hnamed hmethM hstatic hkP hinitP hy (g := g) hg (argsL := argsL) (rest := rest) (hlen _ hsigM) hstack hdg
  rcases hK m meth c ⟨T.setVm vm₁, locs, cells, slots⟩ { g with stack := rest } (.invokestatic index) mk argsL.toArray X₁ hg hsize hdg hW (X₁.named hnamed) (hpre vm₁ X₁.warmed) with ⟨v, B, X', hpost, hsteps⟩ | ⟨q, B, X', hpost, hsteps⟩
  · exact Or.inl ⟨v, vm₁, B, X₁.warmed, X', hpost, fun target h => hstep₁ _ fun acts => by rw [doInvoke_state]; exact hsteps.trans h⟩
  · exact Or.inr ⟨q, vm₁, B, X₁.warmed, X', hpost, hstep₁ _ fun acts => by rw [doInvoke_state]; exact hsteps⟩
end Calls
theorem vx_cls {s : State} {T : State} {vm₁ : Vm} {E : String} {k : ClassId} (hW : s.WarmedH vm₁) (h : (T.setVm vm₁).vm.findClass E = some k) : s.vm.findClass E = some k := by
  have h1 : vm₁.findClass E = some k := h
  rw [hW.alike.findClass] at h1
  exact h1
/-- the method's frame g, with q thrown over it -/
def vx_W (p : Program) (l : Launch) (e : Env) (R : Room) (s : State) (m : MethodId) (args : Array Value) (below : List Frame) (meth : Method) (c : Code) (H : Heap) (locs : List Loc) (cells slots : Nat) (Q : State → Prop) (g : JFrame) (q : Addr) : Prop :=
  ∀ T : State, T.heap = H → Stand p l e R s m args below meth c T locs cells slots → ∃ t, Steps p.tables e below ((T.setTop g).pushFrame (.throwing q)) t ∧ Q t
def vx_Run (p : Program) (l : Launch) (e : Env) (R : Room) (s : State) (m : MethodId) (args : Array Value) (below : List Frame) (meth : Method) (c : Code) (H : Heap) (locs : List Loc) (cells slots mc ms : Nat) (g : JFrame) (rest : List Value) (Qa : State → Outcome → State → Prop) (XC : String → State → State → Prop) (free : Addr → Prop) : Prop :=
  ∀ T : State, T.heap = H → Stand p l e R s m args below meth c T locs cells slots →
    (∃ (v : Option Value) (st₀ t T' : State) (L : List Loc), st₀.heap = H ∧ Stand p l e R s m args below meth c T' (locs ++ L) (cells + mc) (slots + ms) ∧ (∀ q ∈ L, free q.base) ∧ T'.heap = t.heap ∧ T'.vm = t.vm ∧ Qa st₀ (.returned v) t ∧
      Goes p e below T g T' { g with pc := g.pc + 3, stack := v.toList ++ rest }) ∨
    (∃ (q : Addr) (st₀ t T' : State) (L : List Loc) (E : String) (ce : Cell), st₀.heap = H ∧ Stand p l e R s m args below meth c T' (locs ++ L) (cells + mc) (slots + ms) ∧ (∀ z ∈ L, free z.base) ∧ T'.heap = t.heap ∧ T'.vm = t.vm ∧ XC E st₀ t ∧ t.heap[q]? = some ce ∧ ce.vm = .none ∧ s.vm.findClass E = some ce.cls ∧
      Steps p.tables e below (T.setTop g) ((T'.setTop { g with stack := rest }).pushFrame (.throwing q)))
def vx_X {S : Type} (px : S → Prop) (B : String → S → State → Prop) (A : Nat → Prop) : String → State → State → Prop := fun E st t => ∃ u : S, px u ∧ B E u t ∧ va_F A st t
section Runs
variable {p : Program} {l : Launch} {e : Env} {R : Room} {s : State} {m : MethodId} {args : Array Value} {below : List Frame} {meth : Method} {c : Code} {H : Heap} {locs : List Loc} {cells slots : Nat}
variable {y : MethodName} {bytes cc : ByteArray} {maxL nL mc ms n index : Nat} {ret : Option FieldType} {ws : List Cond} {rm : Room} {Pc : Array Value → State → Prop} {Qc : Array Value → State → Outcome → State → Prop} {XC : String → State → State → Prop} {free : Addr → Prop} {Ts : List Cond} {own C : String} {b : Addr} {As rest : List Value} {g : JFrame}
theorem vx_callBack (cb : CallB R s args own index y bytes maxL ret ws rm mc ms n) (hM : vx_Met l y ws rm Pc Qc XC mc ms free) (hbl : FrameBlind Pc) : vx_Back l R p e below s args y 3 8 (PreOf R mc ms Pc) (PostOf Qc mc ms free) (vx_Post XC mc ms free) := by
  obtain ⟨hrc, hrs, hfr, hlo, hws, hcw, -, hini, -⟩ := cb
  exact vx_back (bytes := bytes) (maxL := maxL) (ret := ret) hM hbl hrc hrs hfr hlo hws hcw (fun a' U hW => word_at hW (Or.inl (by first | rfl | simp [Cond.onTables, Cond.keeps, Cond.steady])) hini)
theorem vx_runV (S : CallFix p m c cc nL s args Ts own) (hM : vx_Met l y ws rm Pc Qc XC mc ms free) (cw : CallW R s args own C index y bytes maxL ret ws rm mc ms n) (hp : PreV s H C b Pc As)
    (hg : g.method = m) (hn : As.length = n) (hsize : g.locals.size = nL) (hstack : g.stack = As.reverse ++ .ref b :: rest) (hW : 2 * g.monitorRoom + (rest.map fun v => v.category).sum ≤ 8) (hdg : decode cc g.pc = .ok (.invokevirtual index, 3)) (hf : cells + mc ≤ R.cells ∧ slots + ms ≤ R.slots) :
    vx_Run p l e R s m args below meth c H locs cells slots mc ms g rest (Qc (Value.ref b :: As).toArray) XC free := by
  have hK : vx_Back l R p e below s args y 3 8 (PreOf R mc ms Pc) (PostOf Qc mc ms free) (vx_Post XC mc ms free) := vx_callBack cw.1 hM hp.1
  obtain ⟨⟨-, -, -, -, -, -, hcode, -, hy, hlen, hl⟩, hin, hse⟩ := cw
  obtain ⟨hx, hb, hml, ho, -⟩ := S
  obtain ⟨-, ⟨cellB, hcB, hoB, hclB⟩, hPc⟩ := hp
  intro T hT X
  rcases vx_callV X hx (C := C) (bytes := bytes) (maxL := maxL) (ret := ret) ho hl hin hse hcode hy hK (by rw [hT]; exact hcB) hoB hclB hg (hsize.trans hml.symm) (argsL := As) (rest := rest) (fun sig h => hn.trans (hlen sig h)) hstack hW (by rw [hb]; exact hdg)
    (fun vm₁ hW₁ => ⟨hf.1, hf.2, hPc (T.setVm vm₁) hT hW₁⟩) with ⟨v, vm₁, ⟨U', l2, c2, s2⟩, hW₁, X', ⟨g', mk, t, L, e1, e2, hq, h1, hL, h2, h3⟩, st⟩ | ⟨q, vm₁, ⟨U', l2, c2, s2⟩, hW₁, X', ⟨g', mk, t, L, E, ce, e1, e2, hq, hce, hcv, hcl, h1, hL, h2, h3⟩, st⟩
  · dsimp only [Pt.U, Pt.locs, Pt.cells, Pt.slots] at X' e1 e2 h1 h2 h3 st
    subst h1; subst h2; subst h3
    exact Or.inl ⟨v, (T.setVm vm₁).calling g' mk (Value.ref b :: As).toArray, t, U', L, hT, X', hL, e1, e2, hq, st⟩
  · dsimp only [Pt.U, Pt.locs, Pt.cells, Pt.slots] at X' e1 e2 h1 h2 h3 st hcl
    subst h1; subst h2; subst h3
    exact Or.inr ⟨q, (T.setVm vm₁).calling g' mk (Value.ref b :: As).toArray, t, U', L, E, ce, hT, X', hL, e1, e2, hq, hce, hcv, vx_cls hW₁ hcl, st⟩
theorem vx_runS (S : CallFix p m c cc nL s args Ts own) (hM : vx_Met l y ws rm Pc Qc XC mc ms free) (cw : CallB R s args own index y bytes maxL ret ws rm mc ms n ∧ (Cond.static y).before args s = true) (hp : PreS s H Pc As)
    (hg : g.method = m) (hn : As.length = n) (hsize : g.locals.size = nL) (hstack : g.stack = As.reverse ++ rest) (hW : 2 * g.monitorRoom + (rest.map fun v => v.category).sum ≤ 8) (hdg : decode cc g.pc = .ok (.invokestatic index, 3)) (hf : cells + mc ≤ R.cells ∧ slots + ms ≤ R.slots) :
    vx_Run p l e R s m args below meth c H locs cells slots mc ms g rest (Qc As.toArray) XC free := by
  have hK : vx_Back l R p e below s args y 3 8 (PreOf R mc ms Pc) (PostOf Qc mc ms free) (vx_Post XC mc ms free) := vx_callBack cw.1 hM hp.1
  obtain ⟨⟨-, -, -, -, -, -, hcode, hini, hy, hlen, hl⟩, hstt⟩ := cw
  obtain ⟨hx, hb, hml, ho, -⟩ := S
  intro T hT X
  rcases vx_callS X hx (bytes := bytes) (maxL := maxL) (ret := ret) ho hl hstt hini hcode hy hK hg (hsize.trans hml.symm) (argsL := As) (rest := rest) (fun sig h => hn.trans (hlen sig h)) hstack hW (by rw [hb]; exact hdg)
    (fun vm₁ hW₁ => ⟨hf.1, hf.2, hp.2 (T.setVm vm₁) hT hW₁⟩) with ⟨v, vm₁, ⟨U', l2, c2, s2⟩, hW₁, X', ⟨g', mk, t, L, e1, e2, hq, h1, hL, h2, h3⟩, st⟩ | ⟨q, vm₁, ⟨U', l2, c2, s2⟩, hW₁, X', ⟨g', mk, t, L, E, ce, e1, e2, hq, hce, hcv, hcl, h1, hL, h2, h3⟩, st⟩
  · dsimp only [Pt.U, Pt.locs, Pt.cells, Pt.slots] at X' e1 e2 h1 h2 h3 st
    subst h1; subst h2; subst h3
    exact Or.inl ⟨v, (T.setVm vm₁).calling g' mk As.toArray, t, U', L, hT, X', hL, e1, e2, hq, st⟩
  · dsimp only [Pt.U, Pt.locs, Pt.cells, Pt.slots] at X' e1 e2 h1 h2 h3 st hcl
    subst h1; subst h2; subst h3
    exact Or.inr ⟨q, (T.setVm vm₁).calling g' mk As.toArray, t, U', L, E, ce, hT, X', hL, e1, e2, hq, hce, hcv, vx_cls hW₁ hcl, st⟩
end Runs
section Rows
variable {p : Program} {l : Launch} {e : Env} {R : Room} {s : State} {m : MethodId} {args : Array Value} {below : List Frame} {meth : Method} {c : Code} {H : Heap} {locs : List Loc} {cells slots : Nat} {Q : State → Prop}
variable {mc ms : Nat} {free : Addr → Prop} {A0 A1 : Nat → Prop} {H0 : Heap} {a : Array Value} {pc : Nat} {ls : Array Slot} {st0 rest : List Value}
theorem vx_keep {st₀ t T' : State} {L : List Loc} (h0 : st₀.heap = H) (e1 : T'.heap = t.heap) (hS : va_S A0 H0 H locs) (hA : ∀ q, q < H.size → A1 q → A0 q) (hf : ∀ q, free q → A0 q) (hL : ∀ q ∈ L, free q.base) (hF : va_F A1 st₀ t) :
    H.size ≤ T'.heap.size ∧ (∀ q : Nat, q < H.size → ¬ A1 q → T'.heap[q]? = H[q]?) ∧ va_S A0 H0 T'.heap (locs ++ L) := by
  obtain ⟨hz, hk⟩ := hF
  rw [h0] at hz hk
  exact ⟨by rw [e1]; exact hz, fun q h1 h2 => by rw [e1]; exact hk q h1 h2,
    ⟨Nat.le_trans hS.1 (by rw [e1]; exact hz), fun q h1 h2 => by rw [e1, hk q (Nat.lt_of_lt_of_le h1 hS.1) (fun z => h2 (hA q (Nat.lt_of_lt_of_le h1 hS.1) z))]; exact hS.2.1 q h1 h2, fun q hq => by
      rcases List.mem_append.mp hq with h | h
      · exact hS.2.2 q h
      · exact hf _ (hL q h)⟩⟩
theorem vx_calli {S SX : Type} {post : Int32 → S → Prop} {px : SX → Prop} {B : S → State → Prop} {BX : String → SX → State → Prop} {AX : Nat → Prop} (hr : vx_Run p l e R s m args below meth c H locs cells slots mc ms (F0 m pc ls st0) rest (va_Qi post B A1 a) (vx_X px BX AX) free) (hS : va_S A0 H0 H locs) (hA : ∀ q, q < H.size → A1 q → A0 q) (hf : ∀ q, free q → A0 q) (hAX : ∀ q, q < H.size → AX q → A0 q)
    (kx : ∀ (E : String) (ce : Cell) (q9 : Addr) (u : SX) (t : State) (H1 : Heap) (locs1 : List Loc), t.heap = H1 → s.vm.Alike t.vm → px u → BX E u t → H.size ≤ H1.size → (∀ q : Nat, q < H.size → ¬ AX q → H1[q]? = H[q]?) → va_S A0 H0 H1 locs1 → H1[q9]? = some ce → ce.vm = .none → s.vm.findClass E = some ce.cls → vx_W p l e R s m args below meth c H1 locs1 (cells + mc) (slots + ms) Q (F0 m pc ls rest) q9)
    (kk : ∀ (r : Int32) (u : S) (t : State) (H1 : Heap) (locs1 : List Loc), t.heap = H1 → s.vm.Alike t.vm → post r u → B u t → H.size ≤ H1.size → (∀ q : Nat, q < H.size → ¬ A1 q → H1[q]? = H[q]?) → va_S A0 H0 H1 locs1 → W p l e R s m args below meth c H1 locs1 (cells + mc) (slots + ms) Q (F0 m (pc + 3) ls (.int r :: rest))) : W p l e R s m args below meth c H locs cells slots Q (F0 m pc ls st0) := by
  intro T hT X
  rcases hr T hT X with ⟨v, st₀, t, T', L, h0, X', hL, e1, e2, ⟨⟨r, u, hv, hp, hb⟩, hF⟩, st⟩ | ⟨q, st₀, t, T', L, E, ce, h0, X', hL, e1, e2, ⟨u, hp, hb, hF⟩, hce, hcv, hcl, st⟩
  · cases hv
    obtain ⟨k1, k2, k3⟩ := vx_keep h0 e1 hS hA hf hL hF
    obtain ⟨t2, a1, b1⟩ := kk r u t T'.heap (locs ++ L) e1.symm (by rw [← e2]; exact X'.warmed.alike) hp hb k1 k2 k3 T' rfl X'
    exact ⟨t2, st t2 a1, b1⟩
  · obtain ⟨k1, k2, k3⟩ := vx_keep h0 e1 hS hAX hf hL hF
    obtain ⟨t2, a1, b1⟩ := kx E ce q u t T'.heap (locs ++ L) e1.symm (by rw [← e2]; exact X'.warmed.alike) hp hb k1 k2 k3 (by rw [e1]; exact hce) hcv hcl T' rfl X'
    exact ⟨t2, st.trans a1, b1⟩
theorem vx_calll {S SX : Type} {post : Int64 → S → Prop} {px : SX → Prop} {B : S → State → Prop} {BX : String → SX → State → Prop} {AX : Nat → Prop} (hr : vx_Run p l e R s m args below meth c H locs cells slots mc ms (F0 m pc ls st0) rest (va_Ql post B A1 a) (vx_X px BX AX) free) (hS : va_S A0 H0 H locs) (hA : ∀ q, q < H.size → A1 q → A0 q) (hf : ∀ q, free q → A0 q) (hAX : ∀ q, q < H.size → AX q → A0 q)
    (kx : ∀ (E : String) (ce : Cell) (q9 : Addr) (u : SX) (t : State) (H1 : Heap) (locs1 : List Loc), t.heap = H1 → s.vm.Alike t.vm → px u → BX E u t → H.size ≤ H1.size → (∀ q : Nat, q < H.size → ¬ AX q → H1[q]? = H[q]?) → va_S A0 H0 H1 locs1 → H1[q9]? = some ce → ce.vm = .none → s.vm.findClass E = some ce.cls → vx_W p l e R s m args below meth c H1 locs1 (cells + mc) (slots + ms) Q (F0 m pc ls rest) q9)
    (kk : ∀ (r : Int64) (u : S) (t : State) (H1 : Heap) (locs1 : List Loc), t.heap = H1 → s.vm.Alike t.vm → post r u → B u t → H.size ≤ H1.size → (∀ q : Nat, q < H.size → ¬ A1 q → H1[q]? = H[q]?) → va_S A0 H0 H1 locs1 → W p l e R s m args below meth c H1 locs1 (cells + mc) (slots + ms) Q (F0 m (pc + 3) ls (.long r :: rest))) : W p l e R s m args below meth c H locs cells slots Q (F0 m pc ls st0) := by
  intro T hT X
  rcases hr T hT X with ⟨v, st₀, t, T', L, h0, X', hL, e1, e2, ⟨⟨r, u, hv, hp, hb⟩, hF⟩, st⟩ | ⟨q, st₀, t, T', L, E, ce, h0, X', hL, e1, e2, ⟨u, hp, hb, hF⟩, hce, hcv, hcl, st⟩
  · cases hv
    obtain ⟨k1, k2, k3⟩ := vx_keep h0 e1 hS hA hf hL hF
    obtain ⟨t2, a1, b1⟩ := kk r u t T'.heap (locs ++ L) e1.symm (by rw [← e2]; exact X'.warmed.alike) hp hb k1 k2 k3 T' rfl X'
    exact ⟨t2, st t2 a1, b1⟩
  · obtain ⟨k1, k2, k3⟩ := vx_keep h0 e1 hS hAX hf hL hF
    obtain ⟨t2, a1, b1⟩ := kx E ce q u t T'.heap (locs ++ L) e1.symm (by rw [← e2]; exact X'.warmed.alike) hp hb k1 k2 k3 (by rw [e1]; exact hce) hcv hcl T' rfl X'
    exact ⟨t2, st.trans a1, b1⟩
theorem vx_callf {S SX : Type} {post : UInt32 → S → Prop} {px : SX → Prop} {B : S → State → Prop} {BX : String → SX → State → Prop} {AX : Nat → Prop} (hr : vx_Run p l e R s m args below meth c H locs cells slots mc ms (F0 m pc ls st0) rest (va_Qf post B A1 a) (vx_X px BX AX) free) (hS : va_S A0 H0 H locs) (hA : ∀ q, q < H.size → A1 q → A0 q) (hf : ∀ q, free q → A0 q) (hAX : ∀ q, q < H.size → AX q → A0 q)
    (kx : ∀ (E : String) (ce : Cell) (q9 : Addr) (u : SX) (t : State) (H1 : Heap) (locs1 : List Loc), t.heap = H1 → s.vm.Alike t.vm → px u → BX E u t → H.size ≤ H1.size → (∀ q : Nat, q < H.size → ¬ AX q → H1[q]? = H[q]?) → va_S A0 H0 H1 locs1 → H1[q9]? = some ce → ce.vm = .none → s.vm.findClass E = some ce.cls → vx_W p l e R s m args below meth c H1 locs1 (cells + mc) (slots + ms) Q (F0 m pc ls rest) q9)
    (kk : ∀ (r : UInt32) (u : S) (t : State) (H1 : Heap) (locs1 : List Loc), t.heap = H1 → s.vm.Alike t.vm → post r u → B u t → H.size ≤ H1.size → (∀ q : Nat, q < H.size → ¬ A1 q → H1[q]? = H[q]?) → va_S A0 H0 H1 locs1 → W p l e R s m args below meth c H1 locs1 (cells + mc) (slots + ms) Q (F0 m (pc + 3) ls (.float r :: rest))) : W p l e R s m args below meth c H locs cells slots Q (F0 m pc ls st0) := by
  intro T hT X
  rcases hr T hT X with ⟨v, st₀, t, T', L, h0, X', hL, e1, e2, ⟨⟨r, u, hv, hp, hb⟩, hF⟩, st⟩ | ⟨q, st₀, t, T', L, E, ce, h0, X', hL, e1, e2, ⟨u, hp, hb, hF⟩, hce, hcv, hcl, st⟩
  · cases hv
    obtain ⟨k1, k2, k3⟩ := vx_keep h0 e1 hS hA hf hL hF
    obtain ⟨t2, a1, b1⟩ := kk r u t T'.heap (locs ++ L) e1.symm (by rw [← e2]; exact X'.warmed.alike) hp hb k1 k2 k3 T' rfl X'
    exact ⟨t2, st t2 a1, b1⟩
  · obtain ⟨k1, k2, k3⟩ := vx_keep h0 e1 hS hAX hf hL hF
    obtain ⟨t2, a1, b1⟩ := kx E ce q u t T'.heap (locs ++ L) e1.symm (by rw [← e2]; exact X'.warmed.alike) hp hb k1 k2 k3 (by rw [e1]; exact hce) hcv hcl T' rfl X'
    exact ⟨t2, st.trans a1, b1⟩
theorem vx_calld {S SX : Type} {post : UInt64 → S → Prop} {px : SX → Prop} {B : S → State → Prop} {BX : String → SX → State → Prop} {AX : Nat → Prop} (hr : vx_Run p l e R s m args below meth c H locs cells slots mc ms (F0 m pc ls st0) rest (va_Qd post B A1 a) (vx_X px BX AX) free) (hS : va_S A0 H0 H locs) (hA : ∀ q, q < H.size → A1 q → A0 q) (hf : ∀ q, free q → A0 q) (hAX : ∀ q, q < H.size → AX q → A0 q)
    (kx : ∀ (E : String) (ce : Cell) (q9 : Addr) (u : SX) (t : State) (H1 : Heap) (locs1 : List Loc), t.heap = H1 → s.vm.Alike t.vm → px u → BX E u t → H.size ≤ H1.size → (∀ q : Nat, q < H.size → ¬ AX q → H1[q]? = H[q]?) → va_S A0 H0 H1 locs1 → H1[q9]? = some ce → ce.vm = .none → s.vm.findClass E = some ce.cls → vx_W p l e R s m args below meth c H1 locs1 (cells + mc) (slots + ms) Q (F0 m pc ls rest) q9)
    (kk : ∀ (r : UInt64) (u : S) (t : State) (H1 : Heap) (locs1 : List Loc), t.heap = H1 → s.vm.Alike t.vm → post r u → B u t → H.size ≤ H1.size → (∀ q : Nat, q < H.size → ¬ A1 q → H1[q]? = H[q]?) → va_S A0 H0 H1 locs1 → W p l e R s m args below meth c H1 locs1 (cells + mc) (slots + ms) Q (F0 m (pc + 3) ls (.double r :: rest))) : W p l e R s m args below meth c H locs cells slots Q (F0 m pc ls st0) := by
  intro T hT X
  rcases hr T hT X with ⟨v, st₀, t, T', L, h0, X', hL, e1, e2, ⟨⟨r, u, hv, hp, hb⟩, hF⟩, st⟩ | ⟨q, st₀, t, T', L, E, ce, h0, X', hL, e1, e2, ⟨u, hp, hb, hF⟩, hce, hcv, hcl, st⟩
  · cases hv
    obtain ⟨k1, k2, k3⟩ := vx_keep h0 e1 hS hA hf hL hF
    obtain ⟨t2, a1, b1⟩ := kk r u t T'.heap (locs ++ L) e1.symm (by rw [← e2]; exact X'.warmed.alike) hp hb k1 k2 k3 T' rfl X'
    exact ⟨t2, st t2 a1, b1⟩
  · obtain ⟨k1, k2, k3⟩ := vx_keep h0 e1 hS hAX hf hL hF
    obtain ⟨t2, a1, b1⟩ := kx E ce q u t T'.heap (locs ++ L) e1.symm (by rw [← e2]; exact X'.warmed.alike) hp hb k1 k2 k3 (by rw [e1]; exact hce) hcv hcl T' rfl X'
    exact ⟨t2, st.trans a1, b1⟩
theorem vx_callv {S SX : Type} {post : S → Prop} {px : SX → Prop} {B : S → State → Prop} {BX : String → SX → State → Prop} {AX : Nat → Prop} (hr : vx_Run p l e R s m args below meth c H locs cells slots mc ms (F0 m pc ls st0) rest (va_Qv post B A1 a) (vx_X px BX AX) free) (hS : va_S A0 H0 H locs) (hA : ∀ q, q < H.size → A1 q → A0 q) (hf : ∀ q, free q → A0 q) (hAX : ∀ q, q < H.size → AX q → A0 q)
    (kx : ∀ (E : String) (ce : Cell) (q9 : Addr) (u : SX) (t : State) (H1 : Heap) (locs1 : List Loc), t.heap = H1 → s.vm.Alike t.vm → px u → BX E u t → H.size ≤ H1.size → (∀ q : Nat, q < H.size → ¬ AX q → H1[q]? = H[q]?) → va_S A0 H0 H1 locs1 → H1[q9]? = some ce → ce.vm = .none → s.vm.findClass E = some ce.cls → vx_W p l e R s m args below meth c H1 locs1 (cells + mc) (slots + ms) Q (F0 m pc ls rest) q9)
    (kk : ∀ (u : S) (t : State) (H1 : Heap) (locs1 : List Loc), t.heap = H1 → s.vm.Alike t.vm → post u → B u t → H.size ≤ H1.size → (∀ q : Nat, q < H.size → ¬ A1 q → H1[q]? = H[q]?) → va_S A0 H0 H1 locs1 → W p l e R s m args below meth c H1 locs1 (cells + mc) (slots + ms) Q (F0 m (pc + 3) ls (rest))) : W p l e R s m args below meth c H locs cells slots Q (F0 m pc ls st0) := by
  intro T hT X
  rcases hr T hT X with ⟨v, st₀, t, T', L, h0, X', hL, e1, e2, ⟨⟨u, hv, hp, hb⟩, hF⟩, st⟩ | ⟨q, st₀, t, T', L, E, ce, h0, X', hL, e1, e2, ⟨u, hp, hb, hF⟩, hce, hcv, hcl, st⟩
  · cases hv
    obtain ⟨k1, k2, k3⟩ := vx_keep h0 e1 hS hA hf hL hF
    obtain ⟨t2, a1, b1⟩ := kk u t T'.heap (locs ++ L) e1.symm (by rw [← e2]; exact X'.warmed.alike) hp hb k1 k2 k3 T' rfl X'
    exact ⟨t2, st t2 a1, b1⟩
  · obtain ⟨k1, k2, k3⟩ := vx_keep h0 e1 hS hAX hf hL hF
    obtain ⟨t2, a1, b1⟩ := kx E ce q u t T'.heap (locs ++ L) e1.symm (by rw [← e2]; exact X'.warmed.alike) hp hb k1 k2 k3 (by rw [e1]; exact hce) hcv hcl T' rfl X'
    exact ⟨t2, st.trans a1, b1⟩
/-- caught by the row x of this method's table; the rows ahead don't take it -/
theorem vx_catch {own name : String} {E : String} {ce : Cell} {q : Addr} (hown : s.vm.findClass own = some m.cls) (pre : List ExceptionTableEntry) (x : ExceptionTableEntry) (suf : List ExceptionTableEntry) (hsplit : c.exceptionTable.toList = pre ++ x :: suf)
    (hpass : ∀ z ∈ pre, covers z pc = false ∨ (z.catchType ≠ 0 ∧ ∃ nm : String, (Cond.classLink own z.catchType nm).before args s = true ∧ va_Nc E nm s)) (hx : covers x pc = true) (h0 : x.catchType ≠ 0)
    (hlink : (Cond.classLink own x.catchType name).before args s = true) (hcast : (Cond.castable E name).before args s = true) (hcell : H[q]? = some ce) (hv : ce.vm = .none) (hcl : s.vm.findClass E = some ce.cls)
    (kk : W p l e R s m args below meth c H locs cells slots Q (F0 m x.handlerPc ls [.ref q])) : vx_W p l e R s m args below meth c H locs cells slots Q (F0 m pc ls rest) q := by
  intro T hT X
  have hpl : e.platform.magicAccessors = ({} : Platform).magicAccessors := by rw [X.admits.platform]
  obtain ⟨c3, c4, hc3, hc4, hasg⟩ := Cond.castable_spec hcast
  cases Option.some.inj (hc3.symm.trans hcl)
  obtain ⟨c5, hc5, hcl5⟩ := Cond.classLink_spec hown hlink e.platform hpl
  cases Option.some.inj (hc4.symm.trans hc5)
  obtain ⟨vm', X', st⟩ := X.thenCaughtThrough q (g := F0 m pc ls rest) rfl (Steps.refl _) (by rw [hT]; exact hcell) (by rw [hv]; rfl) (by obtain ⟨k9, h9, -⟩ := Vm.findClass_spec hcl; exact ⟨k9, h9⟩) pre x suf hsplit
    (fun z hz => by
      rcases hpass z hz with h | ⟨hz0, nm, hl1, hn1⟩
      · exact Or.inl h
      · obtain ⟨c6, hc6, hcl6⟩ := Cond.classLink_spec hown hl1 e.platform hpl
        obtain ⟨a8, b8, h1, h2, h3⟩ := hn1
        cases Option.some.inj (h1.symm.trans hcl)
        cases Option.some.inj (h2.symm.trans hc6)
        exact Or.inr ⟨hz0, _, hcl6, h3⟩) hx (Or.inr ⟨h0, c4, hcl5, hasg⟩)
  obtain ⟨t, a1, b1⟩ := kk (T.setVm vm') hT X'
  exact ⟨t, st.trans a1, b1⟩
end Rows
section Ends
variable {p : Program} {l : Launch} {e : Env} {R : Room} {s : State} {m : MethodId} {args : Array Value} {below : List Frame} {meth : Method} {c : Code} {H : Heap} {locs : List Loc} {cells slots : Nat} {Q : State → Prop}
variable {mc ms : Nat} {free : Addr → Prop} {A0 A1 : Nat → Prop} {H0 : Heap} {a : Array Value} {ls : Array Slot} {st0 rest : List Value}
variable {Qc : Array Value → State → Outcome → State → Prop} {XC : String → State → State → Prop}
/-- what a body that may throw owes at its end -/
def vx_MQ (below : List Frame) (Qc : Array Value → State → Outcome → State → Prop) (XC : String → State → State → Prop) (a : Array Value) (s : State) (mc ms : Nat) (free : Addr → Prop) : State → Prop := fun t =>
  ∃ o, t.status = .running ∧ Ended t below o ∧ vx_Q Qc XC mc ms free a s o t
theorem vx_ret {g : JFrame} {mc ms : Nat} (k : W p l e R s m args below meth c H locs cells slots (MQ below Qc args s mc ms free) g) : W p l e R s m args below meth c H locs cells slots (vx_MQ below Qc XC args s mc ms free) g := by
  intro T hT X
  obtain ⟨t, a1, o, b1, b2, b3, b4⟩ := k T hT X
  exact ⟨t, a1, o, b1, b2, Or.inl ⟨b3, b4⟩⟩
/-- not caught here: it goes on to the caller -/
theorem vx_widen {g : JFrame} {q : Addr} {k n : Nat} (h1 : cells ≤ k) (h2 : slots ≤ n) (kk : vx_W p l e R s m args below meth c H locs k n Q g q) : vx_W p l e R s m args below meth c H locs cells slots Q g q := fun T hT X => kk T hT (stand_widen X h1 h2)
theorem vx_out {pc : Nat} {E : String} {ce : Cell} {q : Addr} {mc ms : Nat} (hout : ∀ x ∈ c.exceptionTable.toList, covers x pc = false) (hlocks : meth.locks = false) (hcell : H[q]? = some ce) (hv : ce.vm = .none) (hcl : s.vm.findClass E = some ce.cls)
    (hx : ∀ t : State, t.heap = H → s.vm.Alike t.vm → XC E s t) (hf : ∀ z ∈ locs, free z.base) (hc : cells ≤ mc) (hs : slots ≤ ms) :
    vx_W p l e R s m args below meth c H locs cells slots (vx_MQ below Qc XC args s mc ms free) (F0 m pc ls rest) q := by
  intro T hT X
  obtain ⟨st1, hrun, hend, hW, hsm⟩ := X.leaveThrown q (g := F0 m pc ls rest) rfl rfl rfl hout hlocks
  have hcell9 : (T.setFrames (.throwing q :: below)).heap[q]? = some ce := by
    show T.heap[q]? = some ce
    rw [hT]; exact hcell
  exact ⟨_, st1, .threw q, hrun, hend, Or.inr ⟨q, rfl, E, ce, locs, hx _ hT hW.alike, hcell9, hv, hcl, hW, hsm.mono hc hs, hf⟩⟩
theorem vx_frame {U : State} {k n : Nat} (h : s.sameButNew ({ U with vm := s.vm } : State) locs k n) : s.heap.size ≤ U.heap.size ∧ ∀ q : Nat, q < s.heap.size → (∀ z ∈ locs, z.base ≠ q) → U.heap[q]? = s.heap[q]? := by
  obtain ⟨-, h2, -, -, -, h6⟩ := h
  refine ⟨h2, fun q hq hz => ?_⟩
  obtain ⟨c9, e1, e2, e3, e4⟩ := h6 q _ (Array.getElem?_eq_getElem hq)
  have hs : c9.slots = (s.heap[q]).slots := Array.ext_getElem? fun i => e4 i fun hm => hz _ hm rfl
  have h9 : c9 = s.heap[q] := by
    rw [hs] at e2
    exact e2
  have e5 : U.heap[q]? = some c9 := e1
  rw [e5, h9, Array.getElem?_eq_getElem hq]
/-- the words of a throw but the four that speak of the heap -/
def vx_no (w : Cond) : Bool := decide (w ≠ .isRef (.static Bundle.tN "UNASSIGNED_STACK" Bundle.steD)) && decide (w ≠ .isRef (.static Bundle.tN "SUPPRESSED_SENTINEL" Bundle.listD)) && decide (w ≠ .laysStatic Bundle.tN "UNASSIGNED_STACK" Bundle.steD) && decide (w ≠ .laysStatic Bundle.tN "SUPPRESSED_SENTINEL" Bundle.listD)
def vx_at0 (own : String) (ic : Nat) (X : String) (names : List String) : List Cond := (Bundle.ownAtoms0 own ic X names).filter vx_no
def vx_atS (own : String) (ic : Nat) (X : String) (names : List String) : List Cond := (Bundle.ownAtoms own ic X names).filter vx_no
/-- a word that the tables alone decide, or a good one -/
def vx_ot (w : Cond) : Bool := w.onTables || goodWord w
theorem vx_ot_at {args a' : Array Value} {s U : State} {w : Cond} (hW : s.WarmedH U.vm) (hvm : s.vm = U.vm) (hg : vx_ot w = true) (h : w.before args s = true) : w.before a' U = true := by
  simp only [vx_ot, Bool.or_eq_true] at hg
  rcases hg with hg | hg
  · exact va_tabs hg hvm h
  · exact word_at hW (good_of_word hg) h
/-- a list's words: the good ones out of the method's own list, the others by premises of their own -/
theorem vx_hat {args : Array Value} {s : State} {L B : List Cond} (h1 : ∀ w ∈ L.filter goodWord, w.before args s = true) (h2 : ∀ w ∈ L.filter (fun w => !goodWord w), w ∈ B) (h3 : ∀ w ∈ B, w.before args s = true) : ∀ w ∈ L, w.before args s = true := by
  intro w hw
  by_cases g : goodWord w = true
  · exact h1 w (List.mem_filter.mpr ⟨hw, g⟩)
  · refine h3 w (h2 w (List.mem_filter.mpr ⟨hw, ?_⟩))
    show (!goodWord w) = true
    cases hgw : goodWord w
    · rfl
    · exact absurd hgw g
theorem vx_c {args : Array Value} {s : State} {w : Cond} {B : List Cond} (h : w.before args s = true) (t : ∀ w ∈ B, w.before args s = true) : ∀ w' ∈ w :: B, w'.before args s = true := fun w' h' => (List.mem_cons.mp h').elim (fun e => by rw [e]; exact h) (t w')
theorem vx_n {args : Array Value} {s : State} : ∀ w ∈ ([] : List Cond), w.before args s = true := fun _ h => nomatch h
theorem vx_own {args : Array Value} {s : State} {L : List Cond} (h1 : ∀ w ∈ L.filter vx_no, w.before args s = true)
    (hU : (Cond.isRef (.static Bundle.tN "UNASSIGNED_STACK" Bundle.steD)).before args s = true) (hN : (Cond.isRef (.static Bundle.tN "SUPPRESSED_SENTINEL" Bundle.listD)).before args s = true)
    (lU : (Cond.laysStatic Bundle.tN "UNASSIGNED_STACK" Bundle.steD).before args s = true) (lN : (Cond.laysStatic Bundle.tN "SUPPRESSED_SENTINEL" Bundle.listD).before args s = true) : ∀ w ∈ L, w.before args s = true := by
  intro w hw
  by_cases e1 : w = .isRef (.static Bundle.tN "UNASSIGNED_STACK" Bundle.steD)
  · rw [e1]; exact hU
  · by_cases e2 : w = .isRef (.static Bundle.tN "SUPPRESSED_SENTINEL" Bundle.listD)
    · rw [e2]; exact hN
    · by_cases e3 : w = .laysStatic Bundle.tN "UNASSIGNED_STACK" Bundle.steD
      · rw [e3]; exact lU
      · by_cases e4 : w = .laysStatic Bundle.tN "SUPPRESSED_SENTINEL" Bundle.listD
        · rw [e4]; exact lN
        · exact h1 w (List.mem_filter.mpr ⟨hw, by unfold vx_no; rw [decide_eq_true e1, decide_eq_true e2, decide_eq_true e3, decide_eq_true e4]; rfl⟩)
/-- where a static field lies, its class's statics cell in H -/
def vx_L (C n d : String) (A : Nat → Prop) (U : State) (H : Heap) : Prop := ∃ (c : ClassId) (k : Class) (i : Nat) (f : Field) (a : Nat) (cell : Cell), U.vm.findClass C = some c ∧ U.fieldFound? C n d = some (c, k, i, f) ∧ f.isStatic = true ∧ k.statics = some a ∧ H[a]? = some cell ∧ cell.vm.isStatics = true ∧ cell.cls = c ∧ f.slot < cell.slots.size ∧ k.staticTypes[f.slot]? = some f.type ∧ ¬ A a
theorem vx_L.moved {C n d : String} {A : Nat → Prop} {u U : State} {H : Heap} (hvm : u.vm.Alike U.vm) (h : vx_L C n d A u H) : vx_L C n d A U H := by
  obtain ⟨c, k, i, f, a, cell, h1, h2, h3, h4, h5, h6, h7, h8, h9, h10⟩ := h
  obtain ⟨k', hi', he⟩ := State.fieldFound?_setVm hvm h2
  exact ⟨c, k', i, f, a, cell, by rw [hvm.findClass]; exact h1, hi', h3, by rw [he]; exact h4, h5, h6, h7, h8, by rw [he]; exact h9, h10⟩
theorem vx_L.kept {C n d : String} {A : Nat → Prop} {U : State} {H H1 : Heap} (h : vx_L C n d A U H) (hq : ∀ a : Nat, a < H.size → ¬ A a → H1[a]? = H[a]?) : vx_L C n d A U H1 := by
  obtain ⟨c, k, i, f, a, cell, h1, h2, h3, h4, h5, h6, h7, h8, h9, h10⟩ := h
  exact ⟨c, k, i, f, a, cell, h1, h2, h3, h4, by rw [hq a (Array.getElem?_eq_some_iff.mp h5).1 h10]; exact h5, h6, h7, h8, h9, h10⟩
theorem vx_L.narrow {C n d : String} {A B : Nat → Prop} {U : State} {H : Heap} (h : vx_L C n d A U H) (hAB : ∀ q, B q → A q) : vx_L C n d B U H := by
  obtain ⟨c, k, i, f, a, cell, h1, h2, h3, h4, h5, h6, h7, h8, h9, h10⟩ := h
  exact ⟨c, k, i, f, a, cell, h1, h2, h3, h4, h5, h6, h7, h8, h9, fun z => h10 (hAB _ z)⟩
theorem vx_L.word {C n d : String} {A : Nat → Prop} {s : State} {args : Array Value} (h : vx_L C n d A s s.heap) : (Cond.laysStatic C n d).before args s = true := by
  obtain ⟨c, k, i, f, a, cell, h1, h2, h3, h4, h5, h6, h7, h8, h9, -⟩ := h
  show (Cond.laysStatic C n d).holds args s none s [] = true
  exact Cond.laysStatic_of h1 h2 h3 h4 h5 h6 h7 h8 h9
/-- .. and what it holds: null or some reference -/
def vx_Zq (C n d : String) (A : Nat → Prop) (U : State) (H : Heap) : Prop := va_Zq C n d A U H ∧ vx_L C n d A U H
theorem vx_Zq.moved {C n d : String} {A : Nat → Prop} {u U : State} {H : Heap} (hvm : u.vm.Alike U.vm) (h : vx_Zq C n d A u H) : vx_Zq C n d A U H := ⟨va_Zq.moved hvm h.1, vx_L.moved hvm h.2⟩
theorem vx_Zq.kept {C n d : String} {A : Nat → Prop} {U : State} {H H1 : Heap} (h : vx_Zq C n d A U H) (hq : ∀ a : Nat, a < H.size → ¬ A a → H1[a]? = H[a]?) : vx_Zq C n d A U H1 := ⟨va_Zq.kept h.1 hq, vx_L.kept h.2 hq⟩
theorem vx_Zq.narrow {C n d : String} {A B : Nat → Prop} {U : State} {H : Heap} (h : vx_Zq C n d A U H) (hAB : ∀ q, B q → A q) : vx_Zq C n d B U H := ⟨va_Zq.narrow h.1 hAB, vx_L.narrow h.2 hAB⟩
theorem vx_Zqof {args : Array Value} {s : State} {C n d : String} {A : Nat → Prop} (hl : (Cond.laysStatic C n d).before args s = true) (hini : (Cond.initialized C).before args s = true) (h : (Cond.isRef (.static C n d)).before args s = true) (hA : ∀ a : Nat, a < s.heap.size → ¬ A a) : vx_Zq C n d A s s.heap := by
  refine ⟨va_Zqof hl hini h hA, ?_⟩
  obtain ⟨c, k, i, f, a, cell, h1, h2, h3, h4, h5, h6, h7, h8, h9⟩ := Cond.laysStatic_spec hl
  exact ⟨c, k, i, f, a, cell, h1, h2, h3, h4, h5, h6, h7, h8, h9, hA a (Array.getElem?_eq_some_iff.mp h5).1⟩
theorem vx_isRef {C n d : String} {v : Value} {A : Nat → Prop} {s : State} {args : Array Value} (h : va_Z C n d v A s s.heap) (hv : v.isRef = true) : (Cond.isRef (.static C n d)).before args s = true := by
  obtain ⟨cf, kf, fi, f, a, cell, h1, h2, h3, h4, h5, h6, h7, -⟩ := h
  have he : (Term.static C n d).eval args s none [] s = some v := by
    simp [Term.eval, State.fieldNamed?, h1, h2, h4, h5, h6, h7]
  simp only [Cond.before, Cond.holds, Cond.value, he]
  cases v <;> simp_all [Value.isRef]
theorem vx_isRefq {C n d : String} {A : Nat → Prop} {s : State} {args : Array Value} (h : va_Zq C n d A s s.heap) : (Cond.isRef (.static C n d)).before args s = true := by
  rcases h with h | ⟨t, h⟩
  · exact vx_isRef h rfl
  · exact vx_isRef h rfl
/-- the same frame, seen from here: as if the method were called anew in this heap -/
theorem vx_rebase {T : State} (X : Stand p l e R s m args below meth c T locs cells slots) {R' : Room} (hf : R'.frames ≤ R.frames) (hl : R'.locals ≤ R.locals) (hc : cells + R'.cells ≤ R.cells) (hs : slots + R'.slots ≤ R.slots) :
    Stand p l e R' ((T.setVm s.vm).setFrames (.invoking m args :: below)) m args below meth c T [] 0 0 := by
  have htop : (T.setVm s.vm).topJava?.isSome := X.here.top
  have hF : ((T.setVm s.vm).setFrames (.invoking m args :: below)).frames = .invoking m args :: below := State.frames_setFrames _ (State.cur_lt_of_top htop)
  obtain ⟨g₀, hg0⟩ := Option.isSome_iff_exists.mp htop
  obtain ⟨r, hr⟩ := State.topJava?_eq_some.mp hg0
  have hl9 : e.platform.stackLimits (T.setVm s.vm).me = e.platform.stackLimits s.me := X.limits
  have hb9 : (T.setVm s.vm).me.stackBytes = s.me.stackBytes := X.bytes
  refine ⟨X.admits, X.cas, X.clock, hF, ?_, X.hears, X.method, X.code, X.here, X.tail, X.warmed, ?_, ?_, ?_⟩
  · have h := X.room
    have hU : ((T.setVm s.vm).setFrames (.invoking m args :: below)).localsInUse = s.localsInUse := by
      rw [State.localsInUse_invoking hF (meth := meth) (c := c) X.method X.code, State.localsInUse_invoking X.frames X.method X.code]
    simp only [State.hasRoom, Bool.and_eq_true, decide_eq_true_eq] at h ⊢
    obtain ⟨⟨⟨⟨h1, h2, h3, h4, h5, h6⟩, h7⟩, h8⟩, h9⟩ := h
    rw [X.frames, List.length_cons] at h2 h3
    have q1 := X.heapSize
    have q2 := X.used
    simp only [hF, hU, List.length_cons, State.stackLimits_setFrames, State.stackBytes_setFrames, hl9, hb9]
    refine ⟨⟨⟨⟨by omega, by omega, by omega, by omega, by omega, h6⟩, ?_⟩, ?_⟩, X.book⟩
    · show T.heap.size + R'.cells ≤ e.platform.maxCells
      omega
    · show T.slotsUsed + R'.slots ≤ e.platform.maxSlots
      omega
  · rw [State.stackLimits_setFrames]; rfl
  · rw [State.stackBytes_setFrames]; rfl
  · refine ⟨?_, Nat.le_refl _, Nat.le_refl _, ?_, ?_, fun a c9 h9 => ⟨c9, h9, rfl, rfl, fun _ _ => rfl⟩⟩
    · obtain ⟨t, ht, -⟩ := State.frames_cons hr
      show T.setVm s.vm = { ((T.setVm s.vm).setFrames (.invoking m args :: below)).setFrames (T.setVm s.vm).frames with heap := T.heap, slotsUsed := T.slotsUsed }
      rw [State.setFrames_setFrames, State.setFrames_self ht]
      rfl
    · show T.slotsUsed = T.slotsUsed + ((T.heap.toList.drop T.heap.size).map (·.slots.size)).sum
      rw [List.drop_eq_nil_of_le (Nat.le_of_eq Array.length_toList)]
      rfl
    · show ((T.heap.toList.drop T.heap.size).map (·.slots.size)).sum ≤ 0
      rw [List.drop_eq_nil_of_le (Nat.le_of_eq Array.length_toList)]
      exact Nat.le_refl _
/-- 'throw new E()': new; dup; invokespecial; athrow -/
theorem vx_throw0 {cc : ByteArray} {pc : Nat} (hexec : p.tables.exec = Jvm.exec) (hb : c.code = cc) (hl : l.stackTraces = false) {own cls : String} {names : List String} {ik ic mc ms : Nat} {A : Nat → Prop}
    (hown : s.vm.findClass own = some m.cls) (hcls : Bundle.fit cls = true) (hnames : ∀ n ∈ names, Bundle.fit n = true)
    (hk : (Cond.classLink own ik cls).before args s = true) (hini : (Cond.initialized cls).before args s = true) (hat : ∀ w ∈ vx_at0 own ic cls names, w.before args s = true)
    (hgood : ∀ w ∈ Cond.classLink own ik cls :: Cond.initialized cls :: vx_at0 own ic cls names, vx_ot w = true)
    (hU : vx_Zq Bundle.tN "UNASSIGNED_STACK" Bundle.steD A s s.heap) (hN : vx_Zq Bundle.tN "SUPPRESSED_SENTINEL" Bundle.listD A s s.heap) (hS : va_S A s.heap H locs) (hsize : ls.size = c.maxLocals)
    (d0 : decode cc pc = .ok (.new ik, 3)) (d3 : decode cc (pc + 3) = .ok (.dup, 1)) (d4 : decode cc (pc + 4) = .ok (.invokespecial ic, 3)) (d7 : decode cc (pc + 7) = .ok (.athrow, 1))
    (hout : ∀ x ∈ c.exceptionTable.toList, covers x (pc + 7) = false)
    (hRframes : names.length + 3 < R.frames) (hRlocals : (rest.map fun v => v.category).sum + (13 * (names.length + 1) + 42) ≤ R.locals) (hRcells : cells + 1 ≤ R.cells) (hRslots : slots + 6 ≤ R.slots) (hlocks : meth.locks = false)
    (hx : ∀ t : State, s.vm.Alike t.vm → H.size ≤ t.heap.size → (∀ q : Nat, q < H.size → t.heap[q]? = H[q]?) → XC cls s t)
    (hf : ∀ z ∈ locs, free z.base) (hc : cells + 1 ≤ mc) (hs : slots + 6 ≤ ms) :
    W p l e R s m args below meth c H locs cells slots (vx_MQ below Qc XC args s mc ms free) (F0 m pc ls rest) := by
  intro T hT X
  have htr : e.platform.stackTraces = false := (show e.platform.stackTraces = l.stackTraces by rw [X.admits.platform]).trans hl
  have Y := vx_rebase X (R' := { frames := R.frames, locals := R.locals, cells := 1, slots := 6 }) (Nat.le_refl _) (Nat.le_refl _) hRcells hRslots
  obtain ⟨s', hA⟩ : ∃ z, z = (T.setVm s.vm).setFrames (.invoking m args :: below) := ⟨_, rfl⟩
  rw [← hA] at Y
  have hvm : s'.vm = s.vm := by rw [hA]; rfl
  have hhp : s'.heap = H := by rw [hA]; exact hT
  have hW0 : s.WarmedH s'.vm := by rw [hvm]; exact State.WarmedH.refl s
  have hat' : ∀ w ∈ vx_at0 own ic cls names, w.before args s' = true := fun w hw => vx_ot_at hW0 hvm.symm (hgood w (List.mem_cons_of_mem _ (List.mem_cons_of_mem _ hw))) (hat w hw)
  have hk' : (Cond.classLink own ik cls).before args s' = true := vx_ot_at hW0 hvm.symm (hgood _ List.mem_cons_self) hk
  have hini' : (Cond.initialized cls).before args s' = true := vx_ot_at hW0 hvm.symm (hgood _ (List.mem_cons_of_mem _ List.mem_cons_self)) hini
  have hU' : vx_Zq Bundle.tN "UNASSIGNED_STACK" Bundle.steD A s' s'.heap := by rw [hhp]; exact vx_Zq.moved hW0.alike (hU.kept hS.2.1)
  have hN' : vx_Zq Bundle.tN "SUPPRESSED_SENTINEL" Bundle.listD A s' s'.heap := by rw [hhp]; exact vx_Zq.moved hW0.alike (hN.kept hS.2.1)
  have h : ∀ w ∈ Bundle.ownAtoms0 own ic cls names, w.before args s' = true := vx_own hat' (vx_isRefq hU'.1) (vx_isRefq hN'.1) hU'.2.word hN'.2.word
  have hown' : s'.vm.findClass own = some m.cls := by rw [hvm]; exact hown
  have hins : (Cond.instantiable cls 6).before args s' = true := h _ (by simp [Bundle.ownAtoms0])
  obtain ⟨vm₁, cX, kX, hfX, hkX, -, -, X₁, st1⟩ := Y.newCold hexec (own := own) (C := cls) (index := ik) (n := 6) hown' hk' hins hini'
    (g := F0 m pc ls rest) rfl (by rw [hb]; exact d0) (Nat.le_refl _) (Nat.le_refl _)
  generalize hT1 : (T.setVm vm₁).pushCell { cls := cX, slots := kX.instanceTypes.map defaultValue, vm := .none } = T1 at X₁ st1
  have hcat : (Value.ref T.heap.size).category = 1 := rfl
  have hcellA : T1.heap[T.heap.size]? = some (freshCell cX kX) := by rw [← hT1]; exact State.heap_pushCell_size _ _
  have d3' : decode c.code (pc + 3) = .ok (.dup, 1) := by rw [hb]; exact d3
  obtain ⟨U, hsteps, hrun, hend, hW, hsame, ce, hce, hO⟩ := X₁.ctorThrow0 hexec htr (own := own) (cls := cls) (names := names) (ic := ic) hown' hcls hnames h (fun x hx => nomatch hx) hfX hkX hcellA (by rw [hhp, hT]; exact Nat.le_refl _)
    (g := { method := m, pc := pc + 4, locals := ls, stack := .ref T.heap.size :: .ref T.heap.size :: rest, locked := none }) rfl hsize rfl rfl (rest := rest) rfl
    (by rw [hb]; exact d4) (by rw [hb]; exact d7) hout hRframes (by simp only [List.map_cons, List.sum_cons, hcat]; omega) hlocks
  obtain ⟨f1, f2⟩ := vx_frame hsame
  rw [hhp] at f1 f2
  have hWs : s.WarmedH U.vm := State.WarmedH.trans hW0 hW
  have hcl : s.vm.findClass cls = some ce.cls := by
    have h9 := hO.cls
    rw [hvm] at h9
    exact h9
  have hall : s.sameButNew ({ U with vm := s.vm } : State) locs mc ms := by
    subst hA
    obtain ⟨e1, e2⟩ := hsame
    rw [State.setFrames_setFrames] at e1
    have h2 : (T.setVm s.vm).sameButNew ({ U with vm := s.vm } : State) [] (0 + 1) (0 + 6) := ⟨e1, e2⟩
    have h3 := X.same.trans h2
    rw [List.append_nil] at h3
    exact h3.mono hc hs
  refine ⟨U, ?_, .threw T.heap.size, hrun, hend, Or.inr ⟨T.heap.size, rfl, cls, ce, locs, hx U hWs.alike f1 (fun q hq => f2 q hq (fun z hz => nomatch hz)), hce, hO.vm, hcl, hWs, hall, hf⟩⟩
  refine st1 _ ?_
  show Steps p.tables e below (T1.setTop { method := m, pc := pc + 3, locals := ls, stack := .ref T.heap.size :: rest, locked := none }) _
  jvm_step X₁.here [X₁.here.top, hexec, d3', Value.category]
  exact hsteps
/-- 'throw new E("text")': new; dup; ldc; invokespecial; athrow -/
theorem vx_throwS {cc : ByteArray} {pc : Nat} (hexec : p.tables.exec = Jvm.exec) (hb : c.code = cc) (hl : l.stackTraces = false) {own cls text : String} {names : List String} {ik is ic mc ms sa : Nat} {A : Nat → Prop}
    (hown : s.vm.findClass own = some m.cls) (hcls : Bundle.fit cls = true) (hnames : ∀ n ∈ names, Bundle.fit n = true)
    (hk : (Cond.classLink own ik cls).before args s = true) (hini : (Cond.initialized cls).before args s = true) (hstr : vk_R own is text sa s) (hat : ∀ w ∈ vx_atS own ic cls names, w.before args s = true)
    (hgood : ∀ w ∈ Cond.classLink own ik cls :: Cond.initialized cls :: vx_atS own ic cls names, vx_ot w = true)
    (hU : vx_Zq Bundle.tN "UNASSIGNED_STACK" Bundle.steD A s s.heap) (hN : vx_Zq Bundle.tN "SUPPRESSED_SENTINEL" Bundle.listD A s s.heap) (hS : va_S A s.heap H locs) (hsize : ls.size = c.maxLocals)
    (d0 : decode cc pc = .ok (.new ik, 3)) (d3 : decode cc (pc + 3) = .ok (.dup, 1)) (d4 : decode cc (pc + 4) = .ok (.ldc is, 2)) (d6 : decode cc (pc + 6) = .ok (.invokespecial ic, 3)) (d9 : decode cc (pc + 9) = .ok (.athrow, 1))
    (hout : ∀ x ∈ c.exceptionTable.toList, covers x (pc + 9) = false)
    (hRframes : names.length + 3 < R.frames) (hRlocals : (rest.map fun v => v.category).sum + (13 * (names.length + 1) + 43) ≤ R.locals) (hRcells : cells + 1 ≤ R.cells) (hRslots : slots + 6 ≤ R.slots) (hlocks : meth.locks = false)
    (hx : ∀ t : State, s.vm.Alike t.vm → H.size ≤ t.heap.size → (∀ q : Nat, q < H.size → t.heap[q]? = H[q]?) → XC cls s t)
    (hf : ∀ z ∈ locs, free z.base) (hc : cells + 1 ≤ mc) (hs : slots + 6 ≤ ms) :
    W p l e R s m args below meth c H locs cells slots (vx_MQ below Qc XC args s mc ms free) (F0 m pc ls rest) := by
  intro T hT X
  have htr : e.platform.stackTraces = false := (show e.platform.stackTraces = l.stackTraces by rw [X.admits.platform]).trans hl
  have Y := vx_rebase X (R' := { frames := R.frames, locals := R.locals, cells := 1, slots := 6 }) (Nat.le_refl _) (Nat.le_refl _) hRcells hRslots
  obtain ⟨s', hA⟩ : ∃ z, z = (T.setVm s.vm).setFrames (.invoking m args :: below) := ⟨_, rfl⟩
  rw [← hA] at Y
  have hvm : s'.vm = s.vm := by rw [hA]; rfl
  have hhp : s'.heap = H := by rw [hA]; exact hT
  have hW0 : s.WarmedH s'.vm := by rw [hvm]; exact State.WarmedH.refl s
  have hat' : ∀ w ∈ vx_atS own ic cls names, w.before args s' = true := fun w hw => vx_ot_at hW0 hvm.symm (hgood w (List.mem_cons_of_mem _ (List.mem_cons_of_mem _ hw))) (hat w hw)
  have hk' : (Cond.classLink own ik cls).before args s' = true := vx_ot_at hW0 hvm.symm (hgood _ List.mem_cons_self) hk
  have hini' : (Cond.initialized cls).before args s' = true := vx_ot_at hW0 hvm.symm (hgood _ (List.mem_cons_of_mem _ List.mem_cons_self)) hini
  have hU' : vx_Zq Bundle.tN "UNASSIGNED_STACK" Bundle.steD A s' s'.heap := by rw [hhp]; exact vx_Zq.moved hW0.alike (hU.kept hS.2.1)
  have hN' : vx_Zq Bundle.tN "SUPPRESSED_SENTINEL" Bundle.listD A s' s'.heap := by rw [hhp]; exact vx_Zq.moved hW0.alike (hN.kept hS.2.1)
  have h : ∀ w ∈ Bundle.ownAtoms own ic cls names, w.before args s' = true := vx_own hat' (vx_isRefq hU'.1) (vx_isRefq hN'.1) hU'.2.word hN'.2.word
  have hown' : s'.vm.findClass own = some m.cls := by rw [hvm]; exact hown
  have hins : (Cond.instantiable cls 6).before args s' = true := h _ (by simp [Bundle.ownAtoms])
  obtain ⟨vm₁, cX, kX, hfX, hkX, -, -, X₁, st1⟩ := Y.newCold hexec (own := own) (C := cls) (index := ik) (n := 6) hown' hk' hins hini'
    (g := F0 m pc ls rest) rfl (by rw [hb]; exact d0) (Nat.le_refl _) (Nat.le_refl _)
  generalize hT1 : (T.setVm vm₁).pushCell { cls := cX, slots := kX.instanceTypes.map defaultValue, vm := .none } = T1 at X₁ st1
  have hcat : (Value.ref T.heap.size).category = 1 := rfl
  have hcellA : T1.heap[T.heap.size]? = some (freshCell cX kX) := by rw [← hT1]; exact State.heap_pushCell_size _ _
  have d3' : decode c.code (pc + 3) = .ok (.dup, 1) := by rw [hb]; exact d3
  have d4' : decode c.code (pc + 4) = .ok (.ldc is, 2) := by rw [hb]; exact d4
  have hstr' : vk_R own is text sa s' := vk_R.warm hW0 hstr
  obtain ⟨U, hsteps, hrun, hend, hW, hsame, ce, hce, hO⟩ := X₁.ctorThrowS hexec htr (own := own) (cls := cls) (names := names) (ic := ic) hown' hcls hnames h (fun x hx => nomatch hx) hfX hkX hcellA (by rw [hhp, hT]; exact Nat.le_refl _) (msg := .ref sa) rfl
    (g := { method := m, pc := pc + 6, locals := ls, stack := .ref sa :: .ref T.heap.size :: .ref T.heap.size :: rest, locked := none }) rfl hsize rfl rfl (rest := rest) rfl
    (by rw [hb]; exact d6) (by rw [hb]; exact d9) hout hRframes (by simp only [List.map_cons, List.sum_cons, hcat]; omega) hlocks
  obtain ⟨f1, f2⟩ := vx_frame hsame
  rw [hhp] at f1 f2
  have hWs : s.WarmedH U.vm := State.WarmedH.trans hW0 hW
  have hcl : s.vm.findClass cls = some ce.cls := by
    have h9 := hO.cls
    rw [hvm] at h9
    exact h9
  have hall : s.sameButNew ({ U with vm := s.vm } : State) locs mc ms := by
    subst hA
    obtain ⟨e1, e2⟩ := hsame
    rw [State.setFrames_setFrames] at e1
    have h2 : (T.setVm s.vm).sameButNew ({ U with vm := s.vm } : State) [] (0 + 1) (0 + 6) := ⟨e1, e2⟩
    have h3 := X.same.trans h2
    rw [List.append_nil] at h3
    exact h3.mono hc hs
  refine ⟨U, ?_, .threw T.heap.size, hrun, hend, Or.inr ⟨T.heap.size, rfl, cls, ce, locs, hx U hWs.alike f1 (fun q hq => f2 q hq (fun z hz => nomatch hz)), hce, hO.vm, hcl, hWs, hall, hf⟩⟩
  refine st1 _ ?_
  show Steps p.tables e below (T1.setTop { method := m, pc := pc + 3, locals := ls, stack := .ref T.heap.size :: rest, locked := none }) _
  jvm_step X₁.here [X₁.here.top, hexec, d3', Value.category]
  exact X₁.ldcString hexec (own := own) (text := text) (index := is) (a := sa) hown' hstr'.1 hstr'.2
    (g := { method := m, pc := pc + 4, locals := ls, stack := .ref T.heap.size :: .ref T.heap.size :: rest, locked := none }) rfl d4' _ hsteps
/-- 'throw new E("text")', the text by a wide index -/
theorem vx_throwSW {cc : ByteArray} {pc : Nat} (hexec : p.tables.exec = Jvm.exec) (hb : c.code = cc) (hl : l.stackTraces = false) {own cls text : String} {names : List String} {ik is ic mc ms sa : Nat} {A : Nat → Prop}
    (hown : s.vm.findClass own = some m.cls) (hcls : Bundle.fit cls = true) (hnames : ∀ n ∈ names, Bundle.fit n = true)
    (hk : (Cond.classLink own ik cls).before args s = true) (hini : (Cond.initialized cls).before args s = true) (hstr : vk_R own is text sa s) (hat : ∀ w ∈ vx_atS own ic cls names, w.before args s = true)
    (hgood : ∀ w ∈ Cond.classLink own ik cls :: Cond.initialized cls :: vx_atS own ic cls names, vx_ot w = true)
    (hU : vx_Zq Bundle.tN "UNASSIGNED_STACK" Bundle.steD A s s.heap) (hN : vx_Zq Bundle.tN "SUPPRESSED_SENTINEL" Bundle.listD A s s.heap) (hS : va_S A s.heap H locs) (hsize : ls.size = c.maxLocals)
    (d0 : decode cc pc = .ok (.new ik, 3)) (d3 : decode cc (pc + 3) = .ok (.dup, 1)) (d4 : decode cc (pc + 4) = .ok (.ldc_w is, 3)) (d7 : decode cc (pc + 7) = .ok (.invokespecial ic, 3)) (d10 : decode cc (pc + 10) = .ok (.athrow, 1))
    (hout : ∀ x ∈ c.exceptionTable.toList, covers x (pc + 10) = false)
    (hRframes : names.length + 3 < R.frames) (hRlocals : (rest.map fun v => v.category).sum + (13 * (names.length + 1) + 43) ≤ R.locals) (hRcells : cells + 1 ≤ R.cells) (hRslots : slots + 6 ≤ R.slots) (hlocks : meth.locks = false)
    (hx : ∀ t : State, s.vm.Alike t.vm → H.size ≤ t.heap.size → (∀ q : Nat, q < H.size → t.heap[q]? = H[q]?) → XC cls s t)
    (hf : ∀ z ∈ locs, free z.base) (hc : cells + 1 ≤ mc) (hs : slots + 6 ≤ ms) :
    W p l e R s m args below meth c H locs cells slots (vx_MQ below Qc XC args s mc ms free) (F0 m pc ls rest) := by
  intro T hT X
  have htr : e.platform.stackTraces = false := (show e.platform.stackTraces = l.stackTraces by rw [X.admits.platform]).trans hl
  have Y := vx_rebase X (R' := { frames := R.frames, locals := R.locals, cells := 1, slots := 6 }) (Nat.le_refl _) (Nat.le_refl _) hRcells hRslots
  obtain ⟨s', hA⟩ : ∃ z, z = (T.setVm s.vm).setFrames (.invoking m args :: below) := ⟨_, rfl⟩
  rw [← hA] at Y
  have hvm : s'.vm = s.vm := by rw [hA]; rfl
  have hhp : s'.heap = H := by rw [hA]; exact hT
  have hW0 : s.WarmedH s'.vm := by rw [hvm]; exact State.WarmedH.refl s
  have hat' : ∀ w ∈ vx_atS own ic cls names, w.before args s' = true := fun w hw => vx_ot_at hW0 hvm.symm (hgood w (List.mem_cons_of_mem _ (List.mem_cons_of_mem _ hw))) (hat w hw)
  have hk' : (Cond.classLink own ik cls).before args s' = true := vx_ot_at hW0 hvm.symm (hgood _ List.mem_cons_self) hk
  have hini' : (Cond.initialized cls).before args s' = true := vx_ot_at hW0 hvm.symm (hgood _ (List.mem_cons_of_mem _ List.mem_cons_self)) hini
  have hU' : vx_Zq Bundle.tN "UNASSIGNED_STACK" Bundle.steD A s' s'.heap := by rw [hhp]; exact vx_Zq.moved hW0.alike (hU.kept hS.2.1)
  have hN' : vx_Zq Bundle.tN "SUPPRESSED_SENTINEL" Bundle.listD A s' s'.heap := by rw [hhp]; exact vx_Zq.moved hW0.alike (hN.kept hS.2.1)
  have h : ∀ w ∈ Bundle.ownAtoms own ic cls names, w.before args s' = true := vx_own hat' (vx_isRefq hU'.1) (vx_isRefq hN'.1) hU'.2.word hN'.2.word
  have hown' : s'.vm.findClass own = some m.cls := by rw [hvm]; exact hown
  have hins : (Cond.instantiable cls 6).before args s' = true := h _ (by simp [Bundle.ownAtoms])
  obtain ⟨vm₁, cX, kX, hfX, hkX, -, -, X₁, st1⟩ := Y.newCold hexec (own := own) (C := cls) (index := ik) (n := 6) hown' hk' hins hini'
    (g := F0 m pc ls rest) rfl (by rw [hb]; exact d0) (Nat.le_refl _) (Nat.le_refl _)
  generalize hT1 : (T.setVm vm₁).pushCell { cls := cX, slots := kX.instanceTypes.map defaultValue, vm := .none } = T1 at X₁ st1
  have hcat : (Value.ref T.heap.size).category = 1 := rfl
  have hcellA : T1.heap[T.heap.size]? = some (freshCell cX kX) := by rw [← hT1]; exact State.heap_pushCell_size _ _
  have d3' : decode c.code (pc + 3) = .ok (.dup, 1) := by rw [hb]; exact d3
  have d4' : decode c.code (pc + 4) = .ok (.ldc_w is, 3) := by rw [hb]; exact d4
  have hstr' : vk_R own is text sa s' := vk_R.warm hW0 hstr
  obtain ⟨U, hsteps, hrun, hend, hW, hsame, ce, hce, hO⟩ := X₁.ctorThrowS hexec htr (own := own) (cls := cls) (names := names) (ic := ic) hown' hcls hnames h (fun x hx => nomatch hx) hfX hkX hcellA (by rw [hhp, hT]; exact Nat.le_refl _) (msg := .ref sa) rfl
    (g := { method := m, pc := pc + 7, locals := ls, stack := .ref sa :: .ref T.heap.size :: .ref T.heap.size :: rest, locked := none }) rfl hsize rfl rfl (rest := rest) rfl
    (by rw [hb]; exact d7) (by rw [hb]; exact d10) hout hRframes (by simp only [List.map_cons, List.sum_cons, hcat]; omega) hlocks
  obtain ⟨f1, f2⟩ := vx_frame hsame
  rw [hhp] at f1 f2
  have hWs : s.WarmedH U.vm := State.WarmedH.trans hW0 hW
  have hcl : s.vm.findClass cls = some ce.cls := by
    have h9 := hO.cls
    rw [hvm] at h9
    exact h9
  have hall : s.sameButNew ({ U with vm := s.vm } : State) locs mc ms := by
    subst hA
    obtain ⟨e1, e2⟩ := hsame
    rw [State.setFrames_setFrames] at e1
    have h2 : (T.setVm s.vm).sameButNew ({ U with vm := s.vm } : State) [] (0 + 1) (0 + 6) := ⟨e1, e2⟩
    have h3 := X.same.trans h2
    rw [List.append_nil] at h3
    exact h3.mono hc hs
  refine ⟨U, ?_, .threw T.heap.size, hrun, hend, Or.inr ⟨T.heap.size, rfl, cls, ce, locs, hx U hWs.alike f1 (fun q hq => f2 q hq (fun z hz => nomatch hz)), hce, hO.vm, hcl, hWs, hall, hf⟩⟩
  refine st1 _ ?_
  show Steps p.tables e below (T1.setTop { method := m, pc := pc + 3, locals := ls, stack := .ref T.heap.size :: rest, locked := none }) _
  jvm_step X₁.here [X₁.here.top, hexec, d3', Value.category]
  exact X₁.ldcStringW hexec (own := own) (text := text) (index := is) (a := sa) hown' hstr'.1 hstr'.2
    (g := { method := m, pc := pc + 4, locals := ls, stack := .ref T.heap.size :: .ref T.heap.size :: rest, locked := none }) rfl d4' _ hsteps
end Ends
section Bodies
variable {l : Launch}
theorem vx_ofW {y : MethodName} {ws ws' : List Cond} {rm : Room} {Pc : Array Value → State → Prop} {Qc : Array Value → State → Outcome → State → Prop} {XC : String → State → State → Prop} {mc ms : Nat} {free : Addr → Prop} {cc : ByteArray} {maxL : Nat} {ret : Option FieldType}
    (hy : plainName y.cls = true) (hw : ws = Cond.code y cc maxL ret :: ws')
    (body : ∀ p e s m args below meth c s₁, BodyLoose p l y (headSpec ws rm) cc maxL ret e s m args below meth c s₁ → c.maxLocals = maxL → (∀ x ∈ c.exceptionTable.toList, False) → Pc args s →
      W p l e (headSpec ws rm).room s m args below meth c s.heap [] 0 0 (vx_MQ below Qc XC args s mc ms free) (entryFrame m args maxL)) : vx_Met l y ws rm Pc Qc XC mc ms free := by
  refine MetFree.of_bodyS (code := cc) (maxLocals := maxL) (ret := ret) hy ?_ ?_
  · intro args s m h hn
    obtain ⟨meth, c, h1, h2, h3, h4, h5, h6, -, -⟩ := Cond.code_spec hn (atoms_spec (ws := ws) h _ (by rw [hw]; exact List.mem_cons_self))
    exact ⟨meth, c, h1, h2, h3, h4, h5, h6⟩
  · intro p e s m args below meth c s₁ B hml hP _
    have hh0 : s₁.heap = s.heap := by rw [B.state]; rfl
    have ht : ∀ x ∈ c.exceptionTable.toList, False := by
      obtain ⟨meth9, c9, h1, h2, -, -, -, -, h7, -⟩ := Cond.code_spec B.named (atoms_spec (ws := ws) B.pre _ (by rw [hw]; exact List.mem_cons_self))
      cases Option.some.inj (h1.symm.trans B.method)
      cases Option.some.inj (h2.symm.trans (Stand.of_body B).code)
      intro x hx
      rw [Array.isEmpty_iff.mp h7] at hx
      cases hx
    obtain ⟨t, a1, o, b1, b2, b3⟩ := body p e s m args below meth c s₁ B hml ht hP s₁ hh0 (Stand.of_body B)
    exact ⟨t, o, a1, b1, b2, b3⟩
/-- the table of a body with handlers -/
theorem vx_table {p : Program} {x y : MethodName} {S : Spec} {cc bytes : ByteArray} {maxL maxL' : Nat} {ret ret' : Option FieldType} {e : Env} {s s₁ : State} {m : MethodId} {args : Array Value} {below : List Frame} {meth : Method} {c : Code} {hh : List (Nat × Nat × Nat × Nat)}
    (B : BodyLoose p l y S cc maxL ret e s m args below meth c s₁) (h : (Cond.codeWith y bytes maxL' ret' hh).before args s = true) : c.exceptionTable.toList = tableOf hh := by
  obtain ⟨m9, meth9, c9, hn9, h1, h2, -, -, h6, -⟩ := Cond.codeWith_spec h
  cases Option.some.inj (hn9.symm.trans B.named)
  cases Option.some.inj (h1.symm.trans B.method)
  cases Option.some.inj (h2.symm.trans (Stand.of_body B).code)
  rw [← h6, table_eq]
end Bodies
end VXA
/-! ===== END ===== -/
/-! ===== BEGIN a static call of a method with an exception table ===== -/
section VXS
variable {p : Program} {l : Launch} {e : Env} {R : Room} {s : State} {m : MethodId} {args : Array Value} {below : List Frame} {meth : Method} {c : Code} {T : State} {H : Heap} {locs : List Loc} {cells slots : Nat}
abbrev vx_CSW (R : Room) (s : State) (args : Array Value) (own : String) (index : Nat) (y : MethodName) (bytes : ByteArray) (maxL : Nat) (ret : Option FieldType) (hh : List (Nat × Nat × Nat × Nat)) (ws : List Cond) (rm : Room) (mc ms n : Nat) : Prop :=
  (rm.cells = mc ∧ rm.slots = ms ∧ rm.frames + 1 ≤ R.frames ∧ 8 + (maxL + 11) + rm.locals ≤ R.locals ∧ (∀ w ∈ ws, ∀ (a' : Array Value) (U : State), s.WarmedH U.vm → w.before a' U = true) ∧ Cond.codeWith y bytes maxL ret hh ∈ ws) ∧
  (Cond.codeWith y bytes maxL ret hh).before args s = true ∧ (Cond.initialized y.cls).before args s = true ∧ (y.cls ≠ "java/lang/invoke/MethodHandle" ∧ y.cls ≠ "java/lang/invoke/VarHandle") ∧
  (∀ sig, parseMethodDescriptor y.desc = some sig → n = sig.parameters.length) ∧ (Cond.methodLink own index y).before args s = true ∧ (Cond.static y).before args s = true
theorem vx_cwSW {own : String} {index maxL mc ms : Nat} {y : MethodName} {bytes : ByteArray} {ret : Option FieldType} {hh : List (Nat × Nat × Nat × Nat)} {Ts ws ws' : List Cond} {rm : Room} (n : Nat) (ht : ∀ w ∈ Ts, w.before args s = true) (hT : GoodIn Ts (va_wsS own index y ws)) (hw : ws = Cond.codeWith y bytes maxL ret hh :: ws') (hrc : rm.cells = mc) (hrs : rm.slots = ms)
    (hd : y.cls ≠ "java/lang/invoke/MethodHandle" ∧ y.cls ≠ "java/lang/invoke/VarHandle" ∧ (parseMethodDescriptor y.desc).map (fun d => d.parameters.length) = some n) (hR : rm.frames + 1 ≤ R.frames ∧ 8 + (maxL + 11) + rm.locals ≤ R.locals) :
    vx_CSW R s args own index y bytes maxL ret hh ws rm mc ms n := by
  have ok : ∀ w ∈ va_wsS own index y ws, w.before args s = true := fun w h => ht w (hT w h).1
  have hG : GoodIn Ts ws := fun w h => hT w (by unfold va_wsS; exact List.mem_append_right _ h)
  have hc : Cond.codeWith y bytes maxL ret hh ∈ ws := by rw [hw]; exact List.mem_cons_self
  refine ⟨⟨hrc, hrs, hR.1, hR.2, pay_in ht hG, hc⟩, ht _ (hG _ hc).1, ok _ (by simp [va_wsS]), ⟨hd.1, hd.2.1⟩, fun sig h => ?_, ok _ (by simp [va_wsS]), ok _ (by simp [va_wsS])⟩
  have h2 := hd.2.2
  rw [h] at h2
  exact (Option.some.inj h2).symm
theorem vx_callSW (X : Stand p l e R s m args below meth c T locs cells slots) (hexec : p.tables.exec = Jvm.exec) {own : String} {index : Nat} {y : MethodName} {bytes : ByteArray} {maxL : Nat} {ret : Option FieldType} {hh : List (Nat × Nat × Nat × Nat)}
    (hown : s.vm.findClass own = some m.cls) (hlink : (Cond.methodLink own index y).before args s = true) (hstat : (Cond.static y).before args s = true) (hinit : (Cond.initialized y.cls).before args s = true)
    (hcode : (Cond.codeWith y bytes maxL ret hh).before args s = true) (hy : y.cls ≠ "java/lang/invoke/MethodHandle" ∧ y.cls ≠ "java/lang/invoke/VarHandle")
    {W9 : Nat} {Pre : Pt → Array Value → Prop} {Post : Pt → Array Value → Option Value → Pt → Prop} (hK : Back l R p e below s args y 3 W9 Pre Post)
    {g : JFrame} (hg : g.method = m) (hsize : g.locals.size = c.maxLocals) {argsL rest : List Value} (hlen : ∀ sig, parseMethodDescriptor y.desc = some sig → argsL.length = sig.parameters.length)
    (hstack : g.stack = argsL.reverse ++ rest) (hW : 2 * g.monitorRoom + (rest.map fun v => v.category).sum ≤ W9) (hdg : decode c.code g.pc = .ok (.invokestatic index, 3))
    (hpre : ∀ vm₁, s.WarmedH vm₁ → Pre ⟨T.setVm vm₁, locs, cells, slots⟩ argsL.toArray) :
    ∃ (v : Option Value) (vm₁ : Vm) (B : Pt), s.WarmedH vm₁ ∧ Stand p l e R s m args below meth c B.U B.locs B.cells B.slots ∧ Post ⟨T.setVm vm₁, locs, cells, slots⟩ argsL.toArray v B ∧
      ∀ target, Steps p.tables e below (B.U.setTop { g with pc := g.pc + 3, stack := v.toList ++ rest }) target → Steps p.tables e below (T.setTop g) target := by
  obtain ⟨mk, methM, cM, hnamed, hmethM, -, -, -, -, -, -, hsigM⟩ := Cond.codeWith_spec hcode
  have hstatic : methM.isStatic = true := Cond.static_spec hnamed hmethM hstat
  obtain ⟨kP, hkP, -⟩ := className_of_methodNamed hnamed
  have hinitP : kP.init = .initialized := Cond.initialized_spec (findClass_of_methodNamed hnamed) hkP hinit
  obtain ⟨vm₁, X₁, hstep₁⟩ := X.invokestatic hexec hown hlink hnamed hmethM hstatic hkP hinitP hy (g := g) hg (argsL := argsL) (rest := rest) (hlen _ hsigM) hstack hdg
  obtain ⟨v, B, X', hpost, hsteps⟩ := hK m meth c ⟨T.setVm vm₁, locs, cells, slots⟩ { g with stack := rest } (.invokestatic index) mk argsL.toArray X₁ hg hsize hdg hW (X₁.named hnamed) (hpre vm₁ X₁.warmed)
  exact ⟨v, vm₁, B, X₁.warmed, X', hpost, fun target h => hstep₁ _ fun acts => by rw [doInvoke_state]; exact hsteps.trans h⟩
theorem vx_runSW {y : MethodName} {bytes cc : ByteArray} {maxL nL mc ms n index : Nat} {ret : Option FieldType} {hh : List (Nat × Nat × Nat × Nat)} {ws : List Cond} {rm : Room} {Pc : Array Value → State → Prop} {Qc : Array Value → State → Outcome → State → Prop} {free : Addr → Prop} {Ts : List Cond} {own : String} {As rest : List Value} {g : JFrame}
    (S : CallFix p m c cc nL s args Ts own) (hM : Met l y ws rm Pc Qc mc ms free) (cw : vx_CSW R s args own index y bytes maxL ret hh ws rm mc ms n) (hp : PreS s H Pc As)
    (hg : g.method = m) (hn : As.length = n) (hsize : g.locals.size = nL) (hstack : g.stack = As.reverse ++ rest) (hW : 2 * g.monitorRoom + (rest.map fun v => v.category).sum ≤ 8) (hdg : decode cc g.pc = .ok (.invokestatic index, 3)) (hf : cells + mc ≤ R.cells ∧ slots + ms ≤ R.slots) :
    va_Run p l e R s m args below meth c H locs cells slots mc ms g rest (Qc As.toArray) (free) := by
  obtain ⟨⟨hrc, hrs, hfr, hlo, hws, hcw⟩, hcode, hini, hy, hlen, hl, hstt⟩ := cw
  have hK : Back l R p e below s args y 3 8 (PreOf R mc ms Pc) (PostOf Qc mc ms free) := va_backW (hh := hh) (bytes := bytes) (maxL := maxL) (ret := ret) hM hp.1 hrc hrs hfr hlo hws hcw (fun a' U hW => word_at hW (Or.inl (by first | rfl | simp [Cond.onTables, Cond.keeps, Cond.steady])) hini)
  obtain ⟨hx, hb, hml, ho, -⟩ := S
  intro T hT X
  obtain ⟨v, vm₁, ⟨U', l2, c2, s2⟩, hW₁, X', ⟨g', mk, t, L, e1, e2, hq, h1, hL, h2, h3⟩, st⟩ := vx_callSW X hx (hh := hh) (bytes := bytes) (maxL := maxL) (ret := ret) ho hl hstt hini hcode hy hK hg (hsize.trans hml.symm) (argsL := As) (rest := rest) (fun sig h => hn.trans (hlen sig h)) hstack hW (by rw [hb]; exact hdg)
    (fun vm₁ hW₁ => ⟨hf.1, hf.2, hp.2 (T.setVm vm₁) hT hW₁⟩)
  dsimp only [Pt.U, Pt.locs, Pt.cells, Pt.slots] at X' e1 e2 h1 h2 h3 st
  subst h1; subst h2; subst h3
  exact ⟨v, (T.setVm vm₁).calling g' mk As.toArray, t, U', L, hT, X', hL, e1, e2, hq, st⟩
/-- not caught here, past rows that name other classes: it goes on to the caller -/
theorem vx_outP {p : Program} {l : Launch} {e : Env} {R : Room} {s : State} {m : MethodId} {args : Array Value} {below : List Frame} {meth : Method} {c : Code} {H : Heap} {locs : List Loc} {cells slots : Nat} {free : Addr → Prop} {ls : Array Slot} {rest : List Value} {Qc : Array Value → State → Outcome → State → Prop} {XC : String → State → State → Prop}
    {pc : Nat} {own E : String} {ce : Cell} {q : Addr} {mc ms : Nat} (hown : s.vm.findClass own = some m.cls) (hlocks : meth.locks = false)
    (hpass : ∀ z ∈ c.exceptionTable.toList, covers z pc = false ∨ (z.catchType ≠ 0 ∧ ∃ nm : String, (Cond.classLink own z.catchType nm).before args s = true ∧ va_Nc E nm s)) (hcell : H[q]? = some ce) (hv : ce.vm = .none) (hcl : s.vm.findClass E = some ce.cls)
    (hx : ∀ t : State, t.heap = H → s.vm.Alike t.vm → XC E s t) (hf : ∀ z ∈ locs, free z.base) (hc : cells ≤ mc) (hs : slots ≤ ms) :
    vx_W p l e R s m args below meth c H locs cells slots (vx_MQ below Qc XC args s mc ms free) (F0 m pc ls rest) q := by
  intro T hT X
  have hpl : e.platform.magicAccessors = ({} : Platform).magicAccessors := by rw [X.admits.platform]
  obtain ⟨vm', hW', X', st⟩ := X.outThrough hlocks q (g := F0 m pc ls rest) rfl rfl rfl (cell := ce) (by rw [hT]; exact hcell) (by rw [hv]; rfl)
    (by obtain ⟨k9, h9, -⟩ := Vm.findClass_spec hcl; exact ⟨k9, h9⟩) (fun z hz => by
      rcases hpass z hz with h | ⟨hz0, nm, hl1, hn1⟩
      · exact Or.inl h
      · obtain ⟨c6, hc6, hcl6⟩ := Cond.classLink_spec hown hl1 e.platform hpl
        obtain ⟨a8, b8, h1, h2, h3⟩ := hn1
        cases Option.some.inj (h1.symm.trans hcl)
        cases Option.some.inj (h2.symm.trans hc6)
        exact Or.inr ⟨hz0, _, hcl6, h3⟩)
  obtain ⟨g₀, hfr⟩ := X'.frames_eq
  have hcell9 : ((T.setVm vm').setFrames (.throwing q :: below)).heap[q]? = some ce := by
    show T.heap[q]? = some ce
    rw [hT]; exact hcell
  have hend : Ended ((T.setVm vm').setFrames (.throwing q :: below)) below (.threw q) := State.frames_setFrames _ (State.cur_lt_of_frames hfr)
  refine ⟨(T.setVm vm').setFrames (.throwing q :: below), ?_, .threw q, X'.here.running, hend, Or.inr ⟨q, rfl, E, ce, locs, hx _ hT (X'.ends _).1.alike, hcell9, hv, hcl, (X'.ends _).1, (X'.ends _).2.mono hc hs, hf⟩⟩
  rw [X.pushThrowing_eq]
  exact st
/-- a thing of a world lies in the heap -/
theorem vx_lt {D : va_G} {cl : List vw_C} {ws : va_W} {H1 : Heap} (h : va_P D cl ws H1) {k : Nat} {q : Nat × va_E} (hk : ws[k]? = some q) : q.1 < H1.size := (h k q hk).lt
end VXS
/-! ===== END ===== -/
/-! ===== BEGIN methods with a table of their own: called by a name, returning or throwing ===== -/
section VXH
/-! vx_backW, vx_callVX, vx_callSX, vx_callVW, vx_runVW, vx_runVX, vx_runSX, vx_ofWH follow the same proofs as their sisters above (Free/Laws.lean, Shelf42/LK1.lean); vx_outP calls Shelf42/NT130.lean (outThrough). -/
section
variable {l : Launch} {R : Room} {p : Program} {e : Env} {below : List Frame} {s : State} {sargs : Array Value} {y : MethodName} {len W9 : Nat}
theorem vx_backW {ws : List Cond} {rm : Room} {Pc : Array Value → State → Prop} {Qc : Array Value → State → Outcome → State → Prop} {XC : String → State → State → Prop} {mc ms : Nat} {free : Addr → Prop} {bytes : ByteArray} {maxL : Nat} {ret : Option FieldType} {hh : List (Nat × Nat × Nat × Nat)}
    (hM : vx_Met l y ws rm Pc Qc XC mc ms free) (hblind : FrameBlind Pc) (hrc : rm.cells = mc) (hrs : rm.slots = ms)
    (hframes : rm.frames + 1 ≤ R.frames) (hlocals : W9 + (maxL + 11) + rm.locals ≤ R.locals)
    (hws : ∀ w ∈ ws, ∀ a' U, s.WarmedH U.vm → w.before a' U = true) (hcode : Cond.codeWith y bytes maxL ret hh ∈ ws) (hinit : ∀ a' U, s.WarmedH U.vm → (Cond.initialized y.cls).before a' U = true) :
    vx_Back l R p e below s sargs y len W9 (PreOf R mc ms Pc) (PostOf Qc mc ms free) (vx_Post XC mc ms free) := by
  intro m meth c A g ig mk a X hg hsize hdg hW hn hp
  have h1 : (headSpec ws rm).pre.before a A.U = true := atoms_intro fun w hw => hws w hw _ _ X.warmed
  have h2 : (Cond.codeWith y bytes maxL ret hh).before a A.U = true := hws _ hcode _ _ X.warmed
  have h3 : (Cond.initialized y.cls).before a A.U = true := hinit _ _ X.warmed
  have h4 : A.cells + (headSpec ws rm).room.cells ≤ R.cells := by rw [show (headSpec ws rm).room.cells = mc from hrc]; exact hp.1
  have h5 : A.slots + (headSpec ws rm).room.slots ≤ R.slots := by rw [show (headSpec ws rm).room.slots = ms from hrs]; exact hp.2.1
  have hPc : Pc a (A.U.calling g mk a) := hblind _ _ _ _ hp.2.2
  obtain ⟨U, Ls, c0, s0⟩ := A
  dsimp only [Pt.U, Pt.locs, Pt.cells, Pt.slots] at h1 h2 h3 h4 h5 X hn hPc ⊢
  obtain ⟨m9, methY, cY, hn9, hmY, hcY, -, hlY, -⟩ := Cond.codeWith_spec h2
  cases Option.some.inj (hn9.symm.trans hn)
  obtain ⟨kY, hkY, -⟩ := className_of_methodNamed hn
  have hinitY : kY.init = .initialized := Cond.initialized_spec (findClass_of_methodNamed hn) hkY h3
  have h : At U g.method c below := by rw [hg]; exact X.here
  have hlocals9 : W9 + (maxL + 11) + (headSpec ws rm).room.locals ≤ R.locals := hlocals
  have happ : (headSpec ws rm).appliesLoose y e.platform (U.calling g mk a) = true :=
    Spec.appliesLoose_calling (g := g) h hdg hn hkY hinitY
      (X.room_calling (g := g) (R' := (headSpec ws rm).room) hsize hmY hcY hframes (by rw [hlY]; omega) h4 h5) h1
  obtain ⟨mid, hmid⟩ := h.above
  have hfr : (U.setTop g).frames = (.java g :: mid) ++ below := by rw [State.frames_setTop' g h.top, hmid]; rfl
  obtain ⟨o, s₂, hsteps, -, hend, hq⟩ := Steps.callFree hM p X.admits X.cas X.clock (acts := []) hfr happ hPc trivial
  have hq' : vx_Q Qc XC mc ms free a (U.calling g mk a) o s₂ := hq
  rw [State.frames_setTop' g h.top] at hend
  obtain ⟨g₀, hg0⟩ := Option.isSome_iff_exists.mp h.top
  obtain ⟨r, hr⟩ := State.topJava?_eq_some.mp hg0
  have hr' : (({ U with heap := s₂.heap, slotsUsed := s₂.slotsUsed } : State).setVm s₂.vm).frames = .java g₀ :: r := hr
  rcases hq' with ⟨hqc, L, hfe, hL⟩ | ⟨q, rfl, E, ce, L, hx, hce, hcv, hcl, hW₂, hsm, hL⟩
  · obtain ⟨⟨v, rfl⟩, hW₂, e2, q2, q3, q4, q5, q6⟩ := id hfe
    have e3 : s₂ = ({ (U.calling g mk a).setFrames s₂.frames with heap := s₂.heap, slotsUsed := s₂.slotsUsed } : State).setVm s₂.vm := by
      have : s₂ = ({ s₂ with vm := (U.calling g mk a).vm } : State).setVm s₂.vm := rfl
      rw [e2] at this
      exact this
    obtain ⟨c₂, i₂, len₂, hc₂, hd₂, hf₂⟩ := hend
    have hW' : U.WarmedH s₂.vm := hW₂
    have hcc : c₂ = c := by
      have h1 : s₂.code? g.method = U.code? g.method := by
        rw [State.code?_eq, State.code?_eq, hW'.alike.method?]
      exact Option.some.inj (hc₂.symm.trans (h1.trans h.code))
    subst hcc
    have hlen : len₂ = len := by rw [hdg] at hd₂; cases hd₂; rfl
    subst hlen
    have hs₂ : s₂ = (({ U with heap := s₂.heap, slotsUsed := s₂.slotsUsed } : State).setVm s₂.vm).setTop { g with pc := g.pc + len₂, stack := v.toList ++ g.stack } := by
      refine e3.trans ?_
      rw [hf₂, State.calling_eq h.top, State.setFrames_setFrames, State.setTop_of_frames _ hr', hr]
      rfl
    have hsame : U.sameButNew ({ U with heap := s₂.heap, slotsUsed := s₂.slotsUsed } : State) L mc ms := by
      refine ⟨?_, q2, q3, q4, q5, q6⟩
      obtain ⟨t, ht, -⟩ := State.frames_cons hr
      show ({ U with heap := s₂.heap, slotsUsed := s₂.slotsUsed } : State) = { U.setFrames U.frames with heap := s₂.heap, slotsUsed := s₂.slotsUsed }
      rw [State.setFrames_self ht]
    subst hg
    refine Or.inl ⟨v, ⟨(({ U with heap := s₂.heap, slotsUsed := s₂.slotsUsed } : State).setVm s₂.vm), Ls ++ L, c0 + mc, s0 + ms⟩,
      ⟨X.admits, X.cas, X.clock, X.frames, X.room, X.hears, X.method, X.code, (X.here.setHeapUsed s₂.heap s₂.slotsUsed).setVm hW'.alike, X.tail, State.WarmedH.trans X.warmed hW', X.limits, X.bytes, X.same.trans (hsame.setVm s.vm)⟩,
      ⟨g, mk, s₂, L, rfl, rfl, hqc, rfl, hL, rfl, rfl⟩, ?_⟩
    show Steps p.tables e below _ ((({ U with heap := s₂.heap, slotsUsed := s₂.slotsUsed } : State).setVm s₂.vm).setTop { g with pc := g.pc + len₂, stack := v.toList ++ g.stack })
    rw [← hs₂]
    exact hsteps
  · obtain ⟨e2, q2, q3, q4, q5, q6⟩ := id hsm
    have e3 : s₂ = ({ (U.calling g mk a).setFrames s₂.frames with heap := s₂.heap, slotsUsed := s₂.slotsUsed } : State).setVm s₂.vm := by
      have : s₂ = ({ s₂ with vm := (U.calling g mk a).vm } : State).setVm s₂.vm := rfl
      rw [e2] at this
      exact this
    have hf₂ : s₂.frames = .throwing q :: .java g :: U.frames.tail := hend
    have hW' : U.WarmedH s₂.vm := hW₂
    have hs₂ : s₂ = ((({ U with heap := s₂.heap, slotsUsed := s₂.slotsUsed } : State).setVm s₂.vm).setTop g).pushFrame (.throwing q) := by
      refine e3.trans ?_
      rw [hf₂, State.calling_eq h.top, State.setFrames_setFrames, State.pushFrame, State.frames_setTop _ hr', State.setTop_of_frames _ hr', State.setFrames_setFrames, hr]
      rfl
    have hsame : U.sameButNew ({ U with heap := s₂.heap, slotsUsed := s₂.slotsUsed } : State) L mc ms := by
      refine ⟨?_, q2, q3, q4, q5, q6⟩
      obtain ⟨t, ht, -⟩ := State.frames_cons hr
      show ({ U with heap := s₂.heap, slotsUsed := s₂.slotsUsed } : State) = { U.setFrames U.frames with heap := s₂.heap, slotsUsed := s₂.slotsUsed }
      rw [State.setFrames_self ht]
    subst hg
    refine Or.inr ⟨q, ⟨(({ U with heap := s₂.heap, slotsUsed := s₂.slotsUsed } : State).setVm s₂.vm), Ls ++ L, c0 + mc, s0 + ms⟩,
      ⟨X.admits, X.cas, X.clock, X.frames, X.room, X.hears, X.method, X.code, (X.here.setHeapUsed s₂.heap s₂.slotsUsed).setVm hW'.alike, X.tail, State.WarmedH.trans X.warmed hW', X.limits, X.bytes, X.same.trans (hsame.setVm s.vm)⟩,
      ⟨g, mk, s₂, L, E, ce, rfl, rfl, hx, hce, hcv, hcl, rfl, hL, rfl, rfl⟩, ?_⟩
    show Steps p.tables e below _ (((({ U with heap := s₂.heap, slotsUsed := s₂.slotsUsed } : State).setVm s₂.vm).setTop g).pushFrame (.throwing q))
    rw [← hs₂]
    exact hsteps
end
variable {p : Program} {l : Launch} {e : Env} {R : Room} {s : State} {m : MethodId} {args : Array Value} {below : List Frame} {meth : Method} {c : Code} {T : State} {H : Heap} {locs : List Loc} {cells slots : Nat}
theorem vx_callVX (X : Stand p l e R s m args below meth c T locs cells slots) (hexec : p.tables.exec = Jvm.exec) {own C : String} {index : Nat} {y : MethodName} {bytes : ByteArray} {maxL : Nat} {ret : Option FieldType} {hh : List (Nat × Nat × Nat × Nat)}
    (hown : s.vm.findClass own = some m.cls) (hlink : (Cond.methodLink own index y).before args s = true) (hinst : (Cond.instanceMethod y).before args s = true) (hsel : (Cond.selects C y y).before args s = true)
    (hcode : (Cond.codeWith y bytes maxL ret hh).before args s = true) (hy : y.cls ≠ "java/lang/invoke/MethodHandle" ∧ y.cls ≠ "java/lang/invoke/VarHandle")
    {W9 : Nat} {Pre : Pt → Array Value → Prop} {Post : Pt → Array Value → Option Value → Pt → Prop} {PostX : Pt → Array Value → Addr → Pt → Prop} (hK : vx_Back l R p e below s args y 3 W9 Pre Post PostX)
    {b : Addr} {cellB : Cell} (hcell : T.heap[b]? = some cellB) (hobj : cellB.vm.isStatics = false) (hcls : s.vm.findClass C = some cellB.cls)
    {g : JFrame} (hg : g.method = m) (hsize : g.locals.size = c.maxLocals) {argsL rest : List Value} (hlen : ∀ sig, parseMethodDescriptor y.desc = some sig → argsL.length = sig.parameters.length)
    (hstack : g.stack = argsL.reverse ++ .ref b :: rest) (hW : 2 * g.monitorRoom + (rest.map fun v => v.category).sum ≤ W9) (hdg : decode c.code g.pc = .ok (.invokevirtual index, 3))
    (hpre : ∀ vm₁, s.WarmedH vm₁ → Pre ⟨T.setVm vm₁, locs, cells, slots⟩ (Value.ref b :: argsL).toArray) :
    (∃ (v : Option Value) (vm₁ : Vm) (B : Pt), s.WarmedH vm₁ ∧ Stand p l e R s m args below meth c B.U B.locs B.cells B.slots ∧ Post ⟨T.setVm vm₁, locs, cells, slots⟩ (Value.ref b :: argsL).toArray v B ∧
      ∀ target, Steps p.tables e below (B.U.setTop { g with pc := g.pc + 3, stack := v.toList ++ rest }) target → Steps p.tables e below (T.setTop g) target) ∨
    (∃ (q : Addr) (vm₁ : Vm) (B : Pt), s.WarmedH vm₁ ∧ Stand p l e R s m args below meth c B.U B.locs B.cells B.slots ∧ PostX ⟨T.setVm vm₁, locs, cells, slots⟩ (Value.ref b :: argsL).toArray q B ∧
      Steps p.tables e below (T.setTop g) ((B.U.setTop { g with stack := rest }).pushFrame (.throwing q))) := by
  obtain ⟨mk, methM, hnamed, hmethM, hstM, habM⟩ := Cond.instanceMethod_spec hinst
  obtain ⟨m8, methM', cM, hn8, hmethM', -, -, -, -, -, -, hsigM⟩ := Cond.codeWith_spec hcode
  cases Option.some.inj (hn8.symm.trans hnamed)
  cases hmethM.symm.trans hmethM'
  obtain ⟨c2, r2, m2, q1, q2, q3, q4, kP, hkP, hkPi⟩ := Cond.selects_spec hsel
  cases hcls.symm.trans q1
  cases (State.methodFound?_of_named hnamed hy).symm.trans q2
  cases hnamed.symm.trans q3
  have hselP : selectMethod e.platform s.vm cellB.cls mk = .method mk := by rw [Launch.admits_selectMethod X.admits]; exact q4
  obtain ⟨vm₁, X₁, hstep₁⟩ := X.invokevirtual hexec hown hlink hnamed hmethM hstM hkP hkPi hy (a := b) (cell := cellB) hcell
    (fun z h => by rw [h] at hobj; cases hobj) hselP hmethM habM hkP hkPi (g := g) hg (argsL := argsL) (rest := rest) (hlen _ hsigM) hstack hdg
  rcases hK m meth c ⟨T.setVm vm₁, locs, cells, slots⟩ { g with stack := rest } (.invokevirtual index) mk (Value.ref b :: argsL).toArray X₁ hg hsize hdg hW (X₁.named hnamed) (hpre vm₁ X₁.warmed) with ⟨v, B, X', hpost, hsteps⟩ | ⟨q, B, X', hpost, hsteps⟩
  · exact Or.inl ⟨v, vm₁, B, X₁.warmed, X', hpost, fun target h => hstep₁ _ fun acts => by rw [doInvoke_state]; exact hsteps.trans h⟩
  · exact Or.inr ⟨q, vm₁, B, X₁.warmed, X', hpost, hstep₁ _ fun acts => by rw [doInvoke_state]; exact hsteps⟩
theorem vx_callSX (X : Stand p l e R s m args below meth c T locs cells slots) (hexec : p.tables.exec = Jvm.exec) {own : String} {index : Nat} {y : MethodName} {bytes : ByteArray} {maxL : Nat} {ret : Option FieldType} {hh : List (Nat × Nat × Nat × Nat)}
    (hown : s.vm.findClass own = some m.cls) (hlink : (Cond.methodLink own index y).before args s = true) (hstat : (Cond.static y).before args s = true) (hinit : (Cond.initialized y.cls).before args s = true)
    (hcode : (Cond.codeWith y bytes maxL ret hh).before args s = true) (hy : y.cls ≠ "java/lang/invoke/MethodHandle" ∧ y.cls ≠ "java/lang/invoke/VarHandle")
    {W9 : Nat} {Pre : Pt → Array Value → Prop} {Post : Pt → Array Value → Option Value → Pt → Prop} {PostX : Pt → Array Value → Addr → Pt → Prop} (hK : vx_Back l R p e below s args y 3 W9 Pre Post PostX)
    {g : JFrame} (hg : g.method = m) (hsize : g.locals.size = c.maxLocals) {argsL rest : List Value} (hlen : ∀ sig, parseMethodDescriptor y.desc = some sig → argsL.length = sig.parameters.length)
    (hstack : g.stack = argsL.reverse ++ rest) (hW : 2 * g.monitorRoom + (rest.map fun v => v.category).sum ≤ W9) (hdg : decode c.code g.pc = .ok (.invokestatic index, 3))
    (hpre : ∀ vm₁, s.WarmedH vm₁ → Pre ⟨T.setVm vm₁, locs, cells, slots⟩ argsL.toArray) :
    (∃ (v : Option Value) (vm₁ : Vm) (B : Pt), s.WarmedH vm₁ ∧ Stand p l e R s m args below meth c B.U B.locs B.cells B.slots ∧ Post ⟨T.setVm vm₁, locs, cells, slots⟩ argsL.toArray v B ∧
      ∀ target, Steps p.tables e below (B.U.setTop { g with pc := g.pc + 3, stack := v.toList ++ rest }) target → Steps p.tables e below (T.setTop g) target) ∨
    (∃ (q : Addr) (vm₁ : Vm) (B : Pt), s.WarmedH vm₁ ∧ Stand p l e R s m args below meth c B.U B.locs B.cells B.slots ∧ PostX ⟨T.setVm vm₁, locs, cells, slots⟩ argsL.toArray q B ∧
      Steps p.tables e below (T.setTop g) ((B.U.setTop { g with stack := rest }).pushFrame (.throwing q))) := by
  obtain ⟨mk, methM, cM, hnamed, hmethM, -, -, -, -, -, -, hsigM⟩ := Cond.codeWith_spec hcode
  have hstatic : methM.isStatic = true := Cond.static_spec hnamed hmethM hstat
  obtain ⟨kP, hkP, -⟩ := className_of_methodNamed hnamed
  have hinitP : kP.init = .initialized := Cond.initialized_spec (findClass_of_methodNamed hnamed) hkP hinit
  obtain ⟨vm₁, X₁, hstep₁⟩ := X.invokestatic hexec hown hlink hnamed hmethM hstatic hkP hinitP hy (g := g) hg (argsL := argsL) (rest := rest) (hlen _ hsigM) hstack hdg
  rcases hK m meth c ⟨T.setVm vm₁, locs, cells, slots⟩ { g with stack := rest } (.invokestatic index) mk argsL.toArray X₁ hg hsize hdg hW (X₁.named hnamed) (hpre vm₁ X₁.warmed) with ⟨v, B, X', hpost, hsteps⟩ | ⟨q, B, X', hpost, hsteps⟩
  · exact Or.inl ⟨v, vm₁, B, X₁.warmed, X', hpost, fun target h => hstep₁ _ fun acts => by rw [doInvoke_state]; exact hsteps.trans h⟩
  · exact Or.inr ⟨q, vm₁, B, X₁.warmed, X', hpost, hstep₁ _ fun acts => by rw [doInvoke_state]; exact hsteps⟩
theorem vx_callVW (X : Stand p l e R s m args below meth c T locs cells slots) (hexec : p.tables.exec = Jvm.exec) {own C : String} {index : Nat} {y : MethodName} {bytes : ByteArray} {maxL : Nat} {ret : Option FieldType} {hh : List (Nat × Nat × Nat × Nat)}
    (hown : s.vm.findClass own = some m.cls) (hlink : (Cond.methodLink own index y).before args s = true) (hinst : (Cond.instanceMethod y).before args s = true) (hsel : (Cond.selects C y y).before args s = true)
    (hcode : (Cond.codeWith y bytes maxL ret hh).before args s = true) (hy : y.cls ≠ "java/lang/invoke/MethodHandle" ∧ y.cls ≠ "java/lang/invoke/VarHandle")
    {W9 : Nat} {Pre : Pt → Array Value → Prop} {Post : Pt → Array Value → Option Value → Pt → Prop} (hK : Back l R p e below s args y 3 W9 Pre Post)
    {b : Addr} {cellB : Cell} (hcell : T.heap[b]? = some cellB) (hobj : cellB.vm.isStatics = false) (hcls : s.vm.findClass C = some cellB.cls)
    {g : JFrame} (hg : g.method = m) (hsize : g.locals.size = c.maxLocals) {argsL rest : List Value} (hlen : ∀ sig, parseMethodDescriptor y.desc = some sig → argsL.length = sig.parameters.length)
    (hstack : g.stack = argsL.reverse ++ .ref b :: rest) (hW : 2 * g.monitorRoom + (rest.map fun v => v.category).sum ≤ W9) (hdg : decode c.code g.pc = .ok (.invokevirtual index, 3))
    (hpre : ∀ vm₁, s.WarmedH vm₁ → Pre ⟨T.setVm vm₁, locs, cells, slots⟩ (Value.ref b :: argsL).toArray) :
    ∃ (v : Option Value) (vm₁ : Vm) (B : Pt), s.WarmedH vm₁ ∧ Stand p l e R s m args below meth c B.U B.locs B.cells B.slots ∧ Post ⟨T.setVm vm₁, locs, cells, slots⟩ (Value.ref b :: argsL).toArray v B ∧
      ∀ target, Steps p.tables e below (B.U.setTop { g with pc := g.pc + 3, stack := v.toList ++ rest }) target → Steps p.tables e below (T.setTop g) target := by
  obtain ⟨mk, methM, hnamed, hmethM, hstM, habM⟩ := Cond.instanceMethod_spec hinst
  obtain ⟨m8, methM', cM, hn8, hmethM', -, -, -, -, -, -, hsigM⟩ := Cond.codeWith_spec hcode
  cases Option.some.inj (hn8.symm.trans hnamed)
  cases hmethM.symm.trans hmethM'
  obtain ⟨c2, r2, m2, q1, q2, q3, q4, kP, hkP, hkPi⟩ := Cond.selects_spec hsel
  cases hcls.symm.trans q1
  cases (State.methodFound?_of_named hnamed hy).symm.trans q2
  cases hnamed.symm.trans q3
  have hselP : selectMethod e.platform s.vm cellB.cls mk = .method mk := by rw [Launch.admits_selectMethod X.admits]; exact q4
  obtain ⟨vm₁, X₁, hstep₁⟩ := X.invokevirtual hexec hown hlink hnamed hmethM hstM hkP hkPi hy (a := b) (cell := cellB) hcell
    (fun z h => by rw [h] at hobj; cases hobj) hselP hmethM habM hkP hkPi (g := g) hg (argsL := argsL) (rest := rest) (hlen _ hsigM) hstack hdg
  obtain ⟨v, B, X', hpost, hsteps⟩ := hK m meth c ⟨T.setVm vm₁, locs, cells, slots⟩ { g with stack := rest } (.invokevirtual index) mk (Value.ref b :: argsL).toArray X₁ hg hsize hdg hW (X₁.named hnamed) (hpre vm₁ X₁.warmed)
  exact ⟨v, vm₁, B, X₁.warmed, X', hpost, fun target h => hstep₁ _ fun acts => by rw [doInvoke_state]; exact hsteps.trans h⟩
abbrev vx_CVW (R : Room) (s : State) (args : Array Value) (own C : String) (index : Nat) (y : MethodName) (bytes : ByteArray) (maxL : Nat) (ret : Option FieldType) (hh : List (Nat × Nat × Nat × Nat)) (ws : List Cond) (rm : Room) (mc ms n : Nat) : Prop :=
  (rm.cells = mc ∧ rm.slots = ms ∧ rm.frames + 1 ≤ R.frames ∧ 8 + (maxL + 11) + rm.locals ≤ R.locals ∧ (∀ w ∈ ws, ∀ (a' : Array Value) (U : State), s.WarmedH U.vm → w.before a' U = true) ∧ Cond.codeWith y bytes maxL ret hh ∈ ws) ∧
  (Cond.codeWith y bytes maxL ret hh).before args s = true ∧ (Cond.initialized y.cls).before args s = true ∧ (y.cls ≠ "java/lang/invoke/MethodHandle" ∧ y.cls ≠ "java/lang/invoke/VarHandle") ∧
  (∀ sig, parseMethodDescriptor y.desc = some sig → n = sig.parameters.length) ∧ (Cond.methodLink own index y).before args s = true ∧ (Cond.instanceMethod y).before args s = true ∧ (Cond.selects C y y).before args s = true
theorem vx_cwVW {own C : String} {index maxL mc ms : Nat} {y : MethodName} {bytes : ByteArray} {ret : Option FieldType} {hh : List (Nat × Nat × Nat × Nat)} {Ts ws ws' : List Cond} {rm : Room} (n : Nat) (ht : ∀ w ∈ Ts, w.before args s = true) (hT : GoodIn Ts (wsV own index C y ws)) (hw : ws = Cond.codeWith y bytes maxL ret hh :: ws') (hrc : rm.cells = mc) (hrs : rm.slots = ms)
    (hd : y.cls = C ∧ y.cls ≠ "java/lang/invoke/MethodHandle" ∧ y.cls ≠ "java/lang/invoke/VarHandle" ∧ (parseMethodDescriptor y.desc).map (fun d => d.parameters.length) = some n) (hR : rm.frames + 1 ≤ R.frames ∧ 8 + (maxL + 11) + rm.locals ≤ R.locals) :
    vx_CVW R s args own C index y bytes maxL ret hh ws rm mc ms n := by
  obtain ⟨hC, hd⟩ := hd
  subst hC
  have ok : ∀ w ∈ wsV own index y.cls y ws, w.before args s = true := fun w h => ht w (hT w h).1
  have hG : GoodIn Ts ws := fun w h => hT w (by unfold wsV; exact List.mem_append_right _ h)
  have hc : Cond.codeWith y bytes maxL ret hh ∈ ws := by rw [hw]; exact List.mem_cons_self
  refine ⟨⟨hrc, hrs, hR.1, hR.2, pay_in ht hG, hc⟩, ht _ (hG _ hc).1, ok _ (by simp [wsV]), ⟨hd.1, hd.2.1⟩, fun sig h => ?_, ok _ (by simp [wsV]), ok _ (by simp [wsV]), ok _ (by simp [wsV])⟩
  have h2 := hd.2.2
  rw [h] at h2
  exact (Option.some.inj h2).symm
theorem vx_runVW {y : MethodName} {bytes cc : ByteArray} {maxL nL mc ms n index : Nat} {ret : Option FieldType} {hh : List (Nat × Nat × Nat × Nat)} {ws : List Cond} {rm : Room} {Pc : Array Value → State → Prop} {Qc : Array Value → State → Outcome → State → Prop} {free : Addr → Prop} {Ts : List Cond} {own C : String} {b : Addr} {As rest : List Value} {g : JFrame}
    (S : CallFix p m c cc nL s args Ts own) (hM : Met l y ws rm Pc Qc mc ms free) (cw : vx_CVW R s args own C index y bytes maxL ret hh ws rm mc ms n) (hp : PreV s H C b Pc As)
    (hg : g.method = m) (hn : As.length = n) (hsize : g.locals.size = nL) (hstack : g.stack = As.reverse ++ .ref b :: rest) (hW : 2 * g.monitorRoom + (rest.map fun v => v.category).sum ≤ 8) (hdg : decode cc g.pc = .ok (.invokevirtual index, 3)) (hf : cells + mc ≤ R.cells ∧ slots + ms ≤ R.slots) :
    va_Run p l e R s m args below meth c H locs cells slots mc ms g rest (Qc (Value.ref b :: As).toArray) free := by
  obtain ⟨⟨hrc, hrs, hfr, hlo, hws, hcw⟩, hcode, hini, hy, hlen, hl, hin, hse⟩ := cw
  have hK : Back l R p e below s args y 3 8 (PreOf R mc ms Pc) (PostOf Qc mc ms free) := va_backW (hh := hh) (bytes := bytes) (maxL := maxL) (ret := ret) hM hp.1 hrc hrs hfr hlo hws hcw (fun a' U hW => word_at hW (Or.inl (by first | rfl | simp [Cond.onTables, Cond.keeps, Cond.steady])) hini)
  obtain ⟨hx, hb, hml, ho, -⟩ := S
  obtain ⟨-, ⟨cellB, hcB, hoB, hclB⟩, hPc⟩ := hp
  intro T hT X
  obtain ⟨v, vm₁, ⟨U', l2, c2, s2⟩, hW₁, X', ⟨g', mk, t, L, e1, e2, hq, h1, hL, h2, h3⟩, st⟩ := vx_callVW X hx (C := C) (hh := hh) (bytes := bytes) (maxL := maxL) (ret := ret) ho hl hin hse hcode hy hK (by rw [hT]; exact hcB) hoB hclB hg (hsize.trans hml.symm) (argsL := As) (rest := rest) (fun sig h => hn.trans (hlen sig h)) hstack hW (by rw [hb]; exact hdg)
    (fun vm₁ hW₁ => ⟨hf.1, hf.2, hPc (T.setVm vm₁) hT hW₁⟩)
  dsimp only [Pt.U, Pt.locs, Pt.cells, Pt.slots] at X' e1 e2 h1 h2 h3 st
  subst h1; subst h2; subst h3
  exact ⟨v, (T.setVm vm₁).calling g' mk (Value.ref b :: As).toArray, t, U', L, hT, X', hL, e1, e2, hq, st⟩
section
variable {y : MethodName} {bytes cc : ByteArray} {maxL nL mc ms n index : Nat} {ret : Option FieldType} {ws : List Cond} {rm : Room} {Pc : Array Value → State → Prop} {Qc : Array Value → State → Outcome → State → Prop} {XC : String → State → State → Prop} {free : Addr → Prop} {Ts : List Cond} {own C : String} {b : Addr} {As rest : List Value} {g : JFrame}
theorem vx_runVX {hh : List (Nat × Nat × Nat × Nat)} (S : CallFix p m c cc nL s args Ts own) (hM : vx_Met l y ws rm Pc Qc XC mc ms free) (cw : vx_CVW R s args own C index y bytes maxL ret hh ws rm mc ms n) (hp : PreV s H C b Pc As)
    (hg : g.method = m) (hn : As.length = n) (hsize : g.locals.size = nL) (hstack : g.stack = As.reverse ++ .ref b :: rest) (hW : 2 * g.monitorRoom + (rest.map fun v => v.category).sum ≤ 8) (hdg : decode cc g.pc = .ok (.invokevirtual index, 3)) (hf : cells + mc ≤ R.cells ∧ slots + ms ≤ R.slots) :
    vx_Run p l e R s m args below meth c H locs cells slots mc ms g rest (Qc (Value.ref b :: As).toArray) XC free := by
  obtain ⟨⟨hrc, hrs, hfr, hlo, hws, hcw⟩, hcode, hini, hy, hlen, hl, hin, hse⟩ := cw
  have hK : vx_Back l R p e below s args y 3 8 (PreOf R mc ms Pc) (PostOf Qc mc ms free) (vx_Post XC mc ms free) := vx_backW (hh := hh) (bytes := bytes) (maxL := maxL) (ret := ret) hM hp.1 hrc hrs hfr hlo hws hcw (fun a' U hW => word_at hW (Or.inl (by first | rfl | simp [Cond.onTables, Cond.keeps, Cond.steady])) hini)
  obtain ⟨hx, hb, hml, ho, -⟩ := S
  obtain ⟨-, ⟨cellB, hcB, hoB, hclB⟩, hPc⟩ := hp
  intro T hT X
  rcases vx_callVX X hx (C := C) (hh := hh) (bytes := bytes) (maxL := maxL) (ret := ret) ho hl hin hse hcode hy hK (by rw [hT]; exact hcB) hoB hclB hg (hsize.trans hml.symm) (argsL := As) (rest := rest) (fun sig h => hn.trans (hlen sig h)) hstack hW (by rw [hb]; exact hdg)
    (fun vm₁ hW₁ => ⟨hf.1, hf.2, hPc (T.setVm vm₁) hT hW₁⟩) with ⟨v, vm₁, ⟨U', l2, c2, s2⟩, hW₁, X', ⟨g', mk, t, L, e1, e2, hq, h1, hL, h2, h3⟩, st⟩ | ⟨q, vm₁, ⟨U', l2, c2, s2⟩, hW₁, X', ⟨g', mk, t, L, E, ce, e1, e2, hq, hce, hcv, hcl, h1, hL, h2, h3⟩, st⟩
  · dsimp only [Pt.U, Pt.locs, Pt.cells, Pt.slots] at X' e1 e2 h1 h2 h3 st
    subst h1; subst h2; subst h3
    exact Or.inl ⟨v, (T.setVm vm₁).calling g' mk (Value.ref b :: As).toArray, t, U', L, hT, X', hL, e1, e2, hq, st⟩
  · dsimp only [Pt.U, Pt.locs, Pt.cells, Pt.slots] at X' e1 e2 h1 h2 h3 st hcl
    subst h1; subst h2; subst h3
    exact Or.inr ⟨q, (T.setVm vm₁).calling g' mk (Value.ref b :: As).toArray, t, U', L, E, ce, hT, X', hL, e1, e2, hq, hce, hcv, vx_cls hW₁ hcl, st⟩
theorem vx_runSX {hh : List (Nat × Nat × Nat × Nat)} (S : CallFix p m c cc nL s args Ts own) (hM : vx_Met l y ws rm Pc Qc XC mc ms free) (cw : vx_CSW R s args own index y bytes maxL ret hh ws rm mc ms n) (hp : PreS s H Pc As)
    (hg : g.method = m) (hn : As.length = n) (hsize : g.locals.size = nL) (hstack : g.stack = As.reverse ++ rest) (hW : 2 * g.monitorRoom + (rest.map fun v => v.category).sum ≤ 8) (hdg : decode cc g.pc = .ok (.invokestatic index, 3)) (hf : cells + mc ≤ R.cells ∧ slots + ms ≤ R.slots) :
    vx_Run p l e R s m args below meth c H locs cells slots mc ms g rest (Qc As.toArray) XC free := by
  obtain ⟨⟨hrc, hrs, hfr, hlo, hws, hcw⟩, hcode, hini, hy, hlen, hl, hstt⟩ := cw
  have hK : vx_Back l R p e below s args y 3 8 (PreOf R mc ms Pc) (PostOf Qc mc ms free) (vx_Post XC mc ms free) := vx_backW (hh := hh) (bytes := bytes) (maxL := maxL) (ret := ret) hM hp.1 hrc hrs hfr hlo hws hcw (fun a' U hW => word_at hW (Or.inl (by first | rfl | simp [Cond.onTables, Cond.keeps, Cond.steady])) hini)
  obtain ⟨hx, hb, hml, ho, -⟩ := S
  intro T hT X
  rcases vx_callSX X hx (hh := hh) (bytes := bytes) (maxL := maxL) (ret := ret) ho hl hstt hini hcode hy hK hg (hsize.trans hml.symm) (argsL := As) (rest := rest) (fun sig h => hn.trans (hlen sig h)) hstack hW (by rw [hb]; exact hdg)
    (fun vm₁ hW₁ => ⟨hf.1, hf.2, hp.2 (T.setVm vm₁) hT hW₁⟩) with ⟨v, vm₁, ⟨U', l2, c2, s2⟩, hW₁, X', ⟨g', mk, t, L, e1, e2, hq, h1, hL, h2, h3⟩, st⟩ | ⟨q, vm₁, ⟨U', l2, c2, s2⟩, hW₁, X', ⟨g', mk, t, L, E, ce, e1, e2, hq, hce, hcv, hcl, h1, hL, h2, h3⟩, st⟩
  · dsimp only [Pt.U, Pt.locs, Pt.cells, Pt.slots] at X' e1 e2 h1 h2 h3 st
    subst h1; subst h2; subst h3
    exact Or.inl ⟨v, (T.setVm vm₁).calling g' mk As.toArray, t, U', L, hT, X', hL, e1, e2, hq, st⟩
  · dsimp only [Pt.U, Pt.locs, Pt.cells, Pt.slots] at X' e1 e2 h1 h2 h3 st hcl
    subst h1; subst h2; subst h3
    exact Or.inr ⟨q, (T.setVm vm₁).calling g' mk As.toArray, t, U', L, E, ce, hT, X', hL, e1, e2, hq, hce, hcv, vx_cls hW₁ hcl, st⟩
end
end VXH
theorem vx_ofWH {l : Launch} {y : MethodName} {ws ws' : List Cond} {rm : Room} {Pc : Array Value → State → Prop} {Qc : Array Value → State → Outcome → State → Prop} {XC : String → State → State → Prop} {mc ms : Nat} {free : Addr → Prop} {cc : ByteArray} {maxL : Nat} {ret : Option FieldType} {hh : List (Nat × Nat × Nat × Nat)}
    (hy : plainName y.cls = true) (hw : ws = Cond.codeWith y cc maxL ret hh :: ws')
    (body : ∀ p e s m args below meth c s₁, BodyLoose p l y (headSpec ws rm) cc maxL ret e s m args below meth c s₁ → c.maxLocals = maxL → Pc args s →
      W p l e (headSpec ws rm).room s m args below meth c s.heap [] 0 0 (vx_MQ below Qc XC args s mc ms free) (entryFrame m args maxL)) : vx_Met l y ws rm Pc Qc XC mc ms free := by
  refine MetFree.of_bodyS (code := cc) (maxLocals := maxL) (ret := ret) hy ?_ ?_
  · intro args s m h hn
    obtain ⟨m9, meth, c, hn9, h1, h2, h3, h4, -, h5, h6, -⟩ := Cond.codeWith_spec (atoms_spec (ws := ws) h _ (by rw [hw]; exact List.mem_cons_self))
    cases hn.symm.trans hn9
    exact ⟨meth, c, h1, h2, h3, h4, h5, h6⟩
  · intro p e s m args below meth c s₁ B hml hP _
    have hh0 : s₁.heap = s.heap := by rw [B.state]; rfl
    obtain ⟨t, a1, o, b1, b2, b3⟩ := body p e s m args below meth c s₁ B hml hP s₁ hh0 (Stand.of_body B)
    exact ⟨t, o, a1, b1, b2, b3⟩
/-! ===== END ===== -/
end
section
/-! THE SMALL MACHINE: a heap of numbered cells (Mm), locals by place (Lv), and PT: the kit's W at a point whose heap, locals and stack are told by them. -/
-- words: those of the tables that every callee may have
def TG : List Cond := lw_tbl.filter goodWord
theorem TG_good : GoodIn TG TG := fun _ h => ⟨h, good_of_word (List.mem_filter.mp h).2⟩
theorem TG_in {w : Cond} (i : Nat) (h : lw_tbl[i]? = some w) (g : goodWord w = true) : w ∈ TG := List.mem_filter.mpr ⟨List.mem_of_getElem? h, g⟩
-- cells, the heap: how many cells, how many slots, what each holds
abbrev MC : Type := (Nat × vp_A) ⊕ (Nat × List Value)
abbrev Mm : Type := Nat × Nat × (Nat → MC)
abbrev Lv : Type := List (Option Value)
def junk : MC := .inr (99, [])
/-- a cell of which nothing is told: an exception's -/
def opq : MC := .inr (98, [])
/-- the world's fixed part: the classes' numbers, the array classes by their tags, the addresses of the cells below 5 (statics, the script), the first address above -/
abbrev GF : Type := va_G × (Nat → ClassId) × (Nat → Nat) × Nat
def adr (X : GF) (i : Nat) : Nat := if i < 5 then X.2.2.1 i else X.2.2.2 + (i - 5)
def AA (X : GF) : Nat → Prop := fun q => X.2.2.2 ≤ q
def up (X : GF) (v : Value) : Value := match v with
  | .ref i => .ref (adr X i)
  | w => w
def upA (X : GF) (a : vp_A) : vp_A := (a.1, match a.2 with
  | .inr (.inr (.inr (.inr f))) => .inr (.inr (.inr (.inr (fun j => (f j).map (adr X)))))
  | w => w)
def upC (X : GF) (c : MC) : va_E := match c with
  | .inl (t, a) => .inl (X.2.1 t, upA X a)
  | .inr (k, fs) => .inr (k, fs.map (up X))
/-- the array types by their tags: 0 int, 1 boolean, 2 long, 3 yards, 4 layers, 5 rows -/
def atT (t : Nat) : FieldType := match t with
  | 0 => .int
  | 1 => .boolean
  | 2 => .long
  | 3 => .object "StackYard$Yard"
  | 4 => .object "StackYard$Layer"
  | _ => .object "StackYard$Row"
def TYS (X : GF) : List (ClassId × FieldType) := [(X.2.1 0, .int), (X.2.1 1, .boolean), (X.2.1 2, .long), (X.2.1 3, .object "StackYard$Yard"), (X.2.1 4, .object "StackYard$Layer"), (X.2.1 5, .object "StackYard$Row")]
/-- the static arrays: class, field, number -/
def STN : List (String × String × Nat) := [("StackYard$Turns", "AXES", 1), ("StackYard$Turns", "SIGNS", 2), ("StackYardModel", "PERMUTED", 3), ("StackYardModel", "EVEN", 4)]
/-- the words that the tables alone don't carry over: links between nest mates, and what a clone asks -/
def isNW : Cond → Bool
  | .methodLinkNest .. => true
  | .castable .. => true
  | .arrayOver (.object _) => true
  | .declares _ => true
  | _ => false
def NWL : List Cond := lw_tbl.filter isNW
def ST (X : GF) (U : State) (M : Mm) (H : Heap) : Prop :=
  (∀ i : Nat, i < 5 → ∃ (n : Nat) (f : Nat → Int32), M.2.2 i = .inl (0, n, .inl f) ∧ n < 2 ^ 31 ∧ va_T .int (adr X i) n (fun j => .int (f j)) (AA X) U H) ∧
  (∀ q ∈ STN, va_Z q.1 q.2.1 "[I" (.ref (adr X q.2.2)) (AA X) U H) ∧
  (vx_Zq Bundle.tN "UNASSIGNED_STACK" Bundle.steD (AA X) U H ∧ vx_Zq Bundle.tN "SUPPRESSED_SENTINEL" Bundle.listD (AA X) U H) ∧
  (∀ w ∈ NWL, va_Nw w U)
def Rp (X : GF) (U : State) (M : Mm) (H : Heap) : Prop :=
  (5 ≤ M.1 ∧ H.size = X.2.2.2 + (M.1 - 5)) ∧
  (∀ i : Nat, 5 ≤ i → i < M.1 → M.2.2 i = opq ∨ va_at X.1 vwCl (adr X i, upC X (M.2.2 i)) H) ∧
  (∀ i : Nat, M.1 ≤ i → M.2.2 i = junk) ∧
  va_K X.1 vwCl (TYS X) U ∧ ST X U M H
/-- a method: code, its class, locals, frames and words of the room, name, what it returns -/
abbrev MI : Type := ByteArray × String × Nat × Nat × Nat × String × Option FieldType
abbrev GT : Type := GF × Program × Launch × Env × Room × State × MethodId × Array Value × List Frame × Method × Code × Nat × Nat × (State → Prop)
abbrev gX (G : GT) : GF := G.1
abbrev gp (G : GT) : Program := G.2.1
abbrev gl (G : GT) : Launch := G.2.2.1
abbrev ge (G : GT) : Env := G.2.2.2.1
abbrev gR (G : GT) : Room := G.2.2.2.2.1
abbrev gs (G : GT) : State := G.2.2.2.2.2.1
abbrev gm (G : GT) : MethodId := G.2.2.2.2.2.2.1
abbrev ga (G : GT) : Array Value := G.2.2.2.2.2.2.2.1
abbrev gb (G : GT) : List Frame := G.2.2.2.2.2.2.2.2.1
abbrev gh (G : GT) : Method := G.2.2.2.2.2.2.2.2.2.1
abbrev gc (G : GT) : Code := G.2.2.2.2.2.2.2.2.2.2.1
abbrev gn (G : GT) : Nat := G.2.2.2.2.2.2.2.2.2.2.2.1
abbrev gz (G : GT) : Nat := G.2.2.2.2.2.2.2.2.2.2.2.2.1
abbrev gQ (G : GT) : State → Prop := G.2.2.2.2.2.2.2.2.2.2.2.2.2
def LOC (X : GF) (ls : Array Slot) (nL : Nat) (L : Lv) : Prop := ls.size = nL ∧ lv_wf ls ∧ ∀ (i : Nat) (v : Value), L[i]? = some (some v) → ls[i]? = some (.val (up X v))
def PT (G : GT) (pc : Nat) (L : Lv) (st : List Value) (M : Mm) : Prop :=
  ∀ (ls : Array Slot) (H : Heap) (locs : List Loc), LOC (gX G) ls (gc G).maxLocals L → Rp (gX G) (gs G) M H → va_S (AA (gX G)) (gs G).heap H locs →
    W (gp G) (gl G) (ge G) (gR G) (gs G) (gm G) (ga G) (gb G) (gh G) (gc G) H locs (M.1 - gn G) (M.2.1 - gz G) (gQ G) (F0 (gm G) pc ls (st.map (up (gX G))))
/-- what holds in a method's body -/
def CX (G : GT) (I : MI) : Prop :=
  (gp G).tables.exec = Jvm.exec ∧ (gc G).code = I.1 ∧ (gs G).vm.findClass I.2.1 = some (gm G).cls ∧ (gc G).maxLocals = I.2.2.1 ∧ (∀ w ∈ TG, w.before (ga G) (gs G) = true) ∧
  (gR G).frames = I.2.2.2.1 ∧ (gR G).locals = I.2.2.2.2.1 ∧ (gh G).name = I.2.2.2.2.2.1 ∧ (gh G).sig.returnType = I.2.2.2.2.2.2 ∧ (gh G).locks = false ∧ (gX G).2.2.2 ≤ (gs G).heap.size ∧ (gl G).flags = flags0
def csum (st : List Value) : Nat := (st.map fun v => v.category).sum
theorem csum_up (X : GF) (st : List Value) : ((st.map (up X)).map fun v => v.category).sum = csum st := by
  unfold csum
  rw [List.map_map]
  congr 1
  refine List.map_congr_left (fun v _ => ?_)
  cases v <;> rfl
theorem csum_cons (v : Value) (st : List Value) : csum (v :: st) = v.category + csum st := by simp [csum]
-- locals
def kil (i : Nat) (L : Lv) : Lv := match L[i - 1]? with
  | some (some v) => if v.category = 2 then L.set (i - 1) none else L
  | _ => L
def stL (i : Nat) (v : Value) (L : Lv) : Lv := (kil i L).set i (some v)
def stJ (i : Nat) (v : Value) (L : Lv) : Lv := ((kil i L).set i (some v)).set (i + 1) none
def lvl (X : GF) (L : Lv) : List (Nat × Value) := (List.range L.length).filterMap (fun j => match L[j]? with
  | some (some v) => some (j, up X v)
  | _ => none)
theorem mem_lvl {X : GF} {L : Lv} {j : Nat} {v : Value} (h : L[j]? = some (some v)) : (j, up X v) ∈ lvl X L := by
  refine List.mem_filterMap.mpr ⟨j, List.mem_range.mpr (List.getElem?_eq_some_iff.mp h).1, ?_⟩
  simp [h]
theorem LOC.has {X : GF} {ls : Array Slot} {nL : Nat} {L : Lv} (h : LOC X ls nL L) : lv_has ls nL (lvl X L) := by
  refine ⟨h.1, h.2.1, fun q hq => ?_⟩
  obtain ⟨j, -, hj⟩ := List.mem_filterMap.mp hq
  cases hL : L[j]? with
  | none => rw [hL] at hj; cases hj
  | some o =>
    cases o with
    | none => rw [hL] at hj; cases hj
    | some v =>
      rw [hL] at hj
      cases hj
      exact h.2.2 j v hL
theorem kil_get {i j : Nat} {L : Lv} {v : Value} (h : (kil i L)[j]? = some (some v)) : L[j]? = some (some v) ∧ ¬ (j + 1 = i ∧ v.category = 2) := by
  unfold kil at h
  split at h
  · rename_i w hw
    by_cases hc : w.category = 2
    · rw [if_pos hc] at h
      by_cases e : j = i - 1
      · subst e
        have hlt := (List.getElem?_eq_some_iff.mp hw).1
        rw [List.getElem?_set_self hlt] at h
        cases h
      · rw [List.getElem?_set_ne (fun q => e q.symm)] at h
        exact ⟨h, fun q => e (by omega)⟩
    · rw [if_neg hc] at h
      refine ⟨h, fun q => ?_⟩
      obtain ⟨q1, q2⟩ := q
      have : i - 1 = j := by omega
      rw [this, h] at hw
      cases hw
      exact hc q2
  · rename_i hno
    refine ⟨h, fun q => ?_⟩
    obtain ⟨q1, q2⟩ := q
    have : i - 1 = j := by omega
    rw [this] at hno
    exact hno _ h
theorem up_cat (X : GF) (v : Value) : (up X v).category = v.category := by cases v <;> rfl
theorem LOC.store {X : GF} {ls' : Array Slot} {nL i : Nat} {L : Lv} {v w : Value} (hw : up X v = w)
    (h' : lv_has ls' nL ((i, w) :: (lvl X L).filter (fun q => !(q.1 == i) && !(q.1 + 1 == i && q.2.category == 2)))) : LOC X ls' nL (stL i v L) := by
  refine ⟨h'.1, h'.2.1, fun j u hj => ?_⟩
  unfold stL at hj
  by_cases e : j = i
  · subst e
    by_cases hlt : j < (kil j L).length
    · rw [List.getElem?_set_self hlt] at hj
      cases hj
      rw [hw]
      exact h'.2.2 (j, w) List.mem_cons_self
    · rw [List.getElem?_eq_none (by rw [List.length_set]; omega)] at hj
      cases hj
  · rw [List.getElem?_set_ne (fun q => e q.symm)] at hj
    obtain ⟨h1, h2⟩ := kil_get hj
    refine h'.2.2 (j, up X u) (List.mem_cons_of_mem _ (List.mem_filter.mpr ⟨mem_lvl h1, ?_⟩))
    rw [up_cat]
    have e1 : (j == i) = false := by simpa using e
    rw [e1]
    cases hq : (j + 1 == i && u.category == 2) with
    | false => rfl
    | true =>
      simp only [Bool.and_eq_true, beq_iff_eq] at hq
      exact absurd hq h2
theorem LOC.storeJ {X : GF} {ls' : Array Slot} {nL i : Nat} {L : Lv} {v w : Value} (hw : up X v = w)
    (h' : lv_has ls' nL ((i, w) :: (lvl X L).filter (fun q => !(q.1 == i) && (!(q.1 == i + 1) && !(q.1 + 1 == i && q.2.category == 2))))) : LOC X ls' nL (stJ i v L) := by
  refine ⟨h'.1, h'.2.1, fun j u hj => ?_⟩
  unfold stJ at hj
  by_cases e2 : j = i + 1
  · subst e2
    by_cases hlt : i + 1 < ((kil i L).set i (some v)).length
    · rw [List.getElem?_set_self hlt] at hj
      cases hj
    · rw [List.getElem?_eq_none (by rw [List.length_set]; omega)] at hj
      cases hj
  · rw [List.getElem?_set_ne (fun q => e2 q.symm)] at hj
    by_cases e : j = i
    · subst e
      by_cases hlt : j < (kil j L).length
      · rw [List.getElem?_set_self hlt] at hj
        cases hj
        rw [hw]
        exact h'.2.2 (j, w) List.mem_cons_self
      · rw [List.getElem?_eq_none (by rw [List.length_set]; omega)] at hj
        cases hj
    · rw [List.getElem?_set_ne (fun q => e q.symm)] at hj
      obtain ⟨h1, h2⟩ := kil_get hj
      refine h'.2.2 (j, up X u) (List.mem_cons_of_mem _ (List.mem_filter.mpr ⟨mem_lvl h1, ?_⟩))
      rw [up_cat]
      have e1 : (j == i) = false := by simpa using e
      have e3 : (j == i + 1) = false := by simpa using e2
      rw [e1, e3]
      cases hq : (j + 1 == i && u.category == 2) with
      | false => rfl
      | true =>
        simp only [Bool.and_eq_true, beq_iff_eq] at hq
        exact absurd hq h2
end
section
/-! ROWS of the small machine: an instruction each, out of the kit's rows. -/
def setC (M : Mm) (a : Nat) (c : MC) : Mm := (M.1, M.2.1, fun b => if b = a then c else M.2.2 b)
def newC (M : Mm) (k : Nat) (c : MC) : Mm := (M.1 + 1, M.2.1 + k, fun b => if b = M.1 then c else M.2.2 b)
theorem va_P1 {D : va_G} {cl : List vw_C} {q : Nat × va_E} {H : Heap} (h : va_at D cl q H) : va_P D cl [q] H := by
  intro k x hx
  have hz : k < 1 := (List.getElem?_eq_some_iff.mp hx).1
  rw [show k = 0 by omega] at hx
  cases hx
  exact h
theorem adr_hi (X : GF) {a : Nat} (h : 5 ≤ a) : adr X a = X.2.2.2 + (a - 5) := by unfold adr; rw [if_neg (by omega)]
theorem Rp.ltA {X : GF} {U : State} {M : Mm} {H : Heap} (h : Rp X U M H) {a : Nat} {t : Nat} {x : vp_A} (hM : M.2.2 a = .inl (t, x)) : a < M.1 := by
  rcases Nat.lt_or_ge a M.1 with q | q
  · exact q
  · rw [h.2.2.1 a q] at hM
    cases hM
theorem Rp.ltO {X : GF} {U : State} {M : Mm} {H : Heap} (h : Rp X U M H) {a ci : Nat} {fs : List Value} (hM : M.2.2 a = .inr (ci, fs)) {r : vw_C} (hc : vwCl[ci]? = some r) : 5 ≤ a ∧ a < M.1 := by
  constructor
  · rcases Nat.lt_or_ge a 5 with q | q
    · obtain ⟨n, f, h1, -⟩ := h.2.2.2.2.1 a q
      rw [h1] at hM
      cases hM
    · exact q
  · rcases Nat.lt_or_ge a M.1 with q | q
    · exact q
    · rw [h.2.2.1 a q] at hM
      cases hM
      cases hc
/-- a cell that tells something -/
def tel : MC → Bool
  | .inl _ => true
  | .inr (c, _) => c != 98
theorem tel_o {ci : Nat} {fs : List Value} {r : vw_C} (hc : vwCl[ci]? = some r) : tel (.inr (ci, fs)) = true := by
  by_cases e : ci = 98
  · subst e
    cases hc
  · show (ci != 98) = true
    simpa using e
theorem Rp.at {X : GF} {U : State} {M : Mm} {H : Heap} (h : Rp X U M H) {a : Nat} {c : MC} (hM : M.2.2 a = c) (ht : tel c = true) (h5 : 5 ≤ a) (hl : a < M.1) : va_at X.1 vwCl (adr X a, upC X c) H := by
  rw [← hM]
  rcases h.2.1 a h5 hl with q | q
  · rw [← hM, q] at ht
    cases ht
  · exact q
theorem Rp.P {X : GF} {U : State} {M : Mm} {H : Heap} (h : Rp X U M H) {a : Nat} {c : MC} (hM : M.2.2 a = c) (ht : tel c = true) (h5 : 5 ≤ a) (hl : a < M.1) : va_P X.1 vwCl [(adr X a, upC X c)] H := va_P1 (h.at hM ht h5 hl)
theorem Rp.K {X : GF} {U : State} {M : Mm} {H : Heap} (h : Rp X U M H) : va_K X.1 vwCl (TYS X) U := h.2.2.2.1
theorem TYS_at (X : GF) {t : Nat} (h : t ≤ 5) : (TYS X)[t]? = some (X.2.1 t, atT t) := by
  rcases (show t = 0 ∨ t = 1 ∨ t = 2 ∨ t = 3 ∨ t = 4 ∨ t = 5 by omega) with rfl | rfl | rfl | rfl | rfl | rfl <;> rfl
theorem ST.kept {X : GF} {U : State} {M M' : Mm} {H H1 : Heap} (h : ST X U M H) (hq : ∀ a : Nat, a < H.size → ¬ AA X a → H1[a]? = H[a]?) (hm : ∀ i : Nat, i < 5 → M'.2.2 i = M.2.2 i) : ST X U M' H1 := by
  obtain ⟨h1, h2, ⟨h3, h4⟩, h5⟩ := h
  refine ⟨fun i hi => ?_, fun q hqm => (h2 q hqm).kept hq, ⟨h3.kept hq, h4.kept hq⟩, h5⟩
  obtain ⟨n, f, a1, a2, a3⟩ := h1 i hi
  exact ⟨n, f, by rw [hm i hi]; exact a1, a2, a3.kept hq⟩
theorem Rp.set {X : GF} {U : State} {M : Mm} {H H1 : Heap} (h : Rp X U M H) {a : Nat} {c : MC} (h5 : 5 ≤ a) (hl : a < M.1) (z : H1.size = H.size) (hn : c = opq ∨ va_at X.1 vwCl (adr X a, upC X c) H1) (oq : ∀ q : Nat, q ≠ adr X a → H1[q]? = H[q]?) : Rp X U (setC M a c) H1 := by
  obtain ⟨⟨h1, h2⟩, h3, h4, hK, hST⟩ := h
  refine ⟨⟨h1, by rw [z]; exact h2⟩, fun i hi hil => ?_, fun i hi => ?_, hK, ?_⟩
  · show (if i = a then c else M.2.2 i) = opq ∨ va_at X.1 vwCl (adr X i, upC X (if i = a then c else M.2.2 i)) H1
    by_cases e : i = a
    · rw [if_pos e, e]
      exact hn
    · rw [if_neg e]
      refine (h3 i hi hil).imp id fun h3 => h3.kept (oq _ fun q => e ?_)
      rw [adr_hi X hi, adr_hi X h5] at q
      omega
  · show (if i = a then c else M.2.2 i) = junk
    rw [if_neg (by have : M.1 ≤ i := hi; omega)]
    exact h4 i hi
  · refine hST.kept (fun q hq hA => oq q fun e => hA ?_) (fun i hi => ?_)
    · show X.2.2.2 ≤ q
      rw [e, adr_hi X h5]
      omega
    · show (if i = a then c else M.2.2 i) = M.2.2 i
      rw [if_neg (by omega)]
theorem va_S.put5 {X : GF} {H0 H H1 : Heap} {locs : List Loc} {a k : Nat} (h : va_S (AA X) H0 H locs) (h5 : 5 ≤ a) (z : H1.size = H.size) (oq : ∀ q : Nat, q ≠ adr X a → H1[q]? = H[q]?) : va_S (AA X) H0 H1 (locs ++ [⟨adr X a, k⟩]) :=
  h.put z oq (by show X.2.2.2 ≤ _; rw [adr_hi X h5]; omega)
theorem Rp.new {X : GF} {U : State} {M : Mm} {H H1 : Heap} (h : Rp X U M H) {c : MC} (k : Nat) (z : H1.size = H.size + 1) (hn : c = opq ∨ va_at X.1 vwCl (H.size, upC X c) H1) (oq : ∀ q : Nat, q < H.size → H1[q]? = H[q]?) : Rp X U (newC M k c) H1 := by
  obtain ⟨⟨h1, h2⟩, h3, h4, hK, hST⟩ := h
  refine ⟨⟨by show 5 ≤ M.1 + 1; omega, by show H1.size = X.2.2.2 + (M.1 + 1 - 5); omega⟩, fun i hi hil => ?_, fun i hi => ?_, hK, ?_⟩
  · show (if i = M.1 then c else M.2.2 i) = opq ∨ va_at X.1 vwCl (adr X i, upC X (if i = M.1 then c else M.2.2 i)) H1
    by_cases e : i = M.1
    · rw [if_pos e, e, adr_hi X h1, ← h2]
      exact hn
    · rw [if_neg e]
      have hil' : i < M.1 + 1 := hil
      exact (h3 i hi (by omega)).imp id fun hi' => hi'.kept (oq _ hi'.lt)
  · have hi' : M.1 + 1 ≤ i := hi
    show (if i = M.1 then c else M.2.2 i) = junk
    rw [if_neg (by omega)]
    exact h4 i (by omega)
  · refine hST.kept (fun q hq _ => oq q hq) (fun i hi => ?_)
    show (if i = M.1 then c else M.2.2 i) = M.2.2 i
    rw [if_neg (by omega)]
theorem va_S.new5 {X : GF} {H0 H H1 : Heap} {locs : List Loc} (h : va_S (AA X) H0 H locs) (z : H1.size = H.size + 1) (oq : ∀ q : Nat, q < H.size → H1[q]? = H[q]?) : va_S (AA X) H0 H1 locs :=
  ⟨Nat.le_trans h.1 (by omega), fun x h1 h2 => (oq x (Nat.lt_of_lt_of_le h1 h.1)).trans (h.2.1 x h1 h2), h.2.2⟩
theorem NWL_cases {w : Cond} (h : w ∈ NWL) : (∃ a i x b, w = .methodLinkNest a i x b) ∨ (∃ C T, w = .castable C T) ∨ (∃ C, w = .arrayOver (.object C)) ∨ ∃ x, w = .declares x := by
  have h1 := (List.mem_filter.mp h).2
  unfold isNW at h1
  split at h1
  · exact Or.inl ⟨_, _, _, _, rfl⟩
  · exact Or.inr (Or.inl ⟨_, _, rfl⟩)
  · exact Or.inr (Or.inr (Or.inl ⟨_, rfl⟩))
  · exact Or.inr (Or.inr (Or.inr ⟨_, rfl⟩))
  · cases h1
theorem NWL_warm {s U : State} (hW : s.WarmedH U.vm) (h : ∀ w ∈ NWL, va_Nw w s) : ∀ w ∈ NWL, va_Nw w U := by
  intro w hw
  have h1 := h w hw
  rcases NWL_cases hw with ⟨a, i, x, b, rfl⟩ | ⟨C, T, rfl⟩ | ⟨C, rfl⟩ | ⟨x, rfl⟩
  · exact va_Nw.warmM hW h1
  · exact va_Nw.warmC hW h1
  · exact va_AO.moved hW.alike h1
  · exact va_Nw.warmD hW h1
theorem NWL_same {s U : State} (hv : s.vm = U.vm) (h : ∀ w ∈ NWL, va_Nw w s) : ∀ w ∈ NWL, va_Nw w U := by
  intro w hw
  have h1 := h w hw
  rcases NWL_cases hw with ⟨a, i, x, b, rfl⟩ | ⟨C, T, rfl⟩ | ⟨C, rfl⟩ | ⟨x, rfl⟩
  · exact va_Nw.same rfl hv h1
  · exact va_Nw.same rfl hv h1
  · exact va_AO.moved (by rw [← hv]; exact Vm.Alike.refl _) h1
  · exact va_Nw.same rfl hv h1
theorem Rp.move {X : GF} {s U : State} {M : Mm} {H : Heap} (h : Rp X s M H) (hvm : s.vm.Alike U.vm) (hw : ∀ w ∈ NWL, va_Nw w U) : Rp X U M H := by
  obtain ⟨h1, h2, h3, hK, q1, q2, ⟨q3, q4⟩, -⟩ := h
  refine ⟨h1, h2, h3, va_K.moved hvm hK, fun i hi => ?_, fun q hq => (q2 q hq).moved hvm, ⟨q3.moved hvm, q4.moved hvm⟩, hw⟩
  obtain ⟨n, f, a1, a2, a3⟩ := q1 i hi
  exact ⟨n, f, a1, a2, a3.moved hvm⟩
theorem Rp.W {X : GF} {U : State} {M : Mm} {H : Heap} (h : Rp X U M H) : ∀ w ∈ NWL, va_Nw w U := h.2.2.2.2.2.2.2
theorem Rp.warm {X : GF} {s U : State} {M : Mm} {H : Heap} (h : Rp X s M H) (hW : s.WarmedH U.vm) : Rp X U M H := h.move hW.alike (NWL_warm hW h.W)
section PTrows
variable {G : GT} {I : MI} {pc : Nat} {L : Lv} {st : List Value} {M : Mm}
theorem pt_iconst (C : CX G I) {n : Int} {v : Int32} (hd : decode I.1 pc = .ok (.iconst n, 1)) (hv : Int32.ofInt n = v) (k : PT G (pc + 1) L (.int v :: st) M) : PT G pc L st M :=
  fun ls H locs hl hR hS => lv_iconst C.1 C.2.1 hd hv (k ls H locs hl hR hS)
theorem pt_bipush (C : CX G I) {n : Int} {v : Int32} (hd : decode I.1 pc = .ok (.bipush n, 2)) (hv : (Int8.ofInt n).toInt32 = v) (k : PT G (pc + 2) L (.int v :: st) M) : PT G pc L st M :=
  fun ls H locs hl hR hS => lv_bipush C.1 C.2.1 hd hv (k ls H locs hl hR hS)
theorem pt_sipush (C : CX G I) {n : Int} {v : Int32} (hd : decode I.1 pc = .ok (.sipush n, 3)) (hv : (Int16.ofInt n).toInt32 = v) (k : PT G (pc + 3) L (.int v :: st) M) : PT G pc L st M :=
  fun ls H locs hl hR hS => lv_sipush C.1 C.2.1 hd hv (k ls H locs hl hR hS)
theorem pt_ldc (C : CX G I) {i : Nat} {v : Int32} (hd : decode I.1 pc = .ok (.ldc i, 2)) (hw : Cond.constant I.2.1 i v ∈ TG) (k : PT G (pc + 2) L (.int v :: st) M) : PT G pc L st M :=
  fun ls H locs hl hR hS => lv_ldc C.1 C.2.1 C.2.2.1 (C.2.2.2.2.1 _ hw) hd (k ls H locs hl hR hS)
theorem pt_ldc2 (C : CX G I) {i : Nat} {v : Int64} (hd : decode I.1 pc = .ok (.ldc2_w i, 3)) (hw : Cond.constantLong I.2.1 i v ∈ TG) (k : PT G (pc + 3) L (.long v :: st) M) : PT G pc L st M :=
  fun ls H locs hl hR hS => lv_ldc2 C.1 C.2.1 C.2.2.1 (C.2.2.2.2.1 _ hw) hd (k ls H locs hl hR hS)
theorem pt_null (C : CX G I) (hd : decode I.1 pc = .ok (.aconst_null, 1)) (k : PT G (pc + 1) L (.null :: st) M) : PT G pc L st M :=
  fun ls H locs hl hR hS => lv_null C.1 C.2.1 hd (k ls H locs hl hR hS)
theorem pt_iload_n (C : CX G I) {q : Fin 4} {i : Nat} {x : Int32} (hd : decode I.1 pc = .ok (.iload_n q, 1)) (hi : (q : Nat) = i) (hx : L[i]? = some (some (.int x))) (k : PT G (pc + 1) L (.int x :: st) M) : PT G pc L st M :=
  fun ls H locs hl hR hS => lv_iload_n C.1 C.2.1 hd hi (hl.2.2 i _ hx) (k ls H locs hl hR hS)
theorem pt_iload (C : CX G I) {i : Nat} {x : Int32} (hd : decode I.1 pc = .ok (.iload i, 2)) (hx : L[i]? = some (some (.int x))) (k : PT G (pc + 2) L (.int x :: st) M) : PT G pc L st M :=
  fun ls H locs hl hR hS => lv_iload C.1 C.2.1 hd (hl.2.2 i _ hx) (k ls H locs hl hR hS)
theorem pt_lload (C : CX G I) {i : Nat} {x : Int64} (hd : decode I.1 pc = .ok (.lload i, 2)) (hx : L[i]? = some (some (.long x))) (k : PT G (pc + 2) L (.long x :: st) M) : PT G pc L st M :=
  fun ls H locs hl hR hS => lv_lload C.1 C.2.1 hd (hl.2.2 i _ hx) (k ls H locs hl hR hS)
theorem pt_aload_n (C : CX G I) {q : Fin 4} {i : Nat} {r : Option Nat} (hd : decode I.1 pc = .ok (.aload_n q, 1)) (hi : (q : Nat) = i) (hx : L[i]? = some (some (va_rf r))) (k : PT G (pc + 1) L (va_rf r :: st) M) : PT G pc L st M := by
  intro ls H locs hl hR hS
  cases r with
  | none => exact lv_aload_nN C.1 C.2.1 hd hi (hl.2.2 i _ hx) (k ls H locs hl hR hS)
  | some a => exact lv_aload_n C.1 C.2.1 hd hi (hl.2.2 i _ hx) (k ls H locs hl hR hS)
theorem pt_aload (C : CX G I) {i : Nat} {r : Option Nat} (hd : decode I.1 pc = .ok (.aload i, 2)) (hx : L[i]? = some (some (va_rf r))) (k : PT G (pc + 2) L (va_rf r :: st) M) : PT G pc L st M := by
  intro ls H locs hl hR hS
  cases r with
  | none => exact lv_aloadN C.1 C.2.1 hd (hl.2.2 i _ hx) (k ls H locs hl hR hS)
  | some a => exact lv_aload C.1 C.2.1 hd (hl.2.2 i _ hx) (k ls H locs hl hR hS)
theorem pt_istore_n (C : CX G I) {q : Fin 4} {i : Nat} {x : Int32} (hd : decode I.1 pc = .ok (.istore_n q, 1)) (hi : (q : Nat) = i) (hn : i < I.2.2.1) (k : PT G (pc + 1) (stL i (.int x) L) st M) : PT G pc L (.int x :: st) M :=
  fun _ H locs hl hR hS => lv_istore_n C.1 C.2.1 hd hi hl.has (by rw [C.2.2.2.1]; exact hn) rfl (fun ls' h' => k ls' H locs (LOC.store rfl h') hR hS)
theorem pt_istore (C : CX G I) {i : Nat} {x : Int32} (hd : decode I.1 pc = .ok (.istore i, 2)) (hn : i < I.2.2.1) (k : PT G (pc + 2) (stL i (.int x) L) st M) : PT G pc L (.int x :: st) M :=
  fun _ H locs hl hR hS => lv_istore C.1 C.2.1 hd hl.has (by rw [C.2.2.2.1]; exact hn) rfl (fun ls' h' => k ls' H locs (LOC.store rfl h') hR hS)
theorem pt_lstore (C : CX G I) {i : Nat} {x : Int64} (hd : decode I.1 pc = .ok (.lstore i, 2)) (hn : i + 1 < I.2.2.1) (k : PT G (pc + 2) (stJ i (.long x) L) st M) : PT G pc L (.long x :: st) M :=
  fun _ H locs hl hR hS => lv_lstore C.1 C.2.1 hd hl.has (by rw [C.2.2.2.1]; exact hn) rfl (fun ls' h' => k ls' H locs (LOC.storeJ rfl h') hR hS)
theorem pt_astore_n (C : CX G I) {q : Fin 4} {i : Nat} {r : Option Nat} (hd : decode I.1 pc = .ok (.astore_n q, 1)) (hi : (q : Nat) = i) (hn : i < I.2.2.1) (k : PT G (pc + 1) (stL i (va_rf r) L) st M) : PT G pc L (va_rf r :: st) M := by
  intro ls H locs hl hR hS
  cases r with
  | none => exact lv_astore_nN C.1 C.2.1 hd hi hl.has (by rw [C.2.2.2.1]; exact hn) rfl (fun ls' h' => k ls' H locs (LOC.store rfl h') hR hS)
  | some a => exact lv_astore_n C.1 C.2.1 hd hi hl.has (by rw [C.2.2.2.1]; exact hn) rfl (fun ls' h' => k ls' H locs (LOC.store rfl h') hR hS)
theorem pt_astore (C : CX G I) {i : Nat} {r : Option Nat} (hd : decode I.1 pc = .ok (.astore i, 2)) (hn : i < I.2.2.1) (k : PT G (pc + 2) (stL i (va_rf r) L) st M) : PT G pc L (va_rf r :: st) M := by
  intro ls H locs hl hR hS
  cases r with
  | none => exact lv_astoreN C.1 C.2.1 hd hl.has (by rw [C.2.2.2.1]; exact hn) rfl (fun ls' h' => k ls' H locs (LOC.store rfl h') hR hS)
  | some a => exact lv_astore C.1 C.2.1 hd hl.has (by rw [C.2.2.2.1]; exact hn) rfl (fun ls' h' => k ls' H locs (LOC.store rfl h') hR hS)
theorem pt_iinc (C : CX G I) {i : Nat} {n : Int} {x v : Int32} (hd : decode I.1 pc = .ok (.iinc i n, 3)) (hx : L[i]? = some (some (.int x))) (hv : x + Int32.ofInt n = v) (hn : i < I.2.2.1) (k : PT G (pc + 3) (stL i (.int v) L) st M) : PT G pc L st M := by
  intro ls H locs hl hR hS
  obtain ⟨j, hj⟩ := List.getElem?_of_mem (mem_lvl (X := gX G) hx)
  exact lv_iinc C.1 C.2.1 hd hl.has hj hv (by rw [C.2.2.2.1]; exact hn) rfl (fun ls' h' => k ls' H locs (LOC.store rfl h') hR hS)
theorem pt_iadd (C : CX G I) {x y : Int32} (hd : decode I.1 pc = .ok (.iadd, 1)) (k : PT G (pc + 1) L (.int (x + y) :: st) M) : PT G pc L (.int y :: .int x :: st) M :=
  fun ls H locs hl hR hS => lv_iadd C.1 C.2.1 hd (k ls H locs hl hR hS)
theorem pt_isub (C : CX G I) {x y : Int32} (hd : decode I.1 pc = .ok (.isub, 1)) (k : PT G (pc + 1) L (.int (x - y) :: st) M) : PT G pc L (.int y :: .int x :: st) M :=
  fun ls H locs hl hR hS => lv_isub C.1 C.2.1 hd (k ls H locs hl hR hS)
theorem pt_imul (C : CX G I) {x y : Int32} (hd : decode I.1 pc = .ok (.imul, 1)) (k : PT G (pc + 1) L (.int (x * y) :: st) M) : PT G pc L (.int y :: .int x :: st) M :=
  fun ls H locs hl hR hS => lv_imul C.1 C.2.1 hd (k ls H locs hl hR hS)
theorem pt_iand (C : CX G I) {x y : Int32} (hd : decode I.1 pc = .ok (.iand, 1)) (k : PT G (pc + 1) L (.int (x &&& y) :: st) M) : PT G pc L (.int y :: .int x :: st) M :=
  fun ls H locs hl hR hS => lv_iand C.1 C.2.1 hd (k ls H locs hl hR hS)
theorem pt_idiv (C : CX G I) {x y : Int32} (hd : decode I.1 pc = .ok (.idiv, 1)) (h : ¬ y = 0) (k : PT G (pc + 1) L (.int (x / y) :: st) M) : PT G pc L (.int y :: .int x :: st) M :=
  fun ls H locs hl hR hS => lv_idiv C.1 C.2.1 hd h (k ls H locs hl hR hS)
theorem pt_irem (C : CX G I) {x y : Int32} (hd : decode I.1 pc = .ok (.irem, 1)) (h : ¬ y = 0) (k : PT G (pc + 1) L (.int (x - x / y * y) :: st) M) : PT G pc L (.int y :: .int x :: st) M :=
  fun ls H locs hl hR hS => lv_irem C.1 C.2.1 hd h (k ls H locs hl hR hS)
theorem pt_ineg (C : CX G I) {x : Int32} (hd : decode I.1 pc = .ok (.ineg, 1)) (k : PT G (pc + 1) L (.int (-x) :: st) M) : PT G pc L (.int x :: st) M :=
  fun ls H locs hl hR hS => lv_ineg C.1 C.2.1 hd (k ls H locs hl hR hS)
theorem pt_i2l (C : CX G I) {x : Int32} (hd : decode I.1 pc = .ok (.i2l, 1)) (k : PT G (pc + 1) L (.long x.toInt64 :: st) M) : PT G pc L (.int x :: st) M :=
  fun ls H locs hl hR hS => lv_i2l C.1 C.2.1 hd rfl (k ls H locs hl hR hS)
theorem pt_ladd (C : CX G I) {x y : Int64} (hd : decode I.1 pc = .ok (.ladd, 1)) (k : PT G (pc + 1) L (.long (x + y) :: st) M) : PT G pc L (.long y :: .long x :: st) M :=
  fun ls H locs hl hR hS => lv_ladd C.1 C.2.1 hd (k ls H locs hl hR hS)
theorem pt_lmul (C : CX G I) {x y : Int64} (hd : decode I.1 pc = .ok (.lmul, 1)) (k : PT G (pc + 1) L (.long (x * y) :: st) M) : PT G pc L (.long y :: .long x :: st) M :=
  fun ls H locs hl hR hS => lv_lmul C.1 C.2.1 hd (k ls H locs hl hR hS)
theorem pt_dup (C : CX G I) {v : Value} (hd : decode I.1 pc = .ok (.dup, 1)) (hv : v.category = 1) (k : PT G (pc + 1) L (v :: v :: st) M) : PT G pc L (v :: st) M :=
  fun ls H locs hl hR hS => lv_dup C.1 C.2.1 hd (by rw [up_cat]; exact hv) (k ls H locs hl hR hS)
theorem pt_pop (C : CX G I) {v : Value} (hd : decode I.1 pc = .ok (.pop, 1)) (hv : v.category = 1) (k : PT G (pc + 1) L st M) : PT G pc L (v :: st) M :=
  fun ls H locs hl hR hS => lv_pop C.1 C.2.1 hd (by rw [up_cat]; exact hv) (k ls H locs hl hR hS)
theorem pt_goto (C : CX G I) {off : Int} {tgt : Nat} (hd : decode I.1 pc = .ok (.goto off, 3)) (ht : (pc : Int) + off = (tgt : Int)) (k : PT G tgt L st M) : PT G pc L st M :=
  fun ls H locs hl hR hS => lv_goto C.1 C.2.1 hd ht (k ls H locs hl hR hS)
theorem pt_if_eq (C : CX G I) {x : Int32} {off : Int} {tgt : Nat} (hd : decode I.1 pc = .ok (.ifCond .eq off, 3)) (ht : (pc : Int) + off = (tgt : Int)) (kt : x = 0 → PT G tgt L st M) (kf : ¬ x = 0 → PT G (pc + 3) L st M) : PT G pc L (.int x :: st) M :=
  fun ls H locs hl hR hS => lv_if_eq C.1 C.2.1 hd ht (fun h => kt h ls H locs hl hR hS) (fun h => kf h ls H locs hl hR hS)
theorem pt_if_ne (C : CX G I) {x : Int32} {off : Int} {tgt : Nat} (hd : decode I.1 pc = .ok (.ifCond .ne off, 3)) (ht : (pc : Int) + off = (tgt : Int)) (kt : ¬ x = 0 → PT G tgt L st M) (kf : x = 0 → PT G (pc + 3) L st M) : PT G pc L (.int x :: st) M :=
  fun ls H locs hl hR hS => lv_if_ne C.1 C.2.1 hd ht (fun h => kt h ls H locs hl hR hS) (fun h => kf h ls H locs hl hR hS)
theorem pt_if_lt (C : CX G I) {x : Int32} {off : Int} {tgt : Nat} (hd : decode I.1 pc = .ok (.ifCond .lt off, 3)) (ht : (pc : Int) + off = (tgt : Int)) (kt : x < 0 → PT G tgt L st M) (kf : ¬ x < 0 → PT G (pc + 3) L st M) : PT G pc L (.int x :: st) M :=
  fun ls H locs hl hR hS => lv_if_lt C.1 C.2.1 hd ht (fun h => kt h ls H locs hl hR hS) (fun h => kf h ls H locs hl hR hS)
theorem pt_if_ge (C : CX G I) {x : Int32} {off : Int} {tgt : Nat} (hd : decode I.1 pc = .ok (.ifCond .ge off, 3)) (ht : (pc : Int) + off = (tgt : Int)) (kt : 0 ≤ x → PT G tgt L st M) (kf : ¬ 0 ≤ x → PT G (pc + 3) L st M) : PT G pc L (.int x :: st) M :=
  fun ls H locs hl hR hS => lv_if_ge C.1 C.2.1 hd ht (fun h => kt h ls H locs hl hR hS) (fun h => kf h ls H locs hl hR hS)
theorem pt_if_gt (C : CX G I) {x : Int32} {off : Int} {tgt : Nat} (hd : decode I.1 pc = .ok (.ifCond .gt off, 3)) (ht : (pc : Int) + off = (tgt : Int)) (kt : 0 < x → PT G tgt L st M) (kf : ¬ 0 < x → PT G (pc + 3) L st M) : PT G pc L (.int x :: st) M :=
  fun ls H locs hl hR hS => lv_if_gt C.1 C.2.1 hd ht (fun h => kt h ls H locs hl hR hS) (fun h => kf h ls H locs hl hR hS)
theorem pt_if_le (C : CX G I) {x : Int32} {off : Int} {tgt : Nat} (hd : decode I.1 pc = .ok (.ifCond .le off, 3)) (ht : (pc : Int) + off = (tgt : Int)) (kt : x ≤ 0 → PT G tgt L st M) (kf : ¬ x ≤ 0 → PT G (pc + 3) L st M) : PT G pc L (.int x :: st) M :=
  fun ls H locs hl hR hS => lv_if_le C.1 C.2.1 hd ht (fun h => kt h ls H locs hl hR hS) (fun h => kf h ls H locs hl hR hS)
theorem pt_icmp_eq (C : CX G I) {x y : Int32} {off : Int} {tgt : Nat} (hd : decode I.1 pc = .ok (.if_icmp .eq off, 3)) (ht : (pc : Int) + off = (tgt : Int)) (kt : x = y → PT G tgt L st M) (kf : ¬ x = y → PT G (pc + 3) L st M) : PT G pc L (.int y :: .int x :: st) M :=
  fun ls H locs hl hR hS => lv_icmp_eq C.1 C.2.1 hd ht (fun h => kt h ls H locs hl hR hS) (fun h => kf h ls H locs hl hR hS)
theorem pt_icmp_ne (C : CX G I) {x y : Int32} {off : Int} {tgt : Nat} (hd : decode I.1 pc = .ok (.if_icmp .ne off, 3)) (ht : (pc : Int) + off = (tgt : Int)) (kt : ¬ x = y → PT G tgt L st M) (kf : x = y → PT G (pc + 3) L st M) : PT G pc L (.int y :: .int x :: st) M :=
  fun ls H locs hl hR hS => lv_icmp_ne C.1 C.2.1 hd ht (fun h => kt h ls H locs hl hR hS) (fun h => kf h ls H locs hl hR hS)
theorem pt_icmp_lt (C : CX G I) {x y : Int32} {off : Int} {tgt : Nat} (hd : decode I.1 pc = .ok (.if_icmp .lt off, 3)) (ht : (pc : Int) + off = (tgt : Int)) (kt : x < y → PT G tgt L st M) (kf : ¬ x < y → PT G (pc + 3) L st M) : PT G pc L (.int y :: .int x :: st) M :=
  fun ls H locs hl hR hS => lv_icmp_lt C.1 C.2.1 hd ht (fun h => kt h ls H locs hl hR hS) (fun h => kf h ls H locs hl hR hS)
theorem pt_icmp_ge (C : CX G I) {x y : Int32} {off : Int} {tgt : Nat} (hd : decode I.1 pc = .ok (.if_icmp .ge off, 3)) (ht : (pc : Int) + off = (tgt : Int)) (kt : y ≤ x → PT G tgt L st M) (kf : ¬ y ≤ x → PT G (pc + 3) L st M) : PT G pc L (.int y :: .int x :: st) M :=
  fun ls H locs hl hR hS => lv_icmp_ge C.1 C.2.1 hd ht (fun h => kt h ls H locs hl hR hS) (fun h => kf h ls H locs hl hR hS)
theorem pt_icmp_gt (C : CX G I) {x y : Int32} {off : Int} {tgt : Nat} (hd : decode I.1 pc = .ok (.if_icmp .gt off, 3)) (ht : (pc : Int) + off = (tgt : Int)) (kt : y < x → PT G tgt L st M) (kf : ¬ y < x → PT G (pc + 3) L st M) : PT G pc L (.int y :: .int x :: st) M :=
  fun ls H locs hl hR hS => lv_icmp_gt C.1 C.2.1 hd ht (fun h => kt h ls H locs hl hR hS) (fun h => kf h ls H locs hl hR hS)
theorem pt_icmp_le (C : CX G I) {x y : Int32} {off : Int} {tgt : Nat} (hd : decode I.1 pc = .ok (.if_icmp .le off, 3)) (ht : (pc : Int) + off = (tgt : Int)) (kt : x ≤ y → PT G tgt L st M) (kf : ¬ x ≤ y → PT G (pc + 3) L st M) : PT G pc L (.int y :: .int x :: st) M :=
  fun ls H locs hl hR hS => lv_icmp_le C.1 C.2.1 hd ht (fun h => kt h ls H locs hl hR hS) (fun h => kf h ls H locs hl hR hS)
theorem pt_ifnull (C : CX G I) {r : Option Nat} {off : Int} {tgt : Nat} (hd : decode I.1 pc = .ok (.ifnull off, 3)) (ht : (pc : Int) + off = (tgt : Int)) (kt : r = none → PT G tgt L st M) (kf : ¬ r = none → PT G (pc + 3) L st M) : PT G pc L (va_rf r :: st) M := by
  intro ls H locs hl hR hS
  cases r with
  | none => exact lv_ifnullN C.1 C.2.1 hd ht (kt rfl ls H locs hl hR hS)
  | some a => exact lv_ifnull C.1 C.2.1 hd (kf (fun h => by cases h) ls H locs hl hR hS)
theorem pt_ifnonnull (C : CX G I) {r : Option Nat} {off : Int} {tgt : Nat} (hd : decode I.1 pc = .ok (.ifnonnull off, 3)) (ht : (pc : Int) + off = (tgt : Int)) (kt : ¬ r = none → PT G tgt L st M) (kf : r = none → PT G (pc + 3) L st M) : PT G pc L (va_rf r :: st) M := by
  intro ls H locs hl hR hS
  cases r with
  | none => exact lv_ifnonnullN C.1 C.2.1 hd (kf rfl ls H locs hl hR hS)
  | some a => exact lv_ifnonnull C.1 C.2.1 hd ht (kt (fun h => by cases h) ls H locs hl hR hS)
theorem pt_tableIn (C : CX G I) {dflt lo hi : Int} {offs : Array Int} {len : Nat} {x : Int32} {off : Int} {tgt : Nat} (hd : decode I.1 pc = .ok (.tableswitch dflt lo hi offs, len)) (h1 : ¬ x.toInt < lo) (h2 : ¬ hi < x.toInt) (ho : offs[(x.toInt - lo).toNat]? = some off) (ht : (pc : Int) + off = (tgt : Int)) (k : PT G tgt L st M) : PT G pc L (.int x :: st) M :=
  fun ls H locs hl hR hS => lv_tableIn C.1 C.2.1 hd h1 h2 ho ht (k ls H locs hl hR hS)
theorem pt_tableOut (C : CX G I) {dflt lo hi : Int} {offs : Array Int} {len : Nat} {x : Int32} {tgt : Nat} (hd : decode I.1 pc = .ok (.tableswitch dflt lo hi offs, len)) (h : x.toInt < lo ∨ hi < x.toInt) (ht : (pc : Int) + dflt = (tgt : Int)) (k : PT G tgt L st M) : PT G pc L (.int x :: st) M :=
  fun ls H locs hl hR hS => lv_tableOut C.1 C.2.1 hd h ht (k ls H locs hl hR hS)
theorem up_rf (X : GF) (r : Option Nat) : up X (va_rf r) = va_rf (r.map (adr X)) := by cases r <;> rfl
theorem pt_get (C : CX G I) {a ci k index N : Nat} {fs : List Value} {v : Value} {Cn : String} {T : u_T} (hM : M.2.2 a = .inr (ci, fs)) (hv : fs[k]? = some v) (hc : vwCl[ci]? = some (Cn, T, N)) (hk : k < N) (hin : ∀ w ∈ u_ws Cn T N, w ∈ TG) (hw : Cond.fieldLink I.2.1 index (T k).1 (T k).2.1 (T k).2.2.1 ∈ TG)
    (hd : decode I.1 pc = .ok (.getfield index, 3)) (kk : PT G (pc + 3) L (v :: st) M) : PT G pc L (.ref a :: st) M := by
  intro ls H locs hl hR hS
  obtain ⟨h5, hlt⟩ := hR.ltO hM hc
  exact va_get (D := (gX G).1) (ci := ci) (v := up (gX G) v) (C := Cn) (T := T) (N := N) C.1 C.2.1 C.2.2.2.2.1 hin C.2.2.1 hR.K (hR.P hM (tel_o hc) h5 hlt) 0 (fs := fs.map (up (gX G))) rfl hc k hk (C.2.2.2.2.1 _ hw) (fun _ h => h) (by rw [List.getElem?_map, hv]; rfl) hd (kk ls H locs hl hR hS)
end PTrows
end
section
/-! ROWS of the small machine that read and write the heap -/
section PTheap
variable {G : GT} {I : MI} {pc : Nat} {L : Lv} {st : List Value} {M : Mm}
theorem ve_i (X : GF) (cA : ClassId) (n : Nat) (f : Nat → Int32) : vp_cell cA (upA X (n, .inl f)) = arrV cA n (fun j => .int (f j)) := rfl
theorem ve_q (X : GF) (cA : ClassId) (n : Nat) (f : Nat → Option Nat) : vp_cell cA (upA X (n, .inr (.inr (.inr (.inr f))))) = arrV cA n (fun j => va_rf ((f j).map (adr X))) := rfl
theorem upC_o (X : GF) (ci : Nat) (fs : List Value) : upC X (.inr (ci, fs)) = .inr (ci, fs.map (up X)) := rfl
theorem put_at {X : GF} {a ci k N : Nat} {fs : List Value} {v : Value} {Cn : String} {T : u_T} {cell : Cell} {H1 : Heap} (hc : vwCl[ci]? = some (Cn, T, N)) (hk : k < N) (hl : k < fs.length)
    (hap : ∀ x y, x < N → y < N → x ≠ y → (X.1.2 ci) x ≠ (X.1.2 ci) y) (q2 : cell.cls = X.1.1 ci) (q3 : cell.vm = .none) (q4 : ∀ j, j < N → cell.slots[(X.1.2 ci) j]? = some (vp_V (fs.map (up X)) j)) (e1 : H1[adr X a]? = some (cell.setSlot ((X.1.2 ci) k) (up X v))) : va_at X.1 vwCl (adr X a, upC X (.inr (ci, fs.set k v))) H1 := by
  refine ⟨_, hc, t_OB.to (V := updV (vp_V (fs.map (up X))) k (up X v)) ⟨_, e1, q2, q3, t_set q4 hap hk _⟩ (fun j _ => ?_)⟩
  rw [vp_updV_set (by rw [List.length_map]; exact hl), List.map_set]
theorem pt_put (C : CX G I) {a ci k index N : Nat} {fs : List Value} {v : Value} {Cn : String} {T : u_T} {ty : FieldType} (hM : M.2.2 a = .inr (ci, fs)) (hl : k < fs.length) (hc : vwCl[ci]? = some (Cn, T, N)) (hk : k < N) (hin : ∀ w ∈ u_ws Cn T N, w ∈ TG)
    (ty0 : Nat → FieldType) (hty : ∀ k, k < N → parseFieldDescriptor (T k).2.2.1 = some (ty0 k)) (hnm : ∀ a, a < N → ∀ b, b < N → a ≠ b → (T a).2.1 ≠ (T b).2.1) (hw : Cond.fieldLink I.2.1 index (T k).1 (T k).2.1 (T k).2.2.1 ∈ TG) (hfin : (T k).2.2.2 = false)
    (hty1 : parseFieldDescriptor (T k).2.2.1 = some ty) (hn : ∀ X : GF, narrow ty (up X v) = up X v ∧ fits ty (up X v) = true)
    (hd : decode I.1 pc = .ok (.putfield index, 3)) (kk : PT G (pc + 3) L st (setC M a (.inr (ci, fs.set k v)))) : PT G pc L (v :: .ref a :: st) M := by
  intro ls H locs hl0 hR hS
  obtain ⟨h5, hlt⟩ := hR.ltO hM hc
  have hap := va_apart (own := I.2.1) C.2.2.2.2.1 hin ty0 hty hnm hR.K hc
  obtain ⟨r, h1, cell, q1, q2, q3, q4⟩ := hR.at hM (tel_o hc) h5 hlt
  have hr : r = (Cn, T, N) := Option.some.inj (h1.symm.trans hc)
  subst hr
  obtain ⟨hSl, hfc, kC, hkC, hkind⟩ := hR.K.1 ci _ hc
  obtain ⟨cf, kf, fi, f, hi, hsl⟩ := hSl k hk
  have hlay := C.2.2.2.2.1 _ (hin _ (u_in_lay hk))
  unfold u_lay at hlay
  rw [if_neg (by rw [hfin]; decide)] at hlay
  have hst := (u_facts hfc hkC (u_lays C.2.2.2.2.1 hin hk) hi).1
  have h6 := u_store hfc hkC hkind hlay hi hty1 (hn (gX G)).1 (hn (gX G)).2
  refine W.putK C.1 C.2.1 (f := f) ⟨C.2.2.1, C.2.2.2.2.1 _ hw, ⟨_, _, _, hi⟩, hst⟩ (by rw [q2]; exact h6) q1 q3 (by rw [hsl]; exact k2_hasslot (q4 k hk)) rfl rfl hd fun H' e1 e2 e3 => ?_
  rw [hsl] at e1 ⊢
  exact kk ls H' _ hl0 (hR.set h5 hlt e2 (Or.inr (put_at hc hk hl hap q2 q3 q4 e1)) e3) (hS.put5 h5 e2 e3)
theorem pt_putF (C : CX G I) {a ci k index N : Nat} {fs : List Value} {v : Value} {Cn : String} {T : u_T} {ty : FieldType} (hM : M.2.2 a = .inr (ci, fs)) (hl : k < fs.length) (hc : vwCl[ci]? = some (Cn, T, N)) (hk : k < N) (hin : ∀ w ∈ u_ws Cn T N, w ∈ TG)
    (ty0 : Nat → FieldType) (hty : ∀ k, k < N → parseFieldDescriptor (T k).2.2.1 = some (ty0 k)) (hnm : ∀ a, a < N → ∀ b, b < N → a ≠ b → (T a).2.1 ≠ (T b).2.1) (hw : Cond.fieldLink I.2.1 index (T k).1 (T k).2.1 (T k).2.2.1 ∈ TG) (hfin : (T k).2.2.2 = true) (hin2 : I.2.2.2.2.2.1 = "<init>") (hdecl : (T k).1 = I.2.1)
    (hty1 : parseFieldDescriptor (T k).2.2.1 = some ty) (hn : ∀ X : GF, narrow ty (up X v) = up X v ∧ fits ty (up X v) = true)
    (hd : decode I.1 pc = .ok (.putfield index, 3)) (kk : PT G (pc + 3) L st (setC M a (.inr (ci, fs.set k v)))) : PT G pc L (v :: .ref a :: st) M := by
  intro ls H locs hl0 hR hS
  obtain ⟨h5, hlt⟩ := hR.ltO hM hc
  have hap := va_apart (own := I.2.1) C.2.2.2.2.1 hin ty0 hty hnm hR.K hc
  obtain ⟨r, h1, cell, q1, q2, q3, q4⟩ := hR.at hM (tel_o hc) h5 hlt
  have hr : r = (Cn, T, N) := Option.some.inj (h1.symm.trans hc)
  subst hr
  obtain ⟨hSl, hfc, kC, hkC, hkind⟩ := hR.K.1 ci _ hc
  obtain ⟨cf, kf, fi, f, hi, hsl⟩ := hSl k hk
  have hlay := C.2.2.2.2.1 _ (hin _ (u_in_lay hk))
  unfold u_lay at hlay
  rw [if_pos hfin] at hlay
  have hst := (u_facts hfc hkC (u_lays C.2.2.2.2.1 hin hk) hi).1
  have hcf : (gm G).cls = cf := by
    obtain ⟨_, _, c', _, _, _, -, -, hf', -, -, -, hown2, -⟩ := Cond.laysFinal_spec hlay
    have e1 : c' = cf := by have := hi.symm.trans hf'; simp at this; exact this.1.symm
    rw [hdecl] at hown2
    rw [← e1]; exact Option.some.inj (C.2.2.1.symm.trans hown2)
  have h6 := u_fits hfc hkC hkind (Or.inr hlay) hi hty1 (hn (gX G)).1 (hn (gX G)).2
  refine W.putFinK C.1 C.2.1 C.2.2.1 (C.2.2.2.2.1 _ hw) hi hst hcf (C.2.2.2.2.2.2.2.1.trans hin2) (by rw [q2]; exact h6) q1 q3 (by rw [hsl]; exact k2_hasslot (q4 k hk)) rfl rfl hd fun H' e1 e2 e3 => ?_
  rw [hsl] at e1 ⊢
  exact kk ls H' _ hl0 (hR.set h5 hlt e2 (Or.inr (put_at hc hk hl hap q2 q3 q4 e1)) e3) (hS.put5 h5 e2 e3)
theorem pt_gets (C : CX G I) {i index : Nat} {Cn nm : String} (hq : (Cn, nm, i) ∈ STN) (hw : Cond.fieldLink I.2.1 index Cn nm "[I" ∈ TG) (hd : decode I.1 pc = .ok (.getstatic index, 3)) (kk : PT G (pc + 3) L (.ref i :: st) M) : PT G pc L st M := by
  intro ls H locs hl hR hS
  obtain ⟨cf, kf, fi, f, a, cell, h1, h2, h3, h4, h5, h6, h7, h8⟩ := hR.2.2.2.2.2.1 _ hq
  exact W.gets C.1 C.2.1 C.2.2.1 (C.2.2.2.2.1 _ hw) h1 h2 h3 h4 h5 (fun e => by rw [e] at h6; cases h6) h7 rfl hd (kk ls H locs hl hR hS)
theorem pt_iald (C : CX G I) {a n : Nat} {f : Nat → Int32} {i : Int32} (hM : M.2.2 a = .inl (0, n, .inl f)) (hin : vp_in i n) (hd : decode I.1 pc = .ok (.iaload, 1)) (kk : PT G (pc + 1) L (.int (f i.toNatClampNeg) :: st) M) : PT G pc L (.int i :: .ref a :: st) M := by
  intro ls H locs hl hR hS
  rcases Nat.lt_or_ge a 5 with q | q
  · obtain ⟨n', f', e1, e2, cell, c1, c2, c3, c4, c5, c6, c7⟩ := hR.2.2.2.2.1 a q
    rw [hM] at e1
    cases e1
    have hlt : i.toNatClampNeg < n := Nat.not_le.mp fun z => hin (Or.inr z)
    exact W.iald C.1 C.2.1 c1 c2 c3 (fun z => z.elim (fun z => hin (Or.inl z)) (fun z => by omega)) (c6 _ hlt) rfl rfl hd (kk ls H locs hl hR hS)
  · exact va_iald C.1 C.2.1 hR.K (hR.P hM rfl q (hR.ltA hM)) 0 0 rfl (TYS_at (gX G) (t := 0) (by decide)) hin hd (kk ls H locs hl hR hS)
theorem pt_zald (C : CX G I) {a n : Nat} {f : Nat → Int32} {i : Int32} (hM : M.2.2 a = .inl (1, n, .inl f)) (hin : vp_in i n) (hd : decode I.1 pc = .ok (.baload, 1)) (kk : PT G (pc + 1) L (.int (f i.toNatClampNeg) :: st) M) : PT G pc L (.int i :: .ref a :: st) M := by
  intro ls H locs hl hR hS
  rcases Nat.lt_or_ge a 5 with q | q
  · obtain ⟨n', f', e1, -⟩ := hR.2.2.2.2.1 a q
    rw [hM] at e1
    cases e1
  · exact va_zald C.1 C.2.1 hR.K (hR.P hM rfl q (hR.ltA hM)) 0 1 rfl (TYS_at (gX G) (t := 1) (by decide)) hin hd (kk ls H locs hl hR hS)
theorem pt_lald (C : CX G I) {a n : Nat} {f : Nat → Int64} {i : Int32} (hM : M.2.2 a = .inl (2, n, .inr (.inl f))) (hin : vp_in i n) (hd : decode I.1 pc = .ok (.laload, 1)) (kk : PT G (pc + 1) L (.long (f i.toNatClampNeg) :: st) M) : PT G pc L (.int i :: .ref a :: st) M := by
  intro ls H locs hl hR hS
  rcases Nat.lt_or_ge a 5 with q | q
  · obtain ⟨n', f', e1, -⟩ := hR.2.2.2.2.1 a q
    rw [hM] at e1
    cases e1
  · exact va_lald C.1 C.2.1 hR.K (hR.P hM rfl q (hR.ltA hM)) 0 2 rfl (TYS_at (gX G) (t := 2) (by decide)) hin hd (kk ls H locs hl hR hS)
theorem pt_aald (C : CX G I) {a n t : Nat} {f : Nat → Option Nat} {i : Int32} (hM : M.2.2 a = .inl (t, n, .inr (.inr (.inr (.inr f))))) (ht : 3 ≤ t ∧ t ≤ 5) (hin : vp_in i n) (hd : decode I.1 pc = .ok (.aaload, 1)) (kk : PT G (pc + 1) L (va_rf (f i.toNatClampNeg) :: st) M) : PT G pc L (.int i :: .ref a :: st) M := by
  intro ls H locs hl hR hS
  rcases Nat.lt_or_ge a 5 with q | q
  · obtain ⟨n', f', e1, -⟩ := hR.2.2.2.2.1 a q
    rw [hM] at e1
    cases e1
  · have k1 := kk ls H locs hl hR hS
    rw [List.map_cons, up_rf] at k1
    obtain ⟨Cn, hCn⟩ : ∃ Cn, atT t = .object Cn := by
      rcases (show t = 3 ∨ t = 4 ∨ t = 5 by omega) with rfl | rfl | rfl <;> exact ⟨_, rfl⟩
    have ht1 := TYS_at (gX G) (t := t) ht.2
    rw [hCn] at ht1
    exact va_aldq C.1 C.2.1 hR.K (hR.P hM rfl q (hR.ltA hM)) 0 t rfl ht1 hin hd k1
theorem pt_alen (C : CX G I) {a n t : Nat} {x : vp_A} {v : Int32} (hM : M.2.2 a = .inl (t, x)) (ht : t ≤ 5) (hx : x.1 = n) (hv : Int32.ofNat n = v) (hd : decode I.1 pc = .ok (.arraylength, 1)) (kk : PT G (pc + 1) L (.int v :: st) M) : PT G pc L (.ref a :: st) M := by
  intro ls H locs hl hR hS
  rcases Nat.lt_or_ge a 5 with q | q
  · obtain ⟨n', f', e1, e2, cell, c1, c2, c3, c4, c5, c6, c7⟩ := hR.2.2.2.2.1 a q
    rw [hM] at e1
    cases e1
    exact W.alen C.1 C.2.1 c1 c2 (by rw [c5, ← hv, ← hx]) rfl rfl hd (kk ls H locs hl hR hS)
  · refine va_alen C.1 C.2.1 hR.K (hR.P hM rfl q (hR.ltA hM)) 0 t (x := upA (gX G) x) rfl (TYS_at (gX G) ht) (v := v) ?_ hd (kk ls H locs hl hR hS)
    show Int32.ofNat x.1 = v
    rw [hx]
    exact hv
theorem pt_iast (C : CX G I) {a n : Nat} {f : Nat → Int32} {i x : Int32} (hM : M.2.2 a = .inl (0, n, .inl f)) (h5 : 5 ≤ a) (hin : vp_in i n) (hd : decode I.1 pc = .ok (.iastore, 1)) (kk : PT G (pc + 1) L st (setC M a (.inl (0, n, .inl (upd f i.toNatClampNeg x))))) : PT G pc L (.int x :: .int i :: .ref a :: st) M := by
  intro ls H locs hl hR hS
  have hlt := hR.ltA hM
  have hat := hR.at hM rfl h5 hlt
  refine W.iast C.1 C.2.1 hat ((hR.K.2 0 _ (TYS_at (gX G) (t := 0) (by decide))).1 n (fun j => .int (f j))) (fun q => by cases q) (by show ¬ (i < 0 ∨ (arrV _ _ _).slots.size ≤ _); rw [arrV_size]; exact hin) rfl rfl hd fun H1 e z oq => ?_
  refine kk ls H1 _ hl (hR.set h5 hlt z (Or.inr ?_) oq) (hS.put5 h5 z oq)
  show H1[adr (gX G) a]? = some (vp_cell _ (upA (gX G) _))
  rw [e]
  show some ((vp_cell _ (upA (gX G) _)).setSlot _ _) = some (vp_cell _ (upA (gX G) _))
  rw [ve_i, ve_i, arrV_store]
  congr 2
  funext q
  by_cases hq : q = i.toNatClampNeg
  · subst hq
    simp [updV, upd]
  · simp [updV, upd, hq]
theorem pt_zast (C : CX G I) {a n : Nat} {f : Nat → Int32} {i x : Int32} (hM : M.2.2 a = .inl (1, n, .inl f)) (h5 : 5 ≤ a) (hin : vp_in i n) (hx : x = 0 ∨ x = 1) (hd : decode I.1 pc = .ok (.bastore, 1)) (kk : PT G (pc + 1) L st (setC M a (.inl (1, n, .inl (upd f i.toNatClampNeg x))))) : PT G pc L (.int x :: .int i :: .ref a :: st) M := by
  intro ls H locs hl hR hS
  have hlt := hR.ltA hM
  have hat := hR.at hM rfl h5 hlt
  refine W.zast C.1 C.2.1 hat ((hR.K.2 1 _ (TYS_at (gX G) (t := 1) (by decide))).1 n (fun j => .int (f j))) (fun q => by cases q) (by show ¬ (i < 0 ∨ (arrV _ _ _).slots.size ≤ _); rw [arrV_size]; exact hin) rfl rfl hd fun H1 e z oq => ?_
  refine kk ls H1 _ hl (hR.set h5 hlt z (Or.inr ?_) oq) (hS.put5 h5 z oq)
  have hnb : narrow .boolean (.int x) = .int x := by rcases hx with rfl | rfl <;> rfl
  rw [hnb] at e
  show H1[adr (gX G) a]? = some (vp_cell _ (upA (gX G) _))
  rw [e]
  show some ((vp_cell _ (upA (gX G) _)).setSlot _ _) = some (vp_cell _ (upA (gX G) _))
  rw [ve_i, ve_i, arrV_store]
  congr 2
  funext q
  by_cases hq : q = i.toNatClampNeg
  · subst hq
    simp [updV, upd]
  · simp [updV, upd, hq]
/-- the class whose references an array type of a tag holds: its number in vwCl -/
def atC (t : Nat) : Nat := match t with
  | 3 => 9
  | 4 => 4
  | _ => 7
theorem atC_ok {t : Nat} (h : 3 ≤ t ∧ t ≤ 5) : ∃ r : vw_C, vwCl[atC t]? = some r ∧ atT t = .object r.1 := by
  rcases (show t = 3 ∨ t = 4 ∨ t = 5 by omega) with rfl | rfl | rfl <;> exact ⟨_, rfl, rfl⟩
theorem pt_aast (C : CX G I) {a n t : Nat} {f : Nat → Option Nat} {i : Int32} {r : Option Nat} (hM : M.2.2 a = .inl (t, n, .inr (.inr (.inr (.inr f))))) (ht : 3 ≤ t ∧ t ≤ 5) (h5 : 5 ≤ a) (hin : vp_in i n) (hr : ∀ b, r = some b → ∃ fs, M.2.2 b = .inr (atC t, fs)) (hd : decode I.1 pc = .ok (.aastore, 1)) (kk : PT G (pc + 1) L st (setC M a (.inl (t, n, .inr (.inr (.inr (.inr (va_up f i.toNatClampNeg r)))))))) : PT G pc L (va_rf r :: .int i :: .ref a :: st) M := by
  intro ls H locs hl hR hS
  have hlt := hR.ltA hM
  have hat := hR.at hM rfl h5 hlt
  have hin' := hin
  obtain ⟨rc, hrc, hrt⟩ := atC_ok ht
  have ht1 := hR.K.2 t _ (TYS_at (gX G) ht.2)
  rw [hrt] at ht1
  have fin : ∀ H1 : Heap, H1[adr (gX G) a]? = some ((vp_cell ((gX G).2.1 t) (upA (gX G) (n, .inr (.inr (.inr (.inr f)))))).setSlot i.toNatClampNeg (up (gX G) (va_rf r))) → va_at (gX G).1 vwCl (adr (gX G) a, upC (gX G) (.inl (t, n, .inr (.inr (.inr (.inr (va_up f i.toNatClampNeg r))))))) H1 := by
    intro H1 e
    show H1[adr (gX G) a]? = some (vp_cell _ (upA (gX G) _))
    rw [e, ve_q, ve_q, arrV_store]
    congr 2
    funext q
    by_cases hq : q = i.toNatClampNeg
    · subst hq
      simp [updV, va_up, up_rf]
    · simp [updV, va_up, hq]
  cases r with
  | none =>
    refine va_WaastN (C := rc.1) C.1 C.2.1 hat (ht1.1 n (fun j => va_rf ((f j).map (adr (gX G))))) (fun h => by cases h) (by show ¬ (i < 0 ∨ (arrV _ _ _).slots.size ≤ _); rw [arrV_size]; exact hin) rfl rfl hd fun H1 e z oq => ?_
    exact kk ls H1 _ hl (hR.set h5 hlt z (Or.inr (fin H1 e)) oq) (hS.put5 h5 z oq)
  | some b =>
    obtain ⟨fs, hb⟩ := hr b rfl
    obtain ⟨hb5, hbl⟩ := hR.ltO hb hrc
    obtain ⟨r', hr', cellV, g1, g2, g3, -⟩ := hR.at hb (tel_o hrc) hb5 hbl
    have hcls := (hR.K.1 (atC t) rc hrc).2
    obtain ⟨kA, comp, k1, k2, k3, -⟩ := ht1.2
    have hcomp : comp = (gX G).1.1 (atC t) := Option.some.inj (k3.symm.trans hcls.1)
    subst hcomp
    obtain ⟨kC, hkC, -⟩ := hcls.2
    have hlt2 : i.toNatClampNeg < n := Nat.not_le.mp fun q => hin (Or.inr q)
    have h0 : ¬ i < 0 := fun q => hin (Or.inl q)
    refine W.aast C.1 C.2.1 hat (fun q h => by cases h) (fun h => by cases h) k1 k2 rfl hkC ⟨h0, by show _ < (arrV _ _ _).slots.size; rw [arrV_size]; exact hlt2⟩ g1 (fun q h => by rw [g3] at h; cases h) (by rw [g2]; exact hkC) (by rw [g2]; exact va_assign hcls) rfl rfl hd fun H1 e z oq => ?_
    exact kk ls H1 _ hl (hR.set h5 hlt z (Or.inr (fin H1 e)) oq) (hS.put5 h5 z oq)
theorem pt_acmp (C : CX G I) {r q : Option Nat} {off : Int} {tgt : Nat} (hi : ∀ X : GF, ∀ a b, r = some a → q = some b → adr X a = adr X b → a = b) (hd : decode I.1 pc = .ok (.if_acmp .ne off, 3)) (ht : (pc : Int) + off = (tgt : Int)) (kt : ¬ r = q → PT G tgt L st M) (kf : r = q → PT G (pc + 3) L st M) : PT G pc L (va_rf q :: va_rf r :: st) M := by
  intro ls H locs hl hR hS
  rw [List.map_cons, List.map_cons, up_rf, up_rf]
  refine lv_acmp_ne C.1 C.2.1 hd ht (fun h => kt (fun e => h (by rw [e])) ls H locs hl hR hS) (fun h => kf ?_ ls H locs hl hR hS)
  cases r with
  | none =>
    cases q with
    | none => rfl
    | some b => cases h
  | some a =>
    cases q with
    | none => cases h
    | some b => rw [hi (gX G) a b rfl rfl (Option.some.inj h)]
theorem adr_inj (X : GF) {a b : Nat} (ha : 5 ≤ a) (hb : 5 ≤ b) (h : adr X a = adr X b) : a = b := by
  rw [adr_hi X ha, adr_hi X hb] at h
  omega
end PTheap
end
section
/-! ROWS of the small machine that make cells, call and return -/
section PTnew
variable {G : GT} {I : MI} {pc : Nat} {L : Lv} {st : List Value} {M : Mm}
theorem pt_new (C : CX G I) {ci index N : Nat} {fs : List Value} {Cn : String} {T : u_T} (hc : vwCl[ci]? = some (Cn, T, N)) (hin : ∀ w ∈ u_ws Cn T N, w ∈ TG) (ty0 : Nat → FieldType) (hty : ∀ k, k < N → parseFieldDescriptor (T k).2.2.1 = some (ty0 k))
    (hfs : ∀ j, j < N → defaultValue (ty0 j) = vp_V fs j) (hup : ∀ X : GF, fs.map (up X) = fs) (w1 : Cond.classLink I.2.1 index Cn ∈ TG) (w2 : Cond.instantiable Cn N ∈ TG) (w3 : Cond.initialized Cn ∈ TG) (hlow : gn G ≤ M.1 ∧ gz G ≤ M.2.1) (hroom : M.1 + 1 ≤ gn G + (gR G).cells ∧ M.2.1 + N ≤ gz G + (gR G).slots)
    (hd : decode I.1 pc = .ok (.new index, 3)) (kk : PT G (pc + 3) L (.ref M.1 :: st) (newC M N (.inr (ci, fs)))) : PT G pc L st M := by
  intro ls H locs hl hR hS
  have hKn := hR.K.1 ci _ hc
  refine W.newcK C.1 C.2.1 C.2.2.1 (C.2.2.2.2.1 _ w1) (C.2.2.2.2.1 _ w2) (C.2.2.2.2.1 _ w3) rfl hd (by omega) (by omega) hKn.2.1 rfl fun H1 kC hkC e1 z1 o1 => ?_
  have hb : va_at (gX G).1 vwCl (H.size, upC (gX G) (.inr (ci, fs))) H1 := by
    rw [upC_o, hup]
    exact ⟨_, hc, (u_born ty0 C.2.2.2.2.1 hin hKn hkC e1 hty).to hfs⟩
  have k1 := kk ls H1 locs hl (hR.new N z1 (Or.inr hb) o1) (hS.new5 z1 o1)
  have e2 : H.size = adr (gX G) M.1 := by rw [adr_hi _ hR.1.1]; exact hR.1.2
  rw [e2]
  refine W.cs (cells' := (newC M N (.inr (ci, fs))).1 - gn G) (slots' := (newC M N (.inr (ci, fs))).2.1 - gz G) ?_ ?_ k1
  · show M.1 - gn G + 1 = M.1 + 1 - gn G
    omega
  · show M.2.1 - gz G + N = M.2.1 + N - gz G
    omega
theorem pt_newa (C : CX G I) {t : Nat} {atype : ArrayType} {n : Int32} {N : Nat} {x : vp_A} (ht : t ≤ 2) (hat : newarray.typeOf atype = atT t) (w1 : Cond.arrayClass (atT t) ∈ TG) (hn : ¬ n < 0) (hN : n.toNatClampNeg = N) (hbig : N ≤ 100000)
    (hx : ∀ (X : GF) (cA : ClassId), vp_cell cA (upA X x) = arrV cA N (fun _ => defaultValue (atT t))) (hlow : gn G ≤ M.1 ∧ gz G ≤ M.2.1) (hroom : M.1 + 1 ≤ gn G + (gR G).cells ∧ M.2.1 + N ≤ gz G + (gR G).slots)
    (hd : decode I.1 pc = .ok (.newarray atype, 2)) (kk : PT G (pc + 2) L (.ref M.1 :: st) (newC M N (.inl (t, x)))) : PT G pc L (.int n :: st) M := by
  intro ls H locs hl hR hS
  have hby : N * componentBytes (newarray.typeOf atype) ≤ 536870912 := by
    rw [hat]
    have : componentBytes (atT t) ≤ 8 := by rcases (show t = 0 ∨ t = 1 ∨ t = 2 by omega) with rfl | rfl | rfl <;> decide
    calc N * componentBytes (atT t) ≤ 100000 * 8 := Nat.mul_le_mul hbig this
      _ ≤ 536870912 := by decide
  refine va_newaK C.1 C.2.1 (by rw [hat]; exact C.2.2.2.2.1 _ w1) rfl hd rfl hn hN hby (by omega) (by omega) rfl fun H1 cA e1 z1 o1 hAr hNm => ?_
  rw [hat] at e1 hNm
  have hk := (hR.K.2 t _ (TYS_at (gX G) (show t ≤ 5 by omega))).2
  have hcA : cA = (gX G).2.1 t := by
    rcases (show t = 0 ∨ t = 1 ∨ t = 2 by omega) with rfl | rfl | rfl <;> exact Option.some.inj (hNm.symm.trans hk)
  have hb : va_at (gX G).1 vwCl (H.size, upC (gX G) (.inl (t, x))) H1 := by
    show H1[H.size]? = some (vp_cell ((gX G).2.1 t) (upA (gX G) x))
    rw [hx, e1, hcA]
  have k1 := kk ls H1 locs hl (hR.new N z1 (Or.inr hb) o1) (hS.new5 z1 o1)
  have e2 : H.size = adr (gX G) M.1 := by rw [adr_hi _ hR.1.1]; exact hR.1.2
  rw [e2]
  refine W.cs (cells' := (newC M N (.inl (t, x))).1 - gn G) (slots' := (newC M N (.inl (t, x))).2.1 - gz G) ?_ ?_ k1
  · show M.1 - gn G + 1 = M.1 + 1 - gn G
    omega
  · show M.2.1 - gz G + N = M.2.1 + N - gz G
    omega
theorem pt_anew (C : CX G I) {t index : Nat} {Cn : String} {n : Int32} {N : Nat} (ht : 3 ≤ t ∧ t ≤ 5) (hat : atT t = .object Cn) (w1 : Cond.classLink I.2.1 index Cn ∈ TG) (w2 : Cond.arrayOver (.object Cn) ∈ NWL) (hn : ¬ n < 0) (hN : n.toNatClampNeg = N) (hbig : N ≤ 100000)
    (hlow : gn G ≤ M.1 ∧ gz G ≤ M.2.1) (hroom : M.1 + 1 ≤ gn G + (gR G).cells ∧ M.2.1 + N ≤ gz G + (gR G).slots)
    (hd : decode I.1 pc = .ok (.anewarray index, 3)) (kk : PT G (pc + 3) L (.ref M.1 :: st) (newC M N (.inl (t, N, .inr (.inr (.inr (.inr (fun _ => none)))))))) : PT G pc L (.int n :: st) M := by
  intro ls H locs hl hR hS
  subst hN
  refine W.anew C.1 C.2.1 C.2.2.1 (C.2.2.2.2.1 _ w1) (va_AO.use (A := ga G) (hR.W _ w2)) rfl hd rfl hn (by omega) (by omega) (by omega) fun cA kA comp f1 f2 f3 f4 => ?_
  generalize hH1 : H.push ({ cls := cA, slots := Array.replicate n.toNatClampNeg .null, vm := .none } : Cell) = H1
  have z1 : H1.size = H.size + 1 := by rw [← hH1, Array.size_push]
  have e1 : H1[H.size]? = some (arrV cA n.toNatClampNeg (fun _ => .null)) := by rw [← hH1, Array.getElem?_push_size, ← arrV_new]
  have o1 : ∀ q : Nat, q < H.size → H1[q]? = H[q]? := fun q hq => by rw [← hH1, Array.getElem?_push, if_neg (Nat.ne_of_lt hq)]
  have hk := hR.K.2 t _ (TYS_at (gX G) ht.2)
  rw [hat] at hk
  obtain ⟨kA', comp', k1, k2, k3, k4⟩ := hk.2
  have hcA : cA = (gX G).2.1 t := Option.some.inj (f1.symm.trans k4)
  have hb : va_at (gX G).1 vwCl (H.size, upC (gX G) (.inl (t, n.toNatClampNeg, .inr (.inr (.inr (.inr (fun _ => none))))))) H1 := by
    show H1[H.size]? = some (vp_cell ((gX G).2.1 t) (upA (gX G) _))
    rw [ve_q, e1, hcA]
    rfl
  have k1 := kk ls H1 locs hl (hR.new _ z1 (Or.inr hb) o1) (hS.new5 z1 o1)
  have e2 : H.size = adr (gX G) M.1 := by rw [adr_hi _ hR.1.1]; exact hR.1.2
  rw [e2]
  refine W.cs (cells' := (newC M n.toNatClampNeg (.inl (t, n.toNatClampNeg, .inr (.inr (.inr (.inr (fun _ => none))))))).1 - gn G) (slots' := (newC M n.toNatClampNeg (.inl (t, n.toNatClampNeg, .inr (.inr (.inr (.inr (fun _ => none))))))).2.1 - gz G) ?_ ?_ k1
  · show M.1 - gn G + 1 = M.1 + 1 - gn G
    omega
  · show M.2.1 - gz G + n.toNatClampNeg = M.2.1 + n.toNatClampNeg - gz G
    omega
theorem NWL_in {w : Cond} (i : Nat) (h : lw_tbl[i]? = some w) (g : isNW w = true) : w ∈ NWL := List.mem_filter.mpr ⟨List.mem_of_getElem? h, g⟩
/-- clone of an int array -/
theorem pt_clone (C : CX G I) {a n index : Nat} {f : Nat → Int32} (hM : M.2.2 a = .inl (0, n, .inl f)) (h5 : 5 ≤ a) (w1 : Cond.methodLink I.2.1 index ⟨"[I", "clone", "()Ljava/lang/Object;"⟩ ∈ TG) (w2 : Cond.sameMethod "[I" "java/lang/Object" "clone" "()Ljava/lang/Object;" ∈ TG)
    (w3 : Cond.native ⟨"java/lang/Object", "clone", "()Ljava/lang/Object;"⟩ ∈ TG) (w4 : Cond.instanceMethod ⟨"java/lang/Object", "clone", "()Ljava/lang/Object;"⟩ ∈ TG) (w5 : Cond.selects "[I" ⟨"[I", "clone", "()Ljava/lang/Object;"⟩ ⟨"java/lang/Object", "clone", "()Ljava/lang/Object;"⟩ ∈ TG) (w6 : Cond.castable "[I" "java/lang/Cloneable" ∈ NWL)
    (hfr : 1 ≤ I.2.2.2.1) (hlo : csum st + 14 ≤ I.2.2.2.2.1) (hlow : gn G ≤ M.1 ∧ gz G ≤ M.2.1) (hroom : M.1 + 1 ≤ gn G + (gR G).cells ∧ M.2.1 + n ≤ gz G + (gR G).slots)
    (hd : decode I.1 pc = .ok (.invokevirtual index, 3)) (kk : PT G (pc + 3) L (.ref M.1 :: st) (newC M n (.inl (0, n, .inl f)))) : PT G pc L (.ref a :: st) M := by
  intro ls H locs hl hR hS
  have hlt := hR.ltA hM
  have hP := hR.P hM rfl h5 hlt
  have hk0 := hR.K.2 0 _ (TYS_at (gX G) (t := 0) (by decide))
  have hnm : (gs G).vm.findClass "[I" = some ((gX G).2.1 0) := hk0.2
  obtain ⟨c0, t0', f1, f2, f3⟩ := Cond.castable_spec (va_Nw.use (A := ga G) rfl (hR.W _ w6))
  cases hnm.symm.trans f1
  intro T hT X
  have hcellT : T.heap[adr (gX G) a]? = some (vp_cell ((gX G).2.1 0) (n, .inl f)) := by rw [hT]; exact hP 0 _ rfl
  have hsz : (vp_cell ((gX G).2.1 0) (n, .inl f)).slots.size = n := arrV_size _ _ _
  obtain ⟨-, kA, hkA, comp, hkind⟩ := State.isArrayOf_alike X.warmed.alike (hk0.1 0 (fun _ => .null))
  obtain ⟨-, kS, hkS, compS, hkindS⟩ := hk0.1 0 (fun _ => .null)
  obtain ⟨vm', X', st'⟩ := X.cloneArray C.1 C.2.2.1 (C.2.2.2.2.1 _ w1) (C.2.2.2.2.1 _ w2) (C.2.2.2.2.1 _ w3) (C.2.2.2.2.1 _ w4) (C.2.2.2.2.1 _ w5) (a := adr (gX G) a) (cell := vp_cell ((gX G).2.1 0) (n, .inl f)) hcellT (fun k h => by cases h) (fun h => by cases h) hnm f2 f3
    (fun i v hv => by
      have hk' : T.vm.classes[(gX G).2.1 0]? = some kA := hkA
      have hcl0 : (vp_cell ((gX G).2.1 0) (n, .inl f)).cls = (gX G).2.1 0 := rfl
      rw [hcl0]
      have hlt2 := (Array.getElem?_eq_some_iff.mp hv).1
      rw [hsz] at hlt2
      have : (vp_cell ((gX G).2.1 0) (n, .inl f)).slots[i]? = some (.int (f i)) := arrV_read _ _ hlt2
      rw [this] at hv
      cases hv
      simp [State.fitsSlot, State.slotType?, hk', hkind, atT, fits])
    (g := F0 (gm G) pc ls (.ref (adr (gX G) a) :: st.map (up (gX G)))) rfl hl.1 rfl (by rw [C.2.1]; exact hd) (by rw [C.2.2.2.2.2.1]; exact hfr) (by show 2 * 0 + ((st.map (up (gX G))).map fun v => v.category).sum + 14 ≤ _; rw [csum_up, C.2.2.2.2.2.2.1]; omega) (by omega) (by rw [hsz]; omega) (hloader := Vm.clonesLoader_of_array hkS hkindS)
  rw [hsz] at X'
  generalize hH1 : H.push (vp_cell ((gX G).2.1 0) (n, .inl f)) = H1
  have z1 : H1.size = H.size + 1 := by rw [← hH1, Array.size_push]
  have e1 : H1[H.size]? = some (vp_cell ((gX G).2.1 0) (n, .inl f)) := by rw [← hH1, Array.getElem?_push_size]
  have o1 : ∀ q : Nat, q < H.size → H1[q]? = H[q]? := fun q hq => by rw [← hH1, Array.getElem?_push, if_neg (Nat.ne_of_lt hq)]
  have hb : va_at (gX G).1 vwCl (H.size, upC (gX G) (.inl (0, n, .inl f))) H1 := e1
  have k1 := kk ls H1 locs hl (hR.new n z1 (Or.inr hb) o1) (hS.new5 z1 o1)
  have e2 : adr (gX G) M.1 = H.size := by rw [adr_hi _ hR.1.1]; exact hR.1.2.symm
  have k2 : W (gp G) (gl G) (ge G) (gR G) (gs G) (gm G) (ga G) (gb G) (gh G) (gc G) H1 locs (M.1 - gn G + 1) (M.2.1 - gz G + n) (gQ G) (F0 (gm G) (pc + 3) ls (.ref H.size :: st.map (up (gX G)))) := by
    refine W.cs (cells' := (newC M n (.inl (0, n, .inl f))).1 - gn G) (slots' := (newC M n (.inl (0, n, .inl f))).2.1 - gz G) ?_ ?_ ?_
    · show M.1 - gn G + 1 = M.1 + 1 - gn G
      omega
    · show M.2.1 - gz G + n = M.2.1 + n - gz G
      omega
    · rw [← e2]
      exact k1
  obtain ⟨t, b1, b2⟩ := k2 ((T.setVm vm').pushCell (vp_cell ((gX G).2.1 0) (n, .inl f))) (by rw [← hH1, ← hT]; rfl) X'
  refine ⟨t, st' t ?_, b2⟩
  rw [hT]
  exact b1
theorem pt_castA (C : CX G I) {a n index : Nat} {f : Nat → Int32} (hM : M.2.2 a = .inl (0, n, .inl f)) (h5 : 5 ≤ a) (w1 : Cond.classLink I.2.1 index "[I" ∈ TG) (hd : decode I.1 pc = .ok (.checkcast index, 3)) (kk : PT G (pc + 3) L (.ref a :: st) M) : PT G pc L (.ref a :: st) M := by
  intro ls H locs hl hR hS
  have hk0 := (hR.K.2 0 _ (TYS_at (gX G) (t := 0) (by decide))).2
  exact va_castA C.1 C.2.1 C.2.2.1 (C.2.2.2.2.1 _ w1) (hR.P hM rfl h5 (hR.ltA hM)) 0 rfl hk0 hd (kk ls H locs hl hR hS)
theorem pt_objInit (C : CX G I) {a index : Nat} (w1 : Cond.methodLink I.2.1 index Lib.objectInit ∈ TG) (w2 : Cond.instanceMethod Lib.objectInit ∈ TG) (w3 : Cond.code Lib.objectInit ⟨#[0xb1]⟩ 1 none ∈ TG) (hfr : 1 ≤ I.2.2.2.1) (hlo : csum st + 12 ≤ I.2.2.2.2.1)
    (hd : decode I.1 pc = .ok (.invokespecial index, 3)) (kk : PT G (pc + 3) L st M) : PT G pc L (.ref a :: st) M := by
  intro ls H locs hl hR hS
  exact W.objInit C.1 C.2.1 C.2.2.1 (C.2.2.2.2.1 _ w1) (C.2.2.2.2.1 _ w2) (C.2.2.2.2.1 _ w3) rfl hl.1 rfl hd (by rw [C.2.2.2.2.2.1]; exact hfr) (by show 2 * 0 + ((st.map (up (gX G))).map fun v => v.category).sum + 12 ≤ _; rw [csum_up, C.2.2.2.2.2.2.1]; omega) (kk ls H locs hl hR hS)
theorem pt_max (C : CX G I) {index : Nat} {x y : Int32} (w1 : Cond.methodLink I.2.1 index Lib.Math.max.name ∈ TG) (w2 : Cond.static Lib.Math.max.name ∈ TG) (w3 : Cond.initialized "java/lang/Math" ∈ TG) (w4 : Cond.code Lib.Math.max.name Lib.Math.max.code 2 (some .int) ∈ TG) (hfr : 1 ≤ I.2.2.2.1) (hlo : csum st + 13 ≤ I.2.2.2.2.1) (hroom : M.1 ≤ gn G + (gR G).cells ∧ M.2.1 ≤ gz G + (gR G).slots)
    (hd : decode I.1 pc = .ok (.invokestatic index, 3)) (kk : PT G (pc + 3) L (.int (if x < y then y else x) :: st) M) : PT G pc L (.int y :: .int x :: st) M := by
  intro ls H locs hl hR hS
  exact va_mmax C.1 C.2.1 hl.1.symm C.2.2.1 (C.2.2.2.2.1 _ w1) (C.2.2.2.2.1 _ w2) (C.2.2.2.2.1 _ w3) (C.2.2.2.2.1 _ w4) (by rw [C.2.2.2.2.2.1]; exact hfr) (by rw [csum_up, C.2.2.2.2.2.2.1]; exact hlo) (by omega) (by omega) hd (kk ls H locs hl hR hS)
theorem pt_min (C : CX G I) {index : Nat} {x y : Int32} (w1 : Cond.methodLink I.2.1 index Lib.Math.min.name ∈ TG) (w2 : Cond.static Lib.Math.min.name ∈ TG) (w3 : Cond.initialized "java/lang/Math" ∈ TG) (w4 : Cond.code Lib.Math.min.name Lib.Math.min.code 2 (some .int) ∈ TG) (hfr : 1 ≤ I.2.2.2.1) (hlo : csum st + 13 ≤ I.2.2.2.2.1) (hroom : M.1 ≤ gn G + (gR G).cells ∧ M.2.1 ≤ gz G + (gR G).slots)
    (hd : decode I.1 pc = .ok (.invokestatic index, 3)) (kk : PT G (pc + 3) L (.int (if y < x then y else x) :: st) M) : PT G pc L (.int y :: .int x :: st) M := by
  intro ls H locs hl hR hS
  refine va_mmin C.1 C.2.1 hl.1.symm C.2.2.1 (C.2.2.2.2.1 _ w1) (C.2.2.2.2.1 _ w2) (C.2.2.2.2.1 _ w3) (C.2.2.2.2.1 _ w4) (by rw [C.2.2.2.2.2.1]; exact hfr) (by rw [csum_up, C.2.2.2.2.2.2.1]; exact hlo) (by omega) (by omega) hd ?_
  have k1 := kk ls H locs hl hR hS
  exact k1
end PTnew
/-! CONTRACTS: a method and its function of the small machine -/
abbrev FN : Type := List Value → Mm → Option (Option Value × Mm)
def Pcv (X : GF) (as : List Value) (M : Mm) : Array Value → State → Prop := fun a U => a = (as.map (up X)).toArray ∧ Rp X U M U.heap ∧ X.2.2.2 ≤ U.heap.size
def Qcv (X : GF) (v : Option Value) (M' : Mm) : Array Value → State → Outcome → State → Prop := fun _ st o t => o = .returned (v.map (up X)) ∧ Rp X t M' t.heap ∧ va_F (AA X) st t
def MS (l : Launch) (y : MethodName) (I : MI) (f : FN) : Prop := ∀ (X : GF) (as : List Value) (M : Mm) (v : Option Value) (M' : Mm), f as M = some (v, M') →
  (M.1 ≤ M'.1 ∧ M.2.1 ≤ M'.2.1) ∧ Met l y (.code y I.1 I.2.2.1 I.2.2.2.2.2.2 :: TG) ({ frames := I.2.2.2.1, cells := M'.1 - M.1, slots := M'.2.1 - M.2.1, locals := I.2.2.2.2.1 }) (Pcv X as M) (Qcv X v M') (M'.1 - M.1) (M'.2.1 - M.2.1) (AA X)
theorem Pcv_blind (X : GF) (as : List Value) (M : Mm) : FrameBlind (Pcv X as M) := by
  intro a U g mk h
  obtain ⟨h1, h2, h3⟩ := h
  refine ⟨h1, ?_, h3⟩
  have hvm : U.vm = (U.calling g mk a).vm := rfl
  exact h2.move (Vm.Alike.refl U.vm) (NWL_same hvm h2.W)
theorem ws_good {y : MethodName} {b : ByteArray} {n : Nat} {r : Option FieldType} (h : Cond.code y b n r ∈ TG) : GoodIn TG (.code y b n r :: TG) := by
  intro w hw
  rcases List.mem_cons.mp hw with rfl | hw
  · exact TG_good _ h
  · exact TG_good _ hw
/-- the words of a call -/
abbrev CD (y : MethodName) (n : Nat) : Prop := y.cls ≠ "java/lang/invoke/MethodHandle" ∧ y.cls ≠ "java/lang/invoke/VarHandle" ∧ (parseMethodDescriptor y.desc).map (fun d => d.parameters.length) = some n
section PTcalls
variable {G : GT} {I J : MI} {pc : Nat} {L : Lv} {st : List Value} {M M' : Mm} {v : Option Value} {y : MethodName} {f : FN} {index : Nat}
theorem run_fin {a : Array Value} {ls : Array Slot} {H : Heap} {locs : List Loc} {free : Addr → Prop} {st0 : List Value} (hle : M.1 ≤ M'.1 ∧ M.2.1 ≤ M'.2.1) (hlow : gn G ≤ M.1 ∧ gz G ≤ M.2.1)
    (hl : LOC (gX G) ls (gc G).maxLocals L) (hR : Rp (gX G) (gs G) M H) (hS : va_S (AA (gX G)) (gs G).heap H locs) (hfree : ∀ q, free q → AA (gX G) q)
    (hr : va_Run (gp G) (gl G) (ge G) (gR G) (gs G) (gm G) (ga G) (gb G) (gh G) (gc G) H locs (M.1 - gn G) (M.2.1 - gz G) (M'.1 - M.1) (M'.2.1 - M.2.1) (F0 (gm G) pc ls st0) (st.map (up (gX G))) (Qcv (gX G) v M' a) free)
    (kk : PT G (pc + 3) L (v.toList ++ st) M') : W (gp G) (gl G) (ge G) (gR G) (gs G) (gm G) (ga G) (gb G) (gh G) (gc G) H locs (M.1 - gn G) (M.2.1 - gz G) (gQ G) (F0 (gm G) pc ls st0) := by
  intro T hT X
  obtain ⟨v', st₀, t, T', Lc, h0, X', hL, e1, e2, ⟨hv, hR', hz, hk⟩, stp⟩ := hr T hT X
  cases hv
  rw [h0] at hz hk
  have hal : (gs G).vm.Alike t.vm := by rw [← e2]; exact X'.warmed.alike
  have hR1 : Rp (gX G) (gs G) M' T'.heap := by rw [e1]; exact hR'.move hal.symm hR.W
  have hS1 : va_S (AA (gX G)) (gs G).heap T'.heap (locs ++ Lc) := ⟨Nat.le_trans hS.1 (by rw [e1]; exact hz), fun q h1 h2 => by rw [e1, hk q (Nat.lt_of_lt_of_le h1 hS.1) h2]; exact hS.2.1 q h1 h2, fun q hq => by
    rcases List.mem_append.mp hq with h | h
    · exact hS.2.2 q h
    · exact hfree _ (hL q h)⟩
  have k1 := kk ls T'.heap (locs ++ Lc) hl hR1 hS1
  have e3 : (v.toList ++ st).map (up (gX G)) = (v.map (up (gX G))).toList ++ st.map (up (gX G)) := by cases v <;> simp
  rw [e3] at k1
  have k2 : W (gp G) (gl G) (ge G) (gR G) (gs G) (gm G) (ga G) (gb G) (gh G) (gc G) T'.heap (locs ++ Lc) (M.1 - gn G + (M'.1 - M.1)) (M.2.1 - gz G + (M'.2.1 - M.2.1)) (gQ G) (F0 (gm G) (pc + 3) ls ((v.map (up (gX G))).toList ++ st.map (up (gX G)))) :=
    W.cs (by omega) (by omega) k1
  obtain ⟨t2, a1, b1⟩ := k2 T' rfl X'
  exact ⟨t2, stp t2 a1, b1⟩
theorem mroom (hf : MS (gl G) y J f) {as : List Value} (hr : f as M = some (v, M')) (hlow : gn G ≤ M.1 ∧ gz G ≤ M.2.1) (hroom : M'.1 ≤ gn G + (gR G).cells ∧ M'.2.1 ≤ gz G + (gR G).slots) : M.1 - gn G + (M'.1 - M.1) ≤ (gR G).cells ∧ M.2.1 - gz G + (M'.2.1 - M.2.1) ≤ (gR G).slots := by
  obtain ⟨⟨h1, h2⟩, -⟩ := hf (gX G) as M v M' hr
  exact ⟨by omega, by omega⟩
theorem cfix (C : CX G I) : CallFix (gp G) (gm G) (gc G) I.1 I.2.2.1 (gs G) (ga G) TG I.2.1 := ⟨C.1, C.2.1, C.2.2.2.1, C.2.2.1, C.2.2.2.2.1⟩
theorem preU (C : CX G I) {H : Heap} {locs : List Loc} (hR : Rp (gX G) (gs G) M H) (hS : va_S (AA (gX G)) (gs G).heap H locs) {as : List Value} : ∀ U : State, U.heap = H → (gs G).WarmedH U.vm → Pcv (gX G) as M (as.map (up (gX G))).toArray U := by
  intro U hU hW
  refine ⟨rfl, by rw [hU]; exact hR.warm hW, ?_⟩
  rw [hU]
  exact Nat.le_trans C.2.2.2.2.2.2.2.2.2.2.1 hS.1
theorem pt_callV (C : CX G I) (hf : MS (gl G) y J f) {b ci N : Nat} {as fs : List Value} {T : u_T} (hr : f (.ref b :: as) M = some (v, M')) (hb : M.2.2 b = .inr (ci, fs)) (hc : vwCl[ci]? = some (y.cls, T, N))
    (w1 : Cond.methodLink I.2.1 index y ∈ TG) (w2 : Cond.instanceMethod y ∈ TG) (w3 : Cond.selects y.cls y y ∈ TG) (w4 : Cond.initialized y.cls ∈ TG) (w5 : Cond.code y J.1 J.2.2.1 J.2.2.2.2.2.2 ∈ TG) (hdesc : CD y as.length)
    (hfr : J.2.2.2.1 + 1 ≤ I.2.2.2.1) (hlo : 8 + (J.2.2.1 + 11) + J.2.2.2.2.1 ≤ I.2.2.2.2.1) (hst : csum st ≤ 8) (hlow : gn G ≤ M.1 ∧ gz G ≤ M.2.1) (hroom : M'.1 ≤ gn G + (gR G).cells ∧ M'.2.1 ≤ gz G + (gR G).slots)
    (hd : decode I.1 pc = .ok (.invokevirtual index, 3)) (kk : PT G (pc + 3) L (v.toList ++ st) M') : PT G pc L ((Value.ref b :: as).reverse ++ st) M := by
  intro ls H locs hl hR hS
  obtain ⟨hle, hM⟩ := hf (gX G) _ M v M' hr
  have hroom' := mroom hf hr hlow hroom
  obtain ⟨h5, hlt⟩ := hR.ltO hb hc
  have hP := hR.P hb (tel_o hc) h5 hlt
  have e0 : ((Value.ref b :: as).reverse ++ st).map (up (gX G)) = (as.map (up (gX G))).reverse ++ .ref (adr (gX G) b) :: st.map (up (gX G)) := by simp [up]
  rw [e0]
  exact run_fin hle hlow hl hR hS (fun q h => h) (va_runV (cfix C) hM (C := y.cls) (n := as.length)
    ⟨callB_of as.length C.2.2.2.2.1 (ws_good w5) rfl rfl rfl (C.2.2.2.2.1 _ w4) (C.2.2.2.2.1 _ w1) hdesc ⟨by rw [C.2.2.2.2.2.1]; exact hfr, by rw [C.2.2.2.2.2.2.1]; exact hlo⟩, C.2.2.2.2.1 _ w2, C.2.2.2.2.1 _ w3⟩
    ⟨Pcv_blind _ _ _, va_recv hR.K hP (ci := ci) (q0 := 0) hc rfl, fun U hU hW => preU C hR hS (as := .ref b :: as) U hU hW⟩ rfl (by rw [List.length_map]) (by rw [hl.1]; exact C.2.2.2.1) rfl (lv_room (by rw [csum_up]; exact hst)) hd hroom') kk
theorem pt_callS (C : CX G I) (hf : MS (gl G) y J f) {as : List Value} (hr : f as M = some (v, M'))
    (w1 : Cond.methodLink I.2.1 index y ∈ TG) (w2 : Cond.static y ∈ TG) (w4 : Cond.initialized y.cls ∈ TG) (w5 : Cond.code y J.1 J.2.2.1 J.2.2.2.2.2.2 ∈ TG) (hdesc : CD y as.length)
    (hfr : J.2.2.2.1 + 1 ≤ I.2.2.2.1) (hlo : 8 + (J.2.2.1 + 11) + J.2.2.2.2.1 ≤ I.2.2.2.2.1) (hst : csum st ≤ 8) (hlow : gn G ≤ M.1 ∧ gz G ≤ M.2.1) (hroom : M'.1 ≤ gn G + (gR G).cells ∧ M'.2.1 ≤ gz G + (gR G).slots)
    (hd : decode I.1 pc = .ok (.invokestatic index, 3)) (kk : PT G (pc + 3) L (v.toList ++ st) M') : PT G pc L (as.reverse ++ st) M := by
  intro ls H locs hl hR hS
  obtain ⟨hle, hM⟩ := hf (gX G) _ M v M' hr
  have hroom' := mroom hf hr hlow hroom
  have e0 : (as.reverse ++ st).map (up (gX G)) = (as.map (up (gX G))).reverse ++ st.map (up (gX G)) := by simp
  rw [e0]
  exact run_fin hle hlow hl hR hS (fun q h => h) (va_runS (cfix C) hM (n := as.length)
    ⟨callB_of as.length C.2.2.2.2.1 (ws_good w5) rfl rfl rfl (C.2.2.2.2.1 _ w4) (C.2.2.2.2.1 _ w1) hdesc ⟨by rw [C.2.2.2.2.2.1]; exact hfr, by rw [C.2.2.2.2.2.2.1]; exact hlo⟩, C.2.2.2.2.1 _ w2⟩
    ⟨Pcv_blind _ _ _, fun U hU hW => preU C hR hS (as := as) U hU hW⟩ rfl (by rw [List.length_map]) (by rw [hl.1]; exact C.2.2.2.1) rfl (lv_room (by rw [csum_up]; exact hst)) hd hroom') kk
theorem pt_callI (C : CX G I) (hy : y.name = "<init>") (hret : J.2.2.2.2.2.2 = none) (hf : MS (gl G) y J f) {b : Nat} {as : List Value} (hr : f (.ref b :: as) M = some (v, M'))
    (w1 : Cond.methodLink I.2.1 index y ∈ TG) (w2 : Cond.instanceMethod y ∈ TG) (w4 : Cond.initialized y.cls ∈ TG) (w5 : Cond.code y J.1 J.2.2.1 none ∈ TG) (hdesc : CD y as.length)
    (hfr : J.2.2.2.1 + 1 ≤ I.2.2.2.1) (hlo : 8 + (J.2.2.1 + 11) + J.2.2.2.2.1 ≤ I.2.2.2.2.1) (hst : csum st ≤ 8) (hlow : gn G ≤ M.1 ∧ gz G ≤ M.2.1) (hroom : M'.1 ≤ gn G + (gR G).cells ∧ M'.2.1 ≤ gz G + (gR G).slots)
    (hd : decode I.1 pc = .ok (.invokespecial index, 3)) (kk : PT G (pc + 3) L (v.toList ++ st) M') : PT G pc L ((Value.ref b :: as).reverse ++ st) M := by
  intro ls H locs hl hR hS
  obtain ⟨hle, hM⟩ := hf (gX G) _ M v M' hr
  rw [hret] at hM
  have hroom' := mroom hf hr hlow hroom
  have e0 : ((Value.ref b :: as).reverse ++ st).map (up (gX G)) = (as.map (up (gX G))).reverse ++ .ref (adr (gX G) b) :: st.map (up (gX G)) := by simp [up]
  rw [e0]
  exact run_fin hle hlow hl hR hS (fun q h => h) (va_runI (cfix C) hM (n := as.length)
    ⟨callB_of as.length C.2.2.2.2.1 (ws_good w5) rfl rfl rfl (C.2.2.2.2.1 _ w4) (C.2.2.2.2.1 _ w1) hdesc ⟨by rw [C.2.2.2.2.2.1]; exact hfr, by rw [C.2.2.2.2.2.2.1]; exact hlo⟩, hy, C.2.2.2.2.1 _ w2⟩
    ⟨Pcv_blind _ _ _, fun U hU hW => preU C hR hS (as := .ref b :: as) U hU hW⟩ rfl (by rw [List.length_map]) (by rw [hl.1]; exact C.2.2.2.1) rfl (lv_room (by rw [csum_up]; exact hst)) hd hroom') kk
theorem pt_callSN (C : CX G I) (hf : MS (gl G) y J f) {host : String} {as : List Value} (hr : f as M = some (v, M'))
    (w1 : Cond.methodLinkNest I.2.1 index y host ∈ NWL) (w2 : Cond.static y ∈ TG) (w4 : Cond.initialized y.cls ∈ TG) (w5 : Cond.code y J.1 J.2.2.1 J.2.2.2.2.2.2 ∈ TG) (hdesc : CD y as.length)
    (hfr : J.2.2.2.1 + 1 ≤ I.2.2.2.1) (hlo : 8 + (J.2.2.1 + 11) + J.2.2.2.2.1 ≤ I.2.2.2.2.1) (hst : csum st ≤ 8) (hlow : gn G ≤ M.1 ∧ gz G ≤ M.2.1) (hroom : M'.1 ≤ gn G + (gR G).cells ∧ M'.2.1 ≤ gz G + (gR G).slots)
    (hd : decode I.1 pc = .ok (.invokestatic index, 3)) (kk : PT G (pc + 3) L (v.toList ++ st) M') : PT G pc L (as.reverse ++ st) M := by
  intro ls H locs hl hR hS
  obtain ⟨hle, hM⟩ := hf (gX G) _ M v M' hr
  have hroom' := mroom hf hr hlow hroom
  have e0 : (as.reverse ++ st).map (up (gX G)) = (as.map (up (gX G))).reverse ++ st.map (up (gX G)) := by simp
  rw [e0]
  exact run_fin hle hlow hl hR hS (fun q h => h) (va_runSN (cfix C) hM (n := as.length)
    ⟨va_cnB as.length C.2.2.2.2.1 (ws_good w5) rfl rfl rfl (hR.W _ w1) (C.2.2.2.2.1 _ w4) hdesc ⟨by rw [C.2.2.2.2.2.1]; exact hfr, by rw [C.2.2.2.2.2.2.1]; exact hlo⟩, C.2.2.2.2.1 _ w2, trivial⟩
    ⟨Pcv_blind _ _ _, fun U hU hW => preU C hR hS (as := as) U hU hW⟩ rfl (by rw [List.length_map]) (by rw [hl.1]; exact C.2.2.2.1) rfl (lv_room (by rw [csum_up]; exact hst)) hd hroom') kk
theorem pt_callIN (C : CX G I) (hy : y.name = "<init>") (hret : J.2.2.2.2.2.2 = none) (hf : MS (gl G) y J f) {host : String} {b : Nat} {as : List Value} (hr : f (.ref b :: as) M = some (v, M'))
    (w1 : Cond.methodLinkNest I.2.1 index y host ∈ NWL) (w2 : Cond.instanceMethod y ∈ TG) (w4 : Cond.initialized y.cls ∈ TG) (w5 : Cond.code y J.1 J.2.2.1 none ∈ TG) (hdesc : CD y as.length)
    (hfr : J.2.2.2.1 + 1 ≤ I.2.2.2.1) (hlo : 8 + (J.2.2.1 + 11) + J.2.2.2.2.1 ≤ I.2.2.2.2.1) (hst : csum st ≤ 8) (hlow : gn G ≤ M.1 ∧ gz G ≤ M.2.1) (hroom : M'.1 ≤ gn G + (gR G).cells ∧ M'.2.1 ≤ gz G + (gR G).slots)
    (hd : decode I.1 pc = .ok (.invokespecial index, 3)) (kk : PT G (pc + 3) L (v.toList ++ st) M') : PT G pc L ((Value.ref b :: as).reverse ++ st) M := by
  intro ls H locs hl hR hS
  obtain ⟨hle, hM⟩ := hf (gX G) _ M v M' hr
  rw [hret] at hM
  have hroom' := mroom hf hr hlow hroom
  have e0 : ((Value.ref b :: as).reverse ++ st).map (up (gX G)) = (as.map (up (gX G))).reverse ++ .ref (adr (gX G) b) :: st.map (up (gX G)) := by simp [up]
  rw [e0]
  exact run_fin hle hlow hl hR hS (fun q h => h) (va_runIN (cfix C) hM (n := as.length)
    ⟨va_cnB as.length C.2.2.2.2.1 (ws_good w5) rfl rfl rfl (hR.W _ w1) (C.2.2.2.2.1 _ w4) hdesc ⟨by rw [C.2.2.2.2.2.1]; exact hfr, by rw [C.2.2.2.2.2.2.1]; exact hlo⟩, hy, C.2.2.2.2.1 _ w2⟩
    ⟨Pcv_blind _ _ _, fun U hU hW => preU C hR hS (as := .ref b :: as) U hU hW⟩ rfl (by rw [List.length_map]) (by rw [hl.1]; exact C.2.2.2.1) rfl (lv_room (by rw [csum_up]; exact hst)) hd hroom') kk
end PTcalls
end
section
theorem at0_in : ∀ w ∈ vx_at0 RX11 282 "java/lang/IndexOutOfBoundsException" ["java/lang/RuntimeException", "java/lang/Exception"], w ∈ TG ∨ w ∈ NWL := by decide +kernel
theorem at0_ot : ∀ w ∈ Cond.classLink RX11 280 "java/lang/IndexOutOfBoundsException" :: Cond.initialized "java/lang/IndexOutOfBoundsException" :: vx_at0 RX11 282 "java/lang/IndexOutOfBoundsException" ["java/lang/RuntimeException", "java/lang/Exception"], vx_ot w = true := by decide +kernel
end
